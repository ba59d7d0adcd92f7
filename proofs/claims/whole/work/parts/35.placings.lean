abbrev MT : Type := Int × Option (Int × List Nat) × Option (Int × Int × List Nat)
def LVM (σ : SG) (o : Option (Int × List Nat)) (g : vx_M) : Prop := (o = none ∧ g 40 19 = -1) ∨ (∃ x, o = some x ∧ g 40 19 = x.1 ∧ 0 ≤ x.1 ∧ x.1 ≤ 200 ∧ ∀ i : Nat, i < sL σ → g 54 i = (x.2.getD i 0 : Nat))
def CLM (σ : SG) (o : Option (Int × Int × List Nat)) (g : vx_M) : Prop := (o = none ∧ g 40 21 = -1) ∨ (∃ x, o = some x ∧ g 40 21 = x.1 ∧ g 40 22 = x.2.1 ∧ 0 ≤ x.1 ∧ x.1 ≤ 7 ∧ 0 ≤ x.2.1 ∧ x.2.1 ≤ 200 ∧ ∀ i : Nat, i < sL σ → g 55 i = (x.2.2.getD i 0 : Nat))
def MA (σ : SG) (a : MT) (g : vx_M) : Prop := g 40 18 = a.1 ∧ LVM σ a.2.1 g ∧ CLM σ a.2.2 g
noncomputable def mst (σ : SG) (a : MT) (e : List Nat) : MT := (nF σ a.1 e, lv1 σ a.2.1 e, cl1 σ a.2.2 e)
theorem mst_fold {σ : SG} : ∀ (L : List (List Nat)) (a : MT), L.foldl (mst σ) a = (L.foldl (nF σ) a.1, L.foldl (lv1 σ) a.2.1, L.foldl (cl1 σ) a.2.2)
  | [], a => rfl
  | e :: L, a => by
    rw [List.foldl_cons, mst_fold L]
    rfl
def FP (g g' : vx_M) : Prop := (∀ a b, a ≠ 40 → a ≠ 52 → a ≠ 53 → a ≠ 54 → a ≠ 55 → g' a b = g a b) ∧ ∀ b, b ≠ 18 → b ≠ 19 → b ≠ 21 → b ≠ 22 → g' 40 b = g 40 b
theorem FP.BM {σ : SG} {g g' : vx_M} (h : FP g g') (hB : BM σ g) : BM σ g' := hB.frame (fun a b x y => h.1 a b (by omega) (by omega) (by omega) (by omega) (by omega)) (h.2 _ (by omega) (by omega) (by omega) (by omega)) (h.2 _ (by omega) (by omega) (by omega) (by omega)) (h.2 _ (by omega) (by omega) (by omega) (by omega)) (h.2 _ (by omega) (by omega) (by omega) (by omega))
theorem RW.HB {σ : SG} {e : List Nat} {g : vx_M} (h : RW e g) (ho : hOK σ e) : HB σ e 52 g := ⟨ho, fun i hi => h i (by rw [ho.1]; exact hi)⟩
def QP (σ : SG) (a : MT) (L : List (List Nat)) (g : vx_M) : vx_M → Prop := fun g' => MA σ (L.foldl (mst σ) a) g' ∧ FP g g'
set_option maxHeartbeats 4000000 in
/-- one placing is looked at; what comes behind it is given -/
theorem fp_visit {l : Launch} {d : Nat} {σ : SG} {g : vx_M} (hB : BM σ g) (hM : HM σ g) (e : List Nat) (a : MT) (g1 : vx_M) (v2 : Int) (hP : e ∈ PL σ) (hr : RW e g1) (hA : MA σ a g1) (hF : FP g g1) (h0 : 0 ≤ a.1) (hb : a.1 ≤ 10000000) (Q : vx_M → Prop)
    (kk : ∀ (w : Int) (g2 : vx_M), RW e g2 → MA σ (mst σ a e) g2 → FP g g2 → ∃ Q2 : Int → vx_M → Prop, vNi l mX6_hasNext (d + 2) [.inr (some 40)] SH g2 Q2 ∧ ∀ (r2 : Int) (g3 : vx_M), Q2 r2 g3 → vN l mX6_findPlacings (d + 2 + 1) (vx_pv SH Q) SH g3 55 [some (.inr (some 40)), some (.inl r2), some (.inl w), none, none, none, none] []) :
    vN l mX6_findPlacings (d + 2 + 1) (vx_pv SH Q) SH g1 55 [some (.inr (some 40)), some (.inl 1), some (.inl v2), none, none, none, none] [] := by
  have hoe := PL_ok hP
  have hv := hB.1
  have h7 : sL σ ≤ 7 := hv.2.2.1
  have hn8 := hv.2.2.2.1
  refine tX6_findPlacings_55 g1 _ _ ⟨fun c => (by cases c), fun _ => ⟨_, m_fitsSo (hF.BM hB) (hr.HB hoe), fun r1 g2 h => ?_⟩⟩
  obtain ⟨f2, h⟩ := h
  have hr2 : RW e g2 := fun i hi => by rw [f2 _ _ (by omega)]; exact hr i hi
  have hF2 : FP g g2 := ⟨fun a b x1 x2 x3 x4 x5 => by rw [f2 a b x3]; exact hF.1 a b x1 x2 x3 x4 x5, fun b x1 x2 x3 x4 => by rw [f2 40 b (by omega)]; exact hF.2 b x1 x2 x3 x4⟩
  have hA2 : MA σ a g2 := by
    obtain ⟨m1, m2, m3⟩ := hA
    refine ⟨by rw [f2 _ _ (by omega)]; exact m1, ?_, ?_⟩
    · rcases m2 with ⟨a1, a2⟩ | ⟨x, a1, a2, a3, a4, a5⟩
      · exact Or.inl ⟨a1, by rw [f2 _ _ (by omega)]; exact a2⟩
      · exact Or.inr ⟨x, a1, by rw [f2 _ _ (by omega)]; exact a2, a3, a4, fun i hi => by rw [f2 _ _ (by omega)]; exact a5 i hi⟩
    · rcases m3 with ⟨a1, a2⟩ | ⟨x, a1, a2, a3, a4, a5, a6, a7, a8⟩
      · exact Or.inl ⟨a1, by rw [f2 _ _ (by omega)]; exact a2⟩
      · exact Or.inr ⟨x, a1, by rw [f2 _ _ (by omega)]; exact a2, by rw [f2 _ _ (by omega)]; exact a3, a4, a5, a6, a7, fun i hi => by rw [f2 _ _ (by omega)]; exact a8 i hi⟩
  refine ⟨fun c => ?_, fun c => ?_⟩
  · have hnf : ¬ FIT σ e := by
      rcases h with ⟨h, h9⟩ | ⟨-, h⟩
      · have := UN_bd hv h9; omega
      · exact h
    have em : mst σ a e = a := by
      show (nF σ a.1 e, lv1 σ a.2.1 e, cl1 σ a.2.2 e) = a
      unfold nF lv1 cl1
      rw [cif_neg hnf, cif_neg (fun h => hnf h.1), cif_neg (fun h => hnf h.1)]
    exact kk r1 g2 hr2 (by rw [em]; exact hA2) hF2
  · obtain ⟨hu, hfit⟩ : r1 = UN σ e ∧ FIT σ e := by
      rcases h with h | ⟨h, -⟩
      · exact h
      · exact absurd h c
    have ub := UN_bd hv hfit
    have e18 := hA2.1
    refine ⟨?_, ?_⟩
    · rw [e18]; exact ⟨by omega, by omega⟩
    rw [e18]
    generalize hg3 : vx_u g2 40 18 (a.1 + 1) = g3
    have f3 : ∀ x y, (x ≠ 40 ∨ y ≠ 18) → g3 x y = g2 x y := fun x y z => by
      rw [← hg3]
      by_cases hx : x = 40
      · rw [vx_u_j (by omega)]
      · rw [vx_u_k hx]
    have e3 : g3 40 18 = a.1 + 1 := by rw [← hg3, vx_u_at]
    have e10 : g3 40 10 = (sL σ : Nat) := by rw [f3 _ _ (by omega), hF2.2 _ (by omega) (by omega) (by omega) (by omega)]; exact hB.2.2.1
    -- behind the two questions
    have fin : ∀ (isL isC : Int), ((isL = 1 ∧ ∀ x, a.2.1 = some x → UN σ e < x.1) ∨ (isL = 0 ∧ ¬ ∀ x, a.2.1 = some x → UN σ e < x.1)) → ((isC = 1 ∧ ∀ x, a.2.2 = some x → (mvS σ e < x.1 ∨ (mvS σ e = x.1 ∧ UN σ e < x.2.1))) ∨ (isC = 0 ∧ ¬ ∀ x, a.2.2 = some x → (mvS σ e < x.1 ∨ (mvS σ e = x.1 ∧ UN σ e < x.2.1)))) → vN l mX6_findPlacings (d + 2 + 1) (vx_pv SH Q) SH g3 196 [some (.inr (some 40)), some (.inl 1), some (.inl r1), some (.inl (mvS σ e)), some (.inl isL), some (.inl isC), some (.inl 0)] [] := by
      intro isL isC hL hC
      have loop : ∀ (k p : Nat), p + k = sL σ → ∀ g4 : vx_M, (∀ i : Nat, i < p → g4 54 i = (if isL = 0 then g3 54 i else (e.getD i 0 : Nat)) ∧ g4 55 i = (if isC = 0 then g3 55 i else (e.getD i 0 : Nat))) → (∀ i : Nat, p ≤ i → g4 54 i = g3 54 i ∧ g4 55 i = g3 55 i) → (∀ x y, x ≠ 54 → x ≠ 55 → g4 x y = g3 x y) → vN l mX6_findPlacings (d + 2 + 1) (vx_pv SH Q) SH g4 196 [some (.inr (some 40)), some (.inl 1), some (.inl r1), some (.inl (mvS σ e)), some (.inl isL), some (.inl isC), some (.inl (p : Int))] [] := by
        intro k
        induction k with
        | zero =>
          intro p hp g4 q1 q2 q3
          have e9 : g4 40 10 = (sL σ : Nat) := by rw [q3 _ _ (by omega) (by omega)]; exact e10
          have ep : p = sL σ := by omega
          -- the three numbers
          have last : ∀ (w w2 w3 : Int), w = (if isL = 0 then g3 40 19 else r1) → w2 = (if isC = 0 then g3 40 21 else mvS σ e) → w3 = (if isC = 0 then g3 40 22 else r1) → ∃ Q2 : Int → vx_M → Prop, vNi l mX6_hasNext (d + 2) [.inr (some 40)] SH (vx_u (vx_u (vx_u g4 40 19 w) 40 21 w2) 40 22 w3) Q2 ∧ ∀ (r2 : Int) (g5 : vx_M), Q2 r2 g5 → vN l mX6_findPlacings (d + 2 + 1) (vx_pv SH Q) SH g5 55 [some (.inr (some 40)), some (.inl r2), some (.inl r1), none, none, none, none] [] := by
            intro w w2 w3 hw hw2 hw3
            have f5 : ∀ x y, (x ≠ 40 ∨ (y ≠ 19 ∧ y ≠ 21 ∧ y ≠ 22)) → (vx_u (vx_u (vx_u g4 40 19 w) 40 21 w2) 40 22 w3) x y = g4 x y := fun x y z => by
              by_cases hx : x = 40
              · rw [vx_u_j (by omega), vx_u_j (by omega), vx_u_j (by omega)]
              · rw [vx_u_k hx, vx_u_k hx, vx_u_k hx]
            have e19 : (vx_u (vx_u (vx_u g4 40 19 w) 40 21 w2) 40 22 w3) 40 19 = w := by rw [vx_u_j (by omega), vx_u_j (by omega), vx_u_at]
            have e21 : (vx_u (vx_u (vx_u g4 40 19 w) 40 21 w2) 40 22 w3) 40 21 = w2 := by rw [vx_u_j (by omega), vx_u_at]
            have e22 : (vx_u (vx_u (vx_u g4 40 19 w) 40 21 w2) 40 22 w3) 40 22 = w3 := vx_u_at
            have hm := mv_bd (near := nearS σ) (r := e) (sL σ)
            have hm' : 0 ≤ mvS σ e ∧ mvS σ e ≤ 7 := by unfold mvS; omega
            refine kk r1 _ (fun i hi => ?_) ⟨?_, ?_, ?_⟩ ⟨fun x y x1 x2 x3 x4 x5 => ?_, fun y x1 x2 x3 x4 => ?_⟩
            · rw [f5 _ _ (by omega), q3 _ _ (by omega) (by omega), f3 _ _ (by omega)]; exact hr2 i hi
            · rw [f5 _ _ (by omega), q3 _ _ (by omega) (by omega), e3]
              show _ = nF σ a.1 e
              unfold nF
              rw [cif_pos hfit]
            · rcases hL with ⟨hL, hL2⟩ | ⟨hL, hL2⟩
              · have el : (mst σ a e).2.1 = some (UN σ e, e) := cif_pos ⟨hfit, hL2⟩
                rw [el]
                refine Or.inr ⟨_, rfl, ?_, ub.1, ub.2, fun i hi => ?_⟩
                · rw [e19, hw, if_neg (by omega)]; exact hu
                · rw [f5 _ _ (by omega), (q1 i (by omega)).1, if_neg (by omega)]
              · have el : (mst σ a e).2.1 = a.2.1 := cif_neg (fun h => hL2 h.2)
                rw [el]
                rcases hA2.2.1 with ⟨a1, a2⟩ | ⟨x, a1, a2, a3, a4, a5⟩
                · exact Or.inl ⟨a1, by rw [e19, hw, if_pos hL, f3 _ _ (by omega)]; exact a2⟩
                · exact Or.inr ⟨x, a1, by rw [e19, hw, if_pos hL, f3 _ _ (by omega)]; exact a2, a3, a4, fun i hi => by rw [f5 _ _ (by omega), (q1 i (by omega)).1, if_pos hL, f3 _ _ (by omega)]; exact a5 i hi⟩
            · rcases hC with ⟨hC, hC2⟩ | ⟨hC, hC2⟩
              · have el : (mst σ a e).2.2 = some (mvS σ e, UN σ e, e) := cif_pos ⟨hfit, hC2⟩
                rw [el]
                refine Or.inr ⟨_, rfl, ?_, ?_, hm'.1, hm'.2, ub.1, ub.2, fun i hi => ?_⟩
                · rw [e21, hw2, if_neg (by omega)]
                · rw [e22, hw3, if_neg (by omega)]; exact hu
                · rw [f5 _ _ (by omega), (q1 i (by omega)).2, if_neg (by omega)]
              · have el : (mst σ a e).2.2 = a.2.2 := cif_neg (fun h => hC2 h.2)
                rw [el]
                rcases hA2.2.2 with ⟨a1, a2⟩ | ⟨x, a1, a2, a3, a4, a5, a6, a7, a8⟩
                · exact Or.inl ⟨a1, by rw [e21, hw2, if_pos hC, f3 _ _ (by omega)]; exact a2⟩
                · exact Or.inr ⟨x, a1, by rw [e21, hw2, if_pos hC, f3 _ _ (by omega)]; exact a2, by rw [e22, hw3, if_pos hC, f3 _ _ (by omega)]; exact a3, a4, a5, a6, a7, fun i hi => by rw [f5 _ _ (by omega), (q1 i (by omega)).2, if_pos hC, f3 _ _ (by omega)]; exact a8 i hi⟩
            · rw [f5 _ _ (Or.inl x1), q3 _ _ x4 x5, f3 _ _ (Or.inl x1)]; exact hF2.1 x y x1 x2 x3 x4 x5
            · rw [f5 _ _ (Or.inr ⟨x2, x3, x4⟩), q3 _ _ (by omega) (by omega), f3 _ _ (Or.inr x1)]; exact hF2.2 y x1 x2 x3 x4
          have mid : ∀ w, w = (if isL = 0 then g3 40 19 else r1) → vN l mX6_findPlacings (d + 2 + 1) (vx_pv SH Q) SH g4 283 [some (.inr (some 40)), some (.inl 1), some (.inl r1), some (.inl (mvS σ e)), some (.inl isL), some (.inl isC), some (.inl (p : Int))] [.inl w, .inr (some 40)] := by
            intro w hw
            refine tX6_findPlacings_283 g4 _ _ _ _ _ _ _ ⟨fun c5 => ?_, fun c5 => ?_⟩
            · refine tX6_findPlacings_300 _ _ _ _ _ _ _ _ ⟨fun c6 => ?_, fun c6 => absurd c5 c6⟩
              refine last _ _ _ hw ?_ ?_
              · rw [if_pos c5, q3 _ _ (by omega) (by omega)]
              · rw [if_pos c5, vx_u_j (by omega), q3 _ _ (by omega) (by omega)]
            · refine tX6_findPlacings_300 _ _ _ _ _ _ _ _ ⟨fun c6 => absurd c6 c5, fun c6 => ?_⟩
              exact last _ _ _ hw (by rw [if_neg c5]) (by rw [if_neg c5])
          refine tX6_findPlacings_196 g4 _ _ _ _ _ _ ⟨fun _ => ⟨fun c5 => mid _ ?_, fun c5 => mid _ ?_⟩, fun c => by omega⟩
          · rw [if_pos c5, q3 _ _ (by omega) (by omega)]
          · rw [if_neg c5]
        | succ k ih =>
          intro p hp g4 q1 q2 q3
          have e9 : g4 40 10 = (sL σ : Nat) := by rw [q3 _ _ (by omega) (by omega)]; exact e10
          have e52 : g4 52 p = (e.getD p 0 : Nat) := by rw [q3 _ _ (by omega) (by omega), f3 _ _ (by omega)]; exact hr2 p (by rw [hoe.1]; omega)
          have go : ∀ w, w = (if isL = 0 then g3 54 p else (e.getD p 0 : Nat)) → vN l mX6_findPlacings (d + 2 + 1) (vx_pv SH Q) SH g4 233 [some (.inr (some 40)), some (.inl 1), some (.inl r1), some (.inl (mvS σ e)), some (.inl isL), some (.inl isC), some (.inl (p : Int))] [.inl w, .inl (p : Int), .inr (some 54)] := by
            intro w hw
            have go2 : ∀ w2, w2 = (if isC = 0 then g3 55 p else (e.getD p 0 : Nat)) → vN l mX6_findPlacings (d + 2 + 1) (vx_pv SH Q) SH (vx_u (vx_u g4 54 p w) 55 p w2) 196 [some (.inr (some 40)), some (.inl 1), some (.inl r1), some (.inl (mvS σ e)), some (.inl isL), some (.inl isC), some (.inl ((p : Int) + 1))] [] := by
              intro w2 hw2
              refine ih (p + 1) (by omega) _ (fun i hi => ?_) (fun i hi => ?_) (fun x y x1 x2 => ?_)
              · by_cases ei : i = p
                · rw [ei, vx_u_k (by omega), vx_u_at, vx_u_at]; exact ⟨hw, hw2⟩
                · rw [vx_u_k (by omega), vx_u_j (by omega), vx_u_j (by omega), vx_u_k (by omega)]; exact q1 i (by omega)
              · rw [vx_u_k (by omega), vx_u_j (by omega), vx_u_j (by omega), vx_u_k (by omega)]; exact q2 i (by omega)
              · rw [vx_u_k x2, vx_u_k x1]; exact q3 x y x1 x2
            refine tX6_findPlacings_233 g4 _ _ _ _ _ _ _ _ ⟨⟨by omega, by omega⟩, fun c5 => ⟨⟨by omega, by omega⟩, ⟨by omega, by omega⟩, ⟨by omega, by omega⟩, go2 _ ?_⟩, fun c5 => ⟨⟨by omega, by omega⟩, ⟨by omega, by omega⟩, ⟨by omega, by omega⟩, go2 _ ?_⟩⟩
            · rw [if_pos c5]; exact (q2 p (Nat.le_refl _)).2
            · rw [if_neg c5]; exact e52
          refine tX6_findPlacings_196 g4 _ _ _ _ _ _ ⟨fun c => by omega, fun _ => ⟨fun c5 => ⟨⟨by omega, by omega⟩, go _ ?_⟩, fun c5 => ⟨⟨by omega, by omega⟩, go _ ?_⟩⟩⟩
          · rw [if_pos c5]; exact (q2 p (Nat.le_refl _)).1
          · rw [if_neg c5]; exact e52
      exact loop (sL σ) 0 (by omega) g3 (fun i hi => by omega) (fun i _ => ⟨rfl, rfl⟩) (fun _ _ _ _ => rfl)
    -- how many are others
    have e14 : g3 40 14 = g 40 14 := by rw [f3 _ _ (by omega), hF2.2 _ (by omega) (by omega) (by omega) (by omega)]
    have oth : ∀ (k p : Nat), p + k = sL σ → vN l mX6_findPlacings (d + 2 + 1) (vx_pv SH Q) SH g3 84 [some (.inr (some 40)), some (.inl 1), some (.inl r1), some (.inl (mv (nearS σ) e p)), some (.inl (p : Int)), none, none] [] := by
      intro k
      induction k with
      | zero =>
        intro p hp
        have ep : p = sL σ := by omega
        have emv : mv (nearS σ) e p = mvS σ e := by rw [ep]; rfl
        rw [emv]
        have e19 : g3 40 19 = g2 40 19 := f3 _ _ (by omega)
        have e21 : g3 40 21 = g2 40 21 := f3 _ _ (by omega)
        have e22 : g3 40 22 = g2 40 22 := f3 _ _ (by omega)
        have q152 : ∀ w, ((w = 1 ∧ ∀ x, a.2.1 = some x → UN σ e < x.1) ∨ (w = 0 ∧ ¬ ∀ x, a.2.1 = some x → UN σ e < x.1)) → vN l mX6_findPlacings (d + 2 + 1) (vx_pv SH Q) SH g3 152 [some (.inr (some 40)), some (.inl 1), some (.inl r1), some (.inl (mvS σ e)), some (.inl (p : Int)), none, none] [.inl w] := by
          intro w hw
          refine tX6_findPlacings_152 g3 _ _ _ _ _ ⟨fun c5 => fin w 1 hw (Or.inl ⟨rfl, ?_⟩), fun c5 => ⟨fun c6 => fin w 1 hw (Or.inl ⟨rfl, ?_⟩), fun c6 => ⟨fun c7 => fin w 0 hw (Or.inr ⟨rfl, ?_⟩), fun c7 => ⟨fun c8 => fin w 0 hw (Or.inr ⟨rfl, ?_⟩), fun c8 => fin w 1 hw (Or.inl ⟨rfl, ?_⟩)⟩⟩⟩⟩
          · intro x hx
            rcases hA2.2.2 with ⟨a1, a2⟩ | ⟨y, a1, a2, a3, a4, a5, a6, a7, a8⟩
            · rw [a1] at hx; cases hx
            · omega
          · intro x hx
            rcases hA2.2.2 with ⟨a1, a2⟩ | ⟨y, a1, a2, a3, a4, a5, a6, a7, a8⟩
            · rw [a1] at hx; cases hx
            · rw [a1] at hx; cases hx; omega
          · intro hh
            rcases hA2.2.2 with ⟨a1, a2⟩ | ⟨y, a1, a2, a3, a4, a5, a6, a7, a8⟩
            · omega
            · have := hh y a1; omega
          · intro hh
            rcases hA2.2.2 with ⟨a1, a2⟩ | ⟨y, a1, a2, a3, a4, a5, a6, a7, a8⟩
            · omega
            · have := hh y a1; omega
          · intro x hx
            rcases hA2.2.2 with ⟨a1, a2⟩ | ⟨y, a1, a2, a3, a4, a5, a6, a7, a8⟩
            · rw [a1] at hx; cases hx
            · rw [a1] at hx; cases hx; omega
        refine tX6_findPlacings_84 g3 _ _ _ _ ⟨fun _ => ⟨fun c5 => ?_, fun c5 => ⟨fun c6 => q152 0 (Or.inr ⟨rfl, ?_⟩), fun c6 => ?_⟩⟩, fun c => by omega⟩
        · refine tX6_findPlacings_147 g3 _ _ _ _ (q152 1 (Or.inl ⟨rfl, ?_⟩))
          intro x hx
          rcases hA2.2.1 with ⟨a1, a2⟩ | ⟨y, a1, a2, a3, a4, a5⟩
          · rw [a1] at hx; cases hx
          · omega
        · intro hh
          rcases hA2.2.1 with ⟨a1, a2⟩ | ⟨y, a1, a2, a3, a4, a5⟩
          · omega
          · have := hh y a1; omega
        · refine tX6_findPlacings_147 g3 _ _ _ _ (q152 1 (Or.inl ⟨rfl, ?_⟩))
          intro x hx
          rcases hA2.2.1 with ⟨a1, a2⟩ | ⟨y, a1, a2, a3, a4, a5⟩
          · rw [a1] at hx; cases hx
          · rw [a1] at hx; cases hx; omega
      | succ k ih =>
        intro p hp
        have bm := mv_bd (near := nearS σ) (r := e) p
        have i := ih (p + 1) (by omega)
        have e52 : g3 52 p = (e.getD p 0 : Nat) := by rw [f3 _ _ (by omega)]; exact hr2 p (by rw [hoe.1]; omega)
        have ems : mv (nearS σ) e (p + 1) = mv (nearS σ) e p + if (e.getD p 0 : Int) = nearS σ p then 0 else 1 := rfl
        refine tX6_findPlacings_84 g3 _ _ _ _ ⟨fun c => by omega, fun _ => ⟨fun c5 => ⟨⟨by omega, by omega⟩, ⟨by omega, by omega⟩, ?_⟩, fun c5 => ⟨⟨by omega, by omega⟩, ⟨by omega, by omega⟩, fun c6 => ⟨⟨by omega, by omega⟩, ⟨by omega, by omega⟩, ?_⟩, fun c6 => ⟨⟨by omega, by omega⟩, ⟨by omega, by omega⟩, ?_⟩⟩⟩⟩
        · rw [e14] at c5
          have hn : nearS σ p = -1 := by
            unfold nearS
            rcases hM with ⟨a1, a2⟩ | ⟨q, a1, a2, a3⟩
            · rw [a1]
            · omega
          rw [ems, hn, if_neg (by omega)] at i
          exact i
        · rw [e14] at c5
          have hn : nearS σ p = g3 51 p := by
            unfold nearS
            rcases hM with ⟨a1, a2⟩ | ⟨q, a1, a2, a3⟩
            · exact absurd a2 c5
            · rw [a1, f3 _ _ (by omega), hF2.1 _ _ (by omega) (by omega) (by omega) (by omega) (by omega)]
              exact (a3.2 p (by omega)).symm
          rw [ems, hn, if_pos (by omega)] at i
          exact i
        · rw [e14] at c5
          have hn : nearS σ p = g3 51 p := by
            unfold nearS
            rcases hM with ⟨a1, a2⟩ | ⟨q, a1, a2, a3⟩
            · exact absurd a2 c5
            · rw [a1, f3 _ _ (by omega), hF2.1 _ _ (by omega) (by omega) (by omega) (by omega) (by omega)]
              exact (a3.2 p (by omega)).symm
          rw [ems, hn, if_neg (by omega)] at i
          exact i
    exact oth (sL σ) 0 (by omega)
set_option maxHeartbeats 4000000 in
theorem fp_loop {l : Launch} {d : Nat} {σ : SG} {g : vx_M} (hB : BM σ g) (hM : HM σ g) (hnl : sL σ ≤ sN σ) : ∀ (L : List (List Nat)) (e : List Nat) (a : MT) (g1 : vx_M) (v2 : Int), CH (sN σ) (sL σ) (e :: L) none → (∀ x, x ∈ e :: L → x ∈ PL σ) → RW e g1 → MA σ a g1 → FP g g1 → 0 ≤ a.1 → a.1 + (L.length + 1 : Nat) ≤ 10000000 →
    vN l mX6_findPlacings (d + 3) (vx_pv SH (QP σ a (e :: L) g)) SH g1 55 [some (.inr (some 40)), some (.inl 1), some (.inl v2), none, none, none, none] [] := by
  intro L
  induction L with
  | nil =>
    intro e a g1 v2 hC hP hr hA hF h0 hb
    have key : ∀ (w : Int) (g2 : vx_M), RW e g2 → MA σ (mst σ a e) g2 → FP g g2 → ∃ Q2 : Int → vx_M → Prop, vNi l mX6_hasNext (d + 2) [.inr (some 40)] SH g2 Q2 ∧ ∀ (r2 : Int) (g3 : vx_M), Q2 r2 g3 → vN l mX6_findPlacings (d + 2 + 1) (vx_pv SH (QP σ a [e] g)) SH g3 55 [some (.inr (some 40)), some (.inl r2), some (.inl w), none, none, none, none] [] := by
      intro w g2 k1 k2 k3
      have hoe := PL_ok (hP e List.mem_cons_self)
      refine ⟨_, m_hasNext (hB := k3.BM hB) hoe.1 (PL_inj (hP e List.mem_cons_self)) k1 hnl, fun r2 g3 h => ?_⟩
      obtain ⟨q1, q2⟩ := h
      have hn : nx (sN σ) (sL σ) (sL σ) e = none := hC.1
      rcases q2 with ⟨q2, -⟩ | ⟨-, e9, q2, -⟩
      · subst q2
        refine tX6_findPlacings_55 g3 _ _ ⟨fun _ => ⟨?_, fun a b x1 x2 x3 x4 x5 => ?_, fun b x1 x2 x3 x4 => ?_⟩, fun c => absurd rfl c⟩
        · show MA σ (mst σ a e) g3
          obtain ⟨m1, m2, m3⟩ := k2
          refine ⟨by rw [q1 _ _ (by omega)]; exact m1, ?_, ?_⟩
          · rcases m2 with ⟨a1, a2⟩ | ⟨x, a1, a2, a3, a4, a5⟩
            · exact Or.inl ⟨a1, by rw [q1 _ _ (by omega)]; exact a2⟩
            · exact Or.inr ⟨x, a1, by rw [q1 _ _ (by omega)]; exact a2, a3, a4, fun i hi => by rw [q1 _ _ (by omega)]; exact a5 i hi⟩
          · rcases m3 with ⟨a1, a2⟩ | ⟨x, a1, a2, a3, a4, a5, a6, a7, a8⟩
            · exact Or.inl ⟨a1, by rw [q1 _ _ (by omega)]; exact a2⟩
            · exact Or.inr ⟨x, a1, by rw [q1 _ _ (by omega)]; exact a2, by rw [q1 _ _ (by omega)]; exact a3, a4, a5, a6, a7, fun i hi => by rw [q1 _ _ (by omega)]; exact a8 i hi⟩
        · rw [q1 a b x2]; exact k3.1 a b x1 x2 x3 x4 x5
        · rw [q1 40 b (by omega)]; exact k3.2 b x1 x2 x3 x4
      · rw [hn] at q2; cases q2
    exact fp_visit hB hM e a g1 v2 (hP e List.mem_cons_self) hr hA hF h0 (by omega) _ key
  | cons e2 L ih =>
    intro e a g1 v2 hC hP hr hA hF h0 hb
    have key : ∀ (w : Int) (g2 : vx_M), RW e g2 → MA σ (mst σ a e) g2 → FP g g2 → ∃ Q2 : Int → vx_M → Prop, vNi l mX6_hasNext (d + 2) [.inr (some 40)] SH g2 Q2 ∧ ∀ (r2 : Int) (g3 : vx_M), Q2 r2 g3 → vN l mX6_findPlacings (d + 2 + 1) (vx_pv SH (QP σ a (e :: e2 :: L) g)) SH g3 55 [some (.inr (some 40)), some (.inl r2), some (.inl w), none, none, none, none] [] := by
      intro w g2 k1 k2 k3
      have hoe := PL_ok (hP e List.mem_cons_self)
      refine ⟨_, m_hasNext (hB := k3.BM hB) hoe.1 (PL_inj (hP e List.mem_cons_self)) k1 hnl, fun r2 g3 h => ?_⟩
      obtain ⟨q1, q2⟩ := h
      have hn : nx (sN σ) (sL σ) (sL σ) e = some e2 := hC.1
      rcases q2 with ⟨-, q2⟩ | ⟨q0, e9, q2, q3, q4⟩
      · rw [hn] at q2; cases q2
      · subst q0
        rw [hn] at q2
        cases q2
        have hnf : (mst σ a e).1 ≤ a.1 + 1 ∧ a.1 ≤ (mst σ a e).1 := by
          show nF σ a.1 e ≤ a.1 + 1 ∧ a.1 ≤ nF σ a.1 e
          unfold nF
          by_cases c : FIT σ e
          · rw [cif_pos c]; omega
          · rw [cif_neg c]; omega
        refine ih e2 (mst σ a e) g3 w hC.2 (fun x hx => hP x (List.mem_cons_of_mem _ hx)) q4 ?_ ⟨fun a b x1 x2 x3 x4 x5 => ?_, fun b x1 x2 x3 x4 => ?_⟩ (by omega) (by rw [List.length_cons] at hb; omega)
        · obtain ⟨m1, m2, m3⟩ := k2
          refine ⟨by rw [q1 _ _ (by omega)]; exact m1, ?_, ?_⟩
          · rcases m2 with ⟨a1, a2⟩ | ⟨x, a1, a2, a3, a4, a5⟩
            · exact Or.inl ⟨a1, by rw [q1 _ _ (by omega)]; exact a2⟩
            · exact Or.inr ⟨x, a1, by rw [q1 _ _ (by omega)]; exact a2, a3, a4, fun i hi => by rw [q1 _ _ (by omega)]; exact a5 i hi⟩
          · rcases m3 with ⟨a1, a2⟩ | ⟨x, a1, a2, a3, a4, a5, a6, a7, a8⟩
            · exact Or.inl ⟨a1, by rw [q1 _ _ (by omega)]; exact a2⟩
            · exact Or.inr ⟨x, a1, by rw [q1 _ _ (by omega)]; exact a2, by rw [q1 _ _ (by omega)]; exact a3, a4, a5, a6, a7, fun i hi => by rw [q1 _ _ (by omega)]; exact a8 i hi⟩
        · rw [q1 a b x2]; exact k3.1 a b x1 x2 x3 x4 x5
        · rw [q1 40 b (by omega)]; exact k3.2 b x1 x2 x3 x4
    exact fp_visit hB hM e a g1 v2 (hP e List.mem_cons_self) hr hA hF h0 (by omega) _ key
theorem id_list {m : Nat} : ∀ k, k ≤ m → ∃ r : List Nat, r = List.range k ∧ inj m r ∧ fcr r m + k = m := by
  intro k hk
  have hg : ∀ (j i : Nat), i < j → (List.range j).getD i 0 = i := fun j i h => by
    rw [List.getD_eq_getElem?_getD, List.getElem?_range h]; rfl
  have hi : inj m (List.range k) := fun p hp => by
    rw [List.length_range] at hp
    rw [hg k p hp, List.take_range, show min p k = p by omega]
    exact ⟨by omega, fun h => by have := List.mem_range.mp h; omega⟩
  refine ⟨_, rfl, hi, ?_⟩
  have := inj_fcr hi k (by rw [List.length_range]; exact Nat.le_refl _)
  rw [List.take_range, show min k k = k by omega] at this
  exact this
theorem fl_range {n : Nat} : ∀ (k j : Nat), j + k ≤ n → fl n k (List.range j) = List.range (j + k)
  | 0, j, _ => rfl
  | k + 1, j, h => by
    have e : ff (List.range j) n 0 = some j := by
      have key : ∀ (f y : Nat), y + f = n → y ≤ j → ff (List.range j) f y = some j := by
        intro f
        induction f with
        | zero => intro y h1 h2; omega
        | succ f ih =>
          intro y h1 h2
          show (if y ∈ List.range j then ff (List.range j) f (y + 1) else some y) = some j
          by_cases c : y < j
          · rw [if_pos (List.mem_range.mpr c)]
            exact ih (y + 1) (by omega) (by omega)
          · rw [if_neg (fun h => c (List.mem_range.mp h)), show y = j by omega]
      exact key n 0 (by omega) (Nat.zero_le _)
    show (match ff (List.range j) n 0 with | some x => fl n k (List.range j ++ [x]) | none => List.range j) = _
    rw [e]
    show fl n k (List.range j ++ [j]) = _
    rw [← List.range_succ, fl_range k (j + 1) (by omega), show j + 1 + k = j + (k + 1) by omega]
theorem PL_len {σ : SG} (hv : VB σ) : (PL σ).length ≤ 2097152 := by
  have h1 := ext_len hv.2.2.2.1 (sL σ) []
  have h2 := pow8 (sL σ) (by have : sL σ ≤ 7 := hv.2.2.1; omega)
  have h3 : (((PL σ).length : Nat) : Int) ≤ (8 : Int) ^ (sL σ) := by
    have := Int.ofNat_le.mpr h1
    rw [Int.natCast_pow] at this
    exact this
  omega
theorem m_findPlacings {l : Launch} {d : Nat} {σ : SG} {g : vx_M} (hB : BM σ g) (hM : HM σ g) : vNv l mX6_findPlacings (d + 3) [.inr (some 40)] SH g (fun g' => MA σ (nFit σ, lev σ, clo σ) g' ∧ FP g g') := by
  have hv := hB.1
  have h7 : sL σ ≤ 7 := hv.2.2.1
  have e10 := hB.2.2.1
  have e2 := hB.2.2.2.2.1
  have hfold : (PL σ).foldl (mst σ) (0, none, none) = (nFit σ, lev σ, clo σ) := mst_fold _ _
  refine kX6_findPlacings g ?_
  generalize hg1 : vx_u (vx_u (vx_u g 40 18 0) 40 19 (-1)) 40 21 (-1) = g1
  have f1 : ∀ x y, (x ≠ 40 ∨ (y ≠ 18 ∧ y ≠ 19 ∧ y ≠ 21)) → g1 x y = g x y := fun x y z => by
    rw [← hg1]
    by_cases hx : x = 40
    · rw [vx_u_j (by omega), vx_u_j (by omega), vx_u_j (by omega)]
    · rw [vx_u_k hx, vx_u_k hx, vx_u_k hx]
  have e18 : g1 40 18 = 0 := by rw [← hg1, vx_u_j (by omega), vx_u_j (by omega), vx_u_at]
  have e19 : g1 40 19 = -1 := by rw [← hg1, vx_u_j (by omega), vx_u_at]
  have e21 : g1 40 21 = -1 := by rw [← hg1, vx_u_at]
  have loop : ∀ (w : Int), ((w = 1 ∧ sL σ ≤ sN σ) ∨ (w = 0 ∧ sN σ < sL σ)) → ∀ (k p : Nat), p + k = sL σ → ∀ g2 : vx_M, (∀ i : Nat, i < p → g2 52 i = (i : Nat)) → (∀ x y, x ≠ 52 → g2 x y = g1 x y) → vN l mX6_findPlacings (d + 2 + 1) (vx_pv SH (fun g' => MA σ (nFit σ, lev σ, clo σ) g' ∧ FP g g')) SH g2 34 [some (.inr (some 40)), some (.inl w), some (.inl (p : Int)), none, none, none, none] [] := by
    intro w hw k
    induction k with
    | zero =>
      intro p hp g2 q1 q2
      have e9 : g2 40 10 = (sL σ : Nat) := by rw [q2 _ _ (by omega), f1 _ _ (by omega)]; exact e10
      have hA : MA σ (0, none, none) g2 := ⟨by rw [q2 _ _ (by omega)]; exact e18, Or.inl ⟨rfl, by rw [q2 _ _ (by omega)]; exact e19⟩, Or.inl ⟨rfl, by rw [q2 _ _ (by omega)]; exact e21⟩⟩
      have hF : FP g g2 := ⟨fun a b x1 x2 x3 x4 x5 => by rw [q2 _ _ x2, f1 _ _ (Or.inl x1)], fun b x1 x2 x3 x4 => by rw [q2 _ _ (by omega), f1 _ _ (Or.inr ⟨x1, x2, x3⟩)]⟩
      refine tX6_findPlacings_34 g2 _ _ ⟨fun _ => ?_, fun c => by omega⟩
      rcases hw with ⟨hw, hn⟩ | ⟨hw, hn⟩
      · subst hw
        obtain ⟨⟨L, hL⟩, hC⟩ := PL_chain hn
        have efl : fl (sN σ) (sL σ) [] = List.range (sL σ) := by
          have := fl_range (n := sN σ) (sL σ) 0 (by omega)
          rw [show List.range 0 = [] from rfl, Nat.zero_add] at this
          exact this
        rw [efl] at hL
        have hlen := PL_len hv
        have h9 := fp_loop (l := l) (d := d) hB hM hn L (List.range (sL σ)) (0, none, none) g2 (p : Int) (by rw [← hL]; exact hC) (fun x hx => by rw [hL]; exact hx) (fun i hi => by
          rw [List.length_range] at hi
          rw [q1 i (by omega), List.getD_eq_getElem?_getD, List.getElem?_range hi]; rfl) hA hF (Int.le_refl _) (by
          rw [hL, List.length_cons] at hlen
          show (0 : Int) + _ ≤ _
          omega)
        have eQ : QP σ (0, none, none) (List.range (sL σ) :: L) g = (fun g' => MA σ (nFit σ, lev σ, clo σ) g' ∧ FP g g') := by
          unfold QP
          rw [← hL, hfold]
        rw [eQ] at h9
        exact h9
      · subst hw
        have e0 := PL_none hn
        rw [e0] at hfold
        refine tX6_findPlacings_55 g2 _ _ ⟨fun _ => ⟨by rw [← hfold]; exact hA, hF⟩, fun c => absurd rfl c⟩
    | succ k ih =>
      intro p hp g2 q1 q2
      have e9 : g2 40 10 = (sL σ : Nat) := by rw [q2 _ _ (by omega), f1 _ _ (by omega)]; exact e10
      refine tX6_findPlacings_34 g2 _ _ ⟨fun c => by omega, fun _ => ⟨⟨by omega, by omega⟩, ⟨by omega, by omega⟩, ?_⟩⟩
      exact ih (p + 1) (by omega) _ (fun i hi => by
        by_cases e : i = p
        · rw [e, vx_u_at]
        · rw [vx_u_j (by omega)]; exact q1 i (by omega)) (fun x y z => by rw [vx_u_k z]; exact q2 x y z)
  refine ⟨fun c => ?_, fun c => ?_⟩
  · exact loop 0 (Or.inr ⟨rfl, by omega⟩) (sL σ) 0 (by omega) g1 (fun i hi => by omega) (fun _ _ _ => rfl)
  · exact loop 1 (Or.inl ⟨rfl, by omega⟩) (sL σ) 0 (by omega) g1 (fun i hi => by omega) (fun _ _ _ => rfl)

abbrev spM (l : Launch) (M : vx_Me) (d : Nat) (av : List vx_V) (g : vx_M) (f : Int × SG) : Prop := vNi l M d av SH g (fun r g' => r = f.1 ∧ RM f.2 g' ∧ frM g g')
theorem HM.n {σ : SG} {g : vx_M} (h : HM σ g) (c : g 40 14 = 0) : sR σ = none := by
  rcases h with ⟨a, -⟩ | ⟨r, -, b, -⟩
  · exact a
  · omega
theorem HM.s {σ : SG} {g : vx_M} (h : HM σ g) (c : ¬ g 40 14 = 0) : ∃ r, sR σ = some r ∧ HB σ r 51 g := by
  rcases h with ⟨-, a⟩ | ⟨r, a, -, b⟩
  · exact absurd a c
  · exact ⟨r, a, b⟩
theorem RM.scr {σ : SG} {g g' : vx_M} (h : RM σ g) (hf : ∀ a b, 41 ≤ a → a < 52 → g' a b = g a b) (h40 : ∀ b, (b = 0 ∨ b = 2 ∨ b = 9 ∨ b = 10 ∨ b = 14 ∨ b = 29 ∨ b = 30 ∨ b = 31) → g' 40 b = g 40 b) : RM σ g' := by
  obtain ⟨h1, h2, h3, h4, h5, h6⟩ := h
  refine ⟨h1, h2.frame (fun a b x y => hf a b x (by omega)) (h40 _ (by omega)) (h40 _ (by omega)) (h40 _ (by omega)) (h40 _ (by omega)), ?_, ?_, ?_, ?_⟩
  · rcases h3 with ⟨a, b⟩ | ⟨r, a, b, c⟩
    · exact Or.inl ⟨a, by rw [h40 _ (by omega)]; exact b⟩
    · exact Or.inr ⟨r, a, by rw [h40 _ (by omega)]; exact b, c.frame (fun b => hf _ _ (by omega) (by omega))⟩
  · rw [h40 _ (by omega)]; exact h4
  · rw [h40 _ (by omega)]; exact h5
  · rw [h40 _ (by omega)]; exact h6
theorem RM.fp {σ : SG} {g g' : vx_M} (h : RM σ g) (hf : FP g g') : RM σ g' := h.scr (fun a b x y => hf.1 a b (by omega) (by omega) (by omega) (by omega) (by omega)) (fun b x => hf.2 b (by omega) (by omega) (by omega) (by omega))
theorem RM.fk {σ : SG} {g g' : vx_M} (h : RM σ g) (hf : fr_K g g') : RM σ g' := h.scr (fun a b x y => hf.1 a b (by omega) (by omega) (by omega) (by omega) (by omega) (by omega)) (fun b x => hf.2 b (by omega) (by omega))
theorem FP.m {g g' : vx_M} (h : FP g g') : frM g g' := fun a b x => h.1 a b (by omega) (by omega) (by omega) (by omega) (by omega)
theorem fr_K.m {g g' : vx_M} (h : fr_K g g') : frM g g' := fun a b x => h.1 a b (by omega) (by omega) (by omega) (by omega) (by omega) (by omega)
theorem y_fits {l : Launch} {d : Nat} {σ : SG} {g : vx_M} (hR : RM σ g) : spM l mX6_fits (d + 20) [.inr (some 40)] g (f_fits σ) :=
  kX6_fits g ⟨_, m_findPlacings hR.2.1 hR.2.2.1, fun g1 h => ⟨h.1.1, hR.fp h.2, h.2.m⟩⟩
theorem y_level {l : Launch} {d : Nat} {σ : SG} {g : vx_M} (hR : RM σ g) : spM l mX6_level (d + 20) [.inr (some 40)] g (f_level σ) := by
  refine kX6_level g ⟨_, m_findPlacings hR.2.1 hR.2.2.1, fun g1 h => ⟨?_, hR.fp h.2, h.2.m⟩⟩
  show _ = (match lev σ with | none => -1 | some x => x.1)
  rcases h.1.2.1 with ⟨a1, a2⟩ | ⟨x, a1, a2, -⟩
  · have a1 : lev σ = none := a1
    rw [a1]; exact a2
  · have a1 : lev σ = some x := a1
    rw [a1]; exact a2
theorem y_close {l : Launch} {d : Nat} {σ : SG} {g : vx_M} (hR : RM σ g) : spM l mX6_close (d + 20) [.inr (some 40)] g (f_close σ) := by
  refine kX6_close g ⟨_, m_findPlacings hR.2.1 hR.2.2.1, fun g1 h => ⟨?_, hR.fp h.2, h.2.m⟩⟩
  show _ = (match clo σ with | none => -1 | some x => x.1)
  rcases h.1.2.2 with ⟨a1, a2⟩ | ⟨x, a1, a2, -⟩
  · have a1 : clo σ = none := a1
    rw [a1]; exact a2
  · have a1 : clo σ = some x := a1
    rw [a1]; exact a2
theorem nFit_pos {σ : SG} : (0 < nFit σ ↔ lev σ ≠ none) ∧ (0 < nFit σ ↔ clo σ ≠ none) ∧ 0 ≤ nFit σ := by
  have key : ∀ (L : List (List Nat)) (n : Int) (o : Option (Int × List Nat)) (c : Option (Int × Int × List Nat)), 0 ≤ n → (0 < n ↔ o ≠ none) → (0 < n ↔ c ≠ none) → (0 < L.foldl (nF σ) n ↔ L.foldl (lv1 σ) o ≠ none) ∧ (0 < L.foldl (nF σ) n ↔ L.foldl (cl1 σ) c ≠ none) ∧ 0 ≤ L.foldl (nF σ) n := by
    intro L
    induction L with
    | nil => intro n o c h0 h1 h2; exact ⟨h1, h2, h0⟩
    | cons e L ih =>
      intro n o c h0 h1 h2
      rw [List.foldl_cons, List.foldl_cons, List.foldl_cons]
      by_cases cF : FIT σ e
      · have e1 : nF σ n e = n + 1 := cif_pos cF
        have e2 : lv1 σ o e ≠ none := by
          unfold lv1
          by_cases c2 : FIT σ e ∧ ∀ x, o = some x → UN σ e < x.1
          · rw [cif_pos c2]; exact fun h => by cases h
          · rw [cif_neg c2]
            intro ho
            exact c2 ⟨cF, fun x hx => by rw [ho] at hx; cases hx⟩
        have e3 : cl1 σ c e ≠ none := by
          unfold cl1
          by_cases c2 : FIT σ e ∧ ∀ x, c = some x → (mvS σ e < x.1 ∨ (mvS σ e = x.1 ∧ UN σ e < x.2.1))
          · rw [cif_pos c2]; exact fun h => by cases h
          · rw [cif_neg c2]
            intro ho
            exact c2 ⟨cF, fun x hx => by rw [ho] at hx; cases hx⟩
        rw [e1]
        exact ih _ _ _ (by omega) ⟨fun _ => e2, fun _ => by omega⟩ ⟨fun _ => e3, fun _ => by omega⟩
      · have e1 : nF σ n e = n := cif_neg cF
        have e2 : lv1 σ o e = o := cif_neg (fun h => cF h.1)
        have e3 : cl1 σ c e = c := cif_neg (fun h => cF h.1)
        rw [e1, e2, e3]
        exact ih _ _ _ h0 h1 h2
  exact key (PL σ) 0 none none (Int.le_refl _) ⟨fun h => absurd h (Int.lt_irrefl _), fun h => absurd rfl h⟩ ⟨fun h => absurd h (Int.lt_irrefl _), fun h => absurd rfl h⟩
theorem y_take {l : Launch} {d : Nat} {σ : SG} {g : vx_M} (hR : RM σ g) (v : Int) : spM l mX6_take (d + 20) [.inr (some 40), .inl v] g (f_take σ v) := by
  have h7 : sL σ ≤ 7 := hR.1.1.2.2.1
  refine kX6_take g v ⟨_, c_in v 0 1, fun r1 g1 h => ?_⟩
  obtain ⟨rfl, h⟩ := h
  refine ⟨fun c => ⟨_, m_findPlacings hR.2.1 hR.2.2.1, fun g2 h2 => ?_⟩, fun c => ?_⟩
  · obtain ⟨⟨m1, m2, m3⟩, hF⟩ := h2
    have hR2 := hR.fp hF
    have e10 := hR2.2.1.2.2.1
    have hnp := nFit_pos (σ := σ)
    have m1 : g2 40 18 = nFit σ := m1
    refine ⟨fun c2 => ?_, fun c2 => ?_⟩
    · -- one is taken
      have take : ∀ (e : List Nat) (z : Int) (kc : Nat), f_take σ v = (z, uHnd σ e) → hOK σ e → (kc = 54 ∧ v = 0 ∧ g2 40 19 = z ∨ kc = 55 ∧ v = 1 ∧ g2 40 22 = z) → (∀ i : Nat, i < sL σ → g2 kc i = (e.getD i 0 : Nat)) → ∀ (k p : Nat), p + k = sL σ → ∀ g3 : vx_M, (∀ i : Nat, i < p → g3 51 i = (e.getD i 0 : Nat)) → (∀ a b, a ≠ 51 → g3 a b = g2 a b) → vN l mX6_take (d + 19 + 1) (vx_pi SH (fun r g' => r = (f_take σ v).1 ∧ RM (f_take σ v).2 g' ∧ frM g1 g')) SH g3 28 [some (.inr (some 40)), some (.inl v), some (.inl (p : Int))] [] := by
        intro e z kc hf he hk hkc k
        induction k with
        | zero =>
          intro p hp g3 q1 q2
          have e9 : g3 40 10 = (sL σ : Nat) := by rw [q2 _ _ (by omega)]; exact e10
          have hRM : RM (uHnd σ e) (vx_u g3 40 14 1) := by
            obtain ⟨k1, k2, k3, k4, k5, k6⟩ := hR2
            refine ⟨⟨k1.1, fun r hr => ?_, k1.2.2⟩, ?_, Or.inr ⟨e, rfl, vx_u_at, he, fun i hi => ?_⟩, ?_, ?_, ?_⟩
            · have hr : some e = some r := hr
              cases hr; exact he
            · exact BM.frame (σ := uHnd σ e) (g := g2) k2 (fun a b x y => by rw [vx_u_k (by omega), q2 _ _ (by omega)]) (by rw [vx_u_j (by omega), q2 _ _ (by omega)]) (by rw [vx_u_j (by omega), q2 _ _ (by omega)]) (by rw [vx_u_j (by omega), q2 _ _ (by omega)]) (by rw [vx_u_j (by omega), q2 _ _ (by omega)])
            · have hi : i < sL σ := hi
              rw [vx_u_k (by omega)]; exact q1 i (by omega)
            · rw [vx_u_j (by omega), q2 _ _ (by omega)]; exact k4
            · rw [vx_u_j (by omega), q2 _ _ (by omega)]; exact k5
            · rw [vx_u_j (by omega), q2 _ _ (by omega)]; exact k6
          have hfr : frM g1 (vx_u g3 40 14 1) := fun a b x => by rw [vx_u_k (by omega), q2 _ _ (by omega)]; exact hF.m a b x
          rw [hf]
          refine tX6_take_28 g3 _ _ ⟨fun _ => ⟨fun c5 => ⟨?_, hRM, hfr⟩, fun c5 => ⟨?_, hRM, hfr⟩⟩, fun c => by omega⟩
          · rw [q2 _ _ (by omega)]
            rcases hk with hk | hk
            · omega
            · exact hk.2.2
          · rw [q2 _ _ (by omega)]
            rcases hk with hk | hk
            · exact hk.2.2
            · omega
        | succ k ih =>
          intro p hp g3 q1 q2
          have e9 : g3 40 10 = (sL σ : Nat) := by rw [q2 _ _ (by omega)]; exact e10
          have step : ∀ w, w = ((e.getD p 0 : Nat) : Int) → vN l mX6_take (d + 19 + 1) (vx_pi SH (fun r g' => r = (f_take σ v).1 ∧ RM (f_take σ v).2 g' ∧ frM g1 g')) SH (vx_u g3 51 p w) 28 [some (.inr (some 40)), some (.inl v), some (.inl ((p : Int) + 1))] [] := by
            intro w hw
            exact ih (p + 1) (by omega) _ (fun i hi => by
              by_cases ei : i = p
              · rw [ei, vx_u_at]; exact hw
              · rw [vx_u_j (by omega)]; exact q1 i (by omega)) (fun a b x => by rw [vx_u_k x]; exact q2 a b x)
          refine tX6_take_28 g3 _ _ ⟨fun c => by omega, fun _ => ⟨fun c5 => ⟨⟨by omega, by omega⟩, ⟨by omega, by omega⟩, ⟨by omega, by omega⟩, step _ ?_⟩, fun c5 => ⟨⟨by omega, by omega⟩, ⟨by omega, by omega⟩, ⟨by omega, by omega⟩, step _ ?_⟩⟩⟩
          · rw [q2 _ _ (by omega)]
            rcases hk with hk | hk
            · omega
            · rw [← hk.1]; exact hkc p (by omega)
          · rw [q2 _ _ (by omega)]
            rcases hk with hk | hk
            · rw [← hk.1]; exact hkc p (by omega)
            · omega
      have hpos : 0 < nFit σ := by rw [m1] at c2; have := hnp.2.2; omega
      by_cases cv : v = 0
      · rcases m2 with ⟨a1, -⟩ | ⟨x, a1, a2, a3, a4, a5⟩
        · exact absurd a1 (hnp.1.mp hpos)
        · have a1 : lev σ = some x := a1
          have ef : f_take σ v = (x.1, uHnd σ x.2) := by
            unfold f_take
            rw [if_neg (by omega), if_pos cv, a1]
          exact take x.2 x.1 54 ef (PL_ok (lev_in x a1)) (Or.inl ⟨rfl, cv, a2⟩) a5 (sL σ) 0 (by omega) g2 (fun i hi => by omega) (fun _ _ _ => rfl)
      · rcases m3 with ⟨a1, -⟩ | ⟨x, a1, a2, a3, a4, a5, a6, a7, a8⟩
        · exact absurd a1 (hnp.2.1.mp hpos)
        · have a1 : clo σ = some x := a1
          have ef : f_take σ v = (x.2.1, uHnd σ x.2.2) := by
            unfold f_take
            rw [if_neg (by omega), if_neg cv, a1]
          exact take x.2.2 x.2.1 55 ef (PL_ok (clo_in x a1)) (Or.inr ⟨rfl, by omega, a3⟩) a8 (sL σ) 0 (by omega) g2 (fun i hi => by omega) (fun _ _ _ => rfl)
    · have hno : ¬ 0 < nFit σ := by omega
      have l0 : lev σ = none := by
        cases e : lev σ with
        | none => rfl
        | some x => exact absurd (hnp.1.mpr (by rw [e]; exact fun h => by cases h)) hno
      have l1 : clo σ = none := by
        cases e : clo σ with
        | none => rfl
        | some x => exact absurd (hnp.2.1.mpr (by rw [e]; exact fun h => by cases h)) hno
      have ef : f_take σ v = (-4, σ) := by
        unfold f_take
        rw [if_neg (by omega), l0, l1]
        split <;> rfl
      rw [ef]
      exact ⟨rfl, hR2, hF.m⟩
  · have ef : f_take σ v = (-3, σ) := by
      unfold f_take
      rw [if_pos (by omega)]
    rw [ef]
    exact ⟨rfl, hR, fun _ _ _ => rfl⟩
theorem y_at {l : Launch} {d : Nat} {σ : SG} {g : vx_M} (hR : RM σ g) (v : Int) : spM l mX6_at (d + 20) [.inr (some 40), .inl v] g (f_at σ v) := by
  have hL7 : sL σ ≤ 7 := hR.1.1.2.2.1
  refine kX6_at g v ⟨_, m_isPlace hR.2.1 v, fun r1 g1 h => ?_⟩
  obtain ⟨rfl, h⟩ := h
  refine ⟨fun c => ⟨fun c2 => ?_, fun c2 => ⟨⟨by omega, by omega⟩, ?_⟩⟩, fun c => ?_⟩
  · have ef : f_at σ v = (-4, σ) := by
      unfold f_at
      rw [if_neg (by omega), hR.2.2.1.n c2]
    rw [ef]
    exact ⟨rfl, hR, fun _ _ _ => rfl⟩
  · obtain ⟨r, e1, e2⟩ := hR.2.2.1.s c2
    obtain ⟨n, rfl⟩ : ∃ n : Nat, v = n := ⟨v.toNat, by omega⟩
    have ef : f_at σ n = (((r.getD n 0 : Nat) : Int), σ) := by
      unfold f_at
      rw [if_neg (by omega), e1]
      rfl
    rw [ef]
    exact ⟨e2.2 n (by omega), hR, fun _ _ _ => rfl⟩
  · have ef : f_at σ v = (-2, σ) := by
      unfold f_at
      rw [if_pos (by omega)]
    rw [ef]
    exact ⟨rfl, hR, fun _ _ _ => rfl⟩
theorem y_load {l : Launch} {d : Nat} {σ : SG} {g : vx_M} (hR : RM σ g) (v : Int) : spM l mX6_load (d + 20) [.inr (some 40), .inl v] g (f_load σ v) := by
  have hL7 : sL σ ≤ 7 := hR.1.1.2.2.1
  refine kX6_load g v ⟨_, m_isPlace hR.2.1 v, fun r1 g1 h => ?_⟩
  obtain ⟨rfl, h⟩ := h
  refine ⟨fun c => ⟨fun c2 => ?_, fun c2 => ?_⟩, fun c => ?_⟩
  · obtain ⟨r, e1, e2⟩ := hR.2.2.1.s c2
    obtain ⟨n, rfl⟩ : ∃ n : Nat, v = n := ⟨v.toNat, by omega⟩
    have ef : f_load σ n = (lD σ r n (sL σ), σ) := by
      unfold f_load
      rw [if_neg (by omega), e1]
      rfl
    rw [ef]
    refine ⟨_, m_useHand hR.2.1 e2, fun g2 h2 => ?_⟩
    obtain ⟨u1, u2⟩ := h2
    have hB2 : BM σ g2 := hR.2.1.frame (fun a b x y => u2 a b (by omega)) (u2 _ _ (by omega)) (u2 _ _ (by omega)) (u2 _ _ (by omega)) (u2 _ _ (by omega))
    have e10 := hB2.2.2.1
    refine ⟨⟨by omega, by omega⟩, ?_⟩
    rw [e10]
    refine ⟨_, m_findLoads hB2 u1 (Nat.le_refl _), fun g4 h4 => ⟨⟨by omega, by omega⟩, ?_⟩⟩
    obtain ⟨l1, l2⟩ := h4
    exact ⟨l1 n (by omega), hR.scr (fun a b x y => by rw [l2 _ _ (by omega), u2 _ _ (by omega)]) (fun b x => by rw [l2 _ _ (by omega), u2 _ _ (by omega)]), fun a b x => by rw [l2 _ _ (by omega), u2 _ _ (by omega)]⟩
  · have ef : f_load σ v = (-4, σ) := by
      unfold f_load
      rw [if_neg (by omega), hR.2.2.1.n c2]
    rw [ef]
    exact ⟨rfl, hR, fun _ _ _ => rfl⟩
  · have ef : f_load σ v = (-2, σ) := by
      unfold f_load
      rw [if_pos (by omega)]
    rw [ef]
    exact ⟨rfl, hR, fun _ _ _ => rfl⟩
theorem y_swap {l : Launch} {d : Nat} {σ : SG} {g : vx_M} (hR : RM σ g) (v w : Int) : spM l mX6_swap (d + 20) [.inr (some 40), .inl v, .inl w] g (f_swap σ v w) := by
  have hL7 : sL σ ≤ 7 := hR.1.1.2.2.1
  have bad : (v < 0 ∨ sL σ ≤ v ∨ w < 0 ∨ sL σ ≤ w) → (fun r g' => r = (f_swap σ v w).1 ∧ RM (f_swap σ v w).2 g' ∧ frM g g') (-2) g := fun h => by
    have ef : f_swap σ v w = (-2, σ) := by
      unfold f_swap
      rw [if_pos h]
    rw [ef]
    exact ⟨rfl, hR, fun _ _ _ => rfl⟩
  refine kX6_swap g v w ⟨_, m_isPlace hR.2.1 v, fun r1 g1 h1 => ?_⟩
  obtain ⟨rfl, h1⟩ := h1
  refine ⟨fun c => bad (by omega), fun c => ⟨_, m_isPlace hR.2.1 w, fun r2 g2 h2 => ?_⟩⟩
  obtain ⟨rfl, h2⟩ := h2
  refine ⟨fun c2 => ⟨fun c3 => ?_, fun c3 => ?_⟩, fun c2 => bad (by omega)⟩
  · obtain ⟨r, e1, e2⟩ := hR.2.2.1.s c3
    obtain ⟨n, rfl⟩ : ∃ n : Nat, v = n := ⟨v.toNat, by omega⟩
    obtain ⟨m, rfl⟩ : ∃ m : Nat, w = m := ⟨w.toNat, by omega⟩
    have hn : n < sL σ := by omega
    have hm : m < sL σ := by omega
    have hx := xch_ok e2.1 hn hm
    have ef : f_swap σ n m = cif (FIT σ (xch r n m)) (1, uHnd σ (xch r n m)) (-4, σ) := by
      unfold f_swap
      rw [if_neg (by omega), e1]
      rfl
    refine ⟨_, m_useHand hR.2.1 e2, fun g3 h3 => ?_⟩
    obtain ⟨u1, u2⟩ := h3
    refine ⟨⟨by omega, by omega⟩, ⟨by omega, by omega⟩, ⟨by omega, by omega⟩, ⟨by omega, by omega⟩, ?_⟩
    generalize hg4 : vx_u (vx_u g3 52 n (g3 52 m)) 52 m (g3 52 n) = g4
    have f4 : ∀ a b, a ≠ 52 → g4 a b = g2 a b := fun a b x => by rw [← hg4, vx_u_k x, vx_u_k x]; exact u2 a b x
    have hr4 : HB σ (xch r n m) 52 g4 := by
      refine ⟨hx, fun i hi => ?_⟩
      rw [xch_get (by rw [e2.1.1]; exact hn) (by rw [e2.1.1]; exact hm) (by rw [e2.1.1]; exact hi), ← hg4]
      by_cases c5 : i = m
      · rw [if_pos c5, c5, vx_u_at]; exact u1.2 n hn
      · rw [if_neg c5, vx_u_j (by omega)]
        by_cases c6 : i = n
        · rw [if_pos c6, c6, vx_u_at]; exact u1.2 m hm
        · rw [if_neg c6, vx_u_j (by omega)]; exact u1.2 i hi
    have hB4 : BM σ g4 := hR.2.1.frame (fun a b x y => f4 a b (by omega)) (f4 _ _ (by omega)) (f4 _ _ (by omega)) (f4 _ _ (by omega)) (f4 _ _ (by omega))
    refine ⟨_, m_fitsSo hB4 hr4, fun r8 g8 h8 => ?_⟩
    obtain ⟨f8, h8⟩ := h8
    have f82 : ∀ a b, a ≠ 52 → a ≠ 53 → g8 a b = g2 a b := fun a b x y => by rw [f8 a b y]; exact f4 a b x
    refine ⟨fun c4 => ?_, fun c4 => ?_⟩
    · have hFit : FIT σ (xch r n m) := by
        rcases h8 with ⟨-, h8⟩ | ⟨h8, -⟩
        · exact h8
        · exact absurd h8 c4
      have loop : ∀ (k p : Nat), p + k = sL σ → ∀ g9 : vx_M, (∀ i : Nat, i < p → g9 51 i = ((xch r n m).getD i 0 : Nat)) → (∀ a b, a ≠ 51 → g9 a b = g8 a b) → ∀ v3 : Int, vN l mX6_swap (d + 19 + 1) (vx_pi SH (fun r9 g' => r9 = (f_swap σ n m).1 ∧ RM (f_swap σ n m).2 g' ∧ frM g2 g')) SH g9 73 [some (.inr (some 40)), some (.inl (n : Int)), some (.inl (m : Int)), some (.inl v3), some (.inl (p : Int))] [] := by
        intro k
        induction k with
        | zero =>
          intro p hp g9 q1 q2 v3
          have e9 : g9 40 10 = (sL σ : Nat) := by rw [q2 _ _ (by omega), f82 _ _ (by omega) (by omega)]; exact hR.2.1.2.2.1
          rw [ef, cif_pos hFit]
          obtain ⟨k1, k2, k3, k4, k5, k6⟩ := hR
          have f9 : ∀ a b, a ≠ 51 → a ≠ 52 → a ≠ 53 → g9 a b = g2 a b := fun a b x y z => by rw [q2 a b x]; exact f82 a b y z
          refine tX6_swap_73 g9 _ _ _ _ ⟨fun _ => ⟨rfl, ⟨⟨k1.1, fun q hq => ?_, k1.2.2⟩, ?_, Or.inr ⟨_, rfl, ?_, hx, fun i hi => q1 i (by have hi : i < sL σ := hi; omega)⟩, ?_, ?_, ?_⟩, fun a b x => f9 a b (by omega) (by omega) (by omega)⟩, fun c => by omega⟩
          · have hq : some (xch r n m) = some q := hq
            cases hq; exact hx
          · exact BM.frame (σ := uHnd σ (xch r n m)) (g := g2) k2 (fun a b x y => f9 a b (by omega) (by omega) (by omega)) (f9 _ _ (by omega) (by omega) (by omega)) (f9 _ _ (by omega) (by omega) (by omega)) (f9 _ _ (by omega) (by omega) (by omega)) (f9 _ _ (by omega) (by omega) (by omega))
          · rw [f9 _ _ (by omega) (by omega) (by omega)]
            rcases k3 with ⟨-, a⟩ | ⟨q, -, a, -⟩
            · exact absurd a c3
            · exact a
          · rw [f9 _ _ (by omega) (by omega) (by omega)]; exact k4
          · rw [f9 _ _ (by omega) (by omega) (by omega)]; exact k5
          · rw [f9 _ _ (by omega) (by omega) (by omega)]; exact k6
        | succ k ih =>
          intro p hp g9 q1 q2 v3
          have e9 : g9 40 10 = (sL σ : Nat) := by rw [q2 _ _ (by omega), f82 _ _ (by omega) (by omega)]; exact hR.2.1.2.2.1
          have e52 : g9 52 p = ((xch r n m).getD p 0 : Nat) := by rw [q2 _ _ (by omega), f8 _ _ (by omega)]; exact hr4.2 p (by omega)
          refine tX6_swap_73 g9 _ _ _ _ ⟨fun c => by omega, fun _ => ⟨⟨by omega, by omega⟩, ⟨by omega, by omega⟩, ⟨by omega, by omega⟩, ?_⟩⟩
          exact ih (p + 1) (by omega) _ (fun i hi => by
            by_cases ei : i = p
            · rw [ei, vx_u_at]; exact e52
            · rw [vx_u_j (by omega)]; exact q1 i (by omega)) (fun a b x => by rw [vx_u_k x]; exact q2 a b x) v3
      exact loop (sL σ) 0 (by omega) g8 (fun i hi => by omega) (fun _ _ _ => rfl) _
    · have hFit : ¬ FIT σ (xch r n m) := by
        rcases h8 with ⟨h8, h9⟩ | ⟨-, h8⟩
        · have := UN_bd hR.1.1 h9; omega
        · exact h8
      rw [ef, cif_neg hFit]
      exact ⟨rfl, hR.scr (fun a b x y => f82 a b (by omega) (by omega)) (fun b x => f82 _ _ (by omega) (by omega)), fun a b x => f82 a b (by omega) (by omega)⟩
  · have ef : f_swap σ v w = (-4, σ) := by
      unfold f_swap
      rw [if_neg (by omega), hR.2.2.1.n c3]
    rw [ef]
    exact ⟨rfl, hR, fun _ _ _ => rfl⟩
theorem y_tick {l : Launch} {d : Nat} {σ : SG} {g : vx_M} (hR : RM σ g) (v : Int) : spM l mX6_tick (d + 20) [.inr (some 40), .inl v] g (f_tick σ v) := by
  have bC := CR_le hR.1.1
  refine kX6_tick g v ⟨_, c_in v 0 2, fun r1 g1 h => ?_⟩
  obtain ⟨rfl, h⟩ := h
  refine ⟨fun c => ⟨fun c2 => ?_, fun c2 => ?_⟩, fun c => ?_⟩
  · obtain ⟨r, e1, e2⟩ := hR.2.2.1.s c2
    have ef : f_tick σ v = (if v = 0 then (sCR σ : Int) else if v = 1 then 2 * (sCR σ : Int) else (clk σ r 200).2.1, σ) := by
      unfold f_tick
      rw [if_neg (by omega), e1]
    rw [ef]
    refine ⟨_, m_climb (ticks := 200) hR.2.1 e2 (by omega), fun r2 g2 h2 => ?_⟩
    obtain ⟨rfl, k1, k2⟩ := h2
    refine ⟨fun c4 => ⟨fun c5 => ⟨?_, hR.fk k2, k2.m⟩, fun c5 => ⟨⟨by omega, by omega⟩, ?_, hR.fk k2, k2.m⟩⟩, fun c4 => ⟨?_, hR.fk k2, k2.m⟩⟩
    · show _ = (if v = 0 then (sCR σ : Int) else if v = 1 then 2 * (sCR σ : Int) else (clk σ r 200).2.1)
      rw [if_neg c4, if_neg c5]; exact k1.2.1
    · show _ = (if v = 0 then (sCR σ : Int) else if v = 1 then 2 * (sCR σ : Int) else (clk σ r 200).2.1)
      rw [if_neg c4, if_pos c5]
    · show _ = (if v = 0 then (sCR σ : Int) else if v = 1 then 2 * (sCR σ : Int) else (clk σ r 200).2.1)
      rw [if_pos c4]
  · have ef : f_tick σ v = (-4, σ) := by
      unfold f_tick
      rw [if_neg (by omega), hR.2.2.1.n c2]
    rw [ef]
    exact ⟨rfl, hR, fun _ _ _ => rfl⟩
  · have ef : f_tick σ v = (-3, σ) := by
      unfold f_tick
      rw [if_pos (by omega)]
    rw [ef]
    exact ⟨rfl, hR, fun _ _ _ => rfl⟩
theorem y_weak {l : Launch} {d : Nat} {σ : SG} {g : vx_M} (hR : RM σ g) : spM l mX6_weak (d + 20) [.inr (some 40)] g (f_weak σ) := by
  refine kX6_weak g ⟨fun c2 => ?_, fun c2 => ?_⟩
  · obtain ⟨r, e1, e2⟩ := hR.2.2.1.s c2
    have ef : f_weak σ = ((clk σ r 200).2.2, σ) := by
      unfold f_weak
      rw [e1]
    rw [ef]
    refine ⟨_, m_climb (ticks := 200) hR.2.1 e2 (by omega), fun r2 g2 h2 => ?_⟩
    obtain ⟨rfl, k1, k2⟩ := h2
    exact ⟨k1.2.2, hR.fk k2, k2.m⟩
  · have ef : f_weak σ = (-4, σ) := by
      unfold f_weak
      rw [hR.2.2.1.n c2]
    rw [ef]
    exact ⟨rfl, hR, fun _ _ _ => rfl⟩
theorem y_effort {l : Launch} {d : Nat} {σ : SG} {g : vx_M} (hR : RM σ g) (v t : Int) : spM l mX6_effort (d + 20) [.inr (some 40), .inl v, .inl t] g (f_effort σ v t) := by
  have hL7 : sL σ ≤ 7 := hR.1.1.2.2.1
  refine kX6_effort g v t ⟨_, m_isPlace hR.2.1 v, fun r1 g1 h => ?_⟩
  obtain ⟨rfl, h⟩ := h
  refine ⟨fun c => ⟨_, c_in t 0 200, fun r2 g2 h2 => ?_⟩, fun c => ?_⟩
  · obtain ⟨rfl, h2⟩ := h2
    refine ⟨fun c1 => ⟨fun c2 => ?_, fun c2 => ?_⟩, fun c1 => ?_⟩
    · obtain ⟨r, e1, e2⟩ := hR.2.2.1.s c2
      obtain ⟨n, rfl⟩ : ∃ n : Nat, v = n := ⟨v.toNat, by omega⟩
      obtain ⟨m, rfl⟩ : ∃ m : Nat, t = m := ⟨t.toNat, by omega⟩
      have ef : f_effort σ n m = ((clk σ r m).1 n, σ) := by
        unfold f_effort
        rw [if_neg (by omega), if_neg (by omega), e1]
        rfl
      rw [ef]
      refine ⟨_, m_climb (ticks := m) hR.2.1 e2 (by omega), fun r2 g4 h4 => ⟨⟨by omega, by omega⟩, ?_⟩⟩
      obtain ⟨rfl, k1, k2⟩ := h4
      exact ⟨k1.1 n (by omega), hR.fk k2, k2.m⟩
    · have ef : f_effort σ v t = (-4, σ) := by
        unfold f_effort
        rw [if_neg (by omega), if_neg (by omega), hR.2.2.1.n c2]
      rw [ef]
      exact ⟨rfl, hR, fun _ _ _ => rfl⟩
    · have ef : f_effort σ v t = (-3, σ) := by
        unfold f_effort
        rw [if_neg (by omega), if_pos (by omega)]
      rw [ef]
      exact ⟨rfl, hR, fun _ _ _ => rfl⟩
  · have ef : f_effort σ v t = (-2, σ) := by
      unfold f_effort
      rw [if_pos (by omega)]
    rw [ef]
    exact ⟨rfl, hR, fun _ _ _ => rfl⟩
theorem RM.wor {σ : SG} {g g' : vx_M} (hR : RM σ g) {c d t : Int} (hc : 0 ≤ c ∧ c ≤ 1000) (hd : 0 ≤ d ∧ d ≤ 1000) (ht : 0 ≤ t ∧ t ≤ 1000000) (h29 : g' 40 29 = c) (h30 : g' 40 30 = d) (h31 : g' 40 31 = t) (h40 : ∀ b, b ≠ 29 → b ≠ 30 → b ≠ 31 → g' 40 b = g 40 b) (hf : ∀ a b, a ≠ 40 → g' a b = g a b) : RM (σ.1, σ.2.1, σ.2.2.1, σ.2.2.2.1, (c, d, t)) g' := by
  obtain ⟨k1, k2, k3, k4, k5, k6⟩ := hR
  refine ⟨⟨k1.1, k1.2.1, hc, hd, ht⟩, BM.frame (σ := (σ.1, σ.2.1, σ.2.2.1, σ.2.2.2.1, (c, d, t))) (g := g) k2 (fun a b x y => hf a b (by omega)) (h40 _ (by omega) (by omega) (by omega)) (h40 _ (by omega) (by omega) (by omega)) (h40 _ (by omega) (by omega) (by omega)) (h40 _ (by omega) (by omega) (by omega)), ?_, h29, h30, h31⟩
  rcases k3 with ⟨a, b⟩ | ⟨r, a, b, c⟩
  · exact Or.inl ⟨a, by rw [h40 _ (by omega) (by omega) (by omega)]; exact b⟩
  · exact Or.inr ⟨r, a, by rw [h40 _ (by omega) (by omega) (by omega)]; exact b, c.1, fun i hi => by rw [hf _ _ (by omega)]; exact c.2 i hi⟩
theorem y_worths {l : Launch} {d : Nat} {σ : SG} {g : vx_M} (hR : RM σ g) (v w : Int) : spM l mX6_worths (d + 20) [.inr (some 40), .inl v, .inl w] g (f_worths σ v w) := by
  have bad : ¬ ((0 ≤ v ∧ v ≤ 1000) ∧ (0 ≤ w ∧ w ≤ 1000)) → (fun r g' => r = (f_worths σ v w).1 ∧ RM (f_worths σ v w).2 g' ∧ frM g g') (-3) g := fun h => by
    have ef : f_worths σ v w = (-3, σ) := by
      unfold f_worths
      rw [if_pos h]
    rw [ef]
    exact ⟨rfl, hR, fun _ _ _ => rfl⟩
  refine kX6_worths g v w ⟨_, c_in v 0 1000, fun r1 g1 h1 => ?_⟩
  obtain ⟨rfl, h1⟩ := h1
  refine ⟨fun _ => bad (by omega), fun _ => ⟨_, c_in w 0 1000, fun r2 g2 h2 => ?_⟩⟩
  obtain ⟨rfl, h2⟩ := h2
  refine ⟨fun _ => ?_, fun _ => bad (by omega)⟩
  have ef : f_worths σ v w = (1, uWor σ v w) := by
    unfold f_worths
    rw [if_neg (by omega)]
  rw [ef]
  refine ⟨rfl, hR.wor (by omega) (by omega) hR.1.2.2.2.2 ?_ vx_u_at ?_ (fun b x y z => by rw [vx_u_j y, vx_u_j x]) (fun a b x => by rw [vx_u_k x, vx_u_k x]), fun a b x => by rw [vx_u_k (by omega), vx_u_k (by omega)]⟩
  · rw [vx_u_j (by omega), vx_u_at]
  · rw [vx_u_j (by omega), vx_u_j (by omega)]; exact hR.2.2.2.2.2
theorem y_attempt {l : Launch} {d : Nat} {σ : SG} {g : vx_M} (hR : RM σ g) (hT : sT σ + 1000 ≤ 1000000) : spM l mX6_attempt (d + 20) [.inr (some 40)] g (f_attempt σ) := by
  refine kX6_attempt g ⟨fun c2 => ?_, fun c2 => ?_⟩
  · obtain ⟨r, e1, e2⟩ := hR.2.2.1.s c2
    have ef : f_attempt σ = (pnt σ r, uPts σ (sT σ + pnt σ r)) := by
      unfold f_attempt
      rw [e1]
    have bp := pnt_bd hR.1 r
    have b0 := hR.1.2.2.2.2
    refine ⟨_, m_climb (ticks := 200) hR.2.1 e2 (by omega), fun r1 g1 h => ?_⟩
    obtain ⟨rfl, k1, k2⟩ := h
    have hR1 := hR.fk k2
    have fin : ∀ w, w = pnt σ r → vN l mX6_attempt (d + 19 + 1) (vx_pi SH (fun r9 g' => r9 = (f_attempt σ).1 ∧ RM (f_attempt σ).2 g' ∧ frM g g')) SH g1 49 [some (.inr (some 40)), some (.inl ((sCR σ : Nat) : Int)), none] [.inl w] := by
      intro w hw
      have e31 := hR1.2.2.2.2.2
      subst hw
      refine tX6_attempt_49 g1 _ _ ⟨?_, ?_⟩
      · rw [e31]; exact ⟨by omega, by omega⟩
      · rw [e31, ef]
        refine ⟨rfl, hR1.wor hR1.1.2.2.1 hR1.1.2.2.2.1 (by omega) ?_ ?_ vx_u_at (fun b x y z => vx_u_j z) (fun a b x => vx_u_k x), fun a b x => ?_⟩
        · rw [vx_u_j (by omega)]; exact hR1.2.2.2.1
        · rw [vx_u_j (by omega)]; exact hR1.2.2.2.2.1
        · rw [vx_u_k (by omega)]; exact k2.m a b x
    refine ⟨fun c3 => ⟨fun c4 => fin _ ?_, fun c4 => fin _ ?_⟩, fun c3 => fin _ ?_⟩
    · rw [k1.2.1] at c3 c4
      unfold pnt
      rw [if_neg c3, if_neg (by omega)]
    · rw [k1.2.1] at c3 c4
      unfold pnt
      rw [if_neg c3, if_pos (by omega)]
      exact hR1.2.2.2.1
    · rw [k1.2.1] at c3
      unfold pnt
      rw [if_pos c3]
      exact hR1.2.2.2.2.1
  · have ef : f_attempt σ = (-4, σ) := by
      unfold f_attempt
      rw [hR.2.2.1.n c2]
    rw [ef]
    exact ⟨rfl, hR, fun _ _ _ => rfl⟩
theorem y_count {l : Launch} {d : Nat} {σ : SG} {g : vx_M} (hR : RM σ g) (v : Int) : spM l mX6_count (d + 20) [.inr (some 40), .inl v] g (f_count σ v) := by
  have hB := hR.2.1
  have e2 := hB.2.2.2.2.1
  have hn8 := hB.1.2.2.2.1
  have fin : ∀ z : Int, z = (f_count σ v).1 → (fun r g' => r = (f_count σ v).1 ∧ RM (f_count σ v).2 g' ∧ frM g g') z g := fun z hz => ⟨hz, hR, fun _ _ _ => rfl⟩
  refine kX6_count g v ⟨fun c => fin _ ?_, fun c => fin _ ?_, fun c => fin _ ?_, fun c => fin _ ?_, fun c => ?_, fun c => fin _ ?_, fun c => ⟨fun c2 => fin _ ?_, fun c2 => fin _ ?_⟩⟩
  · unfold f_count
    simp only
    rw [if_neg (by omega), if_neg (by omega), if_neg (by omega), if_neg (by omega), if_neg (by omega), if_neg (by omega)]
  · subst c; exact hB.2.1
  · subst c; exact hB.2.2.1
  · subst c; exact hB.2.2.2.2.1
  · have key : ∀ (k i : Nat), i + k = sN σ → vN l mX6_count (d + 20) (vx_pi SH (fun r g' => r = (f_count σ v).1 ∧ RM (f_count σ v).2 g' ∧ frM g g')) SH g 57 [some (.inr (some 40)), some (.inl v), some (.inl (co σ i)), some (.inl (i : Int))] [] := by
      intro k
      induction k with
      | zero =>
        intro i hi
        refine tX6_count_57 g _ _ _ ⟨fun _ => fin _ ?_, fun c => by omega⟩
        rw [show i = sN σ by omega]
        subst c; rfl
      | succ k ih =>
        intro i hi
        have e47 : g 47 i = sA σ 5 i := hB.2.2.2.2.2.1 5 i (by omega) (by omega)
        have bc := co_bd (σ := σ) i
        refine tX6_count_57 g _ _ _ ⟨fun c => by omega, fun _ => ⟨⟨by omega, by omega⟩, fun c1 => ⟨⟨by omega, by omega⟩, ⟨by omega, by omega⟩, ?_⟩, fun c1 => ⟨⟨by omega, by omega⟩, ⟨by omega, by omega⟩, ?_⟩⟩⟩
        · have h9 := ih (i + 1) (by omega)
          have e : co σ (i + 1) = co σ i + 0 := by
            show co σ i + (if sA σ 5 i = 0 then 0 else 1) = _
            rw [if_pos (by omega)]
          rw [e] at h9
          exact h9
        · have h9 := ih (i + 1) (by omega)
          have e : co σ (i + 1) = co σ i + 1 := by
            show co σ i + (if sA σ 5 i = 0 then 0 else 1) = _
            rw [if_neg (by omega)]
          rw [e] at h9
          exact h9
    exact key (sN σ) 0 (by omega)
  · subst c; exact hR.2.2.2.2.2
  · subst c
    show 0 = (match sR σ with | none => (0 : Int) | some _ => 1)
    rw [hR.2.2.1.n c2]
  · subst c
    show 1 = (match sR σ with | none => (0 : Int) | some _ => 1)
    obtain ⟨r, e1, e2⟩ := hR.2.2.1.s c2
    rw [e1]

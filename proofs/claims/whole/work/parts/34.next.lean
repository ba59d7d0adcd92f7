theorem m_isAhead {l : Launch} {d : Nat} {g : vx_M} {p : Nat} (hp : p < 12) : vNi l mX6_isAhead d [.inr (some 40), .inl (p : Int)] SH g (fun z g' => g' = g ∧ ((z = 1 ∧ ∃ i : Nat, i < p ∧ g 52 i = g 52 p) ∨ (z = 0 ∧ ∀ i : Nat, i < p → g 52 i ≠ g 52 p))) := by
  refine kX6_isAhead g p ?_
  have key : ∀ (k i : Nat), i + k = p → ∀ v : Int, ((v = 1 ∧ ∃ j : Nat, j < i ∧ g 52 j = g 52 p) ∨ (v = 0 ∧ ∀ j : Nat, j < i → g 52 j ≠ g 52 p)) → vN l mX6_isAhead d (vx_pi SH (fun z g' => g' = g ∧ ((z = 1 ∧ ∃ i : Nat, i < p ∧ g 52 i = g 52 p) ∨ (z = 0 ∧ ∀ i : Nat, i < p → g 52 i ≠ g 52 p)))) SH g 4 [some (.inr (some 40)), some (.inl (p : Int)), some (.inl v), some (.inl (i : Int))] [] := by
    intro k
    induction k with
    | zero =>
      intro i hi v hv
      have e : i = p := by omega
      subst e
      refine tX6_isAhead_4 g _ _ _ ⟨fun _ => ⟨by omega, rfl, hv⟩, fun c => by omega⟩
    | succ k ih =>
      intro i hi v hv
      refine tX6_isAhead_4 g _ _ _ ⟨fun c => by omega, fun _ => ⟨fun c => ⟨⟨by omega, by omega⟩, ?_⟩, fun c => ⟨⟨by omega, by omega⟩, ⟨by omega, by omega⟩, fun c2 => ⟨⟨by omega, by omega⟩, ?_⟩, fun c2 => ⟨⟨by omega, by omega⟩, ?_⟩⟩⟩⟩
      · refine ih (i + 1) (by omega) 1 (Or.inl ⟨rfl, ?_⟩)
        rcases hv with ⟨-, j, h1, h2⟩ | ⟨h, -⟩
        · exact ⟨j, by omega, h2⟩
        · exact absurd h c
      · refine ih (i + 1) (by omega) 0 (Or.inr ⟨rfl, fun j hj => ?_⟩)
        rcases hv with ⟨h, -⟩ | ⟨-, h⟩
        · omega
        · by_cases e : j = i
          · rw [e]; exact c2
          · exact h j (by omega)
      · exact ih (i + 1) (by omega) 1 (Or.inl ⟨rfl, i, by omega, c2⟩)
  exact key p 0 (by omega) 0 (Or.inr ⟨rfl, fun j hj => by omega⟩)
/-- the first entries of the row -/
def RW (L : List Nat) (g : vx_M) : Prop := ∀ i : Nat, i < L.length → g 52 i = (L.getD i 0 : Nat)
theorem mem_getD {L : List Nat} {y : Nat} : y ∈ L ↔ ∃ i, i < L.length ∧ L.getD i 0 = y := by
  constructor
  · intro h
    obtain ⟨i, hi⟩ := List.getElem?_of_mem h
    exact ⟨i, (List.getElem?_eq_some_iff.mp hi).1, by rw [List.getD_eq_getElem?_getD, hi]; rfl⟩
  · rintro ⟨i, h1, h2⟩
    rw [List.getD_eq_getElem?_getD, List.getElem?_eq_getElem h1] at h2
    have h2 : L[i] = y := h2
    rw [← h2]
    exact List.getElem_mem h1
theorem RW.ahead {L : List Nat} {g : vx_M} (h : RW L g) {y : Nat} (hy : g 52 L.length = (y : Nat)) : (∃ i : Nat, i < L.length ∧ g 52 i = g 52 L.length) ↔ y ∈ L := by
  rw [mem_getD]
  constructor
  · rintro ⟨i, h1, h2⟩
    refine ⟨i, h1, ?_⟩
    rw [h i h1, hy] at h2
    omega
  · rintro ⟨i, h1, h2⟩
    refine ⟨i, h1, ?_⟩
    rw [h i h1, hy, h2]
theorem RW.push {L : List Nat} {g : vx_M} (h : RW L g) {y : Nat} (hy : g 52 L.length = (y : Nat)) : RW (L ++ [y]) g := fun i hi => by
  rw [List.length_append] at hi
  have hi : i < L.length + 1 := hi
  by_cases c : i = L.length
  · rw [c, hy, getD_app_eq]
  · rw [getD_app_lt (by omega)]
    exact h i (by omega)
theorem RW.upd {L : List Nat} {g : vx_M} (h : RW L g) {j : Nat} (hj : L.length ≤ j) {v : Int} : RW L (vx_u g 52 j v) := fun i hi => by
  rw [vx_u_j (by omega)]
  exact h i hi
def QN (σ : SG) (r : List Nat) (g : vx_M) : Int → vx_M → Prop := fun z g' => (∀ a b, a ≠ 52 → g' a b = g a b) ∧ ((z = 0 ∧ nx (sN σ) (sL σ) (sL σ) r = none) ∨ (z = 1 ∧ ∃ e, nx (sN σ) (sL σ) (sL σ) r = some e ∧ e.length = sL σ ∧ RW e g'))
theorem m_hasNext {l : Launch} {d : Nat} {σ : SG} {g : vx_M} (hB : BM σ g) {r : List Nat} (hl : r.length = sL σ) (hi : inj (sN σ) r) (hr : RW r g) (hnl : sL σ ≤ sN σ) : vNi l mX6_hasNext (d + 1) [.inr (some 40)] SH g (QN σ r g) := by
  have hv := hB.1
  have h7 : sL σ ≤ 7 := hv.2.2.1
  have hn8 := hv.2.2.2.1
  have e10 := hB.2.2.1
  have e2 := hB.2.2.2.2.1
  refine kX6_hasNext g ⟨⟨by omega, by omega⟩, ?_⟩
  rw [e10]
  -- the rest of the row is filled
  have fill : ∀ (k : Nat) (cur : List Nat) (v1 : Int) (g1 : vx_M), cur.length + k = sL σ → k ≤ fcr cur (sN σ) → RW cur g1 → (∀ a b, a ≠ 52 → g1 a b = g a b) → nx (sN σ) (sL σ) (sL σ) r = some (fl (sN σ) k cur) → vN l mX6_hasNext (d + 1) (vx_pi SH (QN σ r g)) SH g1 72 [some (.inr (some 40)), some (.inl v1), some (.inl (cur.length : Int))] [] := by
    intro k
    induction k with
    | zero =>
      intro cur v1 g1 h1 h2 h3 h4 h5
      have e9 : g1 40 10 = (sL σ : Nat) := by rw [h4 40 _ (by omega)]; exact e10
      refine tX6_hasNext_72 g1 _ _ ⟨fun _ => ⟨h4, Or.inr ⟨rfl, cur, h5, by omega, h3⟩⟩, fun c => by omega⟩
    | succ k ih =>
      intro cur v1 g1 h1 h2 h3 h4 h5
      have e9 : g1 40 10 = (sL σ : Nat) := by rw [h4 40 _ (by omega)]; exact e10
      obtain ⟨x, hx, hxn, hxp⟩ := ff_ex (pre := cur) (n := sN σ) (by omega)
      have efl : fl (sN σ) (k + 1) cur = fl (sN σ) k (cur ++ [x]) := by
        show (match ff cur (sN σ) 0 with | some x => fl (sN σ) k (cur ++ [x]) | none => cur) = _
        rw [hx]
      have hlen : (cur ++ [x]).length = cur.length + 1 := by rw [List.length_append]; rfl
      refine tX6_hasNext_72 g1 _ _ ⟨fun c => by omega, fun _ => ⟨⟨by omega, by omega⟩, ?_⟩⟩
      have inner : ∀ (f y : Nat), y + f = sN σ → ff cur f y = some x → ∀ g2, RW cur g2 → g2 52 cur.length = (y : Nat) → (∀ a b, a ≠ 52 → g2 a b = g a b) → vN l mX6_hasNext (d + 1) (vx_pi SH (QN σ r g)) SH g2 87 [some (.inr (some 40)), some (.inl v1), some (.inl (cur.length : Int))] [] := by
        intro f
        induction f with
        | zero => intro y hy hff; cases hff
        | succ f ihf =>
          intro y hy hff g2 q1 q2 q3
          have hff' : (if y ∈ cur then ff cur f (y + 1) else some y) = some x := hff
          refine tX6_hasNext_87 g2 _ _ ⟨_, m_isAhead (by omega), fun r1 g3 h => ?_⟩
          obtain ⟨rfl, h⟩ := h
          have ha := q1.ahead q2
          refine ⟨fun c => ⟨⟨by omega, by omega⟩, ?_⟩, fun c => ⟨⟨by omega, by omega⟩, ?_, ⟨by omega, by omega⟩, ?_⟩⟩
          · have hny : y ∉ cur := fun hm => by
              obtain ⟨i, i1, i2⟩ := ha.mpr hm
              rcases h with ⟨h, -⟩ | ⟨-, h⟩
              · omega
              · exact h i i1 i2
            rw [if_neg hny] at hff'
            cases hff'
            have h9 := ih (cur ++ [x]) v1 g3 (by rw [hlen]; omega) (by
              have := fcr_app hxp (sN σ)
              rw [if_pos hxn] at this
              omega) (q1.push q2) q3 (by rw [← efl]; exact h5)
            rw [hlen] at h9
            exact h9
          · rw [q2]; exact ⟨by omega, by omega⟩
          · have hym : y ∈ cur := by
              rcases h with ⟨-, h⟩ | ⟨h, -⟩
              · exact ha.mp h
              · exact absurd h c
            rw [if_pos hym] at hff'
            rw [q2]
            exact ihf (y + 1) (by omega) hff' _ (q1.upd (Nat.le_refl _)) (by rw [vx_u_at]; omega) (fun a b z => by rw [vx_u_k z]; exact q3 a b z)
      exact inner (sN σ) 0 (by omega) hx _ (h3.upd (Nat.le_refl _)) (by rw [vx_u_at]; rfl) (fun a b z => by rw [vx_u_k z]; exact h4 a b z)
  have main : ∀ (k : Nat), k ≤ sL σ → nx (sN σ) (sL σ) k r = nx (sN σ) (sL σ) (sL σ) r → ∀ g1, RW (r.take k) g1 → (∀ a b, a ≠ 52 → g1 a b = g a b) → vN l mX6_hasNext (d + 1) (vx_pi SH (QN σ r g)) SH g1 7 [some (.inr (some 40)), some (.inl ((k : Int) - 1)), none] [] := by
    intro k
    induction k with
    | zero =>
      intro hk h1 g1 h2 h3
      refine tX6_hasNext_7 g1 _ ⟨fun _ => ⟨h3, Or.inl ⟨rfl, h1.symm⟩⟩, fun c => by omega⟩
    | succ p ih =>
      intro hk h1 g1 h2 h3
      have ek : ((p + 1 : Nat) : Int) - 1 = (p : Int) := by omega
      rw [ek]
      have hp : p < r.length := by omega
      obtain ⟨hxn, hxt⟩ := hi p hp
      have htl : (r.take p).length = p := by rw [List.length_take]; omega
      have e52 : g1 52 p = (r.getD p 0 : Nat) := by
        rw [take_s hp] at h2
        have := h2 p (by rw [List.length_append, htl]; show p < p + 1; omega)
        rw [this]
        congr 1
        have e := getD_app_eq (l := r.take p) (x := r.getD p 0)
        rw [htl] at e
        exact e
      have h2p : RW (r.take p) g1 := fun i hi9 => by
        rw [htl] at hi9
        have := h2 i (by rw [take_s hp, List.length_append, htl]; show i < p + 1; omega)
        rw [this, take_s hp, getD_app_lt (by rw [htl]; exact hi9)]
      have enx : nx (sN σ) (sL σ) (p + 1) r = match ff (r.take p) (sN σ - (r.getD p 0 + 1)) (r.getD p 0 + 1) with | some x => some (fl (sN σ) (sL σ - p - 1) (r.take p ++ [x])) | none => nx (sN σ) (sL σ) p r := rfl
      refine tX6_hasNext_7 g1 _ ⟨fun c => by omega, fun _ => ⟨⟨by omega, by omega⟩, ?_, ⟨by omega, by omega⟩, ?_⟩⟩
      · rw [e52]; exact ⟨by omega, by omega⟩
      · rw [e52]
        have step : ∀ (f y : Nat), y + f = sN σ → ff (r.take p) f y = ff (r.take p) (sN σ - (r.getD p 0 + 1)) (r.getD p 0 + 1) → ∀ g2, RW (r.take p) g2 → g2 52 p = (y : Nat) → (∀ a b, a ≠ 52 → g2 a b = g a b) → vN l mX6_hasNext (d + 1) (vx_pi SH (QN σ r g)) SH g2 21 [some (.inr (some 40)), some (.inl (p : Int)), none] [] := by
          intro f
          induction f with
          | zero =>
            intro y hy hff g2 q1 q2 q3
            have e9 : g2 40 2 = (sN σ : Nat) := by rw [q3 40 _ (by omega)]; exact e2
            refine tX6_hasNext_21 g2 _ ⟨⟨by omega, by omega⟩, fun _ => ?_, fun c => by omega⟩
            refine tX6_hasNext_55 g2 _ ⟨⟨by omega, by omega⟩, fun _ => ⟨⟨by omega, by omega⟩, ?_⟩, fun c => by omega⟩
            have hff : none = ff (r.take p) (sN σ - (r.getD p 0 + 1)) (r.getD p 0 + 1) := hff
            rw [← hff] at enx
            exact ih (by omega) (enx.symm.trans h1) g2 q1 q3
          | succ f ihf =>
            intro y hy hff g2 q1 q2 q3
            have e9 : g2 40 2 = (sN σ : Nat) := by rw [q3 40 _ (by omega)]; exact e2
            have hff' : (if y ∈ r.take p then ff (r.take p) f (y + 1) else some y) = ff (r.take p) (sN σ - (r.getD p 0 + 1)) (r.getD p 0 + 1) := hff
            have q2' : g2 52 (r.take p).length = (y : Nat) := by rw [htl]; exact q2
            have ha := q1.ahead q2'
            rw [htl] at ha
            refine tX6_hasNext_21 g2 _ ⟨⟨by omega, by omega⟩, fun c => by omega, fun _ => ⟨_, m_isAhead (by omega), fun r1 g3 h => ?_⟩⟩
            obtain ⟨rfl, h⟩ := h
            refine ⟨fun c => ?_, fun c => ⟨⟨by omega, by omega⟩, ?_, ⟨by omega, by omega⟩, ?_⟩⟩
            · have hny : y ∉ r.take p := fun hm => by
                obtain ⟨i, i1, i2⟩ := ha.mpr hm
                rcases h with ⟨h, -⟩ | ⟨-, h⟩
                · omega
                · exact h i i1 i2
              rw [if_neg hny] at hff'
              rw [← hff'] at enx
              refine tX6_hasNext_55 g3 _ ⟨⟨by omega, by omega⟩, fun c => by omega, fun _ => ⟨⟨by omega, by omega⟩, ?_⟩⟩
              have hlen : (r.take p ++ [y]).length = p + 1 := by rw [List.length_append, htl]; rfl
              have h9 := fill (sL σ - p - 1) (r.take p ++ [y]) (p : Int) g3 (by rw [hlen]; omega) (by
                have a1 := fcr_app hny (sN σ)
                rw [if_pos (by omega)] at a1
                have a2 := inj_fcr hi p (by omega)
                omega) (q1.push q2') q3 (h1.symm.trans enx)
              rw [hlen] at h9
              exact h9
            · rw [q2]; exact ⟨by omega, by omega⟩
            · have hym : y ∈ r.take p := by
                rcases h with ⟨-, h⟩ | ⟨h, -⟩
                · exact ha.mp h
                · exact absurd h c
              rw [if_pos hym] at hff'
              rw [q2]
              exact ihf (y + 1) (by omega) hff' _ (q1.upd (by omega)) (by rw [vx_u_at]; omega) (fun a b z => by rw [vx_u_k z]; exact q3 a b z)
        exact step (sN σ - (r.getD p 0 + 1)) (r.getD p 0 + 1) (by omega) rfl _ (h2p.upd (by omega)) (by rw [vx_u_at]; omega) (fun a b z => by rw [vx_u_k z]; exact h3 a b z)
  exact main (sL σ) (Nat.le_refl _) rfl g (by rw [← hl, List.take_length]; exact hr) (fun _ _ _ => rfl)

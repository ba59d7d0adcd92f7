theorem m_findLoads {l : Launch} {d : Nat} {σ : SG} {g : vx_M} (hB : BM σ g) {r : List Nat} (hr : HB σ r 52 g) {m : Nat} (hm : m ≤ sL σ) : vNv l mX6_findLoads d [.inr (some 40), .inl ((m : Int) - 1)] SH g (fun g' => (∀ q : Nat, q < sL σ → g' 53 q = lD σ r q m) ∧ ∀ a b, a ≠ 53 → g' a b = g a b) := by
  have hv := hB.1
  have hw := hv.2.1
  have h7 : sL σ ≤ 7 := hv.2.2.1
  have h44 := sL_4 hv
  have hn8 := hv.2.2.2.1
  have e10 := hB.2.2.1
  generalize hu : (fun a => sA σ 1 (r.getD a 0)) = u
  have eld : ∀ q, lD σ r q m = ld (fun a b => (pH (sW σ) a b : Int)) u q m := fun q => by rw [← hu]; rfl
  have ub : ∀ a, a < m → 0 ≤ u a ∧ u a ≤ 120 := fun a ha => by
    have := (hv.2.2.2.2.1 _ (hr.1.2 a (by omega))).2.1
    rw [← hu]
    show 0 ≤ sA σ 1 _ ∧ sA σ 1 _ ≤ 120
    omega
  have fpos : ∀ q p, p < m → 0 ≤ cP (sW σ) p q * (4 * u p + hl (sW σ) u p m) := fun q p hp => by
    have h1 := ub p hp
    have h2 := hl_pos (W := sW σ) (u := u) (p := p) m ub
    exact Int.mul_nonneg cP_pos (by omega)
  have fsum : ∀ q, q < 7 → cS (fun p => cP (sW σ) p q * (4 * u p + hl (sW σ) u p m)) m = lD σ r q m := fun q hq => by rw [eld, ld_sum hw hq m (by omega) (by omega)]
  refine kX6_findLoads g _ ?_
  have key2 : ∀ (k : Nat), k ≤ m → ∀ g1, (∀ q : Nat, q < sL σ → g1 53 q = lD σ r q m - cS (fun p => cP (sW σ) p q * (4 * u p + hl (sW σ) u p m)) k) → (∀ a b, a ≠ 53 → g1 a b = g a b) → vN l mX6_findLoads d (vx_pv SH (fun g' => (∀ q : Nat, q < sL σ → g' 53 q = lD σ r q m) ∧ ∀ a b, a ≠ 53 → g' a b = g a b)) SH g1 25 [some (.inr (some 40)), some (.inl ((m : Int) - 1)), some (.inl ((k : Int) - 1)), none] [] := by
    intro k
    induction k with
    | zero =>
      intro hk g1 h1 h2
      refine tX6_findLoads_25 g1 _ _ ⟨fun _ => ⟨fun q hq => ?_, h2⟩, fun c => by omega⟩
      rw [h1 q hq]
      show _ - (0 : Int) = _
      omega
    | succ k ih =>
      intro hk g1 h1 h2
      have ek : ((k + 1 : Nat) : Int) - 1 = (k : Int) := by omega
      rw [ek]
      have e49 : g1 49 k = sup (sW σ) k 0 := by rw [h2 49 _ (by omega)]; exact (hB.2.2.2.2.2.2.2 k (by omega)).2.1
      have e50 : g1 50 k = sup (sW σ) k 1 := by rw [h2 50 _ (by omega)]; exact (hB.2.2.2.2.2.2.2 k (by omega)).2.2
      have e52 : g1 52 k = (r.getD k 0 : Nat) := by rw [h2 52 _ (by omega)]; exact hr.2 k (by omega)
      have hxn := hr.1.2 k (by omega)
      have e43 : g1 43 (r.getD k 0 : Nat) = u k := by
        rw [h2 43 _ (by omega), ← hu]
        exact hB.2.2.2.2.2.1 1 (r.getD k 0) (by omega) (by omega)
      have bu := ub k (by omega)
      have bh := hl_pos (W := sW σ) (u := u) (p := k) m ub
      refine tX6_findLoads_25 g1 _ _ ⟨fun c => by omega, fun _ => ⟨⟨by omega, by omega⟩, fun c1 => ⟨⟨by omega, by omega⟩, ?_⟩, fun c1 => ?_⟩⟩
      · have hps : pS (sW σ) k = 0 := by
          rw [e49] at c1
          unfold sup at c1
          by_cases c2 : pS (sW σ) k = 0
          · exact c2
          · rw [if_neg c2] at c1; omega
        refine ih (by omega) g1 (fun q hq => ?_) h2
        rw [h1 q hq]
        show _ - (cS (fun p => cP (sW σ) p q * (4 * u p + hl (sW σ) u p m)) k + cP (sW σ) k q * (4 * u k + hl (sW σ) u k m)) = _
        have : cP (sW σ) k q = 0 := by unfold cP; rw [if_pos hps]
        rw [this, Int.zero_mul]
        omega
      · have hps : pS (sW σ) k ≠ 0 := fun c2 => c1 (by rw [e49]; unfold sup; rw [if_pos c2])
        have i0 := pO_in (e := 0) hw (show k < pF (sW σ) 4 by omega) (by omega)
        have i1 := pO_in (e := 1) hw (show k < pF (sW σ) 4 by omega) (by omega)
        have s0 : sup (sW σ) k 0 = (pO (sW σ) k 0 : Nat) := by unfold sup; rw [if_neg hps]
        have s1 : sup (sW σ) k 1 = (pO (sW σ) k 1 : Nat) := by unfold sup; rw [if_neg hps]
        rw [s0] at e49
        rw [s1] at e50
        have ecp0 : ∀ q, cP (sW σ) k q = (if pO (sW σ) k 0 = q then 1 else 0) + (if pO (sW σ) k 1 = q then 1 else 0) := fun q => by
          unfold cP
          rw [if_neg hps]
        generalize pO (sW σ) k 0 = o0 at *
        generalize pO (sW σ) k 1 = o1 at *
        have e53 : g1 53 k = 2 * hl (sW σ) u k m := by
          rw [h1 k (by omega), cS_0 (k + 1) (fun p hp => by rw [cP_0 hw (by omega) (by omega), Int.zero_mul]), eld, hl_ld hw (by omega) hps m (by omega) (by omega)]
          omega
        have ehf : (8 * u k + 2 * hl (sW σ) u k m) / 2 = 4 * u k + hl (sW σ) u k m := by omega
        have bd : ∀ q : Nat, q < sL σ → 0 ≤ g1 53 q ∧ g1 53 q ≤ 6720 := fun q hq => by
          have c1 := cS_pos (f := fun p => cP (sW σ) p q * (4 * u p + hl (sW σ) u p m)) (j := k + 1) m (by omega) (fpos q)
          rw [fsum q (by omega)] at c1
          have c2 := lD_bound (q := q) hv hr.1 hm
          rw [h1 q hq]
          omega
        have b0 := bd o0 (by omega)
        have b1 := bd o1 (by omega)
        have v1 : (vx_u g1 53 (o0 : Int) (g1 53 o0 + (4 * u k + hl (sW σ) u k m))) 53 o1 = g1 53 o1 + (if o0 = o1 then 4 * u k + hl (sW σ) u k m else 0) := by
          by_cases c3 : o0 = o1
          · rw [if_pos c3, c3, vx_u_at]
          · rw [if_neg c3, vx_u_j (by omega)]; omega
        rw [e49, e50, e52, e43, e53, ehf, v1]
        refine ⟨⟨by omega, by omega⟩, ⟨by omega, by omega⟩, ⟨by omega, by omega⟩, ⟨by omega, by omega⟩, ⟨by omega, by omega⟩, by omega, ⟨by omega, by omega⟩, ⟨by omega, by omega⟩, ⟨by omega, by omega⟩, ⟨by omega, by omega⟩, ⟨by omega, by omega⟩, ⟨by omega, by omega⟩, ?_, ⟨by omega, by omega⟩, ⟨by omega, by omega⟩, ?_⟩
        · split
          · exact ⟨by omega, by omega⟩
          · exact ⟨by omega, by omega⟩
        · refine ih (by omega) _ (fun q hq => ?_) (fun a b x => by rw [vx_u_k x, vx_u_k x]; exact h2 a b x)
          have hcs : cS (fun p => cP (sW σ) p q * (4 * u p + hl (sW σ) u p m)) (k + 1) = cS (fun p => cP (sW σ) p q * (4 * u p + hl (sW σ) u p m)) k + cP (sW σ) k q * (4 * u k + hl (sW σ) u k m) := rfl
          have hq1 := h1 q hq
          rw [hcs] at hq1
          have ecp : cP (sW σ) k q = (if o0 = q then 1 else 0) + (if o1 = q then 1 else 0) := ecp0 q
          generalize cS (fun p => cP (sW σ) p q * (4 * u p + hl (sW σ) u p m)) k = CS0 at hq1 ⊢
          generalize 4 * u k + hl (sW σ) u k m = HF at *
          by_cases c5 : q = o1
          · subst c5
            rw [vx_u_at]
            by_cases c6 : o0 = q
            · rw [if_pos c6]
              rw [ecp, if_pos c6, if_pos rfl] at hq1
              omega
            · rw [if_neg c6]
              rw [ecp, if_neg c6, if_pos rfl] at hq1
              omega
          · rw [vx_u_j (by omega)]
            by_cases c6 : q = o0
            · subst c6
              rw [vx_u_at]
              rw [ecp, if_pos rfl, if_neg (by omega)] at hq1
              omega
            · rw [vx_u_j (by omega)]
              rw [ecp, if_neg (by omega), if_neg (by omega)] at hq1
              omega
  have key : ∀ (k p : Nat), p + k = sL σ → ∀ g1, (∀ q : Nat, q < p → g1 53 q = 0) → (∀ a b, a ≠ 53 → g1 a b = g a b) → vN l mX6_findLoads d (vx_pv SH (fun g' => (∀ q : Nat, q < sL σ → g' 53 q = lD σ r q m) ∧ ∀ a b, a ≠ 53 → g' a b = g a b)) SH g1 2 [some (.inr (some 40)), some (.inl ((m : Int) - 1)), some (.inl (p : Int)), none] [] := by
    intro k
    induction k with
    | zero =>
      intro p hp g1 h1 h2
      have e9 : g1 40 10 = (sL σ : Nat) := by rw [h2 40 _ (by omega)]; exact e10
      refine tX6_findLoads_2 g1 _ _ ⟨fun _ => ?_, fun c => by omega⟩
      exact key2 m (Nat.le_refl _) g1 (fun q hq => by rw [h1 q (by omega), fsum q (by omega)]; omega) h2
    | succ k ih =>
      intro p hp g1 h1 h2
      have e9 : g1 40 10 = (sL σ : Nat) := by rw [h2 40 _ (by omega)]; exact e10
      refine tX6_findLoads_2 g1 _ _ ⟨fun c => by omega, fun _ => ⟨⟨by omega, by omega⟩, ⟨by omega, by omega⟩, ?_⟩⟩
      exact ih (p + 1) (by omega) _ (fun q hq => by
        by_cases e : q = p
        · rw [e, vx_u_at]
        · rw [vx_u_j (by omega)]; exact h1 q (by omega)) (fun a b x => by rw [vx_u_k x]; exact h2 a b x)
  exact key (sL σ) 0 (by omega) g (fun q hq => by omega) (fun _ _ _ => rfl)
/-! uneven -/
def mnS (W : WT) (u : Nat → Int) (s : Nat) : Nat → Int
  | 0 => 1000
  | p + 1 => if pS W p = s then min (mnS W u s p) (u p) else mnS W u s p
def mxS (W : WT) (u : Nat → Int) (s : Nat) : Nat → Int
  | 0 => 0
  | p + 1 => if pS W p = s then max (mxS W u s p) (u p) else mxS W u s p
theorem mS_eq {W : WT} {u : Nat → Int} {s : Nat} (hw : wok W) (hs : s < 4) {n : Nat} (hn : pF W s + wq W s ≤ n) (h4 : n ≤ pF W 4) (hu : ∀ p, p < n → 0 ≤ u p ∧ u p ≤ 1000) : mnS W u s n = hmin u (pF W s) (wq W s - 1) ∧ mxS W u s n = hmax u (pF W s) (wq W s - 1) := by
  have ws := hw s
  have a : ∀ p, p ≤ pF W s → mnS W u s p = 1000 ∧ mxS W u s p = 0 := by
    intro p
    induction p with
    | zero => intro _; exact ⟨rfl, rfl⟩
    | succ p ih =>
      intro hp
      have hne : pS W p ≠ s := fun e => by
        have := (pS_in (W := W) (p := p) (by omega)).2.1
        rw [e] at this
        omega
      have := ih (by omega)
      show (if pS W p = s then _ else _) = _ ∧ (if pS W p = s then _ else _) = _
      rw [if_neg hne, if_neg hne]
      exact this
  have b : ∀ j, j < wq W s → mnS W u s (pF W s + j + 1) = hmin u (pF W s) j ∧ mxS W u s (pF W s + j + 1) = hmax u (pF W s) j := by
    intro j
    induction j with
    | zero =>
      intro hj
      have e : pS W (pF W s + 0) = s := pS_eq (by omega) (by omega) (by show _ < pF W s + wq W s; omega)
      have a0 := a (pF W s) (Nat.le_refl _)
      have hb := hu (pF W s) (by omega)
      show (if pS W (pF W s + 0) = s then min (mnS W u s (pF W s)) (u (pF W s)) else _) = u (pF W s) ∧ (if pS W (pF W s + 0) = s then max (mxS W u s (pF W s)) (u (pF W s)) else _) = u (pF W s)
      rw [if_pos e, if_pos e, a0.1, a0.2]
      omega
    | succ j ih =>
      intro hj
      have e : pS W (pF W s + j + 1) = s := pS_eq (by omega) (by omega) (by show _ < pF W s + wq W s; omega)
      have i := ih (by omega)
      show (if pS W (pF W s + j + 1) = s then min (mnS W u s (pF W s + j + 1)) (u (pF W s + j + 1)) else _) = min (hmin u (pF W s) j) (u (pF W s + j + 1)) ∧ (if pS W (pF W s + j + 1) = s then max (mxS W u s (pF W s + j + 1)) (u (pF W s + j + 1)) else _) = max (hmax u (pF W s) j) (u (pF W s + j + 1))
      rw [if_pos e, if_pos e, i.1, i.2]
      exact ⟨rfl, rfl⟩
  have c : ∀ k, pF W s + wq W s + k ≤ n → mnS W u s (pF W s + wq W s + k) = hmin u (pF W s) (wq W s - 1) ∧ mxS W u s (pF W s + wq W s + k) = hmax u (pF W s) (wq W s - 1) := by
    intro k
    induction k with
    | zero =>
      intro _
      have := b (wq W s - 1) (by omega)
      rw [show pF W s + (wq W s - 1) + 1 = pF W s + wq W s + 0 by omega] at this
      exact this
    | succ k ih =>
      intro hk
      have hne : pS W (pF W s + wq W s + k) ≠ s := fun e => by
        have := (pS_in (W := W) (p := pF W s + wq W s + k) (by omega)).2.2
        rw [e] at this
        have : pF W (s + 1) = pF W s + wq W s := rfl
        omega
      have := ih (by omega)
      show (if pS W (pF W s + wq W s + k) = s then _ else _) = _ ∧ (if pS W (pF W s + wq W s + k) = s then _ else _) = _
      rw [if_neg hne, if_neg hne]
      exact this
  have := c (n - (pF W s + wq W s)) (by omega)
  rw [show pF W s + wq W s + (n - (pF W s + wq W s)) = n by omega] at this
  exact this
theorem mS_bd {W : WT} {u : Nat → Int} {s : Nat} : ∀ n, (∀ p, p < n → 0 ≤ u p ∧ u p ≤ 1000) → (0 ≤ mnS W u s n ∧ mnS W u s n ≤ 1000) ∧ (0 ≤ mxS W u s n ∧ mxS W u s n ≤ 1000)
  | 0, _ => by show ((0 : Int) ≤ 1000 ∧ (1000 : Int) ≤ 1000) ∧ ((0 : Int) ≤ 0 ∧ (0 : Int) ≤ 1000); omega
  | n + 1, h => by
    have := mS_bd (W := W) (u := u) (s := s) n (fun p hp => h p (by omega))
    have := h n (by omega)
    show (0 ≤ (if pS W n = s then min (mnS W u s n) (u n) else mnS W u s n) ∧ (if pS W n = s then min (mnS W u s n) (u n) else mnS W u s n) ≤ 1000) ∧ (0 ≤ (if pS W n = s then max (mxS W u s n) (u n) else mxS W u s n) ∧ (if pS W n = s then max (mxS W u s n) (u n) else mxS W u s n) ≤ 1000)
    split <;> omega
theorem m_uneven {l : Launch} {d : Nat} {σ : SG} {g : vx_M} (hB : BM σ g) {r : List Nat} (hr : HB σ r 52 g) : vNi l mX6_uneven d [.inr (some 40)] SH g (fun z g' => g' = g ∧ ((z = UN σ r ∧ ∀ s, s < sH σ → sprd σ r s ≤ sP σ) ∨ (z = -1 ∧ ¬ ∀ s, s < sH σ → sprd σ r s ≤ sP σ))) := by
  have hv := hB.1
  have h7 : sL σ ≤ 7 := hv.2.2.1
  have h44 := sL_4 hv
  have hn8 := hv.2.2.2.1
  have e0 := hB.2.1
  have e10 := hB.2.2.1
  have e9 := hB.2.2.2.2.2.2.1
  have hu : ∀ p, p < sL σ → 0 ≤ hU σ r p ∧ hU σ r p ≤ 1000 := fun p hp => by
    have := (hv.2.2.2.2.1 _ (hr.1.2 p hp)).1
    show 0 ≤ sA σ 0 _ ∧ sA σ 0 _ ≤ 1000
    omega
  refine kX6_uneven g ?_
  have key : ∀ (k s : Nat), s + k = sH σ → (∀ t, t < s → sprd σ r t ≤ sP σ) → vN l mX6_uneven d (vx_pi SH (fun z g' => g' = g ∧ ((z = UN σ r ∧ ∀ s, s < sH σ → sprd σ r s ≤ sP σ) ∨ (z = -1 ∧ ¬ ∀ s, s < sH σ → sprd σ r s ≤ sP σ)))) SH g 4 [some (.inr (some 40)), some (.inl (us σ r s)), some (.inl (s : Int)), none, none, none] [] := by
    intro k
    induction k with
    | zero =>
      intro s hs h1
      refine tX6_uneven_4 g _ _ ⟨fun _ => ⟨rfl, Or.inl ⟨?_, fun t ht => h1 t (by omega)⟩⟩, fun c => by omega⟩
      rw [show s = sH σ by omega]; rfl
    | succ k ih =>
      intro s hs h1
      have hs4 : s < 4 := by have := hv.1.2; omega
      have hpl := pl_in hv (s := s) (by omega)
      refine tX6_uneven_4 g _ _ ⟨fun c => by omega, fun _ => ?_⟩
      have inner : ∀ (k2 p : Nat), p + k2 = sL σ → ∀ (a b : Int), a = mnS (sW σ) (hU σ r) s p → b = mxS (sW σ) (hU σ r) s p → vN l mX6_uneven d (vx_pi SH (fun z g' => g' = g ∧ ((z = UN σ r ∧ ∀ s, s < sH σ → sprd σ r s ≤ sP σ) ∨ (z = -1 ∧ ¬ ∀ s, s < sH σ → sprd σ r s ≤ sP σ)))) SH g 22 [some (.inr (some 40)), some (.inl (us σ r s)), some (.inl (s : Int)), some (.inl a), some (.inl b), some (.inl (p : Int))] [] := by
        intro k2
        induction k2 with
        | zero =>
          intro p hp a b ha hb
          rw [show p = sL σ by omega] at ha hb
          have em := mS_eq (u := hU σ r) hv.2.1 hs4 hpl h44 hu
          rw [em.1] at ha
          rw [em.2] at hb
          have esp : b - a = sprd σ r s := by rw [ha, hb]; rfl
          have bm := mS_bd (W := sW σ) (s := s) (sL σ) hu
          rw [em.1, em.2] at bm
          have bus : 0 ≤ us σ r s ∧ us σ r s ≤ 50 * s := by
            have : ∀ t, t ≤ s → 0 ≤ us σ r t ∧ us σ r t ≤ 50 * t := by
              intro t
              induction t with
              | zero => intro _; show (0 : Int) ≤ 0 ∧ (0 : Int) ≤ _; omega
              | succ t iht =>
                intro ht
                have i := iht (by omega)
                have j := h1 t (by omega)
                have j0 : 0 ≤ sprd σ r t := by
                  have := hmin_le (hU σ r) (pF (sW σ) t) (wq (sW σ) t - 1)
                  unfold sprd
                  omega
                have jp := hv.2.2.2.2.2.2.2
                show 0 ≤ us σ r t + sprd σ r t ∧ us σ r t + sprd σ r t ≤ _
                omega
            exact this s (Nat.le_refl _)
          refine tX6_uneven_22 g _ _ _ _ _ ⟨fun _ => ⟨⟨by omega, by omega⟩, fun c => ⟨⟨by omega, by omega⟩, ⟨by omega, by omega⟩, ⟨by omega, by omega⟩, ?_⟩, fun c => ⟨rfl, Or.inr ⟨rfl, fun hall => ?_⟩⟩⟩, fun c => by omega⟩
          · have h9 := ih (s + 1) (by omega) (fun t ht => by
              by_cases e : t = s
              · rw [e]; omega
              · exact h1 t (by omega))
            rw [esp]
            exact h9
          · have := hall s (by omega)
            omega
        | succ k2 ih2 =>
          intro p hp a b ha hb
          have e48 := (hB.2.2.2.2.2.2.2 p (by omega)).1
          have e52 := hr.2 p (by omega)
          have hxn := hr.1.2 p (by omega)
          have e42 : g 42 (r.getD p 0 : Nat) = hU σ r p := hB.2.2.2.2.2.1 0 (r.getD p 0) (by omega) (by omega)
          refine tX6_uneven_22 g _ _ _ _ _ ⟨fun c => by omega, fun _ => ⟨⟨by omega, by omega⟩, fun c => ⟨⟨by omega, by omega⟩, ?_⟩, fun c => ?_⟩⟩
          · refine ih2 (p + 1) (by omega) a b ?_ ?_
            · show a = if pS (sW σ) p = s then _ else _
              rw [if_neg (by omega)]; exact ha
            · show b = if pS (sW σ) p = s then _ else _
              rw [if_neg (by omega)]; exact hb
          · have hps : pS (sW σ) p = s := by omega
            have go : ∀ w, w = min a (hU σ r p) → vN l mX6_uneven d (vx_pi SH (fun z g' => g' = g ∧ ((z = UN σ r ∧ ∀ s, s < sH σ → sprd σ r s ≤ sP σ) ∨ (z = -1 ∧ ¬ ∀ s, s < sH σ → sprd σ r s ≤ sP σ)))) SH g 74 [some (.inr (some 40)), some (.inl (us σ r s)), some (.inl (s : Int)), some (.inl a), some (.inl b), some (.inl (p : Int))] [.inl w] := by
              intro w hw9
              have fin : ∀ x, x = max b (hU σ r p) → vN l mX6_uneven d (vx_pi SH (fun z g' => g' = g ∧ ((z = UN σ r ∧ ∀ s, s < sH σ → sprd σ r s ≤ sP σ) ∨ (z = -1 ∧ ¬ ∀ s, s < sH σ → sprd σ r s ≤ sP σ)))) SH g 22 [some (.inr (some 40)), some (.inl (us σ r s)), some (.inl (s : Int)), some (.inl w), some (.inl x), some (.inl ((p : Int) + 1))] [] := by
                intro x hx
                refine ih2 (p + 1) (by omega) w x ?_ ?_
                · show w = if pS (sW σ) p = s then min (mnS (sW σ) (hU σ r) s p) (hU σ r p) else _
                  rw [if_pos hps, ← ha]; exact hw9
                · show x = if pS (sW σ) p = s then max (mxS (sW σ) (hU σ r) s p) (hU σ r p) else _
                  rw [if_pos hps, ← hb]; exact hx
              refine tX6_uneven_74 g _ _ _ _ _ _ ⟨⟨by omega, by omega⟩, ⟨by omega, by omega⟩, ?_⟩
              rw [e52, e42]
              exact ⟨fun c5 => ⟨⟨by omega, by omega⟩, fin _ (by omega)⟩, fun c5 => ⟨⟨by omega, by omega⟩, ⟨by omega, by omega⟩, ⟨by omega, by omega⟩, fin _ (by omega)⟩⟩
            refine ⟨⟨by omega, by omega⟩, ⟨by omega, by omega⟩, ?_⟩
            rw [e52, e42]
            exact ⟨fun c5 => go _ (by omega), fun c5 => ⟨⟨by omega, by omega⟩, ⟨by omega, by omega⟩, go _ (by omega)⟩⟩
      exact inner (sL σ) 0 (by omega) 1000 0 rfl rfl
  exact key (sH σ) 0 (by omega) (fun t ht => by omega)
theorem m_fitsSo {l : Launch} {d : Nat} {σ : SG} {g : vx_M} (hB : BM σ g) {r : List Nat} (hr : HB σ r 52 g) : vNi l mX6_fitsSo (d + 1) [.inr (some 40)] SH g (fun z g' => (∀ a b, a ≠ 53 → g' a b = g a b) ∧ ((z = UN σ r ∧ FIT σ r) ∨ (z = -1 ∧ ¬ FIT σ r))) := by
  have hv := hB.1
  have h7 : sL σ ≤ 7 := hv.2.2.1
  have hn8 := hv.2.2.2.1
  have e10 := hB.2.2.1
  have h1L : 1 ≤ sL σ := by
    have := pl_in hv (s := 0) (by have := hv.1.1; omega)
    have := hv.2.1 0
    omega
  refine kX6_fitsSo g ?_
  have key2 : ∀ (k p : Nat), p + k = sL σ → ∀ g1, (∀ q : Nat, q < sL σ → g1 53 q = lD σ r q (sL σ)) → (∀ a b, a ≠ 53 → g1 a b = g a b) → (∀ q, q < sL σ → okP σ r q) → (∀ q, q < p → okL σ r q) → vN l mX6_fitsSo (d + 1) (vx_pi SH (fun z g' => (∀ a b, a ≠ 53 → g' a b = g a b) ∧ ((z = UN σ r ∧ FIT σ r) ∨ (z = -1 ∧ ¬ FIT σ r)))) SH g1 64 [some (.inr (some 40)), some (.inl (p : Int))] [] := by
    intro k
    induction k with
    | zero =>
      intro p hp g1 h1 h2 h3 h4
      have e9 : g1 40 10 = (sL σ : Nat) := by rw [h2 40 _ (by omega)]; exact e10
      have hB1 : BM σ g1 := hB.frame (fun a b x y => h2 a b (by omega)) (h2 _ _ (by omega)) (h2 _ _ (by omega)) (h2 _ _ (by omega)) (h2 _ _ (by omega))
      have hr1 : HB σ r 52 g1 := hr.frame (fun b => h2 _ _ (by omega))
      refine tX6_fitsSo_64 g1 _ ⟨fun _ => ⟨_, m_uneven hB1 hr1, fun r1 g2 h => ?_⟩, fun c => by omega⟩
      obtain ⟨rfl, h⟩ := h
      refine ⟨h2, ?_⟩
      rcases h with ⟨h, h5⟩ | ⟨h, h5⟩
      · exact Or.inl ⟨h, fun q hq => ⟨h3 q hq, h4 q (by omega)⟩, h5⟩
      · exact Or.inr ⟨h, fun hF => h5 hF.2⟩
    | succ k ih =>
      intro p hp g1 h1 h2 h3 h4
      have e9 : g1 40 10 = (sL σ : Nat) := by rw [h2 40 _ (by omega)]; exact e10
      have e52 : g1 52 p = (r.getD p 0 : Nat) := by rw [h2 52 _ (by omega)]; exact hr.2 p (by omega)
      have hxn := hr.1.2 p (by omega)
      have e44 : g1 44 (r.getD p 0 : Nat) = sA σ 2 (r.getD p 0) := by rw [h2 44 _ (by omega)]; exact hB.2.2.2.2.2.1 2 (r.getD p 0) (by omega) (by omega)
      have bb := (hv.2.2.2.2.1 _ hxn).2.2.1
      have e53 := h1 p (by omega)
      refine tX6_fitsSo_64 g1 _ ⟨fun c => by omega, fun _ => ⟨⟨by omega, by omega⟩, ⟨by omega, by omega⟩, ⟨by omega, by omega⟩, ?_, ?_, ?_⟩⟩
      · rw [e52, e44]; exact ⟨by omega, by omega⟩
      · intro c
        rw [e52, e44, e53] at c
        exact ⟨⟨by omega, by omega⟩, ih (p + 1) (by omega) g1 h1 h2 h3 (fun q hq => by
          by_cases e : q = p
          · rw [e]; exact c
          · exact h4 q (by omega))⟩
      · intro c
        rw [e52, e44, e53] at c
        exact ⟨h2, Or.inr ⟨rfl, fun hF => c ((hF.1 p (by omega)).2)⟩⟩
  have key : ∀ (k p : Nat), p + k = sL σ → (∀ q, q < p → okP σ r q) → vN l mX6_fitsSo (d + 1) (vx_pi SH (fun z g' => (∀ a b, a ≠ 53 → g' a b = g a b) ∧ ((z = UN σ r ∧ FIT σ r) ∨ (z = -1 ∧ ¬ FIT σ r)))) SH g 2 [some (.inr (some 40)), some (.inl (p : Int))] [] := by
    intro k
    induction k with
    | zero =>
      intro p hp h1
      refine tX6_fitsSo_2 g _ ⟨fun _ => ⟨⟨by omega, by omega⟩, ?_⟩, fun c => by omega⟩
      rw [e10]
      refine ⟨_, m_findLoads hB hr (Nat.le_refl _), fun g2 h => ?_⟩
      exact key2 (sL σ) 0 (by omega) g2 h.1 h.2 (fun q hq => h1 q (by omega)) (fun q hq => by omega)
    | succ k ih =>
      intro p hp h1
      have e52 := hr.2 p (by omega)
      have hxn := hr.1.2 p (by omega)
      have e47 : g 47 (r.getD p 0 : Nat) = sA σ 5 (r.getD p 0) := hB.2.2.2.2.2.1 5 (r.getD p 0) (by omega) (by omega)
      have e45 : g 45 (r.getD p 0 : Nat) = sA σ 3 (r.getD p 0) := hB.2.2.2.2.2.1 3 (r.getD p 0) (by omega) (by omega)
      have e48 := (hB.2.2.2.2.2.2.2 p (by omega)).1
      refine tX6_fitsSo_2 g _ ⟨fun c => by omega, fun _ => ⟨⟨by omega, by omega⟩, ⟨by omega, by omega⟩, ?_, ?_⟩⟩
      · intro c
        rw [e52, e47] at c
        exact ⟨fun _ _ _ => rfl, Or.inr ⟨rfl, fun hF => c ((hF.1 p (by omega)).1.1)⟩⟩
      · intro c
        rw [e52, e47] at c
        refine ⟨⟨by omega, by omega⟩, ⟨by omega, by omega⟩, ⟨by omega, by omega⟩, ?_, ?_⟩
        · intro c2
          rw [e52, e45, e48] at c2
          exact ⟨⟨by omega, by omega⟩, ih (p + 1) (by omega) (fun q hq => by
            by_cases e : q = p
            · rw [e]; exact ⟨c, c2⟩
            · exact h1 q (by omega))⟩
        · intro c2
          rw [e52, e45, e48] at c2
          exact ⟨fun _ _ _ => rfl, Or.inr ⟨rfl, fun hF => c2 ((hF.1 p (by omega)).1.2)⟩⟩
  exact key (sL σ) 0 (by omega) (fun q hq => by omega)

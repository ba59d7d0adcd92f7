theorem HC.n {σ : SG} {g : vx_M} (h : HC σ g) (c : g 0 6 = 0) : sR σ = none := by
  rcases h with ⟨a, -⟩ | ⟨r, -, b, -⟩
  · exact a
  · omega
theorem HC.s {σ : SG} {g : vx_M} (h : HC σ g) (c : ¬ g 0 6 = 0) : ∃ r, sR σ = some r ∧ HB σ r 39 g := by
  rcases h with ⟨-, a, -⟩ | ⟨r, a, -, b⟩
  · exact absurd a c
  · exact ⟨r, a, b⟩
theorem x_at {l : Launch} {d : Nat} {σ : SG} {g : vx_M} (hR : RC σ g) (v : Int) : spC l mX5_at (d + 20) [.inr (some 0), .inl v] g (f_at σ v) := by
  have hL7 : sL σ ≤ 7 := hR.1.1.2.2.1
  refine kX5_at g v ⟨_, c_isPlace hR.2.1 v, fun r1 g1 h => ?_⟩
  obtain ⟨rfl, h⟩ := h
  refine ⟨fun c => ⟨fun c2 => ?_, fun c2 => ⟨⟨by omega, by omega⟩, ?_⟩⟩, fun c => ?_⟩
  · have ef : f_at σ v = (-4, σ) := by
      unfold f_at
      rw [if_neg (by omega), hR.2.2.1.n c2]
    rw [ef]
    exact ⟨rfl, hR, fun _ _ _ => rfl⟩
  · obtain ⟨r, e1, e2⟩ := hR.2.2.1.s c2
    obtain ⟨n, rfl⟩ : ∃ n : Nat, v = n := ⟨v.toNat, by omega⟩
    have ef : f_at σ n = (((r.getD n 0 : Nat) : Int), σ) := by
      unfold f_at
      rw [if_neg (by omega), e1]
      rfl
    rw [ef]
    exact ⟨e2.2 n (by omega), hR, fun _ _ _ => rfl⟩
  · have ef : f_at σ v = (-2, σ) := by
      unfold f_at
      rw [if_pos (by omega)]
    rw [ef]
    exact ⟨rfl, hR, fun _ _ _ => rfl⟩
theorem x_load {l : Launch} {d : Nat} {σ : SG} {g : vx_M} (hR : RC σ g) (v : Int) : spC l mX5_load (d + 20) [.inr (some 0), .inl v] g (f_load σ v) := by
  have hL7 : sL σ ≤ 7 := hR.1.1.2.2.1
  have e5 : g 1 5 = (sL σ : Nat) := hR.2.1.2.1.2.1
  refine kX5_load g v ⟨_, c_isPlace hR.2.1 v, fun r1 g1 h => ?_⟩
  obtain ⟨rfl, h⟩ := h
  refine ⟨fun c => ⟨fun c2 => ?_, fun c2 => ?_⟩, fun c => ?_⟩
  · have ef : f_load σ v = (-4, σ) := by
      unfold f_load
      rw [if_neg (by omega), hR.2.2.1.n c2]
    rw [ef]
    exact ⟨rfl, hR, fun _ _ _ => rfl⟩
  · obtain ⟨r, e1, e2⟩ := hR.2.2.1.s c2
    obtain ⟨n, rfl⟩ : ∃ n : Nat, v = n := ⟨v.toNat, by omega⟩
    have ef : f_load σ n = (lD σ r n (sL σ), σ) := by
      unfold f_load
      rw [if_neg (by omega), e1]
      rfl
    rw [ef, e5]
    refine ⟨_, c_loadOn hR.2.1 e2 (by omega) (Nat.le_refl _), fun r2 g2 h => ?_⟩
    obtain ⟨rfl, rfl⟩ := h
    exact ⟨rfl, hR, fun _ _ _ => rfl⟩
  · have ef : f_load σ v = (-2, σ) := by
      unfold f_load
      rw [if_pos (by omega)]
    rw [ef]
    exact ⟨rfl, hR, fun _ _ _ => rfl⟩
theorem xch_get {r : List Nat} {a b i : Nat} (ha : a < r.length) (hb : b < r.length) (hi : i < r.length) : (xch r a b).getD i 0 = if i = b then r.getD a 0 else if i = a then r.getD b 0 else r.getD i 0 := by
  unfold xch
  rw [List.getD_eq_getElem?_getD]
  by_cases c : i = b
  · subst c
    rw [if_pos rfl, List.getElem?_set_self (by rw [List.length_set]; exact hb)]
    rfl
  · rw [if_neg c, List.getElem?_set_ne (Ne.symm c)]
    by_cases c2 : i = a
    · subst c2
      rw [if_pos rfl, List.getElem?_set_self ha]
      rfl
    · rw [if_neg c2, List.getElem?_set_ne (Ne.symm c2), List.getD_eq_getElem?_getD]
theorem xch_ok {σ : SG} {r : List Nat} (h : hOK σ r) {a b : Nat} (ha : a < sL σ) (hb : b < sL σ) : hOK σ (xch r a b) := by
  refine ⟨?_, fun i hi => ?_⟩
  · unfold xch
    rw [List.length_set, List.length_set]
    exact h.1
  · rw [xch_get (by rw [h.1]; exact ha) (by rw [h.1]; exact hb) (by rw [h.1]; exact hi)]
    split
    · exact h.2 a ha
    · split
      · exact h.2 b hb
      · exact h.2 i hi
theorem c_exchange {l : Launch} {d : Nat} {g : vx_M} {a b : Nat} (ha : a < 7) (hb : b < 7) : vNv l mX5_exchange d [.inr (some 0), .inl (a : Int), .inl (b : Int)] SH g (fun g' => (∀ i : Nat, g' 39 i = if i = b then g 39 a else if i = a then g 39 b else g 39 i) ∧ ∀ k j, k ≠ 39 → g' k j = g k j) := by
  refine kX5_exchange g a b ⟨⟨by omega, by omega⟩, ⟨by omega, by omega⟩, ⟨by omega, by omega⟩, ⟨by omega, by omega⟩, fun i => ?_, fun k j x => by rw [vx_u_k x, vx_u_k x]⟩
  by_cases c : i = b
  · rw [if_pos c, c, vx_u_at]
  · rw [if_neg c, vx_u_j (by omega)]
    by_cases c2 : i = a
    · rw [if_pos c2, c2, vx_u_at]
    · rw [if_neg c2, vx_u_j (by omega)]
theorem x_swap {l : Launch} {d : Nat} {σ : SG} {g : vx_M} (hR : RC σ g) (v w : Int) : spC l mX5_swap (d + 20) [.inr (some 0), .inl v, .inl w] g (f_swap σ v w) := by
  have hL7 : sL σ ≤ 7 := hR.1.1.2.2.1
  have bad : (v < 0 ∨ sL σ ≤ v ∨ w < 0 ∨ sL σ ≤ w) → (fun r g' => r = (f_swap σ v w).1 ∧ RC (f_swap σ v w).2 g' ∧ frC g g') (-2) g := fun h => by
    have ef : f_swap σ v w = (-2, σ) := by
      unfold f_swap
      rw [if_pos h]
    rw [ef]
    exact ⟨rfl, hR, fun _ _ _ => rfl⟩
  refine kX5_swap g v w ⟨_, c_isPlace hR.2.1 v, fun r1 g1 h1 => ?_⟩
  obtain ⟨rfl, h1⟩ := h1
  refine ⟨fun c => bad (by omega), fun c => ⟨_, c_isPlace hR.2.1 w, fun r2 g2 h2 => ?_⟩⟩
  obtain ⟨rfl, h2⟩ := h2
  refine ⟨fun c2 => ⟨fun c3 => ?_, fun c3 => ?_⟩, fun c2 => bad (by omega)⟩
  · obtain ⟨r, e1, e2⟩ := hR.2.2.1.s c3
    obtain ⟨n, rfl⟩ : ∃ n : Nat, v = n := ⟨v.toNat, by omega⟩
    obtain ⟨m, rfl⟩ : ∃ m : Nat, w = m := ⟨w.toNat, by omega⟩
    have hn : n < sL σ := by omega
    have hm : m < sL σ := by omega
    have hx := xch_ok e2.1 hn hm
    have ef : f_swap σ n m = cif (FIT σ (xch r n m)) (1, uHnd σ (xch r n m)) (-4, σ) := by
      unfold f_swap
      rw [if_neg (by omega), e1]
      rfl
    refine ⟨_, c_exchange (by omega) (by omega), fun g3 h3 => ?_⟩
    have hB3 : BC σ g3 := hR.2.1.frame (fun a b _ y => h3.2 a b (by omega))
    have hr3 : HB σ (xch r n m) 39 g3 := by
      refine ⟨hx, fun i hi => ?_⟩
      rw [h3.1 i, xch_get (by rw [e2.1.1]; exact hn) (by rw [e2.1.1]; exact hm) (by rw [e2.1.1]; exact hi)]
      by_cases c5 : i = m
      · rw [if_pos c5, if_pos c5]; exact e2.2 n hn
      · rw [if_neg c5, if_neg c5]
        by_cases c6 : i = n
        · rw [if_pos c6, if_pos c6]; exact e2.2 m hm
        · rw [if_neg c6, if_neg c6]; exact e2.2 i hi
    refine ⟨_, c_admit hB3 hr3, fun r4 g4 h4 => ?_⟩
    obtain ⟨rfl, h4⟩ := h4
    refine ⟨fun c4 => ?_, fun c4 => ?_⟩
    · have hF : FIT σ (xch r n m) := by
        rcases h4 with ⟨-, h4⟩ | ⟨h4, -⟩
        · exact h4
        · exact absurd h4 c4
      rw [ef, cif_pos hF]
      obtain ⟨k1, k2, k3, k4, k5, k6, k7⟩ := hR
      refine ⟨rfl, ⟨⟨k1.1, fun q hq => ?_, k1.2.2⟩, hB3, Or.inr ⟨_, rfl, ?_, hr3⟩, fun x hx9 => ?_, ?_, ?_, ?_⟩, fun a b x => h3.2 a b (by omega)⟩
      · have hq : some (xch r n m) = some q := hq
        cases hq
        exact hx
      · rw [h3.2 _ _ (by omega)]
        rcases k3 with ⟨-, a, -⟩ | ⟨r, -, a, -⟩
        · exact absurd a c3
        · exact a
      · rw [h3.2 _ _ (by omega)]; exact k4 x hx9
      · rw [h3.2 _ _ (by omega)]; exact k5
      · rw [h3.2 _ _ (by omega)]; exact k6
      · rw [h3.2 _ _ (by omega)]; exact k7
    · have hF : ¬ FIT σ (xch r n m) := by
        rcases h4 with ⟨h4, -⟩ | ⟨-, h4⟩
        · omega
        · exact h4
      refine ⟨_, c_exchange (by omega) (by omega), fun g5 h5 => ?_⟩
      rw [ef, cif_neg hF]
      have hsame : ∀ i : Nat, g5 39 i = g2 39 i := fun i => by
        rw [h5.1 i]
        by_cases c5 : i = m
        · rw [if_pos c5, h3.1 n]
          by_cases c6 : n = m
          · rw [if_pos c6, c5, c6]
          · rw [if_neg c6, if_pos rfl, c5]
        · rw [if_neg c5]
          by_cases c6 : i = n
          · rw [if_pos c6, h3.1 m, if_pos rfl, c6]
          · rw [if_neg c6, h3.1 i, if_neg c5, if_neg c6]
      have hf5 : ∀ a b, a ≠ 39 → g5 a b = g2 a b := fun a b x => by rw [h5.2 a b x, h3.2 a b x]
      obtain ⟨k1, k2, k3, k4, k5, k6, k7⟩ := hR
      refine ⟨rfl, ⟨k1, k2.frame (fun a b _ y => hf5 a b (by omega)), ?_, fun x hx9 => ?_, ?_, ?_, ?_⟩, fun a b x => hf5 a b (by omega)⟩
      · rcases k3 with ⟨-, a, -⟩ | ⟨q, a, b, c⟩
        · exact absurd a c3
        · exact Or.inr ⟨q, a, by rw [hf5 _ _ (by omega)]; exact b, c.1, fun i hi => by rw [hsame i]; exact c.2 i hi⟩
      · rw [hf5 _ _ (by omega)]; exact k4 x hx9
      · rw [hf5 _ _ (by omega)]; exact k5
      · rw [hf5 _ _ (by omega)]; exact k6
      · rw [hf5 _ _ (by omega)]; exact k7
  · have ef : f_swap σ v w = (-4, σ) := by
      unfold f_swap
      rw [if_neg (by omega), hR.2.2.1.n c3]
    rw [ef]
    exact ⟨rfl, hR, fun _ _ _ => rfl⟩
theorem CR_le {σ : SG} (hv : VB σ) : sCR σ ≤ 35 := by
  have := tsum_le (W := sW σ) (sL σ)
  have hL7 : sL σ ≤ 7 := hv.2.2.1
  unfold sCR
  omega
theorem clk_min {σ : SG} {r : List Nat} (hv : VB σ) (hr : hOK σ r) (t : Nat) : clk σ r (min (2 * sCR σ) t) = clk σ r t := by
  by_cases c : t ≤ 2 * sCR σ
  · rw [show min (2 * sCR σ) t = t by omega]
  · rw [show min (2 * sCR σ) t = 2 * sCR σ by omega, ← clk_late hv hr (t - 2 * sCR σ), show 2 * sCR σ + (t - 2 * sCR σ) = t by omega]
theorem run_facts {σ : SG} {g g' : vx_M} (hR : RC σ g) {r : List Nat} (hr : HB σ r 39 g) {t : Nat} (h : CS σ (clk σ r (min (2 * sCR σ) t)) g' ∧ fr_C g g') : CS σ (clk σ r t) g' ∧ RC σ g' ∧ frC g g' ∧ (∀ b, g' 0 b = g 0 b) := by
  obtain ⟨k1, k2⟩ := h
  rw [clk_min hR.1.1 hr.1] at k1
  exact ⟨k1, hR.scr (fun a b x => k2 a b (by omega) (by omega) (by omega)) (fun x hx => by rw [k2 _ _ (by omega) (by omega) (by omega)]; exact hR.2.2.2.1 x hx), fun a b x => k2 a b (by omega) (by omega) (by omega), fun b => k2 _ _ (by omega) (by omega) (by omega)⟩
theorem x_tick {l : Launch} {d : Nat} {σ : SG} {g : vx_M} (hR : RC σ g) (v : Int) : spC l mX5_tick (d + 20) [.inr (some 0), .inl v] g (f_tick σ v) := by
  have bC := CR_le hR.1.1
  refine kX5_tick g v ⟨_, c_within v 0 2, fun r1 g1 h => ?_⟩
  obtain ⟨rfl, h⟩ := h
  refine ⟨fun c => ⟨fun c2 => ?_, fun c2 => ?_⟩, fun c => ?_⟩
  · obtain ⟨r, e1, e2⟩ := hR.2.2.1.s c2
    have ef : f_tick σ v = (if v = 0 then (sCR σ : Int) else if v = 1 then 2 * (sCR σ : Int) else (clk σ r 200).2.1, σ) := by
      unfold f_tick
      rw [if_neg (by omega), e1]
    rw [ef]
    refine ⟨fun c3 => ⟨_, c_crowned hR.2.1, fun r2 g2 h2 => ?_⟩, fun c3 => ⟨_, c_run (last := 200) hR.2.1 e2 (by omega), fun g4 h4 => ?_⟩⟩
    · obtain ⟨rfl, rfl⟩ := h2
      refine ⟨fun c4 => ⟨⟨by omega, by omega⟩, ?_, hR, fun _ _ _ => rfl⟩, fun c4 => ⟨?_, hR, fun _ _ _ => rfl⟩⟩
      · show _ = (if v = 0 then (sCR σ : Int) else if v = 1 then 2 * (sCR σ : Int) else (clk σ r 200).2.1)
        rw [if_neg c4, if_pos (by omega)]
      · show _ = (if v = 0 then (sCR σ : Int) else if v = 1 then 2 * (sCR σ : Int) else (clk σ r 200).2.1)
        rw [if_pos c4]
    · obtain ⟨k1, k2, k3, k4⟩ := run_facts hR e2 h4
      refine ⟨?_, k2, k3⟩
      show _ = (if v = 0 then (sCR σ : Int) else if v = 1 then 2 * (sCR σ : Int) else (clk σ r 200).2.1)
      rw [if_neg (by omega), if_neg (by omega)]
      exact k1.2.1
  · have ef : f_tick σ v = (-4, σ) := by
      unfold f_tick
      rw [if_neg (by omega), hR.2.2.1.n c2]
    rw [ef]
    exact ⟨rfl, hR, fun _ _ _ => rfl⟩
  · have ef : f_tick σ v = (-3, σ) := by
      unfold f_tick
      rw [if_pos (by omega)]
    rw [ef]
    exact ⟨rfl, hR, fun _ _ _ => rfl⟩
theorem x_weak {l : Launch} {d : Nat} {σ : SG} {g : vx_M} (hR : RC σ g) : spC l mX5_weak (d + 20) [.inr (some 0)] g (f_weak σ) := by
  refine kX5_weak g ⟨fun c2 => ?_, fun c2 => ?_⟩
  · obtain ⟨r, e1, e2⟩ := hR.2.2.1.s c2
    have ef : f_weak σ = ((clk σ r 200).2.2, σ) := by
      unfold f_weak
      rw [e1]
    rw [ef]
    refine ⟨_, c_run (last := 200) hR.2.1 e2 (by omega), fun g4 h4 => ?_⟩
    obtain ⟨k1, k2, k3, k4⟩ := run_facts hR e2 h4
    exact ⟨k1.2.2, k2, k3⟩
  · have ef : f_weak σ = (-4, σ) := by
      unfold f_weak
      rw [hR.2.2.1.n c2]
    rw [ef]
    exact ⟨rfl, hR, fun _ _ _ => rfl⟩
theorem x_effort {l : Launch} {d : Nat} {σ : SG} {g : vx_M} (hR : RC σ g) (v t : Int) : spC l mX5_effort (d + 20) [.inr (some 0), .inl v, .inl t] g (f_effort σ v t) := by
  have hL7 : sL σ ≤ 7 := hR.1.1.2.2.1
  refine kX5_effort g v t ⟨_, c_isPlace hR.2.1 v, fun r1 g1 h => ?_⟩
  obtain ⟨rfl, h⟩ := h
  refine ⟨fun c => ⟨_, c_within t 0 200, fun r2 g2 h2 => ?_⟩, fun c => ?_⟩
  · obtain ⟨rfl, h2⟩ := h2
    refine ⟨fun c1 => ⟨fun c2 => ?_, fun c2 => ?_⟩, fun c1 => ?_⟩
    · obtain ⟨r, e1, e2⟩ := hR.2.2.1.s c2
      obtain ⟨n, rfl⟩ : ∃ n : Nat, v = n := ⟨v.toNat, by omega⟩
      obtain ⟨m, rfl⟩ : ∃ m : Nat, t = m := ⟨t.toNat, by omega⟩
      have ef : f_effort σ n m = ((clk σ r m).1 n, σ) := by
        unfold f_effort
        rw [if_neg (by omega), if_neg (by omega), e1]
        rfl
      rw [ef]
      refine ⟨_, c_run (last := m) hR.2.1 e2 (by omega), fun g4 h4 => ⟨⟨by omega, by omega⟩, ?_⟩⟩
      obtain ⟨k1, k2, k3, k4⟩ := run_facts hR e2 h4
      exact ⟨k1.1 n (by omega), k2, k3⟩
    · have ef : f_effort σ v t = (-4, σ) := by
        unfold f_effort
        rw [if_neg (by omega), if_neg (by omega), hR.2.2.1.n c2]
      rw [ef]
      exact ⟨rfl, hR, fun _ _ _ => rfl⟩
    · have ef : f_effort σ v t = (-3, σ) := by
        unfold f_effort
        rw [if_neg (by omega), if_pos (by omega)]
      rw [ef]
      exact ⟨rfl, hR, fun _ _ _ => rfl⟩
  · have ef : f_effort σ v t = (-2, σ) := by
      unfold f_effort
      rw [if_pos (by omega)]
    rw [ef]
    exact ⟨rfl, hR, fun _ _ _ => rfl⟩
/-- the worths and points change, all else stays -/
theorem RC.wor {σ : SG} {g g' : vx_M} (hR : RC σ g) {c d t : Int} (hc : 0 ≤ c ∧ c ≤ 1000) (hd : 0 ≤ d ∧ d ≤ 1000) (ht : 0 ≤ t ∧ t ≤ 1000000) (h7 : g' 0 7 = c) (h8 : g' 0 8 = d) (h9 : g' 0 9 = t) (h6 : g' 0 6 = g 0 6) (hf : ∀ a b, a ≠ 0 → g' a b = g a b) : RC (σ.1, σ.2.1, σ.2.2.1, σ.2.2.2.1, (c, d, t)) g' := by
  obtain ⟨k1, k2, k3, k4, k5, k6, k7⟩ := hR
  refine ⟨⟨k1.1, k1.2.1, hc, hd, ht⟩, BC.frame (σ := (σ.1, σ.2.1, σ.2.2.1, σ.2.2.2.1, (c, d, t))) (g := g) k2 (fun a b x y => hf a b (by omega)), ?_, fun x hx => ?_, h7, h8, h9⟩
  · rcases k3 with ⟨a, b, c⟩ | ⟨r, a, b, c⟩
    · exact Or.inl ⟨a, by rw [h6]; exact b, fun i hi => by rw [hf _ _ (by omega)]; exact c i hi⟩
    · exact Or.inr ⟨r, a, by rw [h6]; exact b, c.1, fun i hi => by rw [hf _ _ (by omega)]; exact c.2 i hi⟩
  · rw [hf _ _ (by omega)]; exact k4 x hx
theorem x_worths {l : Launch} {d : Nat} {σ : SG} {g : vx_M} (hR : RC σ g) (v w : Int) : spC l mX5_worths (d + 20) [.inr (some 0), .inl v, .inl w] g (f_worths σ v w) := by
  have bad : ¬ ((0 ≤ v ∧ v ≤ 1000) ∧ (0 ≤ w ∧ w ≤ 1000)) → (fun r g' => r = (f_worths σ v w).1 ∧ RC (f_worths σ v w).2 g' ∧ frC g g') (-3) g := fun h => by
    have ef : f_worths σ v w = (-3, σ) := by
      unfold f_worths
      rw [if_pos h]
    rw [ef]
    exact ⟨rfl, hR, fun _ _ _ => rfl⟩
  refine kX5_worths g v w ⟨_, c_within v 0 1000, fun r1 g1 h1 => ?_⟩
  obtain ⟨rfl, h1⟩ := h1
  refine ⟨fun _ => bad (by omega), fun _ => ⟨_, c_within w 0 1000, fun r2 g2 h2 => ?_⟩⟩
  obtain ⟨rfl, h2⟩ := h2
  refine ⟨fun _ => ?_, fun _ => bad (by omega)⟩
  have ef : f_worths σ v w = (1, uWor σ v w) := by
    unfold f_worths
    rw [if_neg (by omega)]
  rw [ef]
  refine ⟨rfl, hR.wor (by omega) (by omega) hR.1.2.2.2.2 ?_ vx_u_at ?_ ?_ (fun a b x => by rw [vx_u_k x, vx_u_k x]), fun a b x => by rw [vx_u_k (by omega), vx_u_k (by omega)]⟩
  · rw [vx_u_j (by omega), vx_u_at]
  · rw [vx_u_j (by omega), vx_u_j (by omega)]; exact hR.2.2.2.2.2.2
  · rw [vx_u_j (by omega), vx_u_j (by omega)]
theorem pnt_bd {σ : SG} (hv : VS σ) (r : List Nat) : 0 ≤ pnt σ r ∧ pnt σ r ≤ 1000 := by
  have h1 := hv.2.2.1
  have h2 := hv.2.2.2.1
  unfold pnt
  split
  · exact h2
  · split
    · exact h1
    · omega
theorem x_attempt {l : Launch} {d : Nat} {σ : SG} {g : vx_M} (hR : RC σ g) (hT : sT σ + 1000 ≤ 1000000) : spC l mX5_attempt (d + 20) [.inr (some 0)] g (f_attempt σ) := by
  refine kX5_attempt g ⟨fun c2 => ?_, fun c2 => ?_⟩
  · obtain ⟨r, e1, e2⟩ := hR.2.2.1.s c2
    have ef : f_attempt σ = (pnt σ r, uPts σ (sT σ + pnt σ r)) := by
      unfold f_attempt
      rw [e1]
    have bp := pnt_bd hR.1 r
    have b0 := hR.1.2.2.2.2
    have hp : vNi l mX5_pointsOfTry (d + 19) [.inr (some 0)] SH g (fun z g' => z = pnt σ r ∧ RC σ g' ∧ frC g g') := by
      refine kX5_pointsOfTry g ⟨_, c_run (last := 200) hR.2.1 e2 (by omega), fun g4 h4 => ?_⟩
      obtain ⟨k1, k2, k3, k4⟩ := run_facts hR e2 h4
      refine ⟨fun c3 => ⟨_, c_crowned k2.2.1, fun r2 g2 h2 => ?_⟩, fun c3 => ⟨?_, k2, k3⟩⟩
      · obtain ⟨rfl, rfl⟩ := h2
        rw [k1.2.1] at c3 ⊢
        refine ⟨fun c4 => ⟨?_, k2, k3⟩, fun c4 => ⟨?_, k2, k3⟩⟩
        · unfold pnt
          rw [if_neg c3, if_neg (by omega)]
        · unfold pnt
          rw [if_neg c3, if_pos (by omega)]
          exact k2.2.2.2.2.1
      · rw [k1.2.1] at c3
        unfold pnt
        rw [if_pos c3]
        exact k2.2.2.2.2.2.1
    refine ⟨_, hp, fun r1 g1 h => ?_⟩
    obtain ⟨rfl, k2, k3⟩ := h
    have e9 := k2.2.2.2.2.2.2
    rw [e9, ef]
    refine ⟨⟨by omega, by omega⟩, rfl, k2.wor k2.1.2.2.1 k2.1.2.2.2.1 (by omega) ?_ ?_ vx_u_at ?_ (fun a b x => vx_u_k x), fun a b x => ?_⟩
    · rw [vx_u_j (by omega)]; exact k2.2.2.2.2.1
    · rw [vx_u_j (by omega)]; exact k2.2.2.2.2.2.1
    · rw [vx_u_j (by omega)]
    · rw [vx_u_k (by omega)]; exact k3 a b x
  · have ef : f_attempt σ = (-4, σ) := by
      unfold f_attempt
      rw [hR.2.2.1.n c2]
    rw [ef]
    exact ⟨rfl, hR, fun _ _ _ => rfl⟩
theorem co_bd {σ : SG} : ∀ k, 0 ≤ co σ k ∧ co σ k ≤ k
  | 0 => by show (0 : Int) ≤ 0 ∧ (0 : Int) ≤ _; omega
  | k + 1 => by
    have := co_bd (σ := σ) k
    show 0 ≤ co σ k + (if _ then 0 else 1) ∧ co σ k + (if _ then 0 else 1) ≤ _
    split <;> omega
theorem c_countOut {l : Launch} {d : Nat} {σ : SG} {g : vx_M} (hB : BC σ g) : vNi l mX1_countOut d [.inr (some 13)] SH g (fun r g' => r = co σ (sN σ) ∧ g' = g) := by
  have en : g 13 6 = (sN σ : Nat) := hB.2.2.1.1
  have hn8 := hB.1.2.2.2.1
  refine kX1_countOut g ?_
  have key : ∀ (k i : Nat), i + k = sN σ → vN l mX1_countOut d (vx_pi SH (fun r g' => r = co σ (sN σ) ∧ g' = g)) SH g 4 [some (.inr (some 13)), some (.inl (co σ i)), some (.inl (i : Int))] [] := by
    intro k
    induction k with
    | zero =>
      intro i hi
      refine tX1_countOut_4 g _ _ ⟨fun _ => ⟨by rw [show i = sN σ by omega], rfl⟩, fun c => by omega⟩
    | succ k ih =>
      intro i hi
      have e19 := hB.2.2.1.2 5 i (by omega) (by omega)
      rw [show 14 + 5 = 19 from rfl] at e19
      have bc := co_bd (σ := σ) i
      refine tX1_countOut_4 g _ _ ⟨fun c => by omega, fun _ => ⟨⟨by omega, by omega⟩, fun c1 => ⟨⟨by omega, by omega⟩, ⟨by omega, by omega⟩, ?_⟩, fun c1 => ⟨⟨by omega, by omega⟩, ⟨by omega, by omega⟩, ?_⟩⟩⟩
      · have h9 := ih (i + 1) (by omega)
        have e : co σ (i + 1) = co σ i + 0 := by
          show co σ i + (if sA σ 5 i = 0 then 0 else 1) = _
          rw [if_pos (by omega)]
        rw [e] at h9
        exact h9
      · have h9 := ih (i + 1) (by omega)
        have e : co σ (i + 1) = co σ i + 1 := by
          show co σ i + (if sA σ 5 i = 0 then 0 else 1) = _
          rw [if_neg (by omega)]
        rw [e] at h9
        exact h9
  exact key (sN σ) 0 (by omega)
theorem x_count {l : Launch} {d : Nat} {σ : SG} {g : vx_M} (hR : RC σ g) (v : Int) : spC l mX5_count (d + 20) [.inr (some 0), .inl v] g (f_count σ v) := by
  have hB := hR.2.1
  have fin : ∀ z : Int, z = (f_count σ v).1 → (fun r g' => r = (f_count σ v).1 ∧ RC (f_count σ v).2 g' ∧ frC g g') z g := fun z hz => ⟨hz, hR, fun _ _ _ => rfl⟩
  refine kX5_count g v ⟨fun c => fin _ ?_, fun c => fin _ ?_, fun c => fin _ ?_, fun c => fin _ ?_, fun c => ⟨_, c_countOut hB, fun r1 g1 h => ?_⟩, fun c => fin _ ?_, fun c => ⟨fun c2 => fin _ ?_, fun c2 => fin _ ?_⟩⟩
  · unfold f_count
    simp only
    rw [if_neg (by omega), if_neg (by omega), if_neg (by omega), if_neg (by omega), if_neg (by omega), if_neg (by omega)]
  · subst c; exact hB.2.1.1
  · subst c; exact hB.2.1.2.1
  · subst c; exact hB.2.2.1.1
  · obtain ⟨rfl, rfl⟩ := h
    refine fin _ ?_
    subst c; rfl
  · subst c; exact hR.2.2.2.2.2.2
  · subst c
    show 0 = (match sR σ with | none => (0 : Int) | some _ => 1)
    rw [hR.2.2.1.n c2]
  · subst c
    show 1 = (match sR σ with | none => (0 : Int) | some _ => 1)
    obtain ⟨r, e1, e2⟩ := hR.2.2.1.s c2
    rw [e1]

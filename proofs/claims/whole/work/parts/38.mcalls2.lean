theorem RM.tow {σ : SG} {g g' : vx_M} (hR : RM σ g) {h : Nat} {W : WT} (hh : 1 ≤ h ∧ h ≤ 4) (hw : wok W) (h7 : pF W h ≤ 7) (hT : TQ W h (pF W h) g') (h14 : g' 40 14 = 0) (hf : ∀ a b, a ≠ 40 → a ≠ 41 → a ≠ 48 → a ≠ 49 → a ≠ 50 → g' a b = g a b) (h40 : ∀ b, b ≠ 0 → b ≠ 10 → b ≠ 14 → g' 40 b = g 40 b) : RM (uTow σ h W) g' := by
  obtain ⟨k1, k2, k3, k4, k5, k6⟩ := hR
  refine ⟨⟨⟨hh, hw, h7, k1.1.2.2.2⟩, fun r hr => ?_, k1.2.2⟩, ⟨⟨hh, hw, h7, k1.1.2.2.2⟩, hT.1, hT.2.1, hT.2.2.1, ?_, fun i p hi hp => ?_, ?_, hT.2.2.2⟩, Or.inl ⟨rfl, h14⟩, ?_, ?_, ?_⟩
  · have hr : (none : Option (List Nat)) = some r := hr
    cases hr
  · rw [h40 _ (by omega) (by omega) (by omega)]; exact k2.2.2.2.2.1
  · rw [hf _ _ (by omega) (by omega) (by omega) (by omega) (by omega)]; exact k2.2.2.2.2.2.1 i p hi hp
  · rw [h40 _ (by omega) (by omega) (by omega)]; exact k2.2.2.2.2.2.2.1
  · rw [h40 _ (by omega) (by omega) (by omega)]; exact k4
  · rw [h40 _ (by omega) (by omega) (by omega)]; exact k5
  · rw [h40 _ (by omega) (by omega) (by omega)]; exact k6
theorem y_storeys {l : Launch} {d : Nat} {σ : SG} {g : vx_M} (hR : RM σ g) (v : Int) : spM l mX6_storeys (d + 20) [.inr (some 40), .inl v] g (f_storeys σ v) := by
  have hB := hR.2.1
  refine kX6_storeys g v ⟨_, c_in v 1 4, fun r1 g1 h => ?_⟩
  obtain ⟨rfl, h⟩ := h
  refine ⟨fun c => ?_, fun c => ?_⟩
  · obtain ⟨n, rfl⟩ : ∃ n : Nat, v = n := ⟨v.toNat, by omega⟩
    have e0 : ((n : Int)).toNat = n := by omega
    refine ⟨_, m_sum (h := n) g1 (sW σ) hB.1.2.1 (by omega) hB.2.2.2.1, fun r2 g2 h => ?_⟩
    obtain ⟨rfl, rfl⟩ := h
    refine ⟨fun c2 => ?_, fun c2 => ?_⟩
    · have ef : f_storeys σ n = (((pF (sW σ) n : Nat) : Int), uTow σ n (sW σ)) := by
        unfold f_storeys
        rw [e0, if_neg (by omega), if_neg (by omega)]
      rw [ef]
      refine ⟨_, m_findPlaces (h := n) _ (sW σ) hB.1.2.1 (by omega) (by omega) (by omega) (by rw [vx_u_j (by omega), vx_u_at]) (fun t ht => by rw [vx_u_k (by omega), vx_u_k (by omega)]; exact hB.2.2.2.1 t ht), fun g3 h => ?_⟩
      obtain ⟨hT, hf1, hf2⟩ := h
      refine ⟨hT.2.1, hR.tow ⟨by omega, by omega⟩ hB.1.2.1 (by omega) hT ?_ (fun a b x1 x2 x3 x4 x5 => ?_) (fun b x1 x2 x3 => ?_), fun a b x => ?_⟩
      · rw [hf2 _ (by omega), vx_u_at]
      · rw [hf1 a b x1 x3 x4 x5, vx_u_k x1, vx_u_k x1]
      · rw [hf2 b x2, vx_u_j x3, vx_u_j x1]
      · rw [hf1 a b (by omega) (by omega) (by omega) (by omega), vx_u_k (by omega), vx_u_k (by omega)]
    · have ef : f_storeys σ n = (-4, σ) := by
        unfold f_storeys
        rw [e0, if_neg (by omega), if_pos (by omega)]
      rw [ef]
      exact ⟨rfl, hR, fun _ _ _ => rfl⟩
  · have ef : f_storeys σ v = (-3, σ) := by
      unfold f_storeys
      rw [if_pos (by omega)]
    rw [ef]
    exact ⟨rfl, hR, fun _ _ _ => rfl⟩
theorem y_width {l : Launch} {d : Nat} {σ : SG} {g : vx_M} (hR : RM σ g) (s w : Int) : spM l mX6_width (d + 20) [.inr (some 40), .inl s, .inl w] g (f_width σ s w) := by
  have hB := hR.2.1
  have hv := hB.1
  have e0' := hB.2.1
  have hL7 : sL σ ≤ 7 := hv.2.2.1
  refine kX6_width g s w ⟨_, c_in s 0 3, fun r1 g1 h1 => ?_⟩
  obtain ⟨rfl, h1⟩ := h1
  refine ⟨fun c => ⟨_, c_in w 1 3, fun r2 g2 h2 => ?_⟩, fun c => ?_⟩
  · obtain ⟨rfl, h2⟩ := h2
    obtain ⟨n, rfl⟩ : ∃ n : Nat, s = n := ⟨s.toNat, by omega⟩
    have e0 : ((n : Int)).toNat = n := by omega
    have e2 := hB.2.2.2.1 n (by omega)
    have wn := hv.2.1 n
    have go : 1 ≤ w → w ≤ 3 → ¬ ((n : Int) < sH σ ∧ 7 < (sL σ : Int) - wq (sW σ) n + w) → vN l mX6_width (d + 19 + 1) (vx_pi SH (fun r g' => r = (f_width σ n w).1 ∧ RM (f_width σ n w).2 g' ∧ frM g2 g')) SH g2 59 [some (.inr (some 40)), some (.inl (n : Int)), some (.inl w), some (.inl (g2 41 (n : Int)))] [] := by
      intro w1 w3 hno
      obtain ⟨m, rfl⟩ : ∃ m : Nat, w = m := ⟨w.toNat, by omega⟩
      have em : ((m : Int)).toNat = m := by omega
      have ef : f_width σ n m = (((wq (sW σ) n : Nat) : Int), uTow σ (sH σ) (wset (sW σ) n m)) := by
        unfold f_width
        rw [if_neg (by omega), if_neg (by omega), e0, em, if_neg hno]
      have hok : wok (wset (sW σ) n m) := fun t => by
        rw [wset_eq _ _ _ _ (by omega)]
        split
        · omega
        · exact hv.2.1 t
      have hF : pF (wset (sW σ) n m) (sH σ) ≤ 7 := by
        rw [wset_F _ _ _ (by omega) _ hv.1.2]
        have e9 : pF (sW σ) (sH σ) = sL σ := rfl
        rw [e9]
        split
        · have hle : wq (sW σ) n ≤ sL σ := by
            have := pl_in hv (s := n) (by omega)
            omega
          omega
        · omega
      rw [ef]
      refine tX6_width_59 g2 _ _ _ ⟨⟨by omega, by omega⟩, ?_⟩
      refine ⟨_, m_findPlaces (h := sH σ) _ (wset (sW σ) n m) hok hv.1.1 hv.1.2 hF (by rw [vx_u_j (by omega), vx_u_k (by omega)]; exact e0') (fun t ht => ?_), fun g3 h => ?_⟩
      · rw [vx_u_k (by omega), wset_eq _ _ _ _ (by omega)]
        by_cases c9 : t = n
        · rw [if_pos (Or.inl c9), c9, vx_u_at]
        · rw [if_neg (by omega), vx_u_j (by omega)]
          exact hB.2.2.2.1 t ht
      · obtain ⟨hT, hf1, hf2⟩ := h
        refine ⟨e2, hR.tow hv.1 hok hF hT ?_ (fun a b x1 x2 x3 x4 x5 => ?_) (fun b x1 x2 x3 => ?_), fun a b x => ?_⟩
        · rw [hf2 _ (by omega), vx_u_at]
        · rw [hf1 a b x1 x3 x4 x5, vx_u_k x1, vx_u_k x2]
        · rw [hf2 b x2, vx_u_j x3, vx_u_k (by omega)]
        · rw [hf1 a b (by omega) (by omega) (by omega) (by omega), vx_u_k (by omega), vx_u_k (by omega)]
    refine ⟨fun c2 => ⟨⟨by omega, by omega⟩, ?_, ?_⟩, fun c2 => ?_⟩
    · intro c3
      exact go (by omega) (by omega) (by omega)
    · intro c3
      rw [e0']
      refine ⟨_, m_sum (h := sH σ) g2 (sW σ) hv.2.1 hv.1.2 hB.2.2.2.1, fun r4 g4 h4 => ?_⟩
      obtain ⟨rfl, rfl⟩ := h4
      have hle : wq (sW σ) n ≤ sL σ := by
        have := pl_in hv (s := n) (by omega)
        omega
      have e9 : pF (sW σ) (sH σ) = sL σ := rfl
      rw [e9, e2]
      refine ⟨⟨by omega, by omega⟩, ⟨by omega, by omega⟩, ?_, ?_⟩
      · intro c4
        have h9 := go (by omega) (by omega) (by omega)
        rw [e2] at h9
        exact h9
      · intro c4
        have ef : f_width σ n w = (-4, σ) := by
          unfold f_width
          rw [if_neg (by omega), if_neg (by omega), e0, if_pos ⟨by omega, by omega⟩]
        rw [ef]
        exact ⟨rfl, hR, fun _ _ _ => rfl⟩
    · have ef : f_width σ n w = (-3, σ) := by
        unfold f_width
        rw [if_neg (by omega), if_pos (by omega)]
      rw [ef]
      exact ⟨rfl, hR, fun _ _ _ => rfl⟩
  · have ef : f_width σ s w = (-2, σ) := by
      unfold f_width
      rw [if_pos (by omega)]
    rw [ef]
    exact ⟨rfl, hR, fun _ _ _ => rfl⟩
theorem RM.ppl {σ : SG} {g g' : vx_M} (hR : RM σ g) {n : Nat} {A : Nat → Nat → Int} (hn : sN σ ≤ n ∧ n ≤ 8) (hA : ∀ p, p < n → pOK A p) (h01 : ∀ p, A 5 p = 0 ∨ A 5 p = 1) (hz : ∀ p, n ≤ p → A 5 p = 0) (h2 : g' 40 2 = (n : Nat)) (hP : ∀ i p : Nat, i < 6 → p < 8 → g' (42 + i) p = A i p) (hf : ∀ a b, a ≠ 40 → (a < 42 ∨ 48 ≤ a) → g' a b = g a b) (h40 : ∀ b, b ≠ 2 → g' 40 b = g 40 b) : RM (uPpl σ n A) g' := by
  obtain ⟨k1, k2, k3, k4, k5, k6⟩ := hR
  have hb : VB (uPpl σ n A) := ⟨k1.1.1, k1.1.2.1, k1.1.2.2.1, hn.2, hA, h01, hz, k1.1.2.2.2.2.2.2.2⟩
  refine ⟨⟨hb, fun r hr => ?_, k1.2.2⟩, ⟨hb, ?_, ?_, fun t ht => ?_, h2, hP, ?_, fun p hp => ?_⟩, ?_, ?_, ?_, ?_⟩
  · have h9 := k1.2.1 r hr
    exact ⟨h9.1, fun i hi => Nat.lt_of_lt_of_le (h9.2 i hi) hn.1⟩
  · rw [h40 _ (by omega)]; exact k2.2.1
  · rw [h40 _ (by omega)]; exact k2.2.2.1
  · rw [hf _ _ (by omega) (by omega)]; exact k2.2.2.2.1 t ht
  · rw [h40 _ (by omega)]; exact k2.2.2.2.2.2.2.1
  · rw [hf _ _ (by omega) (by omega), hf _ _ (by omega) (by omega), hf _ _ (by omega) (by omega)]; exact k2.2.2.2.2.2.2.2 p hp
  · rcases k3 with ⟨a, b⟩ | ⟨r, a, b, c⟩
    · exact Or.inl ⟨a, by rw [h40 _ (by omega)]; exact b⟩
    · exact Or.inr ⟨r, a, by rw [h40 _ (by omega)]; exact b, ⟨c.1.1, fun i hi => Nat.lt_of_lt_of_le (c.1.2 i hi) hn.1⟩, fun i hi => by rw [hf _ _ (by omega) (by omega)]; exact c.2 i hi⟩
  · rw [h40 _ (by omega)]; exact k4
  · rw [h40 _ (by omega)]; exact k5
  · rw [h40 _ (by omega)]; exact k6
theorem y_person {l : Launch} {d : Nat} {σ : SG} {g : vx_M} (hR : RM σ g) (a b c e f : Int) : spM l mX6_person (d + 20) [.inr (some 40), .inl a, .inl b, .inl c, .inl e, .inl f] g (f_person σ a b c e f) := by
  have hB := hR.2.1
  have hv := hB.1
  have en := hB.2.2.2.2.1
  have hn8 := hv.2.2.2.1
  have bad : ¬ ((100 ≤ a ∧ a ≤ 200) ∧ (20 ≤ b ∧ b ≤ 120) ∧ (0 ≤ c ∧ c ≤ 400) ∧ (0 ≤ e ∧ e ≤ 3) ∧ (0 ≤ f ∧ f ≤ 20000)) → (fun r g' => r = (f_person σ a b c e f).1 ∧ RM (f_person σ a b c e f).2 g' ∧ frM g g') (-3) g := fun h => by
    have ef : f_person σ a b c e f = (-3, σ) := by
      unfold f_person
      rw [if_pos h]
    rw [ef]
    exact ⟨rfl, hR, fun _ _ _ => rfl⟩
  refine kX6_person g a b c e f ⟨_, c_in a 100 200, fun r1 g1 h1 => ?_⟩
  obtain ⟨rfl, h1⟩ := h1
  refine ⟨fun _ => bad (by omega), fun _ => ⟨_, c_in b 20 120, fun r2 g2 h2 => ?_⟩⟩
  obtain ⟨rfl, h2⟩ := h2
  refine ⟨fun _ => bad (by omega), fun _ => ⟨_, c_in c 0 400, fun r3 g3 h3 => ?_⟩⟩
  obtain ⟨rfl, h3⟩ := h3
  refine ⟨fun _ => bad (by omega), fun _ => ⟨_, c_in e 0 3, fun r4 g4 h4 => ?_⟩⟩
  obtain ⟨rfl, h4⟩ := h4
  refine ⟨fun _ => bad (by omega), fun _ => ⟨_, c_in f 0 20000, fun r5 g5 h5 => ?_⟩⟩
  obtain ⟨rfl, h5⟩ := h5
  refine ⟨fun _ => ?_, fun _ => bad (by omega)⟩
  have hall : (100 ≤ a ∧ a ≤ 200) ∧ (20 ≤ b ∧ b ≤ 120) ∧ (0 ≤ c ∧ c ≤ 400) ∧ (0 ≤ e ∧ e ≤ 3) ∧ (0 ≤ f ∧ f ≤ 20000) := by omega
  rw [en]
  refine ⟨fun c8 => ⟨⟨by omega, by omega⟩, ⟨by omega, by omega⟩, ⟨by omega, by omega⟩, ⟨by omega, by omega⟩, ⟨by omega, by omega⟩, ⟨by omega, by omega⟩, ?_, ?_⟩, fun c8 => ?_⟩
  · rw [vx_u_at]; exact ⟨by omega, by omega⟩
  · have ef : f_person σ a b c e f = (((sN σ : Nat) : Int), uPpl σ (sN σ + 1) (addA (sA σ) (sN σ) a b c e f)) := by
      unfold f_person
      rw [if_neg (fun h => h hall), if_neg (by omega)]
    rw [ef, vx_u_at]
    refine ⟨by show ((sN σ : Nat) : Int) + 1 - 1 = _; omega, hR.ppl ⟨by omega, by omega⟩ (pOK_add hv hall) (fun p => ?_) (fun p hp => ?_) (by rw [vx_u_at]; omega) (fun i p hi hp => ?_) (fun a b x y => ?_) (fun b x => ?_), fun a b x => ?_⟩
    · show addA (sA σ) (sN σ) a b c e f 5 p = 0 ∨ addA (sA σ) (sN σ) a b c e f 5 p = 1
      unfold addA
      split
      · exact Or.inl rfl
      · exact hv.2.2.2.2.2.1 p
    · show addA (sA σ) (sN σ) a b c e f 5 p = 0
      unfold addA
      rw [if_neg (by omega)]
      exact hv.2.2.2.2.2.2.1 p (by omega)
    · have hp2 := hB.2.2.2.2.2.1 i p hi hp
      unfold addA
      rw [vx_u_k (by omega)]
      by_cases cp : p = sN σ
      · rw [if_pos cp, cp]
        match i, hi with
        | 0, _ => (rw [vx_u_k (by omega), vx_u_k (by omega), vx_u_k (by omega), vx_u_k (by omega), vx_u_at]; rfl)
        | 1, _ => (rw [vx_u_k (by omega), vx_u_k (by omega), vx_u_k (by omega), vx_u_at]; rfl)
        | 2, _ => (rw [vx_u_k (by omega), vx_u_k (by omega), vx_u_at]; rfl)
        | 3, _ => (rw [vx_u_k (by omega), vx_u_at]; rfl)
        | 4, _ => (rw [vx_u_at]; rfl)
        | 5, _ => (rw [vx_u_k (by omega), vx_u_k (by omega), vx_u_k (by omega), vx_u_k (by omega), vx_u_k (by omega), ← cp, hp2, cp]; exact hv.2.2.2.2.2.2.1 _ (Nat.le_refl _))
      · rw [if_neg cp, vx_u_j (by omega), vx_u_j (by omega), vx_u_j (by omega), vx_u_j (by omega), vx_u_j (by omega)]
        exact hp2
    · rw [vx_u_k x, vx_u_k (by omega), vx_u_k (by omega), vx_u_k (by omega), vx_u_k (by omega), vx_u_k (by omega)]
    · rw [vx_u_j x, vx_u_k (by omega), vx_u_k (by omega), vx_u_k (by omega), vx_u_k (by omega), vx_u_k (by omega)]
    · rw [vx_u_k (by omega), vx_u_k (by omega), vx_u_k (by omega), vx_u_k (by omega), vx_u_k (by omega), vx_u_k (by omega)]
  · have ef : f_person σ a b c e f = (-5, σ) := by
      unfold f_person
      rw [if_neg (fun h => h hall), if_pos (by omega)]
    rw [ef]
    exact ⟨rfl, hR, fun _ _ _ => rfl⟩
theorem y_out {l : Launch} {d : Nat} {σ : SG} {g : vx_M} (hR : RM σ g) (x b : Int) (hb : b = 0 ∨ b = 1) : spM l mX6_out (d + 20) [.inr (some 40), .inl x, .inl b] g (f_out σ x b) := by
  have hB := hR.2.1
  have hv := hB.1
  have en := hB.2.2.2.2.1
  have hn8 := hv.2.2.2.1
  refine kX6_out g x b ⟨_, m_isPerson hB x, fun r1 g1 h => ?_⟩
  obtain ⟨rfl, h⟩ := h
  refine ⟨fun c => ?_, fun c => ?_⟩
  · obtain ⟨n, rfl⟩ : ∃ n : Nat, x = n := ⟨x.toNat, by omega⟩
    have e0 : ((n : Int)).toNat = n := by omega
    have e47 : g1 47 n = sA σ 5 n := hB.2.2.2.2.2.1 5 n (by omega) (by omega)
    have ef : f_out σ n b = (sA σ 5 n, uPpl σ (sN σ) (outA (sA σ) n b)) := by
      unfold f_out
      rw [if_neg (by omega), e0]
    have hRM : RM (uPpl σ (sN σ) (outA (sA σ) n b)) (vx_u g1 47 n b) := by
      refine hR.ppl ⟨Nat.le_refl _, hn8⟩ (fun p hp => ?_) (fun p => ?_) (fun p hp => ?_) (by rw [vx_u_k (by omega)]; exact en) (fun i p hi hp => ?_) (fun a b x y => vx_u_k (by omega)) (fun b x => vx_u_k (by omega))
      · have h9 := hv.2.2.2.2.1 p hp
        unfold pOK outA
        simp only [show ¬ ((0 : Nat) = 5 ∧ p = n) by omega, show ¬ ((1 : Nat) = 5 ∧ p = n) by omega, show ¬ ((2 : Nat) = 5 ∧ p = n) by omega, show ¬ ((3 : Nat) = 5 ∧ p = n) by omega, show ¬ ((4 : Nat) = 5 ∧ p = n) by omega, if_false]
        exact h9
      · show outA (sA σ) n b 5 p = 0 ∨ outA (sA σ) n b 5 p = 1
        unfold outA
        split
        · exact hb
        · exact hv.2.2.2.2.2.1 p
      · show outA (sA σ) n b 5 p = 0
        unfold outA
        rw [if_neg (by omega)]
        exact hv.2.2.2.2.2.2.1 p hp
      · unfold outA
        by_cases cc : i = 5 ∧ p = n
        · rw [if_pos cc, cc.1, cc.2]
          exact vx_u_at
        · rw [if_neg cc, ← hB.2.2.2.2.2.1 i p hi hp]
          by_cases ci : i = 5
          · rw [vx_u_j (by omega)]
          · rw [vx_u_k (by omega)]
    rw [ef]
    refine ⟨⟨by omega, by omega⟩, ⟨by omega, by omega⟩, hb, fun c2 => ⟨?_, hRM, fun a b x => vx_u_k (by omega)⟩, fun c2 => ⟨?_, hRM, fun a b x => vx_u_k (by omega)⟩⟩
    · show 0 = sA σ 5 n
      omega
    · show 1 = sA σ 5 n
      rcases hv.2.2.2.2.2.1 n with h9 | h9 <;> omega
  · have ef : f_out σ x b = (-2, σ) := by
      unfold f_out
      rw [if_pos (by omega)]
    rw [ef]
    exact ⟨rfl, hR, fun _ _ _ => rfl⟩
theorem y_play {l : Launch} {d : Nat} {σ : SG} {g : vx_M} (hR : RM σ g) (v : Int) : spM l mX6_play (d + 20) [.inr (some 40), .inl v] g (f_play σ v) := by
  refine kX6_play g v ⟨_, c_in v 0 50, fun r1 g1 h => ?_⟩
  obtain ⟨rfl, h⟩ := h
  refine ⟨fun c => ?_, fun c => ?_⟩
  · have ef : f_play σ v = (sP σ, uPly σ v) := by
      unfold f_play
      rw [if_neg (by omega)]
    rw [ef]
    obtain ⟨k1, k2, k3, k4, k5, k6⟩ := hR
    have hb : VB (uPly σ v) := ⟨k1.1.1, k1.1.2.1, k1.1.2.2.1, k1.1.2.2.2.1, k1.1.2.2.2.2.1, k1.1.2.2.2.2.2.1, k1.1.2.2.2.2.2.2.1, by show 0 ≤ v ∧ v ≤ 50; omega⟩
    have hf : ∀ a b, (a ≠ 40 ∨ b ≠ 9) → vx_u g1 40 9 v a b = g1 a b := fun a b x => by
      by_cases ha : a = 40
      · rw [vx_u_j (by omega)]
      · rw [vx_u_k ha]
    refine ⟨k2.2.2.2.2.2.2.1, ⟨⟨hb, k1.2.1, k1.2.2⟩, ⟨hb, ?_, ?_, fun t ht => ?_, ?_, fun i p hi hp => ?_, vx_u_at, fun p hp => ?_⟩, ?_, ?_, ?_, ?_⟩, fun a b x => hf a b (by omega)⟩
    · rw [hf _ _ (by omega)]; exact k2.2.1
    · rw [hf _ _ (by omega)]; exact k2.2.2.1
    · rw [hf _ _ (by omega)]; exact k2.2.2.2.1 t ht
    · rw [hf _ _ (by omega)]; exact k2.2.2.2.2.1
    · rw [hf _ _ (by omega)]; exact k2.2.2.2.2.2.1 i p hi hp
    · rw [hf _ _ (by omega), hf _ _ (by omega), hf _ _ (by omega)]; exact k2.2.2.2.2.2.2.2 p hp
    · rcases k3 with ⟨a, b⟩ | ⟨r, a, b, c⟩
      · exact Or.inl ⟨a, by rw [hf _ _ (by omega)]; exact b⟩
      · exact Or.inr ⟨r, a, by rw [hf _ _ (by omega)]; exact b, c.1, fun i hi => by rw [hf _ _ (by omega)]; exact c.2 i hi⟩
    · rw [hf _ _ (by omega)]; exact k4
    · rw [hf _ _ (by omega)]; exact k5
    · rw [hf _ _ (by omega)]; exact k6
  · have ef : f_play σ v = (-3, σ) := by
      unfold f_play
      rw [if_pos (by omega)]
    rw [ef]
    exact ⟨rfl, hR, fun _ _ _ => rfl⟩

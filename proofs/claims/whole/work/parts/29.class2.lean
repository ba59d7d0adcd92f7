theorem RC.tow {σ : SG} {g g' : vx_M} (hR : RC σ g) {h : Nat} {W : WT} (hh : 1 ≤ h ∧ h ≤ 4) (hw : wok W) (h7 : pF W h ≤ 7) (hT : TOW W h g') (hW : ∀ t : Nat, t < 4 → g' 2 t = wq W t) (h0 : g' 0 6 = 0) (h39 : ∀ i : Nat, i < 7 → g' 39 i = -1) (hf : ∀ a b, a ≠ 1 → a ≠ 2 → a ≠ 3 → a ≠ 4 → (a < 6 ∨ 13 ≤ a) → (a ≠ 0 ∨ b ≠ 6) → a ≠ 39 → g' a b = g a b) : RC (uTow σ h W) g' := by
  obtain ⟨h1, h2, h3, h4, h5, h6, h7'⟩ := hR
  refine ⟨⟨⟨hh, hw, h7, h1.1.2.2.2⟩, fun r hr => ?_, h1.2.2⟩, ⟨⟨hh, hw, h7, h1.1.2.2.2⟩, hT, ⟨?_, fun i p hi hp => ?_⟩, ?_, hW⟩, Or.inl ⟨rfl, h0, h39⟩, fun x hx => ?_, ?_, ?_, ?_⟩
  · have hr : (none : Option (List Nat)) = some r := hr
    cases hr
  · rw [hf _ _ (by omega) (by omega) (by omega) (by omega) (by omega) (by omega) (by omega)]; exact h2.2.2.1.1
  · rw [hf _ _ (by omega) (by omega) (by omega) (by omega) (by omega) (by omega) (by omega)]; exact h2.2.2.1.2 i p hi hp
  · rw [hf _ _ (by omega) (by omega) (by omega) (by omega) (by omega) (by omega) (by omega)]; exact h2.2.2.2.1
  · rw [hf _ _ (by omega) (by omega) (by omega) (by omega) (by omega) (by omega) (by omega)]; exact h4 x hx
  · rw [hf _ _ (by omega) (by omega) (by omega) (by omega) (by omega) (by omega) (by omega)]; exact h5
  · rw [hf _ _ (by omega) (by omega) (by omega) (by omega) (by omega) (by omega) (by omega)]; exact h6
  · rw [hf _ _ (by omega) (by omega) (by omega) (by omega) (by omega) (by omega) (by omega)]; exact h7'
theorem TOW.frame {W : WT} {h : Nat} {g g' : vx_M} (hT : TOW W h g) (h7 : pF W h ≤ 7) (hf : ∀ a b, 1 ≤ a → a < 13 → g' a b = g a b) : TOW W h g' := by
  obtain ⟨t1, t2, t3, t4, t5⟩ := hT
  refine ⟨?_, ?_, ?_, ?_, ?_⟩
  · rw [hf _ _ (by omega) (by omega)]; exact t1
  · rw [hf _ _ (by omega) (by omega)]; exact t2
  · intro s hs; rw [hf _ _ (by omega) (by omega)]; exact t3 s hs
  · intro s hs; rw [hf _ _ (by omega) (by omega)]; exact t4 s hs
  · intro p q hp hq; rw [hf _ _ (by omega) (by omega)]; exact t5 p q hp hq
theorem x_storeys {l : Launch} {d : Nat} {σ : SG} {g : vx_M} (hR : RC σ g) (v : Int) : spC l mX5_storeys (d + 20) [.inr (some 0), .inl v] g (f_storeys σ v) := by
  have hB := hR.2.1
  refine kX5_storeys g v ⟨_, c_within v 1 4, fun r1 g1 h => ?_⟩
  obtain ⟨rfl, h⟩ := h
  refine ⟨fun c => ?_, fun c => ?_⟩
  · obtain ⟨n, rfl⟩ : ∃ n : Nat, v = n := ⟨v.toNat, by omega⟩
    have e0 : ((n : Int)).toNat = n := by omega
    refine ⟨_, c_placesUpTo (h := n) tw_SH g1 (sW σ) hB.1.2.1 (by omega) hB.2.2.2.2, fun r2 g2 h => ?_⟩
    obtain ⟨rfl, rfl⟩ := h
    refine ⟨fun c2 => ?_, fun c2 => ?_⟩
    · have ef : f_storeys σ n = (((pF (sW σ) n : Nat) : Int), uTow σ n (sW σ)) := by
        unfold f_storeys
        rw [e0, if_neg (by omega), if_neg (by omega)]
      rw [ef]
      refine ⟨_, c_build (h := n) tw_SH _ (sW σ) hB.1.2.1 (by omega) (by omega) (by omega) hB.2.2.2.2, fun g3 h => ?_⟩
      obtain ⟨hT, hfr⟩ := h
      refine ⟨_, c_endPlacing, fun g4 h => ?_⟩
      obtain ⟨a1, a2, a3⟩ := h
      have hT4 : TOW (sW σ) n g4 := hT.frame (by omega) (fun a b x y => a3 a b (by omega) (by omega))
      refine ⟨hT4.2.1, hR.tow ⟨by omega, by omega⟩ hB.1.2.1 (by omega) hT4 (fun t ht => ?_) a1 a2 (fun a b x1 x2 x3 x4 x5 x6 x7 => ?_), fun a b x => ?_⟩
      · rw [a3 _ _ (by omega) (by omega), hfr _ _ (by omega) (by omega) (by omega) (by omega)]; exact hB.2.2.2.2 t ht
      · rw [a3 a b x6 x7, hfr a b x1 x3 x4 x5]
      · rw [a3 a b (by omega) (by omega), hfr a b (by omega) (by omega) (by omega) (by omega)]
    · have ef : f_storeys σ n = (-4, σ) := by
        unfold f_storeys
        rw [e0, if_neg (by omega), if_pos (by omega)]
      rw [ef]
      exact ⟨rfl, hR, fun _ _ _ => rfl⟩
  · have ef : f_storeys σ v = (-3, σ) := by
      unfold f_storeys
      rw [if_pos (by omega)]
    rw [ef]
    exact ⟨rfl, hR, fun _ _ _ => rfl⟩
theorem wset_eq (W : WT) (s v t : Nat) (hs : s < 4) : wq (wset W s v) t = if t = s ∨ (3 ≤ s ∧ 3 ≤ t) then v else wq W t := by
  match s, hs with
  | 0, _ => match t with
    | 0 => rfl
    | 1 => rfl
    | 2 => rfl
    | t + 3 => rw [if_neg (by omega)]; rfl
  | 1, _ => match t with
    | 0 => rfl
    | 1 => rfl
    | 2 => rfl
    | t + 3 => rw [if_neg (by omega)]; rfl
  | 2, _ => match t with
    | 0 => rfl
    | 1 => rfl
    | 2 => rfl
    | t + 3 => rw [if_neg (by omega)]; rfl
  | 3, _ => match t with
    | 0 => rfl
    | 1 => rfl
    | 2 => rfl
    | t + 3 => rw [if_pos (by omega)]; rfl
theorem wset_F (W : WT) (s v : Nat) (hs : s < 4) : ∀ h, h ≤ 4 → pF (wset W s v) h = if s < h then pF W h - wq W s + v else pF W h
  | 0, _ => rfl
  | h + 1, hh => by
    have ih := wset_F W s v hs h (by omega)
    have hw := wset_eq W s v h hs
    have hle : s < h → wq W s ≤ pF W h := fun c => by
      have : pF W (s + 1) ≤ pF W h := pF_mono (by omega)
      have e : pF W (s + 1) = pF W s + wq W s := rfl
      omega
    show pF (wset W s v) h + wq (wset W s v) h = if s < h + 1 then pF W h + wq W h - wq W s + v else pF W h + wq W h
    rw [ih, hw]
    by_cases c1 : s < h
    · have := hle c1
      rw [if_pos c1, if_neg (show ¬ (h = s ∨ (3 ≤ s ∧ 3 ≤ h)) by omega), if_pos (show s < h + 1 by omega)]
      omega
    · by_cases c2 : s = h
      · rw [if_neg c1, if_pos (Or.inl c2.symm), if_pos (show s < h + 1 by omega), c2]
        omega
      · rw [if_neg c1, if_neg (show ¬ (h = s ∨ (3 ≤ s ∧ 3 ≤ h)) by omega), if_neg (show ¬ s < h + 1 by omega)]
theorem x_width {l : Launch} {d : Nat} {σ : SG} {g : vx_M} (hR : RC σ g) (s w : Int) : spC l mX5_width (d + 20) [.inr (some 0), .inl s, .inl w] g (f_width σ s w) := by
  have hB := hR.2.1
  have hv := hB.1
  have e4 : g 1 4 = (sH σ : Nat) := hB.2.1.1
  have e5 : g 1 5 = (sL σ : Nat) := hB.2.1.2.1
  have hL7 : sL σ ≤ 7 := hv.2.2.1
  have bad : (s < 0 ∨ 3 < s) → f_width σ s w = (-2, σ) := fun h => by
    unfold f_width
    rw [if_pos h]
  refine kX5_width g s w ⟨fun c => ?_, fun c => ⟨fun c1 => ?_, fun c1 => ?_⟩⟩
  · rw [bad (by omega)]; exact ⟨rfl, hR, fun _ _ _ => rfl⟩
  · obtain ⟨n, rfl⟩ : ∃ n : Nat, s = n := ⟨s.toNat, by omega⟩
    have e0 : ((n : Int)).toNat = n := by omega
    have e2 := hB.2.2.2.2 n (by omega)
    have wn := hv.2.1 n
    refine ⟨_, c_within w 1 3, fun r1 g1 h => ?_⟩
    obtain ⟨rfl, h⟩ := h
    have go : 1 ≤ w → w ≤ 3 → ¬ ((n : Int) < sH σ ∧ 7 < (sL σ : Int) - wq (sW σ) n + w) → vN l mX5_width (d + 19 + 1) (vx_pi SH (fun r g' => r = (f_width σ n w).1 ∧ RC (f_width σ n w).2 g' ∧ frC g1 g')) SH g1 64 [some (.inr (some 0)), some (.inl (n : Int)), some (.inl w), some (.inl (g1 2 (n : Int)))] [] := by
      intro w1 w3 hno
      obtain ⟨m, rfl⟩ : ∃ m : Nat, w = m := ⟨w.toNat, by omega⟩
      have em : ((m : Int)).toNat = m := by omega
      have ef : f_width σ n m = (((wq (sW σ) n : Nat) : Int), uTow σ (sH σ) (wset (sW σ) n m)) := by
        unfold f_width
        rw [if_neg (by omega), if_neg (by omega), e0, em, if_neg hno]
      have hok : wok (wset (sW σ) n m) := fun t => by
        rw [wset_eq _ _ _ _ (by omega)]
        split
        · omega
        · exact hv.2.1 t
      have hF : pF (wset (sW σ) n m) (sH σ) ≤ 7 := by
        rw [wset_F _ _ _ (by omega) _ hv.1.2]
        have e9 : pF (sW σ) (sH σ) = sL σ := rfl
        rw [e9]
        split
        · have hle : wq (sW σ) n ≤ sL σ := by
            have := pl_in hv (s := n) (by omega)
            omega
          omega
        · omega
      have hWW : ∀ t : Nat, t < 4 → (vx_u g1 2 n m) 2 t = wq (wset (sW σ) n m) t := fun t ht => by
        rw [wset_eq _ _ _ _ (by omega)]
        by_cases c9 : t = n
        · rw [if_pos (Or.inl c9), c9, vx_u_at]
        · rw [if_neg (by omega), vx_u_j (by omega)]
          exact hB.2.2.2.2 t ht
      rw [ef]
      refine tX5_width_64 g1 _ _ _ ⟨⟨by omega, by omega⟩, ?_⟩
      rw [e4]
      refine ⟨_, c_build (h := sH σ) tw_SH _ (wset (sW σ) n m) hok hv.1.1 hv.1.2 hF hWW, fun g3 h => ?_⟩
      obtain ⟨hT, hfr⟩ := h
      refine ⟨_, c_endPlacing, fun g4 h => ?_⟩
      obtain ⟨a1, a2, a3⟩ := h
      have hT4 : TOW (wset (sW σ) n m) (sH σ) g4 := hT.frame hF (fun a b x y => a3 a b (by omega) (by omega))
      refine ⟨e2, hR.tow hv.1 hok hF hT4 (fun t ht => ?_) a1 a2 (fun a b x1 x2 x3 x4 x5 x6 x7 => ?_), fun a b x => ?_⟩
      · rw [a3 _ _ (by omega) (by omega), hfr _ _ (by omega) (by omega) (by omega) (by omega)]; exact hWW t ht
      · rw [a3 a b x6 x7, hfr a b x1 x3 x4 x5, vx_u_k x2]
      · rw [a3 a b (by omega) (by omega), hfr a b (by omega) (by omega) (by omega) (by omega), vx_u_k (by omega)]
    refine ⟨fun c2 => ⟨⟨by omega, by omega⟩, ?_, ?_⟩, fun c2 => ?_⟩
    · intro c3
      exact go (by omega) (by omega) (by omega)
    · intro c3
      have hle : wq (sW σ) n ≤ sL σ := by
        have := pl_in hv (s := n) (by omega)
        omega
      refine ⟨?_, ?_, ?_, ?_⟩
      · rw [e5, e2]; exact ⟨by omega, by omega⟩
      · rw [e5, e2]; exact ⟨by omega, by omega⟩
      · intro c4
        rw [e5, e2] at c4
        exact go (by omega) (by omega) (by omega)
      · intro c4
        rw [e5, e2] at c4
        have ef : f_width σ n w = (-4, σ) := by
          unfold f_width
          rw [if_neg (by omega), if_neg (by omega), e0, if_pos ⟨by omega, by omega⟩]
        rw [ef]
        exact ⟨rfl, hR, fun _ _ _ => rfl⟩
    · have ef : f_width σ n w = (-3, σ) := by
        unfold f_width
        rw [if_neg (by omega), if_pos (by omega)]
      rw [ef]
      exact ⟨rfl, hR, fun _ _ _ => rfl⟩
  · rw [bad (by omega)]; exact ⟨rfl, hR, fun _ _ _ => rfl⟩
/-- people change, all else stays -/
theorem RC.ppl {σ : SG} {g g' : vx_M} (hR : RC σ g) {n : Nat} {A : Nat → Nat → Int} (hn : sN σ ≤ n ∧ n ≤ 8) (hA : ∀ p, p < n → pOK A p) (h01 : ∀ p, A 5 p = 0 ∨ A 5 p = 1) (hz : ∀ p, n ≤ p → A 5 p = 0) (hP : PC (uPpl σ n A) g') (hf : ∀ a b, (a < 13 ∨ 20 ≤ a) → g' a b = g a b) : RC (uPpl σ n A) g' := by
  obtain ⟨h1, h2, h3, h4, h5, h6, h7⟩ := hR
  have hb : VB (uPpl σ n A) := ⟨h1.1.1, h1.1.2.1, h1.1.2.2.1, hn.2, hA, h01, hz, h1.1.2.2.2.2.2.2.2⟩
  refine ⟨⟨hb, fun r hr => ?_, h1.2.2⟩, ⟨hb, ?_, hP, ?_, fun t ht => ?_⟩, ?_, fun x hx => ?_, ?_, ?_, ?_⟩
  · have h9 := h1.2.1 r hr
    exact ⟨h9.1, fun i hi => Nat.lt_of_lt_of_le (h9.2 i hi) hn.1⟩
  · exact TOW.frame h2.2.1 h1.1.2.2.1 (fun a b x y => hf a b (by omega))
  · rw [hf _ _ (by omega)]; exact h2.2.2.2.1
  · rw [hf _ _ (by omega)]; exact h2.2.2.2.2 t ht
  · rcases h3 with ⟨a, b, c⟩ | ⟨r, a, b, c⟩
    · exact Or.inl ⟨a, by rw [hf _ _ (by omega)]; exact b, fun i hi => by rw [hf _ _ (by omega)]; exact c i hi⟩
    · exact Or.inr ⟨r, a, by rw [hf _ _ (by omega)]; exact b, ⟨c.1.1, fun i hi => Nat.lt_of_lt_of_le (c.1.2 i hi) hn.1⟩, fun i hi => by rw [hf _ _ (by omega)]; exact c.2 i hi⟩
  · rw [hf _ _ (by omega)]; exact h4 x hx
  · rw [hf _ _ (by omega)]; exact h5
  · rw [hf _ _ (by omega)]; exact h6
  · rw [hf _ _ (by omega)]; exact h7
theorem pOK_add {σ : SG} (hv : VB σ) {a b c d e : Int} (h : (100 ≤ a ∧ a ≤ 200) ∧ (20 ≤ b ∧ b ≤ 120) ∧ (0 ≤ c ∧ c ≤ 400) ∧ (0 ≤ d ∧ d ≤ 3) ∧ (0 ≤ e ∧ e ≤ 20000)) : ∀ p, p < sN σ + 1 → pOK (addA (sA σ) (sN σ) a b c d e) p := fun p hp => by
  by_cases cp : p = sN σ
  · unfold pOK addA
    simp only [if_pos cp]
    exact h
  · have := hv.2.2.2.2.1 p (by omega)
    unfold pOK addA
    simp only [if_neg cp]
    exact this
theorem x_person {l : Launch} {d : Nat} {σ : SG} {g : vx_M} (hR : RC σ g) (a b c e f : Int) : spC l mX5_person (d + 20) [.inr (some 0), .inl a, .inl b, .inl c, .inl e, .inl f] g (f_person σ a b c e f) := by
  have hB := hR.2.1
  have hv := hB.1
  have en : g 13 6 = (sN σ : Nat) := hB.2.2.1.1
  have bad : ¬ ((100 ≤ a ∧ a ≤ 200) ∧ (20 ≤ b ∧ b ≤ 120) ∧ (0 ≤ c ∧ c ≤ 400) ∧ (0 ≤ e ∧ e ≤ 3) ∧ (0 ≤ f ∧ f ≤ 20000)) → (fun r g' => r = (f_person σ a b c e f).1 ∧ RC (f_person σ a b c e f).2 g' ∧ frC g g') (-3) g := fun h => by
    have ef : f_person σ a b c e f = (-3, σ) := by
      unfold f_person
      rw [if_pos h]
    rw [ef]
    exact ⟨rfl, hR, fun _ _ _ => rfl⟩
  refine kX5_person g a b c e f ⟨_, c_within a 100 200, fun r1 g1 h1 => ?_⟩
  obtain ⟨rfl, h1⟩ := h1
  refine ⟨fun _ => bad (by omega), fun _ => ⟨_, c_within b 20 120, fun r2 g2 h2 => ?_⟩⟩
  obtain ⟨rfl, h2⟩ := h2
  refine ⟨fun _ => bad (by omega), fun _ => ⟨_, c_within c 0 400, fun r3 g3 h3 => ?_⟩⟩
  obtain ⟨rfl, h3⟩ := h3
  refine ⟨fun _ => bad (by omega), fun _ => ⟨_, c_within e 0 3, fun r4 g4 h4 => ?_⟩⟩
  obtain ⟨rfl, h4⟩ := h4
  refine ⟨fun _ => bad (by omega), fun _ => ⟨_, c_within f 0 20000, fun r5 g5 h5 => ?_⟩⟩
  obtain ⟨rfl, h5⟩ := h5
  refine ⟨fun _ => ?_, fun _ => bad (by omega)⟩
  have hall : (100 ≤ a ∧ a ≤ 200) ∧ (20 ≤ b ∧ b ≤ 120) ∧ (0 ≤ c ∧ c ≤ 400) ∧ (0 ≤ e ∧ e ≤ 3) ∧ (0 ≤ f ∧ f ≤ 20000) := by omega
  have hadd : vNi l mX1_add (d + 19) [.inr (some 13), .inl a, .inl b, .inl c, .inl e, .inl f] SH g5 (fun r g' => r = (f_person σ a b c e f).1 ∧ RC (f_person σ a b c e f).2 g' ∧ frC g5 g') := by
    refine kX1_add g5 a b c e f ?_
    rw [en]
    have hn8 := hv.2.2.2.1
    refine ⟨fun c8 => ⟨⟨by omega, by omega⟩, ⟨by omega, by omega⟩, ⟨by omega, by omega⟩, ⟨by omega, by omega⟩, ⟨by omega, by omega⟩, ⟨by omega, by omega⟩, ⟨by omega, by omega⟩, ?_⟩, fun c8 => ?_⟩
    · have ef : f_person σ a b c e f = (((sN σ : Nat) : Int), uPpl σ (sN σ + 1) (addA (sA σ) (sN σ) a b c e f)) := by
        unfold f_person
        rw [if_neg (fun h => h hall), if_neg (by omega)]
      rw [ef]
      refine ⟨rfl, hR.ppl ⟨by omega, by omega⟩ (pOK_add hv hall) (fun p => ?_) (fun p hp => ?_) ⟨vx_u_at, fun i p hi hp => ?_⟩ (fun a b x => ?_), fun a b x => ?_⟩
      · show addA (sA σ) (sN σ) a b c e f 5 p = 0 ∨ addA (sA σ) (sN σ) a b c e f 5 p = 1
        unfold addA
        split
        · exact Or.inl rfl
        · exact hv.2.2.2.2.2.1 p
      · show addA (sA σ) (sN σ) a b c e f 5 p = 0
        unfold addA
        rw [if_neg (by omega)]
        exact hv.2.2.2.2.2.2.1 p (by omega)
      · show _ = addA (sA σ) (sN σ) a b c e f i p
        have hp2 := hB.2.2.1.2 i p hi hp
        unfold addA
        rw [vx_u_k (by omega)]
        have hne : ∀ k, k ≠ 14 + i → ∀ (G : vx_M) (j v : Int), vx_u G k j v (14 + i) p = G (14 + i) p := fun k hk G j v => vx_u_k (by omega)
        by_cases cp : p = sN σ
        · rw [if_pos cp, cp]
          match i, hi with
          | 0, _ => (rw [vx_u_k (by omega), vx_u_k (by omega), vx_u_k (by omega), vx_u_k (by omega), vx_u_k (by omega), vx_u_at]; rfl)
          | 1, _ => (rw [vx_u_k (by omega), vx_u_k (by omega), vx_u_k (by omega), vx_u_k (by omega), vx_u_at]; rfl)
          | 2, _ => (rw [vx_u_k (by omega), vx_u_k (by omega), vx_u_k (by omega), vx_u_at]; rfl)
          | 3, _ => (rw [vx_u_k (by omega), vx_u_k (by omega), vx_u_at]; rfl)
          | 4, _ => (rw [vx_u_k (by omega), vx_u_at]; rfl)
          | 5, _ => (rw [vx_u_at]; rfl)
        · rw [if_neg cp, vx_u_j (by omega), vx_u_j (by omega), vx_u_j (by omega), vx_u_j (by omega), vx_u_j (by omega), vx_u_j (by omega)]
          exact hp2
      · rw [vx_u_k (by omega), vx_u_k (by omega), vx_u_k (by omega), vx_u_k (by omega), vx_u_k (by omega), vx_u_k (by omega), vx_u_k (by omega)]
      · rw [vx_u_k (by omega), vx_u_k (by omega), vx_u_k (by omega), vx_u_k (by omega), vx_u_k (by omega), vx_u_k (by omega), vx_u_k (by omega)]
    · have ef : f_person σ a b c e f = (-5, σ) := by
        unfold f_person
        rw [if_neg (fun h => h hall), if_pos (by omega)]
      rw [ef]
      exact ⟨rfl, hR, fun _ _ _ => rfl⟩
  exact ⟨_, hadd, fun r6 g6 h => h⟩
theorem x_out {l : Launch} {d : Nat} {σ : SG} {g : vx_M} (hR : RC σ g) (x b : Int) (hb : b = 0 ∨ b = 1) : spC l mX5_out (d + 20) [.inr (some 0), .inl x, .inl b] g (f_out σ x b) := by
  have hB := hR.2.1
  have hv := hB.1
  have en : g 13 6 = (sN σ : Nat) := hB.2.2.1.1
  have hn8 := hv.2.2.2.1
  have bad : (x < 0 ∨ sN σ ≤ x) → (fun r g' => r = (f_out σ x b).1 ∧ RC (f_out σ x b).2 g' ∧ frC g g') (-2) g := fun h => by
    have ef : f_out σ x b = (-2, σ) := by
      unfold f_out
      rw [if_pos h]
    rw [ef]
    exact ⟨rfl, hR, fun _ _ _ => rfl⟩
  refine kX5_out g x b ⟨fun c => bad (by omega), fun c => ⟨fun c1 => ?_, fun c1 => bad (by omega)⟩⟩
  obtain ⟨n, rfl⟩ : ∃ n : Nat, x = n := ⟨x.toNat, by omega⟩
  have e0 : ((n : Int)).toNat = n := by omega
  have e19 := hB.2.2.1.2 5 n (by omega) (by omega)
  rw [show 14 + 5 = 19 from rfl] at e19
  have ef : f_out σ n b = (sA σ 5 n, uPpl σ (sN σ) (outA (sA σ) n b)) := by
    unfold f_out
    rw [if_neg (by omega), e0]
  have go : ∀ w : Int, w = sA σ 5 n → vN l mX5_out (d + 20) (vx_pi SH (fun r g' => r = (f_out σ n b).1 ∧ RC (f_out σ n b).2 g' ∧ frC g g')) SH g 35 [some (.inr (some 0)), some (.inl (n : Int)), some (.inl b), none] [.inl w] := by
    intro w hw
    refine tX5_out_35 g _ _ _ ⟨⟨by omega, by omega⟩, hb, ?_⟩
    rw [ef]
    refine ⟨hw, hR.ppl ⟨Nat.le_refl _, hn8⟩ (fun p hp => ?_) (fun p => ?_) (fun p hp => ?_) ⟨?_, fun i p hi hp => ?_⟩ (fun a b x => vx_u_k (by omega)), fun a b x => vx_u_k (by omega)⟩
    · have h9 := hv.2.2.2.2.1 p hp
      unfold pOK outA
      simp only [show ¬ ((0 : Nat) = 5 ∧ p = n) by omega, show ¬ ((1 : Nat) = 5 ∧ p = n) by omega, show ¬ ((2 : Nat) = 5 ∧ p = n) by omega, show ¬ ((3 : Nat) = 5 ∧ p = n) by omega, show ¬ ((4 : Nat) = 5 ∧ p = n) by omega, if_false]
      exact h9
    · show outA (sA σ) n b 5 p = 0 ∨ outA (sA σ) n b 5 p = 1
      unfold outA
      split
      · exact hb
      · exact hv.2.2.2.2.2.1 p
    · show outA (sA σ) n b 5 p = 0
      unfold outA
      rw [if_neg (by omega)]
      exact hv.2.2.2.2.2.2.1 p hp
    · rw [vx_u_k (by omega)]; exact en
    · show _ = outA (sA σ) n b i p
      unfold outA
      by_cases cc : i = 5 ∧ p = n
      · rw [if_pos cc, cc.1, cc.2]
        exact vx_u_at
      · rw [if_neg cc, ← hB.2.2.1.2 i p hi hp]
        by_cases ci : i = 5
        · rw [vx_u_j (by omega)]
        · rw [vx_u_k (by omega)]
  refine ⟨⟨by omega, by omega⟩, fun c2 => go 0 (by omega), fun c2 => go 1 ?_⟩
  rcases hv.2.2.2.2.2.1 n with h | h <;> omega
theorem x_play {l : Launch} {d : Nat} {σ : SG} {g : vx_M} (hR : RC σ g) (v : Int) : spC l mX5_play (d + 20) [.inr (some 0), .inl v] g (f_play σ v) := by
  refine kX5_play g v ⟨_, c_within v 0 50, fun r1 g1 h => ?_⟩
  obtain ⟨rfl, h⟩ := h
  refine ⟨fun c => ?_, fun c => ?_⟩
  · have ef : f_play σ v = (sP σ, uPly σ v) := by
      unfold f_play
      rw [if_neg (by omega)]
    rw [ef]
    obtain ⟨h1, h2, h3, h4, h5, h6, h7⟩ := hR
    have hb : VB (uPly σ v) := ⟨h1.1.1, h1.1.2.1, h1.1.2.2.1, h1.1.2.2.2.1, h1.1.2.2.2.2.1, h1.1.2.2.2.2.2.1, h1.1.2.2.2.2.2.2.1, by show 0 ≤ v ∧ v ≤ 50; omega⟩
    have hf : ∀ a b, a ≠ 20 → vx_u g1 20 2 v a b = g1 a b := fun a b x => vx_u_k x
    refine ⟨h2.2.2.2.1, ⟨⟨hb, h1.2.1, h1.2.2⟩, ⟨hb, TOW.frame h2.2.1 h1.1.2.2.1 (fun a b x y => hf a b (by omega)), ⟨?_, fun i p hi hp => ?_⟩, vx_u_at, fun t ht => ?_⟩, ?_, fun x hx => ?_, ?_, ?_, ?_⟩, fun a b x => hf a b (by omega)⟩
    · rw [hf _ _ (by omega)]; exact h2.2.2.1.1
    · rw [hf _ _ (by omega)]; exact h2.2.2.1.2 i p hi hp
    · rw [hf _ _ (by omega)]; exact h2.2.2.2.2 t ht
    · rcases h3 with ⟨a, b, c⟩ | ⟨r, a, b, c⟩
      · exact Or.inl ⟨a, by rw [hf _ _ (by omega)]; exact b, fun i hi => by rw [hf _ _ (by omega)]; exact c i hi⟩
      · exact Or.inr ⟨r, a, by rw [hf _ _ (by omega)]; exact b, c.1, fun i hi => by rw [hf _ _ (by omega)]; exact c.2 i hi⟩
    · rw [hf _ _ (by omega)]; exact h4 x hx
    · rw [hf _ _ (by omega)]; exact h5
    · rw [hf _ _ (by omega)]; exact h6
    · rw [hf _ _ (by omega)]; exact h7
  · have ef : f_play σ v = (-3, σ) := by
      unfold f_play
      rw [if_pos (by omega)]
    rw [ef]
    exact ⟨rfl, hR, fun _ _ _ => rfl⟩

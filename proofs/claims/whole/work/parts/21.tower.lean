theorem c_fill {l : Launch} {d : Nat} {sh : List vx_H} {kf nf : Nat} (hkf : sh[kf]? = some (.inr (.inl (false, nf)))) (hnf : nf < 1000) (g : vx_M) (v : Int) : vNv l mJ7_fill_53178 d [.inr (some kf), .inl v] sh g (fun g' => g' = vx_fill g kf nf v) := by
  refine kJ7_fill_53178 hkf hnf g v ?_
  have key : ∀ (k i : Nat), i + k = nf → ∀ g1, g1 = vx_fill g kf i v → vN l mJ7_fill_53178 d (vx_pv sh (fun g' => g' = vx_fill g kf nf v)) sh g1 5 [some (.inr (some (kf))), some (.inl v), some (.inl (i : Int)), some (.inl (nf : Int))] [] := by
    intro k
    induction k with
    | zero =>
      intro i hi g1 hg
      refine tJ7_fill_53178_5 hkf hnf g1 _ _ _ ⟨fun _ => ?_, fun c => ?_⟩
      · rw [hg, show i = nf by omega]
      · omega
    | succ k ih =>
      intro i hi g1 hg
      refine tJ7_fill_53178_5 hkf hnf g1 _ _ _ ⟨fun c => ?_, fun c => ⟨⟨by omega, by omega⟩, ⟨by omega, by omega⟩, ?_⟩⟩
      · omega
      · have h2 := ih (i + 1) (by omega) (vx_u g1 kf i v) (by
          rw [hg]
          funext a b
          unfold vx_u vx_fill
          by_cases ha : a = kf
          · by_cases hb : b = (i : Int)
            · simp [ha, hb]; omega
            · by_cases hc : 0 ≤ b ∧ b < (i : Int)
              · simp [ha, hb, hc]; omega
              · simp [ha, hb, hc]; omega
          · simp [ha])
        exact h2
  have h := key nf 0 (by omega) g (by
    funext a b
    unfold vx_fill
    by_cases ha : a = kf
    · simp [ha]; omega
    · simp [ha])
  exact h
theorem c_restHalfOn {l : Launch} {d : Nat} {sh : List vx_H} {kr sup : Nat} (hT : vx_TW sh) (hkr : sh[kr]? = some (.inr (.inl (false, 7)))) (g : vx_M) (hs : sup < 7) (hne : kr ≠ 6 + sup) (hb : ∀ q : Nat, q < 7 → 0 ≤ g kr q ∧ g kr q ≤ 100) (hb2 : ∀ q : Nat, q < 7 → 0 ≤ g (6 + sup) q ∧ g (6 + sup) q ≤ 100) :
    vNv l mX4_restHalfOn d [.inr (some 1), .inr (some kr), .inl (sup : Int)] sh g (fun g' => g' = vx_half g kr sup sup) := by
  have hk0 := hb sup hs
  refine kX4_restHalfOn hT hkr g sup ⟨⟨by omega, by omega⟩, ⟨by omega, by omega⟩, ⟨by omega, by omega⟩, ?_⟩
  have key : ∀ (k i : Nat), i + k = sup → ∀ g1, g1 = vx_half g kr sup i → vN l mX4_restHalfOn d (vx_pv sh (fun g' => g' = vx_half g kr sup sup)) sh g1 9 [some (.inr (some 1)), some (.inr (some (kr))), some (.inl (sup : Int)), some (.inl (i : Int))] [] := by
    intro k
    induction k with
    | zero =>
      intro i hi g1 hg
      refine tX4_restHalfOn_9 hT hkr g1 _ _ ⟨fun _ => ?_, fun c => ?_⟩
      · rw [hg, show i = sup by omega]
      · omega
    | succ k ih =>
      intro i hi g1 hg
      have e1 : g1 (6 + (sup : Int).toNat) i = g (6 + sup) i := by
        rw [hg, Int.toNat_natCast]
        unfold vx_half
        rw [if_neg (fun h => hne h.symm)]
      have e2 : g1 kr i = g kr i := by
        rw [hg]
        unfold vx_half
        rw [if_pos rfl, if_neg (by omega), if_neg (by omega)]
      have b1 := hb i (by omega)
      have b2 := hb2 i (by omega)
      refine tX4_restHalfOn_9 hT hkr g1 _ _ ⟨fun c => ?_, fun c => ⟨⟨by omega, by omega⟩, ⟨by omega, by omega⟩, ⟨by omega, by omega⟩, ?_, ?_, ⟨by omega, by omega⟩, ⟨by omega, by omega⟩, ?_⟩⟩
      · omega
      · rw [e1]; omega
      · rw [e1, e2]; exact ⟨by omega, by omega⟩
      · rw [e1, e2]
        have h2 := ih (i + 1) (by omega) (vx_u g1 kr i (g kr i + g (6 + sup) i / 2)) (by
          rw [hg]
          funext a b
          unfold vx_u vx_half
          by_cases ha : a = kr
          · subst ha
            simp only [if_true]
            by_cases hb : b = (i : Int)
            · subst hb
              rw [if_pos rfl, if_neg (by omega), if_pos (by omega)]
            · rw [if_neg hb]
              by_cases hc : b = (sup : Int)
              · rw [if_pos hc, if_pos hc]
              · rw [if_neg hc, if_neg hc]
                by_cases he : 0 ≤ b ∧ b < (i : Int)
                · rw [if_pos he, if_pos (by omega)]
                · rw [if_neg he, if_neg (by omega)]
          · simp [ha])
        exact h2
  have h := key sup 0 (by omega) (vx_u g kr sup (g kr sup + 4)) (by
    funext a b
    unfold vx_u vx_half
    by_cases ha : a = kr
    · subst ha
      simp only [if_true]
      by_cases hb : b = (sup : Int)
      · subst hb
        simp
      · rw [if_neg hb, if_neg hb, if_neg (by omega)]
    · simp [ha])
  exact h
/-- one half of a weight in a place, on each place: over memory -/
def hV (g : vx_M) (k q : Nat) : Int := if q = k then 4 else if q < k then g (6 + k) q / 2 else 0
theorem c_shareOut {l : Launch} {d : Nat} {sh : List vx_H} {p s j : Nat} (hT : vx_TW sh) (g : vx_M) (W : WT) (hw : wok W) (hp : p < 7) (hs : s < 4) (hj : j < 3) (hW : ∀ t : Nat, t < 4 → g 2 t = wq W t) (hF : ∀ t : Nat, t < s → g 3 t = pF W t) (hlt : pF W s ≤ p) (hb : ∀ r q : Nat, r < p → q < 7 → 0 ≤ g (6 + r) q ∧ g (6 + r) q ≤ 8) :
    vNv l mX4_shareOut (d + 1) [.inr (some 1), .inl (p : Int), .inl (s : Int), .inl (j : Int)] sh g (fun g' => (∀ a b, a ≠ 6 + p → g' a b = g a b) ∧ ∀ q : Nat, q < 7 → g' (6 + p) q = if s = 0 then 0 else hV g (pF W (s - 1) + j % wq W (s - 1)) q + hV g (pF W (s - 1) + (j + 1) % wq W (s - 1)) q) := by
  have hkr := hT.2.2.2.2.2 p hp
  refine kX4_shareOut hT g p s j ⟨⟨by omega, by omega⟩, _, c_fill (by rw [Int.toNat_natCast]; exact hkr) (by omega) g 0, fun g2 h2 => ?_⟩
  rw [Int.toNat_natCast] at h2
  have f1 : ∀ a b, a ≠ 6 + p → g2 a b = g a b := fun a b h => by rw [h2]; unfold vx_fill; rw [if_neg h]
  have f2 : ∀ q : Nat, q < 7 → g2 (6 + p) q = 0 := fun q h => by rw [h2]; unfold vx_fill; rw [if_pos rfl, if_pos (by omega)]
  refine ⟨fun c => ⟨f1, fun q hq => ?_⟩, fun c => ?_⟩
  · rw [f2 q hq, if_pos (by omega)]
  · have hs1 : ((s : Int) - 1) = ((s - 1 : Nat) : Int) := by omega
    have w1 := hw (s - 1)
    have e2 : g2 2 ((s : Int) - 1) = wq W (s - 1) := by rw [f1 2 _ (by omega), hs1, hW (s - 1) (by omega)]
    have e3 : g2 3 ((s : Int) - 1) = pF W (s - 1) := by rw [f1 3 _ (by omega), hs1, hF (s - 1) (by omega)]
    have ff : pF W (s - 1 + 1) = pF W (s - 1) + wq W (s - 1) := rfl
    rw [show s - 1 + 1 = s by omega] at ff
    have m0 : j % wq W (s - 1) < wq W (s - 1) := Nat.mod_lt _ (by omega)
    have m1 : (j + 1) % wq W (s - 1) < wq W (s - 1) := Nat.mod_lt _ (by omega)
    have c0 : ((j : Int) % (wq W (s - 1) : Int)) = ((j % wq W (s - 1) : Nat) : Int) := (Int.natCast_emod _ _).symm
    have c1 : (((j : Int) + 1) % (wq W (s - 1) : Int)) = (((j + 1) % wq W (s - 1) : Nat) : Int) := by rw [Int.natCast_emod]; rfl
    rw [e2, e3]
    refine ⟨⟨by omega, by omega⟩, ⟨by omega, by omega⟩, fun _ => ⟨⟨by omega, by omega⟩, ⟨by omega, by omega⟩, ⟨by omega, by omega⟩, ⟨by omega, by omega⟩, ⟨by omega, by omega⟩, ?_, ?_⟩, fun c => by omega⟩
    · rw [c0]; exact ⟨by omega, by omega⟩
    · rw [c0]
      generalize hk0 : pF W (s - 1) + j % wq W (s - 1) = k0 at *
      generalize hk1 : pF W (s - 1) + (j + 1) % wq W (s - 1) = k1 at *
      have hs0 : ((pF W (s - 1) : Int) + ((j % wq W (s - 1) : Nat) : Int)) = (k0 : Int) := by omega
      rw [hs0, Int.toNat_natCast]
      refine ⟨_, c_restHalfOn hT hkr g2 (by omega) (by omega) (fun q hq => by rw [f2 q hq]; omega) (fun q hq => by rw [f1 _ _ (by omega)]; have := hb k0 q (by omega) hq; omega), fun g11 h11 => ?_⟩
      have g1 : ∀ a b, a ≠ 6 + p → g11 a b = g a b := fun a b h => by rw [h11]; unfold vx_half; rw [if_neg h, f1 a b h]
      have g2' : ∀ q : Nat, q < 7 → g11 (6 + p) q = hV g k0 q := fun q hq => by
        rw [h11]
        unfold vx_half hV
        rw [if_pos rfl, f2 q hq, f1 (6 + k0) q (by omega)]
        by_cases hc : q = k0
        · rw [if_pos hc, if_pos (by omega)]; omega
        · rw [if_neg hc, if_neg (by omega)]
          by_cases hc2 : q < k0
          · rw [if_pos hc2, if_pos (by omega)]; omega
          · rw [if_neg hc2, if_neg (by omega)]
      have e4 : g11 3 ((s : Int) - 1) = pF W (s - 1) := by rw [g1 3 _ (by omega), hs1, hF (s - 1) (by omega)]
      have hb0 : ∀ q : Nat, q < 7 → 0 ≤ hV g k0 q ∧ hV g k0 q ≤ 100 := fun q hq => by
        unfold hV
        have := hb k0 q (by omega) hq
        split
        · omega
        · split <;> omega
      rw [e4, c1]
      have hs2 : ((pF W (s - 1) : Int) + (((j + 1) % wq W (s - 1) : Nat) : Int)) = (k1 : Int) := by omega
      rw [hs2]
      refine ⟨⟨by omega, by omega⟩, ⟨by omega, by omega⟩, ⟨by omega, by omega⟩, ⟨by omega, by omega⟩, ⟨by omega, by omega⟩, _, c_restHalfOn hT hkr g11 (by omega) (by omega) (fun q hq => by rw [g2' q hq]; exact hb0 q hq) (fun q hq => by rw [g1 _ _ (by omega)]; have := hb k1 q (by omega) hq; omega), fun g17 h17 => ?_⟩
      refine ⟨fun a b h => by rw [h17]; unfold vx_half; rw [if_neg h, g1 a b h], fun q hq => ?_⟩
      rw [h17, if_neg (by omega)]
      unfold vx_half
      rw [if_pos rfl, g2' q hq, g1 (6 + k1) q (by omega)]
      have hv1 : hV g k1 q = if q = k1 then 4 else if q < k1 then g (6 + k1) q / 2 else 0 := rfl
      rw [hv1]
      by_cases hc : q = k1
      · rw [if_pos hc, if_pos (by omega)]
      · rw [if_neg hc, if_neg (by omega)]
        by_cases hc2 : q < k1
        · rw [if_pos hc2, if_pos (by omega)]
        · rw [if_neg hc2, if_neg (by omega)]; omega
theorem hV_eq {W : WT} {g : vx_M} {k q : Nat} (h : g (6 + k) q = pH W k q) : hV g k q = pV W k q := by
  unfold hV pV
  split
  · rfl
  · split
    · rw [h]; omega
    · rfl
/-- the tower's tables lie in the memory -/
def TOW (W : WT) (h : Nat) (g : vx_M) : Prop := g 1 4 = h ∧ g 1 5 = pF W h ∧ (∀ s : Nat, s < h → g 3 s = pF W s) ∧ (∀ p : Nat, p < pF W h → g 4 p = pS W p) ∧ (∀ p q : Nat, p < pF W h → q < 7 → g (6 + p) q = pH W p q)
/-- as far as n places of the storeys under s, with m first places told -/
def TOP (W : WT) (h m n : Nat) (g : vx_M) : Prop := g 1 4 = h ∧ g 1 5 = n ∧ (∀ s : Nat, s < m → g 3 s = pF W s) ∧ (∀ p : Nat, p < n → g 4 p = pS W p) ∧ (∀ p q : Nat, p < n → q < 7 → g (6 + p) q = pH W p q) ∧ (∀ t : Nat, t < 4 → g 2 t = wq W t)
def fr_T (g g' : vx_M) : Prop := (∀ a b, a ≠ 1 → a ≠ 3 → a ≠ 4 → (a < 6 ∨ 13 ≤ a) → g' a b = g a b)
theorem c_build {l : Launch} {d : Nat} {sh : List vx_H} (hT : vx_TW sh) (g : vx_M) (W : WT) (hw : wok W) {h : Nat} (h1 : 1 ≤ h) (h4 : h ≤ 4) (h7 : pF W h ≤ 7) (hW : ∀ t : Nat, t < 4 → g 2 t = wq W t) :
    vNv l mX4_build (d + 2) [.inr (some 1), .inl (h : Int)] sh g (fun g' => TOW W h g' ∧ fr_T g g') := by
  refine kX4_build hT g h ?_
  have hmin : min (h : Int) 4 = h := by omega
  rw [hmin]
  have key : ∀ (k s : Nat), s + k = h → ∀ g1, TOP W h s (pF W s) g1 → fr_T g g1 → vN l mX4_build (d + 1 + 1) (vx_pv sh (fun g' => TOW W h g' ∧ fr_T g g')) sh g1 16 [some (.inr (some 1)), some (.inl (h : Int)), some (.inl (s : Int)), none] [] := by
    intro k
    induction k with
    | zero =>
      intro s hs g1 hg hf
      have e : s = h := by omega
      subst e
      obtain ⟨a1, a2, a3, a4, a5, a6⟩ := hg
      refine tX4_build_16 hT g1 _ _ ⟨fun _ => ⟨⟨a1, a2, a3, a4, a5⟩, hf⟩, fun c => ?_⟩
      omega
    | succ k ih =>
      intro s hs g1 hg hf
      obtain ⟨a1, a2, a3, a4, a5, a6⟩ := id hg
      refine tX4_build_16 hT g1 _ _ ⟨fun c => by omega, fun _ => ⟨⟨by omega, by omega⟩, ?_⟩⟩
      have ws := hw s
      have ps1 : pF W (s + 1) = pF W s + wq W s := rfl
      have pm : pF W (s + 1) ≤ pF W h := pF_mono (by omega)
      have p4 : pF W h ≤ pF W 4 := pF_mono h4
      have inner : ∀ (k2 j : Nat), j + k2 = wq W s → ∀ g2, TOP W h (s + 1) (pF W s + j) g2 → fr_T g g2 → vN l mX4_build (d + 1 + 1) (vx_pv sh (fun g' => TOW W h g' ∧ fr_T g g')) sh g2 36 [some (.inr (some 1)), some (.inl (h : Int)), some (.inl (s : Int)), some (.inl (j : Int))] [] := by
        intro k2
        induction k2 with
        | zero =>
          intro j hj g2 hg2 hf2
          obtain ⟨b1, b2, b3, b4, b5, b6⟩ := id hg2
          have e6 := b6 s (by omega)
          refine tX4_build_36 hT g2 _ _ _ ⟨⟨by omega, by omega⟩, fun _ => ⟨⟨by omega, by omega⟩, ?_⟩, fun c => by omega⟩
          have h9 := ih (s + 1) (by omega) g2 (by rw [ps1, show wq W s = j by omega]; exact hg2) hf2
          exact h9
        | succ k2 ih2 =>
          intro j hj g2 hg2 hf2
          obtain ⟨b1, b2, b3, b4, b5, b6⟩ := id hg2
          have e6 := b6 s (by omega)
          refine tX4_build_36 hT g2 _ _ _ ⟨⟨by omega, by omega⟩, fun c => by omega, fun _ => ⟨fun c => by omega, fun _ => ⟨⟨by omega, by omega⟩, ?_⟩⟩⟩
          have e0 : (vx_u g2 4 ((pF W s + j : Nat) : Int) s) 1 5 = ((pF W s + j : Nat) : Int) := by rw [vx_u_k (by omega), b2]
          rw [b2]
          have q1 : ∀ t : Nat, t < 4 → (vx_u g2 4 ((pF W s + j : Nat) : Int) s) 2 t = wq W t := fun t ht => by rw [vx_u_k (by omega)]; exact b6 t ht
          have q2 : ∀ t : Nat, t < s → (vx_u g2 4 ((pF W s + j : Nat) : Int) s) 3 t = pF W t := fun t ht => by rw [vx_u_k (by omega)]; exact b3 t (by omega)
          have q3 : ∀ r q : Nat, r < pF W s + j → q < 7 → 0 ≤ (vx_u g2 4 ((pF W s + j : Nat) : Int) s) (6 + r) q ∧ (vx_u g2 4 ((pF W s + j : Nat) : Int) s) (6 + r) q ≤ 8 := fun r q hr hq => by
            rw [vx_u_k (by omega), b5 r q hr hq]
            have := pH_le (W := W) r q
            omega
          have hps : pS W (pF W s + j) = s := pS_eq (by omega) (by omega) (by omega)
          refine ⟨_, c_shareOut (s := s) (j := j) hT (vx_u g2 4 ((pF W s + j : Nat) : Int) s) W hw (by omega) (by omega) (by omega) q1 q2 (by omega) q3, fun g5 h5 => ?_⟩
          obtain ⟨f1, f2⟩ := h5
          have e5 : g5 1 5 = ((pF W s + j : Nat) : Int) := by rw [f1 1 5 (by omega), e0]
          refine ⟨⟨by omega, by omega⟩, ⟨by omega, by omega⟩, ?_⟩
          have f0 : ∀ a b, a ≠ 6 + (pF W s + j) → a ≠ 4 → (a = 1 → b ≠ 5) → (vx_u g5 1 5 (g5 1 5 + 1)) a b = g2 a b := fun a b x1 x2 x3 => by
            by_cases ha : a = 1
            · rw [vx_u_j (x3 ha), f1 a b x1, vx_u_k x2]
            · rw [vx_u_k ha, f1 a b x1, vx_u_k x2]
          have h9 := ih2 (j + 1) (by omega) (vx_u g5 1 5 (g5 1 5 + 1)) ⟨?_, ?_, ?_, ?_, ?_, ?_⟩ ?_
          · exact h9
          · rw [f0 1 4 (by omega) (by omega) (by omega)]; exact b1
          · rw [vx_u_at, e5]; omega
          · intro t ht
            rw [f0 3 t (by omega) (by omega) (by omega)]
            exact b3 t ht
          · intro p hp
            rw [vx_u_k (by omega), f1 4 p (by omega)]
            by_cases hpe : p = pF W s + j
            · rw [hpe, vx_u_at, hps]
            · rw [vx_u_j (by omega)]
              exact b4 p (by omega)
          · intro p q hp hq
            by_cases hpe : p = pF W s + j
            · rw [hpe, vx_u_k (by omega), f2 q hq]
              by_cases hs0 : s = 0
              · rw [if_pos hs0, pH_0 (by rw [hps]; exact hs0)]; rfl
              · rw [if_neg hs0, pH_eq hw (by omega) (by rw [hps]; omega)]
                have o0 : pO W (pF W s + j) 0 = pF W (s - 1) + j % wq W (s - 1) := by
                  unfold pO
                  rw [hps, show pF W s + j - pF W s + 0 = j by omega]
                have o1 : pO W (pF W s + j) 1 = pF W (s - 1) + (j + 1) % wq W (s - 1) := by
                  unfold pO
                  rw [hps, show pF W s + j - pF W s + 1 = j + 1 by omega]
                have i0 := pO_in (e := 0) hw (show pF W s + j < pF W 4 by omega) (by rw [hps]; omega)
                have i1 := pO_in (e := 1) hw (show pF W s + j < pF W 4 by omega) (by rw [hps]; omega)
                rw [← o0, ← o1, hV_eq (W := W), hV_eq (W := W)]
                · omega
                · rw [vx_u_k (by omega)]; exact b5 _ q (by omega) hq
                · rw [vx_u_k (by omega)]; exact b5 _ q (by omega) hq
            · rw [f0 (6 + p) q (by omega) (by omega) (by omega)]
              exact b5 p q (by omega) hq
          · intro t ht
            rw [f0 2 t (by omega) (by omega) (by omega)]
            exact b6 t ht
          · intro a b x1 x2 x3 x4
            rw [f0 a b (by omega) x3 (by omega)]
            exact hf2 a b x1 x2 x3 x4
      have h8 := inner (wq W s) 0 (by omega) (vx_u g1 3 s (g1 1 5)) ⟨?_, ?_, ?_, ?_, ?_, ?_⟩ ?_
      · exact h8
      · rw [vx_u_k (by omega)]; exact a1
      · rw [vx_u_k (by omega)]; exact a2
      · intro t ht
        by_cases hte : t = s
        · rw [hte, vx_u_at]; exact a2
        · rw [vx_u_j (by omega)]; exact a3 t (by omega)
      · intro p hp
        rw [vx_u_k (by omega)]; exact a4 p (by omega)
      · intro p q hp hq
        rw [vx_u_k (by omega)]; exact a5 p q (by omega) hq
      · intro t ht
        rw [vx_u_k (by omega)]; exact a6 t ht
      · intro a b x1 x2 x3 x4
        rw [vx_u_k x2]; exact hf a b x1 x2 x3 x4
  have h := key h 0 (by omega) (vx_u (vx_u g 1 4 h) 1 5 0) ⟨?_, ?_, ?_, ?_, ?_, ?_⟩ ?_
  · exact h
  · rw [vx_u_j (by omega), vx_u_at]
  · rw [vx_u_at]; rfl
  · intro s hs; omega
  · intro p hp; exact absurd hp (by show ¬ p < 0; omega)
  · intro p q hp; exact absurd hp (by show ¬ p < 0; omega)
  · intro t ht
    rw [vx_u_k (by omega), vx_u_k (by omega)]; exact hW t ht
  · intro a b x1 x2 x3 x4
    rw [vx_u_k x1, vx_u_k x1]
theorem c_placesUpTo {l : Launch} {d : Nat} {sh : List vx_H} (hT : vx_TW sh) (g : vx_M) (W : WT) (hw : wok W) {h : Nat} (h4 : h ≤ 4) (hW : ∀ t : Nat, t < 4 → g 2 t = wq W t) :
    vNi l mX4_placesUpTo d [.inr (some 1), .inl (h : Int)] sh g (fun r g' => r = pF W h ∧ g' = g) := by
  refine kX4_placesUpTo hT g h ?_
  have key : ∀ (k s : Nat), s + k = h → vN l mX4_placesUpTo d (vx_pi sh (fun r g' => r = pF W h ∧ g' = g)) sh g 4 [some (.inr (some 1)), some (.inl (h : Int)), some (.inl (pF W s : Int)), some (.inl (s : Int))] [] := by
    intro k
    induction k with
    | zero =>
      intro s hs
      refine tX4_placesUpTo_4 hT g _ _ _ ⟨fun _ => ⟨by rw [show s = h by omega], rfl⟩, fun c => by omega⟩
    | succ k ih =>
      intro s hs
      have pb : pF W s ≤ 3 * s := by
        clear ih hs
        induction s with
        | zero => exact Nat.le_refl _
        | succ s ih3 =>
          have := hw s
          show pF W s + wq W s ≤ _
          omega
      have e := hW s (by omega)
      have ws := hw s
      refine tX4_placesUpTo_4 hT g _ _ _ ⟨fun c => by omega, fun _ => ⟨fun c => by omega, fun _ => ⟨⟨by omega, by omega⟩, ?_, ⟨by omega, by omega⟩, ?_⟩⟩⟩
      · rw [e]; exact ⟨by omega, by omega⟩
      · rw [e]
        exact ih (s + 1) (by omega)
  exact key h 0 (by omega)

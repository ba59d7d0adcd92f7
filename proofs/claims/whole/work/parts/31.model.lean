/-! THE REFERENCE: loads from above downwards -/
def cS (f : Nat → Int) : Nat → Int
  | 0 => 0
  | k + 1 => cS f k + f k
theorem cS_congr {f h : Nat → Int} : ∀ k, (∀ p, p < k → f p = h p) → cS f k = cS h k
  | 0, _ => rfl
  | k + 1, e => by
    show cS f k + f k = cS h k + h k
    rw [cS_congr k (fun p hp => e p (by omega)), e k (by omega)]
theorem cS_lin {f h : Nat → Int} {x : Int} : ∀ k, cS (fun p => f p + h p * x) k = cS f k + cS h k * x
  | 0 => by show (0 : Int) = 0 + 0 * x; omega
  | k + 1 => by
    show cS (fun p => f p + h p * x) k + (f k + h k * x) = cS f k + f k + (cS h k + h k) * x
    rw [cS_lin k, Int.add_mul]
    omega
theorem cS_pos {f : Nat → Int} {j : Nat} : ∀ k, j ≤ k → (∀ p, p < k → 0 ≤ f p) → 0 ≤ cS f j ∧ cS f j ≤ cS f k
  | 0, h, _ => by rw [show j = 0 by omega]; exact ⟨Int.le_refl _, Int.le_refl _⟩
  | k + 1, h, hp => by
    have key : ∀ m, m ≤ k + 1 → 0 ≤ cS f m := by
      intro m
      induction m with
      | zero => intro _; exact Int.le_refl _
      | succ m ih =>
        intro hm
        have := ih (by omega)
        have := hp m (by omega)
        show 0 ≤ cS f m + f m
        omega
    by_cases e : j = k + 1
    · rw [e]; exact ⟨key _ (Nat.le_refl _), Int.le_refl _⟩
    · have h1 := cS_pos (f := f) (j := j) k (by omega) (fun p hp2 => hp p (by omega))
      have h2 := hp k (by omega)
      refine ⟨h1.1, ?_⟩
      show cS f j ≤ cS f k + f k
      omega
/-- how many halves of p rest on q -/
def cP (W : WT) (p q : Nat) : Int := if pS W p = 0 then 0 else (if pO W p 0 = q then 1 else 0) + (if pO W p 1 = q then 1 else 0)
def chk1 (W : WT) : Bool := (List.range 7).all fun a => decide (pF W 4 ≤ a) || ((List.range 7).all fun q => decide ((if q < a then (pH W a q : Int) else 0) = cS (fun p => cP W p q * (pH W a p / 2 : Nat)) a + 4 * cP W a q) && (decide (a ≤ q) || decide (pS W q = 0) || decide (pH W a q % 2 = 0)))
def chkA : Bool := [1, 2, 3].all fun a => [1, 2, 3].all fun b => [1, 2, 3].all fun c => [1, 2, 3].all fun e => chk1 (a, b, c, e)
set_option maxRecDepth 100000 in
theorem chkA_ok : chkA = true := by decide +kernel
theorem chk1_ok {W : WT} (hw : wok W) : chk1 W = true := by
  have m : ∀ n : Nat, 1 ≤ n ∧ n ≤ 3 → n ∈ [1, 2, 3] := fun n h => by
    have : n = 1 ∨ n = 2 ∨ n = 3 := by omega
    rcases this with rfl | rfl | rfl <;> simp
  obtain ⟨a, b, c, e⟩ := W
  have h0 := chkA_ok
  unfold chkA at h0
  have h1 := List.all_eq_true.mp h0 a (m _ (hw 0))
  have h2 := List.all_eq_true.mp h1 b (m _ (hw 1))
  have h3 := List.all_eq_true.mp h2 c (m _ (hw 2))
  exact List.all_eq_true.mp h3 e (m _ (hw 3))
theorem pH_id {W : WT} (hw : wok W) {a q : Nat} (ha : a < 7) (h4 : a < pF W 4) (hq : q < 7) : (if q < a then (pH W a q : Int) else 0) = cS (fun p => cP W p q * (pH W a p / 2 : Nat)) a + 4 * cP W a q ∧ (q < a → pS W q ≠ 0 → pH W a q % 2 = 0) := by
  have h := List.all_eq_true.mp (chk1_ok hw) a (List.mem_range.mpr ha)
  simp only [Bool.or_eq_true, decide_eq_true_eq] at h
  rcases h with h | h
  · omega
  · have h2 := List.all_eq_true.mp h q (List.mem_range.mpr hq)
    simp only [Bool.and_eq_true, Bool.or_eq_true, decide_eq_true_eq] at h2
    refine ⟨h2.1, fun x y => ?_⟩
    rcases h2.2 with (h3 | h3) | h3
    · omega
    · exact absurd h3 y
    · exact h3
/-- half of the load of a place -/
def hl (W : WT) (u : Nat → Int) (p : Nat) : Nat → Int
  | 0 => 0
  | m + 1 => hl W u p m + if p < m then (pH W m p / 2 : Nat) * u m else 0
theorem hl_low {W : WT} {u : Nat → Int} {p : Nat} : ∀ m, m ≤ p + 1 → hl W u p m = 0
  | 0, _ => rfl
  | m + 1, h => by
    show hl W u p m + (if p < m then _ else 0) = 0
    rw [hl_low m (by omega), if_neg (by omega)]
    rfl
theorem hl_ld {W : WT} (hw : wok W) {u : Nat → Int} {p : Nat} (hp : p < 7) (h0 : pS W p ≠ 0) : ∀ m, m ≤ 7 → m ≤ pF W 4 → ld (fun a b => (pH W a b : Int)) u p m = 2 * hl W u p m
  | 0, _, _ => rfl
  | m + 1, h7, h4 => by
    have ih := hl_ld (u := u) hw hp h0 m (by omega) (by omega)
    show ld _ u p m + (if p < m then (pH W m p : Int) * u m else 0) = 2 * (hl W u p m + (if p < m then (pH W m p / 2 : Nat) * u m else 0))
    rw [ih]
    by_cases c : p < m
    · have ev := (pH_id hw (show m < 7 by omega) (by omega) hp).2 c h0
      have e : (pH W m p : Int) = 2 * ((pH W m p / 2 : Nat) : Int) := by omega
      rw [if_pos c, if_pos c, e]
      rw [Int.mul_add, ← Int.mul_assoc]
    · rw [if_neg c, if_neg c]; omega
theorem ld_sum {W : WT} (hw : wok W) {u : Nat → Int} {q : Nat} (hq : q < 7) : ∀ m, m ≤ 7 → m ≤ pF W 4 → cS (fun p => cP W p q * (4 * u p + hl W u p m)) m = ld (fun a b => (pH W a b : Int)) u q m
  | 0, _, _ => rfl
  | m + 1, h7, h4 => by
    have ih := ld_sum (u := u) hw hq m (by omega) (by omega)
    have idn := (pH_id hw (show m < 7 by omega) (by omega) hq).1
    show cS (fun p => cP W p q * (4 * u p + hl W u p (m + 1))) m + cP W m q * (4 * u m + hl W u m (m + 1)) = ld _ u q m + (if q < m then (pH W m q : Int) * u m else 0)
    have e1 : cS (fun p => cP W p q * (4 * u p + hl W u p (m + 1))) m = cS (fun p => cP W p q * (4 * u p + hl W u p m) + (cP W p q * (pH W m p / 2 : Nat)) * u m) m := cS_congr m (fun p hp => by
      show cP W p q * (4 * u p + (hl W u p m + (if p < m then (pH W m p / 2 : Nat) * u m else 0))) = _
      rw [if_pos hp, ← Int.add_assoc, Int.mul_add, Int.mul_assoc])
    rw [e1, cS_lin, ih, hl_low (m + 1) (Nat.le_refl _)]
    have e2 : (if q < m then (pH W m q : Int) * u m else 0) = (if q < m then (pH W m q : Int) else 0) * u m := by
      split
      · rfl
      · rw [Int.zero_mul]
    rw [e2, idn, Int.add_mul]
    have e3 : cP W m q * (4 * u m + 0) = 4 * cP W m q * u m := by rw [Int.add_zero, ← Int.mul_assoc, Int.mul_comm (cP W m q) 4]
    rw [e3, Int.add_assoc]
theorem cP_0 {W : WT} (hw : wok W) {p q : Nat} (h4 : p < pF W 4) (h : p ≤ q) : cP W p q = 0 := by
  unfold cP
  by_cases c : pS W p = 0
  · rw [if_pos c]
  · rw [if_neg c]
    have i0 := pO_in (e := 0) hw h4 (by omega)
    have i1 := pO_in (e := 1) hw h4 (by omega)
    rw [if_neg (by omega), if_neg (by omega)]
    rfl
theorem cP_pos {W : WT} {p q : Nat} : 0 ≤ cP W p q := by
  unfold cP
  split
  · omega
  · split <;> split <;> omega
theorem cS_0 {f : Nat → Int} : ∀ k, (∀ p, p < k → f p = 0) → cS f k = 0
  | 0, _ => rfl
  | k + 1, h => by
    show cS f k + f k = 0
    rw [cS_0 k (fun p hp => h p (by omega)), h k (by omega)]
    rfl
theorem hl_pos {W : WT} {u : Nat → Int} {p : Nat} : ∀ m, (∀ a, a < m → 0 ≤ u a ∧ u a ≤ 120) → 0 ≤ hl W u p m ∧ hl W u p m ≤ 480 * m
  | 0, _ => by show (0 : Int) ≤ 0 ∧ (0 : Int) ≤ _; omega
  | m + 1, h => by
    have ih := hl_pos (W := W) (u := u) (p := p) m (fun a ha => h a (by omega))
    have hu := h m (by omega)
    have hb := pH_le (W := W) m p
    have h1 : 0 ≤ ((pH W m p / 2 : Nat) : Int) * u m := Int.mul_nonneg (by omega) hu.1
    have h2 : ((pH W m p / 2 : Nat) : Int) * u m ≤ 4 * 120 := Int.mul_le_mul (by omega) hu.2 hu.1 (by omega)
    show 0 ≤ hl W u p m + (if p < m then ((pH W m p / 2 : Nat) : Int) * u m else 0) ∧ hl W u p m + (if p < m then ((pH W m p / 2 : Nat) : Int) * u m else 0) ≤ _
    split <;> omega
/-! what the reference's cells hold -/
def sup (W : WT) (p e : Nat) : Int := if pS W p = 0 then -1 else (pO W p e : Nat)
def TM (W : WT) (n : Nat) (g : vx_M) : Prop := ∀ p : Nat, p < n → g 48 p = (pS W p : Nat) ∧ g 49 p = sup W p 0 ∧ g 50 p = sup W p 1
def BM (σ : SG) (g : vx_M) : Prop := VB σ ∧ g 40 0 = (sH σ : Nat) ∧ g 40 10 = (sL σ : Nat) ∧ (∀ t : Nat, t < 4 → g 41 t = wq (sW σ) t) ∧ g 40 2 = (sN σ : Nat) ∧ (∀ i p : Nat, i < 6 → p < 8 → g (42 + i) p = sA σ i p) ∧ g 40 9 = sP σ ∧ TM (sW σ) (sL σ) g
def HM (σ : SG) (g : vx_M) : Prop := (sR σ = none ∧ g 40 14 = 0) ∨ (∃ r, sR σ = some r ∧ g 40 14 = 1 ∧ HB σ r 51 g)
def RM (σ : SG) (g : vx_M) : Prop := VS σ ∧ BM σ g ∧ HM σ g ∧ g 40 29 = sC σ ∧ g 40 30 = sD σ ∧ g 40 31 = sT σ
def frM (g g' : vx_M) : Prop := ∀ a b, a < 40 → g' a b = g a b
theorem BM.frame {σ : SG} {g g' : vx_M} (h : BM σ g) (hf : ∀ a b, 41 ≤ a → a < 51 → g' a b = g a b) (h0 : g' 40 0 = g 40 0) (h2 : g' 40 2 = g 40 2) (h9 : g' 40 9 = g 40 9) (h10 : g' 40 10 = g 40 10) : BM σ g' := by
  obtain ⟨k1, k2, k3, k4, k5, k6, k7, k8⟩ := h
  refine ⟨k1, by rw [h0]; exact k2, by rw [h10]; exact k3, fun t ht => ?_, by rw [h2]; exact k5, fun i p hi hp => ?_, by rw [h9]; exact k7, fun p hp => ?_⟩
  · rw [hf _ _ (by omega) (by omega)]; exact k4 t ht
  · rw [hf _ _ (by omega) (by omega)]; exact k6 i p hi hp
  · rw [hf _ _ (by omega) (by omega), hf _ _ (by omega) (by omega), hf _ _ (by omega) (by omega)]; exact k8 p hp
theorem c_in {l : Launch} {d : Nat} {g : vx_M} (v a b : Int) : vNi l mX6_in d [.inl v, .inl a, .inl b] SH g (fun r g' => g' = g ∧ ((r = 1 ∧ a ≤ v ∧ v ≤ b) ∨ (r = 0 ∧ (v < a ∨ b < v)))) :=
  kX6_in g v a b ⟨fun c => ⟨rfl, Or.inr ⟨rfl, Or.inl c⟩⟩, fun c => ⟨fun c2 => ⟨rfl, Or.inr ⟨rfl, Or.inr c2⟩⟩, fun c2 => ⟨rfl, Or.inl ⟨rfl, by omega, by omega⟩⟩⟩⟩
theorem m_isPlace {l : Launch} {d : Nat} {σ : SG} {g : vx_M} (hB : BM σ g) (v : Int) : vNi l mX6_isPlace (d + 1) [.inr (some 40), .inl v] SH g (fun r g' => g' = g ∧ ((r = 1 ∧ 0 ≤ v ∧ v < sL σ) ∨ (r = 0 ∧ (v < 0 ∨ sL σ ≤ v)))) := by
  have e := hB.2.2.1
  have h7 : sL σ ≤ 7 := hB.1.2.2.1
  refine kX6_isPlace g v ⟨⟨by omega, by omega⟩, _, c_in v 0 _, fun r2 g2 h => ?_⟩
  obtain ⟨rfl, h⟩ := h
  exact ⟨by omega, rfl, by omega⟩
theorem m_isPerson {l : Launch} {d : Nat} {σ : SG} {g : vx_M} (hB : BM σ g) (v : Int) : vNi l mX6_isPerson (d + 1) [.inr (some 40), .inl v] SH g (fun r g' => g' = g ∧ ((r = 1 ∧ 0 ≤ v ∧ v < sN σ) ∨ (r = 0 ∧ (v < 0 ∨ sN σ ≤ v)))) := by
  have e := hB.2.2.2.2.1
  have h7 := hB.1.2.2.2.1
  refine kX6_isPerson g v ⟨⟨by omega, by omega⟩, _, c_in v 0 _, fun r2 g2 h => ?_⟩
  obtain ⟨rfl, h⟩ := h
  exact ⟨by omega, rfl, by omega⟩
theorem m_sum {l : Launch} {d : Nat} (g : vx_M) (W : WT) (hw : wok W) {h : Nat} (h4 : h ≤ 4) (hW : ∀ t : Nat, t < 4 → g 41 t = wq W t) : vNi l mX6_sum d [.inr (some 40), .inl (h : Int)] SH g (fun r g' => r = pF W h ∧ g' = g) := by
  refine kX6_sum g h ?_
  have key : ∀ (k s : Nat), s + k = h → vN l mX6_sum d (vx_pi SH (fun r g' => r = pF W h ∧ g' = g)) SH g 4 [some (.inr (some 40)), some (.inl (h : Int)), some (.inl (pF W s : Int)), some (.inl (s : Int))] [] := by
    intro k
    induction k with
    | zero =>
      intro s hs
      refine tX6_sum_4 g _ _ _ ⟨fun _ => ⟨by rw [show s = h by omega], rfl⟩, fun c => by omega⟩
    | succ k ih =>
      intro s hs
      have pb : pF W s ≤ 3 * s := by
        clear ih hs
        induction s with
        | zero => exact Nat.le_refl _
        | succ s ih3 =>
          have := hw s
          show pF W s + wq W s ≤ _
          omega
      have e := hW s (by omega)
      have ws := hw s
      refine tX6_sum_4 g _ _ _ ⟨fun c => by omega, fun _ => ⟨⟨by omega, by omega⟩, ?_, ⟨by omega, by omega⟩, ?_⟩⟩
      · rw [e]; exact ⟨by omega, by omega⟩
      · rw [e]
        exact ih (s + 1) (by omega)
  exact key h 0 (by omega)
/-- as far as n places -/
def TQ (W : WT) (h n : Nat) (g : vx_M) : Prop := g 40 0 = (h : Nat) ∧ g 40 10 = (n : Nat) ∧ (∀ t : Nat, t < 4 → g 41 t = wq W t) ∧ TM W n g
def fr_P (g g' : vx_M) : Prop := (∀ a b, a ≠ 40 → a ≠ 48 → a ≠ 49 → a ≠ 50 → g' a b = g a b) ∧ ∀ b, b ≠ 10 → g' 40 b = g 40 b
theorem m_findPlaces {l : Launch} {d : Nat} (g : vx_M) (W : WT) (hw : wok W) {h : Nat} (h1 : 1 ≤ h) (h4 : h ≤ 4) (h7 : pF W h ≤ 7) (hh : g 40 0 = (h : Nat)) (hW : ∀ t : Nat, t < 4 → g 41 t = wq W t) : vNv l mX6_findPlaces d [.inr (some 40)] SH g (fun g' => TQ W h (pF W h) g' ∧ fr_P g g') := by
  refine kX6_findPlaces g ?_
  have key : ∀ (k s : Nat), s + k = h → ∀ (f : Int) g1, (0 < s → f = (pF W (s - 1) : Nat)) → TQ W h (pF W s) g1 → fr_P g g1 → vN l mX6_findPlaces d (vx_pv SH (fun g' => TQ W h (pF W h) g' ∧ fr_P g g')) SH g1 9 [some (.inr (some 40)), some (.inl f), some (.inl (s : Int)), none, none] [] := by
    intro k
    induction k with
    | zero =>
      intro s hs f g1 hf1 hq hf
      have e : s = h := by omega
      subst e
      have e0 := hq.1
      refine tX6_findPlaces_9 g1 _ _ ⟨fun _ => ⟨hq, hf⟩, fun c => by omega⟩
    | succ k ih =>
      intro s hs f g1 hf1 hq hf
      have ws := hw s
      have ps1 : pF W (s + 1) = pF W s + wq W s := rfl
      have pm : pF W (s + 1) ≤ pF W h := pF_mono (by omega)
      have p4 : pF W h ≤ pF W 4 := pF_mono h4
      have e00 := hq.1
      refine tX6_findPlaces_9 g1 _ _ ⟨fun c => by omega, fun _ => ?_⟩
      rw [hq.2.1]
      have inner : ∀ (k2 j : Nat), j + k2 = wq W s → ∀ g2, TQ W h (pF W s + j) g2 → fr_P g g2 → vN l mX6_findPlaces d (vx_pv SH (fun g' => TQ W h (pF W h) g' ∧ fr_P g g')) SH g2 27 [some (.inr (some 40)), some (.inl ((pF W s : Nat) : Int)), some (.inl (s : Int)), some (.inl f), some (.inl (j : Int))] [] := by
        intro k2
        induction k2 with
        | zero =>
          intro j hj g2 hq2 hf2
          have e6 := hq2.2.2.1 s (by omega)
          refine tX6_findPlaces_27 g2 _ _ _ _ ⟨⟨by omega, by omega⟩, fun _ => ⟨⟨by omega, by omega⟩, ?_⟩, fun c => by omega⟩
          have h9 := ih (s + 1) (by omega) ((pF W s : Nat) : Int) g2 (fun _ => rfl) (by rw [ps1, show wq W s = j by omega]; exact hq2) hf2
          exact h9
        | succ k2 ih2 =>
          intro j hj g2 hq2 hf2
          obtain ⟨b1, b2, b3, b4⟩ := id hq2
          have e6 := b3 s (by omega)
          have hps : pS W (pF W s + j) = s := pS_eq (by omega) (by omega) (by omega)
          -- the end of the body
          have fin : ∀ (x y : Int), x = sup W (pF W s + j) 0 → y = sup W (pF W s + j) 1 → vN l mX6_findPlaces d (vx_pv SH (fun g' => TQ W h (pF W h) g' ∧ fr_P g g')) SH (vx_u (vx_u g2 48 ((pF W s + j : Nat) : Int) s) 49 ((pF W s + j : Nat) : Int) x) 109 [some (.inr (some 40)), some (.inl ((pF W s : Nat) : Int)), some (.inl (s : Int)), some (.inl f), some (.inl (j : Int))] [.inl y, .inl ((pF W s + j : Nat) : Int), .inr (some 50)] := by
            intro x y hx hy
            have e10 : (vx_u (vx_u g2 48 ((pF W s + j : Nat) : Int) s) 49 ((pF W s + j : Nat) : Int) x) 40 10 = ((pF W s + j : Nat) : Int) := by rw [vx_u_k (by omega), vx_u_k (by omega)]; exact b2
            refine tX6_findPlaces_109 _ _ _ _ _ _ _ ⟨⟨by omega, by omega⟩, ?_, ⟨by omega, by omega⟩, ?_⟩
            · rw [e10]; exact ⟨by omega, by omega⟩
            · rw [e10]
              have fz : ∀ a b, a ≠ 48 → a ≠ 49 → a ≠ 50 → (a ≠ 40 ∨ b ≠ 10) → (vx_u (vx_u (vx_u (vx_u g2 48 ((pF W s + j : Nat) : Int) s) 49 ((pF W s + j : Nat) : Int) x) 50 ((pF W s + j : Nat) : Int) y) 40 10 (((pF W s + j : Nat) : Int) + 1)) a b = g2 a b := fun a b x1 x2 x3 x4 => by
                by_cases ha : a = 40
                · rw [vx_u_j (by omega), vx_u_k x3, vx_u_k x2, vx_u_k x1]
                · rw [vx_u_k ha, vx_u_k x3, vx_u_k x2, vx_u_k x1]
              have h9 := ih2 (j + 1) (by omega) (vx_u (vx_u (vx_u (vx_u g2 48 ((pF W s + j : Nat) : Int) s) 49 ((pF W s + j : Nat) : Int) x) 50 ((pF W s + j : Nat) : Int) y) 40 10 (((pF W s + j : Nat) : Int) + 1)) ⟨?_, ?_, fun t ht => ?_, fun p hp => ?_⟩ ⟨fun a b x1 x2 x3 x4 => ?_, fun b hb => ?_⟩
              · exact h9
              · rw [fz _ _ (by omega) (by omega) (by omega) (by omega)]; exact b1
              · rw [vx_u_at]; omega
              · rw [fz _ _ (by omega) (by omega) (by omega) (by omega)]; exact b3 t ht
              · rw [vx_u_k (by omega), vx_u_k (by omega), vx_u_k (by omega), vx_u_k (show (49 : Nat) ≠ 40 by omega), vx_u_k (show (49 : Nat) ≠ 50 by omega), vx_u_k (show (50 : Nat) ≠ 40 by omega)]
                by_cases hp2 : p = pF W s + j
                · rw [hp2, vx_u_at, vx_u_at, vx_u_at, hps]
                  exact ⟨rfl, hx, hy⟩
                · rw [vx_u_j (by omega), vx_u_j (by omega), vx_u_j (by omega), vx_u_j (by omega), vx_u_j (by omega), vx_u_j (by omega)]
                  exact b4 p (by omega)
              · rw [fz a b x2 x3 x4 (Or.inl x1)]; exact hf2.1 a b x1 x2 x3 x4
              · rw [fz 40 b (by omega) (by omega) (by omega) (Or.inr hb)]; exact hf2.2 b hb
          refine tX6_findPlaces_27 g2 _ _ _ _ ⟨⟨by omega, by omega⟩, fun c => by omega, fun _ => ?_⟩
          rw [b2]
          refine ⟨⟨by omega, by omega⟩, fun c0 => ?_, fun c0 => ?_⟩
          · have w1 := hw (s - 1)
            have hs1 : ((s : Int) - 1) = ((s - 1 : Nat) : Int) := by omega
            have e2 : g2 41 ((s : Int) - 1) = wq W (s - 1) := by rw [hs1]; exact b3 (s - 1) (by omega)
            have m0 : j % wq W (s - 1) < wq W (s - 1) := Nat.mod_lt _ (by omega)
            have m1 : (j + 1) % wq W (s - 1) < wq W (s - 1) := Nat.mod_lt _ (by omega)
            have cc0 : ((j : Int) % (wq W (s - 1) : Int)) = ((j % wq W (s - 1) : Nat) : Int) := (Int.natCast_emod _ _).symm
            have cc1 : (((j : Int) + 1) % (wq W (s - 1) : Int)) = (((j + 1) % wq W (s - 1) : Nat) : Int) := by rw [Int.natCast_emod]; rfl
            have ef := hf1 (by omega)
            have hps1 : pF W (s - 1) ≤ pF W h := pF_mono (by omega)
            rw [e2, cc0, ef]
            refine ⟨⟨by omega, by omega⟩, ⟨by omega, by omega⟩, ⟨by omega, by omega⟩, ⟨by omega, by omega⟩, ?_⟩
            refine tX6_findPlaces_77 _ _ _ _ _ _ _ ⟨⟨by omega, by omega⟩, fun c1 => ?_, fun c1 => absurd c1 c0⟩
            have e2' : (vx_u g2 48 ((pF W s + j : Nat) : Int) s) 41 ((s : Int) - 1) = wq W (s - 1) := by rw [vx_u_k (by omega)]; exact e2
            have e10 : (vx_u g2 48 ((pF W s + j : Nat) : Int) s) 40 10 = ((pF W s + j : Nat) : Int) := by rw [vx_u_k (by omega)]; exact b2
            rw [e2', cc1, e10]
            refine ⟨⟨by omega, by omega⟩, ⟨by omega, by omega⟩, ⟨by omega, by omega⟩, ⟨by omega, by omega⟩, ⟨by omega, by omega⟩, ?_⟩
            rw [ef] at fin
            refine fin _ _ ?_ ?_
            · unfold sup pO
              rw [hps, if_neg (by omega), show pF W s + j - pF W s + 0 = j by omega]
              omega
            · unfold sup pO
              rw [hps, if_neg (by omega), show pF W s + j - pF W s + 1 = j + 1 by omega]
              omega
          · refine tX6_findPlaces_77 _ _ _ _ _ _ _ ⟨⟨by omega, by omega⟩, fun c1 => absurd c0 c1, fun c1 => ?_⟩
            have e10 : (vx_u g2 48 ((pF W s + j : Nat) : Int) s) 40 10 = ((pF W s + j : Nat) : Int) := by rw [vx_u_k (by omega)]; exact b2
            rw [e10]
            refine fin _ _ ?_ ?_
            · unfold sup
              rw [hps, if_pos (by omega)]
            · unfold sup
              rw [hps, if_pos (by omega)]
      exact inner (wq W s) 0 (by omega) g1 hq hf
  have h := key h 0 (by omega) 0 (vx_u g 40 10 0) (fun h => by omega) ⟨?_, vx_u_at, fun t ht => ?_, fun p hp => ?_⟩ ⟨fun a b x1 x2 x3 x4 => vx_u_k x1, fun b hb => vx_u_j hb⟩
  · exact h
  · rw [vx_u_j (by omega)]; exact hh
  · rw [vx_u_k (by omega)]; exact hW t ht
  · exact absurd hp (by show ¬ p < 0; omega)

/-! THE STATE as one value, and what the class's cells hold of it -/
abbrev SG : Type := (Nat × WT) × (Nat × (Nat → Nat → Int)) × Int × Option (List Nat) × (Int × Int × Int)
def sH (σ : SG) : Nat := σ.1.1
def sW (σ : SG) : WT := σ.1.2
def sN (σ : SG) : Nat := σ.2.1.1
def sA (σ : SG) : Nat → Nat → Int := σ.2.1.2
def sP (σ : SG) : Int := σ.2.2.1
def sR (σ : SG) : Option (List Nat) := σ.2.2.2.1
def sC (σ : SG) : Int := σ.2.2.2.2.1
def sD (σ : SG) : Int := σ.2.2.2.2.2.1
def sT (σ : SG) : Int := σ.2.2.2.2.2.2
def sL (σ : SG) : Nat := pF (sW σ) (sH σ)
/-- one person is as told -/
def pOK (A : Nat → Nat → Int) (p : Nat) : Prop := (100 ≤ A 0 p ∧ A 0 p ≤ 200) ∧ (20 ≤ A 1 p ∧ A 1 p ≤ 120) ∧ (0 ≤ A 2 p ∧ A 2 p ≤ 400) ∧ (0 ≤ A 3 p ∧ A 3 p ≤ 3) ∧ (0 ≤ A 4 p ∧ A 4 p ≤ 20000)
/-- tower and people are as told -/
def VB (σ : SG) : Prop := (1 ≤ sH σ ∧ sH σ ≤ 4) ∧ wok (sW σ) ∧ sL σ ≤ 7 ∧ sN σ ≤ 8 ∧ (∀ p, p < sN σ → pOK (sA σ) p) ∧ (∀ p, sA σ 5 p = 0 ∨ sA σ 5 p = 1) ∧ (∀ p, sN σ ≤ p → sA σ 5 p = 0) ∧ (0 ≤ sP σ ∧ sP σ ≤ 50)
def hOK (σ : SG) (r : List Nat) : Prop := r.length = sL σ ∧ ∀ i, i < sL σ → r.getD i 0 < sN σ
def VS (σ : SG) : Prop := VB σ ∧ (∀ r, sR σ = some r → hOK σ r) ∧ (0 ≤ sC σ ∧ sC σ ≤ 1000) ∧ (0 ≤ sD σ ∧ sD σ ≤ 1000) ∧ (0 ≤ sT σ ∧ sT σ ≤ 1000000)
def PC (σ : SG) (g : vx_M) : Prop := g 13 6 = sN σ ∧ ∀ i p : Nat, i < 6 → p < 8 → g (14 + i) p = sA σ i p
/-- tower, people and rules lie in the memory -/
def BC (σ : SG) (g : vx_M) : Prop := VB σ ∧ TOW (sW σ) (sH σ) g ∧ PC σ g ∧ g 20 2 = sP σ ∧ ∀ t : Nat, t < 4 → g 2 t = wq (sW σ) t
theorem BC.frame {σ : SG} {g g' : vx_M} (h : BC σ g) (hf : ∀ a b, 1 ≤ a → a < 21 → g' a b = g a b) : BC σ g' := by
  obtain ⟨h1, ⟨t1, t2, t3, t4, t5⟩, ⟨p1, p2⟩, h4, h5⟩ := h
  have h7 : pF (sW σ) (sH σ) ≤ 7 := h1.2.2.1
  refine ⟨h1, ⟨?_, ?_, ?_, ?_, ?_⟩, ⟨?_, ?_⟩, ?_, ?_⟩
  · rw [hf _ _ (by omega) (by omega)]; exact t1
  · rw [hf _ _ (by omega) (by omega)]; exact t2
  · intro s hs; rw [hf _ _ (by omega) (by omega)]; exact t3 s hs
  · intro s hs; rw [hf _ _ (by omega) (by omega)]; exact t4 s hs
  · intro p q hp hq; rw [hf _ _ (by omega) (by omega)]; exact t5 p q hp hq
  · rw [hf _ _ (by omega) (by omega)]; exact p1
  · intro i p hi hp; rw [hf _ _ (by omega) (by omega)]; exact p2 i p hi hp
  · rw [hf _ _ (by omega) (by omega)]; exact h4
  · intro t ht; rw [hf _ _ (by omega) (by omega)]; exact h5 t ht
/-- the placing r lies in the cell k -/
def HB (σ : SG) (r : List Nat) (k : Nat) (g : vx_M) : Prop := hOK σ r ∧ ∀ i : Nat, i < sL σ → g k i = (r.getD i 0 : Nat)
def HC (σ : SG) (g : vx_M) : Prop := (sR σ = none ∧ g 0 6 = 0 ∧ ∀ i : Nat, i < 7 → g 39 i = -1) ∨ (∃ r, sR σ = some r ∧ g 0 6 = 1 ∧ HB σ r 39 g)
def RC (σ : SG) (g : vx_M) : Prop := VS σ ∧ BC σ g ∧ HC σ g ∧ (∀ x : Nat, x < 8 → g 33 x = 0) ∧ g 0 7 = sC σ ∧ g 0 8 = sD σ ∧ g 0 9 = sT σ
/-- the load of a place q by those in the places before m, in eighths -/
def ld (S : Nat → Nat → Int) (u : Nat → Int) (q : Nat) : Nat → Int
  | 0 => 0
  | m + 1 => ld S u q m + if q < m then S m q * u m else 0
def lD (σ : SG) (r : List Nat) (q m : Nat) : Int := ld (fun a b => (pH (sW σ) a b : Int)) (fun a => sA σ 1 (r.getD a 0)) q m
theorem ld_low {S : Nat → Nat → Int} {u : Nat → Int} {q : Nat} : ∀ m, m ≤ q + 1 → ld S u q m = 0
  | 0, _ => rfl
  | m + 1, h => by
    show ld S u q m + (if q < m then S m q * u m else 0) = 0
    rw [ld_low m (by omega), if_neg (by omega)]
    rfl
theorem ld_bound {S : Nat → Nat → Int} {u : Nat → Int} {q : Nat} : ∀ m, (∀ a, a < m → 0 ≤ S a q ∧ S a q ≤ 8 ∧ 0 ≤ u a ∧ u a ≤ 120) → 0 ≤ ld S u q m ∧ ld S u q m ≤ 960 * m
  | 0, _ => by show (0 : Int) ≤ 0 ∧ (0 : Int) ≤ _; omega
  | m + 1, h => by
    have h1 := ld_bound m (fun a ha => h a (by omega))
    obtain ⟨b1, b2, b3, b4⟩ := h m (by omega)
    have h2 : 0 ≤ S m q * u m := Int.mul_nonneg b1 b3
    have h3 : S m q * u m ≤ 8 * 120 := Int.mul_le_mul b2 b4 b3 (by omega)
    show 0 ≤ ld S u q m + (if q < m then S m q * u m else 0) ∧ ld S u q m + (if q < m then S m q * u m else 0) ≤ _
    split <;> omega
theorem lD_bound {σ : SG} {r : List Nat} {q m : Nat} (hv : VB σ) (hr : hOK σ r) (hm : m ≤ sL σ) : 0 ≤ lD σ r q m ∧ lD σ r q m ≤ 960 * m := by
  refine ld_bound m (fun a ha => ?_)
  have h1 := hv.2.2.2.2.1 (r.getD a 0) (hr.2 a (by omega))
  have h2 := pH_le (W := sW σ) a q
  exact ⟨by omega, by omega, by have := h1.2.1; omega, h1.2.1.2⟩
/-- least and greatest of k + 1 numbers from f on -/
def hmin (u : Nat → Int) (f : Nat) : Nat → Int
  | 0 => u f
  | k + 1 => min (hmin u f k) (u (f + k + 1))
def hmax (u : Nat → Int) (f : Nat) : Nat → Int
  | 0 => u f
  | k + 1 => max (hmax u f k) (u (f + k + 1))
theorem hmin_le (u : Nat → Int) (f : Nat) : ∀ k, hmin u f k ≤ hmax u f k
  | 0 => Int.le_refl _
  | k + 1 => by
    have := hmin_le u f k
    show min (hmin u f k) (u (f + k + 1)) ≤ max (hmax u f k) (u (f + k + 1))
    omega
theorem hm_bound (u : Nat → Int) (f : Nat) {a b : Int} : ∀ k, (∀ i, i ≤ k → a ≤ u (f + i) ∧ u (f + i) ≤ b) → a ≤ hmin u f k ∧ hmax u f k ≤ b
  | 0, h => h 0 (Nat.le_refl _)
  | k + 1, h => by
    have h1 := hm_bound u f k (fun i hi => h i (by omega))
    have h2 := h (k + 1) (Nat.le_refl _)
    show a ≤ min (hmin u f k) (u (f + k + 1)) ∧ max (hmax u f k) (u (f + k + 1)) ≤ b
    rw [show f + (k + 1) = f + k + 1 by omega] at h2
    omega
def hU (σ : SG) (r : List Nat) (p : Nat) : Int := sA σ 0 (r.getD p 0)
/-- how far apart the heights of a storey are -/
def sprd (σ : SG) (r : List Nat) (s : Nat) : Int := hmax (hU σ r) (pF (sW σ) s) (wq (sW σ) s - 1) - hmin (hU σ r) (pF (sW σ) s) (wq (sW σ) s - 1)
def okP (σ : SG) (r : List Nat) (p : Nat) : Prop := sA σ 5 (r.getD p 0) = 0 ∧ (pS (sW σ) p : Int) ≤ sA σ 3 (r.getD p 0)
def okL (σ : SG) (r : List Nat) (p : Nat) : Prop := lD σ r p (sL σ) ≤ 8 * sA σ 2 (r.getD p 0)
def FIT (σ : SG) (r : List Nat) : Prop := (∀ p, p < sL σ → okP σ r p ∧ okL σ r p) ∧ ∀ s, s < sH σ → sprd σ r s ≤ sP σ
theorem sL_4 {σ : SG} (hv : VB σ) : sL σ ≤ pF (sW σ) 4 := pF_mono hv.1.2
theorem pl_in {σ : SG} (hv : VB σ) {s : Nat} (hs : s < sH σ) : pF (sW σ) s + wq (sW σ) s ≤ sL σ := by
  have : pF (sW σ) (s + 1) ≤ pF (sW σ) (sH σ) := pF_mono (by omega)
  exact this
theorem pS_lt {σ : SG} (hv : VB σ) {p : Nat} (hp : p < sL σ) : pS (sW σ) p < sH σ := by
  have h4 := sL_4 hv
  obtain ⟨a, b, c⟩ := pS_in (W := sW σ) (p := p) (by omega)
  rcases Nat.lt_or_ge (pS (sW σ) p) (sH σ) with h | h
  · exact h
  · have : pF (sW σ) (sH σ) ≤ pF (sW σ) (pS (sW σ) p) := pF_mono h
    unfold sL at hp
    omega
theorem c_goesTo {l : Launch} {d : Nat} {σ : SG} {g : vx_M} (hB : BC σ g) {x : Nat} (hx : x < 8) (s : Int) : vNi l mX2_goesTo d [.inr (some 20), .inl (x : Int), .inl s] SH g (fun r g' => g' = g ∧ ((r = 1 ∧ sA σ 5 x = 0 ∧ s ≤ sA σ 3 x) ∨ (r = 0 ∧ ¬ (sA σ 5 x = 0 ∧ s ≤ sA σ 3 x)))) := by
  have e5 := hB.2.2.1.2 5 x (by omega) hx
  have e3 := hB.2.2.1.2 3 x (by omega) hx
  rw [show 14 + 5 = 19 from rfl] at e5
  rw [show 14 + 3 = 17 from rfl] at e3
  refine kX2_goesTo g x s ⟨⟨by omega, by omega⟩, fun c => ⟨rfl, Or.inr ⟨rfl, fun h => c (by rw [e5]; exact h.1)⟩⟩, fun c => ⟨⟨by omega, by omega⟩, fun c2 => ⟨rfl, Or.inr ⟨rfl, fun h => by rw [e3] at c2; omega⟩⟩, fun c2 => ⟨rfl, Or.inl ⟨rfl, by rw [← e5]; exact c, by rw [e3] at c2; omega⟩⟩⟩⟩
theorem c_mostLoad {l : Launch} {d : Nat} {σ : SG} {g : vx_M} (hB : BC σ g) {x : Nat} (hx : x < sN σ) : vNi l mX2_mostLoad d [.inr (some 20), .inl (x : Int)] SH g (fun r g' => g' = g ∧ r = 8 * sA σ 2 x) := by
  have hn := hB.1.2.2.2.1
  have e2 := hB.2.2.1.2 2 x (by omega) (by omega)
  rw [show 14 + 2 = 16 from rfl] at e2
  have hb := (hB.1.2.2.2.2.1 x hx).2.2.1
  refine kX2_mostLoad g x ⟨⟨by omega, by omega⟩, ?_, ?_⟩
  · rw [e2]; exact ⟨by omega, by omega⟩
  · rw [e2]; exact ⟨rfl, rfl⟩
theorem c_loadOn {l : Launch} {d : Nat} {σ : SG} {g : vx_M} (hB : BC σ g) {r : List Nat} (hr : HB σ r 39 g) {q m : Nat} (hq : q < 7) (hm : m ≤ sL σ) : vNi l mX2_loadOn d [.inr (some 20), .inr (some 39), .inl (q : Int), .inl (m : Int)] SH g (fun z g' => g' = g ∧ z = lD σ r q m) := by
  have hv := hB.1
  have h7 : sL σ ≤ 7 := hv.2.2.1
  refine kX2_loadOn g q m ⟨⟨by omega, by omega⟩, ?_⟩
  have key : ∀ (k i : Nat), i + k = m ∨ (k = 0 ∧ m ≤ i) → q < i → ∀ acc, acc = lD σ r q (min i m) → vN l mX2_loadOn d (vx_pi SH (fun z g' => g' = g ∧ z = lD σ r q m)) SH g 8 [some (.inr (some 20)), some (.inr (some 39)), some (.inl (q : Int)), some (.inl (m : Int)), some (.inl acc), some (.inl (i : Int))] [] := by
    intro k
    induction k with
    | zero =>
      intro i hi hqi acc ha
      refine tX2_loadOn_8 g _ _ _ _ ⟨fun _ => ⟨rfl, ?_⟩, fun c => by omega⟩
      rw [ha, show min i m = m by omega]
    | succ k ih =>
      intro i hi hqi acc ha
      have hi2 : i < m := by omega
      have e39 := hr.2 i (by omega)
      have hxn := hr.1.2 i (by omega)
      have hn := hv.2.2.2.1
      have e15 := hB.2.2.1.2 1 (r.getD i 0) (by omega) (by omega)
      rw [show 14 + 1 = 15 from rfl] at e15
      have eS := hB.2.1.2.2.2.2 i q (by unfold sL at hm; omega) hq
      have bH := pH_le (W := sW σ) i q
      have bW := (hv.2.2.2.2.1 _ hxn).2.1
      have hl := lD_bound (q := q) hv hr.1 (show i + 1 ≤ sL σ by omega)
      have hl0 := lD_bound (q := q) hv hr.1 (show i ≤ sL σ by omega)
      have el : lD σ r q (i + 1) = lD σ r q i + (pH (sW σ) i q : Int) * sA σ 1 (r.getD i 0) := by
        show lD σ r q i + (if q < i then _ else _) = _
        rw [if_pos hqi]
      rw [show min i m = i by omega] at ha
      have hmul : 0 ≤ (pH (sW σ) i q : Int) * sA σ 1 (r.getD i 0) := Int.mul_nonneg (by omega) (by omega)
      refine tX2_loadOn_8 g _ _ _ _ ⟨fun c => by omega, fun _ => ⟨⟨by omega, by omega⟩, ⟨by omega, by omega⟩, ⟨by omega, by omega⟩, ⟨by omega, by omega⟩, ?_, ?_, ⟨by omega, by omega⟩, ?_⟩⟩
      · rw [Int.toNat_natCast, eS, e39, e15]; exact ⟨by omega, by omega⟩
      · rw [Int.toNat_natCast, eS, e39, e15, ha]; exact ⟨by omega, by omega⟩
      · rw [Int.toNat_natCast, eS, e39, e15, ha]
        have h9 := ih (i + 1) (by omega) (by omega) _ (show lD σ r q i + (pH (sW σ) i q : Int) * sA σ 1 (r.getD i 0) = lD σ r q (min (i + 1) m) by rw [show min (i + 1) m = i + 1 by omega, el])
        exact h9
  have h0 : (0 : Int) = lD σ r q (min (q + 1) m) := (ld_low _ (by omega)).symm
  have h := key (m - (q + 1)) (q + 1) (by omega) (by omega) 0 h0
  exact h
theorem c_spread {l : Launch} {d : Nat} {σ : SG} {g : vx_M} (hB : BC σ g) {r : List Nat} (hr : HB σ r 39 g) {s : Nat} (hs : s < sH σ) : vNi l mX2_spread (d + 1) [.inr (some 20), .inr (some 39), .inl (s : Int)] SH g (fun z g' => g' = g ∧ z = sprd σ r s) := by
  have hv := hB.1
  have h7 : sL σ ≤ 7 := hv.2.2.1
  have h4 := hv.1.2
  have hn := hv.2.2.2.1
  have hp := pl_in hv hs
  have ws := hv.2.1 s
  have e3 := hB.2.1.2.2.1 s hs
  have e2 := hB.2.2.2.2 s (by omega)
  have rd : ∀ p : Nat, p < sL σ → 0 ≤ g 39 p ∧ g 39 p < 8 ∧ g 14 (g 39 p) = hU σ r p := fun p hp => by
    have e39 := hr.2 p hp
    have hxn := hr.1.2 p hp
    have e14 := hB.2.2.1.2 0 (r.getD p 0) (by omega) (by omega)
    rw [show 14 + 0 = 14 from rfl] at e14
    rw [e39]
    exact ⟨by omega, by omega, e14⟩
  have bd : ∀ p : Nat, p < sL σ → 100 ≤ hU σ r p ∧ hU σ r p ≤ 200 := fun p hp => (hv.2.2.2.2.1 _ (hr.1.2 p hp)).1
  have r0 := rd (pF (sW σ) s) (by omega)
  refine kX2_spread g s ⟨⟨by omega, by omega⟩, ?_, ?_, ?_⟩
  · rw [e3]; exact ⟨by omega, by omega⟩
  · rw [e3]; exact ⟨r0.1, r0.2.1⟩
  · rw [e3, r0.2.2]
    have key : ∀ (k i : Nat), i + 1 + k = wq (sW σ) s → vN l mX2_spread (d + 1) (vx_pi SH (fun z g' => g' = g ∧ z = sprd σ r s)) SH g 30 [some (.inr (some 20)), some (.inr (some 39)), some (.inl (s : Int)), some (.inl (pF (sW σ) s : Int)), some (.inl (hmin (hU σ r) (pF (sW σ) s) i)), some (.inl (hmax (hU σ r) (pF (sW σ) s) i)), some (.inl ((i + 1 : Nat) : Int)), none] [] := by
      intro k
      induction k with
      | zero =>
        intro i hi
        have hb := hm_bound (hU σ r) (pF (sW σ) s) (a := 100) (b := 200) i (fun j hj => bd _ (by omega))
        have hle := hmin_le (hU σ r) (pF (sW σ) s) i
        refine tX2_spread_30 g _ _ _ _ _ ⟨⟨by omega, by omega⟩, fun _ => ⟨⟨by omega, by omega⟩, rfl, ?_⟩, fun c => by omega⟩
        unfold sprd
        rw [show wq (sW σ) s - 1 = i by omega]
      | succ k ih =>
        intro i hi
        have hb := hm_bound (hU σ r) (pF (sW σ) s) (a := 100) (b := 200) i (fun j hj => bd _ (by omega))
        have ri := rd (pF (sW σ) s + (i + 1)) (by omega)
        have ec : (pF (sW σ) s : Int) + ((i + 1 : Nat) : Int) = ((pF (sW σ) s + (i + 1) : Nat) : Int) := by omega
        refine tX2_spread_30 g _ _ _ _ _ ⟨⟨by omega, by omega⟩, fun c => by omega, fun _ => ⟨⟨by omega, by omega⟩, ⟨by omega, by omega⟩, ?_, ⟨by omega, by omega⟩, ?_⟩⟩
        · rw [ec]; exact ⟨ri.1, ri.2.1⟩
        · rw [ec, ri.2.2]
          exact ih (i + 1) (by omega)
    exact key (wq (sW σ) s - 1) 0 (by omega)
theorem c_admit {l : Launch} {d : Nat} {σ : SG} {g : vx_M} (hB : BC σ g) {r : List Nat} (hr : HB σ r 39 g) : vNi l mX2_admit (d + 2) [.inr (some 20), .inr (some 39)] SH g (fun z g' => g' = g ∧ ((z = 1 ∧ FIT σ r) ∨ (z = 0 ∧ ¬ FIT σ r))) := by
  have hv := hB.1
  have h7 : sL σ ≤ 7 := hv.2.2.1
  have h4 := hv.1.2
  have hn := hv.2.2.2.1
  have e5 : g 1 5 = (sL σ : Nat) := hB.2.1.2.1
  have e4 : g 1 4 = (sH σ : Nat) := hB.2.1.1
  refine kX2_admit g ?_
  have key2 : ∀ (k s : Nat), s + k = sH σ → (∀ p, p < sL σ → okP σ r p ∧ okL σ r p) → (∀ t, t < s → sprd σ r t ≤ sP σ) → vN l mX2_admit (d + 1 + 1) (vx_pi SH (fun z g' => g' = g ∧ ((z = 1 ∧ FIT σ r) ∨ (z = 0 ∧ ¬ FIT σ r)))) SH g 65 [some (.inr (some 20)), some (.inr (some 39)), some (.inl (s : Int)), none] [] := by
    intro k
    induction k with
    | zero =>
      intro s hs h1 h2
      refine tX2_admit_65 g _ ⟨fun _ => ⟨rfl, Or.inl ⟨rfl, h1, fun t ht => h2 t (by omega)⟩⟩, fun c => by omega⟩
    | succ k ih =>
      intro s hs h1 h2
      refine tX2_admit_65 g _ ⟨fun c => by omega, fun _ => ⟨_, c_spread hB hr (by omega), fun r1 g1 h => ?_⟩⟩
      obtain ⟨rfl, hr1⟩ := h
      have e20 := hB.2.2.2.1
      refine ⟨fun c => ⟨⟨by omega, by omega⟩, ?_⟩, fun c => ⟨rfl, Or.inr ⟨rfl, fun hF => ?_⟩⟩⟩
      · exact ih (s + 1) (by omega) h1 (fun t ht => by
          by_cases e : t = s
          · rw [e]; omega
          · exact h2 t (by omega))
      · have := hF.2 s (by omega)
        omega
  have key : ∀ (k p : Nat), p + k = sL σ → (∀ q, q < p → okP σ r q ∧ okL σ r q) → vN l mX2_admit (d + 1 + 1) (vx_pi SH (fun z g' => g' = g ∧ ((z = 1 ∧ FIT σ r) ∨ (z = 0 ∧ ¬ FIT σ r)))) SH g 2 [some (.inr (some 20)), some (.inr (some 39)), some (.inl (p : Int)), none] [] := by
    intro k
    induction k with
    | zero =>
      intro p hp h1
      refine tX2_admit_2 g _ ⟨fun _ => key2 (sH σ) 0 (by omega) (fun q hq => h1 q (by omega)) (fun t ht => by omega), fun c => by omega⟩
    | succ k ih =>
      intro p hp h1
      have e39 := hr.2 p (by omega)
      have hxn := hr.1.2 p (by omega)
      have ep4 : g 4 p = (pS (sW σ) p : Nat) := hB.2.1.2.2.2.1 p (by unfold sL at hp; omega)
      refine tX2_admit_2 g _ ⟨fun c => by omega, fun _ => ⟨⟨by omega, by omega⟩, ⟨by omega, by omega⟩, ?_⟩⟩
      rw [e39, ep4]
      refine ⟨_, c_goesTo hB (by omega) _, fun r3 g3 h => ?_⟩
      obtain ⟨rfl, h3⟩ := h
      refine ⟨fun c => ⟨rfl, Or.inr ⟨rfl, fun hF => ?_⟩⟩, fun c => ?_⟩
      · rcases h3 with ⟨h3, -⟩ | ⟨-, h3⟩
        · omega
        · exact h3 ((hF.1 p (by omega)).1)
      · rw [e5]
        refine ⟨_, c_loadOn hB hr (by omega) (Nat.le_refl _), fun r4 g4 h => ?_⟩
        obtain ⟨rfl, h4⟩ := h
        refine ⟨_, c_mostLoad hB hxn, fun r5 g5 h => ?_⟩
        obtain ⟨rfl, h5⟩ := h
        have hP : okP σ r p := by
          rcases h3 with ⟨-, h3⟩ | ⟨h3, -⟩
          · exact h3
          · exact absurd h3 c
        refine ⟨fun c2 => ⟨⟨by omega, by omega⟩, ?_⟩, fun c2 => ⟨rfl, Or.inr ⟨rfl, fun hF => ?_⟩⟩⟩
        · exact ih (p + 1) (by omega) (fun q hq => by
            by_cases e : q = p
            · rw [e]; exact ⟨hP, by unfold okL; omega⟩
            · exact h1 q (by omega))
        · have := (hF.1 p (by omega)).2
          unfold okL at this
          omega
  exact key (sL σ) 0 (by omega) (fun q hq => by omega)

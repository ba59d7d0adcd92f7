/-! THE PURE WORDS: the tower's tables out of four widths -/
abbrev WT : Type := Nat × Nat × Nat × Nat
def wq (W : WT) (s : Nat) : Nat := match s with
  | 0 => W.1
  | 1 => W.2.1
  | 2 => W.2.2.1
  | _ => W.2.2.2
def wok (W : WT) : Prop := ∀ s, 1 ≤ wq W s ∧ wq W s ≤ 3
def pF (W : WT) : Nat → Nat
  | 0 => 0
  | s + 1 => pF W s + wq W s
def pS (W : WT) (p : Nat) : Nat := if p < pF W 1 then 0 else if p < pF W 2 then 1 else if p < pF W 3 then 2 else 3
/-- the place on which p rests: e is 0 or 1 -/
def pO (W : WT) (p e : Nat) : Nat := pF W (pS W p - 1) + (p - pF W (pS W p) + e) % wq W (pS W p - 1)
def pHs (W : WT) : Nat → Nat → Nat → Nat
  | 0, _, _ => 0
  | s + 1, p, q => (if q = pO W p 0 then 4 else if q < pO W p 0 then pHs W s (pO W p 0) q / 2 else 0) + (if q = pO W p 1 then 4 else if q < pO W p 1 then pHs W s (pO W p 1) q / 2 else 0)
def pH (W : WT) (p q : Nat) : Nat := pHs W (pS W p) p q
theorem pF_mono {W : WT} {s t : Nat} (h : s ≤ t) : pF W s ≤ pF W t := by
  induction t with
  | zero => rw [show s = 0 by omega]; exact Nat.le_refl _
  | succ t ih =>
    by_cases e : s = t + 1
    · rw [e]; exact Nat.le_refl _
    · have := ih (by omega)
      show pF W s ≤ pF W t + wq W t
      omega
theorem pS_eq {W : WT} {s p : Nat} (hs : s ≤ 3) (h1 : pF W s ≤ p) (h2 : p < pF W (s + 1)) : pS W p = s := by
  have a1 := pF_mono (W := W) (s := 1) (t := 2) (by omega)
  have a2 := pF_mono (W := W) (s := 2) (t := 3) (by omega)
  unfold pS
  match s, hs with
  | 0, _ => rw [if_pos h2]
  | 1, _ => rw [if_neg (by omega), if_pos h2]
  | 2, _ => rw [if_neg (by omega), if_neg (by omega), if_pos h2]
  | 3, _ => rw [if_neg (by omega), if_neg (by omega), if_neg (by omega)]
theorem pS_in {W : WT} {p : Nat} (h : p < pF W 4) : pS W p ≤ 3 ∧ pF W (pS W p) ≤ p ∧ p < pF W (pS W p + 1) := by
  unfold pS
  by_cases h1 : p < pF W 1
  · rw [if_pos h1]; exact ⟨by omega, by show 0 ≤ p; omega, h1⟩
  · rw [if_neg h1]
    by_cases h2 : p < pF W 2
    · rw [if_pos h2]; exact ⟨by omega, by omega, h2⟩
    · rw [if_neg h2]
      by_cases h3 : p < pF W 3
      · rw [if_pos h3]; exact ⟨by omega, by omega, h3⟩
      · rw [if_neg h3]; exact ⟨by omega, by omega, h⟩
theorem pO_in {W : WT} (hw : wok W) {p e : Nat} (h : p < pF W 4) (h1 : 1 ≤ pS W p) : pF W (pS W p - 1) ≤ pO W p e ∧ pO W p e < pF W (pS W p) ∧ pO W p e < p ∧ pS W (pO W p e) = pS W p - 1 := by
  obtain ⟨q1, q2, q3⟩ := pS_in h
  have hm : (p - pF W (pS W p) + e) % wq W (pS W p - 1) < wq W (pS W p - 1) := Nat.mod_lt _ (by have := (hw (pS W p - 1)).1; omega)
  have hf : pF W (pS W p - 1 + 1) = pF W (pS W p - 1) + wq W (pS W p - 1) := rfl
  rw [show pS W p - 1 + 1 = pS W p by omega] at hf
  have ha : pF W (pS W p - 1) ≤ pO W p e ∧ pO W p e < pF W (pS W p) := by
    unfold pO
    omega
  refine ⟨ha.1, ha.2, by omega, ?_⟩
  refine pS_eq (by omega) ha.1 ?_
  rw [show pS W p - 1 + 1 = pS W p by omega]
  exact ha.2
def pV (W : WT) (k q : Nat) : Nat := if q = k then 4 else if q < k then pH W k q / 2 else 0
theorem pH_eq {W : WT} (hw : wok W) {p q : Nat} (h : p < pF W 4) (h1 : 1 ≤ pS W p) : pH W p q = pV W (pO W p 0) q + pV W (pO W p 1) q := by
  obtain ⟨s, hs⟩ : ∃ s, pS W p = s + 1 := ⟨pS W p - 1, by omega⟩
  have e0 := (pO_in (e := 0) hw h h1).2.2.2
  have e1 := (pO_in (e := 1) hw h h1).2.2.2
  have f0 : pH W (pO W p 0) q = pHs W s (pO W p 0) q := by unfold pH; rw [e0, hs]; rfl
  have f1 : pH W (pO W p 1) q = pHs W s (pO W p 1) q := by unfold pH; rw [e1, hs]; rfl
  unfold pV
  rw [f0, f1]
  unfold pH
  rw [hs]
  rfl
theorem pH_0 {W : WT} {p q : Nat} (h1 : pS W p = 0) : pH W p q = 0 := by
  unfold pH
  rw [h1]
  rfl
theorem pHs_le {W : WT} : ∀ (s p q : Nat), pHs W s p q ≤ 8
  | 0, _, _ => by show 0 ≤ 8; omega
  | s + 1, p, q => by
    have h0 := pHs_le (W := W) s (pO W p 0) q
    have h1 := pHs_le (W := W) s (pO W p 1) q
    show (if q = pO W p 0 then 4 else if q < pO W p 0 then pHs W s (pO W p 0) q / 2 else 0) + (if q = pO W p 1 then 4 else if q < pO W p 1 then pHs W s (pO W p 1) q / 2 else 0) ≤ 8
    have a0 : (if q = pO W p 0 then 4 else if q < pO W p 0 then pHs W s (pO W p 0) q / 2 else 0) ≤ 4 := by
      split
      · omega
      · split <;> omega
    have a1 : (if q = pO W p 1 then 4 else if q < pO W p 1 then pHs W s (pO W p 1) q / 2 else 0) ≤ 4 := by
      split
      · omega
      · split <;> omega
    omega
theorem pH_le {W : WT} (p q : Nat) : pH W p q ≤ 8 := pHs_le _ _ _
/-! memory -/
theorem vx_u_at {g : vx_M} {k : Nat} {j v : Int} : vx_u g k j v k j = v := by simp [vx_u]
theorem vx_u_k {g : vx_M} {k a : Nat} {j v b : Int} (h : a ≠ k) : vx_u g k j v a b = g a b := by simp [vx_u, h]
theorem vx_u_j {g : vx_M} {k a : Nat} {j v b : Int} (h : b ≠ j) : vx_u g k j v a b = g a b := by simp [vx_u, h]
def vx_fill (g : vx_M) (k : Nat) (n v : Int) : vx_M := fun a b => if a = k then (if 0 ≤ b ∧ b < n then v else g a b) else g a b
def vx_half (g : vx_M) (kr sup : Nat) (i : Int) : vx_M := fun a b => if a = kr then (if b = sup then g a b + 4 else if 0 ≤ b ∧ b < i then g a b + g (6 + sup) b / 2 else g a b) else g a b

/-! WHERE ALL BEGINS -/
theorem vx_z_lt {g : vx_M} {k a : Nat} {b : Int} (h : a < k) : vx_z g k a b = g a b := if_neg (by omega)
theorem vx_z_ge {g : vx_M} {k a : Nat} {b : Int} (h : k ≤ a) : vx_z g k a b = 0 := if_pos h
theorem vx_fill_k {g : vx_M} {k a : Nat} {n v b : Int} (h : a ≠ k) : vx_fill g k n v a b = g a b := if_neg h
def s0 : SG := ((2, W0), (0, fun _ _ => 0), 10, none, (10, 15, 0))
theorem VS0 : VS s0 := by
  refine ⟨⟨⟨by decide, by decide⟩, W0_ok, by decide, by decide, fun p hp => absurd hp (Nat.not_lt_zero _), fun _ => Or.inl rfl, fun _ _ => rfl, by decide, by decide⟩, (fun r h => by cases h), ⟨by decide, by decide⟩, ⟨by decide, by decide⟩, by decide, by decide⟩
theorem b5_low {g : vx_M} {a : Nat} {b : Int} (h1 : 1 ≤ a) (h2 : a < 13) : bX5_init g a b = g a b := by
  unfold bX5_init gX0_init gX3_init gX2_init gX1_init
  repeat (first | rw [vx_u_k (by omega)] | rw [vx_z_lt (by omega)] | rw [vx_fill_k (by omega)])
theorem six {i : Nat} (h : i < 6) : i = 0 ∨ i = 1 ∨ i = 2 ∨ i = 3 ∨ i = 4 ∨ i = 5 := by omega
theorem RC0 {g g1 : vx_M} (h : HX4_init (vx_z g 1) g1) : RC s0 (bX5_init g1) := by
  obtain ⟨⟨t1, t2, t3, t4, t5⟩, hf⟩ := h
  have h7 : pF W0 2 ≤ 7 := by decide
  refine ⟨VS0, ⟨VS0.1, ⟨?_, ?_, ?_, ?_, ?_⟩, ⟨?_, ?_⟩, ?_, ?_⟩, Or.inl ⟨rfl, ?_, ?_⟩, ?_, ?_, ?_, ?_⟩
  · rw [b5_low (by omega) (by omega)]; exact t1
  · rw [b5_low (by omega) (by omega)]; exact t2
  · intro s hs; rw [b5_low (by omega) (by omega)]; exact t3 s hs
  · intro s hs; rw [b5_low (by omega) (by omega)]; exact t4 s hs
  · intro p q hp hq
    have hp : p < pF W0 2 := hp
    rw [b5_low (by omega) (by omega)]; exact t5 p q hp hq
  · simp [bX5_init, gX0_init, gX3_init, gX2_init, gX1_init, vx_fill, vx_u, vx_z]; rfl
  · intro i p hi hp
    show bX5_init g1 (14 + i) p = 0
    rcases six hi with rfl | rfl | rfl | rfl | rfl | rfl <;> simp [bX5_init, gX0_init, gX3_init, gX2_init, gX1_init, vx_fill, vx_u, vx_z]
  · simp [bX5_init, gX0_init, gX3_init, gX2_init, gX1_init, vx_fill, vx_u, vx_z]; rfl
  · intro t ht
    rw [b5_low (by omega) (by omega), hf 2 t (by omega) (by omega) (by omega) (by omega)]
    match t, ht with
    | 0, _ => rfl
    | 1, _ => rfl
    | 2, _ => rfl
    | 3, _ => rfl
  · simp [bX5_init, gX0_init, gX3_init, gX2_init, gX1_init, vx_fill, vx_u, vx_z]
  · intro i hi
    unfold bX5_init
    show (if (39 : Nat) = 39 then _ else _) = _
    rw [if_pos rfl, if_pos (by omega)]
  · intro x hx
    simp [bX5_init, gX0_init, gX3_init, gX2_init, gX1_init, vx_fill, vx_u, vx_z]
  · simp [bX5_init, gX0_init, gX3_init, gX2_init, gX1_init, vx_fill, vx_u, vx_z]; rfl
  · simp [bX5_init, gX0_init, gX3_init, gX2_init, gX1_init, vx_fill, vx_u, vx_z]; rfl
  · simp [bX5_init, gX0_init, gX3_init, gX2_init, gX1_init, vx_fill, vx_u, vx_z]; rfl
theorem b6_low {g : vx_M} {a : Nat} {b : Int} (h2 : a < 40) : bX6_init g a b = g a b := by
  unfold bX6_init
  repeat (first | rw [vx_u_k (by omega)] | rw [vx_z_lt (by omega)])
theorem RM0 {g g1 : vx_M} (h : TQ W0 2 3 g1) (hf : fr_P (bX6_init (vx_z g 40)) g1) : RM s0 g1 := by
  obtain ⟨q1, q2, q3, q4⟩ := h
  refine ⟨VS0, ⟨VS0.1, q1, q2, q3, ?_, ?_, ?_, q4⟩, Or.inl ⟨rfl, ?_⟩, ?_, ?_, ?_⟩
  · rw [hf.2 _ (by omega)]; simp [bX6_init, vx_u, vx_z]; rfl
  · intro i p hi hp
    rw [hf.1 _ _ (by omega) (by omega) (by omega) (by omega)]
    show bX6_init (vx_z g 40) (42 + i) p = 0
    rcases six hi with rfl | rfl | rfl | rfl | rfl | rfl <;> simp [bX6_init, vx_u, vx_z]
  · rw [hf.2 _ (by omega)]; simp [bX6_init, vx_u, vx_z]; rfl
  · rw [hf.2 _ (by omega)]; simp [bX6_init, vx_u, vx_z]
  · rw [hf.2 _ (by omega)]; simp [bX6_init, vx_u, vx_z]; rfl
  · rw [hf.2 _ (by omega)]; simp [bX6_init, vx_u, vx_z]; rfl
  · rw [hf.2 _ (by omega)]; simp [bX6_init, vx_u, vx_z]; rfl
theorem q_SH : q_93 = SH := rfl
theorem kX6_init {l : Launch} {d : Nat} (g : vx_M) : vx_Cv l mX6_init (vx_rm (d + 1) 18 184) (fun k => k < q_57.length) 18 184 [.inr (some 40)] q_57 g (vx_pv SH (fun g' => TQ W0 2 3 g' ∧ fr_P (bX6_init g) g')) := by
  rw [← q_SH]
  refine kX6_initQ g ?_
  rw [q_SH]
  exact m_findPlaces (h := 2) _ W0 W0_ok (by decide) (by decide) (by decide) rfl (fun t ht => by
    match t, ht with
    | 0, _ => rfl
    | 1, _ => rfl
    | 2, _ => rfl
    | 3, _ => rfl)
/-! each side keeps what the other holds -/
theorem RC.keep {σ : SG} {g g' : vx_M} (h : RC σ g) (hf : ∀ a b, a < 40 → g' a b = g a b) : RC σ g' := by
  obtain ⟨h1, h2, h3, h4, h5, h6, h7⟩ := h
  refine ⟨h1, h2.frame (fun a b _ hb => hf a b (by omega)), ?_, fun x hx => by rw [hf _ _ (by omega)]; exact h4 x hx, by rw [hf _ _ (by omega)]; exact h5, by rw [hf _ _ (by omega)]; exact h6, by rw [hf _ _ (by omega)]; exact h7⟩
  rcases h3 with ⟨a, b, c⟩ | ⟨r, a, b, c⟩
  · exact Or.inl ⟨a, by rw [hf _ _ (by omega)]; exact b, fun i hi => by rw [hf _ _ (by omega)]; exact c i hi⟩
  · exact Or.inr ⟨r, a, by rw [hf _ _ (by omega)]; exact b, c.1, fun i hi => by rw [hf _ _ (by omega)]; exact c.2 i hi⟩
theorem RM.keep {σ : SG} {g g' : vx_M} (h : RM σ g) (hf : ∀ a b, 40 ≤ a → g' a b = g a b) : RM σ g' := by
  have e : ∀ a, 40 ≤ a → g' a = g a := fun a ha => funext fun b => hf a b ha
  obtain ⟨h1, ⟨b1, b2, b3, b4, b5, b6, b7, b8⟩, h3, h5, h6, h7⟩ := h
  refine ⟨h1, ⟨b1, by rw [e _ (by omega)]; exact b2, by rw [e _ (by omega)]; exact b3, fun t ht => by rw [e _ (by omega)]; exact b4 t ht, by rw [e _ (by omega)]; exact b5, fun i p hi hp => by rw [e _ (by omega)]; exact b6 i p hi hp, by rw [e _ (by omega)]; exact b7, ?_⟩, ?_, by rw [e _ (by omega)]; exact h5, by rw [e _ (by omega)]; exact h6, by rw [e _ (by omega)]; exact h7⟩
  · unfold TM at b8 ⊢
    simp only [e 48 (by omega), e 49 (by omega), e 50 (by omega)]
    exact b8
  · rcases h3 with ⟨a, b⟩ | ⟨r, a, b, c⟩
    · exact Or.inl ⟨a, by rw [e _ (by omega)]; exact b⟩
    · exact Or.inr ⟨r, a, by rw [e _ (by omega)]; exact b, c.1, fun i hi => by rw [e _ (by omega)]; exact c.2 i hi⟩
/-! points grow by at most 1000 a call -/
theorem st_storeys {σ : SG} {v : Int} : sT (f_storeys σ v).2 ≤ sT σ + 1000 := by
  have e : sT (f_storeys σ v).2 = sT σ := by unfold f_storeys; (repeat' split) <;> rfl
  omega
theorem st_width {σ : SG} {v w : Int} : sT (f_width σ v w).2 ≤ sT σ + 1000 := by
  have e : sT (f_width σ v w).2 = sT σ := by unfold f_width; (repeat' split) <;> rfl
  omega
theorem st_person {σ : SG} {v w x y z : Int} : sT (f_person σ v w x y z).2 ≤ sT σ + 1000 := by
  have e : sT (f_person σ v w x y z).2 = sT σ := by unfold f_person; (repeat' split) <;> rfl
  omega
theorem st_out {σ : SG} {v w : Int} : sT (f_out σ v w).2 ≤ sT σ + 1000 := by
  have e : sT (f_out σ v w).2 = sT σ := by unfold f_out; (repeat' split) <;> rfl
  omega
theorem st_play {σ : SG} {v : Int} : sT (f_play σ v).2 ≤ sT σ + 1000 := by
  have e : sT (f_play σ v).2 = sT σ := by unfold f_play; (repeat' split) <;> rfl
  omega
theorem st_same {σ : SG} {f : Int × SG} (e : f.2 = σ) : sT f.2 ≤ sT σ + 1000 := by rw [e]; omega
theorem st_fits {σ : SG} : sT (f_fits σ).2 ≤ sT σ + 1000 := st_same rfl
theorem st_level {σ : SG} : sT (f_level σ).2 ≤ sT σ + 1000 := st_same rfl
theorem st_close {σ : SG} : sT (f_close σ).2 ≤ sT σ + 1000 := st_same rfl
theorem st_take {σ : SG} {v : Int} : sT (f_take σ v).2 ≤ sT σ + 1000 := by
  have e : sT (f_take σ v).2 = sT σ := by unfold f_take; (repeat' split) <;> rfl
  omega
theorem st_at {σ : SG} {v : Int} : sT (f_at σ v).2 ≤ sT σ + 1000 := by
  have e : sT (f_at σ v).2 = sT σ := by unfold f_at; (repeat' split) <;> rfl
  omega
theorem st_load {σ : SG} {v : Int} : sT (f_load σ v).2 ≤ sT σ + 1000 := by
  have e : sT (f_load σ v).2 = sT σ := by unfold f_load; (repeat' split) <;> rfl
  omega
theorem st_swap {σ : SG} {v w : Int} : sT (f_swap σ v w).2 ≤ sT σ + 1000 := by
  have e : sT (f_swap σ v w).2 = sT σ := by unfold f_swap cif; (repeat' split) <;> rfl
  omega
theorem st_tick {σ : SG} {v : Int} : sT (f_tick σ v).2 ≤ sT σ + 1000 := by
  have e : sT (f_tick σ v).2 = sT σ := by unfold f_tick; (repeat' split) <;> rfl
  omega
theorem st_weak {σ : SG} : sT (f_weak σ).2 ≤ sT σ + 1000 := by
  have e : sT (f_weak σ).2 = sT σ := by unfold f_weak; (repeat' split) <;> rfl
  omega
theorem st_effort {σ : SG} {v w : Int} : sT (f_effort σ v w).2 ≤ sT σ + 1000 := by
  have e : sT (f_effort σ v w).2 = sT σ := by unfold f_effort; (repeat' split) <;> rfl
  omega
theorem st_worths {σ : SG} {v w : Int} : sT (f_worths σ v w).2 ≤ sT σ + 1000 := by
  have e : sT (f_worths σ v w).2 = sT σ := by unfold f_worths; (repeat' split) <;> rfl
  omega
theorem st_attempt {σ : SG} (h : VS σ) : sT (f_attempt σ).2 ≤ sT σ + 1000 := by
  have h1 := h.2.2.1
  have h2 := h.2.2.2.1
  unfold f_attempt
  split
  · show sT σ ≤ sT σ + 1000; omega
  · rename_i r _
    show sT σ + pnt σ r ≤ sT σ + 1000
    unfold pnt
    (repeat' split) <;> omega
theorem st_count {σ : SG} {v : Int} : sT (f_count σ v).2 ≤ sT σ + 1000 := st_same rfl

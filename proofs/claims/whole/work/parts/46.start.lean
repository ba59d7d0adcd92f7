theorem arr_ov {b : Nat} {s : State} (hts : ∀ w ∈ lw_tbl, w.before #[Value.ref b] s = true) : (Cond.arrayOver (.array .int)).before #[Value.ref b] s = true := hts _ (List.mem_of_getElem? (i := 54) (by decide +kernel))
theorem nest_w {b : Nat} {s : State} (hts : ∀ w ∈ lw_tbl, w.before #[Value.ref b] s = true) : (Cond.methodLinkNest "PeopleTower" 18 yX1_init "PeopleTower").before #[Value.ref b] s = true := hts _ (List.mem_of_getElem? (i := 110) (by decide +kernel))
theorem law_known {b : Nat} {s : State} (hts0 : ∀ w ∈ lw_tbl, w.before #[Value.ref b] s = true) : ∃ (D : va_G) (cs : vx_Cs), va_K D vwCl (vx_t cs) s ∧ vx_N s := by
  have hts : ∀ w ∈ vx_tb, w.before #[Value.ref b] s = true := fun w hw => hts0 w (List.mem_filter.mp hw).1
  obtain ⟨c0, i0, k0⟩ := u_known hts cl_X0.2.1 (hts _ in_X0)
  obtain ⟨c1, i1, k1⟩ := u_known hts cl_X1.2.1 (hts _ in_X1)
  obtain ⟨c2, i2, k2⟩ := u_known hts cl_X2.2.1 (hts _ in_X2)
  obtain ⟨c3, i3, k3⟩ := u_known hts cl_X3.2.1 (hts _ in_X3)
  obtain ⟨c4, i4, k4⟩ := u_known hts cl_X4.2.1 (hts _ in_X4)
  obtain ⟨c5, i5, k5⟩ := u_known hts cl_X5.2.1 (hts _ in_X5)
  obtain ⟨c6, i6, k6⟩ := u_known hts cl_X6.2.1 (hts _ in_X6)
  obtain ⟨cI, kI, pI, fI, gI, hI⟩ := Cond.arrayClass_spec (hts _ ar_int)
  obtain ⟨cZ, kZ, pZ, fZ, gZ, hZ⟩ := Cond.arrayClass_spec (hts _ ar_boolean)
  obtain ⟨pA, cA, kA, fA, gA, hA, nA⟩ := Cond.arrayOver_specA (arr_ov hts0)
  refine ⟨(fun k => match k with | 0 => c0 | 1 => c1 | 2 => c2 | 3 => c3 | 4 => c4 | 5 => c5 | _ => c6, fun k => match k with | 0 => i0 | 1 => i1 | 2 => i2 | 3 => i3 | 4 => i4 | 5 => i5 | _ => i6), (cI, cZ, cA), ⟨fun k q hq => ?_, fun k q hq => ?_⟩, va_Nw.of rfl (nest_w hts0), ?_⟩
  · match k, hq with
    | 0, hq => cases hq; exact k0
    | 1, hq => cases hq; exact k1
    | 2, hq => cases hq; exact k2
    | 3, hq => cases hq; exact k3
    | 4, hq => cases hq; exact k4
    | 5, hq => cases hq; exact k5
    | 6, hq => cases hq; exact k6
    | k + 7, hq => simp at hq
  · match k, hq with
    | 0, hq => cases hq; exact ⟨fun n z => ⟨fun k h => (by cases h), kI, gI, pI, hI⟩, fI⟩
    | 1, hq => cases hq; exact ⟨fun n z => ⟨fun k h => (by cases h), kZ, gZ, pZ, hZ⟩, fZ⟩
    | 2, hq => cases hq; exact ⟨fun n z => ⟨fun k h => (by cases h), kA, gA, pA, hA⟩, nA⟩
    | k + 3, hq => simp [vx_t] at hq
  · exact over_moved (Vm.Alike.refl s.vm) (arr_ov hts0)
set_option maxHeartbeats 4000000 in
set_option maxRecDepth 100000 in
/-- THE LAW, from its entry -/
theorem whole_start {p : Program} {e : Env} {s : State} {m : MethodId} {below : List Frame} {meth : Method} {c : Code} (l : Launch) {b L : Nat} {xs : Nat → Int32} (hL : L ≤ 3072) (C0 : lw_At p s m meth c b L xs) : W p l e room_1 s m #[Value.ref b] below meth c s.heap [] 0 0 (lw_Z below #[Value.ref b] s) (entryFrame m ([Value.ref b] : List Value).toArray 4) := by
  obtain ⟨hx, hb, hr, hml, hown, hts0, hX, hbl, hlocks, hgv⟩ := id C0
  obtain ⟨D, cs, hK, hKN⟩ := law_known hts0
  have C : lwC p s m meth c b L xs D cs := ⟨C0, hK, hKN, hL⟩
  have w0 : lwV s D cs (fun _ => 0) [] (fun _ _ => 0) s.heap [] := ⟨fun k q h => by simp [vx_w] at h, ⟨fun i j p q h => by simp [vx_w] at h, fun k q h => by simp [vx_w] at h⟩, va_S.rf, fun _ _ => vx_in0⟩
  have hl := lv_entry ([.ref b]) (n := 4) (Nat.le_of_ble_eq_true rfl)
  rw [lg_entry_eq]
  generalize (lg_sl ([.ref b]) ++ List.replicate (4 - (lg_sl ([.ref b])).length) Slot.unset).toArray = ls at hl ⊢
  have hl : lv_has ls 4 [(0, .ref b)] := hl
  refine law_new (sh' := q_49) (k' := 0) [some none, some none, some none, some none, some none, some none, none, none, none, none] C w0 cl_X5 ck_L_7 in_X5 iz_X5 dL_law_0 (fun j hj => by match j, hj with | 0, _ => exact Or.inr ⟨rfl, rfl⟩ | 1, _ => exact Or.inr ⟨rfl, rfl⟩ | 2, _ => exact Or.inr ⟨rfl, rfl⟩ | 3, _ => exact Or.inr ⟨rfl, rfl⟩ | 4, _ => exact Or.inr ⟨rfl, rfl⟩ | 5, _ => exact Or.inr ⟨rfl, rfl⟩ | 6, _ => exact Or.inl ⟨rfl, rfl⟩ | 7, _ => exact Or.inl ⟨rfl, rfl⟩ | 8, _ => exact Or.inl ⟨rfl, rfl⟩ | 9, _ => exact Or.inl ⟨rfl, rfl⟩) ⟨Nat.le_of_ble_eq_true rfl, Nat.le_of_ble_eq_true rfl⟩ (fun i x h => by have := List.mem_of_getElem? h; simp at this) rfl rfl rfl (fun ad1 H1 a1 w1 => ?_)
  refine lv_dup hx hb dL_law_3 rfl ?_
  refine law_init C w1 hl 0 [.ref (ad1 0)] dL_law_4 mc_L_9 dn_X5_init rfl rfl (Nat.le_of_ble_eq_true rfl) ⟨Nat.le_of_ble_eq_true rfl, Nat.le_of_ble_eq_true rfl⟩ ⟨rfl, rfl⟩ ⟨Nat.le_of_ble_eq_true rfl, Nat.le_of_ble_eq_true rfl⟩ (kX5_initQ (d := 0) _) rfl (fun sh2 g2 ad2 H2 locs2 hp a2 w2 => ?_)
  obtain ⟨e2, -, g3, hX4, e3⟩ := hp
  subst e2
  subst e3
  refine lv_astore_n (lv' := [(1, .ref (ad1 0)), (0, .ref b)]) hx hb dL_law_7 rfl hl (by decide) rfl (fun ls hl => ?_)
  refine law_new (sh' := q_57) (k' := 40) [none, some none, none, some none, some none, some none, some none, some none, some none, none, none, some none, some none, some none, none, some none, some none, some none, none, none, some none, none, none, some none, some none, some none, some none, none, none, none, none, none] C w2 cl_X6 ck_L_10 in_X6 iz_X6 dL_law_8 (fun j hj => by match j, hj with | 0, _ => exact Or.inl ⟨rfl, rfl⟩ | 1, _ => exact Or.inr ⟨rfl, rfl⟩ | 2, _ => exact Or.inl ⟨rfl, rfl⟩ | 3, _ => exact Or.inr ⟨rfl, rfl⟩ | 4, _ => exact Or.inr ⟨rfl, rfl⟩ | 5, _ => exact Or.inr ⟨rfl, rfl⟩ | 6, _ => exact Or.inr ⟨rfl, rfl⟩ | 7, _ => exact Or.inr ⟨rfl, rfl⟩ | 8, _ => exact Or.inr ⟨rfl, rfl⟩ | 9, _ => exact Or.inl ⟨rfl, rfl⟩ | 10, _ => exact Or.inl ⟨rfl, rfl⟩ | 11, _ => exact Or.inr ⟨rfl, rfl⟩ | 12, _ => exact Or.inr ⟨rfl, rfl⟩ | 13, _ => exact Or.inr ⟨rfl, rfl⟩ | 14, _ => exact Or.inl ⟨rfl, rfl⟩ | 15, _ => exact Or.inr ⟨rfl, rfl⟩ | 16, _ => exact Or.inr ⟨rfl, rfl⟩ | 17, _ => exact Or.inr ⟨rfl, rfl⟩ | 18, _ => exact Or.inl ⟨rfl, rfl⟩ | 19, _ => exact Or.inl ⟨rfl, rfl⟩ | 20, _ => exact Or.inr ⟨rfl, rfl⟩ | 21, _ => exact Or.inl ⟨rfl, rfl⟩ | 22, _ => exact Or.inl ⟨rfl, rfl⟩ | 23, _ => exact Or.inr ⟨rfl, rfl⟩ | 24, _ => exact Or.inr ⟨rfl, rfl⟩ | 25, _ => exact Or.inr ⟨rfl, rfl⟩ | 26, _ => exact Or.inr ⟨rfl, rfl⟩ | 27, _ => exact Or.inl ⟨rfl, rfl⟩ | 28, _ => exact Or.inl ⟨rfl, rfl⟩ | 29, _ => exact Or.inl ⟨rfl, rfl⟩ | 30, _ => exact Or.inl ⟨rfl, rfl⟩ | 31, _ => exact Or.inl ⟨rfl, rfl⟩ | n + 32, h => exact absurd h (Nat.not_lt.mpr (Nat.le_add_left 32 n))) ⟨Nat.le_of_ble_eq_true rfl, Nat.le_of_ble_eq_true rfl⟩ (fun i x h => by have := List.mem_of_getElem? h; simp at this) rfl rfl rfl (fun ad3 H3 a3 w3 => ?_)
  refine lv_dup hx hb dL_law_11 rfl ?_
  refine law_init C w3 hl 40 [.ref (ad3 40)] dL_law_12 mc_L_12 dn_X6_init rfl rfl (Nat.le_of_ble_eq_true rfl) ⟨Nat.le_of_ble_eq_true rfl, Nat.le_of_ble_eq_true rfl⟩ ⟨rfl, rfl⟩ ⟨Nat.le_of_ble_eq_true rfl, Nat.le_of_ble_eq_true rfl⟩ (kX6_init (d := 0) _) rfl (fun sh4 g4 ad4 H4 locs4 hp a4 w4 => ?_)
  obtain ⟨e4, -, hq, hfP⟩ := hp
  subst e4
  refine lv_astore_n (lv' := [(2, .ref (ad3 40)), (1, .ref (ad1 0)), (0, .ref b)]) hx hb dL_law_15 rfl hl (by decide) rfl (fun ls hl => ?_)
  refine lv_iconst (v := 0) hx hb dL_law_16 (by decide) ?_
  refine lv_istore_n (lv' := [(3, .int 0), (2, .ref (ad3 40)), (1, .ref (ad1 0)), (0, .ref b)]) hx hb dL_law_17 rfl hl (by decide) rfl (fun ls hl => ?_)
  have b0 : ad1 0 = ad4 0 := by rw [a4 0 (Nat.le_of_ble_eq_true rfl), a3 0 (by omega), a2 0 (Nat.le_of_ble_eq_true rfl)]
  have b4 : ad3 40 = ad4 40 := (a4 40 (Nat.le_of_ble_eq_true rfl)).symm
  refine W.widen (k := 600000) (n := 7302250) (Nat.le_of_ble_eq_true rfl) (Nat.le_of_ble_eq_true rfl) ?_
  refine law_loop C (L + 1) 0 (Nat.zero_le L) (by omega) s0 g4 H4 locs4 ls (by decide) w4 ((RC0 hX4).keep (fun a b ha => ?_)) (RM0 hq hfP) ?_
  · rw [hfP.1 a b (by omega) (by omega) (by omega) (by omega), b6_low ha, vx_z_lt ha]
  · unfold lwL
    rw [nI_0, ← b0, ← b4]
    exact lv_sub hl [3, 2, 1, 0] rfl

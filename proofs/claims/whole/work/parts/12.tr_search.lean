set_option maxRecDepth 100000 in
theorem tX3_countFitting_0 {l : Launch} {d : Nat} {Q : Int → vx_M → Prop} (g : vx_M) (h : (∃ Q1 : vx_M → Prop, vNv l mX3_start d [.inr (some 21), .inl 1, .inl 0] SH g Q1 ∧ ∀ g1 : vx_M, Q1 g1 → Q (g1 21 12) g1)) : vN l mX3_countFitting (d + 1) (vx_pi SH Q) SH g 0 [some (.inr (some 21))] [] := by
  refine vr_aload_n 1 dX3_countFitting_0 rfl rfl rfl ?_
  refine vr_iconst 2 dX3_countFitting_1 rfl ⟨by decide, by decide⟩ ?_
  refine vr_iconst 3 dX3_countFitting_2 rfl ⟨by decide, by decide⟩ ?_
  obtain ⟨Q1, hq, h⟩ := h
  refine vr_callVv 6 [.inl 1, .inl 0] 21 [] dX3_countFitting_3 rfl mc_X3_59 dn_X3_start rfl rfl s_21 rfl (Nat.le_of_ble_eq_true rfl) (vx_rmR (by decide)) ⟨rfl, rfl⟩ ⟨Nat.le_refl _, Nat.le_refl _⟩ (fun _ _ => trivial) (fun _ _ => trivial) hq (fun sh9 g1 hp _ => ?_)
  obtain ⟨e9, -, hp⟩ := hp
  subst e9
  replace h := h g1 hp
  refine vr_aload_n 7 dX3_countFitting_6 rfl rfl rfl ?_
  refine vr_geti 10 12 12 cl_X3 fl_X3_44 (by decide) rfl dX3_countFitting_7 rfl s_21 rfl ?_
  exact vr_iret rfl (Nat.le_refl _) (Nat.le_refl _) dX3_countFitting_10 ⟨rfl, _, rfl, h⟩
theorem kX3_countFitting {l : Launch} {d : Nat} {Q : Int → vx_M → Prop} (g : vx_M) (h : (∃ Q1 : vx_M → Prop, vNv l mX3_start d [.inr (some 21), .inl 1, .inl 0] SH g Q1 ∧ ∀ g1 : vx_M, Q1 g1 → Q (g1 21 12) g1)) : vNi l mX3_countFitting (d + 1) [.inr (some 21)] SH g Q := vNi_of [some (.inr (some 21))] pn_X3 (Nat.le_of_ble_eq_true rfl) rfl (tX3_countFitting_0 g  h)
set_option maxRecDepth 100000 in
theorem tX3_seekLevel_0 {l : Launch} {d : Nat} {Q : Int → vx_M → Prop} (g : vx_M) (h : (∃ Q1 : vx_M → Prop, vNv l mX3_start d [.inr (some 21), .inl 0, .inl 0] SH g Q1 ∧ ∀ g1 : vx_M, Q1 g1 → (((g1 21 12) ≤ 0 → Q 0 g1) ∧ (¬ (g1 21 12) ≤ 0 → Q 1 g1)))) : vN l mX3_seekLevel (d + 1) (vx_pi SH Q) SH g 0 [some (.inr (some 21))] [] := by
  refine vr_aload_n 1 dX3_seekLevel_0 rfl rfl rfl ?_
  refine vr_iconst 2 dX3_seekLevel_1 rfl ⟨by decide, by decide⟩ ?_
  refine vr_iconst 3 dX3_seekLevel_2 rfl ⟨by decide, by decide⟩ ?_
  obtain ⟨Q1, hq, h⟩ := h
  refine vr_callVv 6 [.inl 0, .inl 0] 21 [] dX3_seekLevel_3 rfl mc_X3_59 dn_X3_start rfl rfl s_21 rfl (Nat.le_of_ble_eq_true rfl) (vx_rmR (by decide)) ⟨rfl, rfl⟩ ⟨Nat.le_refl _, Nat.le_refl _⟩ (fun _ _ => trivial) (fun _ _ => trivial) hq (fun sh9 g1 hp _ => ?_)
  obtain ⟨e9, -, hp⟩ := hp
  subst e9
  replace h := h g1 hp
  refine vr_aload_n 7 dX3_seekLevel_6 rfl rfl rfl ?_
  refine vr_geti 10 12 12 cl_X3 fl_X3_44 (by decide) rfl dX3_seekLevel_7 rfl s_21 rfl ?_
  refine vr_if_le 17 13 dX3_seekLevel_10 rfl rfl (fun c => ?_) (fun c => ?_)
  · replace h := h.1 c
    refine vr_iconst 18 dX3_seekLevel_17 rfl ⟨by decide, by decide⟩ ?_
    exact vr_zret rfl (Nat.le_refl _) (Nat.le_refl _) dX3_seekLevel_18 (by decide) ⟨rfl, _, rfl, h⟩
  · replace h := h.2 c
    refine vr_iconst 14 dX3_seekLevel_13 rfl ⟨by decide, by decide⟩ ?_
    refine vr_goto 18 dX3_seekLevel_14 rfl ?_
    exact vr_zret rfl (Nat.le_refl _) (Nat.le_refl _) dX3_seekLevel_18 (by decide) ⟨rfl, _, rfl, h⟩
theorem kX3_seekLevel {l : Launch} {d : Nat} {Q : Int → vx_M → Prop} (g : vx_M) (h : (∃ Q1 : vx_M → Prop, vNv l mX3_start d [.inr (some 21), .inl 0, .inl 0] SH g Q1 ∧ ∀ g1 : vx_M, Q1 g1 → (((g1 21 12) ≤ 0 → Q 0 g1) ∧ (¬ (g1 21 12) ≤ 0 → Q 1 g1)))) : vNi l mX3_seekLevel (d + 1) [.inr (some 21)] SH g Q := vNi_of [some (.inr (some 21))] pn_X3 (Nat.le_of_ble_eq_true rfl) rfl (tX3_seekLevel_0 g  h)
set_option maxRecDepth 100000 in
theorem tX3_seekClose_0 {l : Launch} {d : Nat} {Q : Int → vx_M → Prop} (g : vx_M) (h : (∃ Q1 : vx_M → Prop, vNv l mX3_start d [.inr (some 21), .inl 0, .inl 1000] SH (vx_cp g 39 34 0 0 7) Q1 ∧ ∀ g1 : vx_M, Q1 g1 → (((g1 21 12) ≤ 0 → Q 0 g1) ∧ (¬ (g1 21 12) ≤ 0 → Q 1 g1)))) : vN l mX3_seekClose (d + 1) (vx_pi SH Q) SH g 0 [some (.inr (some 21)), some (.inr (some 39))] [] := by
  refine vr_aload_n 1 dX3_seekClose_0 rfl rfl rfl ?_
  refine vr_iconst 2 dX3_seekClose_1 rfl ⟨by decide, by decide⟩ ?_
  refine vr_aload_n 3 dX3_seekClose_2 rfl rfl rfl ?_
  refine vr_getr 6 7 cl_X3 fl_X3_27 (by decide) dX3_seekClose_3 rfl s_21 rfl ?_
  refine vr_iconst 7 dX3_seekClose_6 rfl ⟨by decide, by decide⟩ ?_
  refine vr_bipush 9 dX3_seekClose_7 rfl (by decide) ⟨by decide, by decide⟩ ?_
  refine vr_acopy 12 dX3_seekClose_9 rfl mc_X3_63 ac_1 ac_2 ac_3 s_39 s_34 (by decide) (by decide) (by decide) (by decide) (by decide) (by show 1 ≤ d + 1; omega) (by show _ + (7 + 11) ≤ 40 * (d + 1); simp only [List.length_cons, List.length_nil]; omega) ?_
  refine vr_aload_n 13 dX3_seekClose_12 rfl rfl rfl ?_
  refine vr_iconst 14 dX3_seekClose_13 rfl ⟨by decide, by decide⟩ ?_
  refine vr_sipush 17 dX3_seekClose_14 rfl (by decide) ⟨by decide, by decide⟩ ?_
  obtain ⟨Q1, hq, h⟩ := h
  refine vr_callVv 20 [.inl 0, .inl 1000] 21 [] dX3_seekClose_17 rfl mc_X3_59 dn_X3_start rfl rfl s_21 rfl (Nat.le_of_ble_eq_true rfl) (vx_rmR (by decide)) ⟨rfl, rfl⟩ ⟨Nat.le_refl _, Nat.le_refl _⟩ (fun _ _ => trivial) (fun _ _ => trivial) hq (fun sh9 g1 hp _ => ?_)
  obtain ⟨e9, -, hp⟩ := hp
  subst e9
  replace h := h g1 hp
  refine vr_aload_n 21 dX3_seekClose_20 rfl rfl rfl ?_
  refine vr_geti 24 12 12 cl_X3 fl_X3_44 (by decide) rfl dX3_seekClose_21 rfl s_21 rfl ?_
  refine vr_if_le 31 27 dX3_seekClose_24 rfl rfl (fun c => ?_) (fun c => ?_)
  · replace h := h.1 c
    refine vr_iconst 32 dX3_seekClose_31 rfl ⟨by decide, by decide⟩ ?_
    exact vr_zret rfl (Nat.le_refl _) (Nat.le_refl _) dX3_seekClose_32 (by decide) ⟨rfl, _, rfl, h⟩
  · replace h := h.2 c
    refine vr_iconst 28 dX3_seekClose_27 rfl ⟨by decide, by decide⟩ ?_
    refine vr_goto 32 dX3_seekClose_28 rfl ?_
    exact vr_zret rfl (Nat.le_refl _) (Nat.le_refl _) dX3_seekClose_32 (by decide) ⟨rfl, _, rfl, h⟩
theorem kX3_seekClose {l : Launch} {d : Nat} {Q : Int → vx_M → Prop} (g : vx_M) (h : (∃ Q1 : vx_M → Prop, vNv l mX3_start d [.inr (some 21), .inl 0, .inl 1000] SH (vx_cp g 39 34 0 0 7) Q1 ∧ ∀ g1 : vx_M, Q1 g1 → (((g1 21 12) ≤ 0 → Q 0 g1) ∧ (¬ (g1 21 12) ≤ 0 → Q 1 g1)))) : vNi l mX3_seekClose (d + 1) [.inr (some 21), .inr (some 39)] SH g Q := vNi_of [some (.inr (some 21)), some (.inr (some 39))] pn_X3 (Nat.le_of_ble_eq_true rfl) rfl (tX3_seekClose_0 g  h)
set_option maxRecDepth 100000 in
theorem tX3_uneven_0 {l : Launch} {d : Nat} {Q : Int → vx_M → Prop} (g : vx_M) (h : (0 ≤ (g 21 11)) ∧ Q ((g 21 11) % 1000) g) : vN l mX3_uneven d (vx_pi SH Q) SH g 0 [some (.inr (some 21))] [] := by
  refine vr_aload_n 1 dX3_uneven_0 rfl rfl rfl ?_
  refine vr_geti 4 11 11 cl_X3 fl_X3_41 (by decide) rfl dX3_uneven_1 rfl s_21 rfl ?_
  refine vr_sipush 7 dX3_uneven_4 rfl (by decide) ⟨by decide, by decide⟩ ?_
  obtain ⟨o1, h⟩ := h
  refine vr_irem 8 dX3_uneven_7 rfl o1 (by decide) ?_
  exact vr_iret rfl (Nat.le_refl _) (Nat.le_refl _) dX3_uneven_8 ⟨rfl, _, rfl, h⟩
theorem kX3_uneven {l : Launch} {d : Nat} {Q : Int → vx_M → Prop} (g : vx_M) (h : (0 ≤ (g 21 11)) ∧ Q ((g 21 11) % 1000) g) : vNi l mX3_uneven d [.inr (some 21)] SH g Q := vNi_of [some (.inr (some 21))] pn_X3 (Nat.le_of_ble_eq_true rfl) rfl (tX3_uneven_0 g  h)
set_option maxRecDepth 100000 in
theorem tX3_moves_0 {l : Launch} {d : Nat} {Q : Int → vx_M → Prop} (g : vx_M) (h : (0 ≤ (g 21 11)) ∧ Q ((g 21 11) / 1000) g) : vN l mX3_moves d (vx_pi SH Q) SH g 0 [some (.inr (some 21))] [] := by
  refine vr_aload_n 1 dX3_moves_0 rfl rfl rfl ?_
  refine vr_geti 4 11 11 cl_X3 fl_X3_41 (by decide) rfl dX3_moves_1 rfl s_21 rfl ?_
  refine vr_sipush 7 dX3_moves_4 rfl (by decide) ⟨by decide, by decide⟩ ?_
  obtain ⟨o1, h⟩ := h
  refine vr_idiv 8 dX3_moves_7 rfl o1 (by decide) ?_
  exact vr_iret rfl (Nat.le_refl _) (Nat.le_refl _) dX3_moves_8 ⟨rfl, _, rfl, h⟩
theorem kX3_moves {l : Launch} {d : Nat} {Q : Int → vx_M → Prop} (g : vx_M) (h : (0 ≤ (g 21 11)) ∧ Q ((g 21 11) / 1000) g) : vNi l mX3_moves d [.inr (some 21)] SH g Q := vNi_of [some (.inr (some 21))] pn_X3 (Nat.le_of_ble_eq_true rfl) rfl (tX3_moves_0 g  h)
set_option maxRecDepth 100000 in
theorem tX3_start_0 {l : Launch} {d : Nat} {Q : vx_M → Prop} (g : vx_M) (v1 v2 : Int) (h : (v1 = 0 ∨ v1 = 1) ∧ (∃ Q2 : vx_M → Prop, vNv l mX3_walk d [.inr (some 21), .inl 0, .inl 0, .inl 0, .inl 0] SH (vx_u (vx_u (vx_u (vx_u g 21 9 v1) 21 10 v2) 21 11 2147483647) 21 12 0) Q2 ∧ ∀ g2 : vx_M, Q2 g2 → Q g2)) : vN l mX3_start (d + 1) (vx_pv SH Q) SH g 0 [some (.inr (some 21)), some (.inl v1), some (.inl v2)] [] := by
  refine vr_aload_n 1 dX3_start_0 rfl rfl rfl ?_
  refine vr_iload_n 2 dX3_start_1 rfl rfl rfl ?_
  obtain ⟨o1, h⟩ := h
  refine vr_putz 5 9 9 cl_X3 fl_X3_33 (by decide) rfl rfl rfl o1 dX3_start_2 rfl s_21 rfl ?_
  refine vr_aload_n 6 dX3_start_5 rfl rfl rfl ?_
  refine vr_iload_n 7 dX3_start_6 rfl rfl rfl ?_
  refine vr_puti 10 10 10 cl_X3 fl_X3_37 (by decide) rfl rfl rfl dX3_start_7 rfl s_21 rfl ?_
  refine vr_aload_n 11 dX3_start_10 rfl rfl rfl ?_
  refine vr_ldc 13 2147483647 dX3_start_11 rfl ct_max ⟨by decide, by decide⟩ ?_
  refine vr_puti 16 11 11 cl_X3 fl_X3_41 (by decide) rfl rfl rfl dX3_start_13 rfl s_21 rfl ?_
  refine vr_aload_n 17 dX3_start_16 rfl rfl rfl ?_
  refine vr_iconst 18 dX3_start_17 rfl ⟨by decide, by decide⟩ ?_
  refine vr_puti 21 12 12 cl_X3 fl_X3_44 (by decide) rfl rfl rfl dX3_start_18 rfl s_21 rfl ?_
  refine vr_aload_n 22 dX3_start_21 rfl rfl rfl ?_
  refine vr_iconst 23 dX3_start_22 rfl ⟨by decide, by decide⟩ ?_
  refine vr_iconst 24 dX3_start_23 rfl ⟨by decide, by decide⟩ ?_
  refine vr_iconst 25 dX3_start_24 rfl ⟨by decide, by decide⟩ ?_
  refine vr_iconst 26 dX3_start_25 rfl ⟨by decide, by decide⟩ ?_
  obtain ⟨Q2, hq, h⟩ := h
  refine vr_callVv 29 [.inl 0, .inl 0, .inl 0, .inl 0] 21 [] dX3_start_26 rfl mc_X3_72 dn_X3_walk rfl rfl s_21 rfl (Nat.le_of_ble_eq_true rfl) (vx_rmR (by decide)) ⟨rfl, rfl⟩ ⟨Nat.le_refl _, Nat.le_refl _⟩ (fun _ _ => trivial) (fun _ _ => trivial) hq (fun sh9 g2 hp _ => ?_)
  obtain ⟨e9, -, hp⟩ := hp
  subst e9
  replace h := h g2 hp
  exact vr_vret rfl (Nat.le_refl _) (Nat.le_refl _) dX3_start_29 ⟨rfl, rfl, h⟩
theorem kX3_start {l : Launch} {d : Nat} {Q : vx_M → Prop} (g : vx_M) (v1 v2 : Int) (h : (v1 = 0 ∨ v1 = 1) ∧ (∃ Q2 : vx_M → Prop, vNv l mX3_walk d [.inr (some 21), .inl 0, .inl 0, .inl 0, .inl 0] SH (vx_u (vx_u (vx_u (vx_u g 21 9 v1) 21 10 v2) 21 11 2147483647) 21 12 0) Q2 ∧ ∀ g2 : vx_M, Q2 g2 → Q g2)) : vNv l mX3_start (d + 1) [.inr (some 21), .inl v1, .inl v2] SH g Q := vNv_of [some (.inr (some 21)), some (.inl v1), some (.inl v2)] pn_X3 (Nat.le_of_ble_eq_true rfl) rfl (tX3_start_0 g v1 v2 h)
set_option maxRecDepth 100000 in
theorem tX3_walk_0 {l : Launch} {d : Nat} {Q : vx_M → Prop} (g : vx_M) (v1 v2 v3 v4 : Int) (h : ((v1 < (g 1 5) → (0 ≤ v1 ∧ v1 < 7) ∧ (0 ≤ g 4 v1 ∧ g 4 v1 < 4) ∧ ((¬ v1 = (g 3 (g 4 v1)) → vN l mX3_walk (d + 1) (vx_pv SH Q) SH g 53 [some (.inr (some 21)), some (.inl v1), some (.inl v2), some (.inl v3), some (.inl v4), some (.inl (g 4 v1)), some (.inl 0), some (.inl 0), none, none, none, none, none] []) ∧ (v1 = (g 3 (g 4 v1)) → vN l mX3_walk (d + 1) (vx_pv SH Q) SH g 53 [some (.inr (some 21)), some (.inl v1), some (.inl v2), some (.inl v3), some (.inl v4), some (.inl (g 4 v1)), some (.inl 1), some (.inl 0), none, none, none, none, none] []))) ∧ (¬ v1 < (g 1 5) → (∃ Q3 : vx_M → Prop, vNv l mX3_arrive d [.inr (some 21), .inl v4] SH g Q3 ∧ ∀ g3 : vx_M, Q3 g3 → Q g3)))) : vN l mX3_walk (d + 1) (vx_pv SH Q) SH g 0 [some (.inr (some 21)), some (.inl v1), some (.inl v2), some (.inl v3), some (.inl v4), none, none, none, none, none, none, none, none] [] := by
  refine vr_iload_n 1 dX3_walk_0 rfl rfl rfl ?_
  refine vr_aload_n 2 dX3_walk_1 rfl rfl rfl ?_
  refine vr_getr 5 0 cl_X3 fl_X3_47 (by decide) dX3_walk_2 rfl s_21 rfl ?_
  refine vr_geti 8 5 5 cl_X4 fl_X3_76 (by decide) rfl dX3_walk_5 rfl s_1 rfl ?_
  refine vr_icmp_lt 18 11 dX3_walk_8 rfl rfl (fun c => ?_) (fun c => ?_)
  · replace h := h.1 c
    refine vr_aload_n 19 dX3_walk_18 rfl rfl rfl ?_
    refine vr_getr 22 0 cl_X3 fl_X3_47 (by decide) dX3_walk_19 rfl s_21 rfl ?_
    refine vr_getr 25 2 cl_X4 fl_X3_85 (by decide) dX3_walk_22 rfl s_1 rfl ?_
    refine vr_iload_n 26 dX3_walk_25 rfl rfl rfl ?_
    obtain ⟨o1, h⟩ := h
    refine vr_iald 27 dX3_walk_26 rfl s_4 o1.1 o1.2 ?_
    refine vr_istore 29 [some (.inr (some 21)), some (.inl v1), some (.inl v2), some (.inl v3), some (.inl v4), some (.inl (g 4 v1)), none, none, none, none, none, none, none] dX3_walk_27 rfl (by decide) rfl ?_
    refine vr_iload_n 30 dX3_walk_29 rfl rfl rfl ?_
    refine vr_aload_n 31 dX3_walk_30 rfl rfl rfl ?_
    refine vr_getr 34 0 cl_X3 fl_X3_47 (by decide) dX3_walk_31 rfl s_21 rfl ?_
    refine vr_getr 37 1 cl_X4 fl_X3_88 (by decide) dX3_walk_34 rfl s_1 rfl ?_
    refine vr_iload 39 dX3_walk_37 rfl rfl ?_
    obtain ⟨o2, h⟩ := h
    refine vr_iald 40 dX3_walk_39 rfl s_3 o2.1 o2.2 ?_
    refine vr_icmp_ne 47 43 dX3_walk_40 rfl rfl (fun c => ?_) (fun c => ?_)
    · replace h := h.1 c
      refine vr_iconst 48 dX3_walk_47 rfl ⟨by decide, by decide⟩ ?_
      refine vr_istore 50 [some (.inr (some 21)), some (.inl v1), some (.inl v2), some (.inl v3), some (.inl v4), some (.inl (g 4 v1)), some (.inl 0), none, none, none, none, none, none] dX3_walk_48 rfl (by decide) rfl ?_
      refine vr_iconst 51 dX3_walk_50 rfl ⟨by decide, by decide⟩ ?_
      refine vr_istore 53 [some (.inr (some 21)), some (.inl v1), some (.inl v2), some (.inl v3), some (.inl v4), some (.inl (g 4 v1)), some (.inl 0), some (.inl 0), none, none, none, none, none] dX3_walk_51 rfl (by decide) rfl ?_
      exact h
    · replace h := h.2 c
      refine vr_iconst 44 dX3_walk_43 rfl ⟨by decide, by decide⟩ ?_
      refine vr_goto 48 dX3_walk_44 rfl ?_
      refine vr_istore 50 [some (.inr (some 21)), some (.inl v1), some (.inl v2), some (.inl v3), some (.inl v4), some (.inl (g 4 v1)), some (.inl 1), none, none, none, none, none, none] dX3_walk_48 rfl (by decide) rfl ?_
      refine vr_iconst 51 dX3_walk_50 rfl ⟨by decide, by decide⟩ ?_
      refine vr_istore 53 [some (.inr (some 21)), some (.inl v1), some (.inl v2), some (.inl v3), some (.inl v4), some (.inl (g 4 v1)), some (.inl 1), some (.inl 0), none, none, none, none, none] dX3_walk_51 rfl (by decide) rfl ?_
      exact h
  · replace h := h.2 c
    refine vr_aload_n 12 dX3_walk_11 rfl rfl rfl ?_
    refine vr_iload 14 dX3_walk_12 rfl rfl ?_
    obtain ⟨Q3, hq, h⟩ := h
    refine vr_callVv 17 [.inl v4] 21 [] dX3_walk_14 rfl mc_X3_81 dn_X3_arrive rfl rfl s_21 rfl (Nat.le_of_ble_eq_true rfl) (vx_rmR (by decide)) ⟨rfl, rfl⟩ ⟨Nat.le_refl _, Nat.le_refl _⟩ (fun _ _ => trivial) (fun _ _ => trivial) hq (fun sh9 g3 hp _ => ?_)
    obtain ⟨e9, -, hp⟩ := hp
    subst e9
    replace h := h g3 hp
    exact vr_vret rfl (Nat.le_refl _) (Nat.le_refl _) dX3_walk_17 ⟨rfl, rfl, h⟩
theorem kX3_walk {l : Launch} {d : Nat} {Q : vx_M → Prop} (g : vx_M) (v1 v2 v3 v4 : Int) (h : ((v1 < (g 1 5) → (0 ≤ v1 ∧ v1 < 7) ∧ (0 ≤ g 4 v1 ∧ g 4 v1 < 4) ∧ ((¬ v1 = (g 3 (g 4 v1)) → vN l mX3_walk (d + 1) (vx_pv SH Q) SH g 53 [some (.inr (some 21)), some (.inl v1), some (.inl v2), some (.inl v3), some (.inl v4), some (.inl (g 4 v1)), some (.inl 0), some (.inl 0), none, none, none, none, none] []) ∧ (v1 = (g 3 (g 4 v1)) → vN l mX3_walk (d + 1) (vx_pv SH Q) SH g 53 [some (.inr (some 21)), some (.inl v1), some (.inl v2), some (.inl v3), some (.inl v4), some (.inl (g 4 v1)), some (.inl 1), some (.inl 0), none, none, none, none, none] []))) ∧ (¬ v1 < (g 1 5) → (∃ Q3 : vx_M → Prop, vNv l mX3_arrive d [.inr (some 21), .inl v4] SH g Q3 ∧ ∀ g3 : vx_M, Q3 g3 → Q g3)))) : vNv l mX3_walk (d + 1) [.inr (some 21), .inl v1, .inl v2, .inl v3, .inl v4] SH g Q := vNv_of [some (.inr (some 21)), some (.inl v1), some (.inl v2), some (.inl v3), some (.inl v4), none, none, none, none, none, none, none, none] pn_X3 (Nat.le_of_ble_eq_true rfl) rfl (tX3_walk_0 g v1 v2 v3 v4 h)
set_option maxRecDepth 100000 in
theorem tX3_walk_53 {l : Launch} {d : Nat} {Q : vx_M → Prop} (g : vx_M) (v1 v2 v3 v4 v5 v6 v7 : Int) (h : (((g 13 6) ≤ v7 → Q g) ∧ (¬ (g 13 6) ≤ v7 → (0 ≤ v7 ∧ v7 < 8) ∧ ((¬ (g 33 v7) = 0 → vx_in (v7 + 1) ∧ vN l mX3_walk (d + 1) (vx_pv SH Q) SH g 53 [some (.inr (some 21)), some (.inl v1), some (.inl v2), some (.inl v3), some (.inl v4), some (.inl v5), some (.inl v6), some (.inl (v7 + 1)), none, none, none, none, none] []) ∧ ((g 33 v7) = 0 → (∃ Q3 : Int → vx_M → Prop, vNi l mX2_goesTo d [.inr (some 20), .inl v7, .inl v5] SH g Q3 ∧ ∀ (r3 : Int) (g3 : vx_M), Q3 r3 g3 → ((¬ r3 = 0 → (0 ≤ v7 ∧ v7 < 8) ∧ ((v6 = 0 → vN l mX3_walk (d + 1) (vx_pv SH Q) SH g3 120 [some (.inr (some 21)), some (.inl v1), some (.inl v2), some (.inl v3), some (.inl v4), some (.inl v5), some (.inl v6), some (.inl v7), some (.inl (g3 14 v7)), none, none, none, none] [.inl (min v2 (g3 14 v7))]) ∧ (¬ v6 = 0 → vN l mX3_walk (d + 1) (vx_pv SH Q) SH g3 120 [some (.inr (some 21)), some (.inl v1), some (.inl v2), some (.inl v3), some (.inl v4), some (.inl v5), some (.inl v6), some (.inl v7), some (.inl (g3 14 v7)), none, none, none, none] [.inl (g3 14 v7)]))) ∧ (r3 = 0 → vx_in (v7 + 1) ∧ vN l mX3_walk (d + 1) (vx_pv SH Q) SH g3 53 [some (.inr (some 21)), some (.inl v1), some (.inl v2), some (.inl v3), some (.inl v4), some (.inl v5), some (.inl v6), some (.inl (v7 + 1)), none, none, none, none, none] [])))))))) : vN l mX3_walk (d + 1) (vx_pv SH Q) SH g 53 [some (.inr (some 21)), some (.inl v1), some (.inl v2), some (.inl v3), some (.inl v4), some (.inl v5), some (.inl v6), some (.inl v7), none, none, none, none, none] [] := by
  refine vr_iload 55 dX3_walk_53 rfl rfl ?_
  refine vr_aload_n 56 dX3_walk_55 rfl rfl rfl ?_
  refine vr_getr 59 1 cl_X3 fl_X3_51 (by decide) dX3_walk_56 rfl s_21 rfl ?_
  refine vr_geti 62 6 6 cl_X1 fl_X3_91 (by decide) rfl dX3_walk_59 rfl s_13 rfl ?_
  refine vr_icmp_ge 230 65 dX3_walk_62 rfl rfl (fun c => ?_) (fun c => ?_)
  · replace h := h.1 c
    exact vr_vret rfl (Nat.le_refl _) (Nat.le_refl _) dX3_walk_230 ⟨rfl, rfl, h⟩
  · replace h := h.2 c
    refine vr_aload_n 66 dX3_walk_65 rfl rfl rfl ?_
    refine vr_getr 69 6 cl_X3 fl_X3_23 (by decide) dX3_walk_66 rfl s_21 rfl ?_
    refine vr_iload 71 dX3_walk_69 rfl rfl ?_
    obtain ⟨o1, h⟩ := h
    refine vr_zald 72 dX3_walk_71 rfl s_33 o1.1 o1.2 ?_
    refine vr_if_ne 224 75 dX3_walk_72 rfl rfl (fun c => ?_) (fun c => ?_)
    · replace h := h.1 c
      obtain ⟨o2, h⟩ := h
      refine vr_iinc 227 [some (.inr (some 21)), some (.inl v1), some (.inl v2), some (.inl v3), some (.inl v4), some (.inl v5), some (.inl v6), some (.inl (v7 + 1)), none, none, none, none, none] dX3_walk_224 rfl rfl o2 (by decide) rfl ?_
      refine vr_goto 53 dX3_walk_227 rfl ?_
      exact h
    · replace h := h.2 c
      refine vr_aload_n 76 dX3_walk_75 rfl rfl rfl ?_
      refine vr_getr 79 2 cl_X3 fl_X3_55 (by decide) dX3_walk_76 rfl s_21 rfl ?_
      refine vr_iload 81 dX3_walk_79 rfl rfl ?_
      refine vr_iload 83 dX3_walk_81 rfl rfl ?_
      obtain ⟨Q3, hq, h⟩ := h
      refine vr_callVi 86 [.inl v7, .inl v5] 20 [] dX3_walk_83 rfl mc_X3_96 dn_X2_goesTo rfl rfl s_20 rfl (Nat.le_of_ble_eq_true rfl) (vx_rmR (by decide)) ⟨rfl, rfl⟩ ⟨Nat.le_refl _, Nat.le_refl _⟩ (fun _ _ => trivial) (fun _ _ => trivial) hq (fun r3 sh9 g3 hp _ _ => ?_)
      obtain ⟨e9, z9, e8, hp⟩ := hp
      subst e9
      cases e8
      replace h := h r3 g3 hp
      refine vr_if_ne 92 89 dX3_walk_86 rfl rfl (fun c => ?_) (fun c => ?_)
      · replace h := h.1 c
        refine vr_aload_n 93 dX3_walk_92 rfl rfl rfl ?_
        refine vr_getr 96 1 cl_X3 fl_X3_51 (by decide) dX3_walk_93 rfl s_21 rfl ?_
        refine vr_getr 99 0 cl_X1 fl_X3_102 (by decide) dX3_walk_96 rfl s_13 rfl ?_
        refine vr_iload 101 dX3_walk_99 rfl rfl ?_
        obtain ⟨o4, h⟩ := h
        refine vr_iald 102 dX3_walk_101 rfl s_14 o4.1 o4.2 ?_
        refine vr_istore 104 [some (.inr (some 21)), some (.inl v1), some (.inl v2), some (.inl v3), some (.inl v4), some (.inl v5), some (.inl v6), some (.inl v7), some (.inl (g3 14 v7)), none, none, none, none] dX3_walk_102 rfl (by decide) rfl ?_
        refine vr_iload 106 dX3_walk_104 rfl rfl ?_
        refine vr_if_eq 114 109 dX3_walk_106 rfl rfl (fun c => ?_) (fun c => ?_)
        · replace h := h.1 c
          refine vr_iload_n 115 dX3_walk_114 rfl rfl rfl ?_
          refine vr_iload 117 dX3_walk_115 rfl rfl ?_
          refine vr_mmin 120 dX3_walk_117 rfl mc_X3_105 ma_min_1 ma_ini ma_min_2 (by show 1 ≤ d + 1; omega) (by show _ + 13 ≤ 40 * (d + 1); simp only [List.length_cons, List.length_nil]; omega) ⟨Nat.le_refl _, Nat.le_refl _⟩ ?_
          exact h
        · replace h := h.2 c
          refine vr_iload 111 dX3_walk_109 rfl rfl ?_
          refine vr_goto 120 dX3_walk_111 rfl ?_
          exact h
      · replace h := h.2 c
        refine vr_goto 224 dX3_walk_89 rfl ?_
        obtain ⟨o5, h⟩ := h
        refine vr_iinc 227 [some (.inr (some 21)), some (.inl v1), some (.inl v2), some (.inl v3), some (.inl v4), some (.inl v5), some (.inl v6), some (.inl (v7 + 1)), none, none, none, none, none] dX3_walk_224 rfl rfl o5 (by decide) rfl ?_
        refine vr_goto 53 dX3_walk_227 rfl ?_
        exact h
set_option maxRecDepth 100000 in
theorem tX3_walk_120 {l : Launch} {d : Nat} {Q : vx_M → Prop} (g : vx_M) (v1 v2 v3 v4 v5 v6 v7 v8 w0 : Int) (h : ((v6 = 0 → vN l mX3_walk (d + 1) (vx_pv SH Q) SH g 138 [some (.inr (some 21)), some (.inl v1), some (.inl v2), some (.inl v3), some (.inl v4), some (.inl v5), some (.inl v6), some (.inl v7), some (.inl v8), some (.inl w0), none, none, none] [.inl (max v3 v8)]) ∧ (¬ v6 = 0 → vN l mX3_walk (d + 1) (vx_pv SH Q) SH g 138 [some (.inr (some 21)), some (.inl v1), some (.inl v2), some (.inl v3), some (.inl v4), some (.inl v5), some (.inl v6), some (.inl v7), some (.inl v8), some (.inl w0), none, none, none] [.inl v8]))) : vN l mX3_walk (d + 1) (vx_pv SH Q) SH g 120 [some (.inr (some 21)), some (.inl v1), some (.inl v2), some (.inl v3), some (.inl v4), some (.inl v5), some (.inl v6), some (.inl v7), some (.inl v8), none, none, none, none] [.inl w0] := by
  refine vr_istore 122 [some (.inr (some 21)), some (.inl v1), some (.inl v2), some (.inl v3), some (.inl v4), some (.inl v5), some (.inl v6), some (.inl v7), some (.inl v8), some (.inl w0), none, none, none] dX3_walk_120 rfl (by decide) rfl ?_
  refine vr_iload 124 dX3_walk_122 rfl rfl ?_
  refine vr_if_eq 132 127 dX3_walk_124 rfl rfl (fun c => ?_) (fun c => ?_)
  · replace h := h.1 c
    refine vr_iload_n 133 dX3_walk_132 rfl rfl rfl ?_
    refine vr_iload 135 dX3_walk_133 rfl rfl ?_
    refine vr_mmax 138 dX3_walk_135 rfl mc_X3_111 ma_max_1 ma_ini ma_max_2 (by show 1 ≤ d + 1; omega) (by show _ + 13 ≤ 40 * (d + 1); simp only [List.length_cons, List.length_nil]; omega) ⟨Nat.le_refl _, Nat.le_refl _⟩ ?_
    exact h
  · replace h := h.2 c
    refine vr_iload 129 dX3_walk_127 rfl rfl ?_
    refine vr_goto 138 dX3_walk_129 rfl ?_
    exact h
set_option maxRecDepth 100000 in
theorem tX3_walk_138 {l : Launch} {d : Nat} {Q : vx_M → Prop} (g : vx_M) (v1 v2 v3 v4 v5 v6 v7 v8 v9 w0 : Int) (h : ((v6 = 0 → vx_in (w0 - v9) ∧ vx_in (v3 - v2) ∧ vx_in ((w0 - v9) - (v3 - v2)) ∧ vN l mX3_walk (d + 1) (vx_pv SH Q) SH g 158 [some (.inr (some 21)), some (.inl v1), some (.inl v2), some (.inl v3), some (.inl v4), some (.inl v5), some (.inl v6), some (.inl v7), some (.inl v8), some (.inl v9), some (.inl w0), none, none] [.inl ((w0 - v9) - (v3 - v2))]) ∧ (¬ v6 = 0 → vN l mX3_walk (d + 1) (vx_pv SH Q) SH g 158 [some (.inr (some 21)), some (.inl v1), some (.inl v2), some (.inl v3), some (.inl v4), some (.inl v5), some (.inl v6), some (.inl v7), some (.inl v8), some (.inl v9), some (.inl w0), none, none] [.inl 0]))) : vN l mX3_walk (d + 1) (vx_pv SH Q) SH g 138 [some (.inr (some 21)), some (.inl v1), some (.inl v2), some (.inl v3), some (.inl v4), some (.inl v5), some (.inl v6), some (.inl v7), some (.inl v8), some (.inl v9), none, none, none] [.inl w0] := by
  refine vr_istore 140 [some (.inr (some 21)), some (.inl v1), some (.inl v2), some (.inl v3), some (.inl v4), some (.inl v5), some (.inl v6), some (.inl v7), some (.inl v8), some (.inl v9), some (.inl w0), none, none] dX3_walk_138 rfl (by decide) rfl ?_
  refine vr_iload 142 dX3_walk_140 rfl rfl ?_
  refine vr_if_eq 149 145 dX3_walk_142 rfl rfl (fun c => ?_) (fun c => ?_)
  · replace h := h.1 c
    refine vr_iload 151 dX3_walk_149 rfl rfl ?_
    refine vr_iload 153 dX3_walk_151 rfl rfl ?_
    obtain ⟨o1, h⟩ := h
    refine vr_isub 154 dX3_walk_153 rfl o1 ?_
    refine vr_iload_n 155 dX3_walk_154 rfl rfl rfl ?_
    refine vr_iload_n 156 dX3_walk_155 rfl rfl rfl ?_
    obtain ⟨o2, h⟩ := h
    refine vr_isub 157 dX3_walk_156 rfl o2 ?_
    obtain ⟨o3, h⟩ := h
    refine vr_isub 158 dX3_walk_157 rfl o3 ?_
    exact h
  · replace h := h.2 c
    refine vr_iconst 146 dX3_walk_145 rfl ⟨by decide, by decide⟩ ?_
    refine vr_goto 158 dX3_walk_146 rfl ?_
    exact h
set_option maxRecDepth 100000 in
theorem tX3_walk_158 {l : Launch} {d : Nat} {Q : vx_M → Prop} (g : vx_M) (v1 v2 v3 v4 v5 v6 v7 v8 v9 v10 w0 : Int) (h : vx_in (v4 + w0) ∧ (0 ≤ v1 ∧ v1 < 7) ∧ ((¬ v7 = (g 34 v1) → vN l mX3_walk (d + 1) (vx_pv SH Q) SH g 184 [some (.inr (some 21)), some (.inl v1), some (.inl v2), some (.inl v3), some (.inl v4), some (.inl v5), some (.inl v6), some (.inl v7), some (.inl v8), some (.inl v9), some (.inl v10), some (.inl w0), none] [.inl (g 21 10), .inl (v4 + w0)]) ∧ (v7 = (g 34 v1) → vN l mX3_walk (d + 1) (vx_pv SH Q) SH g 184 [some (.inr (some 21)), some (.inl v1), some (.inl v2), some (.inl v3), some (.inl v4), some (.inl v5), some (.inl v6), some (.inl v7), some (.inl v8), some (.inl v9), some (.inl v10), some (.inl w0), none] [.inl 0, .inl (v4 + w0)]))) : vN l mX3_walk (d + 1) (vx_pv SH Q) SH g 158 [some (.inr (some 21)), some (.inl v1), some (.inl v2), some (.inl v3), some (.inl v4), some (.inl v5), some (.inl v6), some (.inl v7), some (.inl v8), some (.inl v9), some (.inl v10), none, none] [.inl w0] := by
  refine vr_istore 160 [some (.inr (some 21)), some (.inl v1), some (.inl v2), some (.inl v3), some (.inl v4), some (.inl v5), some (.inl v6), some (.inl v7), some (.inl v8), some (.inl v9), some (.inl v10), some (.inl w0), none] dX3_walk_158 rfl (by decide) rfl ?_
  refine vr_iload 162 dX3_walk_160 rfl rfl ?_
  refine vr_iload 164 dX3_walk_162 rfl rfl ?_
  obtain ⟨o1, h⟩ := h
  refine vr_iadd 165 dX3_walk_164 rfl o1 ?_
  refine vr_iload 167 dX3_walk_165 rfl rfl ?_
  refine vr_aload_n 168 dX3_walk_167 rfl rfl rfl ?_
  refine vr_getr 171 7 cl_X3 fl_X3_27 (by decide) dX3_walk_168 rfl s_21 rfl ?_
  refine vr_iload_n 172 dX3_walk_171 rfl rfl rfl ?_
  obtain ⟨o2, h⟩ := h
  refine vr_iald 173 dX3_walk_172 rfl s_34 o2.1 o2.2 ?_
  refine vr_icmp_ne 180 176 dX3_walk_173 rfl rfl (fun c => ?_) (fun c => ?_)
  · replace h := h.1 c
    refine vr_aload_n 181 dX3_walk_180 rfl rfl rfl ?_
    refine vr_geti 184 10 10 cl_X3 fl_X3_37 (by decide) rfl dX3_walk_181 rfl s_21 rfl ?_
    exact h
  · replace h := h.2 c
    refine vr_iconst 177 dX3_walk_176 rfl ⟨by decide, by decide⟩ ?_
    refine vr_goto 184 dX3_walk_177 rfl ?_
    exact h
set_option maxRecDepth 100000 in
theorem tX3_walk_184 {l : Launch} {d : Nat} {Q : vx_M → Prop} (g : vx_M) (v1 v2 v3 v4 v5 v6 v7 v8 v9 v10 v11 w0 w1 : Int) (h : vx_in (w1 + w0) ∧ vx_in (v10 - v9) ∧ (((g 20 2) < (v10 - v9) → vx_in (v7 + 1) ∧ vN l mX3_walk (d + 1) (vx_pv SH Q) SH g 53 [some (.inr (some 21)), some (.inl v1), some (.inl v2), some (.inl v3), some (.inl v4), some (.inl v5), some (.inl v6), some (.inl (v7 + 1)), none, none, none, none, none] []) ∧ (¬ (g 20 2) < (v10 - v9) → (((g 21 11) ≤ (w1 + w0) → vx_in (v7 + 1) ∧ vN l mX3_walk (d + 1) (vx_pv SH Q) SH g 53 [some (.inr (some 21)), some (.inl v1), some (.inl v2), some (.inl v3), some (.inl v4), some (.inl v5), some (.inl v6), some (.inl (v7 + 1)), none, none, none, none, none] []) ∧ (¬ (g 21 11) ≤ (w1 + w0) → (∃ Q5 : vx_M → Prop, vNv l mX3_goOnWith d [.inr (some 21), .inl v7, .inl v1, .inl v9, .inl v10, .inl (w1 + w0)] SH g Q5 ∧ ∀ g5 : vx_M, Q5 g5 → vx_in (v7 + 1) ∧ vN l mX3_walk (d + 1) (vx_pv SH Q) SH g5 53 [some (.inr (some 21)), some (.inl v1), some (.inl v2), some (.inl v3), some (.inl v4), some (.inl v5), some (.inl v6), some (.inl (v7 + 1)), none, none, none, none, none] [])))))) : vN l mX3_walk (d + 1) (vx_pv SH Q) SH g 184 [some (.inr (some 21)), some (.inl v1), some (.inl v2), some (.inl v3), some (.inl v4), some (.inl v5), some (.inl v6), some (.inl v7), some (.inl v8), some (.inl v9), some (.inl v10), some (.inl v11), none] [.inl w0, .inl w1] := by
  obtain ⟨o1, h⟩ := h
  refine vr_iadd 185 dX3_walk_184 rfl o1 ?_
  refine vr_istore 187 [some (.inr (some 21)), some (.inl v1), some (.inl v2), some (.inl v3), some (.inl v4), some (.inl v5), some (.inl v6), some (.inl v7), some (.inl v8), some (.inl v9), some (.inl v10), some (.inl v11), some (.inl (w1 + w0))] dX3_walk_185 rfl (by decide) rfl ?_
  refine vr_iload 189 dX3_walk_187 rfl rfl ?_
  refine vr_iload 191 dX3_walk_189 rfl rfl ?_
  obtain ⟨o2, h⟩ := h
  refine vr_isub 192 dX3_walk_191 rfl o2 ?_
  refine vr_aload_n 193 dX3_walk_192 rfl rfl rfl ?_
  refine vr_getr 196 2 cl_X3 fl_X3_55 (by decide) dX3_walk_193 rfl s_21 rfl ?_
  refine vr_geti 199 2 2 cl_X2 fl_X3_114 (by decide) rfl dX3_walk_196 rfl s_20 rfl ?_
  refine vr_icmp_gt 224 202 dX3_walk_199 rfl rfl (fun c => ?_) (fun c => ?_)
  · replace h := h.1 c
    obtain ⟨o3, h⟩ := h
    refine vr_iinc 227 [some (.inr (some 21)), some (.inl v1), some (.inl v2), some (.inl v3), some (.inl v4), some (.inl v5), some (.inl v6), some (.inl (v7 + 1)), some (.inl v8), some (.inl v9), some (.inl v10), some (.inl v11), some (.inl (w1 + w0))] dX3_walk_224 rfl rfl o3 (by decide) rfl ?_
    refine vr_goto 53 dX3_walk_227 rfl ?_
    exact vr_forget [some (.inr (some 21)), some (.inl v1), some (.inl v2), some (.inl v3), some (.inl v4), some (.inl v5), some (.inl v6), some (.inl (v7 + 1)), none, none, none, none, none] (vx_sub.get _ _ ⟨rfl, ⟨rfl, ⟨rfl, ⟨rfl, ⟨rfl, ⟨rfl, ⟨rfl, ⟨rfl, trivial⟩⟩⟩⟩⟩⟩⟩⟩) h
  · replace h := h.2 c
    refine vr_iload 204 dX3_walk_202 rfl rfl ?_
    refine vr_aload_n 205 dX3_walk_204 rfl rfl rfl ?_
    refine vr_geti 208 11 11 cl_X3 fl_X3_41 (by decide) rfl dX3_walk_205 rfl s_21 rfl ?_
    refine vr_icmp_ge 224 211 dX3_walk_208 rfl rfl (fun c => ?_) (fun c => ?_)
    · replace h := h.1 c
      obtain ⟨o4, h⟩ := h
      refine vr_iinc 227 [some (.inr (some 21)), some (.inl v1), some (.inl v2), some (.inl v3), some (.inl v4), some (.inl v5), some (.inl v6), some (.inl (v7 + 1)), some (.inl v8), some (.inl v9), some (.inl v10), some (.inl v11), some (.inl (w1 + w0))] dX3_walk_224 rfl rfl o4 (by decide) rfl ?_
      refine vr_goto 53 dX3_walk_227 rfl ?_
      exact vr_forget [some (.inr (some 21)), some (.inl v1), some (.inl v2), some (.inl v3), some (.inl v4), some (.inl v5), some (.inl v6), some (.inl (v7 + 1)), none, none, none, none, none] (vx_sub.get _ _ ⟨rfl, ⟨rfl, ⟨rfl, ⟨rfl, ⟨rfl, ⟨rfl, ⟨rfl, ⟨rfl, trivial⟩⟩⟩⟩⟩⟩⟩⟩) h
    · replace h := h.2 c
      refine vr_aload_n 212 dX3_walk_211 rfl rfl rfl ?_
      refine vr_iload 214 dX3_walk_212 rfl rfl ?_
      refine vr_iload_n 215 dX3_walk_214 rfl rfl rfl ?_
      refine vr_iload 217 dX3_walk_215 rfl rfl ?_
      refine vr_iload 219 dX3_walk_217 rfl rfl ?_
      refine vr_iload 221 dX3_walk_219 rfl rfl ?_
      obtain ⟨Q5, hq, h⟩ := h
      refine vr_callVv 224 [.inl v7, .inl v1, .inl v9, .inl v10, .inl (w1 + w0)] 21 [] dX3_walk_221 rfl mc_X3_117 dn_X3_goOnWith rfl rfl s_21 rfl (Nat.le_of_ble_eq_true rfl) (vx_rmR (by decide)) ⟨rfl, rfl⟩ ⟨Nat.le_refl _, Nat.le_refl _⟩ (fun _ _ => trivial) (fun _ _ => trivial) hq (fun sh9 g5 hp _ => ?_)
      obtain ⟨e9, -, hp⟩ := hp
      subst e9
      replace h := h g5 hp
      obtain ⟨o6, h⟩ := h
      refine vr_iinc 227 [some (.inr (some 21)), some (.inl v1), some (.inl v2), some (.inl v3), some (.inl v4), some (.inl v5), some (.inl v6), some (.inl (v7 + 1)), some (.inl v8), some (.inl v9), some (.inl v10), some (.inl v11), some (.inl (w1 + w0))] dX3_walk_224 rfl rfl o6 (by decide) rfl ?_
      refine vr_goto 53 dX3_walk_227 rfl ?_
      exact vr_forget [some (.inr (some 21)), some (.inl v1), some (.inl v2), some (.inl v3), some (.inl v4), some (.inl v5), some (.inl v6), some (.inl (v7 + 1)), none, none, none, none, none] (vx_sub.get _ _ ⟨rfl, ⟨rfl, ⟨rfl, ⟨rfl, ⟨rfl, ⟨rfl, ⟨rfl, ⟨rfl, trivial⟩⟩⟩⟩⟩⟩⟩⟩) h
set_option maxRecDepth 100000 in
theorem tX3_goOnWith_0 {l : Launch} {d : Nat} {Q : vx_M → Prop} (g : vx_M) (v1 v2 v3 v4 v5 : Int) (h : (0 ≤ v2 ∧ v2 < 7) ∧ (∃ Q2 : Int → vx_M → Prop, vNi l mX2_mostLoad d [.inr (some 20), .inl v1] SH (vx_u g 22 v2 v1) Q2 ∧ ∀ (r2 : Int) (g2 : vx_M), Q2 r2 g2 → (0 ≤ v2 ∧ v2 < 7) ∧ (0 ≤ v1 ∧ v1 < 8) ∧ (∃ Q5 : Int → vx_M → Prop, vNi l mX3_bearsAlso d [.inr (some 21), .inl v2, .inl (g2 15 v1)] SH (vx_u g2 32 v2 r2) Q5 ∧ ∀ (r5 : Int) (g5 : vx_M), Q5 r5 g5 → ((r5 = 0 → Q g5) ∧ (¬ r5 = 0 → (0 ≤ v1 ∧ v1 < 8) ∧ vx_in (v2 + 1) ∧ (∃ Q8 : vx_M → Prop, vNv l mX3_walk d [.inr (some 21), .inl (v2 + 1), .inl v3, .inl v4, .inl v5] SH (vx_u g5 33 v1 1) Q8 ∧ ∀ g8 : vx_M, Q8 g8 → (0 ≤ v1 ∧ v1 < 8) ∧ Q (vx_u g8 33 v1 0))))))) : vN l mX3_goOnWith (d + 1) (vx_pv SH Q) SH g 0 [some (.inr (some 21)), some (.inl v1), some (.inl v2), some (.inl v3), some (.inl v4), some (.inl v5)] [] := by
  refine vr_aload_n 1 dX3_goOnWith_0 rfl rfl rfl ?_
  refine vr_getr 4 3 cl_X3 fl_X3_9 (by decide) dX3_goOnWith_1 rfl s_21 rfl ?_
  refine vr_iload_n 5 dX3_goOnWith_4 rfl rfl rfl ?_
  refine vr_iload_n 6 dX3_goOnWith_5 rfl rfl rfl ?_
  obtain ⟨o1, h⟩ := h
  refine vr_iast 7 dX3_goOnWith_6 rfl s_22 o1.1 o1.2 ?_
  refine vr_aload_n 8 dX3_goOnWith_7 rfl rfl rfl ?_
  refine vr_getr 11 5 cl_X3 fl_X3_20 (by decide) dX3_goOnWith_8 rfl s_21 rfl ?_
  refine vr_iload_n 12 dX3_goOnWith_11 rfl rfl rfl ?_
  refine vr_aload_n 13 dX3_goOnWith_12 rfl rfl rfl ?_
  refine vr_getr 16 2 cl_X3 fl_X3_55 (by decide) dX3_goOnWith_13 rfl s_21 rfl ?_
  refine vr_iload_n 17 dX3_goOnWith_16 rfl rfl rfl ?_
  obtain ⟨Q2, hq, h⟩ := h
  refine vr_callVi 20 [.inl v1] 20 [.inl v2, .inr (some 32)] dX3_goOnWith_17 rfl mc_X3_121 dn_X2_mostLoad rfl rfl s_20 rfl (Nat.le_of_ble_eq_true rfl) (vx_rmR (by decide)) ⟨rfl, rfl⟩ ⟨Nat.le_refl _, Nat.le_refl _⟩ (fun _ _ => trivial) (fun _ _ => trivial) hq (fun r2 sh9 g2 hp _ _ => ?_)
  obtain ⟨e9, z9, e8, hp⟩ := hp
  subst e9
  cases e8
  replace h := h r2 g2 hp
  obtain ⟨o3, h⟩ := h
  refine vr_iast 21 dX3_goOnWith_20 rfl s_32 o3.1 o3.2 ?_
  refine vr_aload_n 22 dX3_goOnWith_21 rfl rfl rfl ?_
  refine vr_iload_n 23 dX3_goOnWith_22 rfl rfl rfl ?_
  refine vr_aload_n 24 dX3_goOnWith_23 rfl rfl rfl ?_
  refine vr_getr 27 1 cl_X3 fl_X3_51 (by decide) dX3_goOnWith_24 rfl s_21 rfl ?_
  refine vr_getr 30 1 cl_X1 fl_X3_125 (by decide) dX3_goOnWith_27 rfl s_13 rfl ?_
  refine vr_iload_n 31 dX3_goOnWith_30 rfl rfl rfl ?_
  obtain ⟨o4, h⟩ := h
  refine vr_iald 32 dX3_goOnWith_31 rfl s_15 o4.1 o4.2 ?_
  obtain ⟨Q5, hq, h⟩ := h
  refine vr_callVi 35 [.inl v2, .inl (g2 15 v1)] 21 [] dX3_goOnWith_32 rfl mc_X3_128 dn_X3_bearsAlso rfl rfl s_21 rfl (Nat.le_of_ble_eq_true rfl) (vx_rmR (by decide)) ⟨rfl, rfl⟩ ⟨Nat.le_refl _, Nat.le_refl _⟩ (fun _ _ => trivial) (fun _ _ => trivial) hq (fun r5 sh9 g5 hp _ _ => ?_)
  obtain ⟨e9, z9, e8, hp⟩ := hp
  subst e9
  cases e8
  replace h := h r5 g5 hp
  refine vr_if_eq 64 38 dX3_goOnWith_35 rfl rfl (fun c => ?_) (fun c => ?_)
  · replace h := h.1 c
    exact vr_vret rfl (Nat.le_refl _) (Nat.le_refl _) dX3_goOnWith_64 ⟨rfl, rfl, h⟩
  · replace h := h.2 c
    refine vr_aload_n 39 dX3_goOnWith_38 rfl rfl rfl ?_
    refine vr_getr 42 6 cl_X3 fl_X3_23 (by decide) dX3_goOnWith_39 rfl s_21 rfl ?_
    refine vr_iload_n 43 dX3_goOnWith_42 rfl rfl rfl ?_
    refine vr_iconst 44 dX3_goOnWith_43 rfl ⟨by decide, by decide⟩ ?_
    obtain ⟨o6, h⟩ := h
    refine vr_zast 45 dX3_goOnWith_44 rfl s_33 o6.1 o6.2 (by decide) ?_
    refine vr_aload_n 46 dX3_goOnWith_45 rfl rfl rfl ?_
    refine vr_iload_n 47 dX3_goOnWith_46 rfl rfl rfl ?_
    refine vr_iconst 48 dX3_goOnWith_47 rfl ⟨by decide, by decide⟩ ?_
    obtain ⟨o7, h⟩ := h
    refine vr_iadd 49 dX3_goOnWith_48 rfl o7 ?_
    refine vr_iload_n 50 dX3_goOnWith_49 rfl rfl rfl ?_
    refine vr_iload 52 dX3_goOnWith_50 rfl rfl ?_
    refine vr_iload 54 dX3_goOnWith_52 rfl rfl ?_
    obtain ⟨Q8, hq, h⟩ := h
    refine vr_callVv 57 [.inl (v2 + 1), .inl v3, .inl v4, .inl v5] 21 [] dX3_goOnWith_54 rfl mc_X3_72 dn_X3_walk rfl rfl s_21 rfl (Nat.le_of_ble_eq_true rfl) (vx_rmR (by decide)) ⟨rfl, rfl⟩ ⟨Nat.le_refl _, Nat.le_refl _⟩ (fun _ _ => trivial) (fun _ _ => trivial) hq (fun sh9 g8 hp _ => ?_)
    obtain ⟨e9, -, hp⟩ := hp
    subst e9
    replace h := h g8 hp
    refine vr_aload_n 58 dX3_goOnWith_57 rfl rfl rfl ?_
    refine vr_getr 61 6 cl_X3 fl_X3_23 (by decide) dX3_goOnWith_58 rfl s_21 rfl ?_
    refine vr_iload_n 62 dX3_goOnWith_61 rfl rfl rfl ?_
    refine vr_iconst 63 dX3_goOnWith_62 rfl ⟨by decide, by decide⟩ ?_
    obtain ⟨o9, h⟩ := h
    refine vr_zast 64 dX3_goOnWith_63 rfl s_33 o9.1 o9.2 (by decide) ?_
    exact vr_vret rfl (Nat.le_refl _) (Nat.le_refl _) dX3_goOnWith_64 ⟨rfl, rfl, h⟩
theorem kX3_goOnWith {l : Launch} {d : Nat} {Q : vx_M → Prop} (g : vx_M) (v1 v2 v3 v4 v5 : Int) (h : (0 ≤ v2 ∧ v2 < 7) ∧ (∃ Q2 : Int → vx_M → Prop, vNi l mX2_mostLoad d [.inr (some 20), .inl v1] SH (vx_u g 22 v2 v1) Q2 ∧ ∀ (r2 : Int) (g2 : vx_M), Q2 r2 g2 → (0 ≤ v2 ∧ v2 < 7) ∧ (0 ≤ v1 ∧ v1 < 8) ∧ (∃ Q5 : Int → vx_M → Prop, vNi l mX3_bearsAlso d [.inr (some 21), .inl v2, .inl (g2 15 v1)] SH (vx_u g2 32 v2 r2) Q5 ∧ ∀ (r5 : Int) (g5 : vx_M), Q5 r5 g5 → ((r5 = 0 → Q g5) ∧ (¬ r5 = 0 → (0 ≤ v1 ∧ v1 < 8) ∧ vx_in (v2 + 1) ∧ (∃ Q8 : vx_M → Prop, vNv l mX3_walk d [.inr (some 21), .inl (v2 + 1), .inl v3, .inl v4, .inl v5] SH (vx_u g5 33 v1 1) Q8 ∧ ∀ g8 : vx_M, Q8 g8 → (0 ≤ v1 ∧ v1 < 8) ∧ Q (vx_u g8 33 v1 0))))))) : vNv l mX3_goOnWith (d + 1) [.inr (some 21), .inl v1, .inl v2, .inl v3, .inl v4, .inl v5] SH g Q := vNv_of [some (.inr (some 21)), some (.inl v1), some (.inl v2), some (.inl v3), some (.inl v4), some (.inl v5)] pn_X3 (Nat.le_of_ble_eq_true rfl) rfl (tX3_goOnWith_0 g v1 v2 v3 v4 v5 h)
set_option maxRecDepth 100000 in
theorem tX3_bearsAlso_0 {l : Launch} {d : Nat} {Q : Int → vx_M → Prop} (g : vx_M) (v1 v2 : Int) (h : (0 ≤ v1 ∧ v1 < 7) ∧ (0 ≤ v1 ∧ v1 < 8) ∧ vx_in (v1 + 1) ∧ (0 ≤ v1 + 1 ∧ v1 + 1 < 8) ∧ vN l mX3_bearsAlso d (vx_pi SH Q) SH g 31 [some (.inr (some 21)), some (.inl v1), some (.inl v2), some (.inr (some (6 + (v1).toNat))), some (.inr (some (24 + (v1).toNat))), some (.inr (some (24 + (v1 + 1).toNat))), some (.inl 0)] []) : vN l mX3_bearsAlso d (vx_pi SH Q) SH g 0 [some (.inr (some 21)), some (.inl v1), some (.inl v2), none, none, none, none] [] := by
  refine vr_aload_n 1 dX3_bearsAlso_0 rfl rfl rfl ?_
  refine vr_getr 4 0 cl_X3 fl_X3_47 (by decide) dX3_bearsAlso_1 rfl s_21 rfl ?_
  refine vr_getr 7 3 cl_X4 fl_X3_131 (by decide) dX3_bearsAlso_4 rfl s_1 rfl ?_
  refine vr_iload_n 8 dX3_bearsAlso_7 rfl rfl rfl ?_
  obtain ⟨o1, h⟩ := h
  refine vr_aald 9 (6 + (v1).toNat) dX3_bearsAlso_8 rfl s_5 o1.1 (ra_5 _ (by omega)) ?_
  refine vr_astore_n 10 [some (.inr (some 21)), some (.inl v1), some (.inl v2), some (.inr (some (6 + (v1).toNat))), none, none, none] dX3_bearsAlso_9 rfl rfl (by decide) rfl ?_
  refine vr_aload_n 11 dX3_bearsAlso_10 rfl rfl rfl ?_
  refine vr_getr 14 4 cl_X3 fl_X3_17 (by decide) dX3_bearsAlso_11 rfl s_21 rfl ?_
  refine vr_iload_n 15 dX3_bearsAlso_14 rfl rfl rfl ?_
  obtain ⟨o2, h⟩ := h
  refine vr_aald 16 (24 + (v1).toNat) dX3_bearsAlso_15 rfl s_23 o2.1 (ra_23 _ (by omega)) ?_
  refine vr_astore 18 [some (.inr (some 21)), some (.inl v1), some (.inl v2), some (.inr (some (6 + (v1).toNat))), some (.inr (some (24 + (v1).toNat))), none, none] dX3_bearsAlso_16 rfl (by decide) rfl ?_
  refine vr_aload_n 19 dX3_bearsAlso_18 rfl rfl rfl ?_
  refine vr_getr 22 4 cl_X3 fl_X3_17 (by decide) dX3_bearsAlso_19 rfl s_21 rfl ?_
  refine vr_iload_n 23 dX3_bearsAlso_22 rfl rfl rfl ?_
  refine vr_iconst 24 dX3_bearsAlso_23 rfl ⟨by decide, by decide⟩ ?_
  obtain ⟨o3, h⟩ := h
  refine vr_iadd 25 dX3_bearsAlso_24 rfl o3 ?_
  obtain ⟨o4, h⟩ := h
  refine vr_aald 26 (24 + (v1 + 1).toNat) dX3_bearsAlso_25 rfl s_23 o4.1 (ra_23 _ (by omega)) ?_
  refine vr_astore 28 [some (.inr (some 21)), some (.inl v1), some (.inl v2), some (.inr (some (6 + (v1).toNat))), some (.inr (some (24 + (v1).toNat))), some (.inr (some (24 + (v1 + 1).toNat))), none] dX3_bearsAlso_26 rfl (by decide) rfl ?_
  refine vr_iconst 29 dX3_bearsAlso_28 rfl ⟨by decide, by decide⟩ ?_
  refine vr_istore 31 [some (.inr (some 21)), some (.inl v1), some (.inl v2), some (.inr (some (6 + (v1).toNat))), some (.inr (some (24 + (v1).toNat))), some (.inr (some (24 + (v1 + 1).toNat))), some (.inl 0)] dX3_bearsAlso_29 rfl (by decide) rfl ?_
  exact h
theorem kX3_bearsAlso {l : Launch} {d : Nat} {Q : Int → vx_M → Prop} (g : vx_M) (v1 v2 : Int) (h : (0 ≤ v1 ∧ v1 < 7) ∧ (0 ≤ v1 ∧ v1 < 8) ∧ vx_in (v1 + 1) ∧ (0 ≤ v1 + 1 ∧ v1 + 1 < 8) ∧ vN l mX3_bearsAlso d (vx_pi SH Q) SH g 31 [some (.inr (some 21)), some (.inl v1), some (.inl v2), some (.inr (some (6 + (v1).toNat))), some (.inr (some (24 + (v1).toNat))), some (.inr (some (24 + (v1 + 1).toNat))), some (.inl 0)] []) : vNi l mX3_bearsAlso d [.inr (some 21), .inl v1, .inl v2] SH g Q := vNi_of [some (.inr (some 21)), some (.inl v1), some (.inl v2), none, none, none, none] pn_X3 (Nat.le_of_ble_eq_true rfl) rfl (tX3_bearsAlso_0 g v1 v2 h)
set_option maxRecDepth 100000 in
theorem tX3_bearsAlso_31 {l : Launch} {d : Nat} {Q : Int → vx_M → Prop} (g : vx_M) (v1 v2 v6 : Int) (h : (0 ≤ v1 ∧ v1 < 7) ∧ (0 ≤ v1 ∧ v1 < 8) ∧ (0 ≤ v1 + 1 ∧ v1 + 1 < 8) ∧ ((v1 ≤ v6 → (0 ≤ v1 ∧ v1 < 7) ∧ Q 1 (vx_u g (24 + (v1 + 1).toNat) v1 0)) ∧ (¬ v1 ≤ v6 → (0 ≤ v6 ∧ v6 < 7) ∧ (0 ≤ v6 ∧ v6 < 7) ∧ vx_in ((g (6 + (v1).toNat) v6) * v2) ∧ vx_in ((g (24 + (v1).toNat) v6) + ((g (6 + (v1).toNat) v6) * v2)) ∧ (0 ≤ v6 ∧ v6 < 7) ∧ (0 ≤ v6 ∧ v6 < 7) ∧ (0 ≤ v6 ∧ v6 < 7) ∧ ((((vx_u g (24 + (v1 + 1).toNat) v6 ((g (24 + (v1).toNat) v6) + ((g (6 + (v1).toNat) v6) * v2))) (24 + (v1 + 1).toNat) v6) ≤ ((vx_u g (24 + (v1 + 1).toNat) v6 ((g (24 + (v1).toNat) v6) + ((g (6 + (v1).toNat) v6) * v2))) 32 v6) → vx_in (v6 + 1) ∧ vN l mX3_bearsAlso d (vx_pi SH Q) SH (vx_u g (24 + (v1 + 1).toNat) v6 ((g (24 + (v1).toNat) v6) + ((g (6 + (v1).toNat) v6) * v2))) 31 [some (.inr (some 21)), some (.inl v1), some (.inl v2), some (.inr (some (6 + (v1).toNat))), some (.inr (some (24 + (v1).toNat))), some (.inr (some (24 + (v1 + 1).toNat))), some (.inl (v6 + 1))] []) ∧ (¬ ((vx_u g (24 + (v1 + 1).toNat) v6 ((g (24 + (v1).toNat) v6) + ((g (6 + (v1).toNat) v6) * v2))) (24 + (v1 + 1).toNat) v6) ≤ ((vx_u g (24 + (v1 + 1).toNat) v6 ((g (24 + (v1).toNat) v6) + ((g (6 + (v1).toNat) v6) * v2))) 32 v6) → Q 0 (vx_u g (24 + (v1 + 1).toNat) v6 ((g (24 + (v1).toNat) v6) + ((g (6 + (v1).toNat) v6) * v2)))))))) : vN l mX3_bearsAlso d (vx_pi SH Q) SH g 31 [some (.inr (some 21)), some (.inl v1), some (.inl v2), some (.inr (some (6 + (v1).toNat))), some (.inr (some (24 + (v1).toNat))), some (.inr (some (24 + (v1 + 1).toNat))), some (.inl v6)] [] := by
  obtain ⟨oo0, h⟩ := h
  obtain ⟨oo1, h⟩ := h
  obtain ⟨oo2, h⟩ := h
  refine vr_iload 33 dX3_bearsAlso_31 rfl rfl ?_
  refine vr_iload_n 34 dX3_bearsAlso_33 rfl rfl rfl ?_
  refine vr_icmp_ge 77 37 dX3_bearsAlso_34 rfl rfl (fun c => ?_) (fun c => ?_)
  · replace h := h.1 c
    refine vr_aload 79 dX3_bearsAlso_77 rfl rfl ?_
    refine vr_iload_n 80 dX3_bearsAlso_79 rfl rfl rfl ?_
    refine vr_iconst 81 dX3_bearsAlso_80 rfl ⟨by decide, by decide⟩ ?_
    obtain ⟨o1, h⟩ := h
    refine vr_iast 82 dX3_bearsAlso_81 rfl (s_lr _ (by omega : (v1 + 1).toNat < 8)) o1.1 o1.2 ?_
    refine vr_iconst 83 dX3_bearsAlso_82 rfl ⟨by decide, by decide⟩ ?_
    exact vr_zret rfl (Nat.le_refl _) (Nat.le_refl _) dX3_bearsAlso_83 (by decide) ⟨rfl, _, rfl, h⟩
  · replace h := h.2 c
    refine vr_aload 39 dX3_bearsAlso_37 rfl rfl ?_
    refine vr_iload 41 dX3_bearsAlso_39 rfl rfl ?_
    refine vr_aload 43 dX3_bearsAlso_41 rfl rfl ?_
    refine vr_iload 45 dX3_bearsAlso_43 rfl rfl ?_
    obtain ⟨o2, h⟩ := h
    refine vr_iald 46 dX3_bearsAlso_45 rfl (s_lr _ (by omega : (v1).toNat < 8)) o2.1 o2.2 ?_
    refine vr_aload_n 47 dX3_bearsAlso_46 rfl rfl rfl ?_
    refine vr_iload 49 dX3_bearsAlso_47 rfl rfl ?_
    obtain ⟨o3, h⟩ := h
    refine vr_iald 50 dX3_bearsAlso_49 rfl (s_sr _ (by omega : (v1).toNat < 7)) o3.1 o3.2 ?_
    refine vr_iload_n 51 dX3_bearsAlso_50 rfl rfl rfl ?_
    obtain ⟨o4, h⟩ := h
    refine vr_imul 52 dX3_bearsAlso_51 rfl o4 ?_
    obtain ⟨o5, h⟩ := h
    refine vr_iadd 53 dX3_bearsAlso_52 rfl o5 ?_
    obtain ⟨o6, h⟩ := h
    refine vr_iast 54 dX3_bearsAlso_53 rfl (s_lr _ (by omega : (v1 + 1).toNat < 8)) o6.1 o6.2 ?_
    refine vr_aload 56 dX3_bearsAlso_54 rfl rfl ?_
    refine vr_iload 58 dX3_bearsAlso_56 rfl rfl ?_
    obtain ⟨o7, h⟩ := h
    refine vr_iald 59 dX3_bearsAlso_58 rfl (s_lr _ (by omega : (v1 + 1).toNat < 8)) o7.1 o7.2 ?_
    refine vr_aload_n 60 dX3_bearsAlso_59 rfl rfl rfl ?_
    refine vr_getr 63 5 cl_X3 fl_X3_20 (by decide) dX3_bearsAlso_60 rfl s_21 rfl ?_
    refine vr_iload 65 dX3_bearsAlso_63 rfl rfl ?_
    obtain ⟨o8, h⟩ := h
    refine vr_iald 66 dX3_bearsAlso_65 rfl s_32 o8.1 o8.2 ?_
    refine vr_icmp_le 71 69 dX3_bearsAlso_66 rfl rfl (fun c => ?_) (fun c => ?_)
    · replace h := h.1 c
      obtain ⟨o9, h⟩ := h
      refine vr_iinc 74 [some (.inr (some 21)), some (.inl v1), some (.inl v2), some (.inr (some (6 + (v1).toNat))), some (.inr (some (24 + (v1).toNat))), some (.inr (some (24 + (v1 + 1).toNat))), some (.inl (v6 + 1))] dX3_bearsAlso_71 rfl rfl o9 (by decide) rfl ?_
      refine vr_goto 31 dX3_bearsAlso_74 rfl ?_
      exact h
    · replace h := h.2 c
      refine vr_iconst 70 dX3_bearsAlso_69 rfl ⟨by decide, by decide⟩ ?_
      exact vr_zret rfl (Nat.le_refl _) (Nat.le_refl _) dX3_bearsAlso_70 (by decide) ⟨rfl, _, rfl, h⟩
set_option maxRecDepth 100000 in
theorem tX3_arrive_0 {l : Launch} {d : Nat} {Q : vx_M → Prop} (g : vx_M) (v1 : Int) (h : vx_in ((g 21 12) + 1) ∧ ((¬ (g 21 9) = 0 → Q (vx_u g 21 12 ((g 21 12) + 1))) ∧ ((g 21 9) = 0 → Q (vx_cp (vx_u (vx_u g 21 12 ((g 21 12) + 1)) 21 11 v1) 22 35 0 0 7)))) : vN l mX3_arrive (d + 1) (vx_pv SH Q) SH g 0 [some (.inr (some 21)), some (.inl v1)] [] := by
  refine vr_aload_n 1 dX3_arrive_0 rfl rfl rfl ?_
  refine vr_dup 2 dX3_arrive_1 rfl ?_
  refine vr_geti 5 12 12 cl_X3 fl_X3_44 (by decide) rfl dX3_arrive_2 rfl s_21 rfl ?_
  refine vr_iconst 6 dX3_arrive_5 rfl ⟨by decide, by decide⟩ ?_
  obtain ⟨o1, h⟩ := h
  refine vr_iadd 7 dX3_arrive_6 rfl o1 ?_
  refine vr_puti 10 12 12 cl_X3 fl_X3_44 (by decide) rfl rfl rfl dX3_arrive_7 rfl s_21 rfl ?_
  refine vr_aload_n 11 dX3_arrive_10 rfl rfl rfl ?_
  refine vr_geti 14 9 9 cl_X3 fl_X3_33 (by decide) rfl dX3_arrive_11 rfl s_21 rfl ?_
  refine vr_if_ne 37 17 dX3_arrive_14 rfl rfl (fun c => ?_) (fun c => ?_)
  · replace h := h.1 c
    exact vr_vret rfl (Nat.le_refl _) (Nat.le_refl _) dX3_arrive_37 ⟨rfl, rfl, h⟩
  · replace h := h.2 c
    refine vr_aload_n 18 dX3_arrive_17 rfl rfl rfl ?_
    refine vr_iload_n 19 dX3_arrive_18 rfl rfl rfl ?_
    refine vr_puti 22 11 11 cl_X3 fl_X3_41 (by decide) rfl rfl rfl dX3_arrive_19 rfl s_21 rfl ?_
    refine vr_aload_n 23 dX3_arrive_22 rfl rfl rfl ?_
    refine vr_getr 26 3 cl_X3 fl_X3_9 (by decide) dX3_arrive_23 rfl s_21 rfl ?_
    refine vr_iconst 27 dX3_arrive_26 rfl ⟨by decide, by decide⟩ ?_
    refine vr_aload_n 28 dX3_arrive_27 rfl rfl rfl ?_
    refine vr_getr 31 8 cl_X3 fl_X3_30 (by decide) dX3_arrive_28 rfl s_21 rfl ?_
    refine vr_iconst 32 dX3_arrive_31 rfl ⟨by decide, by decide⟩ ?_
    refine vr_bipush 34 dX3_arrive_32 rfl (by decide) ⟨by decide, by decide⟩ ?_
    refine vr_acopy 37 dX3_arrive_34 rfl mc_X3_63 ac_1 ac_2 ac_3 s_22 s_35 (by decide) (by decide) (by decide) (by decide) (by decide) (by show 1 ≤ d + 1; omega) (by show _ + (7 + 11) ≤ 40 * (d + 1); simp only [List.length_cons, List.length_nil]; omega) ?_
    exact vr_vret rfl (Nat.le_refl _) (Nat.le_refl _) dX3_arrive_37 ⟨rfl, rfl, h⟩
theorem kX3_arrive {l : Launch} {d : Nat} {Q : vx_M → Prop} (g : vx_M) (v1 : Int) (h : vx_in ((g 21 12) + 1) ∧ ((¬ (g 21 9) = 0 → Q (vx_u g 21 12 ((g 21 12) + 1))) ∧ ((g 21 9) = 0 → Q (vx_cp (vx_u (vx_u g 21 12 ((g 21 12) + 1)) 21 11 v1) 22 35 0 0 7)))) : vNv l mX3_arrive (d + 1) [.inr (some 21), .inl v1] SH g Q := vNv_of [some (.inr (some 21)), some (.inl v1)] pn_X3 (Nat.le_of_ble_eq_true rfl) rfl (tX3_arrive_0 g v1 h)

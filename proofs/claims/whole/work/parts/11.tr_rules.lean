set_option maxRecDepth 100000 in
theorem tX1_add_0 {l : Launch} {d : Nat} {Q : Int → vx_M → Prop} (g : vx_M) (v1 v2 v3 v4 v5 : Int) (h : (((g 13 6) < 8 → (0 ≤ g 13 6 ∧ g 13 6 < 8) ∧ (0 ≤ g 13 6 ∧ g 13 6 < 8) ∧ (0 ≤ g 13 6 ∧ g 13 6 < 8) ∧ (0 ≤ g 13 6 ∧ g 13 6 < 8) ∧ (0 ≤ g 13 6 ∧ g 13 6 < 8) ∧ (0 ≤ g 13 6 ∧ g 13 6 < 8) ∧ vx_in ((g 13 6) + 1) ∧ Q (g 13 6) (vx_u (vx_u (vx_u (vx_u (vx_u (vx_u (vx_u g 14 (g 13 6) v1) 15 (g 13 6) v2) 16 (g 13 6) v3) 17 (g 13 6) v4) 18 (g 13 6) v5) 19 (g 13 6) 0) 13 6 ((g 13 6) + 1))) ∧ (¬ (g 13 6) < 8 → Q (-5) g))) : vN l mX1_add d (vx_pi SH Q) SH g 0 [some (.inr (some 13)), some (.inl v1), some (.inl v2), some (.inl v3), some (.inl v4), some (.inl v5)] [] := by
  refine vr_aload_n 1 dX1_add_0 rfl rfl rfl ?_
  refine vr_geti 4 6 6 cl_X1 fl_X1_31 (by decide) rfl dX1_add_1 rfl s_13 rfl ?_
  refine vr_bipush 6 dX1_add_4 rfl (by decide) ⟨by decide, by decide⟩ ?_
  refine vr_icmp_lt 12 9 dX1_add_6 rfl rfl (fun c => ?_) (fun c => ?_)
  · replace h := h.1 c
    refine vr_aload_n 13 dX1_add_12 rfl rfl rfl ?_
    refine vr_getr 16 0 cl_X1 fl_X1_9 (by decide) dX1_add_13 rfl s_13 rfl ?_
    refine vr_aload_n 17 dX1_add_16 rfl rfl rfl ?_
    refine vr_geti 20 6 6 cl_X1 fl_X1_31 (by decide) rfl dX1_add_17 rfl s_13 rfl ?_
    refine vr_iload_n 21 dX1_add_20 rfl rfl rfl ?_
    obtain ⟨o1, h⟩ := h
    refine vr_iast 22 dX1_add_21 rfl s_14 o1.1 o1.2 ?_
    refine vr_aload_n 23 dX1_add_22 rfl rfl rfl ?_
    refine vr_getr 26 1 cl_X1 fl_X1_15 (by decide) dX1_add_23 rfl s_13 rfl ?_
    refine vr_aload_n 27 dX1_add_26 rfl rfl rfl ?_
    refine vr_geti 30 6 6 cl_X1 fl_X1_31 (by decide) rfl dX1_add_27 rfl s_13 rfl ?_
    refine vr_iload_n 31 dX1_add_30 rfl rfl rfl ?_
    obtain ⟨o2, h⟩ := h
    refine vr_iast 32 dX1_add_31 rfl s_15 o2.1 o2.2 ?_
    refine vr_aload_n 33 dX1_add_32 rfl rfl rfl ?_
    refine vr_getr 36 2 cl_X1 fl_X1_18 (by decide) dX1_add_33 rfl s_13 rfl ?_
    refine vr_aload_n 37 dX1_add_36 rfl rfl rfl ?_
    refine vr_geti 40 6 6 cl_X1 fl_X1_31 (by decide) rfl dX1_add_37 rfl s_13 rfl ?_
    refine vr_iload_n 41 dX1_add_40 rfl rfl rfl ?_
    obtain ⟨o3, h⟩ := h
    refine vr_iast 42 dX1_add_41 rfl s_16 o3.1 o3.2 ?_
    refine vr_aload_n 43 dX1_add_42 rfl rfl rfl ?_
    refine vr_getr 46 3 cl_X1 fl_X1_21 (by decide) dX1_add_43 rfl s_13 rfl ?_
    refine vr_aload_n 47 dX1_add_46 rfl rfl rfl ?_
    refine vr_geti 50 6 6 cl_X1 fl_X1_31 (by decide) rfl dX1_add_47 rfl s_13 rfl ?_
    refine vr_iload 52 dX1_add_50 rfl rfl ?_
    obtain ⟨o4, h⟩ := h
    refine vr_iast 53 dX1_add_52 rfl s_17 o4.1 o4.2 ?_
    refine vr_aload_n 54 dX1_add_53 rfl rfl rfl ?_
    refine vr_getr 57 4 cl_X1 fl_X1_24 (by decide) dX1_add_54 rfl s_13 rfl ?_
    refine vr_aload_n 58 dX1_add_57 rfl rfl rfl ?_
    refine vr_geti 61 6 6 cl_X1 fl_X1_31 (by decide) rfl dX1_add_58 rfl s_13 rfl ?_
    refine vr_iload 63 dX1_add_61 rfl rfl ?_
    obtain ⟨o5, h⟩ := h
    refine vr_iast 64 dX1_add_63 rfl s_18 o5.1 o5.2 ?_
    refine vr_aload_n 65 dX1_add_64 rfl rfl rfl ?_
    refine vr_getr 68 5 cl_X1 fl_X1_27 (by decide) dX1_add_65 rfl s_13 rfl ?_
    refine vr_aload_n 69 dX1_add_68 rfl rfl rfl ?_
    refine vr_geti 72 6 6 cl_X1 fl_X1_31 (by decide) rfl dX1_add_69 rfl s_13 rfl ?_
    refine vr_iconst 73 dX1_add_72 rfl ⟨by decide, by decide⟩ ?_
    obtain ⟨o6, h⟩ := h
    refine vr_zast 74 dX1_add_73 rfl s_19 o6.1 o6.2 (by decide) ?_
    refine vr_aload_n 75 dX1_add_74 rfl rfl rfl ?_
    refine vr_dup 76 dX1_add_75 rfl ?_
    refine vr_geti 79 6 6 cl_X1 fl_X1_31 (by decide) rfl dX1_add_76 rfl s_13 rfl ?_
    refine vr_dup_x1 80 dX1_add_79 rfl ?_
    refine vr_iconst 81 dX1_add_80 rfl ⟨by decide, by decide⟩ ?_
    obtain ⟨o7, h⟩ := h
    refine vr_iadd 82 dX1_add_81 rfl o7 ?_
    refine vr_puti 85 6 6 cl_X1 fl_X1_31 (by decide) rfl rfl rfl dX1_add_82 rfl s_13 rfl ?_
    exact vr_iret rfl (Nat.le_refl _) (Nat.le_refl _) dX1_add_85 ⟨rfl, _, rfl, h⟩
  · replace h := h.2 c
    refine vr_bipush 11 dX1_add_9 rfl (by decide) ⟨by decide, by decide⟩ ?_
    exact vr_iret rfl (Nat.le_refl _) (Nat.le_refl _) dX1_add_11 ⟨rfl, _, rfl, h⟩
theorem kX1_add {l : Launch} {d : Nat} {Q : Int → vx_M → Prop} (g : vx_M) (v1 v2 v3 v4 v5 : Int) (h : (((g 13 6) < 8 → (0 ≤ g 13 6 ∧ g 13 6 < 8) ∧ (0 ≤ g 13 6 ∧ g 13 6 < 8) ∧ (0 ≤ g 13 6 ∧ g 13 6 < 8) ∧ (0 ≤ g 13 6 ∧ g 13 6 < 8) ∧ (0 ≤ g 13 6 ∧ g 13 6 < 8) ∧ (0 ≤ g 13 6 ∧ g 13 6 < 8) ∧ vx_in ((g 13 6) + 1) ∧ Q (g 13 6) (vx_u (vx_u (vx_u (vx_u (vx_u (vx_u (vx_u g 14 (g 13 6) v1) 15 (g 13 6) v2) 16 (g 13 6) v3) 17 (g 13 6) v4) 18 (g 13 6) v5) 19 (g 13 6) 0) 13 6 ((g 13 6) + 1))) ∧ (¬ (g 13 6) < 8 → Q (-5) g))) : vNi l mX1_add d [.inr (some 13), .inl v1, .inl v2, .inl v3, .inl v4, .inl v5] SH g Q := vNi_of [some (.inr (some 13)), some (.inl v1), some (.inl v2), some (.inl v3), some (.inl v4), some (.inl v5)] pn_X1 (Nat.le_of_ble_eq_true rfl) rfl (tX1_add_0 g v1 v2 v3 v4 v5 h)
set_option maxRecDepth 100000 in
theorem tX1_countOut_0 {l : Launch} {d : Nat} {Q : Int → vx_M → Prop} (g : vx_M) (h : vN l mX1_countOut d (vx_pi SH Q) SH g 4 [some (.inr (some 13)), some (.inl 0), some (.inl 0)] []) : vN l mX1_countOut d (vx_pi SH Q) SH g 0 [some (.inr (some 13)), none, none] [] := by
  refine vr_iconst 1 dX1_countOut_0 rfl ⟨by decide, by decide⟩ ?_
  refine vr_istore_n 2 [some (.inr (some 13)), some (.inl 0), none] dX1_countOut_1 rfl rfl (by decide) rfl ?_
  refine vr_iconst 3 dX1_countOut_2 rfl ⟨by decide, by decide⟩ ?_
  refine vr_istore_n 4 [some (.inr (some 13)), some (.inl 0), some (.inl 0)] dX1_countOut_3 rfl rfl (by decide) rfl ?_
  exact h
theorem kX1_countOut {l : Launch} {d : Nat} {Q : Int → vx_M → Prop} (g : vx_M) (h : vN l mX1_countOut d (vx_pi SH Q) SH g 4 [some (.inr (some 13)), some (.inl 0), some (.inl 0)] []) : vNi l mX1_countOut d [.inr (some 13)] SH g Q := vNi_of [some (.inr (some 13)), none, none] pn_X1 (Nat.le_of_ble_eq_true rfl) rfl (tX1_countOut_0 g  h)
set_option maxRecDepth 100000 in
theorem tX1_countOut_4 {l : Launch} {d : Nat} {Q : Int → vx_M → Prop} (g : vx_M) (v1 v2 : Int) (h : (((g 13 6) ≤ v2 → Q v1 g) ∧ (¬ (g 13 6) ≤ v2 → (0 ≤ v2 ∧ v2 < 8) ∧ (((g 19 v2) = 0 → vx_in (v1 + 0) ∧ vx_in (v2 + 1) ∧ vN l mX1_countOut d (vx_pi SH Q) SH g 4 [some (.inr (some 13)), some (.inl (v1 + 0)), some (.inl (v2 + 1))] []) ∧ (¬ (g 19 v2) = 0 → vx_in (v1 + 1) ∧ vx_in (v2 + 1) ∧ vN l mX1_countOut d (vx_pi SH Q) SH g 4 [some (.inr (some 13)), some (.inl (v1 + 1)), some (.inl (v2 + 1))] []))))) : vN l mX1_countOut d (vx_pi SH Q) SH g 4 [some (.inr (some 13)), some (.inl v1), some (.inl v2)] [] := by
  refine vr_iload_n 5 dX1_countOut_4 rfl rfl rfl ?_
  refine vr_aload_n 6 dX1_countOut_5 rfl rfl rfl ?_
  refine vr_geti 9 6 6 cl_X1 fl_X1_31 (by decide) rfl dX1_countOut_6 rfl s_13 rfl ?_
  refine vr_icmp_ge 35 12 dX1_countOut_9 rfl rfl (fun c => ?_) (fun c => ?_)
  · replace h := h.1 c
    refine vr_iload_n 36 dX1_countOut_35 rfl rfl rfl ?_
    exact vr_iret rfl (Nat.le_refl _) (Nat.le_refl _) dX1_countOut_36 ⟨rfl, _, rfl, h⟩
  · replace h := h.2 c
    refine vr_iload_n 13 dX1_countOut_12 rfl rfl rfl ?_
    refine vr_aload_n 14 dX1_countOut_13 rfl rfl rfl ?_
    refine vr_getr 17 5 cl_X1 fl_X1_27 (by decide) dX1_countOut_14 rfl s_13 rfl ?_
    refine vr_iload_n 18 dX1_countOut_17 rfl rfl rfl ?_
    obtain ⟨o1, h⟩ := h
    refine vr_zald 19 dX1_countOut_18 rfl s_19 o1.1 o1.2 ?_
    refine vr_if_eq 26 22 dX1_countOut_19 rfl rfl (fun c => ?_) (fun c => ?_)
    · replace h := h.1 c
      refine vr_iconst 27 dX1_countOut_26 rfl ⟨by decide, by decide⟩ ?_
      obtain ⟨o2, h⟩ := h
      refine vr_iadd 28 dX1_countOut_27 rfl o2 ?_
      refine vr_istore_n 29 [some (.inr (some 13)), some (.inl (v1 + 0)), some (.inl v2)] dX1_countOut_28 rfl rfl (by decide) rfl ?_
      obtain ⟨o3, h⟩ := h
      refine vr_iinc 32 [some (.inr (some 13)), some (.inl (v1 + 0)), some (.inl (v2 + 1))] dX1_countOut_29 rfl rfl o3 (by decide) rfl ?_
      refine vr_goto 4 dX1_countOut_32 rfl ?_
      exact h
    · replace h := h.2 c
      refine vr_iconst 23 dX1_countOut_22 rfl ⟨by decide, by decide⟩ ?_
      refine vr_goto 27 dX1_countOut_23 rfl ?_
      obtain ⟨o4, h⟩ := h
      refine vr_iadd 28 dX1_countOut_27 rfl o4 ?_
      refine vr_istore_n 29 [some (.inr (some 13)), some (.inl (v1 + 1)), some (.inl v2)] dX1_countOut_28 rfl rfl (by decide) rfl ?_
      obtain ⟨o5, h⟩ := h
      refine vr_iinc 32 [some (.inr (some 13)), some (.inl (v1 + 1)), some (.inl (v2 + 1))] dX1_countOut_29 rfl rfl o5 (by decide) rfl ?_
      refine vr_goto 4 dX1_countOut_32 rfl ?_
      exact h
set_option maxRecDepth 100000 in
theorem tX2_goesTo_0 {l : Launch} {d : Nat} {Q : Int → vx_M → Prop} (g : vx_M) (v1 v2 : Int) (h : (0 ≤ v1 ∧ v1 < 8) ∧ ((¬ (g 19 v1) = 0 → Q 0 g) ∧ ((g 19 v1) = 0 → (0 ≤ v1 ∧ v1 < 8) ∧ (((g 17 v1) < v2 → Q 0 g) ∧ (¬ (g 17 v1) < v2 → Q 1 g))))) : vN l mX2_goesTo d (vx_pi SH Q) SH g 0 [some (.inr (some 20)), some (.inl v1), some (.inl v2)] [] := by
  refine vr_aload_n 1 dX2_goesTo_0 rfl rfl rfl ?_
  refine vr_getr 4 1 cl_X2 fl_X2_19 (by decide) dX2_goesTo_1 rfl s_20 rfl ?_
  refine vr_getr 7 5 cl_X1 fl_X2_23 (by decide) dX2_goesTo_4 rfl s_13 rfl ?_
  refine vr_iload_n 8 dX2_goesTo_7 rfl rfl rfl ?_
  obtain ⟨o1, h⟩ := h
  refine vr_zald 9 dX2_goesTo_8 rfl s_19 o1.1 o1.2 ?_
  refine vr_if_ne 29 12 dX2_goesTo_9 rfl rfl (fun c => ?_) (fun c => ?_)
  · replace h := h.1 c
    refine vr_iconst 30 dX2_goesTo_29 rfl ⟨by decide, by decide⟩ ?_
    exact vr_zret rfl (Nat.le_refl _) (Nat.le_refl _) dX2_goesTo_30 (by decide) ⟨rfl, _, rfl, h⟩
  · replace h := h.2 c
    refine vr_iload_n 13 dX2_goesTo_12 rfl rfl rfl ?_
    refine vr_aload_n 14 dX2_goesTo_13 rfl rfl rfl ?_
    refine vr_getr 17 1 cl_X2 fl_X2_19 (by decide) dX2_goesTo_14 rfl s_20 rfl ?_
    refine vr_getr 20 3 cl_X1 fl_X2_29 (by decide) dX2_goesTo_17 rfl s_13 rfl ?_
    refine vr_iload_n 21 dX2_goesTo_20 rfl rfl rfl ?_
    obtain ⟨o2, h⟩ := h
    refine vr_iald 22 dX2_goesTo_21 rfl s_17 o2.1 o2.2 ?_
    refine vr_icmp_gt 29 25 dX2_goesTo_22 rfl rfl (fun c => ?_) (fun c => ?_)
    · replace h := h.1 c
      refine vr_iconst 30 dX2_goesTo_29 rfl ⟨by decide, by decide⟩ ?_
      exact vr_zret rfl (Nat.le_refl _) (Nat.le_refl _) dX2_goesTo_30 (by decide) ⟨rfl, _, rfl, h⟩
    · replace h := h.2 c
      refine vr_iconst 26 dX2_goesTo_25 rfl ⟨by decide, by decide⟩ ?_
      refine vr_goto 30 dX2_goesTo_26 rfl ?_
      exact vr_zret rfl (Nat.le_refl _) (Nat.le_refl _) dX2_goesTo_30 (by decide) ⟨rfl, _, rfl, h⟩
theorem kX2_goesTo {l : Launch} {d : Nat} {Q : Int → vx_M → Prop} (g : vx_M) (v1 v2 : Int) (h : (0 ≤ v1 ∧ v1 < 8) ∧ ((¬ (g 19 v1) = 0 → Q 0 g) ∧ ((g 19 v1) = 0 → (0 ≤ v1 ∧ v1 < 8) ∧ (((g 17 v1) < v2 → Q 0 g) ∧ (¬ (g 17 v1) < v2 → Q 1 g))))) : vNi l mX2_goesTo d [.inr (some 20), .inl v1, .inl v2] SH g Q := vNi_of [some (.inr (some 20)), some (.inl v1), some (.inl v2)] pn_X2 (Nat.le_of_ble_eq_true rfl) rfl (tX2_goesTo_0 g v1 v2 h)
set_option maxRecDepth 100000 in
theorem tX2_mostLoad_0 {l : Launch} {d : Nat} {Q : Int → vx_M → Prop} (g : vx_M) (v1 : Int) (h : (0 ≤ v1 ∧ v1 < 8) ∧ vx_in (8 * (g 16 v1)) ∧ Q (8 * (g 16 v1)) g) : vN l mX2_mostLoad d (vx_pi SH Q) SH g 0 [some (.inr (some 20)), some (.inl v1)] [] := by
  refine vr_bipush 2 dX2_mostLoad_0 rfl (by decide) ⟨by decide, by decide⟩ ?_
  refine vr_aload_n 3 dX2_mostLoad_2 rfl rfl rfl ?_
  refine vr_getr 6 1 cl_X2 fl_X2_19 (by decide) dX2_mostLoad_3 rfl s_20 rfl ?_
  refine vr_getr 9 2 cl_X1 fl_X2_33 (by decide) dX2_mostLoad_6 rfl s_13 rfl ?_
  refine vr_iload_n 10 dX2_mostLoad_9 rfl rfl rfl ?_
  obtain ⟨o1, h⟩ := h
  refine vr_iald 11 dX2_mostLoad_10 rfl s_16 o1.1 o1.2 ?_
  obtain ⟨o2, h⟩ := h
  refine vr_imul 12 dX2_mostLoad_11 rfl o2 ?_
  exact vr_iret rfl (Nat.le_refl _) (Nat.le_refl _) dX2_mostLoad_12 ⟨rfl, _, rfl, h⟩
theorem kX2_mostLoad {l : Launch} {d : Nat} {Q : Int → vx_M → Prop} (g : vx_M) (v1 : Int) (h : (0 ≤ v1 ∧ v1 < 8) ∧ vx_in (8 * (g 16 v1)) ∧ Q (8 * (g 16 v1)) g) : vNi l mX2_mostLoad d [.inr (some 20), .inl v1] SH g Q := vNi_of [some (.inr (some 20)), some (.inl v1)] pn_X2 (Nat.le_of_ble_eq_true rfl) rfl (tX2_mostLoad_0 g v1 h)
set_option maxRecDepth 100000 in
theorem tX2_loadOn_0 {l : Launch} {d : Nat} {Q : Int → vx_M → Prop} (g : vx_M) (v2 v3 : Int) (h : vx_in (v2 + 1) ∧ vN l mX2_loadOn d (vx_pi SH Q) SH g 8 [some (.inr (some 20)), some (.inr (some 39)), some (.inl v2), some (.inl v3), some (.inl 0), some (.inl (v2 + 1))] []) : vN l mX2_loadOn d (vx_pi SH Q) SH g 0 [some (.inr (some 20)), some (.inr (some 39)), some (.inl v2), some (.inl v3), none, none] [] := by
  refine vr_iconst 1 dX2_loadOn_0 rfl ⟨by decide, by decide⟩ ?_
  refine vr_istore 3 [some (.inr (some 20)), some (.inr (some 39)), some (.inl v2), some (.inl v3), some (.inl 0), none] dX2_loadOn_1 rfl (by decide) rfl ?_
  refine vr_iload_n 4 dX2_loadOn_3 rfl rfl rfl ?_
  refine vr_iconst 5 dX2_loadOn_4 rfl ⟨by decide, by decide⟩ ?_
  obtain ⟨o1, h⟩ := h
  refine vr_iadd 6 dX2_loadOn_5 rfl o1 ?_
  refine vr_istore 8 [some (.inr (some 20)), some (.inr (some 39)), some (.inl v2), some (.inl v3), some (.inl 0), some (.inl (v2 + 1))] dX2_loadOn_6 rfl (by decide) rfl ?_
  exact h
theorem kX2_loadOn {l : Launch} {d : Nat} {Q : Int → vx_M → Prop} (g : vx_M) (v2 v3 : Int) (h : vx_in (v2 + 1) ∧ vN l mX2_loadOn d (vx_pi SH Q) SH g 8 [some (.inr (some 20)), some (.inr (some 39)), some (.inl v2), some (.inl v3), some (.inl 0), some (.inl (v2 + 1))] []) : vNi l mX2_loadOn d [.inr (some 20), .inr (some 39), .inl v2, .inl v3] SH g Q := vNi_of [some (.inr (some 20)), some (.inr (some 39)), some (.inl v2), some (.inl v3), none, none] pn_X2 (Nat.le_of_ble_eq_true rfl) rfl (tX2_loadOn_0 g v2 v3 h)
set_option maxRecDepth 100000 in
theorem tX2_loadOn_8 {l : Launch} {d : Nat} {Q : Int → vx_M → Prop} (g : vx_M) (v2 v3 v4 v5 : Int) (h : ((v3 ≤ v5 → Q v4 g) ∧ (¬ v3 ≤ v5 → (0 ≤ v5 ∧ v5 < 7) ∧ (0 ≤ v2 ∧ v2 < 7) ∧ (0 ≤ v5 ∧ v5 < 7) ∧ (0 ≤ g 39 v5 ∧ g 39 v5 < 8) ∧ vx_in ((g (6 + (v5).toNat) v2) * (g 15 (g 39 v5))) ∧ vx_in (v4 + ((g (6 + (v5).toNat) v2) * (g 15 (g 39 v5)))) ∧ vx_in (v5 + 1) ∧ vN l mX2_loadOn d (vx_pi SH Q) SH g 8 [some (.inr (some 20)), some (.inr (some 39)), some (.inl v2), some (.inl v3), some (.inl (v4 + ((g (6 + (v5).toNat) v2) * (g 15 (g 39 v5))))), some (.inl (v5 + 1))] []))) : vN l mX2_loadOn d (vx_pi SH Q) SH g 8 [some (.inr (some 20)), some (.inr (some 39)), some (.inl v2), some (.inl v3), some (.inl v4), some (.inl v5)] [] := by
  refine vr_iload 10 dX2_loadOn_8 rfl rfl ?_
  refine vr_iload_n 11 dX2_loadOn_10 rfl rfl rfl ?_
  refine vr_icmp_ge 50 14 dX2_loadOn_11 rfl rfl (fun c => ?_) (fun c => ?_)
  · replace h := h.1 c
    refine vr_iload 52 dX2_loadOn_50 rfl rfl ?_
    exact vr_iret rfl (Nat.le_refl _) (Nat.le_refl _) dX2_loadOn_52 ⟨rfl, _, rfl, h⟩
  · replace h := h.2 c
    refine vr_iload 16 dX2_loadOn_14 rfl rfl ?_
    refine vr_aload_n 17 dX2_loadOn_16 rfl rfl rfl ?_
    refine vr_getr 20 0 cl_X2 fl_X2_15 (by decide) dX2_loadOn_17 rfl s_20 rfl ?_
    refine vr_getr 23 3 cl_X4 fl_X2_36 (by decide) dX2_loadOn_20 rfl s_1 rfl ?_
    refine vr_iload 25 dX2_loadOn_23 rfl rfl ?_
    obtain ⟨o1, h⟩ := h
    refine vr_aald 26 (6 + (v5).toNat) dX2_loadOn_25 rfl s_5 o1.1 (ra_5 _ (by omega)) ?_
    refine vr_iload_n 27 dX2_loadOn_26 rfl rfl rfl ?_
    obtain ⟨o2, h⟩ := h
    refine vr_iald 28 dX2_loadOn_27 rfl (s_sr _ (by omega : (v5).toNat < 7)) o2.1 o2.2 ?_
    refine vr_aload_n 29 dX2_loadOn_28 rfl rfl rfl ?_
    refine vr_getr 32 1 cl_X2 fl_X2_19 (by decide) dX2_loadOn_29 rfl s_20 rfl ?_
    refine vr_getr 35 1 cl_X1 fl_X2_42 (by decide) dX2_loadOn_32 rfl s_13 rfl ?_
    refine vr_aload_n 36 dX2_loadOn_35 rfl rfl rfl ?_
    refine vr_iload 38 dX2_loadOn_36 rfl rfl ?_
    obtain ⟨o3, h⟩ := h
    refine vr_iald 39 dX2_loadOn_38 rfl s_39 o3.1 o3.2 ?_
    obtain ⟨o4, h⟩ := h
    refine vr_iald 40 dX2_loadOn_39 rfl s_15 o4.1 o4.2 ?_
    obtain ⟨o5, h⟩ := h
    refine vr_imul 41 dX2_loadOn_40 rfl o5 ?_
    obtain ⟨o6, h⟩ := h
    refine vr_iadd 42 dX2_loadOn_41 rfl o6 ?_
    refine vr_istore 44 [some (.inr (some 20)), some (.inr (some 39)), some (.inl v2), some (.inl v3), some (.inl (v4 + ((g (6 + (v5).toNat) v2) * (g 15 (g 39 v5))))), some (.inl v5)] dX2_loadOn_42 rfl (by decide) rfl ?_
    obtain ⟨o7, h⟩ := h
    refine vr_iinc 47 [some (.inr (some 20)), some (.inr (some 39)), some (.inl v2), some (.inl v3), some (.inl (v4 + ((g (6 + (v5).toNat) v2) * (g 15 (g 39 v5))))), some (.inl (v5 + 1))] dX2_loadOn_44 rfl rfl o7 (by decide) rfl ?_
    refine vr_goto 8 dX2_loadOn_47 rfl ?_
    exact h
set_option maxRecDepth 100000 in
theorem tX2_admit_0 {l : Launch} {d : Nat} {Q : Int → vx_M → Prop} (g : vx_M) (h : vN l mX2_admit (d + 1) (vx_pi SH Q) SH g 2 [some (.inr (some 20)), some (.inr (some 39)), some (.inl 0), none] []) : vN l mX2_admit (d + 1) (vx_pi SH Q) SH g 0 [some (.inr (some 20)), some (.inr (some 39)), none, none] [] := by
  refine vr_iconst 1 dX2_admit_0 rfl ⟨by decide, by decide⟩ ?_
  refine vr_istore_n 2 [some (.inr (some 20)), some (.inr (some 39)), some (.inl 0), none] dX2_admit_1 rfl rfl (by decide) rfl ?_
  exact h
theorem kX2_admit {l : Launch} {d : Nat} {Q : Int → vx_M → Prop} (g : vx_M) (h : vN l mX2_admit (d + 1) (vx_pi SH Q) SH g 2 [some (.inr (some 20)), some (.inr (some 39)), some (.inl 0), none] []) : vNi l mX2_admit (d + 1) [.inr (some 20), .inr (some 39)] SH g Q := vNi_of [some (.inr (some 20)), some (.inr (some 39)), none, none] pn_X2 (Nat.le_of_ble_eq_true rfl) rfl (tX2_admit_0 g  h)
set_option maxRecDepth 100000 in
theorem tX2_admit_2 {l : Launch} {d : Nat} {Q : Int → vx_M → Prop} (g : vx_M) (v2 : Int) (h : (((g 1 5) ≤ v2 → vN l mX2_admit (d + 1) (vx_pi SH Q) SH g 65 [some (.inr (some 20)), some (.inr (some 39)), some (.inl 0), none] []) ∧ (¬ (g 1 5) ≤ v2 → (0 ≤ v2 ∧ v2 < 7) ∧ (0 ≤ v2 ∧ v2 < 7) ∧ (∃ Q3 : Int → vx_M → Prop, vNi l mX2_goesTo d [.inr (some 20), .inl (g 39 v2), .inl (g 4 v2)] SH g Q3 ∧ ∀ (r3 : Int) (g3 : vx_M), Q3 r3 g3 → ((r3 = 0 → Q 0 g3) ∧ (¬ r3 = 0 → (∃ Q4 : Int → vx_M → Prop, vNi l mX2_loadOn d [.inr (some 20), .inr (some 39), .inl v2, .inl (g3 1 5)] SH g3 Q4 ∧ ∀ (r4 : Int) (g4 : vx_M), Q4 r4 g4 → (∃ Q5 : Int → vx_M → Prop, vNi l mX2_mostLoad d [.inr (some 20), .inl (g 39 v2)] SH g4 Q5 ∧ ∀ (r5 : Int) (g5 : vx_M), Q5 r5 g5 → ((r4 ≤ r5 → vx_in (v2 + 1) ∧ vN l mX2_admit (d + 1) (vx_pi SH Q) SH g5 2 [some (.inr (some 20)), some (.inr (some 39)), some (.inl (v2 + 1)), none] []) ∧ (¬ r4 ≤ r5 → Q 0 g5)))))))))) : vN l mX2_admit (d + 1) (vx_pi SH Q) SH g 2 [some (.inr (some 20)), some (.inr (some 39)), some (.inl v2), none] [] := by
  refine vr_iload_n 3 dX2_admit_2 rfl rfl rfl ?_
  refine vr_aload_n 4 dX2_admit_3 rfl rfl rfl ?_
  refine vr_getr 7 0 cl_X2 fl_X2_15 (by decide) dX2_admit_4 rfl s_20 rfl ?_
  refine vr_geti 10 5 5 cl_X4 fl_X2_45 (by decide) rfl dX2_admit_7 rfl s_1 rfl ?_
  refine vr_icmp_ge 63 13 dX2_admit_10 rfl rfl (fun c => ?_) (fun c => ?_)
  · replace h := h.1 c
    refine vr_iconst 64 dX2_admit_63 rfl ⟨by decide, by decide⟩ ?_
    refine vr_istore_n 65 [some (.inr (some 20)), some (.inr (some 39)), some (.inl 0), none] dX2_admit_64 rfl rfl (by decide) rfl ?_
    exact h
  · replace h := h.2 c
    refine vr_aload_n 14 dX2_admit_13 rfl rfl rfl ?_
    refine vr_iload_n 15 dX2_admit_14 rfl rfl rfl ?_
    obtain ⟨o1, h⟩ := h
    refine vr_iald 16 dX2_admit_15 rfl s_39 o1.1 o1.2 ?_
    refine vr_istore_n 17 [some (.inr (some 20)), some (.inr (some 39)), some (.inl v2), some (.inl (g 39 v2))] dX2_admit_16 rfl rfl (by decide) rfl ?_
    refine vr_aload_n 18 dX2_admit_17 rfl rfl rfl ?_
    refine vr_iload_n 19 dX2_admit_18 rfl rfl rfl ?_
    refine vr_aload_n 20 dX2_admit_19 rfl rfl rfl ?_
    refine vr_getr 23 0 cl_X2 fl_X2_15 (by decide) dX2_admit_20 rfl s_20 rfl ?_
    refine vr_getr 26 2 cl_X4 fl_X2_48 (by decide) dX2_admit_23 rfl s_1 rfl ?_
    refine vr_iload_n 27 dX2_admit_26 rfl rfl rfl ?_
    obtain ⟨o2, h⟩ := h
    refine vr_iald 28 dX2_admit_27 rfl s_4 o2.1 o2.2 ?_
    obtain ⟨Q3, hq, h⟩ := h
    refine vr_callVi 31 [.inl (g 39 v2), .inl (g 4 v2)] 20 [] dX2_admit_28 rfl mc_X2_51 dn_X2_goesTo rfl rfl s_20 rfl (Nat.le_of_ble_eq_true rfl) (vx_rmR (by decide)) ⟨rfl, rfl⟩ ⟨Nat.le_refl _, Nat.le_refl _⟩ (fun _ _ => trivial) (fun _ _ => trivial) hq (fun r3 sh9 g3 hp _ _ => ?_)
    obtain ⟨e9, z9, e8, hp⟩ := hp
    subst e9
    cases e8
    replace h := h r3 g3 hp
    refine vr_if_eq 55 34 dX2_admit_31 rfl rfl (fun c => ?_) (fun c => ?_)
    · replace h := h.1 c
      refine vr_iconst 56 dX2_admit_55 rfl ⟨by decide, by decide⟩ ?_
      exact vr_zret rfl (Nat.le_refl _) (Nat.le_refl _) dX2_admit_56 (by decide) ⟨rfl, _, rfl, h⟩
    · replace h := h.2 c
      refine vr_aload_n 35 dX2_admit_34 rfl rfl rfl ?_
      refine vr_aload_n 36 dX2_admit_35 rfl rfl rfl ?_
      refine vr_iload_n 37 dX2_admit_36 rfl rfl rfl ?_
      refine vr_aload_n 38 dX2_admit_37 rfl rfl rfl ?_
      refine vr_getr 41 0 cl_X2 fl_X2_15 (by decide) dX2_admit_38 rfl s_20 rfl ?_
      refine vr_geti 44 5 5 cl_X4 fl_X2_45 (by decide) rfl dX2_admit_41 rfl s_1 rfl ?_
      obtain ⟨Q4, hq, h⟩ := h
      refine vr_callVi 47 [.inr (some 39), .inl v2, .inl (g3 1 5)] 20 [] dX2_admit_44 rfl mc_X2_55 dn_X2_loadOn rfl rfl s_20 rfl (Nat.le_of_ble_eq_true rfl) (vx_rmR (by decide)) ⟨rfl, rfl⟩ ⟨Nat.le_refl _, Nat.le_refl _⟩ (fun _ _ => trivial) (fun _ _ => trivial) hq (fun r4 sh9 g4 hp _ _ => ?_)
      obtain ⟨e9, z9, e8, hp⟩ := hp
      subst e9
      cases e8
      replace h := h r4 g4 hp
      refine vr_aload_n 48 dX2_admit_47 rfl rfl rfl ?_
      refine vr_iload_n 49 dX2_admit_48 rfl rfl rfl ?_
      obtain ⟨Q5, hq, h⟩ := h
      refine vr_callVi 52 [.inl (g 39 v2)] 20 [.inl r4] dX2_admit_49 rfl mc_X2_59 dn_X2_mostLoad rfl rfl s_20 rfl (Nat.le_of_ble_eq_true rfl) (vx_rmR (by decide)) ⟨rfl, rfl⟩ ⟨Nat.le_refl _, Nat.le_refl _⟩ (fun _ _ => trivial) (fun _ _ => trivial) hq (fun r5 sh9 g5 hp _ _ => ?_)
      obtain ⟨e9, z9, e8, hp⟩ := hp
      subst e9
      cases e8
      replace h := h r5 g5 hp
      refine vr_icmp_le 57 55 dX2_admit_52 rfl rfl (fun c => ?_) (fun c => ?_)
      · replace h := h.1 c
        obtain ⟨o6, h⟩ := h
        refine vr_iinc 60 [some (.inr (some 20)), some (.inr (some 39)), some (.inl (v2 + 1)), some (.inl (g 39 v2))] dX2_admit_57 rfl rfl o6 (by decide) rfl ?_
        refine vr_goto 2 dX2_admit_60 rfl ?_
        exact vr_forget [some (.inr (some 20)), some (.inr (some 39)), some (.inl (v2 + 1)), none] (vx_sub.get _ _ ⟨rfl, ⟨rfl, ⟨rfl, trivial⟩⟩⟩) h
      · replace h := h.2 c
        refine vr_iconst 56 dX2_admit_55 rfl ⟨by decide, by decide⟩ ?_
        exact vr_zret rfl (Nat.le_refl _) (Nat.le_refl _) dX2_admit_56 (by decide) ⟨rfl, _, rfl, h⟩
set_option maxRecDepth 100000 in
theorem tX2_admit_65 {l : Launch} {d : Nat} {Q : Int → vx_M → Prop} (g : vx_M) (v2 : Int) (h : (((g 1 4) ≤ v2 → Q 1 g) ∧ (¬ (g 1 4) ≤ v2 → (∃ Q1 : Int → vx_M → Prop, vNi l mX2_spread d [.inr (some 20), .inr (some 39), .inl v2] SH g Q1 ∧ ∀ (r1 : Int) (g1 : vx_M), Q1 r1 g1 → ((r1 ≤ (g1 20 2) → vx_in (v2 + 1) ∧ vN l mX2_admit (d + 1) (vx_pi SH Q) SH g1 65 [some (.inr (some 20)), some (.inr (some 39)), some (.inl (v2 + 1)), none] []) ∧ (¬ r1 ≤ (g1 20 2) → Q 0 g1)))))) : vN l mX2_admit (d + 1) (vx_pi SH Q) SH g 65 [some (.inr (some 20)), some (.inr (some 39)), some (.inl v2), none] [] := by
  refine vr_iload_n 66 dX2_admit_65 rfl rfl rfl ?_
  refine vr_aload_n 67 dX2_admit_66 rfl rfl rfl ?_
  refine vr_getr 70 0 cl_X2 fl_X2_15 (by decide) dX2_admit_67 rfl s_20 rfl ?_
  refine vr_geti 73 4 4 cl_X4 fl_X2_63 (by decide) rfl dX2_admit_70 rfl s_1 rfl ?_
  refine vr_icmp_ge 97 76 dX2_admit_73 rfl rfl (fun c => ?_) (fun c => ?_)
  · replace h := h.1 c
    refine vr_iconst 98 dX2_admit_97 rfl ⟨by decide, by decide⟩ ?_
    exact vr_zret rfl (Nat.le_refl _) (Nat.le_refl _) dX2_admit_98 (by decide) ⟨rfl, _, rfl, h⟩
  · replace h := h.2 c
    refine vr_aload_n 77 dX2_admit_76 rfl rfl rfl ?_
    refine vr_aload_n 78 dX2_admit_77 rfl rfl rfl ?_
    refine vr_iload_n 79 dX2_admit_78 rfl rfl rfl ?_
    obtain ⟨Q1, hq, h⟩ := h
    refine vr_callVi 82 [.inr (some 39), .inl v2] 20 [] dX2_admit_79 rfl mc_X2_66 dn_X2_spread rfl rfl s_20 rfl (Nat.le_of_ble_eq_true rfl) (vx_rmR (by decide)) ⟨rfl, rfl⟩ ⟨Nat.le_refl _, Nat.le_refl _⟩ (fun _ _ => trivial) (fun _ _ => trivial) hq (fun r1 sh9 g1 hp _ _ => ?_)
    obtain ⟨e9, z9, e8, hp⟩ := hp
    subst e9
    cases e8
    replace h := h r1 g1 hp
    refine vr_aload_n 83 dX2_admit_82 rfl rfl rfl ?_
    refine vr_geti 86 2 2 cl_X2 fl_X2_9 (by decide) rfl dX2_admit_83 rfl s_20 rfl ?_
    refine vr_icmp_le 91 89 dX2_admit_86 rfl rfl (fun c => ?_) (fun c => ?_)
    · replace h := h.1 c
      obtain ⟨o2, h⟩ := h
      refine vr_iinc 94 [some (.inr (some 20)), some (.inr (some 39)), some (.inl (v2 + 1)), none] dX2_admit_91 rfl rfl o2 (by decide) rfl ?_
      refine vr_goto 65 dX2_admit_94 rfl ?_
      exact h
    · replace h := h.2 c
      refine vr_iconst 90 dX2_admit_89 rfl ⟨by decide, by decide⟩ ?_
      exact vr_zret rfl (Nat.le_refl _) (Nat.le_refl _) dX2_admit_90 (by decide) ⟨rfl, _, rfl, h⟩
set_option maxRecDepth 100000 in
theorem tX2_spread_0 {l : Launch} {d : Nat} {Q : Int → vx_M → Prop} (g : vx_M) (v2 : Int) (h : (0 ≤ v2 ∧ v2 < 4) ∧ (0 ≤ g 3 v2 ∧ g 3 v2 < 7) ∧ (0 ≤ g 39 (g 3 v2) ∧ g 39 (g 3 v2) < 8) ∧ vN l mX2_spread (d + 1) (vx_pi SH Q) SH g 30 [some (.inr (some 20)), some (.inr (some 39)), some (.inl v2), some (.inl (g 3 v2)), some (.inl (g 14 (g 39 (g 3 v2)))), some (.inl (g 14 (g 39 (g 3 v2)))), some (.inl 1), none] []) : vN l mX2_spread (d + 1) (vx_pi SH Q) SH g 0 [some (.inr (some 20)), some (.inr (some 39)), some (.inl v2), none, none, none, none, none] [] := by
  refine vr_aload_n 1 dX2_spread_0 rfl rfl rfl ?_
  refine vr_getr 4 0 cl_X2 fl_X2_15 (by decide) dX2_spread_1 rfl s_20 rfl ?_
  refine vr_getr 7 1 cl_X4 fl_X2_70 (by decide) dX2_spread_4 rfl s_1 rfl ?_
  refine vr_iload_n 8 dX2_spread_7 rfl rfl rfl ?_
  obtain ⟨o1, h⟩ := h
  refine vr_iald 9 dX2_spread_8 rfl s_3 o1.1 o1.2 ?_
  refine vr_istore_n 10 [some (.inr (some 20)), some (.inr (some 39)), some (.inl v2), some (.inl (g 3 v2)), none, none, none, none] dX2_spread_9 rfl rfl (by decide) rfl ?_
  refine vr_aload_n 11 dX2_spread_10 rfl rfl rfl ?_
  refine vr_getr 14 1 cl_X2 fl_X2_19 (by decide) dX2_spread_11 rfl s_20 rfl ?_
  refine vr_getr 17 0 cl_X1 fl_X2_73 (by decide) dX2_spread_14 rfl s_13 rfl ?_
  refine vr_aload_n 18 dX2_spread_17 rfl rfl rfl ?_
  refine vr_iload_n 19 dX2_spread_18 rfl rfl rfl ?_
  obtain ⟨o2, h⟩ := h
  refine vr_iald 20 dX2_spread_19 rfl s_39 o2.1 o2.2 ?_
  obtain ⟨o3, h⟩ := h
  refine vr_iald 21 dX2_spread_20 rfl s_14 o3.1 o3.2 ?_
  refine vr_istore 23 [some (.inr (some 20)), some (.inr (some 39)), some (.inl v2), some (.inl (g 3 v2)), some (.inl (g 14 (g 39 (g 3 v2)))), none, none, none] dX2_spread_21 rfl (by decide) rfl ?_
  refine vr_iload 25 dX2_spread_23 rfl rfl ?_
  refine vr_istore 27 [some (.inr (some 20)), some (.inr (some 39)), some (.inl v2), some (.inl (g 3 v2)), some (.inl (g 14 (g 39 (g 3 v2)))), some (.inl (g 14 (g 39 (g 3 v2)))), none, none] dX2_spread_25 rfl (by decide) rfl ?_
  refine vr_iconst 28 dX2_spread_27 rfl ⟨by decide, by decide⟩ ?_
  refine vr_istore 30 [some (.inr (some 20)), some (.inr (some 39)), some (.inl v2), some (.inl (g 3 v2)), some (.inl (g 14 (g 39 (g 3 v2)))), some (.inl (g 14 (g 39 (g 3 v2)))), some (.inl 1), none] dX2_spread_28 rfl (by decide) rfl ?_
  exact h
theorem kX2_spread {l : Launch} {d : Nat} {Q : Int → vx_M → Prop} (g : vx_M) (v2 : Int) (h : (0 ≤ v2 ∧ v2 < 4) ∧ (0 ≤ g 3 v2 ∧ g 3 v2 < 7) ∧ (0 ≤ g 39 (g 3 v2) ∧ g 39 (g 3 v2) < 8) ∧ vN l mX2_spread (d + 1) (vx_pi SH Q) SH g 30 [some (.inr (some 20)), some (.inr (some 39)), some (.inl v2), some (.inl (g 3 v2)), some (.inl (g 14 (g 39 (g 3 v2)))), some (.inl (g 14 (g 39 (g 3 v2)))), some (.inl 1), none] []) : vNi l mX2_spread (d + 1) [.inr (some 20), .inr (some 39), .inl v2] SH g Q := vNi_of [some (.inr (some 20)), some (.inr (some 39)), some (.inl v2), none, none, none, none, none] pn_X2 (Nat.le_of_ble_eq_true rfl) rfl (tX2_spread_0 g v2 h)
set_option maxRecDepth 100000 in
theorem tX2_spread_30 {l : Launch} {d : Nat} {Q : Int → vx_M → Prop} (g : vx_M) (v2 v3 v4 v5 v6 : Int) (h : (0 ≤ v2 ∧ v2 < 4) ∧ (((g 2 v2) ≤ v6 → vx_in (v5 - v4) ∧ Q (v5 - v4) g) ∧ (¬ (g 2 v2) ≤ v6 → vx_in (v3 + v6) ∧ (0 ≤ v3 + v6 ∧ v3 + v6 < 7) ∧ (0 ≤ g 39 (v3 + v6) ∧ g 39 (v3 + v6) < 8) ∧ vx_in (v6 + 1) ∧ vN l mX2_spread (d + 1) (vx_pi SH Q) SH g 30 [some (.inr (some 20)), some (.inr (some 39)), some (.inl v2), some (.inl v3), some (.inl (min v4 (g 14 (g 39 (v3 + v6))))), some (.inl (max v5 (g 14 (g 39 (v3 + v6))))), some (.inl (v6 + 1)), none] []))) : vN l mX2_spread (d + 1) (vx_pi SH Q) SH g 30 [some (.inr (some 20)), some (.inr (some 39)), some (.inl v2), some (.inl v3), some (.inl v4), some (.inl v5), some (.inl v6), none] [] := by
  refine vr_iload 32 dX2_spread_30 rfl rfl ?_
  refine vr_aload_n 33 dX2_spread_32 rfl rfl rfl ?_
  refine vr_getr 36 0 cl_X2 fl_X2_15 (by decide) dX2_spread_33 rfl s_20 rfl ?_
  refine vr_getr 39 0 cl_X4 fl_X2_76 (by decide) dX2_spread_36 rfl s_1 rfl ?_
  refine vr_iload_n 40 dX2_spread_39 rfl rfl rfl ?_
  obtain ⟨o1, h⟩ := h
  refine vr_iald 41 dX2_spread_40 rfl s_2 o1.1 o1.2 ?_
  refine vr_icmp_ge 84 44 dX2_spread_41 rfl rfl (fun c => ?_) (fun c => ?_)
  · replace h := h.1 c
    refine vr_iload 86 dX2_spread_84 rfl rfl ?_
    refine vr_iload 88 dX2_spread_86 rfl rfl ?_
    obtain ⟨o2, h⟩ := h
    refine vr_isub 89 dX2_spread_88 rfl o2 ?_
    exact vr_iret rfl (Nat.le_refl _) (Nat.le_refl _) dX2_spread_89 ⟨rfl, _, rfl, h⟩
  · replace h := h.2 c
    refine vr_aload_n 45 dX2_spread_44 rfl rfl rfl ?_
    refine vr_getr 48 1 cl_X2 fl_X2_19 (by decide) dX2_spread_45 rfl s_20 rfl ?_
    refine vr_getr 51 0 cl_X1 fl_X2_73 (by decide) dX2_spread_48 rfl s_13 rfl ?_
    refine vr_aload_n 52 dX2_spread_51 rfl rfl rfl ?_
    refine vr_iload_n 53 dX2_spread_52 rfl rfl rfl ?_
    refine vr_iload 55 dX2_spread_53 rfl rfl ?_
    obtain ⟨o3, h⟩ := h
    refine vr_iadd 56 dX2_spread_55 rfl o3 ?_
    obtain ⟨o4, h⟩ := h
    refine vr_iald 57 dX2_spread_56 rfl s_39 o4.1 o4.2 ?_
    obtain ⟨o5, h⟩ := h
    refine vr_iald 58 dX2_spread_57 rfl s_14 o5.1 o5.2 ?_
    refine vr_istore 60 [some (.inr (some 20)), some (.inr (some 39)), some (.inl v2), some (.inl v3), some (.inl v4), some (.inl v5), some (.inl v6), some (.inl (g 14 (g 39 (v3 + v6))))] dX2_spread_58 rfl (by decide) rfl ?_
    refine vr_iload 62 dX2_spread_60 rfl rfl ?_
    refine vr_iload 64 dX2_spread_62 rfl rfl ?_
    refine vr_mmin 67 dX2_spread_64 rfl mc_X2_79 ma_min_1 ma_ini ma_min_2 (by show 1 ≤ d + 1; omega) (by show _ + 13 ≤ 40 * (d + 1); simp only [List.length_cons, List.length_nil]; omega) ⟨Nat.le_refl _, Nat.le_refl _⟩ ?_
    refine vr_istore 69 [some (.inr (some 20)), some (.inr (some 39)), some (.inl v2), some (.inl v3), some (.inl (min v4 (g 14 (g 39 (v3 + v6))))), some (.inl v5), some (.inl v6), some (.inl (g 14 (g 39 (v3 + v6))))] dX2_spread_67 rfl (by decide) rfl ?_
    refine vr_iload 71 dX2_spread_69 rfl rfl ?_
    refine vr_iload 73 dX2_spread_71 rfl rfl ?_
    refine vr_mmax 76 dX2_spread_73 rfl mc_X2_85 ma_max_1 ma_ini ma_max_2 (by show 1 ≤ d + 1; omega) (by show _ + 13 ≤ 40 * (d + 1); simp only [List.length_cons, List.length_nil]; omega) ⟨Nat.le_refl _, Nat.le_refl _⟩ ?_
    refine vr_istore 78 [some (.inr (some 20)), some (.inr (some 39)), some (.inl v2), some (.inl v3), some (.inl (min v4 (g 14 (g 39 (v3 + v6))))), some (.inl (max v5 (g 14 (g 39 (v3 + v6))))), some (.inl v6), some (.inl (g 14 (g 39 (v3 + v6))))] dX2_spread_76 rfl (by decide) rfl ?_
    obtain ⟨o6, h⟩ := h
    refine vr_iinc 81 [some (.inr (some 20)), some (.inr (some 39)), some (.inl v2), some (.inl v3), some (.inl (min v4 (g 14 (g 39 (v3 + v6))))), some (.inl (max v5 (g 14 (g 39 (v3 + v6))))), some (.inl (v6 + 1)), some (.inl (g 14 (g 39 (v3 + v6))))] dX2_spread_78 rfl rfl o6 (by decide) rfl ?_
    refine vr_goto 30 dX2_spread_81 rfl ?_
    exact vr_forget [some (.inr (some 20)), some (.inr (some 39)), some (.inl v2), some (.inl v3), some (.inl (min v4 (g 14 (g 39 (v3 + v6))))), some (.inl (max v5 (g 14 (g 39 (v3 + v6))))), some (.inl (v6 + 1)), none] (vx_sub.get _ _ ⟨rfl, ⟨rfl, ⟨rfl, ⟨rfl, ⟨rfl, ⟨rfl, ⟨rfl, trivial⟩⟩⟩⟩⟩⟩⟩) h
set_option maxRecDepth 100000 in
theorem tX0_crowned_0 {l : Launch} {d : Nat} {Q : Int → vx_M → Prop} (g : vx_M) (h : vN l mX0_crowned (d + 1) (vx_pi SH Q) SH g 4 [some (.inr (some 36)), some (.inl 0), some (.inl 0)] []) : vN l mX0_crowned (d + 1) (vx_pi SH Q) SH g 0 [some (.inr (some 36)), none, none] [] := by
  refine vr_iconst 1 dX0_crowned_0 rfl ⟨by decide, by decide⟩ ?_
  refine vr_istore_n 2 [some (.inr (some 36)), some (.inl 0), none] dX0_crowned_1 rfl rfl (by decide) rfl ?_
  refine vr_iconst 3 dX0_crowned_2 rfl ⟨by decide, by decide⟩ ?_
  refine vr_istore_n 4 [some (.inr (some 36)), some (.inl 0), some (.inl 0)] dX0_crowned_3 rfl rfl (by decide) rfl ?_
  exact h
theorem kX0_crowned {l : Launch} {d : Nat} {Q : Int → vx_M → Prop} (g : vx_M) (h : vN l mX0_crowned (d + 1) (vx_pi SH Q) SH g 4 [some (.inr (some 36)), some (.inl 0), some (.inl 0)] []) : vNi l mX0_crowned (d + 1) [.inr (some 36)] SH g Q := vNi_of [some (.inr (some 36)), none, none] pn_X0 (Nat.le_of_ble_eq_true rfl) rfl (tX0_crowned_0 g  h)
set_option maxRecDepth 100000 in
theorem tX0_crowned_4 {l : Launch} {d : Nat} {Q : Int → vx_M → Prop} (g : vx_M) (v1 v2 : Int) (h : (((g 1 5) ≤ v2 → Q v1 g) ∧ (¬ (g 1 5) ≤ v2 → (∃ Q1 : Int → vx_M → Prop, vNi l mX0_ticksFor d [.inr (some 36), .inl v2] SH g Q1 ∧ ∀ (r1 : Int) (g1 : vx_M), Q1 r1 g1 → vx_in (v1 + r1) ∧ vx_in (v2 + 1) ∧ vN l mX0_crowned (d + 1) (vx_pi SH Q) SH g1 4 [some (.inr (some 36)), some (.inl (v1 + r1)), some (.inl (v2 + 1))] [])))) : vN l mX0_crowned (d + 1) (vx_pi SH Q) SH g 4 [some (.inr (some 36)), some (.inl v1), some (.inl v2)] [] := by
  refine vr_iload_n 5 dX0_crowned_4 rfl rfl rfl ?_
  refine vr_aload_n 6 dX0_crowned_5 rfl rfl rfl ?_
  refine vr_getr 9 0 cl_X0 fl_X0_25 (by decide) dX0_crowned_6 rfl s_36 rfl ?_
  refine vr_geti 12 5 5 cl_X4 fl_X0_37 (by decide) rfl dX0_crowned_9 rfl s_1 rfl ?_
  refine vr_icmp_ge 29 15 dX0_crowned_12 rfl rfl (fun c => ?_) (fun c => ?_)
  · replace h := h.1 c
    refine vr_iload_n 30 dX0_crowned_29 rfl rfl rfl ?_
    exact vr_iret rfl (Nat.le_refl _) (Nat.le_refl _) dX0_crowned_30 ⟨rfl, _, rfl, h⟩
  · replace h := h.2 c
    refine vr_iload_n 16 dX0_crowned_15 rfl rfl rfl ?_
    refine vr_aload_n 17 dX0_crowned_16 rfl rfl rfl ?_
    refine vr_iload_n 18 dX0_crowned_17 rfl rfl rfl ?_
    obtain ⟨Q1, hq, h⟩ := h
    refine vr_callVi 21 [.inl v2] 36 [.inl v1] dX0_crowned_18 rfl mc_X0_42 dn_X0_ticksFor rfl rfl s_36 rfl (Nat.le_of_ble_eq_true rfl) (vx_rmR (by decide)) ⟨rfl, rfl⟩ ⟨Nat.le_refl _, Nat.le_refl _⟩ (fun _ _ => trivial) (fun _ _ => trivial) hq (fun r1 sh9 g1 hp _ _ => ?_)
    obtain ⟨e9, z9, e8, hp⟩ := hp
    subst e9
    cases e8
    replace h := h r1 g1 hp
    obtain ⟨o2, h⟩ := h
    refine vr_iadd 22 dX0_crowned_21 rfl o2 ?_
    refine vr_istore_n 23 [some (.inr (some 36)), some (.inl (v1 + r1)), some (.inl v2)] dX0_crowned_22 rfl rfl (by decide) rfl ?_
    obtain ⟨o3, h⟩ := h
    refine vr_iinc 26 [some (.inr (some 36)), some (.inl (v1 + r1)), some (.inl (v2 + 1))] dX0_crowned_23 rfl rfl o3 (by decide) rfl ?_
    refine vr_goto 4 dX0_crowned_26 rfl ?_
    exact h
set_option maxRecDepth 100000 in
theorem tX0_run_0 {l : Launch} {d : Nat} {Q : vx_M → Prop} (g : vx_M) (v2 : Int) (h : (∃ Q1 : vx_M → Prop, vNv l mJ7_fill_53178 d [.inr (some 38), .inl 0] SH g Q1 ∧ ∀ g1 : vx_M, Q1 g1 → vN l mX0_run (d + 1) (vx_pv SH Q) SH (vx_u (vx_u g1 36 5 (-1)) 36 6 (-1)) 23 [some (.inr (some 36)), some (.inr (some 39)), some (.inl v2), some (.inl 0), some (.inl 0)] [])) : vN l mX0_run (d + 1) (vx_pv SH Q) SH g 0 [some (.inr (some 36)), some (.inr (some 39)), some (.inl v2), none, none] [] := by
  refine vr_aload_n 1 dX0_run_0 rfl rfl rfl ?_
  refine vr_getr 4 4 cl_X0 fl_X0_15 (by decide) dX0_run_1 rfl s_36 rfl ?_
  refine vr_iconst 5 dX0_run_4 rfl ⟨by decide, by decide⟩ ?_
  obtain ⟨Q1, hq, h⟩ := h
  refine vr_callSv 8 [.inr (some 38), .inl 0] [] dX0_run_5 rfl mc_X0_46 dn_J7_fill_53178 rfl rfl (Nat.le_of_ble_eq_true rfl) (vx_rmR (by decide)) ⟨rfl, rfl⟩ ⟨Nat.le_refl _, Nat.le_refl _⟩ (fun _ _ => trivial) (fun _ _ => trivial) hq (fun sh9 g1 hp _ => ?_)
  obtain ⟨e9, -, hp⟩ := hp
  subst e9
  replace h := h g1 hp
  refine vr_aload_n 9 dX0_run_8 rfl rfl rfl ?_
  refine vr_iconst 10 dX0_run_9 rfl ⟨by decide, by decide⟩ ?_
  refine vr_puti 13 5 5 cl_X0 fl_X0_18 (by decide) rfl rfl rfl dX0_run_10 rfl s_36 rfl ?_
  refine vr_aload_n 14 dX0_run_13 rfl rfl rfl ?_
  refine vr_iconst 15 dX0_run_14 rfl ⟨by decide, by decide⟩ ?_
  refine vr_puti 18 6 6 cl_X0 fl_X0_22 (by decide) rfl rfl rfl dX0_run_15 rfl s_36 rfl ?_
  refine vr_iconst 19 dX0_run_18 rfl ⟨by decide, by decide⟩ ?_
  refine vr_istore_n 20 [some (.inr (some 36)), some (.inr (some 39)), some (.inl v2), some (.inl 0), none] dX0_run_19 rfl rfl (by decide) rfl ?_
  refine vr_iconst 21 dX0_run_20 rfl ⟨by decide, by decide⟩ ?_
  refine vr_istore 23 [some (.inr (some 36)), some (.inr (some 39)), some (.inl v2), some (.inl 0), some (.inl 0)] dX0_run_21 rfl (by decide) rfl ?_
  exact h
theorem kX0_run {l : Launch} {d : Nat} {Q : vx_M → Prop} (g : vx_M) (v2 : Int) (h : (∃ Q1 : vx_M → Prop, vNv l mJ7_fill_53178 d [.inr (some 38), .inl 0] SH g Q1 ∧ ∀ g1 : vx_M, Q1 g1 → vN l mX0_run (d + 1) (vx_pv SH Q) SH (vx_u (vx_u g1 36 5 (-1)) 36 6 (-1)) 23 [some (.inr (some 36)), some (.inr (some 39)), some (.inl v2), some (.inl 0), some (.inl 0)] [])) : vNv l mX0_run (d + 1) [.inr (some 36), .inr (some 39), .inl v2] SH g Q := vNv_of [some (.inr (some 36)), some (.inr (some 39)), some (.inl v2), none, none] pn_X0 (Nat.le_of_ble_eq_true rfl) rfl (tX0_run_0 g v2 h)
set_option maxRecDepth 100000 in
theorem tX0_run_23 {l : Launch} {d : Nat} {Q : vx_M → Prop} (g : vx_M) (v2 v3 v4 : Int) (h : (((g 1 5) ≤ v4 → vx_in ((g 1 5) - 1) ∧ vN l mX0_run (d + 1) (vx_pv SH Q) SH g 68 [some (.inr (some 36)), some (.inr (some 39)), some (.inl v2), some (.inl v3), some (.inl ((g 1 5) - 1))] []) ∧ (¬ (g 1 5) ≤ v4 → (∃ Q2 : Int → vx_M → Prop, vNi l mX0_ticksFor d [.inr (some 36), .inl v4] SH g Q2 ∧ ∀ (r2 : Int) (g2 : vx_M), Q2 r2 g2 → (∃ Q3 : Int → vx_M → Prop, vNi l mX0_pass d [.inr (some 36), .inr (some 39), .inl v4, .inl v3, .inl r2, .inl v2] SH g2 Q3 ∧ ∀ (r3 : Int) (g3 : vx_M), Q3 r3 g3 → vx_in (v4 + 1) ∧ vN l mX0_run (d + 1) (vx_pv SH Q) SH g3 23 [some (.inr (some 36)), some (.inr (some 39)), some (.inl v2), some (.inl r3), some (.inl (v4 + 1))] []))))) : vN l mX0_run (d + 1) (vx_pv SH Q) SH g 23 [some (.inr (some 36)), some (.inr (some 39)), some (.inl v2), some (.inl v3), some (.inl v4)] [] := by
  refine vr_iload 25 dX0_run_23 rfl rfl ?_
  refine vr_aload_n 26 dX0_run_25 rfl rfl rfl ?_
  refine vr_getr 29 0 cl_X0 fl_X0_25 (by decide) dX0_run_26 rfl s_36 rfl ?_
  refine vr_geti 32 5 5 cl_X4 fl_X0_37 (by decide) rfl dX0_run_29 rfl s_1 rfl ?_
  refine vr_icmp_ge 57 35 dX0_run_32 rfl rfl (fun c => ?_) (fun c => ?_)
  · replace h := h.1 c
    refine vr_aload_n 58 dX0_run_57 rfl rfl rfl ?_
    refine vr_getr 61 0 cl_X0 fl_X0_25 (by decide) dX0_run_58 rfl s_36 rfl ?_
    refine vr_geti 64 5 5 cl_X4 fl_X0_37 (by decide) rfl dX0_run_61 rfl s_1 rfl ?_
    refine vr_iconst 65 dX0_run_64 rfl ⟨by decide, by decide⟩ ?_
    obtain ⟨o1, h⟩ := h
    refine vr_isub 66 dX0_run_65 rfl o1 ?_
    refine vr_istore 68 [some (.inr (some 36)), some (.inr (some 39)), some (.inl v2), some (.inl v3), some (.inl ((g 1 5) - 1))] dX0_run_66 rfl (by decide) rfl ?_
    exact h
  · replace h := h.2 c
    refine vr_aload_n 36 dX0_run_35 rfl rfl rfl ?_
    refine vr_aload_n 37 dX0_run_36 rfl rfl rfl ?_
    refine vr_iload 39 dX0_run_37 rfl rfl ?_
    refine vr_iload_n 40 dX0_run_39 rfl rfl rfl ?_
    refine vr_aload_n 41 dX0_run_40 rfl rfl rfl ?_
    refine vr_iload 43 dX0_run_41 rfl rfl ?_
    obtain ⟨Q2, hq, h⟩ := h
    refine vr_callVi 46 [.inl v4] 36 [.inl v3, .inl v4, .inr (some 39), .inr (some 36)] dX0_run_43 rfl mc_X0_42 dn_X0_ticksFor rfl rfl s_36 rfl (Nat.le_of_ble_eq_true rfl) (vx_rmR (by decide)) ⟨rfl, rfl⟩ ⟨Nat.le_refl _, Nat.le_refl _⟩ (fun _ _ => trivial) (fun _ _ => trivial) hq (fun r2 sh9 g2 hp _ _ => ?_)
    obtain ⟨e9, z9, e8, hp⟩ := hp
    subst e9
    cases e8
    replace h := h r2 g2 hp
    refine vr_iload_n 47 dX0_run_46 rfl rfl rfl ?_
    obtain ⟨Q3, hq, h⟩ := h
    refine vr_callVi 50 [.inr (some 39), .inl v4, .inl v3, .inl r2, .inl v2] 36 [] dX0_run_47 rfl mc_X0_52 dn_X0_pass rfl rfl s_36 rfl (Nat.le_of_ble_eq_true rfl) (vx_rmR (by decide)) ⟨rfl, rfl⟩ ⟨Nat.le_refl _, Nat.le_refl _⟩ (fun _ _ => trivial) (fun _ _ => trivial) hq (fun r3 sh9 g3 hp _ _ => ?_)
    obtain ⟨e9, z9, e8, hp⟩ := hp
    subst e9
    cases e8
    replace h := h r3 g3 hp
    refine vr_istore_n 51 [some (.inr (some 36)), some (.inr (some 39)), some (.inl v2), some (.inl r3), some (.inl v4)] dX0_run_50 rfl rfl (by decide) rfl ?_
    obtain ⟨o4, h⟩ := h
    refine vr_iinc 54 [some (.inr (some 36)), some (.inr (some 39)), some (.inl v2), some (.inl r3), some (.inl (v4 + 1))] dX0_run_51 rfl rfl o4 (by decide) rfl ?_
    refine vr_goto 23 dX0_run_54 rfl ?_
    exact h
set_option maxRecDepth 100000 in
theorem tX0_run_68 {l : Launch} {d : Nat} {Q : vx_M → Prop} (g : vx_M) (v2 v3 v4 : Int) (h : ((v4 < 0 → Q g) ∧ (¬ v4 < 0 → vx_in (v4 + 1) ∧ (∃ Q2 : Int → vx_M → Prop, vNi l mX0_ticksFor d [.inr (some 36), .inl v4] SH g Q2 ∧ ∀ (r2 : Int) (g2 : vx_M), Q2 r2 g2 → (∃ Q3 : Int → vx_M → Prop, vNi l mX0_pass d [.inr (some 36), .inr (some 39), .inl (v4 + 1), .inl v3, .inl r2, .inl v2] SH g2 Q3 ∧ ∀ (r3 : Int) (g3 : vx_M), Q3 r3 g3 → vx_in (v4 + (-1)) ∧ vN l mX0_run (d + 1) (vx_pv SH Q) SH g3 68 [some (.inr (some 36)), some (.inr (some 39)), some (.inl v2), some (.inl r3), some (.inl (v4 + (-1)))] []))))) : vN l mX0_run (d + 1) (vx_pv SH Q) SH g 68 [some (.inr (some 36)), some (.inr (some 39)), some (.inl v2), some (.inl v3), some (.inl v4)] [] := by
  refine vr_iload 70 dX0_run_68 rfl rfl ?_
  refine vr_if_lt 97 73 dX0_run_70 rfl rfl (fun c => ?_) (fun c => ?_)
  · replace h := h.1 c
    exact vr_vret rfl (Nat.le_refl _) (Nat.le_refl _) dX0_run_97 ⟨rfl, rfl, h⟩
  · replace h := h.2 c
    refine vr_aload_n 74 dX0_run_73 rfl rfl rfl ?_
    refine vr_aload_n 75 dX0_run_74 rfl rfl rfl ?_
    refine vr_iload 77 dX0_run_75 rfl rfl ?_
    refine vr_iconst 78 dX0_run_77 rfl ⟨by decide, by decide⟩ ?_
    obtain ⟨o1, h⟩ := h
    refine vr_iadd 79 dX0_run_78 rfl o1 ?_
    refine vr_iload_n 80 dX0_run_79 rfl rfl rfl ?_
    refine vr_aload_n 81 dX0_run_80 rfl rfl rfl ?_
    refine vr_iload 83 dX0_run_81 rfl rfl ?_
    obtain ⟨Q2, hq, h⟩ := h
    refine vr_callVi 86 [.inl v4] 36 [.inl v3, .inl (v4 + 1), .inr (some 39), .inr (some 36)] dX0_run_83 rfl mc_X0_42 dn_X0_ticksFor rfl rfl s_36 rfl (Nat.le_of_ble_eq_true rfl) (vx_rmR (by decide)) ⟨rfl, rfl⟩ ⟨Nat.le_refl _, Nat.le_refl _⟩ (fun _ _ => trivial) (fun _ _ => trivial) hq (fun r2 sh9 g2 hp _ _ => ?_)
    obtain ⟨e9, z9, e8, hp⟩ := hp
    subst e9
    cases e8
    replace h := h r2 g2 hp
    refine vr_iload_n 87 dX0_run_86 rfl rfl rfl ?_
    obtain ⟨Q3, hq, h⟩ := h
    refine vr_callVi 90 [.inr (some 39), .inl (v4 + 1), .inl v3, .inl r2, .inl v2] 36 [] dX0_run_87 rfl mc_X0_52 dn_X0_pass rfl rfl s_36 rfl (Nat.le_of_ble_eq_true rfl) (vx_rmR (by decide)) ⟨rfl, rfl⟩ ⟨Nat.le_refl _, Nat.le_refl _⟩ (fun _ _ => trivial) (fun _ _ => trivial) hq (fun r3 sh9 g3 hp _ _ => ?_)
    obtain ⟨e9, z9, e8, hp⟩ := hp
    subst e9
    cases e8
    replace h := h r3 g3 hp
    refine vr_istore_n 91 [some (.inr (some 36)), some (.inr (some 39)), some (.inl v2), some (.inl r3), some (.inl v4)] dX0_run_90 rfl rfl (by decide) rfl ?_
    obtain ⟨o4, h⟩ := h
    refine vr_iinc 94 [some (.inr (some 36)), some (.inr (some 39)), some (.inl v2), some (.inl r3), some (.inl (v4 + (-1)))] dX0_run_91 rfl rfl o4 (by decide) rfl ?_
    refine vr_goto 68 dX0_run_94 rfl ?_
    exact h
set_option maxRecDepth 100000 in
theorem tX0_ticksFor_0 {l : Launch} {d : Nat} {Q : Int → vx_M → Prop} (g : vx_M) (v1 : Int) (h : (0 ≤ v1 ∧ v1 < 7) ∧ vx_in (2 + (g 4 v1)) ∧ Q (2 + (g 4 v1)) g) : vN l mX0_ticksFor d (vx_pi SH Q) SH g 0 [some (.inr (some 36)), some (.inl v1)] [] := by
  refine vr_iconst 1 dX0_ticksFor_0 rfl ⟨by decide, by decide⟩ ?_
  refine vr_aload_n 2 dX0_ticksFor_1 rfl rfl rfl ?_
  refine vr_getr 5 0 cl_X0 fl_X0_25 (by decide) dX0_ticksFor_2 rfl s_36 rfl ?_
  refine vr_getr 8 2 cl_X4 fl_X0_56 (by decide) dX0_ticksFor_5 rfl s_1 rfl ?_
  refine vr_iload_n 9 dX0_ticksFor_8 rfl rfl rfl ?_
  obtain ⟨o1, h⟩ := h
  refine vr_iald 10 dX0_ticksFor_9 rfl s_4 o1.1 o1.2 ?_
  obtain ⟨o2, h⟩ := h
  refine vr_iadd 11 dX0_ticksFor_10 rfl o2 ?_
  exact vr_iret rfl (Nat.le_refl _) (Nat.le_refl _) dX0_ticksFor_11 ⟨rfl, _, rfl, h⟩
theorem kX0_ticksFor {l : Launch} {d : Nat} {Q : Int → vx_M → Prop} (g : vx_M) (v1 : Int) (h : (0 ≤ v1 ∧ v1 < 7) ∧ vx_in (2 + (g 4 v1)) ∧ Q (2 + (g 4 v1)) g) : vNi l mX0_ticksFor d [.inr (some 36), .inl v1] SH g Q := vNi_of [some (.inr (some 36)), some (.inl v1)] pn_X0 (Nat.le_of_ble_eq_true rfl) rfl (tX0_ticksFor_0 g v1 h)
set_option maxRecDepth 100000 in
theorem tX0_pass_0 {l : Launch} {d : Nat} {Q : Int → vx_M → Prop} (g : vx_M) (v2 v3 v4 v5 : Int) (h : vN l mX0_pass (d + 1) (vx_pi SH Q) SH g 3 [some (.inr (some 36)), some (.inr (some 39)), some (.inl v2), some (.inl v3), some (.inl v4), some (.inl v5), some (.inl 0), none] []) : vN l mX0_pass (d + 1) (vx_pi SH Q) SH g 0 [some (.inr (some 36)), some (.inr (some 39)), some (.inl v2), some (.inl v3), some (.inl v4), some (.inl v5), none, none] [] := by
  refine vr_iconst 1 dX0_pass_0 rfl ⟨by decide, by decide⟩ ?_
  refine vr_istore 3 [some (.inr (some 36)), some (.inr (some 39)), some (.inl v2), some (.inl v3), some (.inl v4), some (.inl v5), some (.inl 0), none] dX0_pass_1 rfl (by decide) rfl ?_
  exact h
theorem kX0_pass {l : Launch} {d : Nat} {Q : Int → vx_M → Prop} (g : vx_M) (v2 v3 v4 v5 : Int) (h : vN l mX0_pass (d + 1) (vx_pi SH Q) SH g 3 [some (.inr (some 36)), some (.inr (some 39)), some (.inl v2), some (.inl v3), some (.inl v4), some (.inl v5), some (.inl 0), none] []) : vNi l mX0_pass (d + 1) [.inr (some 36), .inr (some 39), .inl v2, .inl v3, .inl v4, .inl v5] SH g Q := vNi_of [some (.inr (some 36)), some (.inr (some 39)), some (.inl v2), some (.inl v3), some (.inl v4), some (.inl v5), none, none] pn_X0 (Nat.le_of_ble_eq_true rfl) rfl (tX0_pass_0 g v2 v3 v4 v5 h)
set_option maxRecDepth 100000 in
theorem tX0_pass_3 {l : Launch} {d : Nat} {Q : Int → vx_M → Prop} (g : vx_M) (v2 v3 v4 v5 v6 : Int) (h : (((g 1 5) ≤ v6 → vx_in (v3 + v4) ∧ vx_in (v3 + 1) ∧ vN l mX0_pass (d + 1) (vx_pi SH Q) SH g 50 [some (.inr (some 36)), some (.inr (some 39)), some (.inl v2), some (.inl v3), some (.inl v4), some (.inl v5), some (.inl (v3 + v4)), some (.inl (v3 + 1))] []) ∧ (¬ (g 1 5) ≤ v6 → (∃ Q3 : Int → vx_M → Prop, vNi l mX2_loadOn d [.inr (some 20), .inr (some 39), .inl v6, .inl v2] SH g Q3 ∧ ∀ (r3 : Int) (g3 : vx_M), Q3 r3 g3 → (0 ≤ v6 ∧ v6 < 7) ∧ vx_in (v6 + 1) ∧ vN l mX0_pass (d + 1) (vx_pi SH Q) SH (vx_u g3 37 v6 r3) 3 [some (.inr (some 36)), some (.inr (some 39)), some (.inl v2), some (.inl v3), some (.inl v4), some (.inl v5), some (.inl (v6 + 1)), none] [])))) : vN l mX0_pass (d + 1) (vx_pi SH Q) SH g 3 [some (.inr (some 36)), some (.inr (some 39)), some (.inl v2), some (.inl v3), some (.inl v4), some (.inl v5), some (.inl v6), none] [] := by
  refine vr_iload 5 dX0_pass_3 rfl rfl ?_
  refine vr_aload_n 6 dX0_pass_5 rfl rfl rfl ?_
  refine vr_getr 9 0 cl_X0 fl_X0_25 (by decide) dX0_pass_6 rfl s_36 rfl ?_
  refine vr_geti 12 5 5 cl_X4 fl_X0_37 (by decide) rfl dX0_pass_9 rfl s_1 rfl ?_
  refine vr_icmp_ge 39 15 dX0_pass_12 rfl rfl (fun c => ?_) (fun c => ?_)
  · replace h := h.1 c
    refine vr_iload_n 40 dX0_pass_39 rfl rfl rfl ?_
    refine vr_iload 42 dX0_pass_40 rfl rfl ?_
    obtain ⟨o1, h⟩ := h
    refine vr_iadd 43 dX0_pass_42 rfl o1 ?_
    refine vr_istore 45 [some (.inr (some 36)), some (.inr (some 39)), some (.inl v2), some (.inl v3), some (.inl v4), some (.inl v5), some (.inl (v3 + v4)), none] dX0_pass_43 rfl (by decide) rfl ?_
    refine vr_iload_n 46 dX0_pass_45 rfl rfl rfl ?_
    refine vr_iconst 47 dX0_pass_46 rfl ⟨by decide, by decide⟩ ?_
    obtain ⟨o2, h⟩ := h
    refine vr_iadd 48 dX0_pass_47 rfl o2 ?_
    refine vr_istore 50 [some (.inr (some 36)), some (.inr (some 39)), some (.inl v2), some (.inl v3), some (.inl v4), some (.inl v5), some (.inl (v3 + v4)), some (.inl (v3 + 1))] dX0_pass_48 rfl (by decide) rfl ?_
    exact h
  · replace h := h.2 c
    refine vr_aload_n 16 dX0_pass_15 rfl rfl rfl ?_
    refine vr_getr 19 3 cl_X0 fl_X0_9 (by decide) dX0_pass_16 rfl s_36 rfl ?_
    refine vr_iload 21 dX0_pass_19 rfl rfl ?_
    refine vr_aload_n 22 dX0_pass_21 rfl rfl rfl ?_
    refine vr_getr 25 2 cl_X0 fl_X0_33 (by decide) dX0_pass_22 rfl s_36 rfl ?_
    refine vr_aload_n 26 dX0_pass_25 rfl rfl rfl ?_
    refine vr_iload 28 dX0_pass_26 rfl rfl ?_
    refine vr_iload_n 29 dX0_pass_28 rfl rfl rfl ?_
    obtain ⟨Q3, hq, h⟩ := h
    refine vr_callVi 32 [.inr (some 39), .inl v6, .inl v2] 20 [.inl v6, .inr (some 37)] dX0_pass_29 rfl mc_X0_59 dn_X2_loadOn rfl rfl s_20 rfl (Nat.le_of_ble_eq_true rfl) (vx_rmR (by decide)) ⟨rfl, rfl⟩ ⟨Nat.le_refl _, Nat.le_refl _⟩ (fun _ _ => trivial) (fun _ _ => trivial) hq (fun r3 sh9 g3 hp _ _ => ?_)
    obtain ⟨e9, z9, e8, hp⟩ := hp
    subst e9
    cases e8
    replace h := h r3 g3 hp
    obtain ⟨o4, h⟩ := h
    refine vr_iast 33 dX0_pass_32 rfl s_37 o4.1 o4.2 ?_
    obtain ⟨o5, h⟩ := h
    refine vr_iinc 36 [some (.inr (some 36)), some (.inr (some 39)), some (.inl v2), some (.inl v3), some (.inl v4), some (.inl v5), some (.inl (v6 + 1)), none] dX0_pass_33 rfl rfl o5 (by decide) rfl ?_
    refine vr_goto 3 dX0_pass_36 rfl ?_
    exact h
set_option maxRecDepth 100000 in
theorem tX0_pass_50 {l : Launch} {d : Nat} {Q : Int → vx_M → Prop} (g : vx_M) (v2 v3 v4 v5 v6 v7 : Int) (h : ((v6 < v7 → Q v6 g) ∧ (¬ v6 < v7 → ((v5 < v7 → Q v6 g) ∧ (¬ v5 < v7 → (∃ Q1 : vx_M → Prop, vNv l mX0_tire d [.inr (some 36), .inr (some 39), .inl v7] SH g Q1 ∧ ∀ g1 : vx_M, Q1 g1 → vx_in (v7 + 1) ∧ vN l mX0_pass (d + 1) (vx_pi SH Q) SH g1 50 [some (.inr (some 36)), some (.inr (some 39)), some (.inl v2), some (.inl v3), some (.inl v4), some (.inl v5), some (.inl v6), some (.inl (v7 + 1))] [])))))) : vN l mX0_pass (d + 1) (vx_pi SH Q) SH g 50 [some (.inr (some 36)), some (.inr (some 39)), some (.inl v2), some (.inl v3), some (.inl v4), some (.inl v5), some (.inl v6), some (.inl v7)] [] := by
  refine vr_iload 52 dX0_pass_50 rfl rfl ?_
  refine vr_iload 54 dX0_pass_52 rfl rfl ?_
  refine vr_icmp_gt 77 57 dX0_pass_54 rfl rfl (fun c => ?_) (fun c => ?_)
  · replace h := h.1 c
    refine vr_iload 79 dX0_pass_77 rfl rfl ?_
    exact vr_iret rfl (Nat.le_refl _) (Nat.le_refl _) dX0_pass_79 ⟨rfl, _, rfl, h⟩
  · replace h := h.2 c
    refine vr_iload 59 dX0_pass_57 rfl rfl ?_
    refine vr_iload 61 dX0_pass_59 rfl rfl ?_
    refine vr_icmp_gt 77 64 dX0_pass_61 rfl rfl (fun c => ?_) (fun c => ?_)
    · replace h := h.1 c
      refine vr_iload 79 dX0_pass_77 rfl rfl ?_
      exact vr_iret rfl (Nat.le_refl _) (Nat.le_refl _) dX0_pass_79 ⟨rfl, _, rfl, h⟩
    · replace h := h.2 c
      refine vr_aload_n 65 dX0_pass_64 rfl rfl rfl ?_
      refine vr_aload_n 66 dX0_pass_65 rfl rfl rfl ?_
      refine vr_iload 68 dX0_pass_66 rfl rfl ?_
      obtain ⟨Q1, hq, h⟩ := h
      refine vr_callVv 71 [.inr (some 39), .inl v7] 36 [] dX0_pass_68 rfl mc_X0_65 dn_X0_tire rfl rfl s_36 rfl (Nat.le_of_ble_eq_true rfl) (vx_rmR (by decide)) ⟨rfl, rfl⟩ ⟨Nat.le_refl _, Nat.le_refl _⟩ (fun _ _ => trivial) (fun _ _ => trivial) hq (fun sh9 g1 hp _ => ?_)
      obtain ⟨e9, -, hp⟩ := hp
      subst e9
      replace h := h g1 hp
      obtain ⟨o2, h⟩ := h
      refine vr_iinc 74 [some (.inr (some 36)), some (.inr (some 39)), some (.inl v2), some (.inl v3), some (.inl v4), some (.inl v5), some (.inl v6), some (.inl (v7 + 1))] dX0_pass_71 rfl rfl o2 (by decide) rfl ?_
      refine vr_goto 50 dX0_pass_74 rfl ?_
      exact h
set_option maxRecDepth 100000 in
theorem tX0_tire_0 {l : Launch} {d : Nat} {Q : vx_M → Prop} (g : vx_M) (v2 : Int) (h : vN l mX0_tire d (vx_pv SH Q) SH g 2 [some (.inr (some 36)), some (.inr (some 39)), some (.inl v2), some (.inl 0)] []) : vN l mX0_tire d (vx_pv SH Q) SH g 0 [some (.inr (some 36)), some (.inr (some 39)), some (.inl v2), none] [] := by
  refine vr_iconst 1 dX0_tire_0 rfl ⟨by decide, by decide⟩ ?_
  refine vr_istore_n 2 [some (.inr (some 36)), some (.inr (some 39)), some (.inl v2), some (.inl 0)] dX0_tire_1 rfl rfl (by decide) rfl ?_
  exact h
theorem kX0_tire {l : Launch} {d : Nat} {Q : vx_M → Prop} (g : vx_M) (v2 : Int) (h : vN l mX0_tire d (vx_pv SH Q) SH g 2 [some (.inr (some 36)), some (.inr (some 39)), some (.inl v2), some (.inl 0)] []) : vNv l mX0_tire d [.inr (some 36), .inr (some 39), .inl v2] SH g Q := vNv_of [some (.inr (some 36)), some (.inr (some 39)), some (.inl v2), none] pn_X0 (Nat.le_of_ble_eq_true rfl) rfl (tX0_tire_0 g v2 h)
set_option maxRecDepth 100000 in
theorem tX0_tire_2 {l : Launch} {d : Nat} {Q : vx_M → Prop} (g : vx_M) (v2 v3 : Int) (h : (((g 1 5) ≤ v3 → Q g) ∧ (¬ (g 1 5) ≤ v3 → (0 ≤ v3 ∧ v3 < 7) ∧ (0 ≤ v3 ∧ v3 < 7) ∧ vx_in ((g 38 v3) + (g 37 v3)) ∧ (0 ≤ v3 ∧ v3 < 7) ∧ ((¬ (g 36 5) = (-1) → vx_in (v3 + 1) ∧ vN l mX0_tire d (vx_pv SH Q) SH (vx_u g 38 v3 ((g 38 v3) + (g 37 v3))) 2 [some (.inr (some 36)), some (.inr (some 39)), some (.inl v2), some (.inl (v3 + 1))] []) ∧ ((g 36 5) = (-1) → (0 ≤ v3 ∧ v3 < 7) ∧ (0 ≤ v3 ∧ v3 < 7) ∧ (0 ≤ g 39 v3 ∧ g 39 v3 < 8) ∧ vx_in (8 * (g 18 (g 39 v3))) ∧ ((((vx_u g 38 v3 ((g 38 v3) + (g 37 v3))) 38 v3) ≤ (8 * (g 18 (g 39 v3))) → vx_in (v3 + 1) ∧ vN l mX0_tire d (vx_pv SH Q) SH (vx_u g 38 v3 ((g 38 v3) + (g 37 v3))) 2 [some (.inr (some 36)), some (.inr (some 39)), some (.inl v2), some (.inl (v3 + 1))] []) ∧ (¬ ((vx_u g 38 v3 ((g 38 v3) + (g 37 v3))) 38 v3) ≤ (8 * (g 18 (g 39 v3))) → vx_in (v3 + 1) ∧ vN l mX0_tire d (vx_pv SH Q) SH (vx_u (vx_u (vx_u g 38 v3 ((g 38 v3) + (g 37 v3))) 36 5 v2) 36 6 v3) 2 [some (.inr (some 36)), some (.inr (some 39)), some (.inl v2), some (.inl (v3 + 1))] []))))))) : vN l mX0_tire d (vx_pv SH Q) SH g 2 [some (.inr (some 36)), some (.inr (some 39)), some (.inl v2), some (.inl v3)] [] := by
  refine vr_iload_n 3 dX0_tire_2 rfl rfl rfl ?_
  refine vr_aload_n 4 dX0_tire_3 rfl rfl rfl ?_
  refine vr_getr 7 0 cl_X0 fl_X0_25 (by decide) dX0_tire_4 rfl s_36 rfl ?_
  refine vr_geti 10 5 5 cl_X4 fl_X0_37 (by decide) rfl dX0_tire_7 rfl s_1 rfl ?_
  refine vr_icmp_ge 75 13 dX0_tire_10 rfl rfl (fun c => ?_) (fun c => ?_)
  · replace h := h.1 c
    exact vr_vret rfl (Nat.le_refl _) (Nat.le_refl _) dX0_tire_75 ⟨rfl, rfl, h⟩
  · replace h := h.2 c
    refine vr_aload_n 14 dX0_tire_13 rfl rfl rfl ?_
    refine vr_getr 17 4 cl_X0 fl_X0_15 (by decide) dX0_tire_14 rfl s_36 rfl ?_
    refine vr_iload_n 18 dX0_tire_17 rfl rfl rfl ?_
    refine vr_dup2 19 dX0_tire_18 rfl ?_
    obtain ⟨o1, h⟩ := h
    refine vr_iald 20 dX0_tire_19 rfl s_38 o1.1 o1.2 ?_
    refine vr_aload_n 21 dX0_tire_20 rfl rfl rfl ?_
    refine vr_getr 24 3 cl_X0 fl_X0_9 (by decide) dX0_tire_21 rfl s_36 rfl ?_
    refine vr_iload_n 25 dX0_tire_24 rfl rfl rfl ?_
    obtain ⟨o2, h⟩ := h
    refine vr_iald 26 dX0_tire_25 rfl s_37 o2.1 o2.2 ?_
    obtain ⟨o3, h⟩ := h
    refine vr_iadd 27 dX0_tire_26 rfl o3 ?_
    obtain ⟨o4, h⟩ := h
    refine vr_iast 28 dX0_tire_27 rfl s_38 o4.1 o4.2 ?_
    refine vr_aload_n 29 dX0_tire_28 rfl rfl rfl ?_
    refine vr_geti 32 5 5 cl_X0 fl_X0_18 (by decide) rfl dX0_tire_29 rfl s_36 rfl ?_
    refine vr_iconst 33 dX0_tire_32 rfl ⟨by decide, by decide⟩ ?_
    refine vr_icmp_ne 69 36 dX0_tire_33 rfl rfl (fun c => ?_) (fun c => ?_)
    · replace h := h.1 c
      obtain ⟨o5, h⟩ := h
      refine vr_iinc 72 [some (.inr (some 36)), some (.inr (some 39)), some (.inl v2), some (.inl (v3 + 1))] dX0_tire_69 rfl rfl o5 (by decide) rfl ?_
      refine vr_goto 2 dX0_tire_72 rfl ?_
      exact h
    · replace h := h.2 c
      refine vr_aload_n 37 dX0_tire_36 rfl rfl rfl ?_
      refine vr_getr 40 4 cl_X0 fl_X0_15 (by decide) dX0_tire_37 rfl s_36 rfl ?_
      refine vr_iload_n 41 dX0_tire_40 rfl rfl rfl ?_
      obtain ⟨o6, h⟩ := h
      refine vr_iald 42 dX0_tire_41 rfl s_38 o6.1 o6.2 ?_
      refine vr_bipush 44 dX0_tire_42 rfl (by decide) ⟨by decide, by decide⟩ ?_
      refine vr_aload_n 45 dX0_tire_44 rfl rfl rfl ?_
      refine vr_getr 48 1 cl_X0 fl_X0_29 (by decide) dX0_tire_45 rfl s_36 rfl ?_
      refine vr_getr 51 4 cl_X1 fl_X0_68 (by decide) dX0_tire_48 rfl s_13 rfl ?_
      refine vr_aload_n 52 dX0_tire_51 rfl rfl rfl ?_
      refine vr_iload_n 53 dX0_tire_52 rfl rfl rfl ?_
      obtain ⟨o7, h⟩ := h
      refine vr_iald 54 dX0_tire_53 rfl s_39 o7.1 o7.2 ?_
      obtain ⟨o8, h⟩ := h
      refine vr_iald 55 dX0_tire_54 rfl s_18 o8.1 o8.2 ?_
      obtain ⟨o9, h⟩ := h
      refine vr_imul 56 dX0_tire_55 rfl o9 ?_
      refine vr_icmp_le 69 59 dX0_tire_56 rfl rfl (fun c => ?_) (fun c => ?_)
      · replace h := h.1 c
        obtain ⟨o10, h⟩ := h
        refine vr_iinc 72 [some (.inr (some 36)), some (.inr (some 39)), some (.inl v2), some (.inl (v3 + 1))] dX0_tire_69 rfl rfl o10 (by decide) rfl ?_
        refine vr_goto 2 dX0_tire_72 rfl ?_
        exact h
      · replace h := h.2 c
        refine vr_aload_n 60 dX0_tire_59 rfl rfl rfl ?_
        refine vr_iload_n 61 dX0_tire_60 rfl rfl rfl ?_
        refine vr_puti 64 5 5 cl_X0 fl_X0_18 (by decide) rfl rfl rfl dX0_tire_61 rfl s_36 rfl ?_
        refine vr_aload_n 65 dX0_tire_64 rfl rfl rfl ?_
        refine vr_iload_n 66 dX0_tire_65 rfl rfl rfl ?_
        refine vr_puti 69 6 6 cl_X0 fl_X0_22 (by decide) rfl rfl rfl dX0_tire_66 rfl s_36 rfl ?_
        obtain ⟨o11, h⟩ := h
        refine vr_iinc 72 [some (.inr (some 36)), some (.inr (some 39)), some (.inl v2), some (.inl (v3 + 1))] dX0_tire_69 rfl rfl o11 (by decide) rfl ?_
        refine vr_goto 2 dX0_tire_72 rfl ?_
        exact h

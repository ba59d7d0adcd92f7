set_option maxRecDepth 100000 in
theorem tX5_storeys_0 {l : Launch} {d : Nat} {Q : Int → vx_M → Prop} (g : vx_M) (v1 : Int) (h : (∃ Q1 : Int → vx_M → Prop, vNi l mX5_within d [.inl v1, .inl 1, .inl 4] SH g Q1 ∧ ∀ (r1 : Int) (g1 : vx_M), Q1 r1 g1 → ((¬ r1 = 0 → (∃ Q2 : Int → vx_M → Prop, vNi l mX4_placesUpTo d [.inr (some 1), .inl v1] SH g1 Q2 ∧ ∀ (r2 : Int) (g2 : vx_M), Q2 r2 g2 → ((r2 ≤ 7 → (∃ Q3 : vx_M → Prop, vNv l mX4_build d [.inr (some 1), .inl v1] SH g2 Q3 ∧ ∀ g3 : vx_M, Q3 g3 → (∃ Q4 : vx_M → Prop, vNv l mX5_endPlacing d [.inr (some 0)] SH g3 Q4 ∧ ∀ g4 : vx_M, Q4 g4 → Q (g4 1 5) g4))) ∧ (¬ r2 ≤ 7 → Q (-4) g2)))) ∧ (r1 = 0 → Q (-3) g1)))) : vN l mX5_storeys (d + 1) (vx_pi SH Q) SH g 0 [some (.inr (some 0)), some (.inl v1)] [] := by
  refine vr_iload_n 1 dX5_storeys_0 rfl rfl rfl ?_
  refine vr_iconst 2 dX5_storeys_1 rfl ⟨by decide, by decide⟩ ?_
  refine vr_iconst 3 dX5_storeys_2 rfl ⟨by decide, by decide⟩ ?_
  obtain ⟨Q1, hq, h⟩ := h
  refine vr_callSi 6 [.inl v1, .inl 1, .inl 4] [] dX5_storeys_3 rfl mc_X5_72 dn_X5_within rfl rfl (Nat.le_of_ble_eq_true rfl) (vx_rmR (by decide)) ⟨rfl, rfl⟩ ⟨Nat.le_refl _, Nat.le_refl _⟩ (fun _ _ => trivial) (fun _ _ => trivial) hq (fun r1 sh9 g1 hp _ _ => ?_)
  obtain ⟨e9, z9, e8, hp⟩ := hp
  subst e9
  cases e8
  replace h := h r1 g1 hp
  refine vr_if_ne 12 9 dX5_storeys_6 rfl rfl (fun c => ?_) (fun c => ?_)
  · replace h := h.1 c
    refine vr_aload_n 13 dX5_storeys_12 rfl rfl rfl ?_
    refine vr_getr 16 0 cl_X5 fl_X5_10 (by decide) dX5_storeys_13 rfl s_0 rfl ?_
    refine vr_iload_n 17 dX5_storeys_16 rfl rfl rfl ?_
    obtain ⟨Q2, hq, h⟩ := h
    refine vr_callVi 20 [.inl v1] 1 [] dX5_storeys_17 rfl mc_X5_76 dn_X4_placesUpTo rfl rfl s_1 rfl (Nat.le_of_ble_eq_true rfl) (vx_rmR (by decide)) ⟨rfl, rfl⟩ ⟨Nat.le_refl _, Nat.le_refl _⟩ (fun _ _ => trivial) (fun _ _ => trivial) hq (fun r2 sh9 g2 hp _ _ => ?_)
    obtain ⟨e9, z9, e8, hp⟩ := hp
    subst e9
    cases e8
    replace h := h r2 g2 hp
    refine vr_bipush 22 dX5_storeys_20 rfl (by decide) ⟨by decide, by decide⟩ ?_
    refine vr_icmp_le 28 25 dX5_storeys_22 rfl rfl (fun c => ?_) (fun c => ?_)
    · replace h := h.1 c
      refine vr_aload_n 29 dX5_storeys_28 rfl rfl rfl ?_
      refine vr_getr 32 0 cl_X5 fl_X5_10 (by decide) dX5_storeys_29 rfl s_0 rfl ?_
      refine vr_iload_n 33 dX5_storeys_32 rfl rfl rfl ?_
      obtain ⟨Q3, hq, h⟩ := h
      refine vr_callVv 36 [.inl v1] 1 [] dX5_storeys_33 rfl mc_X5_80 dn_X4_build rfl rfl s_1 rfl (Nat.le_of_ble_eq_true rfl) (vx_rmR (by decide)) ⟨rfl, rfl⟩ ⟨Nat.le_refl _, Nat.le_refl _⟩ (fun _ _ => trivial) (fun _ _ => trivial) hq (fun sh9 g3 hp _ => ?_)
      obtain ⟨e9, -, hp⟩ := hp
      subst e9
      replace h := h g3 hp
      refine vr_aload_n 37 dX5_storeys_36 rfl rfl rfl ?_
      obtain ⟨Q4, hq, h⟩ := h
      refine vr_callVv 40 [] 0 [] dX5_storeys_37 rfl mc_X5_84 dn_X5_endPlacing rfl rfl s_0 rfl (Nat.le_of_ble_eq_true rfl) (vx_rmR (by decide)) ⟨rfl, rfl⟩ ⟨Nat.le_refl _, Nat.le_refl _⟩ (fun _ _ => trivial) (fun _ _ => trivial) hq (fun sh9 g4 hp _ => ?_)
      obtain ⟨e9, -, hp⟩ := hp
      subst e9
      replace h := h g4 hp
      refine vr_aload_n 41 dX5_storeys_40 rfl rfl rfl ?_
      refine vr_getr 44 0 cl_X5 fl_X5_10 (by decide) dX5_storeys_41 rfl s_0 rfl ?_
      refine vr_geti 47 5 5 cl_X4 fl_X5_87 (by decide) rfl dX5_storeys_44 rfl s_1 rfl ?_
      exact vr_iret rfl (Nat.le_refl _) (Nat.le_refl _) dX5_storeys_47 ⟨rfl, _, rfl, h⟩
    · replace h := h.2 c
      refine vr_bipush 27 dX5_storeys_25 rfl (by decide) ⟨by decide, by decide⟩ ?_
      exact vr_iret rfl (Nat.le_refl _) (Nat.le_refl _) dX5_storeys_27 ⟨rfl, _, rfl, h⟩
  · replace h := h.2 c
    refine vr_bipush 11 dX5_storeys_9 rfl (by decide) ⟨by decide, by decide⟩ ?_
    exact vr_iret rfl (Nat.le_refl _) (Nat.le_refl _) dX5_storeys_11 ⟨rfl, _, rfl, h⟩
theorem kX5_storeys {l : Launch} {d : Nat} {Q : Int → vx_M → Prop} (g : vx_M) (v1 : Int) (h : (∃ Q1 : Int → vx_M → Prop, vNi l mX5_within d [.inl v1, .inl 1, .inl 4] SH g Q1 ∧ ∀ (r1 : Int) (g1 : vx_M), Q1 r1 g1 → ((¬ r1 = 0 → (∃ Q2 : Int → vx_M → Prop, vNi l mX4_placesUpTo d [.inr (some 1), .inl v1] SH g1 Q2 ∧ ∀ (r2 : Int) (g2 : vx_M), Q2 r2 g2 → ((r2 ≤ 7 → (∃ Q3 : vx_M → Prop, vNv l mX4_build d [.inr (some 1), .inl v1] SH g2 Q3 ∧ ∀ g3 : vx_M, Q3 g3 → (∃ Q4 : vx_M → Prop, vNv l mX5_endPlacing d [.inr (some 0)] SH g3 Q4 ∧ ∀ g4 : vx_M, Q4 g4 → Q (g4 1 5) g4))) ∧ (¬ r2 ≤ 7 → Q (-4) g2)))) ∧ (r1 = 0 → Q (-3) g1)))) : vNi l mX5_storeys (d + 1) [.inr (some 0), .inl v1] SH g Q := vNi_of [some (.inr (some 0)), some (.inl v1)] pn_X5 (Nat.le_of_ble_eq_true rfl) rfl (tX5_storeys_0 g v1 h)
set_option maxRecDepth 100000 in
theorem tX5_width_0 {l : Launch} {d : Nat} {Q : Int → vx_M → Prop} (g : vx_M) (v1 v2 : Int) (h : ((v1 < 0 → Q (-2) g) ∧ (¬ v1 < 0 → ((v1 < 4 → (∃ Q1 : Int → vx_M → Prop, vNi l mX5_within d [.inl v2, .inl 1, .inl 3] SH g Q1 ∧ ∀ (r1 : Int) (g1 : vx_M), Q1 r1 g1 → ((¬ r1 = 0 → (0 ≤ v1 ∧ v1 < 4) ∧ (((g1 1 4) ≤ v1 → vN l mX5_width (d + 1) (vx_pi SH Q) SH g1 64 [some (.inr (some 0)), some (.inl v1), some (.inl v2), some (.inl (g1 2 v1))] []) ∧ (¬ (g1 1 4) ≤ v1 → vx_in ((g1 1 5) - (g1 2 v1)) ∧ vx_in (((g1 1 5) - (g1 2 v1)) + v2) ∧ (((((g1 1 5) - (g1 2 v1)) + v2) ≤ 7 → vN l mX5_width (d + 1) (vx_pi SH Q) SH g1 64 [some (.inr (some 0)), some (.inl v1), some (.inl v2), some (.inl (g1 2 v1))] []) ∧ (¬ (((g1 1 5) - (g1 2 v1)) + v2) ≤ 7 → Q (-4) g1))))) ∧ (r1 = 0 → Q (-3) g1)))) ∧ (¬ v1 < 4 → Q (-2) g))))) : vN l mX5_width (d + 1) (vx_pi SH Q) SH g 0 [some (.inr (some 0)), some (.inl v1), some (.inl v2), none] [] := by
  refine vr_iload_n 1 dX5_width_0 rfl rfl rfl ?_
  refine vr_if_lt 9 4 dX5_width_1 rfl rfl (fun c => ?_) (fun c => ?_)
  · replace h := h.1 c
    refine vr_bipush 11 dX5_width_9 rfl (by decide) ⟨by decide, by decide⟩ ?_
    exact vr_iret rfl (Nat.le_refl _) (Nat.le_refl _) dX5_width_11 ⟨rfl, _, rfl, h⟩
  · replace h := h.2 c
    refine vr_iload_n 5 dX5_width_4 rfl rfl rfl ?_
    refine vr_iconst 6 dX5_width_5 rfl ⟨by decide, by decide⟩ ?_
    refine vr_icmp_lt 12 9 dX5_width_6 rfl rfl (fun c => ?_) (fun c => ?_)
    · replace h := h.1 c
      refine vr_iload_n 13 dX5_width_12 rfl rfl rfl ?_
      refine vr_iconst 14 dX5_width_13 rfl ⟨by decide, by decide⟩ ?_
      refine vr_iconst 15 dX5_width_14 rfl ⟨by decide, by decide⟩ ?_
      obtain ⟨Q1, hq, h⟩ := h
      refine vr_callSi 18 [.inl v2, .inl 1, .inl 3] [] dX5_width_15 rfl mc_X5_72 dn_X5_within rfl rfl (Nat.le_of_ble_eq_true rfl) (vx_rmR (by decide)) ⟨rfl, rfl⟩ ⟨Nat.le_refl _, Nat.le_refl _⟩ (fun _ _ => trivial) (fun _ _ => trivial) hq (fun r1 sh9 g1 hp _ _ => ?_)
      obtain ⟨e9, z9, e8, hp⟩ := hp
      subst e9
      cases e8
      replace h := h r1 g1 hp
      refine vr_if_ne 24 21 dX5_width_18 rfl rfl (fun c => ?_) (fun c => ?_)
      · replace h := h.1 c
        refine vr_aload_n 25 dX5_width_24 rfl rfl rfl ?_
        refine vr_getr 28 0 cl_X5 fl_X5_10 (by decide) dX5_width_25 rfl s_0 rfl ?_
        refine vr_getr 31 0 cl_X4 fl_X5_90 (by decide) dX5_width_28 rfl s_1 rfl ?_
        refine vr_iload_n 32 dX5_width_31 rfl rfl rfl ?_
        obtain ⟨o2, h⟩ := h
        refine vr_iald 33 dX5_width_32 rfl s_2 o2.1 o2.2 ?_
        refine vr_istore_n 34 [some (.inr (some 0)), some (.inl v1), some (.inl v2), some (.inl (g1 2 v1))] dX5_width_33 rfl rfl (by decide) rfl ?_
        refine vr_iload_n 35 dX5_width_34 rfl rfl rfl ?_
        refine vr_aload_n 36 dX5_width_35 rfl rfl rfl ?_
        refine vr_getr 39 0 cl_X5 fl_X5_10 (by decide) dX5_width_36 rfl s_0 rfl ?_
        refine vr_geti 42 4 4 cl_X4 fl_X5_93 (by decide) rfl dX5_width_39 rfl s_1 rfl ?_
        refine vr_icmp_ge 64 45 dX5_width_42 rfl rfl (fun c => ?_) (fun c => ?_)
        · replace h := h.1 c
          exact h
        · replace h := h.2 c
          refine vr_aload_n 46 dX5_width_45 rfl rfl rfl ?_
          refine vr_getr 49 0 cl_X5 fl_X5_10 (by decide) dX5_width_46 rfl s_0 rfl ?_
          refine vr_geti 52 5 5 cl_X4 fl_X5_87 (by decide) rfl dX5_width_49 rfl s_1 rfl ?_
          refine vr_iload_n 53 dX5_width_52 rfl rfl rfl ?_
          obtain ⟨o3, h⟩ := h
          refine vr_isub 54 dX5_width_53 rfl o3 ?_
          refine vr_iload_n 55 dX5_width_54 rfl rfl rfl ?_
          obtain ⟨o4, h⟩ := h
          refine vr_iadd 56 dX5_width_55 rfl o4 ?_
          refine vr_bipush 58 dX5_width_56 rfl (by decide) ⟨by decide, by decide⟩ ?_
          refine vr_icmp_le 64 61 dX5_width_58 rfl rfl (fun c => ?_) (fun c => ?_)
          · replace h := h.1 c
            exact h
          · replace h := h.2 c
            refine vr_bipush 63 dX5_width_61 rfl (by decide) ⟨by decide, by decide⟩ ?_
            exact vr_iret rfl (Nat.le_refl _) (Nat.le_refl _) dX5_width_63 ⟨rfl, _, rfl, h⟩
      · replace h := h.2 c
        refine vr_bipush 23 dX5_width_21 rfl (by decide) ⟨by decide, by decide⟩ ?_
        exact vr_iret rfl (Nat.le_refl _) (Nat.le_refl _) dX5_width_23 ⟨rfl, _, rfl, h⟩
    · replace h := h.2 c
      refine vr_bipush 11 dX5_width_9 rfl (by decide) ⟨by decide, by decide⟩ ?_
      exact vr_iret rfl (Nat.le_refl _) (Nat.le_refl _) dX5_width_11 ⟨rfl, _, rfl, h⟩
theorem kX5_width {l : Launch} {d : Nat} {Q : Int → vx_M → Prop} (g : vx_M) (v1 v2 : Int) (h : ((v1 < 0 → Q (-2) g) ∧ (¬ v1 < 0 → ((v1 < 4 → (∃ Q1 : Int → vx_M → Prop, vNi l mX5_within d [.inl v2, .inl 1, .inl 3] SH g Q1 ∧ ∀ (r1 : Int) (g1 : vx_M), Q1 r1 g1 → ((¬ r1 = 0 → (0 ≤ v1 ∧ v1 < 4) ∧ (((g1 1 4) ≤ v1 → vN l mX5_width (d + 1) (vx_pi SH Q) SH g1 64 [some (.inr (some 0)), some (.inl v1), some (.inl v2), some (.inl (g1 2 v1))] []) ∧ (¬ (g1 1 4) ≤ v1 → vx_in ((g1 1 5) - (g1 2 v1)) ∧ vx_in (((g1 1 5) - (g1 2 v1)) + v2) ∧ (((((g1 1 5) - (g1 2 v1)) + v2) ≤ 7 → vN l mX5_width (d + 1) (vx_pi SH Q) SH g1 64 [some (.inr (some 0)), some (.inl v1), some (.inl v2), some (.inl (g1 2 v1))] []) ∧ (¬ (((g1 1 5) - (g1 2 v1)) + v2) ≤ 7 → Q (-4) g1))))) ∧ (r1 = 0 → Q (-3) g1)))) ∧ (¬ v1 < 4 → Q (-2) g))))) : vNi l mX5_width (d + 1) [.inr (some 0), .inl v1, .inl v2] SH g Q := vNi_of [some (.inr (some 0)), some (.inl v1), some (.inl v2), none] pn_X5 (Nat.le_of_ble_eq_true rfl) rfl (tX5_width_0 g v1 v2 h)
set_option maxRecDepth 100000 in
theorem tX5_width_64 {l : Launch} {d : Nat} {Q : Int → vx_M → Prop} (g : vx_M) (v1 v2 v3 : Int) (h : (0 ≤ v1 ∧ v1 < 4) ∧ (∃ Q2 : vx_M → Prop, vNv l mX4_build d [.inr (some 1), .inl (g 1 4)] SH (vx_u g 2 v1 v2) Q2 ∧ ∀ g2 : vx_M, Q2 g2 → (∃ Q3 : vx_M → Prop, vNv l mX5_endPlacing d [.inr (some 0)] SH g2 Q3 ∧ ∀ g3 : vx_M, Q3 g3 → Q v3 g3))) : vN l mX5_width (d + 1) (vx_pi SH Q) SH g 64 [some (.inr (some 0)), some (.inl v1), some (.inl v2), some (.inl v3)] [] := by
  refine vr_aload_n 65 dX5_width_64 rfl rfl rfl ?_
  refine vr_getr 68 0 cl_X5 fl_X5_10 (by decide) dX5_width_65 rfl s_0 rfl ?_
  refine vr_getr 71 0 cl_X4 fl_X5_90 (by decide) dX5_width_68 rfl s_1 rfl ?_
  refine vr_iload_n 72 dX5_width_71 rfl rfl rfl ?_
  refine vr_iload_n 73 dX5_width_72 rfl rfl rfl ?_
  obtain ⟨o1, h⟩ := h
  refine vr_iast 74 dX5_width_73 rfl s_2 o1.1 o1.2 ?_
  refine vr_aload_n 75 dX5_width_74 rfl rfl rfl ?_
  refine vr_getr 78 0 cl_X5 fl_X5_10 (by decide) dX5_width_75 rfl s_0 rfl ?_
  refine vr_aload_n 79 dX5_width_78 rfl rfl rfl ?_
  refine vr_getr 82 0 cl_X5 fl_X5_10 (by decide) dX5_width_79 rfl s_0 rfl ?_
  refine vr_geti 85 4 4 cl_X4 fl_X5_93 (by decide) rfl dX5_width_82 rfl s_1 rfl ?_
  obtain ⟨Q2, hq, h⟩ := h
  refine vr_callVv 88 [.inl (g 1 4)] 1 [] dX5_width_85 rfl mc_X5_80 dn_X4_build rfl rfl s_1 rfl (Nat.le_of_ble_eq_true rfl) (vx_rmR (by decide)) ⟨rfl, rfl⟩ ⟨Nat.le_refl _, Nat.le_refl _⟩ (fun _ _ => trivial) (fun _ _ => trivial) hq (fun sh9 g2 hp _ => ?_)
  obtain ⟨e9, -, hp⟩ := hp
  subst e9
  replace h := h g2 hp
  refine vr_aload_n 89 dX5_width_88 rfl rfl rfl ?_
  obtain ⟨Q3, hq, h⟩ := h
  refine vr_callVv 92 [] 0 [] dX5_width_89 rfl mc_X5_84 dn_X5_endPlacing rfl rfl s_0 rfl (Nat.le_of_ble_eq_true rfl) (vx_rmR (by decide)) ⟨rfl, rfl⟩ ⟨Nat.le_refl _, Nat.le_refl _⟩ (fun _ _ => trivial) (fun _ _ => trivial) hq (fun sh9 g3 hp _ => ?_)
  obtain ⟨e9, -, hp⟩ := hp
  subst e9
  replace h := h g3 hp
  refine vr_iload_n 93 dX5_width_92 rfl rfl rfl ?_
  exact vr_iret rfl (Nat.le_refl _) (Nat.le_refl _) dX5_width_93 ⟨rfl, _, rfl, h⟩
set_option maxRecDepth 100000 in
theorem tX5_person_0 {l : Launch} {d : Nat} {Q : Int → vx_M → Prop} (g : vx_M) (v1 v2 v3 v4 v5 : Int) (h : (∃ Q1 : Int → vx_M → Prop, vNi l mX5_within d [.inl v1, .inl 100, .inl 200] SH g Q1 ∧ ∀ (r1 : Int) (g1 : vx_M), Q1 r1 g1 → ((r1 = 0 → Q (-3) g1) ∧ (¬ r1 = 0 → (∃ Q2 : Int → vx_M → Prop, vNi l mX5_within d [.inl v2, .inl 20, .inl 120] SH g1 Q2 ∧ ∀ (r2 : Int) (g2 : vx_M), Q2 r2 g2 → ((r2 = 0 → Q (-3) g2) ∧ (¬ r2 = 0 → (∃ Q3 : Int → vx_M → Prop, vNi l mX5_within d [.inl v3, .inl 0, .inl 400] SH g2 Q3 ∧ ∀ (r3 : Int) (g3 : vx_M), Q3 r3 g3 → ((r3 = 0 → Q (-3) g3) ∧ (¬ r3 = 0 → (∃ Q4 : Int → vx_M → Prop, vNi l mX5_within d [.inl v4, .inl 0, .inl 3] SH g3 Q4 ∧ ∀ (r4 : Int) (g4 : vx_M), Q4 r4 g4 → ((r4 = 0 → Q (-3) g4) ∧ (¬ r4 = 0 → (∃ Q5 : Int → vx_M → Prop, vNi l mX5_within d [.inl v5, .inl 0, .inl 20000] SH g4 Q5 ∧ ∀ (r5 : Int) (g5 : vx_M), Q5 r5 g5 → ((¬ r5 = 0 → (∃ Q6 : Int → vx_M → Prop, vNi l mX1_add d [.inr (some 13), .inl v1, .inl v2, .inl v3, .inl v4, .inl v5] SH g5 Q6 ∧ ∀ (r6 : Int) (g6 : vx_M), Q6 r6 g6 → Q r6 g6)) ∧ (r5 = 0 → Q (-3) g5)))))))))))))))) : vN l mX5_person (d + 1) (vx_pi SH Q) SH g 0 [some (.inr (some 0)), some (.inl v1), some (.inl v2), some (.inl v3), some (.inl v4), some (.inl v5)] [] := by
  refine vr_iload_n 1 dX5_person_0 rfl rfl rfl ?_
  refine vr_bipush 3 dX5_person_1 rfl (by decide) ⟨by decide, by decide⟩ ?_
  refine vr_sipush 6 dX5_person_3 rfl (by decide) ⟨by decide, by decide⟩ ?_
  obtain ⟨Q1, hq, h⟩ := h
  refine vr_callSi 9 [.inl v1, .inl 100, .inl 200] [] dX5_person_6 rfl mc_X5_72 dn_X5_within rfl rfl (Nat.le_of_ble_eq_true rfl) (vx_rmR (by decide)) ⟨rfl, rfl⟩ ⟨Nat.le_refl _, Nat.le_refl _⟩ (fun _ _ => trivial) (fun _ _ => trivial) hq (fun r1 sh9 g1 hp _ _ => ?_)
  obtain ⟨e9, z9, e8, hp⟩ := hp
  subst e9
  cases e8
  replace h := h r1 g1 hp
  refine vr_if_eq 56 12 dX5_person_9 rfl rfl (fun c => ?_) (fun c => ?_)
  · replace h := h.1 c
    refine vr_bipush 58 dX5_person_56 rfl (by decide) ⟨by decide, by decide⟩ ?_
    exact vr_iret rfl (Nat.le_refl _) (Nat.le_refl _) dX5_person_58 ⟨rfl, _, rfl, h⟩
  · replace h := h.2 c
    refine vr_iload_n 13 dX5_person_12 rfl rfl rfl ?_
    refine vr_bipush 15 dX5_person_13 rfl (by decide) ⟨by decide, by decide⟩ ?_
    refine vr_bipush 17 dX5_person_15 rfl (by decide) ⟨by decide, by decide⟩ ?_
    obtain ⟨Q2, hq, h⟩ := h
    refine vr_callSi 20 [.inl v2, .inl 20, .inl 120] [] dX5_person_17 rfl mc_X5_72 dn_X5_within rfl rfl (Nat.le_of_ble_eq_true rfl) (vx_rmR (by decide)) ⟨rfl, rfl⟩ ⟨Nat.le_refl _, Nat.le_refl _⟩ (fun _ _ => trivial) (fun _ _ => trivial) hq (fun r2 sh9 g2 hp _ _ => ?_)
    obtain ⟨e9, z9, e8, hp⟩ := hp
    subst e9
    cases e8
    replace h := h r2 g2 hp
    refine vr_if_eq 56 23 dX5_person_20 rfl rfl (fun c => ?_) (fun c => ?_)
    · replace h := h.1 c
      refine vr_bipush 58 dX5_person_56 rfl (by decide) ⟨by decide, by decide⟩ ?_
      exact vr_iret rfl (Nat.le_refl _) (Nat.le_refl _) dX5_person_58 ⟨rfl, _, rfl, h⟩
    · replace h := h.2 c
      refine vr_iload_n 24 dX5_person_23 rfl rfl rfl ?_
      refine vr_iconst 25 dX5_person_24 rfl ⟨by decide, by decide⟩ ?_
      refine vr_sipush 28 dX5_person_25 rfl (by decide) ⟨by decide, by decide⟩ ?_
      obtain ⟨Q3, hq, h⟩ := h
      refine vr_callSi 31 [.inl v3, .inl 0, .inl 400] [] dX5_person_28 rfl mc_X5_72 dn_X5_within rfl rfl (Nat.le_of_ble_eq_true rfl) (vx_rmR (by decide)) ⟨rfl, rfl⟩ ⟨Nat.le_refl _, Nat.le_refl _⟩ (fun _ _ => trivial) (fun _ _ => trivial) hq (fun r3 sh9 g3 hp _ _ => ?_)
      obtain ⟨e9, z9, e8, hp⟩ := hp
      subst e9
      cases e8
      replace h := h r3 g3 hp
      refine vr_if_eq 56 34 dX5_person_31 rfl rfl (fun c => ?_) (fun c => ?_)
      · replace h := h.1 c
        refine vr_bipush 58 dX5_person_56 rfl (by decide) ⟨by decide, by decide⟩ ?_
        exact vr_iret rfl (Nat.le_refl _) (Nat.le_refl _) dX5_person_58 ⟨rfl, _, rfl, h⟩
      · replace h := h.2 c
        refine vr_iload 36 dX5_person_34 rfl rfl ?_
        refine vr_iconst 37 dX5_person_36 rfl ⟨by decide, by decide⟩ ?_
        refine vr_iconst 38 dX5_person_37 rfl ⟨by decide, by decide⟩ ?_
        obtain ⟨Q4, hq, h⟩ := h
        refine vr_callSi 41 [.inl v4, .inl 0, .inl 3] [] dX5_person_38 rfl mc_X5_72 dn_X5_within rfl rfl (Nat.le_of_ble_eq_true rfl) (vx_rmR (by decide)) ⟨rfl, rfl⟩ ⟨Nat.le_refl _, Nat.le_refl _⟩ (fun _ _ => trivial) (fun _ _ => trivial) hq (fun r4 sh9 g4 hp _ _ => ?_)
        obtain ⟨e9, z9, e8, hp⟩ := hp
        subst e9
        cases e8
        replace h := h r4 g4 hp
        refine vr_if_eq 56 44 dX5_person_41 rfl rfl (fun c => ?_) (fun c => ?_)
        · replace h := h.1 c
          refine vr_bipush 58 dX5_person_56 rfl (by decide) ⟨by decide, by decide⟩ ?_
          exact vr_iret rfl (Nat.le_refl _) (Nat.le_refl _) dX5_person_58 ⟨rfl, _, rfl, h⟩
        · replace h := h.2 c
          refine vr_iload 46 dX5_person_44 rfl rfl ?_
          refine vr_iconst 47 dX5_person_46 rfl ⟨by decide, by decide⟩ ?_
          refine vr_sipush 50 dX5_person_47 rfl (by decide) ⟨by decide, by decide⟩ ?_
          obtain ⟨Q5, hq, h⟩ := h
          refine vr_callSi 53 [.inl v5, .inl 0, .inl 20000] [] dX5_person_50 rfl mc_X5_72 dn_X5_within rfl rfl (Nat.le_of_ble_eq_true rfl) (vx_rmR (by decide)) ⟨rfl, rfl⟩ ⟨Nat.le_refl _, Nat.le_refl _⟩ (fun _ _ => trivial) (fun _ _ => trivial) hq (fun r5 sh9 g5 hp _ _ => ?_)
          obtain ⟨e9, z9, e8, hp⟩ := hp
          subst e9
          cases e8
          replace h := h r5 g5 hp
          refine vr_if_ne 59 56 dX5_person_53 rfl rfl (fun c => ?_) (fun c => ?_)
          · replace h := h.1 c
            refine vr_aload_n 60 dX5_person_59 rfl rfl rfl ?_
            refine vr_getr 63 1 cl_X5 fl_X5_19 (by decide) dX5_person_60 rfl s_0 rfl ?_
            refine vr_iload_n 64 dX5_person_63 rfl rfl rfl ?_
            refine vr_iload_n 65 dX5_person_64 rfl rfl rfl ?_
            refine vr_iload_n 66 dX5_person_65 rfl rfl rfl ?_
            refine vr_iload 68 dX5_person_66 rfl rfl ?_
            refine vr_iload 70 dX5_person_68 rfl rfl ?_
            obtain ⟨Q6, hq, h⟩ := h
            refine vr_callVi 73 [.inl v1, .inl v2, .inl v3, .inl v4, .inl v5] 13 [] dX5_person_70 rfl mc_X5_96 dn_X1_add rfl rfl s_13 rfl (Nat.le_of_ble_eq_true rfl) (vx_rmR (by decide)) ⟨rfl, rfl⟩ ⟨Nat.le_refl _, Nat.le_refl _⟩ (fun _ _ => trivial) (fun _ _ => trivial) hq (fun r6 sh9 g6 hp _ _ => ?_)
            obtain ⟨e9, z9, e8, hp⟩ := hp
            subst e9
            cases e8
            replace h := h r6 g6 hp
            exact vr_iret rfl (Nat.le_refl _) (Nat.le_refl _) dX5_person_73 ⟨rfl, _, rfl, h⟩
          · replace h := h.2 c
            refine vr_bipush 58 dX5_person_56 rfl (by decide) ⟨by decide, by decide⟩ ?_
            exact vr_iret rfl (Nat.le_refl _) (Nat.le_refl _) dX5_person_58 ⟨rfl, _, rfl, h⟩
theorem kX5_person {l : Launch} {d : Nat} {Q : Int → vx_M → Prop} (g : vx_M) (v1 v2 v3 v4 v5 : Int) (h : (∃ Q1 : Int → vx_M → Prop, vNi l mX5_within d [.inl v1, .inl 100, .inl 200] SH g Q1 ∧ ∀ (r1 : Int) (g1 : vx_M), Q1 r1 g1 → ((r1 = 0 → Q (-3) g1) ∧ (¬ r1 = 0 → (∃ Q2 : Int → vx_M → Prop, vNi l mX5_within d [.inl v2, .inl 20, .inl 120] SH g1 Q2 ∧ ∀ (r2 : Int) (g2 : vx_M), Q2 r2 g2 → ((r2 = 0 → Q (-3) g2) ∧ (¬ r2 = 0 → (∃ Q3 : Int → vx_M → Prop, vNi l mX5_within d [.inl v3, .inl 0, .inl 400] SH g2 Q3 ∧ ∀ (r3 : Int) (g3 : vx_M), Q3 r3 g3 → ((r3 = 0 → Q (-3) g3) ∧ (¬ r3 = 0 → (∃ Q4 : Int → vx_M → Prop, vNi l mX5_within d [.inl v4, .inl 0, .inl 3] SH g3 Q4 ∧ ∀ (r4 : Int) (g4 : vx_M), Q4 r4 g4 → ((r4 = 0 → Q (-3) g4) ∧ (¬ r4 = 0 → (∃ Q5 : Int → vx_M → Prop, vNi l mX5_within d [.inl v5, .inl 0, .inl 20000] SH g4 Q5 ∧ ∀ (r5 : Int) (g5 : vx_M), Q5 r5 g5 → ((¬ r5 = 0 → (∃ Q6 : Int → vx_M → Prop, vNi l mX1_add d [.inr (some 13), .inl v1, .inl v2, .inl v3, .inl v4, .inl v5] SH g5 Q6 ∧ ∀ (r6 : Int) (g6 : vx_M), Q6 r6 g6 → Q r6 g6)) ∧ (r5 = 0 → Q (-3) g5)))))))))))))))) : vNi l mX5_person (d + 1) [.inr (some 0), .inl v1, .inl v2, .inl v3, .inl v4, .inl v5] SH g Q := vNi_of [some (.inr (some 0)), some (.inl v1), some (.inl v2), some (.inl v3), some (.inl v4), some (.inl v5)] pn_X5 (Nat.le_of_ble_eq_true rfl) rfl (tX5_person_0 g v1 v2 v3 v4 v5 h)
set_option maxRecDepth 100000 in
theorem tX5_out_0 {l : Launch} {d : Nat} {Q : Int → vx_M → Prop} (g : vx_M) (v1 v2 : Int) (h : ((v1 < 0 → Q (-2) g) ∧ (¬ v1 < 0 → ((v1 < (g 13 6) → (0 ≤ v1 ∧ v1 < 8) ∧ (((g 19 v1) = 0 → vN l mX5_out d (vx_pi SH Q) SH g 35 [some (.inr (some 0)), some (.inl v1), some (.inl v2), none] [.inl 0]) ∧ (¬ (g 19 v1) = 0 → vN l mX5_out d (vx_pi SH Q) SH g 35 [some (.inr (some 0)), some (.inl v1), some (.inl v2), none] [.inl 1]))) ∧ (¬ v1 < (g 13 6) → Q (-2) g))))) : vN l mX5_out d (vx_pi SH Q) SH g 0 [some (.inr (some 0)), some (.inl v1), some (.inl v2), none] [] := by
  refine vr_iload_n 1 dX5_out_0 rfl rfl rfl ?_
  refine vr_if_lt 15 4 dX5_out_1 rfl rfl (fun c => ?_) (fun c => ?_)
  · replace h := h.1 c
    refine vr_bipush 17 dX5_out_15 rfl (by decide) ⟨by decide, by decide⟩ ?_
    exact vr_iret rfl (Nat.le_refl _) (Nat.le_refl _) dX5_out_17 ⟨rfl, _, rfl, h⟩
  · replace h := h.2 c
    refine vr_iload_n 5 dX5_out_4 rfl rfl rfl ?_
    refine vr_aload_n 6 dX5_out_5 rfl rfl rfl ?_
    refine vr_getr 9 1 cl_X5 fl_X5_19 (by decide) dX5_out_6 rfl s_0 rfl ?_
    refine vr_geti 12 6 6 cl_X1 fl_X5_100 (by decide) rfl dX5_out_9 rfl s_13 rfl ?_
    refine vr_icmp_lt 18 15 dX5_out_12 rfl rfl (fun c => ?_) (fun c => ?_)
    · replace h := h.1 c
      refine vr_aload_n 19 dX5_out_18 rfl rfl rfl ?_
      refine vr_getr 22 1 cl_X5 fl_X5_19 (by decide) dX5_out_19 rfl s_0 rfl ?_
      refine vr_getr 25 5 cl_X1 fl_X5_103 (by decide) dX5_out_22 rfl s_13 rfl ?_
      refine vr_iload_n 26 dX5_out_25 rfl rfl rfl ?_
      obtain ⟨o1, h⟩ := h
      refine vr_zald 27 dX5_out_26 rfl s_19 o1.1 o1.2 ?_
      refine vr_if_eq 34 30 dX5_out_27 rfl rfl (fun c => ?_) (fun c => ?_)
      · replace h := h.1 c
        refine vr_iconst 35 dX5_out_34 rfl ⟨by decide, by decide⟩ ?_
        exact h
      · replace h := h.2 c
        refine vr_iconst 31 dX5_out_30 rfl ⟨by decide, by decide⟩ ?_
        refine vr_goto 35 dX5_out_31 rfl ?_
        exact h
    · replace h := h.2 c
      refine vr_bipush 17 dX5_out_15 rfl (by decide) ⟨by decide, by decide⟩ ?_
      exact vr_iret rfl (Nat.le_refl _) (Nat.le_refl _) dX5_out_17 ⟨rfl, _, rfl, h⟩
theorem kX5_out {l : Launch} {d : Nat} {Q : Int → vx_M → Prop} (g : vx_M) (v1 v2 : Int) (h : ((v1 < 0 → Q (-2) g) ∧ (¬ v1 < 0 → ((v1 < (g 13 6) → (0 ≤ v1 ∧ v1 < 8) ∧ (((g 19 v1) = 0 → vN l mX5_out d (vx_pi SH Q) SH g 35 [some (.inr (some 0)), some (.inl v1), some (.inl v2), none] [.inl 0]) ∧ (¬ (g 19 v1) = 0 → vN l mX5_out d (vx_pi SH Q) SH g 35 [some (.inr (some 0)), some (.inl v1), some (.inl v2), none] [.inl 1]))) ∧ (¬ v1 < (g 13 6) → Q (-2) g))))) : vNi l mX5_out d [.inr (some 0), .inl v1, .inl v2] SH g Q := vNi_of [some (.inr (some 0)), some (.inl v1), some (.inl v2), none] pn_X5 (Nat.le_of_ble_eq_true rfl) rfl (tX5_out_0 g v1 v2 h)
set_option maxRecDepth 100000 in
theorem tX5_out_35 {l : Launch} {d : Nat} {Q : Int → vx_M → Prop} (g : vx_M) (v1 v2 w0 : Int) (h : (0 ≤ v1 ∧ v1 < 8) ∧ (v2 = 0 ∨ v2 = 1) ∧ Q w0 (vx_u g 19 v1 v2)) : vN l mX5_out d (vx_pi SH Q) SH g 35 [some (.inr (some 0)), some (.inl v1), some (.inl v2), none] [.inl w0] := by
  refine vr_istore_n 36 [some (.inr (some 0)), some (.inl v1), some (.inl v2), some (.inl w0)] dX5_out_35 rfl rfl (by decide) rfl ?_
  refine vr_aload_n 37 dX5_out_36 rfl rfl rfl ?_
  refine vr_getr 40 1 cl_X5 fl_X5_19 (by decide) dX5_out_37 rfl s_0 rfl ?_
  refine vr_getr 43 5 cl_X1 fl_X5_103 (by decide) dX5_out_40 rfl s_13 rfl ?_
  refine vr_iload_n 44 dX5_out_43 rfl rfl rfl ?_
  refine vr_iload_n 45 dX5_out_44 rfl rfl rfl ?_
  obtain ⟨o1, h⟩ := h
  obtain ⟨o2, h⟩ := h
  refine vr_zast 46 dX5_out_45 rfl s_19 o1.1 o1.2 o2 ?_
  refine vr_iload_n 47 dX5_out_46 rfl rfl rfl ?_
  exact vr_iret rfl (Nat.le_refl _) (Nat.le_refl _) dX5_out_47 ⟨rfl, _, rfl, h⟩
set_option maxRecDepth 100000 in
theorem tX5_play_0 {l : Launch} {d : Nat} {Q : Int → vx_M → Prop} (g : vx_M) (v1 : Int) (h : (∃ Q1 : Int → vx_M → Prop, vNi l mX5_within d [.inl v1, .inl 0, .inl 50] SH g Q1 ∧ ∀ (r1 : Int) (g1 : vx_M), Q1 r1 g1 → ((¬ r1 = 0 → Q (g1 20 2) (vx_u g1 20 2 v1)) ∧ (r1 = 0 → Q (-3) g1)))) : vN l mX5_play (d + 1) (vx_pi SH Q) SH g 0 [some (.inr (some 0)), some (.inl v1), none] [] := by
  refine vr_iload_n 1 dX5_play_0 rfl rfl rfl ?_
  refine vr_iconst 2 dX5_play_1 rfl ⟨by decide, by decide⟩ ?_
  refine vr_bipush 4 dX5_play_2 rfl (by decide) ⟨by decide, by decide⟩ ?_
  obtain ⟨Q1, hq, h⟩ := h
  refine vr_callSi 7 [.inl v1, .inl 0, .inl 50] [] dX5_play_4 rfl mc_X5_72 dn_X5_within rfl rfl (Nat.le_of_ble_eq_true rfl) (vx_rmR (by decide)) ⟨rfl, rfl⟩ ⟨Nat.le_refl _, Nat.le_refl _⟩ (fun _ _ => trivial) (fun _ _ => trivial) hq (fun r1 sh9 g1 hp _ _ => ?_)
  obtain ⟨e9, z9, e8, hp⟩ := hp
  subst e9
  cases e8
  replace h := h r1 g1 hp
  refine vr_if_ne 13 10 dX5_play_7 rfl rfl (fun c => ?_) (fun c => ?_)
  · replace h := h.1 c
    refine vr_aload_n 14 dX5_play_13 rfl rfl rfl ?_
    refine vr_getr 17 2 cl_X5 fl_X5_28 (by decide) dX5_play_14 rfl s_0 rfl ?_
    refine vr_geti 20 2 2 cl_X2 fl_X5_107 (by decide) rfl dX5_play_17 rfl s_20 rfl ?_
    refine vr_istore_n 21 [some (.inr (some 0)), some (.inl v1), some (.inl (g1 20 2))] dX5_play_20 rfl rfl (by decide) rfl ?_
    refine vr_aload_n 22 dX5_play_21 rfl rfl rfl ?_
    refine vr_getr 25 2 cl_X5 fl_X5_28 (by decide) dX5_play_22 rfl s_0 rfl ?_
    refine vr_iload_n 26 dX5_play_25 rfl rfl rfl ?_
    refine vr_puti 29 2 2 cl_X2 fl_X5_107 (by decide) rfl rfl rfl dX5_play_26 rfl s_20 rfl ?_
    refine vr_iload_n 30 dX5_play_29 rfl rfl rfl ?_
    exact vr_iret rfl (Nat.le_refl _) (Nat.le_refl _) dX5_play_30 ⟨rfl, _, rfl, h⟩
  · replace h := h.2 c
    refine vr_bipush 12 dX5_play_10 rfl (by decide) ⟨by decide, by decide⟩ ?_
    exact vr_iret rfl (Nat.le_refl _) (Nat.le_refl _) dX5_play_12 ⟨rfl, _, rfl, h⟩
theorem kX5_play {l : Launch} {d : Nat} {Q : Int → vx_M → Prop} (g : vx_M) (v1 : Int) (h : (∃ Q1 : Int → vx_M → Prop, vNi l mX5_within d [.inl v1, .inl 0, .inl 50] SH g Q1 ∧ ∀ (r1 : Int) (g1 : vx_M), Q1 r1 g1 → ((¬ r1 = 0 → Q (g1 20 2) (vx_u g1 20 2 v1)) ∧ (r1 = 0 → Q (-3) g1)))) : vNi l mX5_play (d + 1) [.inr (some 0), .inl v1] SH g Q := vNi_of [some (.inr (some 0)), some (.inl v1), none] pn_X5 (Nat.le_of_ble_eq_true rfl) rfl (tX5_play_0 g v1 h)
set_option maxRecDepth 100000 in
theorem tX5_fits_0 {l : Launch} {d : Nat} {Q : Int → vx_M → Prop} (g : vx_M) (h : (∃ Q1 : Int → vx_M → Prop, vNi l mX3_countFitting d [.inr (some 21)] SH g Q1 ∧ ∀ (r1 : Int) (g1 : vx_M), Q1 r1 g1 → Q r1 g1)) : vN l mX5_fits (d + 1) (vx_pi SH Q) SH g 0 [some (.inr (some 0))] [] := by
  refine vr_aload_n 1 dX5_fits_0 rfl rfl rfl ?_
  refine vr_getr 4 3 cl_X5 fl_X5_37 (by decide) dX5_fits_1 rfl s_0 rfl ?_
  obtain ⟨Q1, hq, h⟩ := h
  refine vr_callVi 7 [] 21 [] dX5_fits_4 rfl mc_X5_110 dn_X3_countFitting rfl rfl s_21 rfl (Nat.le_of_ble_eq_true rfl) (vx_rmR (by decide)) ⟨rfl, rfl⟩ ⟨Nat.le_refl _, Nat.le_refl _⟩ (fun _ _ => trivial) (fun _ _ => trivial) hq (fun r1 sh9 g1 hp _ _ => ?_)
  obtain ⟨e9, z9, e8, hp⟩ := hp
  subst e9
  cases e8
  replace h := h r1 g1 hp
  exact vr_iret rfl (Nat.le_refl _) (Nat.le_refl _) dX5_fits_7 ⟨rfl, _, rfl, h⟩
theorem kX5_fits {l : Launch} {d : Nat} {Q : Int → vx_M → Prop} (g : vx_M) (h : (∃ Q1 : Int → vx_M → Prop, vNi l mX3_countFitting d [.inr (some 21)] SH g Q1 ∧ ∀ (r1 : Int) (g1 : vx_M), Q1 r1 g1 → Q r1 g1)) : vNi l mX5_fits (d + 1) [.inr (some 0)] SH g Q := vNi_of [some (.inr (some 0))] pn_X5 (Nat.le_of_ble_eq_true rfl) rfl (tX5_fits_0 g  h)
set_option maxRecDepth 100000 in
theorem tX5_level_0 {l : Launch} {d : Nat} {Q : Int → vx_M → Prop} (g : vx_M) (h : (∃ Q1 : Int → vx_M → Prop, vNi l mX3_seekLevel d [.inr (some 21)] SH g Q1 ∧ ∀ (r1 : Int) (g1 : vx_M), Q1 r1 g1 → ((r1 = 0 → Q (-1) g1) ∧ (¬ r1 = 0 → (∃ Q2 : Int → vx_M → Prop, vNi l mX3_uneven d [.inr (some 21)] SH g1 Q2 ∧ ∀ (r2 : Int) (g2 : vx_M), Q2 r2 g2 → Q r2 g2))))) : vN l mX5_level (d + 1) (vx_pi SH Q) SH g 0 [some (.inr (some 0))] [] := by
  refine vr_aload_n 1 dX5_level_0 rfl rfl rfl ?_
  refine vr_getr 4 3 cl_X5 fl_X5_37 (by decide) dX5_level_1 rfl s_0 rfl ?_
  obtain ⟨Q1, hq, h⟩ := h
  refine vr_callVi 7 [] 21 [] dX5_level_4 rfl mc_X5_114 dn_X3_seekLevel rfl rfl s_21 rfl (Nat.le_of_ble_eq_true rfl) (vx_rmR (by decide)) ⟨rfl, rfl⟩ ⟨Nat.le_refl _, Nat.le_refl _⟩ (fun _ _ => trivial) (fun _ _ => trivial) hq (fun r1 sh9 g1 hp _ _ => ?_)
  obtain ⟨e9, z9, e8, hp⟩ := hp
  subst e9
  cases e8
  replace h := h r1 g1 hp
  refine vr_if_eq 20 10 dX5_level_7 rfl rfl (fun c => ?_) (fun c => ?_)
  · replace h := h.1 c
    refine vr_iconst 21 dX5_level_20 rfl ⟨by decide, by decide⟩ ?_
    exact vr_iret rfl (Nat.le_refl _) (Nat.le_refl _) dX5_level_21 ⟨rfl, _, rfl, h⟩
  · replace h := h.2 c
    refine vr_aload_n 11 dX5_level_10 rfl rfl rfl ?_
    refine vr_getr 14 3 cl_X5 fl_X5_37 (by decide) dX5_level_11 rfl s_0 rfl ?_
    obtain ⟨Q2, hq, h⟩ := h
    refine vr_callVi 17 [] 21 [] dX5_level_14 rfl mc_X5_118 dn_X3_uneven rfl rfl s_21 rfl (Nat.le_of_ble_eq_true rfl) (vx_rmR (by decide)) ⟨rfl, rfl⟩ ⟨Nat.le_refl _, Nat.le_refl _⟩ (fun _ _ => trivial) (fun _ _ => trivial) hq (fun r2 sh9 g2 hp _ _ => ?_)
    obtain ⟨e9, z9, e8, hp⟩ := hp
    subst e9
    cases e8
    replace h := h r2 g2 hp
    refine vr_goto 21 dX5_level_17 rfl ?_
    exact vr_iret rfl (Nat.le_refl _) (Nat.le_refl _) dX5_level_21 ⟨rfl, _, rfl, h⟩
theorem kX5_level {l : Launch} {d : Nat} {Q : Int → vx_M → Prop} (g : vx_M) (h : (∃ Q1 : Int → vx_M → Prop, vNi l mX3_seekLevel d [.inr (some 21)] SH g Q1 ∧ ∀ (r1 : Int) (g1 : vx_M), Q1 r1 g1 → ((r1 = 0 → Q (-1) g1) ∧ (¬ r1 = 0 → (∃ Q2 : Int → vx_M → Prop, vNi l mX3_uneven d [.inr (some 21)] SH g1 Q2 ∧ ∀ (r2 : Int) (g2 : vx_M), Q2 r2 g2 → Q r2 g2))))) : vNi l mX5_level (d + 1) [.inr (some 0)] SH g Q := vNi_of [some (.inr (some 0))] pn_X5 (Nat.le_of_ble_eq_true rfl) rfl (tX5_level_0 g  h)
set_option maxRecDepth 100000 in
theorem tX5_close_0 {l : Launch} {d : Nat} {Q : Int → vx_M → Prop} (g : vx_M) (h : (∃ Q1 : Int → vx_M → Prop, vNi l mX3_seekClose d [.inr (some 21), .inr (some 39)] SH g Q1 ∧ ∀ (r1 : Int) (g1 : vx_M), Q1 r1 g1 → ((r1 = 0 → Q (-1) g1) ∧ (¬ r1 = 0 → (∃ Q2 : Int → vx_M → Prop, vNi l mX3_moves d [.inr (some 21)] SH g1 Q2 ∧ ∀ (r2 : Int) (g2 : vx_M), Q2 r2 g2 → Q r2 g2))))) : vN l mX5_close (d + 1) (vx_pi SH Q) SH g 0 [some (.inr (some 0))] [] := by
  refine vr_aload_n 1 dX5_close_0 rfl rfl rfl ?_
  refine vr_getr 4 3 cl_X5 fl_X5_37 (by decide) dX5_close_1 rfl s_0 rfl ?_
  refine vr_aload_n 5 dX5_close_4 rfl rfl rfl ?_
  refine vr_getr 8 5 cl_X5 fl_X5_48 (by decide) dX5_close_5 rfl s_0 rfl ?_
  obtain ⟨Q1, hq, h⟩ := h
  refine vr_callVi 11 [.inr (some 39)] 21 [] dX5_close_8 rfl mc_X5_121 dn_X3_seekClose rfl rfl s_21 rfl (Nat.le_of_ble_eq_true rfl) (vx_rmR (by decide)) ⟨rfl, rfl⟩ ⟨Nat.le_refl _, Nat.le_refl _⟩ (fun _ _ => trivial) (fun _ _ => trivial) hq (fun r1 sh9 g1 hp _ _ => ?_)
  obtain ⟨e9, z9, e8, hp⟩ := hp
  subst e9
  cases e8
  replace h := h r1 g1 hp
  refine vr_if_eq 24 14 dX5_close_11 rfl rfl (fun c => ?_) (fun c => ?_)
  · replace h := h.1 c
    refine vr_iconst 25 dX5_close_24 rfl ⟨by decide, by decide⟩ ?_
    exact vr_iret rfl (Nat.le_refl _) (Nat.le_refl _) dX5_close_25 ⟨rfl, _, rfl, h⟩
  · replace h := h.2 c
    refine vr_aload_n 15 dX5_close_14 rfl rfl rfl ?_
    refine vr_getr 18 3 cl_X5 fl_X5_37 (by decide) dX5_close_15 rfl s_0 rfl ?_
    obtain ⟨Q2, hq, h⟩ := h
    refine vr_callVi 21 [] 21 [] dX5_close_18 rfl mc_X5_125 dn_X3_moves rfl rfl s_21 rfl (Nat.le_of_ble_eq_true rfl) (vx_rmR (by decide)) ⟨rfl, rfl⟩ ⟨Nat.le_refl _, Nat.le_refl _⟩ (fun _ _ => trivial) (fun _ _ => trivial) hq (fun r2 sh9 g2 hp _ _ => ?_)
    obtain ⟨e9, z9, e8, hp⟩ := hp
    subst e9
    cases e8
    replace h := h r2 g2 hp
    refine vr_goto 25 dX5_close_21 rfl ?_
    exact vr_iret rfl (Nat.le_refl _) (Nat.le_refl _) dX5_close_25 ⟨rfl, _, rfl, h⟩
theorem kX5_close {l : Launch} {d : Nat} {Q : Int → vx_M → Prop} (g : vx_M) (h : (∃ Q1 : Int → vx_M → Prop, vNi l mX3_seekClose d [.inr (some 21), .inr (some 39)] SH g Q1 ∧ ∀ (r1 : Int) (g1 : vx_M), Q1 r1 g1 → ((r1 = 0 → Q (-1) g1) ∧ (¬ r1 = 0 → (∃ Q2 : Int → vx_M → Prop, vNi l mX3_moves d [.inr (some 21)] SH g1 Q2 ∧ ∀ (r2 : Int) (g2 : vx_M), Q2 r2 g2 → Q r2 g2))))) : vNi l mX5_close (d + 1) [.inr (some 0)] SH g Q := vNi_of [some (.inr (some 0))] pn_X5 (Nat.le_of_ble_eq_true rfl) rfl (tX5_close_0 g  h)
set_option maxRecDepth 100000 in
theorem tX5_take_0 {l : Launch} {d : Nat} {Q : Int → vx_M → Prop} (g : vx_M) (v1 : Int) (h : (∃ Q1 : Int → vx_M → Prop, vNi l mX5_within d [.inl v1, .inl 0, .inl 1] SH g Q1 ∧ ∀ (r1 : Int) (g1 : vx_M), Q1 r1 g1 → ((¬ r1 = 0 → ((¬ v1 = 0 → (∃ Q2 : Int → vx_M → Prop, vNi l mX3_seekClose d [.inr (some 21), .inr (some 39)] SH g1 Q2 ∧ ∀ (r2 : Int) (g2 : vx_M), Q2 r2 g2 → vN l mX5_take (d + 1) (vx_pi SH Q) SH g2 37 [some (.inr (some 0)), some (.inl v1), none] [.inl r2])) ∧ (v1 = 0 → (∃ Q3 : Int → vx_M → Prop, vNi l mX3_seekLevel d [.inr (some 21)] SH g1 Q3 ∧ ∀ (r3 : Int) (g3 : vx_M), Q3 r3 g3 → vN l mX5_take (d + 1) (vx_pi SH Q) SH g3 37 [some (.inr (some 0)), some (.inl v1), none] [.inl r3])))) ∧ (r1 = 0 → Q (-3) g1)))) : vN l mX5_take (d + 1) (vx_pi SH Q) SH g 0 [some (.inr (some 0)), some (.inl v1), none] [] := by
  refine vr_iload_n 1 dX5_take_0 rfl rfl rfl ?_
  refine vr_iconst 2 dX5_take_1 rfl ⟨by decide, by decide⟩ ?_
  refine vr_iconst 3 dX5_take_2 rfl ⟨by decide, by decide⟩ ?_
  obtain ⟨Q1, hq, h⟩ := h
  refine vr_callSi 6 [.inl v1, .inl 0, .inl 1] [] dX5_take_3 rfl mc_X5_72 dn_X5_within rfl rfl (Nat.le_of_ble_eq_true rfl) (vx_rmR (by decide)) ⟨rfl, rfl⟩ ⟨Nat.le_refl _, Nat.le_refl _⟩ (fun _ _ => trivial) (fun _ _ => trivial) hq (fun r1 sh9 g1 hp _ _ => ?_)
  obtain ⟨e9, z9, e8, hp⟩ := hp
  subst e9
  cases e8
  replace h := h r1 g1 hp
  refine vr_if_ne 12 9 dX5_take_6 rfl rfl (fun c => ?_) (fun c => ?_)
  · replace h := h.1 c
    refine vr_iload_n 13 dX5_take_12 rfl rfl rfl ?_
    refine vr_if_ne 26 16 dX5_take_13 rfl rfl (fun c => ?_) (fun c => ?_)
    · replace h := h.1 c
      refine vr_aload_n 27 dX5_take_26 rfl rfl rfl ?_
      refine vr_getr 30 3 cl_X5 fl_X5_37 (by decide) dX5_take_27 rfl s_0 rfl ?_
      refine vr_aload_n 31 dX5_take_30 rfl rfl rfl ?_
      refine vr_getr 34 5 cl_X5 fl_X5_48 (by decide) dX5_take_31 rfl s_0 rfl ?_
      obtain ⟨Q2, hq, h⟩ := h
      refine vr_callVi 37 [.inr (some 39)] 21 [] dX5_take_34 rfl mc_X5_121 dn_X3_seekClose rfl rfl s_21 rfl (Nat.le_of_ble_eq_true rfl) (vx_rmR (by decide)) ⟨rfl, rfl⟩ ⟨Nat.le_refl _, Nat.le_refl _⟩ (fun _ _ => trivial) (fun _ _ => trivial) hq (fun r2 sh9 g2 hp _ _ => ?_)
      obtain ⟨e9, z9, e8, hp⟩ := hp
      subst e9
      cases e8
      replace h := h r2 g2 hp
      exact h
    · replace h := h.2 c
      refine vr_aload_n 17 dX5_take_16 rfl rfl rfl ?_
      refine vr_getr 20 3 cl_X5 fl_X5_37 (by decide) dX5_take_17 rfl s_0 rfl ?_
      obtain ⟨Q3, hq, h⟩ := h
      refine vr_callVi 23 [] 21 [] dX5_take_20 rfl mc_X5_114 dn_X3_seekLevel rfl rfl s_21 rfl (Nat.le_of_ble_eq_true rfl) (vx_rmR (by decide)) ⟨rfl, rfl⟩ ⟨Nat.le_refl _, Nat.le_refl _⟩ (fun _ _ => trivial) (fun _ _ => trivial) hq (fun r3 sh9 g3 hp _ _ => ?_)
      obtain ⟨e9, z9, e8, hp⟩ := hp
      subst e9
      cases e8
      replace h := h r3 g3 hp
      refine vr_goto 37 dX5_take_23 rfl ?_
      exact h
  · replace h := h.2 c
    refine vr_bipush 11 dX5_take_9 rfl (by decide) ⟨by decide, by decide⟩ ?_
    exact vr_iret rfl (Nat.le_refl _) (Nat.le_refl _) dX5_take_11 ⟨rfl, _, rfl, h⟩
theorem kX5_take {l : Launch} {d : Nat} {Q : Int → vx_M → Prop} (g : vx_M) (v1 : Int) (h : (∃ Q1 : Int → vx_M → Prop, vNi l mX5_within d [.inl v1, .inl 0, .inl 1] SH g Q1 ∧ ∀ (r1 : Int) (g1 : vx_M), Q1 r1 g1 → ((¬ r1 = 0 → ((¬ v1 = 0 → (∃ Q2 : Int → vx_M → Prop, vNi l mX3_seekClose d [.inr (some 21), .inr (some 39)] SH g1 Q2 ∧ ∀ (r2 : Int) (g2 : vx_M), Q2 r2 g2 → vN l mX5_take (d + 1) (vx_pi SH Q) SH g2 37 [some (.inr (some 0)), some (.inl v1), none] [.inl r2])) ∧ (v1 = 0 → (∃ Q3 : Int → vx_M → Prop, vNi l mX3_seekLevel d [.inr (some 21)] SH g1 Q3 ∧ ∀ (r3 : Int) (g3 : vx_M), Q3 r3 g3 → vN l mX5_take (d + 1) (vx_pi SH Q) SH g3 37 [some (.inr (some 0)), some (.inl v1), none] [.inl r3])))) ∧ (r1 = 0 → Q (-3) g1)))) : vNi l mX5_take (d + 1) [.inr (some 0), .inl v1] SH g Q := vNi_of [some (.inr (some 0)), some (.inl v1), none] pn_X5 (Nat.le_of_ble_eq_true rfl) rfl (tX5_take_0 g v1 h)
set_option maxRecDepth 100000 in
theorem tX5_take_37 {l : Launch} {d : Nat} {Q : Int → vx_M → Prop} (g : vx_M) (v1 w0 : Int) (h : ((¬ w0 = 0 → (0 ≤ g 1 5 ∧ g 1 5 ≤ 7) ∧ (∃ Q2 : Int → vx_M → Prop, vNi l mX3_uneven d [.inr (some 21)] SH (vx_u (vx_cp g 35 39 0 0 (g 1 5)) 0 6 1) Q2 ∧ ∀ (r2 : Int) (g2 : vx_M), Q2 r2 g2 → Q r2 g2)) ∧ (w0 = 0 → Q (-4) g))) : vN l mX5_take (d + 1) (vx_pi SH Q) SH g 37 [some (.inr (some 0)), some (.inl v1), none] [.inl w0] := by
  refine vr_istore_n 38 [some (.inr (some 0)), some (.inl v1), some (.inl w0)] dX5_take_37 rfl rfl (by decide) rfl ?_
  refine vr_iload_n 39 dX5_take_38 rfl rfl rfl ?_
  refine vr_if_ne 45 42 dX5_take_39 rfl rfl (fun c => ?_) (fun c => ?_)
  · replace h := h.1 c
    refine vr_aload_n 46 dX5_take_45 rfl rfl rfl ?_
    refine vr_getr 49 3 cl_X5 fl_X5_37 (by decide) dX5_take_46 rfl s_0 rfl ?_
    refine vr_getr 52 8 cl_X3 fl_X5_128 (by decide) dX5_take_49 rfl s_21 rfl ?_
    refine vr_iconst 53 dX5_take_52 rfl ⟨by decide, by decide⟩ ?_
    refine vr_aload_n 54 dX5_take_53 rfl rfl rfl ?_
    refine vr_getr 57 5 cl_X5 fl_X5_48 (by decide) dX5_take_54 rfl s_0 rfl ?_
    refine vr_iconst 58 dX5_take_57 rfl ⟨by decide, by decide⟩ ?_
    refine vr_aload_n 59 dX5_take_58 rfl rfl rfl ?_
    refine vr_getr 62 0 cl_X5 fl_X5_10 (by decide) dX5_take_59 rfl s_0 rfl ?_
    refine vr_geti 65 5 5 cl_X4 fl_X5_87 (by decide) rfl dX5_take_62 rfl s_1 rfl ?_
    obtain ⟨o1, h⟩ := h
    refine vr_acopy 68 dX5_take_65 rfl mc_X5_131 ac_1 ac_2 ac_3 s_35 s_39 (by decide) (by decide) o1.1 (by omega) (by omega) (by show 1 ≤ d + 1; omega) (by show _ + (7 + 11) ≤ 40 * (d + 1); simp only [List.length_cons, List.length_nil]; omega) ?_
    refine vr_aload_n 69 dX5_take_68 rfl rfl rfl ?_
    refine vr_iconst 70 dX5_take_69 rfl ⟨by decide, by decide⟩ ?_
    refine vr_putz 73 6 6 cl_X5 fl_X5_52 (by decide) rfl rfl rfl (by decide) dX5_take_70 rfl s_0 rfl ?_
    refine vr_aload_n 74 dX5_take_73 rfl rfl rfl ?_
    refine vr_getr 77 3 cl_X5 fl_X5_37 (by decide) dX5_take_74 rfl s_0 rfl ?_
    obtain ⟨Q2, hq, h⟩ := h
    refine vr_callVi 80 [] 21 [] dX5_take_77 rfl mc_X5_118 dn_X3_uneven rfl rfl s_21 rfl (Nat.le_of_ble_eq_true rfl) (vx_rmR (by decide)) ⟨rfl, rfl⟩ ⟨Nat.le_refl _, Nat.le_refl _⟩ (fun _ _ => trivial) (fun _ _ => trivial) hq (fun r2 sh9 g2 hp _ _ => ?_)
    obtain ⟨e9, z9, e8, hp⟩ := hp
    subst e9
    cases e8
    replace h := h r2 g2 hp
    exact vr_iret rfl (Nat.le_refl _) (Nat.le_refl _) dX5_take_80 ⟨rfl, _, rfl, h⟩
  · replace h := h.2 c
    refine vr_bipush 44 dX5_take_42 rfl (by decide) ⟨by decide, by decide⟩ ?_
    exact vr_iret rfl (Nat.le_refl _) (Nat.le_refl _) dX5_take_44 ⟨rfl, _, rfl, h⟩
set_option maxRecDepth 100000 in
theorem tX5_at_0 {l : Launch} {d : Nat} {Q : Int → vx_M → Prop} (g : vx_M) (v1 : Int) (h : (∃ Q1 : Int → vx_M → Prop, vNi l mX5_isPlace d [.inr (some 0), .inl v1] SH g Q1 ∧ ∀ (r1 : Int) (g1 : vx_M), Q1 r1 g1 → ((¬ r1 = 0 → (((g1 0 6) = 0 → Q (-4) g1) ∧ (¬ (g1 0 6) = 0 → (0 ≤ v1 ∧ v1 < 7) ∧ Q (g1 39 v1) g1))) ∧ (r1 = 0 → Q (-2) g1)))) : vN l mX5_at (d + 1) (vx_pi SH Q) SH g 0 [some (.inr (some 0)), some (.inl v1)] [] := by
  refine vr_aload_n 1 dX5_at_0 rfl rfl rfl ?_
  refine vr_iload_n 2 dX5_at_1 rfl rfl rfl ?_
  obtain ⟨Q1, hq, h⟩ := h
  refine vr_callVi 5 [.inl v1] 0 [] dX5_at_2 rfl mc_X5_137 dn_X5_isPlace rfl rfl s_0 rfl (Nat.le_of_ble_eq_true rfl) (vx_rmR (by decide)) ⟨rfl, rfl⟩ ⟨Nat.le_refl _, Nat.le_refl _⟩ (fun _ _ => trivial) (fun _ _ => trivial) hq (fun r1 sh9 g1 hp _ _ => ?_)
  obtain ⟨e9, z9, e8, hp⟩ := hp
  subst e9
  cases e8
  replace h := h r1 g1 hp
  refine vr_if_ne 11 8 dX5_at_5 rfl rfl (fun c => ?_) (fun c => ?_)
  · replace h := h.1 c
    refine vr_aload_n 12 dX5_at_11 rfl rfl rfl ?_
    refine vr_geti 15 6 6 cl_X5 fl_X5_52 (by decide) rfl dX5_at_12 rfl s_0 rfl ?_
    refine vr_if_eq 27 18 dX5_at_15 rfl rfl (fun c => ?_) (fun c => ?_)
    · replace h := h.1 c
      refine vr_bipush 29 dX5_at_27 rfl (by decide) ⟨by decide, by decide⟩ ?_
      exact vr_iret rfl (Nat.le_refl _) (Nat.le_refl _) dX5_at_29 ⟨rfl, _, rfl, h⟩
    · replace h := h.2 c
      refine vr_aload_n 19 dX5_at_18 rfl rfl rfl ?_
      refine vr_getr 22 5 cl_X5 fl_X5_48 (by decide) dX5_at_19 rfl s_0 rfl ?_
      refine vr_iload_n 23 dX5_at_22 rfl rfl rfl ?_
      obtain ⟨o2, h⟩ := h
      refine vr_iald 24 dX5_at_23 rfl s_39 o2.1 o2.2 ?_
      refine vr_goto 29 dX5_at_24 rfl ?_
      exact vr_iret rfl (Nat.le_refl _) (Nat.le_refl _) dX5_at_29 ⟨rfl, _, rfl, h⟩
  · replace h := h.2 c
    refine vr_bipush 10 dX5_at_8 rfl (by decide) ⟨by decide, by decide⟩ ?_
    exact vr_iret rfl (Nat.le_refl _) (Nat.le_refl _) dX5_at_10 ⟨rfl, _, rfl, h⟩
theorem kX5_at {l : Launch} {d : Nat} {Q : Int → vx_M → Prop} (g : vx_M) (v1 : Int) (h : (∃ Q1 : Int → vx_M → Prop, vNi l mX5_isPlace d [.inr (some 0), .inl v1] SH g Q1 ∧ ∀ (r1 : Int) (g1 : vx_M), Q1 r1 g1 → ((¬ r1 = 0 → (((g1 0 6) = 0 → Q (-4) g1) ∧ (¬ (g1 0 6) = 0 → (0 ≤ v1 ∧ v1 < 7) ∧ Q (g1 39 v1) g1))) ∧ (r1 = 0 → Q (-2) g1)))) : vNi l mX5_at (d + 1) [.inr (some 0), .inl v1] SH g Q := vNi_of [some (.inr (some 0)), some (.inl v1)] pn_X5 (Nat.le_of_ble_eq_true rfl) rfl (tX5_at_0 g v1 h)
set_option maxRecDepth 100000 in
theorem tX5_load_0 {l : Launch} {d : Nat} {Q : Int → vx_M → Prop} (g : vx_M) (v1 : Int) (h : (∃ Q1 : Int → vx_M → Prop, vNi l mX5_isPlace d [.inr (some 0), .inl v1] SH g Q1 ∧ ∀ (r1 : Int) (g1 : vx_M), Q1 r1 g1 → ((¬ r1 = 0 → (((g1 0 6) = 0 → Q (-4) g1) ∧ (¬ (g1 0 6) = 0 → (∃ Q2 : Int → vx_M → Prop, vNi l mX2_loadOn d [.inr (some 20), .inr (some 39), .inl v1, .inl (g1 1 5)] SH g1 Q2 ∧ ∀ (r2 : Int) (g2 : vx_M), Q2 r2 g2 → Q r2 g2)))) ∧ (r1 = 0 → Q (-2) g1)))) : vN l mX5_load (d + 1) (vx_pi SH Q) SH g 0 [some (.inr (some 0)), some (.inl v1)] [] := by
  refine vr_aload_n 1 dX5_load_0 rfl rfl rfl ?_
  refine vr_iload_n 2 dX5_load_1 rfl rfl rfl ?_
  obtain ⟨Q1, hq, h⟩ := h
  refine vr_callVi 5 [.inl v1] 0 [] dX5_load_2 rfl mc_X5_137 dn_X5_isPlace rfl rfl s_0 rfl (Nat.le_of_ble_eq_true rfl) (vx_rmR (by decide)) ⟨rfl, rfl⟩ ⟨Nat.le_refl _, Nat.le_refl _⟩ (fun _ _ => trivial) (fun _ _ => trivial) hq (fun r1 sh9 g1 hp _ _ => ?_)
  obtain ⟨e9, z9, e8, hp⟩ := hp
  subst e9
  cases e8
  replace h := h r1 g1 hp
  refine vr_if_ne 11 8 dX5_load_5 rfl rfl (fun c => ?_) (fun c => ?_)
  · replace h := h.1 c
    refine vr_aload_n 12 dX5_load_11 rfl rfl rfl ?_
    refine vr_geti 15 6 6 cl_X5 fl_X5_52 (by decide) rfl dX5_load_12 rfl s_0 rfl ?_
    refine vr_if_eq 40 18 dX5_load_15 rfl rfl (fun c => ?_) (fun c => ?_)
    · replace h := h.1 c
      refine vr_bipush 42 dX5_load_40 rfl (by decide) ⟨by decide, by decide⟩ ?_
      exact vr_iret rfl (Nat.le_refl _) (Nat.le_refl _) dX5_load_42 ⟨rfl, _, rfl, h⟩
    · replace h := h.2 c
      refine vr_aload_n 19 dX5_load_18 rfl rfl rfl ?_
      refine vr_getr 22 2 cl_X5 fl_X5_28 (by decide) dX5_load_19 rfl s_0 rfl ?_
      refine vr_aload_n 23 dX5_load_22 rfl rfl rfl ?_
      refine vr_getr 26 5 cl_X5 fl_X5_48 (by decide) dX5_load_23 rfl s_0 rfl ?_
      refine vr_iload_n 27 dX5_load_26 rfl rfl rfl ?_
      refine vr_aload_n 28 dX5_load_27 rfl rfl rfl ?_
      refine vr_getr 31 0 cl_X5 fl_X5_10 (by decide) dX5_load_28 rfl s_0 rfl ?_
      refine vr_geti 34 5 5 cl_X4 fl_X5_87 (by decide) rfl dX5_load_31 rfl s_1 rfl ?_
      obtain ⟨Q2, hq, h⟩ := h
      refine vr_callVi 37 [.inr (some 39), .inl v1, .inl (g1 1 5)] 20 [] dX5_load_34 rfl mc_X5_141 dn_X2_loadOn rfl rfl s_20 rfl (Nat.le_of_ble_eq_true rfl) (vx_rmR (by decide)) ⟨rfl, rfl⟩ ⟨Nat.le_refl _, Nat.le_refl _⟩ (fun _ _ => trivial) (fun _ _ => trivial) hq (fun r2 sh9 g2 hp _ _ => ?_)
      obtain ⟨e9, z9, e8, hp⟩ := hp
      subst e9
      cases e8
      replace h := h r2 g2 hp
      refine vr_goto 42 dX5_load_37 rfl ?_
      exact vr_iret rfl (Nat.le_refl _) (Nat.le_refl _) dX5_load_42 ⟨rfl, _, rfl, h⟩
  · replace h := h.2 c
    refine vr_bipush 10 dX5_load_8 rfl (by decide) ⟨by decide, by decide⟩ ?_
    exact vr_iret rfl (Nat.le_refl _) (Nat.le_refl _) dX5_load_10 ⟨rfl, _, rfl, h⟩
theorem kX5_load {l : Launch} {d : Nat} {Q : Int → vx_M → Prop} (g : vx_M) (v1 : Int) (h : (∃ Q1 : Int → vx_M → Prop, vNi l mX5_isPlace d [.inr (some 0), .inl v1] SH g Q1 ∧ ∀ (r1 : Int) (g1 : vx_M), Q1 r1 g1 → ((¬ r1 = 0 → (((g1 0 6) = 0 → Q (-4) g1) ∧ (¬ (g1 0 6) = 0 → (∃ Q2 : Int → vx_M → Prop, vNi l mX2_loadOn d [.inr (some 20), .inr (some 39), .inl v1, .inl (g1 1 5)] SH g1 Q2 ∧ ∀ (r2 : Int) (g2 : vx_M), Q2 r2 g2 → Q r2 g2)))) ∧ (r1 = 0 → Q (-2) g1)))) : vNi l mX5_load (d + 1) [.inr (some 0), .inl v1] SH g Q := vNi_of [some (.inr (some 0)), some (.inl v1)] pn_X5 (Nat.le_of_ble_eq_true rfl) rfl (tX5_load_0 g v1 h)
set_option maxRecDepth 100000 in
theorem tX5_swap_0 {l : Launch} {d : Nat} {Q : Int → vx_M → Prop} (g : vx_M) (v1 v2 : Int) (h : (∃ Q1 : Int → vx_M → Prop, vNi l mX5_isPlace d [.inr (some 0), .inl v1] SH g Q1 ∧ ∀ (r1 : Int) (g1 : vx_M), Q1 r1 g1 → ((r1 = 0 → Q (-2) g1) ∧ (¬ r1 = 0 → (∃ Q2 : Int → vx_M → Prop, vNi l mX5_isPlace d [.inr (some 0), .inl v2] SH g1 Q2 ∧ ∀ (r2 : Int) (g2 : vx_M), Q2 r2 g2 → ((¬ r2 = 0 → ((¬ (g2 0 6) = 0 → (∃ Q3 : vx_M → Prop, vNv l mX5_exchange d [.inr (some 0), .inl v1, .inl v2] SH g2 Q3 ∧ ∀ g3 : vx_M, Q3 g3 → (∃ Q4 : Int → vx_M → Prop, vNi l mX2_admit d [.inr (some 20), .inr (some 39)] SH g3 Q4 ∧ ∀ (r4 : Int) (g4 : vx_M), Q4 r4 g4 → ((¬ r4 = 0 → Q 1 g4) ∧ (r4 = 0 → (∃ Q5 : vx_M → Prop, vNv l mX5_exchange d [.inr (some 0), .inl v1, .inl v2] SH g4 Q5 ∧ ∀ g5 : vx_M, Q5 g5 → Q (-4) g5)))))) ∧ ((g2 0 6) = 0 → Q (-4) g2))) ∧ (r2 = 0 → Q (-2) g2))))))) : vN l mX5_swap (d + 1) (vx_pi SH Q) SH g 0 [some (.inr (some 0)), some (.inl v1), some (.inl v2)] [] := by
  refine vr_aload_n 1 dX5_swap_0 rfl rfl rfl ?_
  refine vr_iload_n 2 dX5_swap_1 rfl rfl rfl ?_
  obtain ⟨Q1, hq, h⟩ := h
  refine vr_callVi 5 [.inl v1] 0 [] dX5_swap_2 rfl mc_X5_137 dn_X5_isPlace rfl rfl s_0 rfl (Nat.le_of_ble_eq_true rfl) (vx_rmR (by decide)) ⟨rfl, rfl⟩ ⟨Nat.le_refl _, Nat.le_refl _⟩ (fun _ _ => trivial) (fun _ _ => trivial) hq (fun r1 sh9 g1 hp _ _ => ?_)
  obtain ⟨e9, z9, e8, hp⟩ := hp
  subst e9
  cases e8
  replace h := h r1 g1 hp
  refine vr_if_eq 16 8 dX5_swap_5 rfl rfl (fun c => ?_) (fun c => ?_)
  · replace h := h.1 c
    refine vr_bipush 18 dX5_swap_16 rfl (by decide) ⟨by decide, by decide⟩ ?_
    exact vr_iret rfl (Nat.le_refl _) (Nat.le_refl _) dX5_swap_18 ⟨rfl, _, rfl, h⟩
  · replace h := h.2 c
    refine vr_aload_n 9 dX5_swap_8 rfl rfl rfl ?_
    refine vr_iload_n 10 dX5_swap_9 rfl rfl rfl ?_
    obtain ⟨Q2, hq, h⟩ := h
    refine vr_callVi 13 [.inl v2] 0 [] dX5_swap_10 rfl mc_X5_137 dn_X5_isPlace rfl rfl s_0 rfl (Nat.le_of_ble_eq_true rfl) (vx_rmR (by decide)) ⟨rfl, rfl⟩ ⟨Nat.le_refl _, Nat.le_refl _⟩ (fun _ _ => trivial) (fun _ _ => trivial) hq (fun r2 sh9 g2 hp _ _ => ?_)
    obtain ⟨e9, z9, e8, hp⟩ := hp
    subst e9
    cases e8
    replace h := h r2 g2 hp
    refine vr_if_ne 19 16 dX5_swap_13 rfl rfl (fun c => ?_) (fun c => ?_)
    · replace h := h.1 c
      refine vr_aload_n 20 dX5_swap_19 rfl rfl rfl ?_
      refine vr_geti 23 6 6 cl_X5 fl_X5_52 (by decide) rfl dX5_swap_20 rfl s_0 rfl ?_
      refine vr_if_ne 29 26 dX5_swap_23 rfl rfl (fun c => ?_) (fun c => ?_)
      · replace h := h.1 c
        refine vr_aload_n 30 dX5_swap_29 rfl rfl rfl ?_
        refine vr_iload_n 31 dX5_swap_30 rfl rfl rfl ?_
        refine vr_iload_n 32 dX5_swap_31 rfl rfl rfl ?_
        obtain ⟨Q3, hq, h⟩ := h
        refine vr_callVv 35 [.inl v1, .inl v2] 0 [] dX5_swap_32 rfl mc_X5_145 dn_X5_exchange rfl rfl s_0 rfl (Nat.le_of_ble_eq_true rfl) (vx_rmR (by decide)) ⟨rfl, rfl⟩ ⟨Nat.le_refl _, Nat.le_refl _⟩ (fun _ _ => trivial) (fun _ _ => trivial) hq (fun sh9 g3 hp _ => ?_)
        obtain ⟨e9, -, hp⟩ := hp
        subst e9
        replace h := h g3 hp
        refine vr_aload_n 36 dX5_swap_35 rfl rfl rfl ?_
        refine vr_getr 39 2 cl_X5 fl_X5_28 (by decide) dX5_swap_36 rfl s_0 rfl ?_
        refine vr_aload_n 40 dX5_swap_39 rfl rfl rfl ?_
        refine vr_getr 43 5 cl_X5 fl_X5_48 (by decide) dX5_swap_40 rfl s_0 rfl ?_
        obtain ⟨Q4, hq, h⟩ := h
        refine vr_callVi 46 [.inr (some 39)] 20 [] dX5_swap_43 rfl mc_X5_149 dn_X2_admit rfl rfl s_20 rfl (Nat.le_of_ble_eq_true rfl) (vx_rmR (by decide)) ⟨rfl, rfl⟩ ⟨Nat.le_refl _, Nat.le_refl _⟩ (fun _ _ => trivial) (fun _ _ => trivial) hq (fun r4 sh9 g4 hp _ _ => ?_)
        obtain ⟨e9, z9, e8, hp⟩ := hp
        subst e9
        cases e8
        replace h := h r4 g4 hp
        refine vr_if_ne 58 49 dX5_swap_46 rfl rfl (fun c => ?_) (fun c => ?_)
        · replace h := h.1 c
          refine vr_iconst 59 dX5_swap_58 rfl ⟨by decide, by decide⟩ ?_
          exact vr_iret rfl (Nat.le_refl _) (Nat.le_refl _) dX5_swap_59 ⟨rfl, _, rfl, h⟩
        · replace h := h.2 c
          refine vr_aload_n 50 dX5_swap_49 rfl rfl rfl ?_
          refine vr_iload_n 51 dX5_swap_50 rfl rfl rfl ?_
          refine vr_iload_n 52 dX5_swap_51 rfl rfl rfl ?_
          obtain ⟨Q5, hq, h⟩ := h
          refine vr_callVv 55 [.inl v1, .inl v2] 0 [] dX5_swap_52 rfl mc_X5_145 dn_X5_exchange rfl rfl s_0 rfl (Nat.le_of_ble_eq_true rfl) (vx_rmR (by decide)) ⟨rfl, rfl⟩ ⟨Nat.le_refl _, Nat.le_refl _⟩ (fun _ _ => trivial) (fun _ _ => trivial) hq (fun sh9 g5 hp _ => ?_)
          obtain ⟨e9, -, hp⟩ := hp
          subst e9
          replace h := h g5 hp
          refine vr_bipush 57 dX5_swap_55 rfl (by decide) ⟨by decide, by decide⟩ ?_
          exact vr_iret rfl (Nat.le_refl _) (Nat.le_refl _) dX5_swap_57 ⟨rfl, _, rfl, h⟩
      · replace h := h.2 c
        refine vr_bipush 28 dX5_swap_26 rfl (by decide) ⟨by decide, by decide⟩ ?_
        exact vr_iret rfl (Nat.le_refl _) (Nat.le_refl _) dX5_swap_28 ⟨rfl, _, rfl, h⟩
    · replace h := h.2 c
      refine vr_bipush 18 dX5_swap_16 rfl (by decide) ⟨by decide, by decide⟩ ?_
      exact vr_iret rfl (Nat.le_refl _) (Nat.le_refl _) dX5_swap_18 ⟨rfl, _, rfl, h⟩
theorem kX5_swap {l : Launch} {d : Nat} {Q : Int → vx_M → Prop} (g : vx_M) (v1 v2 : Int) (h : (∃ Q1 : Int → vx_M → Prop, vNi l mX5_isPlace d [.inr (some 0), .inl v1] SH g Q1 ∧ ∀ (r1 : Int) (g1 : vx_M), Q1 r1 g1 → ((r1 = 0 → Q (-2) g1) ∧ (¬ r1 = 0 → (∃ Q2 : Int → vx_M → Prop, vNi l mX5_isPlace d [.inr (some 0), .inl v2] SH g1 Q2 ∧ ∀ (r2 : Int) (g2 : vx_M), Q2 r2 g2 → ((¬ r2 = 0 → ((¬ (g2 0 6) = 0 → (∃ Q3 : vx_M → Prop, vNv l mX5_exchange d [.inr (some 0), .inl v1, .inl v2] SH g2 Q3 ∧ ∀ g3 : vx_M, Q3 g3 → (∃ Q4 : Int → vx_M → Prop, vNi l mX2_admit d [.inr (some 20), .inr (some 39)] SH g3 Q4 ∧ ∀ (r4 : Int) (g4 : vx_M), Q4 r4 g4 → ((¬ r4 = 0 → Q 1 g4) ∧ (r4 = 0 → (∃ Q5 : vx_M → Prop, vNv l mX5_exchange d [.inr (some 0), .inl v1, .inl v2] SH g4 Q5 ∧ ∀ g5 : vx_M, Q5 g5 → Q (-4) g5)))))) ∧ ((g2 0 6) = 0 → Q (-4) g2))) ∧ (r2 = 0 → Q (-2) g2))))))) : vNi l mX5_swap (d + 1) [.inr (some 0), .inl v1, .inl v2] SH g Q := vNi_of [some (.inr (some 0)), some (.inl v1), some (.inl v2)] pn_X5 (Nat.le_of_ble_eq_true rfl) rfl (tX5_swap_0 g v1 v2 h)
set_option maxRecDepth 100000 in
theorem tX5_tick_0 {l : Launch} {d : Nat} {Q : Int → vx_M → Prop} (g : vx_M) (v1 : Int) (h : (∃ Q1 : Int → vx_M → Prop, vNi l mX5_within d [.inl v1, .inl 0, .inl 2] SH g Q1 ∧ ∀ (r1 : Int) (g1 : vx_M), Q1 r1 g1 → ((¬ r1 = 0 → ((¬ (g1 0 6) = 0 → ((¬ v1 = 2 → (∃ Q2 : Int → vx_M → Prop, vNi l mX0_crowned d [.inr (some 36)] SH g1 Q2 ∧ ∀ (r2 : Int) (g2 : vx_M), Q2 r2 g2 → ((¬ v1 = 0 → vx_in (2 * r2) ∧ Q (2 * r2) g2) ∧ (v1 = 0 → Q r2 g2)))) ∧ (v1 = 2 → (∃ Q4 : vx_M → Prop, vNv l mX0_run d [.inr (some 36), .inr (some 39), .inl 200] SH g1 Q4 ∧ ∀ g4 : vx_M, Q4 g4 → Q (g4 36 5) g4)))) ∧ ((g1 0 6) = 0 → Q (-4) g1))) ∧ (r1 = 0 → Q (-3) g1)))) : vN l mX5_tick (d + 1) (vx_pi SH Q) SH g 0 [some (.inr (some 0)), some (.inl v1), none] [] := by
  refine vr_iload_n 1 dX5_tick_0 rfl rfl rfl ?_
  refine vr_iconst 2 dX5_tick_1 rfl ⟨by decide, by decide⟩ ?_
  refine vr_iconst 3 dX5_tick_2 rfl ⟨by decide, by decide⟩ ?_
  obtain ⟨Q1, hq, h⟩ := h
  refine vr_callSi 6 [.inl v1, .inl 0, .inl 2] [] dX5_tick_3 rfl mc_X5_72 dn_X5_within rfl rfl (Nat.le_of_ble_eq_true rfl) (vx_rmR (by decide)) ⟨rfl, rfl⟩ ⟨Nat.le_refl _, Nat.le_refl _⟩ (fun _ _ => trivial) (fun _ _ => trivial) hq (fun r1 sh9 g1 hp _ _ => ?_)
  obtain ⟨e9, z9, e8, hp⟩ := hp
  subst e9
  cases e8
  replace h := h r1 g1 hp
  refine vr_if_ne 12 9 dX5_tick_6 rfl rfl (fun c => ?_) (fun c => ?_)
  · replace h := h.1 c
    refine vr_aload_n 13 dX5_tick_12 rfl rfl rfl ?_
    refine vr_geti 16 6 6 cl_X5 fl_X5_52 (by decide) rfl dX5_tick_13 rfl s_0 rfl ?_
    refine vr_if_ne 22 19 dX5_tick_16 rfl rfl (fun c => ?_) (fun c => ?_)
    · replace h := h.1 c
      refine vr_iload_n 23 dX5_tick_22 rfl rfl rfl ?_
      refine vr_iconst 24 dX5_tick_23 rfl ⟨by decide, by decide⟩ ?_
      refine vr_icmp_ne 49 27 dX5_tick_24 rfl rfl (fun c => ?_) (fun c => ?_)
      · replace h := h.1 c
        refine vr_aload_n 50 dX5_tick_49 rfl rfl rfl ?_
        refine vr_getr 53 4 cl_X5 fl_X5_44 (by decide) dX5_tick_50 rfl s_0 rfl ?_
        obtain ⟨Q2, hq, h⟩ := h
        refine vr_callVi 56 [] 36 [] dX5_tick_53 rfl mc_X5_158 dn_X0_crowned rfl rfl s_36 rfl (Nat.le_of_ble_eq_true rfl) (vx_rmR (by decide)) ⟨rfl, rfl⟩ ⟨Nat.le_refl _, Nat.le_refl _⟩ (fun _ _ => trivial) (fun _ _ => trivial) hq (fun r2 sh9 g2 hp _ _ => ?_)
        obtain ⟨e9, z9, e8, hp⟩ := hp
        subst e9
        cases e8
        replace h := h r2 g2 hp
        refine vr_istore_n 57 [some (.inr (some 0)), some (.inl v1), some (.inl r2)] dX5_tick_56 rfl rfl (by decide) rfl ?_
        refine vr_iload_n 58 dX5_tick_57 rfl rfl rfl ?_
        refine vr_if_ne 65 61 dX5_tick_58 rfl rfl (fun c => ?_) (fun c => ?_)
        · replace h := h.1 c
          refine vr_iconst 66 dX5_tick_65 rfl ⟨by decide, by decide⟩ ?_
          refine vr_iload_n 67 dX5_tick_66 rfl rfl rfl ?_
          obtain ⟨o3, h⟩ := h
          refine vr_imul 68 dX5_tick_67 rfl o3 ?_
          exact vr_iret rfl (Nat.le_refl _) (Nat.le_refl _) dX5_tick_68 ⟨rfl, _, rfl, h⟩
        · replace h := h.2 c
          refine vr_iload_n 62 dX5_tick_61 rfl rfl rfl ?_
          refine vr_goto 68 dX5_tick_62 rfl ?_
          exact vr_iret rfl (Nat.le_refl _) (Nat.le_refl _) dX5_tick_68 ⟨rfl, _, rfl, h⟩
      · replace h := h.2 c
        refine vr_aload_n 28 dX5_tick_27 rfl rfl rfl ?_
        refine vr_getr 31 4 cl_X5 fl_X5_44 (by decide) dX5_tick_28 rfl s_0 rfl ?_
        refine vr_aload_n 32 dX5_tick_31 rfl rfl rfl ?_
        refine vr_getr 35 5 cl_X5 fl_X5_48 (by decide) dX5_tick_32 rfl s_0 rfl ?_
        refine vr_sipush 38 dX5_tick_35 rfl (by decide) ⟨by decide, by decide⟩ ?_
        obtain ⟨Q4, hq, h⟩ := h
        refine vr_callVv 41 [.inr (some 39), .inl 200] 36 [] dX5_tick_38 rfl mc_X5_152 dn_X0_run rfl rfl s_36 rfl (Nat.le_of_ble_eq_true rfl) (vx_rmR (by decide)) ⟨rfl, rfl⟩ ⟨Nat.le_refl _, Nat.le_refl _⟩ (fun _ _ => trivial) (fun _ _ => trivial) hq (fun sh9 g4 hp _ => ?_)
        obtain ⟨e9, -, hp⟩ := hp
        subst e9
        replace h := h g4 hp
        refine vr_aload_n 42 dX5_tick_41 rfl rfl rfl ?_
        refine vr_getr 45 4 cl_X5 fl_X5_44 (by decide) dX5_tick_42 rfl s_0 rfl ?_
        refine vr_geti 48 5 5 cl_X0 fl_X5_155 (by decide) rfl dX5_tick_45 rfl s_36 rfl ?_
        exact vr_iret rfl (Nat.le_refl _) (Nat.le_refl _) dX5_tick_48 ⟨rfl, _, rfl, h⟩
    · replace h := h.2 c
      refine vr_bipush 21 dX5_tick_19 rfl (by decide) ⟨by decide, by decide⟩ ?_
      exact vr_iret rfl (Nat.le_refl _) (Nat.le_refl _) dX5_tick_21 ⟨rfl, _, rfl, h⟩
  · replace h := h.2 c
    refine vr_bipush 11 dX5_tick_9 rfl (by decide) ⟨by decide, by decide⟩ ?_
    exact vr_iret rfl (Nat.le_refl _) (Nat.le_refl _) dX5_tick_11 ⟨rfl, _, rfl, h⟩
theorem kX5_tick {l : Launch} {d : Nat} {Q : Int → vx_M → Prop} (g : vx_M) (v1 : Int) (h : (∃ Q1 : Int → vx_M → Prop, vNi l mX5_within d [.inl v1, .inl 0, .inl 2] SH g Q1 ∧ ∀ (r1 : Int) (g1 : vx_M), Q1 r1 g1 → ((¬ r1 = 0 → ((¬ (g1 0 6) = 0 → ((¬ v1 = 2 → (∃ Q2 : Int → vx_M → Prop, vNi l mX0_crowned d [.inr (some 36)] SH g1 Q2 ∧ ∀ (r2 : Int) (g2 : vx_M), Q2 r2 g2 → ((¬ v1 = 0 → vx_in (2 * r2) ∧ Q (2 * r2) g2) ∧ (v1 = 0 → Q r2 g2)))) ∧ (v1 = 2 → (∃ Q4 : vx_M → Prop, vNv l mX0_run d [.inr (some 36), .inr (some 39), .inl 200] SH g1 Q4 ∧ ∀ g4 : vx_M, Q4 g4 → Q (g4 36 5) g4)))) ∧ ((g1 0 6) = 0 → Q (-4) g1))) ∧ (r1 = 0 → Q (-3) g1)))) : vNi l mX5_tick (d + 1) [.inr (some 0), .inl v1] SH g Q := vNi_of [some (.inr (some 0)), some (.inl v1), none] pn_X5 (Nat.le_of_ble_eq_true rfl) rfl (tX5_tick_0 g v1 h)
set_option maxRecDepth 100000 in
theorem tX5_weak_0 {l : Launch} {d : Nat} {Q : Int → vx_M → Prop} (g : vx_M) (h : ((¬ (g 0 6) = 0 → (∃ Q1 : vx_M → Prop, vNv l mX0_run d [.inr (some 36), .inr (some 39), .inl 200] SH g Q1 ∧ ∀ g1 : vx_M, Q1 g1 → Q (g1 36 6) g1)) ∧ ((g 0 6) = 0 → Q (-4) g))) : vN l mX5_weak (d + 1) (vx_pi SH Q) SH g 0 [some (.inr (some 0))] [] := by
  refine vr_aload_n 1 dX5_weak_0 rfl rfl rfl ?_
  refine vr_geti 4 6 6 cl_X5 fl_X5_52 (by decide) rfl dX5_weak_1 rfl s_0 rfl ?_
  refine vr_if_ne 10 7 dX5_weak_4 rfl rfl (fun c => ?_) (fun c => ?_)
  · replace h := h.1 c
    refine vr_aload_n 11 dX5_weak_10 rfl rfl rfl ?_
    refine vr_getr 14 4 cl_X5 fl_X5_44 (by decide) dX5_weak_11 rfl s_0 rfl ?_
    refine vr_aload_n 15 dX5_weak_14 rfl rfl rfl ?_
    refine vr_getr 18 5 cl_X5 fl_X5_48 (by decide) dX5_weak_15 rfl s_0 rfl ?_
    refine vr_sipush 21 dX5_weak_18 rfl (by decide) ⟨by decide, by decide⟩ ?_
    obtain ⟨Q1, hq, h⟩ := h
    refine vr_callVv 24 [.inr (some 39), .inl 200] 36 [] dX5_weak_21 rfl mc_X5_152 dn_X0_run rfl rfl s_36 rfl (Nat.le_of_ble_eq_true rfl) (vx_rmR (by decide)) ⟨rfl, rfl⟩ ⟨Nat.le_refl _, Nat.le_refl _⟩ (fun _ _ => trivial) (fun _ _ => trivial) hq (fun sh9 g1 hp _ => ?_)
    obtain ⟨e9, -, hp⟩ := hp
    subst e9
    replace h := h g1 hp
    refine vr_aload_n 25 dX5_weak_24 rfl rfl rfl ?_
    refine vr_getr 28 4 cl_X5 fl_X5_44 (by decide) dX5_weak_25 rfl s_0 rfl ?_
    refine vr_geti 31 6 6 cl_X0 fl_X5_161 (by decide) rfl dX5_weak_28 rfl s_36 rfl ?_
    exact vr_iret rfl (Nat.le_refl _) (Nat.le_refl _) dX5_weak_31 ⟨rfl, _, rfl, h⟩
  · replace h := h.2 c
    refine vr_bipush 9 dX5_weak_7 rfl (by decide) ⟨by decide, by decide⟩ ?_
    exact vr_iret rfl (Nat.le_refl _) (Nat.le_refl _) dX5_weak_9 ⟨rfl, _, rfl, h⟩
theorem kX5_weak {l : Launch} {d : Nat} {Q : Int → vx_M → Prop} (g : vx_M) (h : ((¬ (g 0 6) = 0 → (∃ Q1 : vx_M → Prop, vNv l mX0_run d [.inr (some 36), .inr (some 39), .inl 200] SH g Q1 ∧ ∀ g1 : vx_M, Q1 g1 → Q (g1 36 6) g1)) ∧ ((g 0 6) = 0 → Q (-4) g))) : vNi l mX5_weak (d + 1) [.inr (some 0)] SH g Q := vNi_of [some (.inr (some 0))] pn_X5 (Nat.le_of_ble_eq_true rfl) rfl (tX5_weak_0 g  h)
set_option maxRecDepth 100000 in
theorem tX5_effort_0 {l : Launch} {d : Nat} {Q : Int → vx_M → Prop} (g : vx_M) (v1 v2 : Int) (h : (∃ Q1 : Int → vx_M → Prop, vNi l mX5_isPlace d [.inr (some 0), .inl v1] SH g Q1 ∧ ∀ (r1 : Int) (g1 : vx_M), Q1 r1 g1 → ((¬ r1 = 0 → (∃ Q2 : Int → vx_M → Prop, vNi l mX5_within d [.inl v2, .inl 0, .inl 200] SH g1 Q2 ∧ ∀ (r2 : Int) (g2 : vx_M), Q2 r2 g2 → ((¬ r2 = 0 → ((¬ (g2 0 6) = 0 → (∃ Q3 : vx_M → Prop, vNv l mX0_run d [.inr (some 36), .inr (some 39), .inl v2] SH g2 Q3 ∧ ∀ g3 : vx_M, Q3 g3 → (0 ≤ v1 ∧ v1 < 7) ∧ Q (g3 38 v1) g3)) ∧ ((g2 0 6) = 0 → Q (-4) g2))) ∧ (r2 = 0 → Q (-3) g2)))) ∧ (r1 = 0 → Q (-2) g1)))) : vN l mX5_effort (d + 1) (vx_pi SH Q) SH g 0 [some (.inr (some 0)), some (.inl v1), some (.inl v2)] [] := by
  refine vr_aload_n 1 dX5_effort_0 rfl rfl rfl ?_
  refine vr_iload_n 2 dX5_effort_1 rfl rfl rfl ?_
  obtain ⟨Q1, hq, h⟩ := h
  refine vr_callVi 5 [.inl v1] 0 [] dX5_effort_2 rfl mc_X5_137 dn_X5_isPlace rfl rfl s_0 rfl (Nat.le_of_ble_eq_true rfl) (vx_rmR (by decide)) ⟨rfl, rfl⟩ ⟨Nat.le_refl _, Nat.le_refl _⟩ (fun _ _ => trivial) (fun _ _ => trivial) hq (fun r1 sh9 g1 hp _ _ => ?_)
  obtain ⟨e9, z9, e8, hp⟩ := hp
  subst e9
  cases e8
  replace h := h r1 g1 hp
  refine vr_if_ne 11 8 dX5_effort_5 rfl rfl (fun c => ?_) (fun c => ?_)
  · replace h := h.1 c
    refine vr_iload_n 12 dX5_effort_11 rfl rfl rfl ?_
    refine vr_iconst 13 dX5_effort_12 rfl ⟨by decide, by decide⟩ ?_
    refine vr_sipush 16 dX5_effort_13 rfl (by decide) ⟨by decide, by decide⟩ ?_
    obtain ⟨Q2, hq, h⟩ := h
    refine vr_callSi 19 [.inl v2, .inl 0, .inl 200] [] dX5_effort_16 rfl mc_X5_72 dn_X5_within rfl rfl (Nat.le_of_ble_eq_true rfl) (vx_rmR (by decide)) ⟨rfl, rfl⟩ ⟨Nat.le_refl _, Nat.le_refl _⟩ (fun _ _ => trivial) (fun _ _ => trivial) hq (fun r2 sh9 g2 hp _ _ => ?_)
    obtain ⟨e9, z9, e8, hp⟩ := hp
    subst e9
    cases e8
    replace h := h r2 g2 hp
    refine vr_if_ne 25 22 dX5_effort_19 rfl rfl (fun c => ?_) (fun c => ?_)
    · replace h := h.1 c
      refine vr_aload_n 26 dX5_effort_25 rfl rfl rfl ?_
      refine vr_geti 29 6 6 cl_X5 fl_X5_52 (by decide) rfl dX5_effort_26 rfl s_0 rfl ?_
      refine vr_if_ne 35 32 dX5_effort_29 rfl rfl (fun c => ?_) (fun c => ?_)
      · replace h := h.1 c
        refine vr_aload_n 36 dX5_effort_35 rfl rfl rfl ?_
        refine vr_getr 39 4 cl_X5 fl_X5_44 (by decide) dX5_effort_36 rfl s_0 rfl ?_
        refine vr_aload_n 40 dX5_effort_39 rfl rfl rfl ?_
        refine vr_getr 43 5 cl_X5 fl_X5_48 (by decide) dX5_effort_40 rfl s_0 rfl ?_
        refine vr_iload_n 44 dX5_effort_43 rfl rfl rfl ?_
        obtain ⟨Q3, hq, h⟩ := h
        refine vr_callVv 47 [.inr (some 39), .inl v2] 36 [] dX5_effort_44 rfl mc_X5_152 dn_X0_run rfl rfl s_36 rfl (Nat.le_of_ble_eq_true rfl) (vx_rmR (by decide)) ⟨rfl, rfl⟩ ⟨Nat.le_refl _, Nat.le_refl _⟩ (fun _ _ => trivial) (fun _ _ => trivial) hq (fun sh9 g3 hp _ => ?_)
        obtain ⟨e9, -, hp⟩ := hp
        subst e9
        replace h := h g3 hp
        refine vr_aload_n 48 dX5_effort_47 rfl rfl rfl ?_
        refine vr_getr 51 4 cl_X5 fl_X5_44 (by decide) dX5_effort_48 rfl s_0 rfl ?_
        refine vr_getr 54 4 cl_X0 fl_X5_164 (by decide) dX5_effort_51 rfl s_36 rfl ?_
        refine vr_iload_n 55 dX5_effort_54 rfl rfl rfl ?_
        obtain ⟨o4, h⟩ := h
        refine vr_iald 56 dX5_effort_55 rfl s_38 o4.1 o4.2 ?_
        exact vr_iret rfl (Nat.le_refl _) (Nat.le_refl _) dX5_effort_56 ⟨rfl, _, rfl, h⟩
      · replace h := h.2 c
        refine vr_bipush 34 dX5_effort_32 rfl (by decide) ⟨by decide, by decide⟩ ?_
        exact vr_iret rfl (Nat.le_refl _) (Nat.le_refl _) dX5_effort_34 ⟨rfl, _, rfl, h⟩
    · replace h := h.2 c
      refine vr_bipush 24 dX5_effort_22 rfl (by decide) ⟨by decide, by decide⟩ ?_
      exact vr_iret rfl (Nat.le_refl _) (Nat.le_refl _) dX5_effort_24 ⟨rfl, _, rfl, h⟩
  · replace h := h.2 c
    refine vr_bipush 10 dX5_effort_8 rfl (by decide) ⟨by decide, by decide⟩ ?_
    exact vr_iret rfl (Nat.le_refl _) (Nat.le_refl _) dX5_effort_10 ⟨rfl, _, rfl, h⟩
theorem kX5_effort {l : Launch} {d : Nat} {Q : Int → vx_M → Prop} (g : vx_M) (v1 v2 : Int) (h : (∃ Q1 : Int → vx_M → Prop, vNi l mX5_isPlace d [.inr (some 0), .inl v1] SH g Q1 ∧ ∀ (r1 : Int) (g1 : vx_M), Q1 r1 g1 → ((¬ r1 = 0 → (∃ Q2 : Int → vx_M → Prop, vNi l mX5_within d [.inl v2, .inl 0, .inl 200] SH g1 Q2 ∧ ∀ (r2 : Int) (g2 : vx_M), Q2 r2 g2 → ((¬ r2 = 0 → ((¬ (g2 0 6) = 0 → (∃ Q3 : vx_M → Prop, vNv l mX0_run d [.inr (some 36), .inr (some 39), .inl v2] SH g2 Q3 ∧ ∀ g3 : vx_M, Q3 g3 → (0 ≤ v1 ∧ v1 < 7) ∧ Q (g3 38 v1) g3)) ∧ ((g2 0 6) = 0 → Q (-4) g2))) ∧ (r2 = 0 → Q (-3) g2)))) ∧ (r1 = 0 → Q (-2) g1)))) : vNi l mX5_effort (d + 1) [.inr (some 0), .inl v1, .inl v2] SH g Q := vNi_of [some (.inr (some 0)), some (.inl v1), some (.inl v2)] pn_X5 (Nat.le_of_ble_eq_true rfl) rfl (tX5_effort_0 g v1 v2 h)
set_option maxRecDepth 100000 in
theorem tX5_worths_0 {l : Launch} {d : Nat} {Q : Int → vx_M → Prop} (g : vx_M) (v1 v2 : Int) (h : (∃ Q1 : Int → vx_M → Prop, vNi l mX5_within d [.inl v1, .inl 0, .inl 1000] SH g Q1 ∧ ∀ (r1 : Int) (g1 : vx_M), Q1 r1 g1 → ((r1 = 0 → Q (-3) g1) ∧ (¬ r1 = 0 → (∃ Q2 : Int → vx_M → Prop, vNi l mX5_within d [.inl v2, .inl 0, .inl 1000] SH g1 Q2 ∧ ∀ (r2 : Int) (g2 : vx_M), Q2 r2 g2 → ((¬ r2 = 0 → Q 1 (vx_u (vx_u g2 0 7 v1) 0 8 v2)) ∧ (r2 = 0 → Q (-3) g2))))))) : vN l mX5_worths (d + 1) (vx_pi SH Q) SH g 0 [some (.inr (some 0)), some (.inl v1), some (.inl v2)] [] := by
  refine vr_iload_n 1 dX5_worths_0 rfl rfl rfl ?_
  refine vr_iconst 2 dX5_worths_1 rfl ⟨by decide, by decide⟩ ?_
  refine vr_sipush 5 dX5_worths_2 rfl (by decide) ⟨by decide, by decide⟩ ?_
  obtain ⟨Q1, hq, h⟩ := h
  refine vr_callSi 8 [.inl v1, .inl 0, .inl 1000] [] dX5_worths_5 rfl mc_X5_72 dn_X5_within rfl rfl (Nat.le_of_ble_eq_true rfl) (vx_rmR (by decide)) ⟨rfl, rfl⟩ ⟨Nat.le_refl _, Nat.le_refl _⟩ (fun _ _ => trivial) (fun _ _ => trivial) hq (fun r1 sh9 g1 hp _ _ => ?_)
  obtain ⟨e9, z9, e8, hp⟩ := hp
  subst e9
  cases e8
  replace h := h r1 g1 hp
  refine vr_if_eq 22 11 dX5_worths_8 rfl rfl (fun c => ?_) (fun c => ?_)
  · replace h := h.1 c
    refine vr_bipush 24 dX5_worths_22 rfl (by decide) ⟨by decide, by decide⟩ ?_
    exact vr_iret rfl (Nat.le_refl _) (Nat.le_refl _) dX5_worths_24 ⟨rfl, _, rfl, h⟩
  · replace h := h.2 c
    refine vr_iload_n 12 dX5_worths_11 rfl rfl rfl ?_
    refine vr_iconst 13 dX5_worths_12 rfl ⟨by decide, by decide⟩ ?_
    refine vr_sipush 16 dX5_worths_13 rfl (by decide) ⟨by decide, by decide⟩ ?_
    obtain ⟨Q2, hq, h⟩ := h
    refine vr_callSi 19 [.inl v2, .inl 0, .inl 1000] [] dX5_worths_16 rfl mc_X5_72 dn_X5_within rfl rfl (Nat.le_of_ble_eq_true rfl) (vx_rmR (by decide)) ⟨rfl, rfl⟩ ⟨Nat.le_refl _, Nat.le_refl _⟩ (fun _ _ => trivial) (fun _ _ => trivial) hq (fun r2 sh9 g2 hp _ _ => ?_)
    obtain ⟨e9, z9, e8, hp⟩ := hp
    subst e9
    cases e8
    replace h := h r2 g2 hp
    refine vr_if_ne 25 22 dX5_worths_19 rfl rfl (fun c => ?_) (fun c => ?_)
    · replace h := h.1 c
      refine vr_aload_n 26 dX5_worths_25 rfl rfl rfl ?_
      refine vr_iload_n 27 dX5_worths_26 rfl rfl rfl ?_
      refine vr_puti 30 7 7 cl_X5 fl_X5_56 (by decide) rfl rfl rfl dX5_worths_27 rfl s_0 rfl ?_
      refine vr_aload_n 31 dX5_worths_30 rfl rfl rfl ?_
      refine vr_iload_n 32 dX5_worths_31 rfl rfl rfl ?_
      refine vr_puti 35 8 8 cl_X5 fl_X5_60 (by decide) rfl rfl rfl dX5_worths_32 rfl s_0 rfl ?_
      refine vr_iconst 36 dX5_worths_35 rfl ⟨by decide, by decide⟩ ?_
      exact vr_iret rfl (Nat.le_refl _) (Nat.le_refl _) dX5_worths_36 ⟨rfl, _, rfl, h⟩
    · replace h := h.2 c
      refine vr_bipush 24 dX5_worths_22 rfl (by decide) ⟨by decide, by decide⟩ ?_
      exact vr_iret rfl (Nat.le_refl _) (Nat.le_refl _) dX5_worths_24 ⟨rfl, _, rfl, h⟩
theorem kX5_worths {l : Launch} {d : Nat} {Q : Int → vx_M → Prop} (g : vx_M) (v1 v2 : Int) (h : (∃ Q1 : Int → vx_M → Prop, vNi l mX5_within d [.inl v1, .inl 0, .inl 1000] SH g Q1 ∧ ∀ (r1 : Int) (g1 : vx_M), Q1 r1 g1 → ((r1 = 0 → Q (-3) g1) ∧ (¬ r1 = 0 → (∃ Q2 : Int → vx_M → Prop, vNi l mX5_within d [.inl v2, .inl 0, .inl 1000] SH g1 Q2 ∧ ∀ (r2 : Int) (g2 : vx_M), Q2 r2 g2 → ((¬ r2 = 0 → Q 1 (vx_u (vx_u g2 0 7 v1) 0 8 v2)) ∧ (r2 = 0 → Q (-3) g2))))))) : vNi l mX5_worths (d + 1) [.inr (some 0), .inl v1, .inl v2] SH g Q := vNi_of [some (.inr (some 0)), some (.inl v1), some (.inl v2)] pn_X5 (Nat.le_of_ble_eq_true rfl) rfl (tX5_worths_0 g v1 v2 h)
set_option maxRecDepth 100000 in
theorem tX5_attempt_0 {l : Launch} {d : Nat} {Q : Int → vx_M → Prop} (g : vx_M) (h : ((¬ (g 0 6) = 0 → (∃ Q1 : Int → vx_M → Prop, vNi l mX5_pointsOfTry d [.inr (some 0)] SH g Q1 ∧ ∀ (r1 : Int) (g1 : vx_M), Q1 r1 g1 → vx_in ((g1 0 9) + r1) ∧ Q r1 (vx_u g1 0 9 ((g1 0 9) + r1)))) ∧ ((g 0 6) = 0 → Q (-4) g))) : vN l mX5_attempt (d + 1) (vx_pi SH Q) SH g 0 [some (.inr (some 0)), none] [] := by
  refine vr_aload_n 1 dX5_attempt_0 rfl rfl rfl ?_
  refine vr_geti 4 6 6 cl_X5 fl_X5_52 (by decide) rfl dX5_attempt_1 rfl s_0 rfl ?_
  refine vr_if_ne 10 7 dX5_attempt_4 rfl rfl (fun c => ?_) (fun c => ?_)
  · replace h := h.1 c
    refine vr_aload_n 11 dX5_attempt_10 rfl rfl rfl ?_
    obtain ⟨Q1, hq, h⟩ := h
    refine vr_callVi 14 [] 0 [] dX5_attempt_11 rfl mc_X5_167 dn_X5_pointsOfTry rfl rfl s_0 rfl (Nat.le_of_ble_eq_true rfl) (vx_rmR (by decide)) ⟨rfl, rfl⟩ ⟨Nat.le_refl _, Nat.le_refl _⟩ (fun _ _ => trivial) (fun _ _ => trivial) hq (fun r1 sh9 g1 hp _ _ => ?_)
    obtain ⟨e9, z9, e8, hp⟩ := hp
    subst e9
    cases e8
    replace h := h r1 g1 hp
    refine vr_istore_n 15 [some (.inr (some 0)), some (.inl r1)] dX5_attempt_14 rfl rfl (by decide) rfl ?_
    refine vr_aload_n 16 dX5_attempt_15 rfl rfl rfl ?_
    refine vr_dup 17 dX5_attempt_16 rfl ?_
    refine vr_geti 20 9 9 cl_X5 fl_X5_63 (by decide) rfl dX5_attempt_17 rfl s_0 rfl ?_
    refine vr_iload_n 21 dX5_attempt_20 rfl rfl rfl ?_
    obtain ⟨o2, h⟩ := h
    refine vr_iadd 22 dX5_attempt_21 rfl o2 ?_
    refine vr_puti 25 9 9 cl_X5 fl_X5_63 (by decide) rfl rfl rfl dX5_attempt_22 rfl s_0 rfl ?_
    refine vr_iload_n 26 dX5_attempt_25 rfl rfl rfl ?_
    exact vr_iret rfl (Nat.le_refl _) (Nat.le_refl _) dX5_attempt_26 ⟨rfl, _, rfl, h⟩
  · replace h := h.2 c
    refine vr_bipush 9 dX5_attempt_7 rfl (by decide) ⟨by decide, by decide⟩ ?_
    exact vr_iret rfl (Nat.le_refl _) (Nat.le_refl _) dX5_attempt_9 ⟨rfl, _, rfl, h⟩
theorem kX5_attempt {l : Launch} {d : Nat} {Q : Int → vx_M → Prop} (g : vx_M) (h : ((¬ (g 0 6) = 0 → (∃ Q1 : Int → vx_M → Prop, vNi l mX5_pointsOfTry d [.inr (some 0)] SH g Q1 ∧ ∀ (r1 : Int) (g1 : vx_M), Q1 r1 g1 → vx_in ((g1 0 9) + r1) ∧ Q r1 (vx_u g1 0 9 ((g1 0 9) + r1)))) ∧ ((g 0 6) = 0 → Q (-4) g))) : vNi l mX5_attempt (d + 1) [.inr (some 0)] SH g Q := vNi_of [some (.inr (some 0)), none] pn_X5 (Nat.le_of_ble_eq_true rfl) rfl (tX5_attempt_0 g  h)
set_option maxRecDepth 100000 in
theorem tX5_count_0 {l : Launch} {d : Nat} {Q : Int → vx_M → Prop} (g : vx_M) (v1 : Int) (h : (((v1 < 0 ∨ 5 < v1) → Q (-3) g) ∧ (v1 = 0 → Q (g 1 4) g) ∧ (v1 = 1 → Q (g 1 5) g) ∧ (v1 = 2 → Q (g 13 6) g) ∧ (v1 = 3 → (∃ Q1 : Int → vx_M → Prop, vNi l mX1_countOut d [.inr (some 13)] SH g Q1 ∧ ∀ (r1 : Int) (g1 : vx_M), Q1 r1 g1 → Q r1 g1)) ∧ (v1 = 4 → Q (g 0 9) g) ∧ (v1 = 5 → (((g 0 6) = 0 → Q 0 g) ∧ (¬ (g 0 6) = 0 → Q 1 g))))) : vN l mX5_count (d + 1) (vx_pi SH Q) SH g 0 [some (.inr (some 0)), some (.inl v1)] [] := by
  refine vr_iload_n 1 dX5_count_0 rfl rfl rfl ?_
  by_cases q : v1 < 0 ∨ 5 < v1
  · replace h := h.1 q
    refine vr_tabOut 90 dX5_count_1 q rfl ?_
    refine vr_bipush 92 dX5_count_90 rfl (by decide) ⟨by decide, by decide⟩ ?_
    exact vr_iret rfl (Nat.le_refl _) (Nat.le_refl _) dX5_count_92 ⟨rfl, _, rfl, h⟩
  · replace h := h.2
    by_cases q0 : v1 = 0
    · replace h := h.1 q0
      refine vr_tabIn 40 dX5_count_1 (by omega) (by omega) (by rw [q0]; rfl) rfl ?_
      refine vr_aload_n 41 dX5_count_40 rfl rfl rfl ?_
      refine vr_getr 44 0 cl_X5 fl_X5_10 (by decide) dX5_count_41 rfl s_0 rfl ?_
      refine vr_geti 47 4 4 cl_X4 fl_X5_93 (by decide) rfl dX5_count_44 rfl s_1 rfl ?_
      exact vr_iret rfl (Nat.le_refl _) (Nat.le_refl _) dX5_count_47 ⟨rfl, _, rfl, h⟩
    replace h := h.2
    by_cases q1 : v1 = 1
    · replace h := h.1 q1
      refine vr_tabIn 48 dX5_count_1 (by omega) (by omega) (by rw [q1]; rfl) rfl ?_
      refine vr_aload_n 49 dX5_count_48 rfl rfl rfl ?_
      refine vr_getr 52 0 cl_X5 fl_X5_10 (by decide) dX5_count_49 rfl s_0 rfl ?_
      refine vr_geti 55 5 5 cl_X4 fl_X5_87 (by decide) rfl dX5_count_52 rfl s_1 rfl ?_
      exact vr_iret rfl (Nat.le_refl _) (Nat.le_refl _) dX5_count_55 ⟨rfl, _, rfl, h⟩
    replace h := h.2
    by_cases q2 : v1 = 2
    · replace h := h.1 q2
      refine vr_tabIn 56 dX5_count_1 (by omega) (by omega) (by rw [q2]; rfl) rfl ?_
      refine vr_aload_n 57 dX5_count_56 rfl rfl rfl ?_
      refine vr_getr 60 1 cl_X5 fl_X5_19 (by decide) dX5_count_57 rfl s_0 rfl ?_
      refine vr_geti 63 6 6 cl_X1 fl_X5_100 (by decide) rfl dX5_count_60 rfl s_13 rfl ?_
      exact vr_iret rfl (Nat.le_refl _) (Nat.le_refl _) dX5_count_63 ⟨rfl, _, rfl, h⟩
    replace h := h.2
    by_cases q3 : v1 = 3
    · replace h := h.1 q3
      refine vr_tabIn 64 dX5_count_1 (by omega) (by omega) (by rw [q3]; rfl) rfl ?_
      refine vr_aload_n 65 dX5_count_64 rfl rfl rfl ?_
      refine vr_getr 68 1 cl_X5 fl_X5_19 (by decide) dX5_count_65 rfl s_0 rfl ?_
      obtain ⟨Q1, hq, h⟩ := h
      refine vr_callVi 71 [] 13 [] dX5_count_68 rfl mc_X5_170 dn_X1_countOut rfl rfl s_13 rfl (Nat.le_of_ble_eq_true rfl) (vx_rmR (by decide)) ⟨rfl, rfl⟩ ⟨Nat.le_refl _, Nat.le_refl _⟩ (fun _ _ => trivial) (fun _ _ => trivial) hq (fun r1 sh9 g1 hp _ _ => ?_)
      obtain ⟨e9, z9, e8, hp⟩ := hp
      subst e9
      cases e8
      replace h := h r1 g1 hp
      exact vr_iret rfl (Nat.le_refl _) (Nat.le_refl _) dX5_count_71 ⟨rfl, _, rfl, h⟩
    replace h := h.2
    by_cases q4 : v1 = 4
    · replace h := h.1 q4
      refine vr_tabIn 72 dX5_count_1 (by omega) (by omega) (by rw [q4]; rfl) rfl ?_
      refine vr_aload_n 73 dX5_count_72 rfl rfl rfl ?_
      refine vr_geti 76 9 9 cl_X5 fl_X5_63 (by decide) rfl dX5_count_73 rfl s_0 rfl ?_
      exact vr_iret rfl (Nat.le_refl _) (Nat.le_refl _) dX5_count_76 ⟨rfl, _, rfl, h⟩
    replace h := h.2
    by_cases q5 : v1 = 5
    · replace h := h q5
      refine vr_tabIn 77 dX5_count_1 (by omega) (by omega) (by rw [q5]; rfl) rfl ?_
      refine vr_aload_n 78 dX5_count_77 rfl rfl rfl ?_
      refine vr_geti 81 6 6 cl_X5 fl_X5_52 (by decide) rfl dX5_count_78 rfl s_0 rfl ?_
      refine vr_if_eq 88 84 dX5_count_81 rfl rfl (fun c => ?_) (fun c => ?_)
      · replace h := h.1 c
        refine vr_iconst 89 dX5_count_88 rfl ⟨by decide, by decide⟩ ?_
        exact vr_iret rfl (Nat.le_refl _) (Nat.le_refl _) dX5_count_89 ⟨rfl, _, rfl, h⟩
      · replace h := h.2 c
        refine vr_iconst 85 dX5_count_84 rfl ⟨by decide, by decide⟩ ?_
        refine vr_goto 89 dX5_count_85 rfl ?_
        exact vr_iret rfl (Nat.le_refl _) (Nat.le_refl _) dX5_count_89 ⟨rfl, _, rfl, h⟩
    omega
theorem kX5_count {l : Launch} {d : Nat} {Q : Int → vx_M → Prop} (g : vx_M) (v1 : Int) (h : (((v1 < 0 ∨ 5 < v1) → Q (-3) g) ∧ (v1 = 0 → Q (g 1 4) g) ∧ (v1 = 1 → Q (g 1 5) g) ∧ (v1 = 2 → Q (g 13 6) g) ∧ (v1 = 3 → (∃ Q1 : Int → vx_M → Prop, vNi l mX1_countOut d [.inr (some 13)] SH g Q1 ∧ ∀ (r1 : Int) (g1 : vx_M), Q1 r1 g1 → Q r1 g1)) ∧ (v1 = 4 → Q (g 0 9) g) ∧ (v1 = 5 → (((g 0 6) = 0 → Q 0 g) ∧ (¬ (g 0 6) = 0 → Q 1 g))))) : vNi l mX5_count (d + 1) [.inr (some 0), .inl v1] SH g Q := vNi_of [some (.inr (some 0)), some (.inl v1)] pn_X5 (Nat.le_of_ble_eq_true rfl) rfl (tX5_count_0 g v1 h)
set_option maxRecDepth 100000 in
theorem tX5_within_0 {l : Launch} {d : Nat} {Q : Int → vx_M → Prop} (g : vx_M) (v0 v1 v2 : Int) (h : ((v0 < v1 → Q 0 g) ∧ (¬ v0 < v1 → ((v2 < v0 → Q 0 g) ∧ (¬ v2 < v0 → Q 1 g))))) : vN l mX5_within d (vx_pi SH Q) SH g 0 [some (.inl v0), some (.inl v1), some (.inl v2)] [] := by
  refine vr_iload_n 1 dX5_within_0 rfl rfl rfl ?_
  refine vr_iload_n 2 dX5_within_1 rfl rfl rfl ?_
  refine vr_icmp_lt 14 5 dX5_within_2 rfl rfl (fun c => ?_) (fun c => ?_)
  · replace h := h.1 c
    refine vr_iconst 15 dX5_within_14 rfl ⟨by decide, by decide⟩ ?_
    exact vr_zret rfl (Nat.le_refl _) (Nat.le_refl _) dX5_within_15 (by decide) ⟨rfl, _, rfl, h⟩
  · replace h := h.2 c
    refine vr_iload_n 6 dX5_within_5 rfl rfl rfl ?_
    refine vr_iload_n 7 dX5_within_6 rfl rfl rfl ?_
    refine vr_icmp_gt 14 10 dX5_within_7 rfl rfl (fun c => ?_) (fun c => ?_)
    · replace h := h.1 c
      refine vr_iconst 15 dX5_within_14 rfl ⟨by decide, by decide⟩ ?_
      exact vr_zret rfl (Nat.le_refl _) (Nat.le_refl _) dX5_within_15 (by decide) ⟨rfl, _, rfl, h⟩
    · replace h := h.2 c
      refine vr_iconst 11 dX5_within_10 rfl ⟨by decide, by decide⟩ ?_
      refine vr_goto 15 dX5_within_11 rfl ?_
      exact vr_zret rfl (Nat.le_refl _) (Nat.le_refl _) dX5_within_15 (by decide) ⟨rfl, _, rfl, h⟩
theorem kX5_within {l : Launch} {d : Nat} {Q : Int → vx_M → Prop} (g : vx_M) (v0 v1 v2 : Int) (h : ((v0 < v1 → Q 0 g) ∧ (¬ v0 < v1 → ((v2 < v0 → Q 0 g) ∧ (¬ v2 < v0 → Q 1 g))))) : vNi l mX5_within d [.inl v0, .inl v1, .inl v2] SH g Q := vNi_of [some (.inl v0), some (.inl v1), some (.inl v2)] pn_X5 (Nat.le_of_ble_eq_true rfl) rfl (tX5_within_0 g v0 v1 v2 h)
set_option maxRecDepth 100000 in
theorem tX5_isPlace_0 {l : Launch} {d : Nat} {Q : Int → vx_M → Prop} (g : vx_M) (v1 : Int) (h : ((v1 < 0 → Q 0 g) ∧ (¬ v1 < 0 → (((g 1 5) ≤ v1 → Q 0 g) ∧ (¬ (g 1 5) ≤ v1 → Q 1 g))))) : vN l mX5_isPlace d (vx_pi SH Q) SH g 0 [some (.inr (some 0)), some (.inl v1)] [] := by
  refine vr_iload_n 1 dX5_isPlace_0 rfl rfl rfl ?_
  refine vr_if_lt 19 4 dX5_isPlace_1 rfl rfl (fun c => ?_) (fun c => ?_)
  · replace h := h.1 c
    refine vr_iconst 20 dX5_isPlace_19 rfl ⟨by decide, by decide⟩ ?_
    exact vr_zret rfl (Nat.le_refl _) (Nat.le_refl _) dX5_isPlace_20 (by decide) ⟨rfl, _, rfl, h⟩
  · replace h := h.2 c
    refine vr_iload_n 5 dX5_isPlace_4 rfl rfl rfl ?_
    refine vr_aload_n 6 dX5_isPlace_5 rfl rfl rfl ?_
    refine vr_getr 9 0 cl_X5 fl_X5_10 (by decide) dX5_isPlace_6 rfl s_0 rfl ?_
    refine vr_geti 12 5 5 cl_X4 fl_X5_87 (by decide) rfl dX5_isPlace_9 rfl s_1 rfl ?_
    refine vr_icmp_ge 19 15 dX5_isPlace_12 rfl rfl (fun c => ?_) (fun c => ?_)
    · replace h := h.1 c
      refine vr_iconst 20 dX5_isPlace_19 rfl ⟨by decide, by decide⟩ ?_
      exact vr_zret rfl (Nat.le_refl _) (Nat.le_refl _) dX5_isPlace_20 (by decide) ⟨rfl, _, rfl, h⟩
    · replace h := h.2 c
      refine vr_iconst 16 dX5_isPlace_15 rfl ⟨by decide, by decide⟩ ?_
      refine vr_goto 20 dX5_isPlace_16 rfl ?_
      exact vr_zret rfl (Nat.le_refl _) (Nat.le_refl _) dX5_isPlace_20 (by decide) ⟨rfl, _, rfl, h⟩
theorem kX5_isPlace {l : Launch} {d : Nat} {Q : Int → vx_M → Prop} (g : vx_M) (v1 : Int) (h : ((v1 < 0 → Q 0 g) ∧ (¬ v1 < 0 → (((g 1 5) ≤ v1 → Q 0 g) ∧ (¬ (g 1 5) ≤ v1 → Q 1 g))))) : vNi l mX5_isPlace d [.inr (some 0), .inl v1] SH g Q := vNi_of [some (.inr (some 0)), some (.inl v1)] pn_X5 (Nat.le_of_ble_eq_true rfl) rfl (tX5_isPlace_0 g v1 h)
set_option maxRecDepth 100000 in
theorem tX5_endPlacing_0 {l : Launch} {d : Nat} {Q : vx_M → Prop} (g : vx_M) (h : (∃ Q1 : vx_M → Prop, vNv l mJ7_fill_53178 d [.inr (some 39), .inl (-1)] SH g Q1 ∧ ∀ g1 : vx_M, Q1 g1 → Q (vx_u g1 0 6 0))) : vN l mX5_endPlacing (d + 1) (vx_pv SH Q) SH g 0 [some (.inr (some 0))] [] := by
  refine vr_aload_n 1 dX5_endPlacing_0 rfl rfl rfl ?_
  refine vr_getr 4 5 cl_X5 fl_X5_48 (by decide) dX5_endPlacing_1 rfl s_0 rfl ?_
  refine vr_iconst 5 dX5_endPlacing_4 rfl ⟨by decide, by decide⟩ ?_
  obtain ⟨Q1, hq, h⟩ := h
  refine vr_callSv 8 [.inr (some 39), .inl (-1)] [] dX5_endPlacing_5 rfl mc_X5_66 dn_J7_fill_53178 rfl rfl (Nat.le_of_ble_eq_true rfl) (vx_rmR (by decide)) ⟨rfl, rfl⟩ ⟨Nat.le_refl _, Nat.le_refl _⟩ (fun _ _ => trivial) (fun _ _ => trivial) hq (fun sh9 g1 hp _ => ?_)
  obtain ⟨e9, -, hp⟩ := hp
  subst e9
  replace h := h g1 hp
  refine vr_aload_n 9 dX5_endPlacing_8 rfl rfl rfl ?_
  refine vr_iconst 10 dX5_endPlacing_9 rfl ⟨by decide, by decide⟩ ?_
  refine vr_putz 13 6 6 cl_X5 fl_X5_52 (by decide) rfl rfl rfl (by decide) dX5_endPlacing_10 rfl s_0 rfl ?_
  exact vr_vret rfl (Nat.le_refl _) (Nat.le_refl _) dX5_endPlacing_13 ⟨rfl, rfl, h⟩
theorem kX5_endPlacing {l : Launch} {d : Nat} {Q : vx_M → Prop} (g : vx_M) (h : (∃ Q1 : vx_M → Prop, vNv l mJ7_fill_53178 d [.inr (some 39), .inl (-1)] SH g Q1 ∧ ∀ g1 : vx_M, Q1 g1 → Q (vx_u g1 0 6 0))) : vNv l mX5_endPlacing (d + 1) [.inr (some 0)] SH g Q := vNv_of [some (.inr (some 0))] pn_X5 (Nat.le_of_ble_eq_true rfl) rfl (tX5_endPlacing_0 g  h)
set_option maxRecDepth 100000 in
theorem tX5_exchange_0 {l : Launch} {d : Nat} {Q : vx_M → Prop} (g : vx_M) (v1 v2 : Int) (h : (0 ≤ v1 ∧ v1 < 7) ∧ (0 ≤ v2 ∧ v2 < 7) ∧ (0 ≤ v1 ∧ v1 < 7) ∧ (0 ≤ v2 ∧ v2 < 7) ∧ Q (vx_u (vx_u g 39 v1 (g 39 v2)) 39 v2 (g 39 v1))) : vN l mX5_exchange d (vx_pv SH Q) SH g 0 [some (.inr (some 0)), some (.inl v1), some (.inl v2), none] [] := by
  refine vr_aload_n 1 dX5_exchange_0 rfl rfl rfl ?_
  refine vr_getr 4 5 cl_X5 fl_X5_48 (by decide) dX5_exchange_1 rfl s_0 rfl ?_
  refine vr_iload_n 5 dX5_exchange_4 rfl rfl rfl ?_
  obtain ⟨o1, h⟩ := h
  refine vr_iald 6 dX5_exchange_5 rfl s_39 o1.1 o1.2 ?_
  refine vr_istore_n 7 [some (.inr (some 0)), some (.inl v1), some (.inl v2), some (.inl (g 39 v1))] dX5_exchange_6 rfl rfl (by decide) rfl ?_
  refine vr_aload_n 8 dX5_exchange_7 rfl rfl rfl ?_
  refine vr_getr 11 5 cl_X5 fl_X5_48 (by decide) dX5_exchange_8 rfl s_0 rfl ?_
  refine vr_iload_n 12 dX5_exchange_11 rfl rfl rfl ?_
  refine vr_aload_n 13 dX5_exchange_12 rfl rfl rfl ?_
  refine vr_getr 16 5 cl_X5 fl_X5_48 (by decide) dX5_exchange_13 rfl s_0 rfl ?_
  refine vr_iload_n 17 dX5_exchange_16 rfl rfl rfl ?_
  obtain ⟨o2, h⟩ := h
  refine vr_iald 18 dX5_exchange_17 rfl s_39 o2.1 o2.2 ?_
  obtain ⟨o3, h⟩ := h
  refine vr_iast 19 dX5_exchange_18 rfl s_39 o3.1 o3.2 ?_
  refine vr_aload_n 20 dX5_exchange_19 rfl rfl rfl ?_
  refine vr_getr 23 5 cl_X5 fl_X5_48 (by decide) dX5_exchange_20 rfl s_0 rfl ?_
  refine vr_iload_n 24 dX5_exchange_23 rfl rfl rfl ?_
  refine vr_iload_n 25 dX5_exchange_24 rfl rfl rfl ?_
  obtain ⟨o4, h⟩ := h
  refine vr_iast 26 dX5_exchange_25 rfl s_39 o4.1 o4.2 ?_
  exact vr_vret rfl (Nat.le_refl _) (Nat.le_refl _) dX5_exchange_26 ⟨rfl, rfl, h⟩
theorem kX5_exchange {l : Launch} {d : Nat} {Q : vx_M → Prop} (g : vx_M) (v1 v2 : Int) (h : (0 ≤ v1 ∧ v1 < 7) ∧ (0 ≤ v2 ∧ v2 < 7) ∧ (0 ≤ v1 ∧ v1 < 7) ∧ (0 ≤ v2 ∧ v2 < 7) ∧ Q (vx_u (vx_u g 39 v1 (g 39 v2)) 39 v2 (g 39 v1))) : vNv l mX5_exchange d [.inr (some 0), .inl v1, .inl v2] SH g Q := vNv_of [some (.inr (some 0)), some (.inl v1), some (.inl v2), none] pn_X5 (Nat.le_of_ble_eq_true rfl) rfl (tX5_exchange_0 g v1 v2 h)
set_option maxRecDepth 100000 in
theorem tX5_pointsOfTry_0 {l : Launch} {d : Nat} {Q : Int → vx_M → Prop} (g : vx_M) (h : (∃ Q1 : vx_M → Prop, vNv l mX0_run d [.inr (some 36), .inr (some 39), .inl 200] SH g Q1 ∧ ∀ g1 : vx_M, Q1 g1 → ((¬ (g1 36 5) = (-1) → (∃ Q2 : Int → vx_M → Prop, vNi l mX0_crowned d [.inr (some 36)] SH g1 Q2 ∧ ∀ (r2 : Int) (g2 : vx_M), Q2 r2 g2 → (((g1 36 5) ≤ r2 → Q 0 g2) ∧ (¬ (g1 36 5) ≤ r2 → Q (g2 0 7) g2)))) ∧ ((g1 36 5) = (-1) → Q (g1 0 8) g1)))) : vN l mX5_pointsOfTry (d + 1) (vx_pi SH Q) SH g 0 [some (.inr (some 0))] [] := by
  refine vr_aload_n 1 dX5_pointsOfTry_0 rfl rfl rfl ?_
  refine vr_getr 4 4 cl_X5 fl_X5_44 (by decide) dX5_pointsOfTry_1 rfl s_0 rfl ?_
  refine vr_aload_n 5 dX5_pointsOfTry_4 rfl rfl rfl ?_
  refine vr_getr 8 5 cl_X5 fl_X5_48 (by decide) dX5_pointsOfTry_5 rfl s_0 rfl ?_
  refine vr_sipush 11 dX5_pointsOfTry_8 rfl (by decide) ⟨by decide, by decide⟩ ?_
  obtain ⟨Q1, hq, h⟩ := h
  refine vr_callVv 14 [.inr (some 39), .inl 200] 36 [] dX5_pointsOfTry_11 rfl mc_X5_152 dn_X0_run rfl rfl s_36 rfl (Nat.le_of_ble_eq_true rfl) (vx_rmR (by decide)) ⟨rfl, rfl⟩ ⟨Nat.le_refl _, Nat.le_refl _⟩ (fun _ _ => trivial) (fun _ _ => trivial) hq (fun sh9 g1 hp _ => ?_)
  obtain ⟨e9, -, hp⟩ := hp
  subst e9
  replace h := h g1 hp
  refine vr_aload_n 15 dX5_pointsOfTry_14 rfl rfl rfl ?_
  refine vr_getr 18 4 cl_X5 fl_X5_44 (by decide) dX5_pointsOfTry_15 rfl s_0 rfl ?_
  refine vr_geti 21 5 5 cl_X0 fl_X5_155 (by decide) rfl dX5_pointsOfTry_18 rfl s_36 rfl ?_
  refine vr_iconst 22 dX5_pointsOfTry_21 rfl ⟨by decide, by decide⟩ ?_
  refine vr_icmp_ne 30 25 dX5_pointsOfTry_22 rfl rfl (fun c => ?_) (fun c => ?_)
  · replace h := h.1 c
    refine vr_aload_n 31 dX5_pointsOfTry_30 rfl rfl rfl ?_
    refine vr_getr 34 4 cl_X5 fl_X5_44 (by decide) dX5_pointsOfTry_31 rfl s_0 rfl ?_
    refine vr_geti 37 5 5 cl_X0 fl_X5_155 (by decide) rfl dX5_pointsOfTry_34 rfl s_36 rfl ?_
    refine vr_aload_n 38 dX5_pointsOfTry_37 rfl rfl rfl ?_
    refine vr_getr 41 4 cl_X5 fl_X5_44 (by decide) dX5_pointsOfTry_38 rfl s_0 rfl ?_
    obtain ⟨Q2, hq, h⟩ := h
    refine vr_callVi 44 [] 36 [.inl (g1 36 5)] dX5_pointsOfTry_41 rfl mc_X5_158 dn_X0_crowned rfl rfl s_36 rfl (Nat.le_of_ble_eq_true rfl) (vx_rmR (by decide)) ⟨rfl, rfl⟩ ⟨Nat.le_refl _, Nat.le_refl _⟩ (fun _ _ => trivial) (fun _ _ => trivial) hq (fun r2 sh9 g2 hp _ _ => ?_)
    obtain ⟨e9, z9, e8, hp⟩ := hp
    subst e9
    cases e8
    replace h := h r2 g2 hp
    refine vr_icmp_le 54 47 dX5_pointsOfTry_44 rfl rfl (fun c => ?_) (fun c => ?_)
    · replace h := h.1 c
      refine vr_iconst 55 dX5_pointsOfTry_54 rfl ⟨by decide, by decide⟩ ?_
      exact vr_iret rfl (Nat.le_refl _) (Nat.le_refl _) dX5_pointsOfTry_55 ⟨rfl, _, rfl, h⟩
    · replace h := h.2 c
      refine vr_aload_n 48 dX5_pointsOfTry_47 rfl rfl rfl ?_
      refine vr_geti 51 7 7 cl_X5 fl_X5_56 (by decide) rfl dX5_pointsOfTry_48 rfl s_0 rfl ?_
      refine vr_goto 55 dX5_pointsOfTry_51 rfl ?_
      exact vr_iret rfl (Nat.le_refl _) (Nat.le_refl _) dX5_pointsOfTry_55 ⟨rfl, _, rfl, h⟩
  · replace h := h.2 c
    refine vr_aload_n 26 dX5_pointsOfTry_25 rfl rfl rfl ?_
    refine vr_geti 29 8 8 cl_X5 fl_X5_60 (by decide) rfl dX5_pointsOfTry_26 rfl s_0 rfl ?_
    exact vr_iret rfl (Nat.le_refl _) (Nat.le_refl _) dX5_pointsOfTry_29 ⟨rfl, _, rfl, h⟩
theorem kX5_pointsOfTry {l : Launch} {d : Nat} {Q : Int → vx_M → Prop} (g : vx_M) (h : (∃ Q1 : vx_M → Prop, vNv l mX0_run d [.inr (some 36), .inr (some 39), .inl 200] SH g Q1 ∧ ∀ g1 : vx_M, Q1 g1 → ((¬ (g1 36 5) = (-1) → (∃ Q2 : Int → vx_M → Prop, vNi l mX0_crowned d [.inr (some 36)] SH g1 Q2 ∧ ∀ (r2 : Int) (g2 : vx_M), Q2 r2 g2 → (((g1 36 5) ≤ r2 → Q 0 g2) ∧ (¬ (g1 36 5) ≤ r2 → Q (g2 0 7) g2)))) ∧ ((g1 36 5) = (-1) → Q (g1 0 8) g1)))) : vNi l mX5_pointsOfTry (d + 1) [.inr (some 0)] SH g Q := vNi_of [some (.inr (some 0))] pn_X5 (Nat.le_of_ble_eq_true rfl) rfl (tX5_pointsOfTry_0 g  h)

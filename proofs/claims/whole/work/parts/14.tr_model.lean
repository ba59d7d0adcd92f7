set_option maxRecDepth 100000 in
theorem tX6_in_0 {l : Launch} {d : Nat} {Q : Int → vx_M → Prop} (g : vx_M) (v0 v1 v2 : Int) (h : ((v0 < v1 → Q 0 g) ∧ (¬ v0 < v1 → ((v2 < v0 → Q 0 g) ∧ (¬ v2 < v0 → Q 1 g))))) : vN l mX6_in d (vx_pi SH Q) SH g 0 [some (.inl v0), some (.inl v1), some (.inl v2)] [] := by
  refine vr_iload_n 1 dX6_in_0 rfl rfl rfl ?_
  refine vr_iload_n 2 dX6_in_1 rfl rfl rfl ?_
  refine vr_icmp_lt 14 5 dX6_in_2 rfl rfl (fun c => ?_) (fun c => ?_)
  · replace h := h.1 c
    refine vr_iconst 15 dX6_in_14 rfl ⟨by decide, by decide⟩ ?_
    exact vr_zret rfl (Nat.le_refl _) (Nat.le_refl _) dX6_in_15 (by decide) ⟨rfl, _, rfl, h⟩
  · replace h := h.2 c
    refine vr_iload_n 6 dX6_in_5 rfl rfl rfl ?_
    refine vr_iload_n 7 dX6_in_6 rfl rfl rfl ?_
    refine vr_icmp_gt 14 10 dX6_in_7 rfl rfl (fun c => ?_) (fun c => ?_)
    · replace h := h.1 c
      refine vr_iconst 15 dX6_in_14 rfl ⟨by decide, by decide⟩ ?_
      exact vr_zret rfl (Nat.le_refl _) (Nat.le_refl _) dX6_in_15 (by decide) ⟨rfl, _, rfl, h⟩
    · replace h := h.2 c
      refine vr_iconst 11 dX6_in_10 rfl ⟨by decide, by decide⟩ ?_
      refine vr_goto 15 dX6_in_11 rfl ?_
      exact vr_zret rfl (Nat.le_refl _) (Nat.le_refl _) dX6_in_15 (by decide) ⟨rfl, _, rfl, h⟩
theorem kX6_in {l : Launch} {d : Nat} {Q : Int → vx_M → Prop} (g : vx_M) (v0 v1 v2 : Int) (h : ((v0 < v1 → Q 0 g) ∧ (¬ v0 < v1 → ((v2 < v0 → Q 0 g) ∧ (¬ v2 < v0 → Q 1 g))))) : vNi l mX6_in d [.inl v0, .inl v1, .inl v2] SH g Q := vNi_of [some (.inl v0), some (.inl v1), some (.inl v2)] pn_X6 (Nat.le_of_ble_eq_true rfl) rfl (tX6_in_0 g v0 v1 v2 h)
set_option maxRecDepth 100000 in
theorem tX6_isPerson_0 {l : Launch} {d : Nat} {Q : Int → vx_M → Prop} (g : vx_M) (v1 : Int) (h : vx_in ((g 40 2) - 1) ∧ (∃ Q2 : Int → vx_M → Prop, vNi l mX6_in d [.inl v1, .inl 0, .inl ((g 40 2) - 1)] SH g Q2 ∧ ∀ (r2 : Int) (g2 : vx_M), Q2 r2 g2 → (r2 = 0 ∨ r2 = 1) ∧ Q r2 g2)) : vN l mX6_isPerson (d + 1) (vx_pi SH Q) SH g 0 [some (.inr (some 40)), some (.inl v1)] [] := by
  refine vr_iload_n 1 dX6_isPerson_0 rfl rfl rfl ?_
  refine vr_iconst 2 dX6_isPerson_1 rfl ⟨by decide, by decide⟩ ?_
  refine vr_aload_n 3 dX6_isPerson_2 rfl rfl rfl ?_
  refine vr_geti 6 2 2 cl_X6 fl_X6_81 (by decide) rfl dX6_isPerson_3 rfl s_40 rfl ?_
  refine vr_iconst 7 dX6_isPerson_6 rfl ⟨by decide, by decide⟩ ?_
  obtain ⟨o1, h⟩ := h
  refine vr_isub 8 dX6_isPerson_7 rfl o1 ?_
  obtain ⟨Q2, hq, h⟩ := h
  refine vr_callSi 11 [.inl v1, .inl 0, .inl ((g 40 2) - 1)] [] dX6_isPerson_8 rfl mc_X6_84 dn_X6_in rfl rfl (Nat.le_of_ble_eq_true rfl) (vx_rmR (by decide)) ⟨rfl, rfl⟩ ⟨Nat.le_refl _, Nat.le_refl _⟩ (fun _ _ => trivial) (fun _ _ => trivial) hq (fun r2 sh9 g2 hp _ _ => ?_)
  obtain ⟨e9, z9, e8, hp⟩ := hp
  subst e9
  cases e8
  replace h := h r2 g2 hp
  exact vr_zret rfl (Nat.le_refl _) (Nat.le_refl _) dX6_isPerson_11 h.1 ⟨rfl, _, rfl, h.2⟩
theorem kX6_isPerson {l : Launch} {d : Nat} {Q : Int → vx_M → Prop} (g : vx_M) (v1 : Int) (h : vx_in ((g 40 2) - 1) ∧ (∃ Q2 : Int → vx_M → Prop, vNi l mX6_in d [.inl v1, .inl 0, .inl ((g 40 2) - 1)] SH g Q2 ∧ ∀ (r2 : Int) (g2 : vx_M), Q2 r2 g2 → (r2 = 0 ∨ r2 = 1) ∧ Q r2 g2)) : vNi l mX6_isPerson (d + 1) [.inr (some 40), .inl v1] SH g Q := vNi_of [some (.inr (some 40)), some (.inl v1)] pn_X6 (Nat.le_of_ble_eq_true rfl) rfl (tX6_isPerson_0 g v1 h)
set_option maxRecDepth 100000 in
theorem tX6_isPlace_0 {l : Launch} {d : Nat} {Q : Int → vx_M → Prop} (g : vx_M) (v1 : Int) (h : vx_in ((g 40 10) - 1) ∧ (∃ Q2 : Int → vx_M → Prop, vNi l mX6_in d [.inl v1, .inl 0, .inl ((g 40 10) - 1)] SH g Q2 ∧ ∀ (r2 : Int) (g2 : vx_M), Q2 r2 g2 → (r2 = 0 ∨ r2 = 1) ∧ Q r2 g2)) : vN l mX6_isPlace (d + 1) (vx_pi SH Q) SH g 0 [some (.inr (some 40)), some (.inl v1)] [] := by
  refine vr_iload_n 1 dX6_isPlace_0 rfl rfl rfl ?_
  refine vr_iconst 2 dX6_isPlace_1 rfl ⟨by decide, by decide⟩ ?_
  refine vr_aload_n 3 dX6_isPlace_2 rfl rfl rfl ?_
  refine vr_geti 6 10 10 cl_X6 fl_X6_88 (by decide) rfl dX6_isPlace_3 rfl s_40 rfl ?_
  refine vr_iconst 7 dX6_isPlace_6 rfl ⟨by decide, by decide⟩ ?_
  obtain ⟨o1, h⟩ := h
  refine vr_isub 8 dX6_isPlace_7 rfl o1 ?_
  obtain ⟨Q2, hq, h⟩ := h
  refine vr_callSi 11 [.inl v1, .inl 0, .inl ((g 40 10) - 1)] [] dX6_isPlace_8 rfl mc_X6_84 dn_X6_in rfl rfl (Nat.le_of_ble_eq_true rfl) (vx_rmR (by decide)) ⟨rfl, rfl⟩ ⟨Nat.le_refl _, Nat.le_refl _⟩ (fun _ _ => trivial) (fun _ _ => trivial) hq (fun r2 sh9 g2 hp _ _ => ?_)
  obtain ⟨e9, z9, e8, hp⟩ := hp
  subst e9
  cases e8
  replace h := h r2 g2 hp
  exact vr_zret rfl (Nat.le_refl _) (Nat.le_refl _) dX6_isPlace_11 h.1 ⟨rfl, _, rfl, h.2⟩
theorem kX6_isPlace {l : Launch} {d : Nat} {Q : Int → vx_M → Prop} (g : vx_M) (v1 : Int) (h : vx_in ((g 40 10) - 1) ∧ (∃ Q2 : Int → vx_M → Prop, vNi l mX6_in d [.inl v1, .inl 0, .inl ((g 40 10) - 1)] SH g Q2 ∧ ∀ (r2 : Int) (g2 : vx_M), Q2 r2 g2 → (r2 = 0 ∨ r2 = 1) ∧ Q r2 g2)) : vNi l mX6_isPlace (d + 1) [.inr (some 40), .inl v1] SH g Q := vNi_of [some (.inr (some 40)), some (.inl v1)] pn_X6 (Nat.le_of_ble_eq_true rfl) rfl (tX6_isPlace_0 g v1 h)
set_option maxRecDepth 100000 in
theorem tX6_findPlaces_0 {l : Launch} {d : Nat} {Q : vx_M → Prop} (g : vx_M) (h : vN l mX6_findPlaces d (vx_pv SH Q) SH (vx_u g 40 10 0) 9 [some (.inr (some 40)), some (.inl 0), some (.inl 0), none, none] []) : vN l mX6_findPlaces d (vx_pv SH Q) SH g 0 [some (.inr (some 40)), none, none, none, none] [] := by
  refine vr_aload_n 1 dX6_findPlaces_0 rfl rfl rfl ?_
  refine vr_iconst 2 dX6_findPlaces_1 rfl ⟨by decide, by decide⟩ ?_
  refine vr_puti 5 10 10 cl_X6 fl_X6_88 (by decide) rfl rfl rfl dX6_findPlaces_2 rfl s_40 rfl ?_
  refine vr_iconst 6 dX6_findPlaces_5 rfl ⟨by decide, by decide⟩ ?_
  refine vr_istore_n 7 [some (.inr (some 40)), some (.inl 0), none, none, none] dX6_findPlaces_6 rfl rfl (by decide) rfl ?_
  refine vr_iconst 8 dX6_findPlaces_7 rfl ⟨by decide, by decide⟩ ?_
  refine vr_istore_n 9 [some (.inr (some 40)), some (.inl 0), some (.inl 0), none, none] dX6_findPlaces_8 rfl rfl (by decide) rfl ?_
  exact h
theorem kX6_findPlaces {l : Launch} {d : Nat} {Q : vx_M → Prop} (g : vx_M) (h : vN l mX6_findPlaces d (vx_pv SH Q) SH (vx_u g 40 10 0) 9 [some (.inr (some 40)), some (.inl 0), some (.inl 0), none, none] []) : vNv l mX6_findPlaces d [.inr (some 40)] SH g Q := vNv_of [some (.inr (some 40)), none, none, none, none] pn_X6 (Nat.le_of_ble_eq_true rfl) rfl (tX6_findPlaces_0 g  h)
set_option maxRecDepth 100000 in
theorem tX6_findPlaces_9 {l : Launch} {d : Nat} {Q : vx_M → Prop} (g : vx_M) (v1 v2 : Int) (h : (((g 40 0) ≤ v2 → Q g) ∧ (¬ (g 40 0) ≤ v2 → vN l mX6_findPlaces d (vx_pv SH Q) SH g 27 [some (.inr (some 40)), some (.inl (g 40 10)), some (.inl v2), some (.inl v1), some (.inl 0)] []))) : vN l mX6_findPlaces d (vx_pv SH Q) SH g 9 [some (.inr (some 40)), some (.inl v1), some (.inl v2), none, none] [] := by
  refine vr_iload_n 10 dX6_findPlaces_9 rfl rfl rfl ?_
  refine vr_aload_n 11 dX6_findPlaces_10 rfl rfl rfl ?_
  refine vr_geti 14 0 0 cl_X6 fl_X6_7 (by decide) rfl dX6_findPlaces_11 rfl s_40 rfl ?_
  refine vr_icmp_ge 132 17 dX6_findPlaces_14 rfl rfl (fun c => ?_) (fun c => ?_)
  · replace h := h.1 c
    exact vr_vret rfl (Nat.le_refl _) (Nat.le_refl _) dX6_findPlaces_132 ⟨rfl, rfl, h⟩
  · replace h := h.2 c
    refine vr_iload_n 18 dX6_findPlaces_17 rfl rfl rfl ?_
    refine vr_istore_n 19 [some (.inr (some 40)), some (.inl v1), some (.inl v2), some (.inl v1), none] dX6_findPlaces_18 rfl rfl (by decide) rfl ?_
    refine vr_aload_n 20 dX6_findPlaces_19 rfl rfl rfl ?_
    refine vr_geti 23 10 10 cl_X6 fl_X6_88 (by decide) rfl dX6_findPlaces_20 rfl s_40 rfl ?_
    refine vr_istore_n 24 [some (.inr (some 40)), some (.inl (g 40 10)), some (.inl v2), some (.inl v1), none] dX6_findPlaces_23 rfl rfl (by decide) rfl ?_
    refine vr_iconst 25 dX6_findPlaces_24 rfl ⟨by decide, by decide⟩ ?_
    refine vr_istore 27 [some (.inr (some 40)), some (.inl (g 40 10)), some (.inl v2), some (.inl v1), some (.inl 0)] dX6_findPlaces_25 rfl (by decide) rfl ?_
    exact h
set_option maxRecDepth 100000 in
theorem tX6_findPlaces_27 {l : Launch} {d : Nat} {Q : vx_M → Prop} (g : vx_M) (v1 v2 v3 v4 : Int) (h : (0 ≤ v2 ∧ v2 < 4) ∧ (((g 41 v2) ≤ v4 → vx_in (v2 + 1) ∧ vN l mX6_findPlaces d (vx_pv SH Q) SH g 9 [some (.inr (some 40)), some (.inl v1), some (.inl (v2 + 1)), none, none] []) ∧ (¬ (g 41 v2) ≤ v4 → (0 ≤ g 40 10 ∧ g 40 10 < 12) ∧ ((¬ v2 = 0 → vx_in (v2 - 1) ∧ (0 ≤ v2 - 1 ∧ v2 - 1 < 4) ∧ (0 ≤ v4 ∧ 0 < (g 41 (v2 - 1))) ∧ vx_in (v3 + (v4 % (g 41 (v2 - 1)))) ∧ vN l mX6_findPlaces d (vx_pv SH Q) SH (vx_u g 48 (g 40 10) v2) 77 [some (.inr (some 40)), some (.inl v1), some (.inl v2), some (.inl v3), some (.inl v4)] [.inl (v3 + (v4 % (g 41 (v2 - 1)))), .inl (g 40 10), .inr (some 49)]) ∧ (v2 = 0 → vN l mX6_findPlaces d (vx_pv SH Q) SH (vx_u g 48 (g 40 10) v2) 77 [some (.inr (some 40)), some (.inl v1), some (.inl v2), some (.inl v3), some (.inl v4)] [.inl (-1), .inl (g 40 10), .inr (some 49)]))))) : vN l mX6_findPlaces d (vx_pv SH Q) SH g 27 [some (.inr (some 40)), some (.inl v1), some (.inl v2), some (.inl v3), some (.inl v4)] [] := by
  refine vr_iload 29 dX6_findPlaces_27 rfl rfl ?_
  refine vr_aload_n 30 dX6_findPlaces_29 rfl rfl rfl ?_
  refine vr_getr 33 1 cl_X6 fl_X6_13 (by decide) dX6_findPlaces_30 rfl s_40 rfl ?_
  refine vr_iload_n 34 dX6_findPlaces_33 rfl rfl rfl ?_
  obtain ⟨o1, h⟩ := h
  refine vr_iald 35 dX6_findPlaces_34 rfl s_41 o1.1 o1.2 ?_
  refine vr_icmp_ge 126 38 dX6_findPlaces_35 rfl rfl (fun c => ?_) (fun c => ?_)
  · replace h := h.1 c
    obtain ⟨o2, h⟩ := h
    refine vr_iinc 129 [some (.inr (some 40)), some (.inl v1), some (.inl (v2 + 1)), some (.inl v3), some (.inl v4)] dX6_findPlaces_126 rfl rfl o2 (by decide) rfl ?_
    refine vr_goto 9 dX6_findPlaces_129 rfl ?_
    exact vr_forget [some (.inr (some 40)), some (.inl v1), some (.inl (v2 + 1)), none, none] (vx_sub.get _ _ ⟨rfl, ⟨rfl, ⟨rfl, trivial⟩⟩⟩) h
  · replace h := h.2 c
    refine vr_aload_n 39 dX6_findPlaces_38 rfl rfl rfl ?_
    refine vr_getr 42 11 cl_X6 fl_X6_39 (by decide) dX6_findPlaces_39 rfl s_40 rfl ?_
    refine vr_aload_n 43 dX6_findPlaces_42 rfl rfl rfl ?_
    refine vr_geti 46 10 10 cl_X6 fl_X6_88 (by decide) rfl dX6_findPlaces_43 rfl s_40 rfl ?_
    refine vr_iload_n 47 dX6_findPlaces_46 rfl rfl rfl ?_
    obtain ⟨o3, h⟩ := h
    refine vr_iast 48 dX6_findPlaces_47 rfl s_48 o3.1 o3.2 ?_
    refine vr_aload_n 49 dX6_findPlaces_48 rfl rfl rfl ?_
    refine vr_getr 52 12 cl_X6 fl_X6_42 (by decide) dX6_findPlaces_49 rfl s_40 rfl ?_
    refine vr_aload_n 53 dX6_findPlaces_52 rfl rfl rfl ?_
    refine vr_geti 56 10 10 cl_X6 fl_X6_88 (by decide) rfl dX6_findPlaces_53 rfl s_40 rfl ?_
    refine vr_iload_n 57 dX6_findPlaces_56 rfl rfl rfl ?_
    refine vr_if_ne 64 60 dX6_findPlaces_57 rfl rfl (fun c => ?_) (fun c => ?_)
    · replace h := h.1 c
      refine vr_iload_n 65 dX6_findPlaces_64 rfl rfl rfl ?_
      refine vr_iload 67 dX6_findPlaces_65 rfl rfl ?_
      refine vr_aload_n 68 dX6_findPlaces_67 rfl rfl rfl ?_
      refine vr_getr 71 1 cl_X6 fl_X6_13 (by decide) dX6_findPlaces_68 rfl s_40 rfl ?_
      refine vr_iload_n 72 dX6_findPlaces_71 rfl rfl rfl ?_
      refine vr_iconst 73 dX6_findPlaces_72 rfl ⟨by decide, by decide⟩ ?_
      obtain ⟨o4, h⟩ := h
      refine vr_isub 74 dX6_findPlaces_73 rfl o4 ?_
      obtain ⟨o5, h⟩ := h
      refine vr_iald 75 dX6_findPlaces_74 rfl s_41 o5.1 o5.2 ?_
      obtain ⟨o6, h⟩ := h
      refine vr_irem 76 dX6_findPlaces_75 rfl o6.1 o6.2 ?_
      obtain ⟨o7, h⟩ := h
      refine vr_iadd 77 dX6_findPlaces_76 rfl o7 ?_
      exact h
    · replace h := h.2 c
      refine vr_iconst 61 dX6_findPlaces_60 rfl ⟨by decide, by decide⟩ ?_
      refine vr_goto 77 dX6_findPlaces_61 rfl ?_
      exact h
set_option maxRecDepth 100000 in
theorem tX6_findPlaces_77 {l : Launch} {d : Nat} {Q : vx_M → Prop} (g : vx_M) (v1 v2 v3 v4 w0 w1 : Int) (h : (0 ≤ w1 ∧ w1 < 12) ∧ ((¬ v2 = 0 → vx_in (v4 + 1) ∧ vx_in (v2 - 1) ∧ (0 ≤ v2 - 1 ∧ v2 - 1 < 4) ∧ (0 ≤ (v4 + 1) ∧ 0 < (g 41 (v2 - 1))) ∧ vx_in (v3 + ((v4 + 1) % (g 41 (v2 - 1)))) ∧ vN l mX6_findPlaces d (vx_pv SH Q) SH (vx_u g 49 w1 w0) 109 [some (.inr (some 40)), some (.inl v1), some (.inl v2), some (.inl v3), some (.inl v4)] [.inl (v3 + ((v4 + 1) % (g 41 (v2 - 1)))), .inl (g 40 10), .inr (some 50)]) ∧ (v2 = 0 → vN l mX6_findPlaces d (vx_pv SH Q) SH (vx_u g 49 w1 w0) 109 [some (.inr (some 40)), some (.inl v1), some (.inl v2), some (.inl v3), some (.inl v4)] [.inl (-1), .inl (g 40 10), .inr (some 50)]))) : vN l mX6_findPlaces d (vx_pv SH Q) SH g 77 [some (.inr (some 40)), some (.inl v1), some (.inl v2), some (.inl v3), some (.inl v4)] [.inl w0, .inl w1, .inr (some 49)] := by
  obtain ⟨o1, h⟩ := h
  refine vr_iast 78 dX6_findPlaces_77 rfl s_49 o1.1 o1.2 ?_
  refine vr_aload_n 79 dX6_findPlaces_78 rfl rfl rfl ?_
  refine vr_getr 82 13 cl_X6 fl_X6_45 (by decide) dX6_findPlaces_79 rfl s_40 rfl ?_
  refine vr_aload_n 83 dX6_findPlaces_82 rfl rfl rfl ?_
  refine vr_geti 86 10 10 cl_X6 fl_X6_88 (by decide) rfl dX6_findPlaces_83 rfl s_40 rfl ?_
  refine vr_iload_n 87 dX6_findPlaces_86 rfl rfl rfl ?_
  refine vr_if_ne 94 90 dX6_findPlaces_87 rfl rfl (fun c => ?_) (fun c => ?_)
  · replace h := h.1 c
    refine vr_iload_n 95 dX6_findPlaces_94 rfl rfl rfl ?_
    refine vr_iload 97 dX6_findPlaces_95 rfl rfl ?_
    refine vr_iconst 98 dX6_findPlaces_97 rfl ⟨by decide, by decide⟩ ?_
    obtain ⟨o2, h⟩ := h
    refine vr_iadd 99 dX6_findPlaces_98 rfl o2 ?_
    refine vr_aload_n 100 dX6_findPlaces_99 rfl rfl rfl ?_
    refine vr_getr 103 1 cl_X6 fl_X6_13 (by decide) dX6_findPlaces_100 rfl s_40 rfl ?_
    refine vr_iload_n 104 dX6_findPlaces_103 rfl rfl rfl ?_
    refine vr_iconst 105 dX6_findPlaces_104 rfl ⟨by decide, by decide⟩ ?_
    obtain ⟨o3, h⟩ := h
    refine vr_isub 106 dX6_findPlaces_105 rfl o3 ?_
    obtain ⟨o4, h⟩ := h
    refine vr_iald 107 dX6_findPlaces_106 rfl s_41 o4.1 o4.2 ?_
    obtain ⟨o5, h⟩ := h
    refine vr_irem 108 dX6_findPlaces_107 rfl o5.1 o5.2 ?_
    obtain ⟨o6, h⟩ := h
    refine vr_iadd 109 dX6_findPlaces_108 rfl o6 ?_
    exact h
  · replace h := h.2 c
    refine vr_iconst 91 dX6_findPlaces_90 rfl ⟨by decide, by decide⟩ ?_
    refine vr_goto 109 dX6_findPlaces_91 rfl ?_
    exact h
set_option maxRecDepth 100000 in
theorem tX6_findPlaces_109 {l : Launch} {d : Nat} {Q : vx_M → Prop} (g : vx_M) (v1 v2 v3 v4 w0 w1 : Int) (h : (0 ≤ w1 ∧ w1 < 12) ∧ vx_in ((g 40 10) + 1) ∧ vx_in (v4 + 1) ∧ vN l mX6_findPlaces d (vx_pv SH Q) SH (vx_u (vx_u g 50 w1 w0) 40 10 ((g 40 10) + 1)) 27 [some (.inr (some 40)), some (.inl v1), some (.inl v2), some (.inl v3), some (.inl (v4 + 1))] []) : vN l mX6_findPlaces d (vx_pv SH Q) SH g 109 [some (.inr (some 40)), some (.inl v1), some (.inl v2), some (.inl v3), some (.inl v4)] [.inl w0, .inl w1, .inr (some 50)] := by
  obtain ⟨o1, h⟩ := h
  refine vr_iast 110 dX6_findPlaces_109 rfl s_50 o1.1 o1.2 ?_
  refine vr_aload_n 111 dX6_findPlaces_110 rfl rfl rfl ?_
  refine vr_dup 112 dX6_findPlaces_111 rfl ?_
  refine vr_geti 115 10 10 cl_X6 fl_X6_88 (by decide) rfl dX6_findPlaces_112 rfl s_40 rfl ?_
  refine vr_iconst 116 dX6_findPlaces_115 rfl ⟨by decide, by decide⟩ ?_
  obtain ⟨o2, h⟩ := h
  refine vr_iadd 117 dX6_findPlaces_116 rfl o2 ?_
  refine vr_puti 120 10 10 cl_X6 fl_X6_88 (by decide) rfl rfl rfl dX6_findPlaces_117 rfl s_40 rfl ?_
  obtain ⟨o3, h⟩ := h
  refine vr_iinc 123 [some (.inr (some 40)), some (.inl v1), some (.inl v2), some (.inl v3), some (.inl (v4 + 1))] dX6_findPlaces_120 rfl rfl o3 (by decide) rfl ?_
  refine vr_goto 27 dX6_findPlaces_123 rfl ?_
  exact h
set_option maxRecDepth 100000 in
theorem tX6_sum_0 {l : Launch} {d : Nat} {Q : Int → vx_M → Prop} (g : vx_M) (v1 : Int) (h : vN l mX6_sum d (vx_pi SH Q) SH g 4 [some (.inr (some 40)), some (.inl v1), some (.inl 0), some (.inl 0)] []) : vN l mX6_sum d (vx_pi SH Q) SH g 0 [some (.inr (some 40)), some (.inl v1), none, none] [] := by
  refine vr_iconst 1 dX6_sum_0 rfl ⟨by decide, by decide⟩ ?_
  refine vr_istore_n 2 [some (.inr (some 40)), some (.inl v1), some (.inl 0), none] dX6_sum_1 rfl rfl (by decide) rfl ?_
  refine vr_iconst 3 dX6_sum_2 rfl ⟨by decide, by decide⟩ ?_
  refine vr_istore_n 4 [some (.inr (some 40)), some (.inl v1), some (.inl 0), some (.inl 0)] dX6_sum_3 rfl rfl (by decide) rfl ?_
  exact h
theorem kX6_sum {l : Launch} {d : Nat} {Q : Int → vx_M → Prop} (g : vx_M) (v1 : Int) (h : vN l mX6_sum d (vx_pi SH Q) SH g 4 [some (.inr (some 40)), some (.inl v1), some (.inl 0), some (.inl 0)] []) : vNi l mX6_sum d [.inr (some 40), .inl v1] SH g Q := vNi_of [some (.inr (some 40)), some (.inl v1), none, none] pn_X6 (Nat.le_of_ble_eq_true rfl) rfl (tX6_sum_0 g v1 h)
set_option maxRecDepth 100000 in
theorem tX6_sum_4 {l : Launch} {d : Nat} {Q : Int → vx_M → Prop} (g : vx_M) (v1 v2 v3 : Int) (h : ((v1 ≤ v3 → Q v2 g) ∧ (¬ v1 ≤ v3 → (0 ≤ v3 ∧ v3 < 4) ∧ vx_in (v2 + (g 41 v3)) ∧ vx_in (v3 + 1) ∧ vN l mX6_sum d (vx_pi SH Q) SH g 4 [some (.inr (some 40)), some (.inl v1), some (.inl (v2 + (g 41 v3))), some (.inl (v3 + 1))] []))) : vN l mX6_sum d (vx_pi SH Q) SH g 4 [some (.inr (some 40)), some (.inl v1), some (.inl v2), some (.inl v3)] [] := by
  refine vr_iload_n 5 dX6_sum_4 rfl rfl rfl ?_
  refine vr_iload_n 6 dX6_sum_5 rfl rfl rfl ?_
  refine vr_icmp_ge 24 9 dX6_sum_6 rfl rfl (fun c => ?_) (fun c => ?_)
  · replace h := h.1 c
    refine vr_iload_n 25 dX6_sum_24 rfl rfl rfl ?_
    exact vr_iret rfl (Nat.le_refl _) (Nat.le_refl _) dX6_sum_25 ⟨rfl, _, rfl, h⟩
  · replace h := h.2 c
    refine vr_iload_n 10 dX6_sum_9 rfl rfl rfl ?_
    refine vr_aload_n 11 dX6_sum_10 rfl rfl rfl ?_
    refine vr_getr 14 1 cl_X6 fl_X6_13 (by decide) dX6_sum_11 rfl s_40 rfl ?_
    refine vr_iload_n 15 dX6_sum_14 rfl rfl rfl ?_
    obtain ⟨o1, h⟩ := h
    refine vr_iald 16 dX6_sum_15 rfl s_41 o1.1 o1.2 ?_
    obtain ⟨o2, h⟩ := h
    refine vr_iadd 17 dX6_sum_16 rfl o2 ?_
    refine vr_istore_n 18 [some (.inr (some 40)), some (.inl v1), some (.inl (v2 + (g 41 v3))), some (.inl v3)] dX6_sum_17 rfl rfl (by decide) rfl ?_
    obtain ⟨o3, h⟩ := h
    refine vr_iinc 21 [some (.inr (some 40)), some (.inl v1), some (.inl (v2 + (g 41 v3))), some (.inl (v3 + 1))] dX6_sum_18 rfl rfl o3 (by decide) rfl ?_
    refine vr_goto 4 dX6_sum_21 rfl ?_
    exact h
set_option maxRecDepth 100000 in
theorem tX6_storeys_0 {l : Launch} {d : Nat} {Q : Int → vx_M → Prop} (g : vx_M) (v1 : Int) (h : (∃ Q1 : Int → vx_M → Prop, vNi l mX6_in d [.inl v1, .inl 1, .inl 4] SH g Q1 ∧ ∀ (r1 : Int) (g1 : vx_M), Q1 r1 g1 → ((¬ r1 = 0 → (∃ Q2 : Int → vx_M → Prop, vNi l mX6_sum d [.inr (some 40), .inl v1] SH g1 Q2 ∧ ∀ (r2 : Int) (g2 : vx_M), Q2 r2 g2 → ((r2 ≤ 7 → (∃ Q3 : vx_M → Prop, vNv l mX6_findPlaces d [.inr (some 40)] SH (vx_u (vx_u g2 40 0 v1) 40 14 0) Q3 ∧ ∀ g3 : vx_M, Q3 g3 → Q (g3 40 10) g3)) ∧ (¬ r2 ≤ 7 → Q (-4) g2)))) ∧ (r1 = 0 → Q (-3) g1)))) : vN l mX6_storeys (d + 1) (vx_pi SH Q) SH g 0 [some (.inr (some 40)), some (.inl v1)] [] := by
  refine vr_iload_n 1 dX6_storeys_0 rfl rfl rfl ?_
  refine vr_iconst 2 dX6_storeys_1 rfl ⟨by decide, by decide⟩ ?_
  refine vr_iconst 3 dX6_storeys_2 rfl ⟨by decide, by decide⟩ ?_
  obtain ⟨Q1, hq, h⟩ := h
  refine vr_callSi 6 [.inl v1, .inl 1, .inl 4] [] dX6_storeys_3 rfl mc_X6_84 dn_X6_in rfl rfl (Nat.le_of_ble_eq_true rfl) (vx_rmR (by decide)) ⟨rfl, rfl⟩ ⟨Nat.le_refl _, Nat.le_refl _⟩ (fun _ _ => trivial) (fun _ _ => trivial) hq (fun r1 sh9 g1 hp _ _ => ?_)
  obtain ⟨e9, z9, e8, hp⟩ := hp
  subst e9
  cases e8
  replace h := h r1 g1 hp
  refine vr_if_ne 12 9 dX6_storeys_6 rfl rfl (fun c => ?_) (fun c => ?_)
  · replace h := h.1 c
    refine vr_aload_n 13 dX6_storeys_12 rfl rfl rfl ?_
    refine vr_iload_n 14 dX6_storeys_13 rfl rfl rfl ?_
    obtain ⟨Q2, hq, h⟩ := h
    refine vr_callVi 17 [.inl v1] 40 [] dX6_storeys_14 rfl mc_X6_91 dn_X6_sum rfl rfl s_40 rfl (Nat.le_of_ble_eq_true rfl) (vx_rmR (by decide)) ⟨rfl, rfl⟩ ⟨Nat.le_refl _, Nat.le_refl _⟩ (fun _ _ => trivial) (fun _ _ => trivial) hq (fun r2 sh9 g2 hp _ _ => ?_)
    obtain ⟨e9, z9, e8, hp⟩ := hp
    subst e9
    cases e8
    replace h := h r2 g2 hp
    refine vr_bipush 19 dX6_storeys_17 rfl (by decide) ⟨by decide, by decide⟩ ?_
    refine vr_icmp_le 25 22 dX6_storeys_19 rfl rfl (fun c => ?_) (fun c => ?_)
    · replace h := h.1 c
      refine vr_aload_n 26 dX6_storeys_25 rfl rfl rfl ?_
      refine vr_iload_n 27 dX6_storeys_26 rfl rfl rfl ?_
      refine vr_puti 30 0 0 cl_X6 fl_X6_7 (by decide) rfl rfl rfl dX6_storeys_27 rfl s_40 rfl ?_
      refine vr_aload_n 31 dX6_storeys_30 rfl rfl rfl ?_
      refine vr_iconst 32 dX6_storeys_31 rfl ⟨by decide, by decide⟩ ?_
      refine vr_putz 35 14 14 cl_X6 fl_X6_95 (by decide) rfl rfl rfl (by decide) dX6_storeys_32 rfl s_40 rfl ?_
      refine vr_aload_n 36 dX6_storeys_35 rfl rfl rfl ?_
      obtain ⟨Q3, hq, h⟩ := h
      refine vr_callVv 39 [] 40 [] dX6_storeys_36 rfl mc_X6_78 dn_X6_findPlaces rfl rfl s_40 rfl (Nat.le_of_ble_eq_true rfl) (vx_rmR (by decide)) ⟨rfl, rfl⟩ ⟨Nat.le_refl _, Nat.le_refl _⟩ (fun _ _ => trivial) (fun _ _ => trivial) hq (fun sh9 g3 hp _ => ?_)
      obtain ⟨e9, -, hp⟩ := hp
      subst e9
      replace h := h g3 hp
      refine vr_aload_n 40 dX6_storeys_39 rfl rfl rfl ?_
      refine vr_geti 43 10 10 cl_X6 fl_X6_88 (by decide) rfl dX6_storeys_40 rfl s_40 rfl ?_
      exact vr_iret rfl (Nat.le_refl _) (Nat.le_refl _) dX6_storeys_43 ⟨rfl, _, rfl, h⟩
    · replace h := h.2 c
      refine vr_bipush 24 dX6_storeys_22 rfl (by decide) ⟨by decide, by decide⟩ ?_
      exact vr_iret rfl (Nat.le_refl _) (Nat.le_refl _) dX6_storeys_24 ⟨rfl, _, rfl, h⟩
  · replace h := h.2 c
    refine vr_bipush 11 dX6_storeys_9 rfl (by decide) ⟨by decide, by decide⟩ ?_
    exact vr_iret rfl (Nat.le_refl _) (Nat.le_refl _) dX6_storeys_11 ⟨rfl, _, rfl, h⟩
theorem kX6_storeys {l : Launch} {d : Nat} {Q : Int → vx_M → Prop} (g : vx_M) (v1 : Int) (h : (∃ Q1 : Int → vx_M → Prop, vNi l mX6_in d [.inl v1, .inl 1, .inl 4] SH g Q1 ∧ ∀ (r1 : Int) (g1 : vx_M), Q1 r1 g1 → ((¬ r1 = 0 → (∃ Q2 : Int → vx_M → Prop, vNi l mX6_sum d [.inr (some 40), .inl v1] SH g1 Q2 ∧ ∀ (r2 : Int) (g2 : vx_M), Q2 r2 g2 → ((r2 ≤ 7 → (∃ Q3 : vx_M → Prop, vNv l mX6_findPlaces d [.inr (some 40)] SH (vx_u (vx_u g2 40 0 v1) 40 14 0) Q3 ∧ ∀ g3 : vx_M, Q3 g3 → Q (g3 40 10) g3)) ∧ (¬ r2 ≤ 7 → Q (-4) g2)))) ∧ (r1 = 0 → Q (-3) g1)))) : vNi l mX6_storeys (d + 1) [.inr (some 40), .inl v1] SH g Q := vNi_of [some (.inr (some 40)), some (.inl v1)] pn_X6 (Nat.le_of_ble_eq_true rfl) rfl (tX6_storeys_0 g v1 h)
set_option maxRecDepth 100000 in
theorem tX6_width_0 {l : Launch} {d : Nat} {Q : Int → vx_M → Prop} (g : vx_M) (v1 v2 : Int) (h : (∃ Q1 : Int → vx_M → Prop, vNi l mX6_in d [.inl v1, .inl 0, .inl 3] SH g Q1 ∧ ∀ (r1 : Int) (g1 : vx_M), Q1 r1 g1 → ((¬ r1 = 0 → (∃ Q2 : Int → vx_M → Prop, vNi l mX6_in d [.inl v2, .inl 1, .inl 3] SH g1 Q2 ∧ ∀ (r2 : Int) (g2 : vx_M), Q2 r2 g2 → ((¬ r2 = 0 → (0 ≤ v1 ∧ v1 < 4) ∧ (((g2 40 0) ≤ v1 → vN l mX6_width (d + 1) (vx_pi SH Q) SH g2 59 [some (.inr (some 40)), some (.inl v1), some (.inl v2), some (.inl (g2 41 v1))] []) ∧ (¬ (g2 40 0) ≤ v1 → (∃ Q4 : Int → vx_M → Prop, vNi l mX6_sum d [.inr (some 40), .inl (g2 40 0)] SH g2 Q4 ∧ ∀ (r4 : Int) (g4 : vx_M), Q4 r4 g4 → vx_in (r4 - (g2 41 v1)) ∧ vx_in ((r4 - (g2 41 v1)) + v2) ∧ ((((r4 - (g2 41 v1)) + v2) ≤ 7 → vN l mX6_width (d + 1) (vx_pi SH Q) SH g4 59 [some (.inr (some 40)), some (.inl v1), some (.inl v2), some (.inl (g2 41 v1))] []) ∧ (¬ ((r4 - (g2 41 v1)) + v2) ≤ 7 → Q (-4) g4)))))) ∧ (r2 = 0 → Q (-3) g2)))) ∧ (r1 = 0 → Q (-2) g1)))) : vN l mX6_width (d + 1) (vx_pi SH Q) SH g 0 [some (.inr (some 40)), some (.inl v1), some (.inl v2), none] [] := by
  refine vr_iload_n 1 dX6_width_0 rfl rfl rfl ?_
  refine vr_iconst 2 dX6_width_1 rfl ⟨by decide, by decide⟩ ?_
  refine vr_iconst 3 dX6_width_2 rfl ⟨by decide, by decide⟩ ?_
  obtain ⟨Q1, hq, h⟩ := h
  refine vr_callSi 6 [.inl v1, .inl 0, .inl 3] [] dX6_width_3 rfl mc_X6_84 dn_X6_in rfl rfl (Nat.le_of_ble_eq_true rfl) (vx_rmR (by decide)) ⟨rfl, rfl⟩ ⟨Nat.le_refl _, Nat.le_refl _⟩ (fun _ _ => trivial) (fun _ _ => trivial) hq (fun r1 sh9 g1 hp _ _ => ?_)
  obtain ⟨e9, z9, e8, hp⟩ := hp
  subst e9
  cases e8
  replace h := h r1 g1 hp
  refine vr_if_ne 12 9 dX6_width_6 rfl rfl (fun c => ?_) (fun c => ?_)
  · replace h := h.1 c
    refine vr_iload_n 13 dX6_width_12 rfl rfl rfl ?_
    refine vr_iconst 14 dX6_width_13 rfl ⟨by decide, by decide⟩ ?_
    refine vr_iconst 15 dX6_width_14 rfl ⟨by decide, by decide⟩ ?_
    obtain ⟨Q2, hq, h⟩ := h
    refine vr_callSi 18 [.inl v2, .inl 1, .inl 3] [] dX6_width_15 rfl mc_X6_84 dn_X6_in rfl rfl (Nat.le_of_ble_eq_true rfl) (vx_rmR (by decide)) ⟨rfl, rfl⟩ ⟨Nat.le_refl _, Nat.le_refl _⟩ (fun _ _ => trivial) (fun _ _ => trivial) hq (fun r2 sh9 g2 hp _ _ => ?_)
    obtain ⟨e9, z9, e8, hp⟩ := hp
    subst e9
    cases e8
    replace h := h r2 g2 hp
    refine vr_if_ne 24 21 dX6_width_18 rfl rfl (fun c => ?_) (fun c => ?_)
    · replace h := h.1 c
      refine vr_aload_n 25 dX6_width_24 rfl rfl rfl ?_
      refine vr_getr 28 1 cl_X6 fl_X6_13 (by decide) dX6_width_25 rfl s_40 rfl ?_
      refine vr_iload_n 29 dX6_width_28 rfl rfl rfl ?_
      obtain ⟨o3, h⟩ := h
      refine vr_iald 30 dX6_width_29 rfl s_41 o3.1 o3.2 ?_
      refine vr_istore_n 31 [some (.inr (some 40)), some (.inl v1), some (.inl v2), some (.inl (g2 41 v1))] dX6_width_30 rfl rfl (by decide) rfl ?_
      refine vr_iload_n 32 dX6_width_31 rfl rfl rfl ?_
      refine vr_aload_n 33 dX6_width_32 rfl rfl rfl ?_
      refine vr_geti 36 0 0 cl_X6 fl_X6_7 (by decide) rfl dX6_width_33 rfl s_40 rfl ?_
      refine vr_icmp_ge 59 39 dX6_width_36 rfl rfl (fun c => ?_) (fun c => ?_)
      · replace h := h.1 c
        exact h
      · replace h := h.2 c
        refine vr_aload_n 40 dX6_width_39 rfl rfl rfl ?_
        refine vr_aload_n 41 dX6_width_40 rfl rfl rfl ?_
        refine vr_geti 44 0 0 cl_X6 fl_X6_7 (by decide) rfl dX6_width_41 rfl s_40 rfl ?_
        obtain ⟨Q4, hq, h⟩ := h
        refine vr_callVi 47 [.inl (g2 40 0)] 40 [] dX6_width_44 rfl mc_X6_91 dn_X6_sum rfl rfl s_40 rfl (Nat.le_of_ble_eq_true rfl) (vx_rmR (by decide)) ⟨rfl, rfl⟩ ⟨Nat.le_refl _, Nat.le_refl _⟩ (fun _ _ => trivial) (fun _ _ => trivial) hq (fun r4 sh9 g4 hp _ _ => ?_)
        obtain ⟨e9, z9, e8, hp⟩ := hp
        subst e9
        cases e8
        replace h := h r4 g4 hp
        refine vr_iload_n 48 dX6_width_47 rfl rfl rfl ?_
        obtain ⟨o5, h⟩ := h
        refine vr_isub 49 dX6_width_48 rfl o5 ?_
        refine vr_iload_n 50 dX6_width_49 rfl rfl rfl ?_
        obtain ⟨o6, h⟩ := h
        refine vr_iadd 51 dX6_width_50 rfl o6 ?_
        refine vr_bipush 53 dX6_width_51 rfl (by decide) ⟨by decide, by decide⟩ ?_
        refine vr_icmp_le 59 56 dX6_width_53 rfl rfl (fun c => ?_) (fun c => ?_)
        · replace h := h.1 c
          exact h
        · replace h := h.2 c
          refine vr_bipush 58 dX6_width_56 rfl (by decide) ⟨by decide, by decide⟩ ?_
          exact vr_iret rfl (Nat.le_refl _) (Nat.le_refl _) dX6_width_58 ⟨rfl, _, rfl, h⟩
    · replace h := h.2 c
      refine vr_bipush 23 dX6_width_21 rfl (by decide) ⟨by decide, by decide⟩ ?_
      exact vr_iret rfl (Nat.le_refl _) (Nat.le_refl _) dX6_width_23 ⟨rfl, _, rfl, h⟩
  · replace h := h.2 c
    refine vr_bipush 11 dX6_width_9 rfl (by decide) ⟨by decide, by decide⟩ ?_
    exact vr_iret rfl (Nat.le_refl _) (Nat.le_refl _) dX6_width_11 ⟨rfl, _, rfl, h⟩
theorem kX6_width {l : Launch} {d : Nat} {Q : Int → vx_M → Prop} (g : vx_M) (v1 v2 : Int) (h : (∃ Q1 : Int → vx_M → Prop, vNi l mX6_in d [.inl v1, .inl 0, .inl 3] SH g Q1 ∧ ∀ (r1 : Int) (g1 : vx_M), Q1 r1 g1 → ((¬ r1 = 0 → (∃ Q2 : Int → vx_M → Prop, vNi l mX6_in d [.inl v2, .inl 1, .inl 3] SH g1 Q2 ∧ ∀ (r2 : Int) (g2 : vx_M), Q2 r2 g2 → ((¬ r2 = 0 → (0 ≤ v1 ∧ v1 < 4) ∧ (((g2 40 0) ≤ v1 → vN l mX6_width (d + 1) (vx_pi SH Q) SH g2 59 [some (.inr (some 40)), some (.inl v1), some (.inl v2), some (.inl (g2 41 v1))] []) ∧ (¬ (g2 40 0) ≤ v1 → (∃ Q4 : Int → vx_M → Prop, vNi l mX6_sum d [.inr (some 40), .inl (g2 40 0)] SH g2 Q4 ∧ ∀ (r4 : Int) (g4 : vx_M), Q4 r4 g4 → vx_in (r4 - (g2 41 v1)) ∧ vx_in ((r4 - (g2 41 v1)) + v2) ∧ ((((r4 - (g2 41 v1)) + v2) ≤ 7 → vN l mX6_width (d + 1) (vx_pi SH Q) SH g4 59 [some (.inr (some 40)), some (.inl v1), some (.inl v2), some (.inl (g2 41 v1))] []) ∧ (¬ ((r4 - (g2 41 v1)) + v2) ≤ 7 → Q (-4) g4)))))) ∧ (r2 = 0 → Q (-3) g2)))) ∧ (r1 = 0 → Q (-2) g1)))) : vNi l mX6_width (d + 1) [.inr (some 40), .inl v1, .inl v2] SH g Q := vNi_of [some (.inr (some 40)), some (.inl v1), some (.inl v2), none] pn_X6 (Nat.le_of_ble_eq_true rfl) rfl (tX6_width_0 g v1 v2 h)
set_option maxRecDepth 100000 in
theorem tX6_width_59 {l : Launch} {d : Nat} {Q : Int → vx_M → Prop} (g : vx_M) (v1 v2 v3 : Int) (h : (0 ≤ v1 ∧ v1 < 4) ∧ (∃ Q2 : vx_M → Prop, vNv l mX6_findPlaces d [.inr (some 40)] SH (vx_u (vx_u g 41 v1 v2) 40 14 0) Q2 ∧ ∀ g2 : vx_M, Q2 g2 → Q v3 g2)) : vN l mX6_width (d + 1) (vx_pi SH Q) SH g 59 [some (.inr (some 40)), some (.inl v1), some (.inl v2), some (.inl v3)] [] := by
  refine vr_aload_n 60 dX6_width_59 rfl rfl rfl ?_
  refine vr_getr 63 1 cl_X6 fl_X6_13 (by decide) dX6_width_60 rfl s_40 rfl ?_
  refine vr_iload_n 64 dX6_width_63 rfl rfl rfl ?_
  refine vr_iload_n 65 dX6_width_64 rfl rfl rfl ?_
  obtain ⟨o1, h⟩ := h
  refine vr_iast 66 dX6_width_65 rfl s_41 o1.1 o1.2 ?_
  refine vr_aload_n 67 dX6_width_66 rfl rfl rfl ?_
  refine vr_iconst 68 dX6_width_67 rfl ⟨by decide, by decide⟩ ?_
  refine vr_putz 71 14 14 cl_X6 fl_X6_95 (by decide) rfl rfl rfl (by decide) dX6_width_68 rfl s_40 rfl ?_
  refine vr_aload_n 72 dX6_width_71 rfl rfl rfl ?_
  obtain ⟨Q2, hq, h⟩ := h
  refine vr_callVv 75 [] 40 [] dX6_width_72 rfl mc_X6_78 dn_X6_findPlaces rfl rfl s_40 rfl (Nat.le_of_ble_eq_true rfl) (vx_rmR (by decide)) ⟨rfl, rfl⟩ ⟨Nat.le_refl _, Nat.le_refl _⟩ (fun _ _ => trivial) (fun _ _ => trivial) hq (fun sh9 g2 hp _ => ?_)
  obtain ⟨e9, -, hp⟩ := hp
  subst e9
  replace h := h g2 hp
  refine vr_iload_n 76 dX6_width_75 rfl rfl rfl ?_
  exact vr_iret rfl (Nat.le_refl _) (Nat.le_refl _) dX6_width_76 ⟨rfl, _, rfl, h⟩
set_option maxRecDepth 100000 in
theorem tX6_person_0 {l : Launch} {d : Nat} {Q : Int → vx_M → Prop} (g : vx_M) (v1 v2 v3 v4 v5 : Int) (h : (∃ Q1 : Int → vx_M → Prop, vNi l mX6_in d [.inl v1, .inl 100, .inl 200] SH g Q1 ∧ ∀ (r1 : Int) (g1 : vx_M), Q1 r1 g1 → ((r1 = 0 → Q (-3) g1) ∧ (¬ r1 = 0 → (∃ Q2 : Int → vx_M → Prop, vNi l mX6_in d [.inl v2, .inl 20, .inl 120] SH g1 Q2 ∧ ∀ (r2 : Int) (g2 : vx_M), Q2 r2 g2 → ((r2 = 0 → Q (-3) g2) ∧ (¬ r2 = 0 → (∃ Q3 : Int → vx_M → Prop, vNi l mX6_in d [.inl v3, .inl 0, .inl 400] SH g2 Q3 ∧ ∀ (r3 : Int) (g3 : vx_M), Q3 r3 g3 → ((r3 = 0 → Q (-3) g3) ∧ (¬ r3 = 0 → (∃ Q4 : Int → vx_M → Prop, vNi l mX6_in d [.inl v4, .inl 0, .inl 3] SH g3 Q4 ∧ ∀ (r4 : Int) (g4 : vx_M), Q4 r4 g4 → ((r4 = 0 → Q (-3) g4) ∧ (¬ r4 = 0 → (∃ Q5 : Int → vx_M → Prop, vNi l mX6_in d [.inl v5, .inl 0, .inl 20000] SH g4 Q5 ∧ ∀ (r5 : Int) (g5 : vx_M), Q5 r5 g5 → ((¬ r5 = 0 → ((¬ (g5 40 2) = 8 → (0 ≤ g5 40 2 ∧ g5 40 2 < 8) ∧ (0 ≤ g5 40 2 ∧ g5 40 2 < 8) ∧ (0 ≤ g5 40 2 ∧ g5 40 2 < 8) ∧ (0 ≤ g5 40 2 ∧ g5 40 2 < 8) ∧ (0 ≤ g5 40 2 ∧ g5 40 2 < 8) ∧ vx_in ((g5 40 2) + 1) ∧ vx_in (((vx_u (vx_u (vx_u (vx_u (vx_u (vx_u g5 42 (g5 40 2) v1) 43 (g5 40 2) v2) 44 (g5 40 2) v3) 45 (g5 40 2) v4) 46 (g5 40 2) v5) 40 2 ((g5 40 2) + 1)) 40 2) - 1) ∧ Q (((vx_u (vx_u (vx_u (vx_u (vx_u (vx_u g5 42 (g5 40 2) v1) 43 (g5 40 2) v2) 44 (g5 40 2) v3) 45 (g5 40 2) v4) 46 (g5 40 2) v5) 40 2 ((g5 40 2) + 1)) 40 2) - 1) (vx_u (vx_u (vx_u (vx_u (vx_u (vx_u g5 42 (g5 40 2) v1) 43 (g5 40 2) v2) 44 (g5 40 2) v3) 45 (g5 40 2) v4) 46 (g5 40 2) v5) 40 2 ((g5 40 2) + 1))) ∧ ((g5 40 2) = 8 → Q (-5) g5))) ∧ (r5 = 0 → Q (-3) g5)))))))))))))))) : vN l mX6_person (d + 1) (vx_pi SH Q) SH g 0 [some (.inr (some 40)), some (.inl v1), some (.inl v2), some (.inl v3), some (.inl v4), some (.inl v5)] [] := by
  refine vr_iload_n 1 dX6_person_0 rfl rfl rfl ?_
  refine vr_bipush 3 dX6_person_1 rfl (by decide) ⟨by decide, by decide⟩ ?_
  refine vr_sipush 6 dX6_person_3 rfl (by decide) ⟨by decide, by decide⟩ ?_
  obtain ⟨Q1, hq, h⟩ := h
  refine vr_callSi 9 [.inl v1, .inl 100, .inl 200] [] dX6_person_6 rfl mc_X6_84 dn_X6_in rfl rfl (Nat.le_of_ble_eq_true rfl) (vx_rmR (by decide)) ⟨rfl, rfl⟩ ⟨Nat.le_refl _, Nat.le_refl _⟩ (fun _ _ => trivial) (fun _ _ => trivial) hq (fun r1 sh9 g1 hp _ _ => ?_)
  obtain ⟨e9, z9, e8, hp⟩ := hp
  subst e9
  cases e8
  replace h := h r1 g1 hp
  refine vr_if_eq 56 12 dX6_person_9 rfl rfl (fun c => ?_) (fun c => ?_)
  · replace h := h.1 c
    refine vr_bipush 58 dX6_person_56 rfl (by decide) ⟨by decide, by decide⟩ ?_
    exact vr_iret rfl (Nat.le_refl _) (Nat.le_refl _) dX6_person_58 ⟨rfl, _, rfl, h⟩
  · replace h := h.2 c
    refine vr_iload_n 13 dX6_person_12 rfl rfl rfl ?_
    refine vr_bipush 15 dX6_person_13 rfl (by decide) ⟨by decide, by decide⟩ ?_
    refine vr_bipush 17 dX6_person_15 rfl (by decide) ⟨by decide, by decide⟩ ?_
    obtain ⟨Q2, hq, h⟩ := h
    refine vr_callSi 20 [.inl v2, .inl 20, .inl 120] [] dX6_person_17 rfl mc_X6_84 dn_X6_in rfl rfl (Nat.le_of_ble_eq_true rfl) (vx_rmR (by decide)) ⟨rfl, rfl⟩ ⟨Nat.le_refl _, Nat.le_refl _⟩ (fun _ _ => trivial) (fun _ _ => trivial) hq (fun r2 sh9 g2 hp _ _ => ?_)
    obtain ⟨e9, z9, e8, hp⟩ := hp
    subst e9
    cases e8
    replace h := h r2 g2 hp
    refine vr_if_eq 56 23 dX6_person_20 rfl rfl (fun c => ?_) (fun c => ?_)
    · replace h := h.1 c
      refine vr_bipush 58 dX6_person_56 rfl (by decide) ⟨by decide, by decide⟩ ?_
      exact vr_iret rfl (Nat.le_refl _) (Nat.le_refl _) dX6_person_58 ⟨rfl, _, rfl, h⟩
    · replace h := h.2 c
      refine vr_iload_n 24 dX6_person_23 rfl rfl rfl ?_
      refine vr_iconst 25 dX6_person_24 rfl ⟨by decide, by decide⟩ ?_
      refine vr_sipush 28 dX6_person_25 rfl (by decide) ⟨by decide, by decide⟩ ?_
      obtain ⟨Q3, hq, h⟩ := h
      refine vr_callSi 31 [.inl v3, .inl 0, .inl 400] [] dX6_person_28 rfl mc_X6_84 dn_X6_in rfl rfl (Nat.le_of_ble_eq_true rfl) (vx_rmR (by decide)) ⟨rfl, rfl⟩ ⟨Nat.le_refl _, Nat.le_refl _⟩ (fun _ _ => trivial) (fun _ _ => trivial) hq (fun r3 sh9 g3 hp _ _ => ?_)
      obtain ⟨e9, z9, e8, hp⟩ := hp
      subst e9
      cases e8
      replace h := h r3 g3 hp
      refine vr_if_eq 56 34 dX6_person_31 rfl rfl (fun c => ?_) (fun c => ?_)
      · replace h := h.1 c
        refine vr_bipush 58 dX6_person_56 rfl (by decide) ⟨by decide, by decide⟩ ?_
        exact vr_iret rfl (Nat.le_refl _) (Nat.le_refl _) dX6_person_58 ⟨rfl, _, rfl, h⟩
      · replace h := h.2 c
        refine vr_iload 36 dX6_person_34 rfl rfl ?_
        refine vr_iconst 37 dX6_person_36 rfl ⟨by decide, by decide⟩ ?_
        refine vr_iconst 38 dX6_person_37 rfl ⟨by decide, by decide⟩ ?_
        obtain ⟨Q4, hq, h⟩ := h
        refine vr_callSi 41 [.inl v4, .inl 0, .inl 3] [] dX6_person_38 rfl mc_X6_84 dn_X6_in rfl rfl (Nat.le_of_ble_eq_true rfl) (vx_rmR (by decide)) ⟨rfl, rfl⟩ ⟨Nat.le_refl _, Nat.le_refl _⟩ (fun _ _ => trivial) (fun _ _ => trivial) hq (fun r4 sh9 g4 hp _ _ => ?_)
        obtain ⟨e9, z9, e8, hp⟩ := hp
        subst e9
        cases e8
        replace h := h r4 g4 hp
        refine vr_if_eq 56 44 dX6_person_41 rfl rfl (fun c => ?_) (fun c => ?_)
        · replace h := h.1 c
          refine vr_bipush 58 dX6_person_56 rfl (by decide) ⟨by decide, by decide⟩ ?_
          exact vr_iret rfl (Nat.le_refl _) (Nat.le_refl _) dX6_person_58 ⟨rfl, _, rfl, h⟩
        · replace h := h.2 c
          refine vr_iload 46 dX6_person_44 rfl rfl ?_
          refine vr_iconst 47 dX6_person_46 rfl ⟨by decide, by decide⟩ ?_
          refine vr_sipush 50 dX6_person_47 rfl (by decide) ⟨by decide, by decide⟩ ?_
          obtain ⟨Q5, hq, h⟩ := h
          refine vr_callSi 53 [.inl v5, .inl 0, .inl 20000] [] dX6_person_50 rfl mc_X6_84 dn_X6_in rfl rfl (Nat.le_of_ble_eq_true rfl) (vx_rmR (by decide)) ⟨rfl, rfl⟩ ⟨Nat.le_refl _, Nat.le_refl _⟩ (fun _ _ => trivial) (fun _ _ => trivial) hq (fun r5 sh9 g5 hp _ _ => ?_)
          obtain ⟨e9, z9, e8, hp⟩ := hp
          subst e9
          cases e8
          replace h := h r5 g5 hp
          refine vr_if_ne 59 56 dX6_person_53 rfl rfl (fun c => ?_) (fun c => ?_)
          · replace h := h.1 c
            refine vr_aload_n 60 dX6_person_59 rfl rfl rfl ?_
            refine vr_geti 63 2 2 cl_X6 fl_X6_81 (by decide) rfl dX6_person_60 rfl s_40 rfl ?_
            refine vr_bipush 65 dX6_person_63 rfl (by decide) ⟨by decide, by decide⟩ ?_
            refine vr_icmp_ne 71 68 dX6_person_65 rfl rfl (fun c => ?_) (fun c => ?_)
            · replace h := h.1 c
              refine vr_aload_n 72 dX6_person_71 rfl rfl rfl ?_
              refine vr_getr 75 3 cl_X6 fl_X6_17 (by decide) dX6_person_72 rfl s_40 rfl ?_
              refine vr_aload_n 76 dX6_person_75 rfl rfl rfl ?_
              refine vr_geti 79 2 2 cl_X6 fl_X6_81 (by decide) rfl dX6_person_76 rfl s_40 rfl ?_
              refine vr_iload_n 80 dX6_person_79 rfl rfl rfl ?_
              obtain ⟨o6, h⟩ := h
              refine vr_iast 81 dX6_person_80 rfl s_42 o6.1 o6.2 ?_
              refine vr_aload_n 82 dX6_person_81 rfl rfl rfl ?_
              refine vr_getr 85 4 cl_X6 fl_X6_20 (by decide) dX6_person_82 rfl s_40 rfl ?_
              refine vr_aload_n 86 dX6_person_85 rfl rfl rfl ?_
              refine vr_geti 89 2 2 cl_X6 fl_X6_81 (by decide) rfl dX6_person_86 rfl s_40 rfl ?_
              refine vr_iload_n 90 dX6_person_89 rfl rfl rfl ?_
              obtain ⟨o7, h⟩ := h
              refine vr_iast 91 dX6_person_90 rfl s_43 o7.1 o7.2 ?_
              refine vr_aload_n 92 dX6_person_91 rfl rfl rfl ?_
              refine vr_getr 95 5 cl_X6 fl_X6_23 (by decide) dX6_person_92 rfl s_40 rfl ?_
              refine vr_aload_n 96 dX6_person_95 rfl rfl rfl ?_
              refine vr_geti 99 2 2 cl_X6 fl_X6_81 (by decide) rfl dX6_person_96 rfl s_40 rfl ?_
              refine vr_iload_n 100 dX6_person_99 rfl rfl rfl ?_
              obtain ⟨o8, h⟩ := h
              refine vr_iast 101 dX6_person_100 rfl s_44 o8.1 o8.2 ?_
              refine vr_aload_n 102 dX6_person_101 rfl rfl rfl ?_
              refine vr_getr 105 6 cl_X6 fl_X6_26 (by decide) dX6_person_102 rfl s_40 rfl ?_
              refine vr_aload_n 106 dX6_person_105 rfl rfl rfl ?_
              refine vr_geti 109 2 2 cl_X6 fl_X6_81 (by decide) rfl dX6_person_106 rfl s_40 rfl ?_
              refine vr_iload 111 dX6_person_109 rfl rfl ?_
              obtain ⟨o9, h⟩ := h
              refine vr_iast 112 dX6_person_111 rfl s_45 o9.1 o9.2 ?_
              refine vr_aload_n 113 dX6_person_112 rfl rfl rfl ?_
              refine vr_getr 116 7 cl_X6 fl_X6_29 (by decide) dX6_person_113 rfl s_40 rfl ?_
              refine vr_aload_n 117 dX6_person_116 rfl rfl rfl ?_
              refine vr_geti 120 2 2 cl_X6 fl_X6_81 (by decide) rfl dX6_person_117 rfl s_40 rfl ?_
              refine vr_iload 122 dX6_person_120 rfl rfl ?_
              obtain ⟨o10, h⟩ := h
              refine vr_iast 123 dX6_person_122 rfl s_46 o10.1 o10.2 ?_
              refine vr_aload_n 124 dX6_person_123 rfl rfl rfl ?_
              refine vr_dup 125 dX6_person_124 rfl ?_
              refine vr_geti 128 2 2 cl_X6 fl_X6_81 (by decide) rfl dX6_person_125 rfl s_40 rfl ?_
              refine vr_iconst 129 dX6_person_128 rfl ⟨by decide, by decide⟩ ?_
              obtain ⟨o11, h⟩ := h
              refine vr_iadd 130 dX6_person_129 rfl o11 ?_
              refine vr_puti 133 2 2 cl_X6 fl_X6_81 (by decide) rfl rfl rfl dX6_person_130 rfl s_40 rfl ?_
              refine vr_aload_n 134 dX6_person_133 rfl rfl rfl ?_
              refine vr_geti 137 2 2 cl_X6 fl_X6_81 (by decide) rfl dX6_person_134 rfl s_40 rfl ?_
              refine vr_iconst 138 dX6_person_137 rfl ⟨by decide, by decide⟩ ?_
              obtain ⟨o12, h⟩ := h
              refine vr_isub 139 dX6_person_138 rfl o12 ?_
              exact vr_iret rfl (Nat.le_refl _) (Nat.le_refl _) dX6_person_139 ⟨rfl, _, rfl, h⟩
            · replace h := h.2 c
              refine vr_bipush 70 dX6_person_68 rfl (by decide) ⟨by decide, by decide⟩ ?_
              exact vr_iret rfl (Nat.le_refl _) (Nat.le_refl _) dX6_person_70 ⟨rfl, _, rfl, h⟩
          · replace h := h.2 c
            refine vr_bipush 58 dX6_person_56 rfl (by decide) ⟨by decide, by decide⟩ ?_
            exact vr_iret rfl (Nat.le_refl _) (Nat.le_refl _) dX6_person_58 ⟨rfl, _, rfl, h⟩
theorem kX6_person {l : Launch} {d : Nat} {Q : Int → vx_M → Prop} (g : vx_M) (v1 v2 v3 v4 v5 : Int) (h : (∃ Q1 : Int → vx_M → Prop, vNi l mX6_in d [.inl v1, .inl 100, .inl 200] SH g Q1 ∧ ∀ (r1 : Int) (g1 : vx_M), Q1 r1 g1 → ((r1 = 0 → Q (-3) g1) ∧ (¬ r1 = 0 → (∃ Q2 : Int → vx_M → Prop, vNi l mX6_in d [.inl v2, .inl 20, .inl 120] SH g1 Q2 ∧ ∀ (r2 : Int) (g2 : vx_M), Q2 r2 g2 → ((r2 = 0 → Q (-3) g2) ∧ (¬ r2 = 0 → (∃ Q3 : Int → vx_M → Prop, vNi l mX6_in d [.inl v3, .inl 0, .inl 400] SH g2 Q3 ∧ ∀ (r3 : Int) (g3 : vx_M), Q3 r3 g3 → ((r3 = 0 → Q (-3) g3) ∧ (¬ r3 = 0 → (∃ Q4 : Int → vx_M → Prop, vNi l mX6_in d [.inl v4, .inl 0, .inl 3] SH g3 Q4 ∧ ∀ (r4 : Int) (g4 : vx_M), Q4 r4 g4 → ((r4 = 0 → Q (-3) g4) ∧ (¬ r4 = 0 → (∃ Q5 : Int → vx_M → Prop, vNi l mX6_in d [.inl v5, .inl 0, .inl 20000] SH g4 Q5 ∧ ∀ (r5 : Int) (g5 : vx_M), Q5 r5 g5 → ((¬ r5 = 0 → ((¬ (g5 40 2) = 8 → (0 ≤ g5 40 2 ∧ g5 40 2 < 8) ∧ (0 ≤ g5 40 2 ∧ g5 40 2 < 8) ∧ (0 ≤ g5 40 2 ∧ g5 40 2 < 8) ∧ (0 ≤ g5 40 2 ∧ g5 40 2 < 8) ∧ (0 ≤ g5 40 2 ∧ g5 40 2 < 8) ∧ vx_in ((g5 40 2) + 1) ∧ vx_in (((vx_u (vx_u (vx_u (vx_u (vx_u (vx_u g5 42 (g5 40 2) v1) 43 (g5 40 2) v2) 44 (g5 40 2) v3) 45 (g5 40 2) v4) 46 (g5 40 2) v5) 40 2 ((g5 40 2) + 1)) 40 2) - 1) ∧ Q (((vx_u (vx_u (vx_u (vx_u (vx_u (vx_u g5 42 (g5 40 2) v1) 43 (g5 40 2) v2) 44 (g5 40 2) v3) 45 (g5 40 2) v4) 46 (g5 40 2) v5) 40 2 ((g5 40 2) + 1)) 40 2) - 1) (vx_u (vx_u (vx_u (vx_u (vx_u (vx_u g5 42 (g5 40 2) v1) 43 (g5 40 2) v2) 44 (g5 40 2) v3) 45 (g5 40 2) v4) 46 (g5 40 2) v5) 40 2 ((g5 40 2) + 1))) ∧ ((g5 40 2) = 8 → Q (-5) g5))) ∧ (r5 = 0 → Q (-3) g5)))))))))))))))) : vNi l mX6_person (d + 1) [.inr (some 40), .inl v1, .inl v2, .inl v3, .inl v4, .inl v5] SH g Q := vNi_of [some (.inr (some 40)), some (.inl v1), some (.inl v2), some (.inl v3), some (.inl v4), some (.inl v5)] pn_X6 (Nat.le_of_ble_eq_true rfl) rfl (tX6_person_0 g v1 v2 v3 v4 v5 h)
set_option maxRecDepth 100000 in
theorem tX6_out_0 {l : Launch} {d : Nat} {Q : Int → vx_M → Prop} (g : vx_M) (v1 v2 : Int) (h : (∃ Q1 : Int → vx_M → Prop, vNi l mX6_isPerson d [.inr (some 40), .inl v1] SH g Q1 ∧ ∀ (r1 : Int) (g1 : vx_M), Q1 r1 g1 → ((¬ r1 = 0 → (0 ≤ v1 ∧ v1 < 8) ∧ (0 ≤ v1 ∧ v1 < 8) ∧ (v2 = 0 ∨ v2 = 1) ∧ (((g1 47 v1) = 0 → Q 0 (vx_u g1 47 v1 v2)) ∧ (¬ (g1 47 v1) = 0 → Q 1 (vx_u g1 47 v1 v2)))) ∧ (r1 = 0 → Q (-2) g1)))) : vN l mX6_out (d + 1) (vx_pi SH Q) SH g 0 [some (.inr (some 40)), some (.inl v1), some (.inl v2), none] [] := by
  refine vr_aload_n 1 dX6_out_0 rfl rfl rfl ?_
  refine vr_iload_n 2 dX6_out_1 rfl rfl rfl ?_
  obtain ⟨Q1, hq, h⟩ := h
  refine vr_callVi 5 [.inl v1] 40 [] dX6_out_2 rfl mc_X6_99 dn_X6_isPerson rfl rfl s_40 rfl (Nat.le_of_ble_eq_true rfl) (vx_rmR (by decide)) ⟨rfl, rfl⟩ ⟨Nat.le_refl _, Nat.le_refl _⟩ (fun _ _ => trivial) (fun _ _ => trivial) hq (fun r1 sh9 g1 hp _ _ => ?_)
  obtain ⟨e9, z9, e8, hp⟩ := hp
  subst e9
  cases e8
  replace h := h r1 g1 hp
  refine vr_if_ne 11 8 dX6_out_5 rfl rfl (fun c => ?_) (fun c => ?_)
  · replace h := h.1 c
    refine vr_aload_n 12 dX6_out_11 rfl rfl rfl ?_
    refine vr_getr 15 8 cl_X6 fl_X6_32 (by decide) dX6_out_12 rfl s_40 rfl ?_
    refine vr_iload_n 16 dX6_out_15 rfl rfl rfl ?_
    obtain ⟨o2, h⟩ := h
    refine vr_zald 17 dX6_out_16 rfl s_47 o2.1 o2.2 ?_
    refine vr_istore_n 18 [some (.inr (some 40)), some (.inl v1), some (.inl v2), some (.inl (g1 47 v1))] dX6_out_17 rfl rfl (by decide) rfl ?_
    refine vr_aload_n 19 dX6_out_18 rfl rfl rfl ?_
    refine vr_getr 22 8 cl_X6 fl_X6_32 (by decide) dX6_out_19 rfl s_40 rfl ?_
    refine vr_iload_n 23 dX6_out_22 rfl rfl rfl ?_
    refine vr_iload_n 24 dX6_out_23 rfl rfl rfl ?_
    obtain ⟨o3, h⟩ := h
    obtain ⟨o4, h⟩ := h
    refine vr_zast 25 dX6_out_24 rfl s_47 o3.1 o3.2 o4 ?_
    refine vr_iload_n 26 dX6_out_25 rfl rfl rfl ?_
    refine vr_if_eq 33 29 dX6_out_26 rfl rfl (fun c => ?_) (fun c => ?_)
    · replace h := h.1 c
      refine vr_iconst 34 dX6_out_33 rfl ⟨by decide, by decide⟩ ?_
      exact vr_iret rfl (Nat.le_refl _) (Nat.le_refl _) dX6_out_34 ⟨rfl, _, rfl, h⟩
    · replace h := h.2 c
      refine vr_iconst 30 dX6_out_29 rfl ⟨by decide, by decide⟩ ?_
      refine vr_goto 34 dX6_out_30 rfl ?_
      exact vr_iret rfl (Nat.le_refl _) (Nat.le_refl _) dX6_out_34 ⟨rfl, _, rfl, h⟩
  · replace h := h.2 c
    refine vr_bipush 10 dX6_out_8 rfl (by decide) ⟨by decide, by decide⟩ ?_
    exact vr_iret rfl (Nat.le_refl _) (Nat.le_refl _) dX6_out_10 ⟨rfl, _, rfl, h⟩
theorem kX6_out {l : Launch} {d : Nat} {Q : Int → vx_M → Prop} (g : vx_M) (v1 v2 : Int) (h : (∃ Q1 : Int → vx_M → Prop, vNi l mX6_isPerson d [.inr (some 40), .inl v1] SH g Q1 ∧ ∀ (r1 : Int) (g1 : vx_M), Q1 r1 g1 → ((¬ r1 = 0 → (0 ≤ v1 ∧ v1 < 8) ∧ (0 ≤ v1 ∧ v1 < 8) ∧ (v2 = 0 ∨ v2 = 1) ∧ (((g1 47 v1) = 0 → Q 0 (vx_u g1 47 v1 v2)) ∧ (¬ (g1 47 v1) = 0 → Q 1 (vx_u g1 47 v1 v2)))) ∧ (r1 = 0 → Q (-2) g1)))) : vNi l mX6_out (d + 1) [.inr (some 40), .inl v1, .inl v2] SH g Q := vNi_of [some (.inr (some 40)), some (.inl v1), some (.inl v2), none] pn_X6 (Nat.le_of_ble_eq_true rfl) rfl (tX6_out_0 g v1 v2 h)
set_option maxRecDepth 100000 in
theorem tX6_play_0 {l : Launch} {d : Nat} {Q : Int → vx_M → Prop} (g : vx_M) (v1 : Int) (h : (∃ Q1 : Int → vx_M → Prop, vNi l mX6_in d [.inl v1, .inl 0, .inl 50] SH g Q1 ∧ ∀ (r1 : Int) (g1 : vx_M), Q1 r1 g1 → ((¬ r1 = 0 → Q (g1 40 9) (vx_u g1 40 9 v1)) ∧ (r1 = 0 → Q (-3) g1)))) : vN l mX6_play (d + 1) (vx_pi SH Q) SH g 0 [some (.inr (some 40)), some (.inl v1), none] [] := by
  refine vr_iload_n 1 dX6_play_0 rfl rfl rfl ?_
  refine vr_iconst 2 dX6_play_1 rfl ⟨by decide, by decide⟩ ?_
  refine vr_bipush 4 dX6_play_2 rfl (by decide) ⟨by decide, by decide⟩ ?_
  obtain ⟨Q1, hq, h⟩ := h
  refine vr_callSi 7 [.inl v1, .inl 0, .inl 50] [] dX6_play_4 rfl mc_X6_84 dn_X6_in rfl rfl (Nat.le_of_ble_eq_true rfl) (vx_rmR (by decide)) ⟨rfl, rfl⟩ ⟨Nat.le_refl _, Nat.le_refl _⟩ (fun _ _ => trivial) (fun _ _ => trivial) hq (fun r1 sh9 g1 hp _ _ => ?_)
  obtain ⟨e9, z9, e8, hp⟩ := hp
  subst e9
  cases e8
  replace h := h r1 g1 hp
  refine vr_if_ne 13 10 dX6_play_7 rfl rfl (fun c => ?_) (fun c => ?_)
  · replace h := h.1 c
    refine vr_aload_n 14 dX6_play_13 rfl rfl rfl ?_
    refine vr_geti 17 9 9 cl_X6 fl_X6_36 (by decide) rfl dX6_play_14 rfl s_40 rfl ?_
    refine vr_istore_n 18 [some (.inr (some 40)), some (.inl v1), some (.inl (g1 40 9))] dX6_play_17 rfl rfl (by decide) rfl ?_
    refine vr_aload_n 19 dX6_play_18 rfl rfl rfl ?_
    refine vr_iload_n 20 dX6_play_19 rfl rfl rfl ?_
    refine vr_puti 23 9 9 cl_X6 fl_X6_36 (by decide) rfl rfl rfl dX6_play_20 rfl s_40 rfl ?_
    refine vr_iload_n 24 dX6_play_23 rfl rfl rfl ?_
    exact vr_iret rfl (Nat.le_refl _) (Nat.le_refl _) dX6_play_24 ⟨rfl, _, rfl, h⟩
  · replace h := h.2 c
    refine vr_bipush 12 dX6_play_10 rfl (by decide) ⟨by decide, by decide⟩ ?_
    exact vr_iret rfl (Nat.le_refl _) (Nat.le_refl _) dX6_play_12 ⟨rfl, _, rfl, h⟩
theorem kX6_play {l : Launch} {d : Nat} {Q : Int → vx_M → Prop} (g : vx_M) (v1 : Int) (h : (∃ Q1 : Int → vx_M → Prop, vNi l mX6_in d [.inl v1, .inl 0, .inl 50] SH g Q1 ∧ ∀ (r1 : Int) (g1 : vx_M), Q1 r1 g1 → ((¬ r1 = 0 → Q (g1 40 9) (vx_u g1 40 9 v1)) ∧ (r1 = 0 → Q (-3) g1)))) : vNi l mX6_play (d + 1) [.inr (some 40), .inl v1] SH g Q := vNi_of [some (.inr (some 40)), some (.inl v1), none] pn_X6 (Nat.le_of_ble_eq_true rfl) rfl (tX6_play_0 g v1 h)
set_option maxRecDepth 100000 in
theorem tX6_findLoads_0 {l : Launch} {d : Nat} {Q : vx_M → Prop} (g : vx_M) (v1 : Int) (h : vN l mX6_findLoads d (vx_pv SH Q) SH g 2 [some (.inr (some 40)), some (.inl v1), some (.inl 0), none] []) : vN l mX6_findLoads d (vx_pv SH Q) SH g 0 [some (.inr (some 40)), some (.inl v1), none, none] [] := by
  refine vr_iconst 1 dX6_findLoads_0 rfl ⟨by decide, by decide⟩ ?_
  refine vr_istore_n 2 [some (.inr (some 40)), some (.inl v1), some (.inl 0), none] dX6_findLoads_1 rfl rfl (by decide) rfl ?_
  exact h
theorem kX6_findLoads {l : Launch} {d : Nat} {Q : vx_M → Prop} (g : vx_M) (v1 : Int) (h : vN l mX6_findLoads d (vx_pv SH Q) SH g 2 [some (.inr (some 40)), some (.inl v1), some (.inl 0), none] []) : vNv l mX6_findLoads d [.inr (some 40), .inl v1] SH g Q := vNv_of [some (.inr (some 40)), some (.inl v1), none, none] pn_X6 (Nat.le_of_ble_eq_true rfl) rfl (tX6_findLoads_0 g v1 h)
set_option maxRecDepth 100000 in
theorem tX6_findLoads_2 {l : Launch} {d : Nat} {Q : vx_M → Prop} (g : vx_M) (v1 v2 : Int) (h : (((g 40 10) ≤ v2 → vN l mX6_findLoads d (vx_pv SH Q) SH g 25 [some (.inr (some 40)), some (.inl v1), some (.inl v1), none] []) ∧ (¬ (g 40 10) ≤ v2 → (0 ≤ v2 ∧ v2 < 12) ∧ vx_in (v2 + 1) ∧ vN l mX6_findLoads d (vx_pv SH Q) SH (vx_u g 53 v2 0) 2 [some (.inr (some 40)), some (.inl v1), some (.inl (v2 + 1)), none] []))) : vN l mX6_findLoads d (vx_pv SH Q) SH g 2 [some (.inr (some 40)), some (.inl v1), some (.inl v2), none] [] := by
  refine vr_iload_n 3 dX6_findLoads_2 rfl rfl rfl ?_
  refine vr_aload_n 4 dX6_findLoads_3 rfl rfl rfl ?_
  refine vr_geti 7 10 10 cl_X6 fl_X6_88 (by decide) rfl dX6_findLoads_4 rfl s_40 rfl ?_
  refine vr_icmp_ge 23 10 dX6_findLoads_7 rfl rfl (fun c => ?_) (fun c => ?_)
  · replace h := h.1 c
    refine vr_iload_n 24 dX6_findLoads_23 rfl rfl rfl ?_
    refine vr_istore_n 25 [some (.inr (some 40)), some (.inl v1), some (.inl v1), none] dX6_findLoads_24 rfl rfl (by decide) rfl ?_
    exact h
  · replace h := h.2 c
    refine vr_aload_n 11 dX6_findLoads_10 rfl rfl rfl ?_
    refine vr_getr 14 17 cl_X6 fl_X6_54 (by decide) dX6_findLoads_11 rfl s_40 rfl ?_
    refine vr_iload_n 15 dX6_findLoads_14 rfl rfl rfl ?_
    refine vr_iconst 16 dX6_findLoads_15 rfl ⟨by decide, by decide⟩ ?_
    obtain ⟨o1, h⟩ := h
    refine vr_iast 17 dX6_findLoads_16 rfl s_53 o1.1 o1.2 ?_
    obtain ⟨o2, h⟩ := h
    refine vr_iinc 20 [some (.inr (some 40)), some (.inl v1), some (.inl (v2 + 1)), none] dX6_findLoads_17 rfl rfl o2 (by decide) rfl ?_
    refine vr_goto 2 dX6_findLoads_20 rfl ?_
    exact h
set_option maxRecDepth 100000 in
theorem tX6_findLoads_25 {l : Launch} {d : Nat} {Q : vx_M → Prop} (g : vx_M) (v1 v2 : Int) (h : ((v2 < 0 → Q g) ∧ (¬ v2 < 0 → (0 ≤ v2 ∧ v2 < 12) ∧ (((g 49 v2) = (-1) → vx_in (v2 + (-1)) ∧ vN l mX6_findLoads d (vx_pv SH Q) SH g 25 [some (.inr (some 40)), some (.inl v1), some (.inl (v2 + (-1))), none] []) ∧ (¬ (g 49 v2) = (-1) → (0 ≤ v2 ∧ v2 < 12) ∧ (0 ≤ g 52 v2 ∧ g 52 v2 < 8) ∧ vx_in (8 * (g 43 (g 52 v2))) ∧ (0 ≤ v2 ∧ v2 < 12) ∧ vx_in ((8 * (g 43 (g 52 v2))) + (g 53 v2)) ∧ (0 ≤ ((8 * (g 43 (g 52 v2))) + (g 53 v2))) ∧ (0 ≤ v2 ∧ v2 < 12) ∧ (0 ≤ g 49 v2 ∧ g 49 v2 < 12) ∧ vx_in ((g 53 (g 49 v2)) + (((8 * (g 43 (g 52 v2))) + (g 53 v2)) / 2)) ∧ (0 ≤ g 49 v2 ∧ g 49 v2 < 12) ∧ (0 ≤ v2 ∧ v2 < 12) ∧ (0 ≤ g 50 v2 ∧ g 50 v2 < 12) ∧ vx_in (((vx_u g 53 (g 49 v2) ((g 53 (g 49 v2)) + (((8 * (g 43 (g 52 v2))) + (g 53 v2)) / 2))) 53 (g 50 v2)) + (((8 * (g 43 (g 52 v2))) + (g 53 v2)) / 2)) ∧ (0 ≤ g 50 v2 ∧ g 50 v2 < 12) ∧ vx_in (v2 + (-1)) ∧ vN l mX6_findLoads d (vx_pv SH Q) SH (vx_u (vx_u g 53 (g 49 v2) ((g 53 (g 49 v2)) + (((8 * (g 43 (g 52 v2))) + (g 53 v2)) / 2))) 53 (g 50 v2) (((vx_u g 53 (g 49 v2) ((g 53 (g 49 v2)) + (((8 * (g 43 (g 52 v2))) + (g 53 v2)) / 2))) 53 (g 50 v2)) + (((8 * (g 43 (g 52 v2))) + (g 53 v2)) / 2))) 25 [some (.inr (some 40)), some (.inl v1), some (.inl (v2 + (-1))), none] []))))) : vN l mX6_findLoads d (vx_pv SH Q) SH g 25 [some (.inr (some 40)), some (.inl v1), some (.inl v2), none] [] := by
  refine vr_iload_n 26 dX6_findLoads_25 rfl rfl rfl ?_
  refine vr_if_lt 99 29 dX6_findLoads_26 rfl rfl (fun c => ?_) (fun c => ?_)
  · replace h := h.1 c
    exact vr_vret rfl (Nat.le_refl _) (Nat.le_refl _) dX6_findLoads_99 ⟨rfl, rfl, h⟩
  · replace h := h.2 c
    refine vr_aload_n 30 dX6_findLoads_29 rfl rfl rfl ?_
    refine vr_getr 33 12 cl_X6 fl_X6_42 (by decide) dX6_findLoads_30 rfl s_40 rfl ?_
    refine vr_iload_n 34 dX6_findLoads_33 rfl rfl rfl ?_
    obtain ⟨o1, h⟩ := h
    refine vr_iald 35 dX6_findLoads_34 rfl s_49 o1.1 o1.2 ?_
    refine vr_iconst 36 dX6_findLoads_35 rfl ⟨by decide, by decide⟩ ?_
    refine vr_icmp_eq 93 39 dX6_findLoads_36 rfl rfl (fun c => ?_) (fun c => ?_)
    · replace h := h.1 c
      obtain ⟨o2, h⟩ := h
      refine vr_iinc 96 [some (.inr (some 40)), some (.inl v1), some (.inl (v2 + (-1))), none] dX6_findLoads_93 rfl rfl o2 (by decide) rfl ?_
      refine vr_goto 25 dX6_findLoads_96 rfl ?_
      exact h
    · replace h := h.2 c
      refine vr_bipush 41 dX6_findLoads_39 rfl (by decide) ⟨by decide, by decide⟩ ?_
      refine vr_aload_n 42 dX6_findLoads_41 rfl rfl rfl ?_
      refine vr_getr 45 4 cl_X6 fl_X6_20 (by decide) dX6_findLoads_42 rfl s_40 rfl ?_
      refine vr_aload_n 46 dX6_findLoads_45 rfl rfl rfl ?_
      refine vr_getr 49 16 cl_X6 fl_X6_51 (by decide) dX6_findLoads_46 rfl s_40 rfl ?_
      refine vr_iload_n 50 dX6_findLoads_49 rfl rfl rfl ?_
      obtain ⟨o3, h⟩ := h
      refine vr_iald 51 dX6_findLoads_50 rfl s_52 o3.1 o3.2 ?_
      obtain ⟨o4, h⟩ := h
      refine vr_iald 52 dX6_findLoads_51 rfl s_43 o4.1 o4.2 ?_
      obtain ⟨o5, h⟩ := h
      refine vr_imul 53 dX6_findLoads_52 rfl o5 ?_
      refine vr_aload_n 54 dX6_findLoads_53 rfl rfl rfl ?_
      refine vr_getr 57 17 cl_X6 fl_X6_54 (by decide) dX6_findLoads_54 rfl s_40 rfl ?_
      refine vr_iload_n 58 dX6_findLoads_57 rfl rfl rfl ?_
      obtain ⟨o6, h⟩ := h
      refine vr_iald 59 dX6_findLoads_58 rfl s_53 o6.1 o6.2 ?_
      obtain ⟨o7, h⟩ := h
      refine vr_iadd 60 dX6_findLoads_59 rfl o7 ?_
      refine vr_iconst 61 dX6_findLoads_60 rfl ⟨by decide, by decide⟩ ?_
      obtain ⟨o8, h⟩ := h
      refine vr_idiv 62 dX6_findLoads_61 rfl o8 (by decide) ?_
      refine vr_istore_n 63 [some (.inr (some 40)), some (.inl v1), some (.inl v2), some (.inl (((8 * (g 43 (g 52 v2))) + (g 53 v2)) / 2))] dX6_findLoads_62 rfl rfl (by decide) rfl ?_
      refine vr_aload_n 64 dX6_findLoads_63 rfl rfl rfl ?_
      refine vr_getr 67 17 cl_X6 fl_X6_54 (by decide) dX6_findLoads_64 rfl s_40 rfl ?_
      refine vr_aload_n 68 dX6_findLoads_67 rfl rfl rfl ?_
      refine vr_getr 71 12 cl_X6 fl_X6_42 (by decide) dX6_findLoads_68 rfl s_40 rfl ?_
      refine vr_iload_n 72 dX6_findLoads_71 rfl rfl rfl ?_
      obtain ⟨o9, h⟩ := h
      refine vr_iald 73 dX6_findLoads_72 rfl s_49 o9.1 o9.2 ?_
      refine vr_dup2 74 dX6_findLoads_73 rfl ?_
      obtain ⟨o10, h⟩ := h
      refine vr_iald 75 dX6_findLoads_74 rfl s_53 o10.1 o10.2 ?_
      refine vr_iload_n 76 dX6_findLoads_75 rfl rfl rfl ?_
      obtain ⟨o11, h⟩ := h
      refine vr_iadd 77 dX6_findLoads_76 rfl o11 ?_
      obtain ⟨o12, h⟩ := h
      refine vr_iast 78 dX6_findLoads_77 rfl s_53 o12.1 o12.2 ?_
      refine vr_aload_n 79 dX6_findLoads_78 rfl rfl rfl ?_
      refine vr_getr 82 17 cl_X6 fl_X6_54 (by decide) dX6_findLoads_79 rfl s_40 rfl ?_
      refine vr_aload_n 83 dX6_findLoads_82 rfl rfl rfl ?_
      refine vr_getr 86 13 cl_X6 fl_X6_45 (by decide) dX6_findLoads_83 rfl s_40 rfl ?_
      refine vr_iload_n 87 dX6_findLoads_86 rfl rfl rfl ?_
      obtain ⟨o13, h⟩ := h
      refine vr_iald 88 dX6_findLoads_87 rfl s_50 o13.1 o13.2 ?_
      refine vr_dup2 89 dX6_findLoads_88 rfl ?_
      obtain ⟨o14, h⟩ := h
      refine vr_iald 90 dX6_findLoads_89 rfl s_53 o14.1 o14.2 ?_
      refine vr_iload_n 91 dX6_findLoads_90 rfl rfl rfl ?_
      obtain ⟨o15, h⟩ := h
      refine vr_iadd 92 dX6_findLoads_91 rfl o15 ?_
      obtain ⟨o16, h⟩ := h
      refine vr_iast 93 dX6_findLoads_92 rfl s_53 o16.1 o16.2 ?_
      obtain ⟨o17, h⟩ := h
      refine vr_iinc 96 [some (.inr (some 40)), some (.inl v1), some (.inl (v2 + (-1))), some (.inl (((8 * (g 43 (g 52 v2))) + (g 53 v2)) / 2))] dX6_findLoads_93 rfl rfl o17 (by decide) rfl ?_
      refine vr_goto 25 dX6_findLoads_96 rfl ?_
      exact vr_forget [some (.inr (some 40)), some (.inl v1), some (.inl (v2 + (-1))), none] (vx_sub.get _ _ ⟨rfl, ⟨rfl, ⟨rfl, trivial⟩⟩⟩) h
set_option maxRecDepth 100000 in
theorem tX6_uneven_0 {l : Launch} {d : Nat} {Q : Int → vx_M → Prop} (g : vx_M) (h : vN l mX6_uneven d (vx_pi SH Q) SH g 4 [some (.inr (some 40)), some (.inl 0), some (.inl 0), none, none, none] []) : vN l mX6_uneven d (vx_pi SH Q) SH g 0 [some (.inr (some 40)), none, none, none, none, none] [] := by
  refine vr_iconst 1 dX6_uneven_0 rfl ⟨by decide, by decide⟩ ?_
  refine vr_istore_n 2 [some (.inr (some 40)), some (.inl 0), none, none, none, none] dX6_uneven_1 rfl rfl (by decide) rfl ?_
  refine vr_iconst 3 dX6_uneven_2 rfl ⟨by decide, by decide⟩ ?_
  refine vr_istore_n 4 [some (.inr (some 40)), some (.inl 0), some (.inl 0), none, none, none] dX6_uneven_3 rfl rfl (by decide) rfl ?_
  exact h
theorem kX6_uneven {l : Launch} {d : Nat} {Q : Int → vx_M → Prop} (g : vx_M) (h : vN l mX6_uneven d (vx_pi SH Q) SH g 4 [some (.inr (some 40)), some (.inl 0), some (.inl 0), none, none, none] []) : vNi l mX6_uneven d [.inr (some 40)] SH g Q := vNi_of [some (.inr (some 40)), none, none, none, none, none] pn_X6 (Nat.le_of_ble_eq_true rfl) rfl (tX6_uneven_0 g  h)
set_option maxRecDepth 100000 in
theorem tX6_uneven_4 {l : Launch} {d : Nat} {Q : Int → vx_M → Prop} (g : vx_M) (v1 v2 : Int) (h : (((g 40 0) ≤ v2 → Q v1 g) ∧ (¬ (g 40 0) ≤ v2 → vN l mX6_uneven d (vx_pi SH Q) SH g 22 [some (.inr (some 40)), some (.inl v1), some (.inl v2), some (.inl 1000), some (.inl 0), some (.inl 0)] []))) : vN l mX6_uneven d (vx_pi SH Q) SH g 4 [some (.inr (some 40)), some (.inl v1), some (.inl v2), none, none, none] [] := by
  refine vr_iload_n 5 dX6_uneven_4 rfl rfl rfl ?_
  refine vr_aload_n 6 dX6_uneven_5 rfl rfl rfl ?_
  refine vr_geti 9 0 0 cl_X6 fl_X6_7 (by decide) rfl dX6_uneven_6 rfl s_40 rfl ?_
  refine vr_icmp_ge 143 12 dX6_uneven_9 rfl rfl (fun c => ?_) (fun c => ?_)
  · replace h := h.1 c
    refine vr_iload_n 144 dX6_uneven_143 rfl rfl rfl ?_
    exact vr_iret rfl (Nat.le_refl _) (Nat.le_refl _) dX6_uneven_144 ⟨rfl, _, rfl, h⟩
  · replace h := h.2 c
    refine vr_sipush 15 dX6_uneven_12 rfl (by decide) ⟨by decide, by decide⟩ ?_
    refine vr_istore_n 16 [some (.inr (some 40)), some (.inl v1), some (.inl v2), some (.inl 1000), none, none] dX6_uneven_15 rfl rfl (by decide) rfl ?_
    refine vr_iconst 17 dX6_uneven_16 rfl ⟨by decide, by decide⟩ ?_
    refine vr_istore 19 [some (.inr (some 40)), some (.inl v1), some (.inl v2), some (.inl 1000), some (.inl 0), none] dX6_uneven_17 rfl (by decide) rfl ?_
    refine vr_iconst 20 dX6_uneven_19 rfl ⟨by decide, by decide⟩ ?_
    refine vr_istore 22 [some (.inr (some 40)), some (.inl v1), some (.inl v2), some (.inl 1000), some (.inl 0), some (.inl 0)] dX6_uneven_20 rfl (by decide) rfl ?_
    exact h
set_option maxRecDepth 100000 in
theorem tX6_uneven_22 {l : Launch} {d : Nat} {Q : Int → vx_M → Prop} (g : vx_M) (v1 v2 v3 v4 v5 : Int) (h : (((g 40 10) ≤ v5 → vx_in (v4 - v3) ∧ (((v4 - v3) ≤ (g 40 9) → vx_in (v4 - v3) ∧ vx_in (v1 + (v4 - v3)) ∧ vx_in (v2 + 1) ∧ vN l mX6_uneven d (vx_pi SH Q) SH g 4 [some (.inr (some 40)), some (.inl (v1 + (v4 - v3))), some (.inl (v2 + 1)), none, none, none] []) ∧ (¬ (v4 - v3) ≤ (g 40 9) → Q (-1) g))) ∧ (¬ (g 40 10) ≤ v5 → (0 ≤ v5 ∧ v5 < 12) ∧ ((¬ (g 48 v5) = v2 → vx_in (v5 + 1) ∧ vN l mX6_uneven d (vx_pi SH Q) SH g 22 [some (.inr (some 40)), some (.inl v1), some (.inl v2), some (.inl v3), some (.inl v4), some (.inl (v5 + 1))] []) ∧ ((g 48 v5) = v2 → (0 ≤ v5 ∧ v5 < 12) ∧ (0 ≤ g 52 v5 ∧ g 52 v5 < 8) ∧ ((v3 ≤ (g 42 (g 52 v5)) → vN l mX6_uneven d (vx_pi SH Q) SH g 74 [some (.inr (some 40)), some (.inl v1), some (.inl v2), some (.inl v3), some (.inl v4), some (.inl v5)] [.inl v3]) ∧ (¬ v3 ≤ (g 42 (g 52 v5)) → (0 ≤ v5 ∧ v5 < 12) ∧ (0 ≤ g 52 v5 ∧ g 52 v5 < 8) ∧ vN l mX6_uneven d (vx_pi SH Q) SH g 74 [some (.inr (some 40)), some (.inl v1), some (.inl v2), some (.inl v3), some (.inl v4), some (.inl v5)] [.inl (g 42 (g 52 v5))]))))))) : vN l mX6_uneven d (vx_pi SH Q) SH g 22 [some (.inr (some 40)), some (.inl v1), some (.inl v2), some (.inl v3), some (.inl v4), some (.inl v5)] [] := by
  refine vr_iload 24 dX6_uneven_22 rfl rfl ?_
  refine vr_aload_n 25 dX6_uneven_24 rfl rfl rfl ?_
  refine vr_geti 28 10 10 cl_X6 fl_X6_88 (by decide) rfl dX6_uneven_25 rfl s_40 rfl ?_
  refine vr_icmp_ge 117 31 dX6_uneven_28 rfl rfl (fun c => ?_) (fun c => ?_)
  · replace h := h.1 c
    refine vr_iload 119 dX6_uneven_117 rfl rfl ?_
    refine vr_iload_n 120 dX6_uneven_119 rfl rfl rfl ?_
    obtain ⟨o1, h⟩ := h
    refine vr_isub 121 dX6_uneven_120 rfl o1 ?_
    refine vr_aload_n 122 dX6_uneven_121 rfl rfl rfl ?_
    refine vr_geti 125 9 9 cl_X6 fl_X6_36 (by decide) rfl dX6_uneven_122 rfl s_40 rfl ?_
    refine vr_icmp_le 130 128 dX6_uneven_125 rfl rfl (fun c => ?_) (fun c => ?_)
    · replace h := h.1 c
      refine vr_iload_n 131 dX6_uneven_130 rfl rfl rfl ?_
      refine vr_iload 133 dX6_uneven_131 rfl rfl ?_
      refine vr_iload_n 134 dX6_uneven_133 rfl rfl rfl ?_
      obtain ⟨o2, h⟩ := h
      refine vr_isub 135 dX6_uneven_134 rfl o2 ?_
      obtain ⟨o3, h⟩ := h
      refine vr_iadd 136 dX6_uneven_135 rfl o3 ?_
      refine vr_istore_n 137 [some (.inr (some 40)), some (.inl (v1 + (v4 - v3))), some (.inl v2), some (.inl v3), some (.inl v4), some (.inl v5)] dX6_uneven_136 rfl rfl (by decide) rfl ?_
      obtain ⟨o4, h⟩ := h
      refine vr_iinc 140 [some (.inr (some 40)), some (.inl (v1 + (v4 - v3))), some (.inl (v2 + 1)), some (.inl v3), some (.inl v4), some (.inl v5)] dX6_uneven_137 rfl rfl o4 (by decide) rfl ?_
      refine vr_goto 4 dX6_uneven_140 rfl ?_
      exact vr_forget [some (.inr (some 40)), some (.inl (v1 + (v4 - v3))), some (.inl (v2 + 1)), none, none, none] (vx_sub.get _ _ ⟨rfl, ⟨rfl, ⟨rfl, trivial⟩⟩⟩) h
    · replace h := h.2 c
      refine vr_iconst 129 dX6_uneven_128 rfl ⟨by decide, by decide⟩ ?_
      exact vr_iret rfl (Nat.le_refl _) (Nat.le_refl _) dX6_uneven_129 ⟨rfl, _, rfl, h⟩
  · replace h := h.2 c
    refine vr_aload_n 32 dX6_uneven_31 rfl rfl rfl ?_
    refine vr_getr 35 11 cl_X6 fl_X6_39 (by decide) dX6_uneven_32 rfl s_40 rfl ?_
    refine vr_iload 37 dX6_uneven_35 rfl rfl ?_
    obtain ⟨o5, h⟩ := h
    refine vr_iald 38 dX6_uneven_37 rfl s_48 o5.1 o5.2 ?_
    refine vr_iload_n 39 dX6_uneven_38 rfl rfl rfl ?_
    refine vr_icmp_ne 111 42 dX6_uneven_39 rfl rfl (fun c => ?_) (fun c => ?_)
    · replace h := h.1 c
      obtain ⟨o6, h⟩ := h
      refine vr_iinc 114 [some (.inr (some 40)), some (.inl v1), some (.inl v2), some (.inl v3), some (.inl v4), some (.inl (v5 + 1))] dX6_uneven_111 rfl rfl o6 (by decide) rfl ?_
      refine vr_goto 22 dX6_uneven_114 rfl ?_
      exact h
    · replace h := h.2 c
      refine vr_aload_n 43 dX6_uneven_42 rfl rfl rfl ?_
      refine vr_getr 46 3 cl_X6 fl_X6_17 (by decide) dX6_uneven_43 rfl s_40 rfl ?_
      refine vr_aload_n 47 dX6_uneven_46 rfl rfl rfl ?_
      refine vr_getr 50 16 cl_X6 fl_X6_51 (by decide) dX6_uneven_47 rfl s_40 rfl ?_
      refine vr_iload 52 dX6_uneven_50 rfl rfl ?_
      obtain ⟨o7, h⟩ := h
      refine vr_iald 53 dX6_uneven_52 rfl s_52 o7.1 o7.2 ?_
      obtain ⟨o8, h⟩ := h
      refine vr_iald 54 dX6_uneven_53 rfl s_42 o8.1 o8.2 ?_
      refine vr_iload_n 55 dX6_uneven_54 rfl rfl rfl ?_
      refine vr_icmp_ge 73 58 dX6_uneven_55 rfl rfl (fun c => ?_) (fun c => ?_)
      · replace h := h.1 c
        refine vr_iload_n 74 dX6_uneven_73 rfl rfl rfl ?_
        exact h
      · replace h := h.2 c
        refine vr_aload_n 59 dX6_uneven_58 rfl rfl rfl ?_
        refine vr_getr 62 3 cl_X6 fl_X6_17 (by decide) dX6_uneven_59 rfl s_40 rfl ?_
        refine vr_aload_n 63 dX6_uneven_62 rfl rfl rfl ?_
        refine vr_getr 66 16 cl_X6 fl_X6_51 (by decide) dX6_uneven_63 rfl s_40 rfl ?_
        refine vr_iload 68 dX6_uneven_66 rfl rfl ?_
        obtain ⟨o9, h⟩ := h
        refine vr_iald 69 dX6_uneven_68 rfl s_52 o9.1 o9.2 ?_
        obtain ⟨o10, h⟩ := h
        refine vr_iald 70 dX6_uneven_69 rfl s_42 o10.1 o10.2 ?_
        refine vr_goto 74 dX6_uneven_70 rfl ?_
        exact h
set_option maxRecDepth 100000 in
theorem tX6_uneven_74 {l : Launch} {d : Nat} {Q : Int → vx_M → Prop} (g : vx_M) (v1 v2 v3 v4 v5 w0 : Int) (h : (0 ≤ v5 ∧ v5 < 12) ∧ (0 ≤ g 52 v5 ∧ g 52 v5 < 8) ∧ (((g 42 (g 52 v5)) ≤ v4 → vx_in (v5 + 1) ∧ vN l mX6_uneven d (vx_pi SH Q) SH g 22 [some (.inr (some 40)), some (.inl v1), some (.inl v2), some (.inl w0), some (.inl v4), some (.inl (v5 + 1))] []) ∧ (¬ (g 42 (g 52 v5)) ≤ v4 → (0 ≤ v5 ∧ v5 < 12) ∧ (0 ≤ g 52 v5 ∧ g 52 v5 < 8) ∧ vx_in (v5 + 1) ∧ vN l mX6_uneven d (vx_pi SH Q) SH g 22 [some (.inr (some 40)), some (.inl v1), some (.inl v2), some (.inl w0), some (.inl (g 42 (g 52 v5))), some (.inl (v5 + 1))] []))) : vN l mX6_uneven d (vx_pi SH Q) SH g 74 [some (.inr (some 40)), some (.inl v1), some (.inl v2), some (.inl v3), some (.inl v4), some (.inl v5)] [.inl w0] := by
  refine vr_istore_n 75 [some (.inr (some 40)), some (.inl v1), some (.inl v2), some (.inl w0), some (.inl v4), some (.inl v5)] dX6_uneven_74 rfl rfl (by decide) rfl ?_
  refine vr_aload_n 76 dX6_uneven_75 rfl rfl rfl ?_
  refine vr_getr 79 3 cl_X6 fl_X6_17 (by decide) dX6_uneven_76 rfl s_40 rfl ?_
  refine vr_aload_n 80 dX6_uneven_79 rfl rfl rfl ?_
  refine vr_getr 83 16 cl_X6 fl_X6_51 (by decide) dX6_uneven_80 rfl s_40 rfl ?_
  refine vr_iload 85 dX6_uneven_83 rfl rfl ?_
  obtain ⟨o1, h⟩ := h
  refine vr_iald 86 dX6_uneven_85 rfl s_52 o1.1 o1.2 ?_
  obtain ⟨o2, h⟩ := h
  refine vr_iald 87 dX6_uneven_86 rfl s_42 o2.1 o2.2 ?_
  refine vr_iload 89 dX6_uneven_87 rfl rfl ?_
  refine vr_icmp_le 107 92 dX6_uneven_89 rfl rfl (fun c => ?_) (fun c => ?_)
  · replace h := h.1 c
    refine vr_iload 109 dX6_uneven_107 rfl rfl ?_
    refine vr_istore 111 [some (.inr (some 40)), some (.inl v1), some (.inl v2), some (.inl w0), some (.inl v4), some (.inl v5)] dX6_uneven_109 rfl (by decide) rfl ?_
    obtain ⟨o3, h⟩ := h
    refine vr_iinc 114 [some (.inr (some 40)), some (.inl v1), some (.inl v2), some (.inl w0), some (.inl v4), some (.inl (v5 + 1))] dX6_uneven_111 rfl rfl o3 (by decide) rfl ?_
    refine vr_goto 22 dX6_uneven_114 rfl ?_
    exact h
  · replace h := h.2 c
    refine vr_aload_n 93 dX6_uneven_92 rfl rfl rfl ?_
    refine vr_getr 96 3 cl_X6 fl_X6_17 (by decide) dX6_uneven_93 rfl s_40 rfl ?_
    refine vr_aload_n 97 dX6_uneven_96 rfl rfl rfl ?_
    refine vr_getr 100 16 cl_X6 fl_X6_51 (by decide) dX6_uneven_97 rfl s_40 rfl ?_
    refine vr_iload 102 dX6_uneven_100 rfl rfl ?_
    obtain ⟨o4, h⟩ := h
    refine vr_iald 103 dX6_uneven_102 rfl s_52 o4.1 o4.2 ?_
    obtain ⟨o5, h⟩ := h
    refine vr_iald 104 dX6_uneven_103 rfl s_42 o5.1 o5.2 ?_
    refine vr_goto 109 dX6_uneven_104 rfl ?_
    refine vr_istore 111 [some (.inr (some 40)), some (.inl v1), some (.inl v2), some (.inl w0), some (.inl (g 42 (g 52 v5))), some (.inl v5)] dX6_uneven_109 rfl (by decide) rfl ?_
    obtain ⟨o6, h⟩ := h
    refine vr_iinc 114 [some (.inr (some 40)), some (.inl v1), some (.inl v2), some (.inl w0), some (.inl (g 42 (g 52 v5))), some (.inl (v5 + 1))] dX6_uneven_111 rfl rfl o6 (by decide) rfl ?_
    refine vr_goto 22 dX6_uneven_114 rfl ?_
    exact h
set_option maxRecDepth 100000 in
theorem tX6_fitsSo_0 {l : Launch} {d : Nat} {Q : Int → vx_M → Prop} (g : vx_M) (h : vN l mX6_fitsSo (d + 1) (vx_pi SH Q) SH g 2 [some (.inr (some 40)), some (.inl 0)] []) : vN l mX6_fitsSo (d + 1) (vx_pi SH Q) SH g 0 [some (.inr (some 40)), none] [] := by
  refine vr_iconst 1 dX6_fitsSo_0 rfl ⟨by decide, by decide⟩ ?_
  refine vr_istore_n 2 [some (.inr (some 40)), some (.inl 0)] dX6_fitsSo_1 rfl rfl (by decide) rfl ?_
  exact h
theorem kX6_fitsSo {l : Launch} {d : Nat} {Q : Int → vx_M → Prop} (g : vx_M) (h : vN l mX6_fitsSo (d + 1) (vx_pi SH Q) SH g 2 [some (.inr (some 40)), some (.inl 0)] []) : vNi l mX6_fitsSo (d + 1) [.inr (some 40)] SH g Q := vNi_of [some (.inr (some 40)), none] pn_X6 (Nat.le_of_ble_eq_true rfl) rfl (tX6_fitsSo_0 g  h)
set_option maxRecDepth 100000 in
theorem tX6_fitsSo_2 {l : Launch} {d : Nat} {Q : Int → vx_M → Prop} (g : vx_M) (v1 : Int) (h : (((g 40 10) ≤ v1 → vx_in ((g 40 10) - 1) ∧ (∃ Q2 : vx_M → Prop, vNv l mX6_findLoads d [.inr (some 40), .inl ((g 40 10) - 1)] SH g Q2 ∧ ∀ g2 : vx_M, Q2 g2 → vN l mX6_fitsSo (d + 1) (vx_pi SH Q) SH g2 64 [some (.inr (some 40)), some (.inl 0)] [])) ∧ (¬ (g 40 10) ≤ v1 → (0 ≤ v1 ∧ v1 < 12) ∧ (0 ≤ g 52 v1 ∧ g 52 v1 < 8) ∧ ((¬ (g 47 (g 52 v1)) = 0 → Q (-1) g) ∧ ((g 47 (g 52 v1)) = 0 → (0 ≤ v1 ∧ v1 < 12) ∧ (0 ≤ v1 ∧ v1 < 12) ∧ (0 ≤ g 52 v1 ∧ g 52 v1 < 8) ∧ (((g 48 v1) ≤ (g 45 (g 52 v1)) → vx_in (v1 + 1) ∧ vN l mX6_fitsSo (d + 1) (vx_pi SH Q) SH g 2 [some (.inr (some 40)), some (.inl (v1 + 1))] []) ∧ (¬ (g 48 v1) ≤ (g 45 (g 52 v1)) → Q (-1) g))))))) : vN l mX6_fitsSo (d + 1) (vx_pi SH Q) SH g 2 [some (.inr (some 40)), some (.inl v1)] [] := by
  refine vr_iload_n 3 dX6_fitsSo_2 rfl rfl rfl ?_
  refine vr_aload_n 4 dX6_fitsSo_3 rfl rfl rfl ?_
  refine vr_geti 7 10 10 cl_X6 fl_X6_88 (by decide) rfl dX6_fitsSo_4 rfl s_40 rfl ?_
  refine vr_icmp_ge 52 10 dX6_fitsSo_7 rfl rfl (fun c => ?_) (fun c => ?_)
  · replace h := h.1 c
    refine vr_aload_n 53 dX6_fitsSo_52 rfl rfl rfl ?_
    refine vr_aload_n 54 dX6_fitsSo_53 rfl rfl rfl ?_
    refine vr_geti 57 10 10 cl_X6 fl_X6_88 (by decide) rfl dX6_fitsSo_54 rfl s_40 rfl ?_
    refine vr_iconst 58 dX6_fitsSo_57 rfl ⟨by decide, by decide⟩ ?_
    obtain ⟨o1, h⟩ := h
    refine vr_isub 59 dX6_fitsSo_58 rfl o1 ?_
    obtain ⟨Q2, hq, h⟩ := h
    refine vr_callVv 62 [.inl ((g 40 10) - 1)] 40 [] dX6_fitsSo_59 rfl mc_X6_103 dn_X6_findLoads rfl rfl s_40 rfl (Nat.le_of_ble_eq_true rfl) (vx_rmR (by decide)) ⟨rfl, rfl⟩ ⟨Nat.le_refl _, Nat.le_refl _⟩ (fun _ _ => trivial) (fun _ _ => trivial) hq (fun sh9 g2 hp _ => ?_)
    obtain ⟨e9, -, hp⟩ := hp
    subst e9
    replace h := h g2 hp
    refine vr_iconst 63 dX6_fitsSo_62 rfl ⟨by decide, by decide⟩ ?_
    refine vr_istore_n 64 [some (.inr (some 40)), some (.inl 0)] dX6_fitsSo_63 rfl rfl (by decide) rfl ?_
    exact h
  · replace h := h.2 c
    refine vr_aload_n 11 dX6_fitsSo_10 rfl rfl rfl ?_
    refine vr_getr 14 8 cl_X6 fl_X6_32 (by decide) dX6_fitsSo_11 rfl s_40 rfl ?_
    refine vr_aload_n 15 dX6_fitsSo_14 rfl rfl rfl ?_
    refine vr_getr 18 16 cl_X6 fl_X6_51 (by decide) dX6_fitsSo_15 rfl s_40 rfl ?_
    refine vr_iload_n 19 dX6_fitsSo_18 rfl rfl rfl ?_
    obtain ⟨o3, h⟩ := h
    refine vr_iald 20 dX6_fitsSo_19 rfl s_52 o3.1 o3.2 ?_
    obtain ⟨o4, h⟩ := h
    refine vr_zald 21 dX6_fitsSo_20 rfl s_47 o4.1 o4.2 ?_
    refine vr_if_ne 44 24 dX6_fitsSo_21 rfl rfl (fun c => ?_) (fun c => ?_)
    · replace h := h.1 c
      refine vr_iconst 45 dX6_fitsSo_44 rfl ⟨by decide, by decide⟩ ?_
      exact vr_iret rfl (Nat.le_refl _) (Nat.le_refl _) dX6_fitsSo_45 ⟨rfl, _, rfl, h⟩
    · replace h := h.2 c
      refine vr_aload_n 25 dX6_fitsSo_24 rfl rfl rfl ?_
      refine vr_getr 28 11 cl_X6 fl_X6_39 (by decide) dX6_fitsSo_25 rfl s_40 rfl ?_
      refine vr_iload_n 29 dX6_fitsSo_28 rfl rfl rfl ?_
      obtain ⟨o5, h⟩ := h
      refine vr_iald 30 dX6_fitsSo_29 rfl s_48 o5.1 o5.2 ?_
      refine vr_aload_n 31 dX6_fitsSo_30 rfl rfl rfl ?_
      refine vr_getr 34 6 cl_X6 fl_X6_26 (by decide) dX6_fitsSo_31 rfl s_40 rfl ?_
      refine vr_aload_n 35 dX6_fitsSo_34 rfl rfl rfl ?_
      refine vr_getr 38 16 cl_X6 fl_X6_51 (by decide) dX6_fitsSo_35 rfl s_40 rfl ?_
      refine vr_iload_n 39 dX6_fitsSo_38 rfl rfl rfl ?_
      obtain ⟨o6, h⟩ := h
      refine vr_iald 40 dX6_fitsSo_39 rfl s_52 o6.1 o6.2 ?_
      obtain ⟨o7, h⟩ := h
      refine vr_iald 41 dX6_fitsSo_40 rfl s_45 o7.1 o7.2 ?_
      refine vr_icmp_le 46 44 dX6_fitsSo_41 rfl rfl (fun c => ?_) (fun c => ?_)
      · replace h := h.1 c
        obtain ⟨o8, h⟩ := h
        refine vr_iinc 49 [some (.inr (some 40)), some (.inl (v1 + 1))] dX6_fitsSo_46 rfl rfl o8 (by decide) rfl ?_
        refine vr_goto 2 dX6_fitsSo_49 rfl ?_
        exact h
      · replace h := h.2 c
        refine vr_iconst 45 dX6_fitsSo_44 rfl ⟨by decide, by decide⟩ ?_
        exact vr_iret rfl (Nat.le_refl _) (Nat.le_refl _) dX6_fitsSo_45 ⟨rfl, _, rfl, h⟩
set_option maxRecDepth 100000 in
theorem tX6_fitsSo_64 {l : Launch} {d : Nat} {Q : Int → vx_M → Prop} (g : vx_M) (v1 : Int) (h : (((g 40 10) ≤ v1 → (∃ Q1 : Int → vx_M → Prop, vNi l mX6_uneven d [.inr (some 40)] SH g Q1 ∧ ∀ (r1 : Int) (g1 : vx_M), Q1 r1 g1 → Q r1 g1)) ∧ (¬ (g 40 10) ≤ v1 → (0 ≤ v1 ∧ v1 < 12) ∧ (0 ≤ v1 ∧ v1 < 12) ∧ (0 ≤ g 52 v1 ∧ g 52 v1 < 8) ∧ vx_in (8 * (g 44 (g 52 v1))) ∧ (((g 53 v1) ≤ (8 * (g 44 (g 52 v1))) → vx_in (v1 + 1) ∧ vN l mX6_fitsSo (d + 1) (vx_pi SH Q) SH g 64 [some (.inr (some 40)), some (.inl (v1 + 1))] []) ∧ (¬ (g 53 v1) ≤ (8 * (g 44 (g 52 v1))) → Q (-1) g))))) : vN l mX6_fitsSo (d + 1) (vx_pi SH Q) SH g 64 [some (.inr (some 40)), some (.inl v1)] [] := by
  refine vr_iload_n 65 dX6_fitsSo_64 rfl rfl rfl ?_
  refine vr_aload_n 66 dX6_fitsSo_65 rfl rfl rfl ?_
  refine vr_geti 69 10 10 cl_X6 fl_X6_88 (by decide) rfl dX6_fitsSo_66 rfl s_40 rfl ?_
  refine vr_icmp_ge 103 72 dX6_fitsSo_69 rfl rfl (fun c => ?_) (fun c => ?_)
  · replace h := h.1 c
    refine vr_aload_n 104 dX6_fitsSo_103 rfl rfl rfl ?_
    obtain ⟨Q1, hq, h⟩ := h
    refine vr_callVi 107 [] 40 [] dX6_fitsSo_104 rfl mc_X6_107 dn_X6_uneven rfl rfl s_40 rfl (Nat.le_of_ble_eq_true rfl) (vx_rmR (by decide)) ⟨rfl, rfl⟩ ⟨Nat.le_refl _, Nat.le_refl _⟩ (fun _ _ => trivial) (fun _ _ => trivial) hq (fun r1 sh9 g1 hp _ _ => ?_)
    obtain ⟨e9, z9, e8, hp⟩ := hp
    subst e9
    cases e8
    replace h := h r1 g1 hp
    exact vr_iret rfl (Nat.le_refl _) (Nat.le_refl _) dX6_fitsSo_107 ⟨rfl, _, rfl, h⟩
  · replace h := h.2 c
    refine vr_aload_n 73 dX6_fitsSo_72 rfl rfl rfl ?_
    refine vr_getr 76 17 cl_X6 fl_X6_54 (by decide) dX6_fitsSo_73 rfl s_40 rfl ?_
    refine vr_iload_n 77 dX6_fitsSo_76 rfl rfl rfl ?_
    obtain ⟨o2, h⟩ := h
    refine vr_iald 78 dX6_fitsSo_77 rfl s_53 o2.1 o2.2 ?_
    refine vr_bipush 80 dX6_fitsSo_78 rfl (by decide) ⟨by decide, by decide⟩ ?_
    refine vr_aload_n 81 dX6_fitsSo_80 rfl rfl rfl ?_
    refine vr_getr 84 5 cl_X6 fl_X6_23 (by decide) dX6_fitsSo_81 rfl s_40 rfl ?_
    refine vr_aload_n 85 dX6_fitsSo_84 rfl rfl rfl ?_
    refine vr_getr 88 16 cl_X6 fl_X6_51 (by decide) dX6_fitsSo_85 rfl s_40 rfl ?_
    refine vr_iload_n 89 dX6_fitsSo_88 rfl rfl rfl ?_
    obtain ⟨o3, h⟩ := h
    refine vr_iald 90 dX6_fitsSo_89 rfl s_52 o3.1 o3.2 ?_
    obtain ⟨o4, h⟩ := h
    refine vr_iald 91 dX6_fitsSo_90 rfl s_44 o4.1 o4.2 ?_
    obtain ⟨o5, h⟩ := h
    refine vr_imul 92 dX6_fitsSo_91 rfl o5 ?_
    refine vr_icmp_le 97 95 dX6_fitsSo_92 rfl rfl (fun c => ?_) (fun c => ?_)
    · replace h := h.1 c
      obtain ⟨o6, h⟩ := h
      refine vr_iinc 100 [some (.inr (some 40)), some (.inl (v1 + 1))] dX6_fitsSo_97 rfl rfl o6 (by decide) rfl ?_
      refine vr_goto 64 dX6_fitsSo_100 rfl ?_
      exact h
    · replace h := h.2 c
      refine vr_iconst 96 dX6_fitsSo_95 rfl ⟨by decide, by decide⟩ ?_
      exact vr_iret rfl (Nat.le_refl _) (Nat.le_refl _) dX6_fitsSo_96 ⟨rfl, _, rfl, h⟩
set_option maxRecDepth 100000 in
theorem tX6_isAhead_0 {l : Launch} {d : Nat} {Q : Int → vx_M → Prop} (g : vx_M) (v1 : Int) (h : vN l mX6_isAhead d (vx_pi SH Q) SH g 4 [some (.inr (some 40)), some (.inl v1), some (.inl 0), some (.inl 0)] []) : vN l mX6_isAhead d (vx_pi SH Q) SH g 0 [some (.inr (some 40)), some (.inl v1), none, none] [] := by
  refine vr_iconst 1 dX6_isAhead_0 rfl ⟨by decide, by decide⟩ ?_
  refine vr_istore_n 2 [some (.inr (some 40)), some (.inl v1), some (.inl 0), none] dX6_isAhead_1 rfl rfl (by decide) rfl ?_
  refine vr_iconst 3 dX6_isAhead_2 rfl ⟨by decide, by decide⟩ ?_
  refine vr_istore_n 4 [some (.inr (some 40)), some (.inl v1), some (.inl 0), some (.inl 0)] dX6_isAhead_3 rfl rfl (by decide) rfl ?_
  exact h
theorem kX6_isAhead {l : Launch} {d : Nat} {Q : Int → vx_M → Prop} (g : vx_M) (v1 : Int) (h : vN l mX6_isAhead d (vx_pi SH Q) SH g 4 [some (.inr (some 40)), some (.inl v1), some (.inl 0), some (.inl 0)] []) : vNi l mX6_isAhead d [.inr (some 40), .inl v1] SH g Q := vNi_of [some (.inr (some 40)), some (.inl v1), none, none] pn_X6 (Nat.le_of_ble_eq_true rfl) rfl (tX6_isAhead_0 g v1 h)
set_option maxRecDepth 100000 in
theorem tX6_isAhead_4 {l : Launch} {d : Nat} {Q : Int → vx_M → Prop} (g : vx_M) (v1 v2 v3 : Int) (h : ((v1 ≤ v3 → (v2 = 0 ∨ v2 = 1) ∧ Q v2 g) ∧ (¬ v1 ≤ v3 → ((¬ v2 = 0 → vx_in (v3 + 1) ∧ vN l mX6_isAhead d (vx_pi SH Q) SH g 4 [some (.inr (some 40)), some (.inl v1), some (.inl 1), some (.inl (v3 + 1))] []) ∧ (v2 = 0 → (0 ≤ v3 ∧ v3 < 12) ∧ (0 ≤ v1 ∧ v1 < 12) ∧ ((¬ (g 52 v3) = (g 52 v1) → vx_in (v3 + 1) ∧ vN l mX6_isAhead d (vx_pi SH Q) SH g 4 [some (.inr (some 40)), some (.inl v1), some (.inl 0), some (.inl (v3 + 1))] []) ∧ ((g 52 v3) = (g 52 v1) → vx_in (v3 + 1) ∧ vN l mX6_isAhead d (vx_pi SH Q) SH g 4 [some (.inr (some 40)), some (.inl v1), some (.inl 1), some (.inl (v3 + 1))] []))))))) : vN l mX6_isAhead d (vx_pi SH Q) SH g 4 [some (.inr (some 40)), some (.inl v1), some (.inl v2), some (.inl v3)] [] := by
  refine vr_iload_n 5 dX6_isAhead_4 rfl rfl rfl ?_
  refine vr_iload_n 6 dX6_isAhead_5 rfl rfl rfl ?_
  refine vr_icmp_ge 40 9 dX6_isAhead_6 rfl rfl (fun c => ?_) (fun c => ?_)
  · replace h := h.1 c
    refine vr_iload_n 41 dX6_isAhead_40 rfl rfl rfl ?_
    exact vr_zret rfl (Nat.le_refl _) (Nat.le_refl _) dX6_isAhead_41 h.1 ⟨rfl, _, rfl, h.2⟩
  · replace h := h.2 c
    refine vr_iload_n 10 dX6_isAhead_9 rfl rfl rfl ?_
    refine vr_if_ne 28 13 dX6_isAhead_10 rfl rfl (fun c => ?_) (fun c => ?_)
    · replace h := h.1 c
      refine vr_iconst 29 dX6_isAhead_28 rfl ⟨by decide, by decide⟩ ?_
      refine vr_goto 33 dX6_isAhead_29 rfl ?_
      refine vr_istore_n 34 [some (.inr (some 40)), some (.inl v1), some (.inl 1), some (.inl v3)] dX6_isAhead_33 rfl rfl (by decide) rfl ?_
      obtain ⟨o1, h⟩ := h
      refine vr_iinc 37 [some (.inr (some 40)), some (.inl v1), some (.inl 1), some (.inl (v3 + 1))] dX6_isAhead_34 rfl rfl o1 (by decide) rfl ?_
      refine vr_goto 4 dX6_isAhead_37 rfl ?_
      exact h
    · replace h := h.2 c
      refine vr_aload_n 14 dX6_isAhead_13 rfl rfl rfl ?_
      refine vr_getr 17 16 cl_X6 fl_X6_51 (by decide) dX6_isAhead_14 rfl s_40 rfl ?_
      refine vr_iload_n 18 dX6_isAhead_17 rfl rfl rfl ?_
      obtain ⟨o2, h⟩ := h
      refine vr_iald 19 dX6_isAhead_18 rfl s_52 o2.1 o2.2 ?_
      refine vr_aload_n 20 dX6_isAhead_19 rfl rfl rfl ?_
      refine vr_getr 23 16 cl_X6 fl_X6_51 (by decide) dX6_isAhead_20 rfl s_40 rfl ?_
      refine vr_iload_n 24 dX6_isAhead_23 rfl rfl rfl ?_
      obtain ⟨o3, h⟩ := h
      refine vr_iald 25 dX6_isAhead_24 rfl s_52 o3.1 o3.2 ?_
      refine vr_icmp_ne 32 28 dX6_isAhead_25 rfl rfl (fun c => ?_) (fun c => ?_)
      · replace h := h.1 c
        refine vr_iconst 33 dX6_isAhead_32 rfl ⟨by decide, by decide⟩ ?_
        refine vr_istore_n 34 [some (.inr (some 40)), some (.inl v1), some (.inl 0), some (.inl v3)] dX6_isAhead_33 rfl rfl (by decide) rfl ?_
        obtain ⟨o4, h⟩ := h
        refine vr_iinc 37 [some (.inr (some 40)), some (.inl v1), some (.inl 0), some (.inl (v3 + 1))] dX6_isAhead_34 rfl rfl o4 (by decide) rfl ?_
        refine vr_goto 4 dX6_isAhead_37 rfl ?_
        exact h
      · replace h := h.2 c
        refine vr_iconst 29 dX6_isAhead_28 rfl ⟨by decide, by decide⟩ ?_
        refine vr_goto 33 dX6_isAhead_29 rfl ?_
        refine vr_istore_n 34 [some (.inr (some 40)), some (.inl v1), some (.inl 1), some (.inl v3)] dX6_isAhead_33 rfl rfl (by decide) rfl ?_
        obtain ⟨o5, h⟩ := h
        refine vr_iinc 37 [some (.inr (some 40)), some (.inl v1), some (.inl 1), some (.inl (v3 + 1))] dX6_isAhead_34 rfl rfl o5 (by decide) rfl ?_
        refine vr_goto 4 dX6_isAhead_37 rfl ?_
        exact h
set_option maxRecDepth 100000 in
theorem tX6_hasNext_0 {l : Launch} {d : Nat} {Q : Int → vx_M → Prop} (g : vx_M) (h : vx_in ((g 40 10) - 1) ∧ vN l mX6_hasNext (d + 1) (vx_pi SH Q) SH g 7 [some (.inr (some 40)), some (.inl ((g 40 10) - 1)), none] []) : vN l mX6_hasNext (d + 1) (vx_pi SH Q) SH g 0 [some (.inr (some 40)), none, none] [] := by
  refine vr_aload_n 1 dX6_hasNext_0 rfl rfl rfl ?_
  refine vr_geti 4 10 10 cl_X6 fl_X6_88 (by decide) rfl dX6_hasNext_1 rfl s_40 rfl ?_
  refine vr_iconst 5 dX6_hasNext_4 rfl ⟨by decide, by decide⟩ ?_
  obtain ⟨o1, h⟩ := h
  refine vr_isub 6 dX6_hasNext_5 rfl o1 ?_
  refine vr_istore_n 7 [some (.inr (some 40)), some (.inl ((g 40 10) - 1)), none] dX6_hasNext_6 rfl rfl (by decide) rfl ?_
  exact h
theorem kX6_hasNext {l : Launch} {d : Nat} {Q : Int → vx_M → Prop} (g : vx_M) (h : vx_in ((g 40 10) - 1) ∧ vN l mX6_hasNext (d + 1) (vx_pi SH Q) SH g 7 [some (.inr (some 40)), some (.inl ((g 40 10) - 1)), none] []) : vNi l mX6_hasNext (d + 1) [.inr (some 40)] SH g Q := vNi_of [some (.inr (some 40)), none, none] pn_X6 (Nat.le_of_ble_eq_true rfl) rfl (tX6_hasNext_0 g  h)
set_option maxRecDepth 100000 in
theorem tX6_hasNext_7 {l : Launch} {d : Nat} {Q : Int → vx_M → Prop} (g : vx_M) (v1 : Int) (h : ((v1 < 0 → Q 0 g) ∧ (¬ v1 < 0 → (0 ≤ v1 ∧ v1 < 12) ∧ vx_in ((g 52 v1) + 1) ∧ (0 ≤ v1 ∧ v1 < 12) ∧ vN l mX6_hasNext (d + 1) (vx_pi SH Q) SH (vx_u g 52 v1 ((g 52 v1) + 1)) 21 [some (.inr (some 40)), some (.inl v1), none] []))) : vN l mX6_hasNext (d + 1) (vx_pi SH Q) SH g 7 [some (.inr (some 40)), some (.inl v1), none] [] := by
  refine vr_iload_n 8 dX6_hasNext_7 rfl rfl rfl ?_
  refine vr_if_lt 122 11 dX6_hasNext_8 rfl rfl (fun c => ?_) (fun c => ?_)
  · replace h := h.1 c
    refine vr_iconst 123 dX6_hasNext_122 rfl ⟨by decide, by decide⟩ ?_
    exact vr_zret rfl (Nat.le_refl _) (Nat.le_refl _) dX6_hasNext_123 (by decide) ⟨rfl, _, rfl, h⟩
  · replace h := h.2 c
    refine vr_aload_n 12 dX6_hasNext_11 rfl rfl rfl ?_
    refine vr_getr 15 16 cl_X6 fl_X6_51 (by decide) dX6_hasNext_12 rfl s_40 rfl ?_
    refine vr_iload_n 16 dX6_hasNext_15 rfl rfl rfl ?_
    refine vr_dup2 17 dX6_hasNext_16 rfl ?_
    obtain ⟨o1, h⟩ := h
    refine vr_iald 18 dX6_hasNext_17 rfl s_52 o1.1 o1.2 ?_
    refine vr_iconst 19 dX6_hasNext_18 rfl ⟨by decide, by decide⟩ ?_
    obtain ⟨o2, h⟩ := h
    refine vr_iadd 20 dX6_hasNext_19 rfl o2 ?_
    obtain ⟨o3, h⟩ := h
    refine vr_iast 21 dX6_hasNext_20 rfl s_52 o3.1 o3.2 ?_
    exact h
set_option maxRecDepth 100000 in
theorem tX6_hasNext_21 {l : Launch} {d : Nat} {Q : Int → vx_M → Prop} (g : vx_M) (v1 : Int) (h : (0 ≤ v1 ∧ v1 < 12) ∧ (((g 40 2) ≤ (g 52 v1) → vN l mX6_hasNext (d + 1) (vx_pi SH Q) SH g 55 [some (.inr (some 40)), some (.inl v1), none] []) ∧ (¬ (g 40 2) ≤ (g 52 v1) → (∃ Q2 : Int → vx_M → Prop, vNi l mX6_isAhead d [.inr (some 40), .inl v1] SH g Q2 ∧ ∀ (r2 : Int) (g2 : vx_M), Q2 r2 g2 → ((r2 = 0 → vN l mX6_hasNext (d + 1) (vx_pi SH Q) SH g2 55 [some (.inr (some 40)), some (.inl v1), none] []) ∧ (¬ r2 = 0 → (0 ≤ v1 ∧ v1 < 12) ∧ vx_in ((g2 52 v1) + 1) ∧ (0 ≤ v1 ∧ v1 < 12) ∧ vN l mX6_hasNext (d + 1) (vx_pi SH Q) SH (vx_u g2 52 v1 ((g2 52 v1) + 1)) 21 [some (.inr (some 40)), some (.inl v1), none] [])))))) : vN l mX6_hasNext (d + 1) (vx_pi SH Q) SH g 21 [some (.inr (some 40)), some (.inl v1), none] [] := by
  refine vr_aload_n 22 dX6_hasNext_21 rfl rfl rfl ?_
  refine vr_getr 25 16 cl_X6 fl_X6_51 (by decide) dX6_hasNext_22 rfl s_40 rfl ?_
  refine vr_iload_n 26 dX6_hasNext_25 rfl rfl rfl ?_
  obtain ⟨o1, h⟩ := h
  refine vr_iald 27 dX6_hasNext_26 rfl s_52 o1.1 o1.2 ?_
  refine vr_aload_n 28 dX6_hasNext_27 rfl rfl rfl ?_
  refine vr_geti 31 2 2 cl_X6 fl_X6_81 (by decide) rfl dX6_hasNext_28 rfl s_40 rfl ?_
  refine vr_icmp_ge 55 34 dX6_hasNext_31 rfl rfl (fun c => ?_) (fun c => ?_)
  · replace h := h.1 c
    exact h
  · replace h := h.2 c
    refine vr_aload_n 35 dX6_hasNext_34 rfl rfl rfl ?_
    refine vr_iload_n 36 dX6_hasNext_35 rfl rfl rfl ?_
    obtain ⟨Q2, hq, h⟩ := h
    refine vr_callVi 39 [.inl v1] 40 [] dX6_hasNext_36 rfl mc_X6_111 dn_X6_isAhead rfl rfl s_40 rfl (Nat.le_of_ble_eq_true rfl) (vx_rmR (by decide)) ⟨rfl, rfl⟩ ⟨Nat.le_refl _, Nat.le_refl _⟩ (fun _ _ => trivial) (fun _ _ => trivial) hq (fun r2 sh9 g2 hp _ _ => ?_)
    obtain ⟨e9, z9, e8, hp⟩ := hp
    subst e9
    cases e8
    replace h := h r2 g2 hp
    refine vr_if_eq 55 42 dX6_hasNext_39 rfl rfl (fun c => ?_) (fun c => ?_)
    · replace h := h.1 c
      exact h
    · replace h := h.2 c
      refine vr_aload_n 43 dX6_hasNext_42 rfl rfl rfl ?_
      refine vr_getr 46 16 cl_X6 fl_X6_51 (by decide) dX6_hasNext_43 rfl s_40 rfl ?_
      refine vr_iload_n 47 dX6_hasNext_46 rfl rfl rfl ?_
      refine vr_dup2 48 dX6_hasNext_47 rfl ?_
      obtain ⟨o3, h⟩ := h
      refine vr_iald 49 dX6_hasNext_48 rfl s_52 o3.1 o3.2 ?_
      refine vr_iconst 50 dX6_hasNext_49 rfl ⟨by decide, by decide⟩ ?_
      obtain ⟨o4, h⟩ := h
      refine vr_iadd 51 dX6_hasNext_50 rfl o4 ?_
      obtain ⟨o5, h⟩ := h
      refine vr_iast 52 dX6_hasNext_51 rfl s_52 o5.1 o5.2 ?_
      refine vr_goto 21 dX6_hasNext_52 rfl ?_
      exact h
set_option maxRecDepth 100000 in
theorem tX6_hasNext_55 {l : Launch} {d : Nat} {Q : Int → vx_M → Prop} (g : vx_M) (v1 : Int) (h : (0 ≤ v1 ∧ v1 < 12) ∧ (((g 40 2) ≤ (g 52 v1) → vx_in (v1 + (-1)) ∧ vN l mX6_hasNext (d + 1) (vx_pi SH Q) SH g 7 [some (.inr (some 40)), some (.inl (v1 + (-1))), none] []) ∧ (¬ (g 40 2) ≤ (g 52 v1) → vx_in (v1 + 1) ∧ vN l mX6_hasNext (d + 1) (vx_pi SH Q) SH g 72 [some (.inr (some 40)), some (.inl v1), some (.inl (v1 + 1))] []))) : vN l mX6_hasNext (d + 1) (vx_pi SH Q) SH g 55 [some (.inr (some 40)), some (.inl v1), none] [] := by
  refine vr_aload_n 56 dX6_hasNext_55 rfl rfl rfl ?_
  refine vr_getr 59 16 cl_X6 fl_X6_51 (by decide) dX6_hasNext_56 rfl s_40 rfl ?_
  refine vr_iload_n 60 dX6_hasNext_59 rfl rfl rfl ?_
  obtain ⟨o1, h⟩ := h
  refine vr_iald 61 dX6_hasNext_60 rfl s_52 o1.1 o1.2 ?_
  refine vr_aload_n 62 dX6_hasNext_61 rfl rfl rfl ?_
  refine vr_geti 65 2 2 cl_X6 fl_X6_81 (by decide) rfl dX6_hasNext_62 rfl s_40 rfl ?_
  refine vr_icmp_ge 116 68 dX6_hasNext_65 rfl rfl (fun c => ?_) (fun c => ?_)
  · replace h := h.1 c
    obtain ⟨o2, h⟩ := h
    refine vr_iinc 119 [some (.inr (some 40)), some (.inl (v1 + (-1))), none] dX6_hasNext_116 rfl rfl o2 (by decide) rfl ?_
    refine vr_goto 7 dX6_hasNext_119 rfl ?_
    exact h
  · replace h := h.2 c
    refine vr_iload_n 69 dX6_hasNext_68 rfl rfl rfl ?_
    refine vr_iconst 70 dX6_hasNext_69 rfl ⟨by decide, by decide⟩ ?_
    obtain ⟨o3, h⟩ := h
    refine vr_iadd 71 dX6_hasNext_70 rfl o3 ?_
    refine vr_istore_n 72 [some (.inr (some 40)), some (.inl v1), some (.inl (v1 + 1))] dX6_hasNext_71 rfl rfl (by decide) rfl ?_
    exact h
set_option maxRecDepth 100000 in
theorem tX6_hasNext_72 {l : Launch} {d : Nat} {Q : Int → vx_M → Prop} (g : vx_M) (v1 v2 : Int) (h : (((g 40 10) ≤ v2 → Q 1 g) ∧ (¬ (g 40 10) ≤ v2 → (0 ≤ v2 ∧ v2 < 12) ∧ vN l mX6_hasNext (d + 1) (vx_pi SH Q) SH (vx_u g 52 v2 0) 87 [some (.inr (some 40)), some (.inl v1), some (.inl v2)] []))) : vN l mX6_hasNext (d + 1) (vx_pi SH Q) SH g 72 [some (.inr (some 40)), some (.inl v1), some (.inl v2)] [] := by
  refine vr_iload_n 73 dX6_hasNext_72 rfl rfl rfl ?_
  refine vr_aload_n 74 dX6_hasNext_73 rfl rfl rfl ?_
  refine vr_geti 77 10 10 cl_X6 fl_X6_88 (by decide) rfl dX6_hasNext_74 rfl s_40 rfl ?_
  refine vr_icmp_ge 114 80 dX6_hasNext_77 rfl rfl (fun c => ?_) (fun c => ?_)
  · replace h := h.1 c
    refine vr_iconst 115 dX6_hasNext_114 rfl ⟨by decide, by decide⟩ ?_
    exact vr_zret rfl (Nat.le_refl _) (Nat.le_refl _) dX6_hasNext_115 (by decide) ⟨rfl, _, rfl, h⟩
  · replace h := h.2 c
    refine vr_aload_n 81 dX6_hasNext_80 rfl rfl rfl ?_
    refine vr_getr 84 16 cl_X6 fl_X6_51 (by decide) dX6_hasNext_81 rfl s_40 rfl ?_
    refine vr_iload_n 85 dX6_hasNext_84 rfl rfl rfl ?_
    refine vr_iconst 86 dX6_hasNext_85 rfl ⟨by decide, by decide⟩ ?_
    obtain ⟨o1, h⟩ := h
    refine vr_iast 87 dX6_hasNext_86 rfl s_52 o1.1 o1.2 ?_
    exact h
set_option maxRecDepth 100000 in
theorem tX6_hasNext_87 {l : Launch} {d : Nat} {Q : Int → vx_M → Prop} (g : vx_M) (v1 v2 : Int) (h : (∃ Q1 : Int → vx_M → Prop, vNi l mX6_isAhead d [.inr (some 40), .inl v2] SH g Q1 ∧ ∀ (r1 : Int) (g1 : vx_M), Q1 r1 g1 → ((r1 = 0 → vx_in (v2 + 1) ∧ vN l mX6_hasNext (d + 1) (vx_pi SH Q) SH g1 72 [some (.inr (some 40)), some (.inl v1), some (.inl (v2 + 1))] []) ∧ (¬ r1 = 0 → (0 ≤ v2 ∧ v2 < 12) ∧ vx_in ((g1 52 v2) + 1) ∧ (0 ≤ v2 ∧ v2 < 12) ∧ vN l mX6_hasNext (d + 1) (vx_pi SH Q) SH (vx_u g1 52 v2 ((g1 52 v2) + 1)) 87 [some (.inr (some 40)), some (.inl v1), some (.inl v2)] [])))) : vN l mX6_hasNext (d + 1) (vx_pi SH Q) SH g 87 [some (.inr (some 40)), some (.inl v1), some (.inl v2)] [] := by
  refine vr_aload_n 88 dX6_hasNext_87 rfl rfl rfl ?_
  refine vr_iload_n 89 dX6_hasNext_88 rfl rfl rfl ?_
  obtain ⟨Q1, hq, h⟩ := h
  refine vr_callVi 92 [.inl v2] 40 [] dX6_hasNext_89 rfl mc_X6_111 dn_X6_isAhead rfl rfl s_40 rfl (Nat.le_of_ble_eq_true rfl) (vx_rmR (by decide)) ⟨rfl, rfl⟩ ⟨Nat.le_refl _, Nat.le_refl _⟩ (fun _ _ => trivial) (fun _ _ => trivial) hq (fun r1 sh9 g1 hp _ _ => ?_)
  obtain ⟨e9, z9, e8, hp⟩ := hp
  subst e9
  cases e8
  replace h := h r1 g1 hp
  refine vr_if_eq 108 95 dX6_hasNext_92 rfl rfl (fun c => ?_) (fun c => ?_)
  · replace h := h.1 c
    obtain ⟨o2, h⟩ := h
    refine vr_iinc 111 [some (.inr (some 40)), some (.inl v1), some (.inl (v2 + 1))] dX6_hasNext_108 rfl rfl o2 (by decide) rfl ?_
    refine vr_goto 72 dX6_hasNext_111 rfl ?_
    exact h
  · replace h := h.2 c
    refine vr_aload_n 96 dX6_hasNext_95 rfl rfl rfl ?_
    refine vr_getr 99 16 cl_X6 fl_X6_51 (by decide) dX6_hasNext_96 rfl s_40 rfl ?_
    refine vr_iload_n 100 dX6_hasNext_99 rfl rfl rfl ?_
    refine vr_dup2 101 dX6_hasNext_100 rfl ?_
    obtain ⟨o3, h⟩ := h
    refine vr_iald 102 dX6_hasNext_101 rfl s_52 o3.1 o3.2 ?_
    refine vr_iconst 103 dX6_hasNext_102 rfl ⟨by decide, by decide⟩ ?_
    obtain ⟨o4, h⟩ := h
    refine vr_iadd 104 dX6_hasNext_103 rfl o4 ?_
    obtain ⟨o5, h⟩ := h
    refine vr_iast 105 dX6_hasNext_104 rfl s_52 o5.1 o5.2 ?_
    refine vr_goto 87 dX6_hasNext_105 rfl ?_
    exact h

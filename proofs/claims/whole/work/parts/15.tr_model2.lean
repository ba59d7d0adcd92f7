set_option maxRecDepth 100000 in
theorem tX6_findPlacings_0 {l : Launch} {d : Nat} {Q : vx_M → Prop} (g : vx_M) (h : (((g 40 2) < (g 40 10) → vN l mX6_findPlacings (d + 1) (vx_pv SH Q) SH (vx_u (vx_u (vx_u g 40 18 0) 40 19 (-1)) 40 21 (-1)) 34 [some (.inr (some 40)), some (.inl 0), some (.inl 0), none, none, none, none] []) ∧ (¬ (g 40 2) < (g 40 10) → vN l mX6_findPlacings (d + 1) (vx_pv SH Q) SH (vx_u (vx_u (vx_u g 40 18 0) 40 19 (-1)) 40 21 (-1)) 34 [some (.inr (some 40)), some (.inl 1), some (.inl 0), none, none, none, none] []))) : vN l mX6_findPlacings (d + 1) (vx_pv SH Q) SH g 0 [some (.inr (some 40)), none, none, none, none, none, none] [] := by
  refine vr_aload_n 1 dX6_findPlacings_0 rfl rfl rfl ?_
  refine vr_iconst 2 dX6_findPlacings_1 rfl ⟨by decide, by decide⟩ ?_
  refine vr_puti 5 18 18 cl_X6 fl_X6_114 (by decide) rfl rfl rfl dX6_findPlacings_2 rfl s_40 rfl ?_
  refine vr_aload_n 6 dX6_findPlacings_5 rfl rfl rfl ?_
  refine vr_iconst 7 dX6_findPlacings_6 rfl ⟨by decide, by decide⟩ ?_
  refine vr_puti 10 19 19 cl_X6 fl_X6_117 (by decide) rfl rfl rfl dX6_findPlacings_7 rfl s_40 rfl ?_
  refine vr_aload_n 11 dX6_findPlacings_10 rfl rfl rfl ?_
  refine vr_iconst 12 dX6_findPlacings_11 rfl ⟨by decide, by decide⟩ ?_
  refine vr_puti 15 21 21 cl_X6 fl_X6_120 (by decide) rfl rfl rfl dX6_findPlacings_12 rfl s_40 rfl ?_
  refine vr_aload_n 16 dX6_findPlacings_15 rfl rfl rfl ?_
  refine vr_geti 19 2 2 cl_X6 fl_X6_81 (by decide) rfl dX6_findPlacings_16 rfl s_40 rfl ?_
  refine vr_aload_n 20 dX6_findPlacings_19 rfl rfl rfl ?_
  refine vr_geti 23 10 10 cl_X6 fl_X6_88 (by decide) rfl dX6_findPlacings_20 rfl s_40 rfl ?_
  refine vr_icmp_lt 30 26 dX6_findPlacings_23 rfl rfl (fun c => ?_) (fun c => ?_)
  · replace h := h.1 c
    refine vr_iconst 31 dX6_findPlacings_30 rfl ⟨by decide, by decide⟩ ?_
    refine vr_istore_n 32 [some (.inr (some 40)), some (.inl 0), none, none, none, none, none] dX6_findPlacings_31 rfl rfl (by decide) rfl ?_
    refine vr_iconst 33 dX6_findPlacings_32 rfl ⟨by decide, by decide⟩ ?_
    refine vr_istore_n 34 [some (.inr (some 40)), some (.inl 0), some (.inl 0), none, none, none, none] dX6_findPlacings_33 rfl rfl (by decide) rfl ?_
    exact h
  · replace h := h.2 c
    refine vr_iconst 27 dX6_findPlacings_26 rfl ⟨by decide, by decide⟩ ?_
    refine vr_goto 31 dX6_findPlacings_27 rfl ?_
    refine vr_istore_n 32 [some (.inr (some 40)), some (.inl 1), none, none, none, none, none] dX6_findPlacings_31 rfl rfl (by decide) rfl ?_
    refine vr_iconst 33 dX6_findPlacings_32 rfl ⟨by decide, by decide⟩ ?_
    refine vr_istore_n 34 [some (.inr (some 40)), some (.inl 1), some (.inl 0), none, none, none, none] dX6_findPlacings_33 rfl rfl (by decide) rfl ?_
    exact h
theorem kX6_findPlacings {l : Launch} {d : Nat} {Q : vx_M → Prop} (g : vx_M) (h : (((g 40 2) < (g 40 10) → vN l mX6_findPlacings (d + 1) (vx_pv SH Q) SH (vx_u (vx_u (vx_u g 40 18 0) 40 19 (-1)) 40 21 (-1)) 34 [some (.inr (some 40)), some (.inl 0), some (.inl 0), none, none, none, none] []) ∧ (¬ (g 40 2) < (g 40 10) → vN l mX6_findPlacings (d + 1) (vx_pv SH Q) SH (vx_u (vx_u (vx_u g 40 18 0) 40 19 (-1)) 40 21 (-1)) 34 [some (.inr (some 40)), some (.inl 1), some (.inl 0), none, none, none, none] []))) : vNv l mX6_findPlacings (d + 1) [.inr (some 40)] SH g Q := vNv_of [some (.inr (some 40)), none, none, none, none, none, none] pn_X6 (Nat.le_of_ble_eq_true rfl) rfl (tX6_findPlacings_0 g  h)
set_option maxRecDepth 100000 in
theorem tX6_findPlacings_34 {l : Launch} {d : Nat} {Q : vx_M → Prop} (g : vx_M) (v1 v2 : Int) (h : (((g 40 10) ≤ v2 → vN l mX6_findPlacings (d + 1) (vx_pv SH Q) SH g 55 [some (.inr (some 40)), some (.inl v1), some (.inl v2), none, none, none, none] []) ∧ (¬ (g 40 10) ≤ v2 → (0 ≤ v2 ∧ v2 < 12) ∧ vx_in (v2 + 1) ∧ vN l mX6_findPlacings (d + 1) (vx_pv SH Q) SH (vx_u g 52 v2 v2) 34 [some (.inr (some 40)), some (.inl v1), some (.inl (v2 + 1)), none, none, none, none] []))) : vN l mX6_findPlacings (d + 1) (vx_pv SH Q) SH g 34 [some (.inr (some 40)), some (.inl v1), some (.inl v2), none, none, none, none] [] := by
  refine vr_iload_n 35 dX6_findPlacings_34 rfl rfl rfl ?_
  refine vr_aload_n 36 dX6_findPlacings_35 rfl rfl rfl ?_
  refine vr_geti 39 10 10 cl_X6 fl_X6_88 (by decide) rfl dX6_findPlacings_36 rfl s_40 rfl ?_
  refine vr_icmp_ge 55 42 dX6_findPlacings_39 rfl rfl (fun c => ?_) (fun c => ?_)
  · replace h := h.1 c
    exact h
  · replace h := h.2 c
    refine vr_aload_n 43 dX6_findPlacings_42 rfl rfl rfl ?_
    refine vr_getr 46 16 cl_X6 fl_X6_51 (by decide) dX6_findPlacings_43 rfl s_40 rfl ?_
    refine vr_iload_n 47 dX6_findPlacings_46 rfl rfl rfl ?_
    refine vr_iload_n 48 dX6_findPlacings_47 rfl rfl rfl ?_
    obtain ⟨o1, h⟩ := h
    refine vr_iast 49 dX6_findPlacings_48 rfl s_52 o1.1 o1.2 ?_
    obtain ⟨o2, h⟩ := h
    refine vr_iinc 52 [some (.inr (some 40)), some (.inl v1), some (.inl (v2 + 1)), none, none, none, none] dX6_findPlacings_49 rfl rfl o2 (by decide) rfl ?_
    refine vr_goto 34 dX6_findPlacings_52 rfl ?_
    exact h
set_option maxRecDepth 100000 in
theorem tX6_findPlacings_55 {l : Launch} {d : Nat} {Q : vx_M → Prop} (g : vx_M) (v1 v2 : Int) (h : ((v1 = 0 → Q g) ∧ (¬ v1 = 0 → (∃ Q1 : Int → vx_M → Prop, vNi l mX6_fitsSo d [.inr (some 40)] SH g Q1 ∧ ∀ (r1 : Int) (g1 : vx_M), Q1 r1 g1 → ((r1 = (-1) → (∃ Q2 : Int → vx_M → Prop, vNi l mX6_hasNext d [.inr (some 40)] SH g1 Q2 ∧ ∀ (r2 : Int) (g2 : vx_M), Q2 r2 g2 → vN l mX6_findPlacings (d + 1) (vx_pv SH Q) SH g2 55 [some (.inr (some 40)), some (.inl r2), some (.inl r1), none, none, none, none] [])) ∧ (¬ r1 = (-1) → vx_in ((g1 40 18) + 1) ∧ vN l mX6_findPlacings (d + 1) (vx_pv SH Q) SH (vx_u g1 40 18 ((g1 40 18) + 1)) 84 [some (.inr (some 40)), some (.inl v1), some (.inl r1), some (.inl 0), some (.inl 0), none, none] [])))))) : vN l mX6_findPlacings (d + 1) (vx_pv SH Q) SH g 55 [some (.inr (some 40)), some (.inl v1), some (.inl v2), none, none, none, none] [] := by
  refine vr_iload_n 56 dX6_findPlacings_55 rfl rfl rfl ?_
  refine vr_if_eq 328 59 dX6_findPlacings_56 rfl rfl (fun c => ?_) (fun c => ?_)
  · replace h := h.1 c
    exact vr_vret rfl (Nat.le_refl _) (Nat.le_refl _) dX6_findPlacings_328 ⟨rfl, rfl, h⟩
  · replace h := h.2 c
    refine vr_aload_n 60 dX6_findPlacings_59 rfl rfl rfl ?_
    obtain ⟨Q1, hq, h⟩ := h
    refine vr_callVi 63 [] 40 [] dX6_findPlacings_60 rfl mc_X6_123 dn_X6_fitsSo rfl rfl s_40 rfl (Nat.le_of_ble_eq_true rfl) (vx_rmR (by decide)) ⟨rfl, rfl⟩ ⟨Nat.le_refl _, Nat.le_refl _⟩ (fun _ _ => trivial) (fun _ _ => trivial) hq (fun r1 sh9 g1 hp _ _ => ?_)
    obtain ⟨e9, z9, e8, hp⟩ := hp
    subst e9
    cases e8
    replace h := h r1 g1 hp
    refine vr_istore_n 64 [some (.inr (some 40)), some (.inl v1), some (.inl r1), none, none, none, none] dX6_findPlacings_63 rfl rfl (by decide) rfl ?_
    refine vr_iload_n 65 dX6_findPlacings_64 rfl rfl rfl ?_
    refine vr_iconst 66 dX6_findPlacings_65 rfl ⟨by decide, by decide⟩ ?_
    refine vr_icmp_eq 320 69 dX6_findPlacings_66 rfl rfl (fun c => ?_) (fun c => ?_)
    · replace h := h.1 c
      refine vr_aload_n 321 dX6_findPlacings_320 rfl rfl rfl ?_
      obtain ⟨Q2, hq, h⟩ := h
      refine vr_callVi 324 [] 40 [] dX6_findPlacings_321 rfl mc_X6_129 dn_X6_hasNext rfl rfl s_40 rfl (Nat.le_of_ble_eq_true rfl) (vx_rmR (by decide)) ⟨rfl, rfl⟩ ⟨Nat.le_refl _, Nat.le_refl _⟩ (fun _ _ => trivial) (fun _ _ => trivial) hq (fun r2 sh9 g2 hp _ _ => ?_)
      obtain ⟨e9, z9, e8, hp⟩ := hp
      subst e9
      cases e8
      replace h := h r2 g2 hp
      refine vr_istore_n 325 [some (.inr (some 40)), some (.inl r2), some (.inl r1), none, none, none, none] dX6_findPlacings_324 rfl rfl (by decide) rfl ?_
      refine vr_goto 55 dX6_findPlacings_325 rfl ?_
      exact h
    · replace h := h.2 c
      refine vr_aload_n 70 dX6_findPlacings_69 rfl rfl rfl ?_
      refine vr_dup 71 dX6_findPlacings_70 rfl ?_
      refine vr_geti 74 18 18 cl_X6 fl_X6_114 (by decide) rfl dX6_findPlacings_71 rfl s_40 rfl ?_
      refine vr_iconst 75 dX6_findPlacings_74 rfl ⟨by decide, by decide⟩ ?_
      obtain ⟨o3, h⟩ := h
      refine vr_iadd 76 dX6_findPlacings_75 rfl o3 ?_
      refine vr_puti 79 18 18 cl_X6 fl_X6_114 (by decide) rfl rfl rfl dX6_findPlacings_76 rfl s_40 rfl ?_
      refine vr_iconst 80 dX6_findPlacings_79 rfl ⟨by decide, by decide⟩ ?_
      refine vr_istore_n 81 [some (.inr (some 40)), some (.inl v1), some (.inl r1), some (.inl 0), none, none, none] dX6_findPlacings_80 rfl rfl (by decide) rfl ?_
      refine vr_iconst 82 dX6_findPlacings_81 rfl ⟨by decide, by decide⟩ ?_
      refine vr_istore 84 [some (.inr (some 40)), some (.inl v1), some (.inl r1), some (.inl 0), some (.inl 0), none, none] dX6_findPlacings_82 rfl (by decide) rfl ?_
      exact h
set_option maxRecDepth 100000 in
theorem tX6_findPlacings_84 {l : Launch} {d : Nat} {Q : vx_M → Prop} (g : vx_M) (v1 v2 v3 v4 : Int) (h : (((g 40 10) ≤ v4 → (((g 40 19) = (-1) → vN l mX6_findPlacings (d + 1) (vx_pv SH Q) SH g 147 [some (.inr (some 40)), some (.inl v1), some (.inl v2), some (.inl v3), some (.inl v4), none, none] []) ∧ (¬ (g 40 19) = (-1) → (((g 40 19) ≤ v2 → vN l mX6_findPlacings (d + 1) (vx_pv SH Q) SH g 152 [some (.inr (some 40)), some (.inl v1), some (.inl v2), some (.inl v3), some (.inl v4), none, none] [.inl 0]) ∧ (¬ (g 40 19) ≤ v2 → vN l mX6_findPlacings (d + 1) (vx_pv SH Q) SH g 147 [some (.inr (some 40)), some (.inl v1), some (.inl v2), some (.inl v3), some (.inl v4), none, none] []))))) ∧ (¬ (g 40 10) ≤ v4 → (((g 40 14) = 0 → vx_in (v3 + 1) ∧ vx_in (v4 + 1) ∧ vN l mX6_findPlacings (d + 1) (vx_pv SH Q) SH g 84 [some (.inr (some 40)), some (.inl v1), some (.inl v2), some (.inl (v3 + 1)), some (.inl (v4 + 1)), none, none] []) ∧ (¬ (g 40 14) = 0 → (0 ≤ v4 ∧ v4 < 12) ∧ (0 ≤ v4 ∧ v4 < 12) ∧ (((g 52 v4) = (g 51 v4) → vx_in (v3 + 0) ∧ vx_in (v4 + 1) ∧ vN l mX6_findPlacings (d + 1) (vx_pv SH Q) SH g 84 [some (.inr (some 40)), some (.inl v1), some (.inl v2), some (.inl (v3 + 0)), some (.inl (v4 + 1)), none, none] []) ∧ (¬ (g 52 v4) = (g 51 v4) → vx_in (v3 + 1) ∧ vx_in (v4 + 1) ∧ vN l mX6_findPlacings (d + 1) (vx_pv SH Q) SH g 84 [some (.inr (some 40)), some (.inl v1), some (.inl v2), some (.inl (v3 + 1)), some (.inl (v4 + 1)), none, none] []))))))) : vN l mX6_findPlacings (d + 1) (vx_pv SH Q) SH g 84 [some (.inr (some 40)), some (.inl v1), some (.inl v2), some (.inl v3), some (.inl v4), none, none] [] := by
  refine vr_iload 86 dX6_findPlacings_84 rfl rfl ?_
  refine vr_aload_n 87 dX6_findPlacings_86 rfl rfl rfl ?_
  refine vr_geti 90 10 10 cl_X6 fl_X6_88 (by decide) rfl dX6_findPlacings_87 rfl s_40 rfl ?_
  refine vr_icmp_ge 131 93 dX6_findPlacings_90 rfl rfl (fun c => ?_) (fun c => ?_)
  · replace h := h.1 c
    refine vr_aload_n 132 dX6_findPlacings_131 rfl rfl rfl ?_
    refine vr_geti 135 19 19 cl_X6 fl_X6_117 (by decide) rfl dX6_findPlacings_132 rfl s_40 rfl ?_
    refine vr_iconst 136 dX6_findPlacings_135 rfl ⟨by decide, by decide⟩ ?_
    refine vr_icmp_eq 147 139 dX6_findPlacings_136 rfl rfl (fun c => ?_) (fun c => ?_)
    · replace h := h.1 c
      exact h
    · replace h := h.2 c
      refine vr_iload_n 140 dX6_findPlacings_139 rfl rfl rfl ?_
      refine vr_aload_n 141 dX6_findPlacings_140 rfl rfl rfl ?_
      refine vr_geti 144 19 19 cl_X6 fl_X6_117 (by decide) rfl dX6_findPlacings_141 rfl s_40 rfl ?_
      refine vr_icmp_ge 151 147 dX6_findPlacings_144 rfl rfl (fun c => ?_) (fun c => ?_)
      · replace h := h.1 c
        refine vr_iconst 152 dX6_findPlacings_151 rfl ⟨by decide, by decide⟩ ?_
        exact h
      · replace h := h.2 c
        exact h
  · replace h := h.2 c
    refine vr_iload_n 94 dX6_findPlacings_93 rfl rfl rfl ?_
    refine vr_aload_n 95 dX6_findPlacings_94 rfl rfl rfl ?_
    refine vr_geti 98 14 14 cl_X6 fl_X6_95 (by decide) rfl dX6_findPlacings_95 rfl s_40 rfl ?_
    refine vr_if_eq 118 101 dX6_findPlacings_98 rfl rfl (fun c => ?_) (fun c => ?_)
    · replace h := h.1 c
      refine vr_iconst 119 dX6_findPlacings_118 rfl ⟨by decide, by decide⟩ ?_
      refine vr_goto 123 dX6_findPlacings_119 rfl ?_
      obtain ⟨o1, h⟩ := h
      refine vr_iadd 124 dX6_findPlacings_123 rfl o1 ?_
      refine vr_istore_n 125 [some (.inr (some 40)), some (.inl v1), some (.inl v2), some (.inl (v3 + 1)), some (.inl v4), none, none] dX6_findPlacings_124 rfl rfl (by decide) rfl ?_
      obtain ⟨o2, h⟩ := h
      refine vr_iinc 128 [some (.inr (some 40)), some (.inl v1), some (.inl v2), some (.inl (v3 + 1)), some (.inl (v4 + 1)), none, none] dX6_findPlacings_125 rfl rfl o2 (by decide) rfl ?_
      refine vr_goto 84 dX6_findPlacings_128 rfl ?_
      exact h
    · replace h := h.2 c
      refine vr_aload_n 102 dX6_findPlacings_101 rfl rfl rfl ?_
      refine vr_getr 105 16 cl_X6 fl_X6_51 (by decide) dX6_findPlacings_102 rfl s_40 rfl ?_
      refine vr_iload 107 dX6_findPlacings_105 rfl rfl ?_
      obtain ⟨o3, h⟩ := h
      refine vr_iald 108 dX6_findPlacings_107 rfl s_52 o3.1 o3.2 ?_
      refine vr_aload_n 109 dX6_findPlacings_108 rfl rfl rfl ?_
      refine vr_getr 112 15 cl_X6 fl_X6_48 (by decide) dX6_findPlacings_109 rfl s_40 rfl ?_
      refine vr_iload 114 dX6_findPlacings_112 rfl rfl ?_
      obtain ⟨o4, h⟩ := h
      refine vr_iald 115 dX6_findPlacings_114 rfl s_51 o4.1 o4.2 ?_
      refine vr_icmp_eq 122 118 dX6_findPlacings_115 rfl rfl (fun c => ?_) (fun c => ?_)
      · replace h := h.1 c
        refine vr_iconst 123 dX6_findPlacings_122 rfl ⟨by decide, by decide⟩ ?_
        obtain ⟨o5, h⟩ := h
        refine vr_iadd 124 dX6_findPlacings_123 rfl o5 ?_
        refine vr_istore_n 125 [some (.inr (some 40)), some (.inl v1), some (.inl v2), some (.inl (v3 + 0)), some (.inl v4), none, none] dX6_findPlacings_124 rfl rfl (by decide) rfl ?_
        obtain ⟨o6, h⟩ := h
        refine vr_iinc 128 [some (.inr (some 40)), some (.inl v1), some (.inl v2), some (.inl (v3 + 0)), some (.inl (v4 + 1)), none, none] dX6_findPlacings_125 rfl rfl o6 (by decide) rfl ?_
        refine vr_goto 84 dX6_findPlacings_128 rfl ?_
        exact h
      · replace h := h.2 c
        refine vr_iconst 119 dX6_findPlacings_118 rfl ⟨by decide, by decide⟩ ?_
        refine vr_goto 123 dX6_findPlacings_119 rfl ?_
        obtain ⟨o7, h⟩ := h
        refine vr_iadd 124 dX6_findPlacings_123 rfl o7 ?_
        refine vr_istore_n 125 [some (.inr (some 40)), some (.inl v1), some (.inl v2), some (.inl (v3 + 1)), some (.inl v4), none, none] dX6_findPlacings_124 rfl rfl (by decide) rfl ?_
        obtain ⟨o8, h⟩ := h
        refine vr_iinc 128 [some (.inr (some 40)), some (.inl v1), some (.inl v2), some (.inl (v3 + 1)), some (.inl (v4 + 1)), none, none] dX6_findPlacings_125 rfl rfl o8 (by decide) rfl ?_
        refine vr_goto 84 dX6_findPlacings_128 rfl ?_
        exact h
set_option maxRecDepth 100000 in
theorem tX6_findPlacings_147 {l : Launch} {d : Nat} {Q : vx_M → Prop} (g : vx_M) (v1 v2 v3 v4 : Int) (h : vN l mX6_findPlacings (d + 1) (vx_pv SH Q) SH g 152 [some (.inr (some 40)), some (.inl v1), some (.inl v2), some (.inl v3), some (.inl v4), none, none] [.inl 1]) : vN l mX6_findPlacings (d + 1) (vx_pv SH Q) SH g 147 [some (.inr (some 40)), some (.inl v1), some (.inl v2), some (.inl v3), some (.inl v4), none, none] [] := by
  refine vr_iconst 148 dX6_findPlacings_147 rfl ⟨by decide, by decide⟩ ?_
  refine vr_goto 152 dX6_findPlacings_148 rfl ?_
  exact h
set_option maxRecDepth 100000 in
theorem tX6_findPlacings_152 {l : Launch} {d : Nat} {Q : vx_M → Prop} (g : vx_M) (v1 v2 v3 v4 w0 : Int) (h : (((g 40 21) = (-1) → vN l mX6_findPlacings (d + 1) (vx_pv SH Q) SH g 196 [some (.inr (some 40)), some (.inl v1), some (.inl v2), some (.inl v3), some (.inl w0), some (.inl 1), some (.inl 0)] []) ∧ (¬ (g 40 21) = (-1) → ((v3 < (g 40 21) → vN l mX6_findPlacings (d + 1) (vx_pv SH Q) SH g 196 [some (.inr (some 40)), some (.inl v1), some (.inl v2), some (.inl v3), some (.inl w0), some (.inl 1), some (.inl 0)] []) ∧ (¬ v3 < (g 40 21) → ((¬ v3 = (g 40 21) → vN l mX6_findPlacings (d + 1) (vx_pv SH Q) SH g 196 [some (.inr (some 40)), some (.inl v1), some (.inl v2), some (.inl v3), some (.inl w0), some (.inl 0), some (.inl 0)] []) ∧ (v3 = (g 40 21) → (((g 40 22) ≤ v2 → vN l mX6_findPlacings (d + 1) (vx_pv SH Q) SH g 196 [some (.inr (some 40)), some (.inl v1), some (.inl v2), some (.inl v3), some (.inl w0), some (.inl 0), some (.inl 0)] []) ∧ (¬ (g 40 22) ≤ v2 → vN l mX6_findPlacings (d + 1) (vx_pv SH Q) SH g 196 [some (.inr (some 40)), some (.inl v1), some (.inl v2), some (.inl v3), some (.inl w0), some (.inl 1), some (.inl 0)] []))))))))) : vN l mX6_findPlacings (d + 1) (vx_pv SH Q) SH g 152 [some (.inr (some 40)), some (.inl v1), some (.inl v2), some (.inl v3), some (.inl v4), none, none] [.inl w0] := by
  refine vr_istore 154 [some (.inr (some 40)), some (.inl v1), some (.inl v2), some (.inl v3), some (.inl w0), none, none] dX6_findPlacings_152 rfl (by decide) rfl ?_
  refine vr_aload_n 155 dX6_findPlacings_154 rfl rfl rfl ?_
  refine vr_geti 158 21 21 cl_X6 fl_X6_120 (by decide) rfl dX6_findPlacings_155 rfl s_40 rfl ?_
  refine vr_iconst 159 dX6_findPlacings_158 rfl ⟨by decide, by decide⟩ ?_
  refine vr_icmp_eq 186 162 dX6_findPlacings_159 rfl rfl (fun c => ?_) (fun c => ?_)
  · replace h := h.1 c
    refine vr_iconst 187 dX6_findPlacings_186 rfl ⟨by decide, by decide⟩ ?_
    refine vr_goto 191 dX6_findPlacings_187 rfl ?_
    refine vr_istore 193 [some (.inr (some 40)), some (.inl v1), some (.inl v2), some (.inl v3), some (.inl w0), some (.inl 1), none] dX6_findPlacings_191 rfl (by decide) rfl ?_
    refine vr_iconst 194 dX6_findPlacings_193 rfl ⟨by decide, by decide⟩ ?_
    refine vr_istore 196 [some (.inr (some 40)), some (.inl v1), some (.inl v2), some (.inl v3), some (.inl w0), some (.inl 1), some (.inl 0)] dX6_findPlacings_194 rfl (by decide) rfl ?_
    exact h
  · replace h := h.2 c
    refine vr_iload_n 163 dX6_findPlacings_162 rfl rfl rfl ?_
    refine vr_aload_n 164 dX6_findPlacings_163 rfl rfl rfl ?_
    refine vr_geti 167 21 21 cl_X6 fl_X6_120 (by decide) rfl dX6_findPlacings_164 rfl s_40 rfl ?_
    refine vr_icmp_lt 186 170 dX6_findPlacings_167 rfl rfl (fun c => ?_) (fun c => ?_)
    · replace h := h.1 c
      refine vr_iconst 187 dX6_findPlacings_186 rfl ⟨by decide, by decide⟩ ?_
      refine vr_goto 191 dX6_findPlacings_187 rfl ?_
      refine vr_istore 193 [some (.inr (some 40)), some (.inl v1), some (.inl v2), some (.inl v3), some (.inl w0), some (.inl 1), none] dX6_findPlacings_191 rfl (by decide) rfl ?_
      refine vr_iconst 194 dX6_findPlacings_193 rfl ⟨by decide, by decide⟩ ?_
      refine vr_istore 196 [some (.inr (some 40)), some (.inl v1), some (.inl v2), some (.inl v3), some (.inl w0), some (.inl 1), some (.inl 0)] dX6_findPlacings_194 rfl (by decide) rfl ?_
      exact h
    · replace h := h.2 c
      refine vr_iload_n 171 dX6_findPlacings_170 rfl rfl rfl ?_
      refine vr_aload_n 172 dX6_findPlacings_171 rfl rfl rfl ?_
      refine vr_geti 175 21 21 cl_X6 fl_X6_120 (by decide) rfl dX6_findPlacings_172 rfl s_40 rfl ?_
      refine vr_icmp_ne 190 178 dX6_findPlacings_175 rfl rfl (fun c => ?_) (fun c => ?_)
      · replace h := h.1 c
        refine vr_iconst 191 dX6_findPlacings_190 rfl ⟨by decide, by decide⟩ ?_
        refine vr_istore 193 [some (.inr (some 40)), some (.inl v1), some (.inl v2), some (.inl v3), some (.inl w0), some (.inl 0), none] dX6_findPlacings_191 rfl (by decide) rfl ?_
        refine vr_iconst 194 dX6_findPlacings_193 rfl ⟨by decide, by decide⟩ ?_
        refine vr_istore 196 [some (.inr (some 40)), some (.inl v1), some (.inl v2), some (.inl v3), some (.inl w0), some (.inl 0), some (.inl 0)] dX6_findPlacings_194 rfl (by decide) rfl ?_
        exact h
      · replace h := h.2 c
        refine vr_iload_n 179 dX6_findPlacings_178 rfl rfl rfl ?_
        refine vr_aload_n 180 dX6_findPlacings_179 rfl rfl rfl ?_
        refine vr_geti 183 22 22 cl_X6 fl_X6_126 (by decide) rfl dX6_findPlacings_180 rfl s_40 rfl ?_
        refine vr_icmp_ge 190 186 dX6_findPlacings_183 rfl rfl (fun c => ?_) (fun c => ?_)
        · replace h := h.1 c
          refine vr_iconst 191 dX6_findPlacings_190 rfl ⟨by decide, by decide⟩ ?_
          refine vr_istore 193 [some (.inr (some 40)), some (.inl v1), some (.inl v2), some (.inl v3), some (.inl w0), some (.inl 0), none] dX6_findPlacings_191 rfl (by decide) rfl ?_
          refine vr_iconst 194 dX6_findPlacings_193 rfl ⟨by decide, by decide⟩ ?_
          refine vr_istore 196 [some (.inr (some 40)), some (.inl v1), some (.inl v2), some (.inl v3), some (.inl w0), some (.inl 0), some (.inl 0)] dX6_findPlacings_194 rfl (by decide) rfl ?_
          exact h
        · replace h := h.2 c
          refine vr_iconst 187 dX6_findPlacings_186 rfl ⟨by decide, by decide⟩ ?_
          refine vr_goto 191 dX6_findPlacings_187 rfl ?_
          refine vr_istore 193 [some (.inr (some 40)), some (.inl v1), some (.inl v2), some (.inl v3), some (.inl w0), some (.inl 1), none] dX6_findPlacings_191 rfl (by decide) rfl ?_
          refine vr_iconst 194 dX6_findPlacings_193 rfl ⟨by decide, by decide⟩ ?_
          refine vr_istore 196 [some (.inr (some 40)), some (.inl v1), some (.inl v2), some (.inl v3), some (.inl w0), some (.inl 1), some (.inl 0)] dX6_findPlacings_194 rfl (by decide) rfl ?_
          exact h
set_option maxRecDepth 100000 in
theorem tX6_findPlacings_196 {l : Launch} {d : Nat} {Q : vx_M → Prop} (g : vx_M) (v1 v2 v3 v4 v5 v6 : Int) (h : (((g 40 10) ≤ v6 → ((v4 = 0 → vN l mX6_findPlacings (d + 1) (vx_pv SH Q) SH g 283 [some (.inr (some 40)), some (.inl v1), some (.inl v2), some (.inl v3), some (.inl v4), some (.inl v5), some (.inl v6)] [.inl (g 40 19), .inr (some 40)]) ∧ (¬ v4 = 0 → vN l mX6_findPlacings (d + 1) (vx_pv SH Q) SH g 283 [some (.inr (some 40)), some (.inl v1), some (.inl v2), some (.inl v3), some (.inl v4), some (.inl v5), some (.inl v6)] [.inl v2, .inr (some 40)]))) ∧ (¬ (g 40 10) ≤ v6 → ((v4 = 0 → (0 ≤ v6 ∧ v6 < 12) ∧ vN l mX6_findPlacings (d + 1) (vx_pv SH Q) SH g 233 [some (.inr (some 40)), some (.inl v1), some (.inl v2), some (.inl v3), some (.inl v4), some (.inl v5), some (.inl v6)] [.inl (g 54 v6), .inl v6, .inr (some 54)]) ∧ (¬ v4 = 0 → (0 ≤ v6 ∧ v6 < 12) ∧ vN l mX6_findPlacings (d + 1) (vx_pv SH Q) SH g 233 [some (.inr (some 40)), some (.inl v1), some (.inl v2), some (.inl v3), some (.inl v4), some (.inl v5), some (.inl v6)] [.inl (g 52 v6), .inl v6, .inr (some 54)]))))) : vN l mX6_findPlacings (d + 1) (vx_pv SH Q) SH g 196 [some (.inr (some 40)), some (.inl v1), some (.inl v2), some (.inl v3), some (.inl v4), some (.inl v5), some (.inl v6)] [] := by
  refine vr_iload 198 dX6_findPlacings_196 rfl rfl ?_
  refine vr_aload_n 199 dX6_findPlacings_198 rfl rfl rfl ?_
  refine vr_geti 202 10 10 cl_X6 fl_X6_88 (by decide) rfl dX6_findPlacings_199 rfl s_40 rfl ?_
  refine vr_icmp_ge 269 205 dX6_findPlacings_202 rfl rfl (fun c => ?_) (fun c => ?_)
  · replace h := h.1 c
    refine vr_aload_n 270 dX6_findPlacings_269 rfl rfl rfl ?_
    refine vr_iload 272 dX6_findPlacings_270 rfl rfl ?_
    refine vr_if_eq 279 275 dX6_findPlacings_272 rfl rfl (fun c => ?_) (fun c => ?_)
    · replace h := h.1 c
      refine vr_aload_n 280 dX6_findPlacings_279 rfl rfl rfl ?_
      refine vr_geti 283 19 19 cl_X6 fl_X6_117 (by decide) rfl dX6_findPlacings_280 rfl s_40 rfl ?_
      exact h
    · replace h := h.2 c
      refine vr_iload_n 276 dX6_findPlacings_275 rfl rfl rfl ?_
      refine vr_goto 283 dX6_findPlacings_276 rfl ?_
      exact h
  · replace h := h.2 c
    refine vr_aload_n 206 dX6_findPlacings_205 rfl rfl rfl ?_
    refine vr_getr 209 20 cl_X6 fl_X6_57 (by decide) dX6_findPlacings_206 rfl s_40 rfl ?_
    refine vr_iload 211 dX6_findPlacings_209 rfl rfl ?_
    refine vr_iload 213 dX6_findPlacings_211 rfl rfl ?_
    refine vr_if_eq 226 216 dX6_findPlacings_213 rfl rfl (fun c => ?_) (fun c => ?_)
    · replace h := h.1 c
      refine vr_aload_n 227 dX6_findPlacings_226 rfl rfl rfl ?_
      refine vr_getr 230 20 cl_X6 fl_X6_57 (by decide) dX6_findPlacings_227 rfl s_40 rfl ?_
      refine vr_iload 232 dX6_findPlacings_230 rfl rfl ?_
      obtain ⟨o1, h⟩ := h
      refine vr_iald 233 dX6_findPlacings_232 rfl s_54 o1.1 o1.2 ?_
      exact h
    · replace h := h.2 c
      refine vr_aload_n 217 dX6_findPlacings_216 rfl rfl rfl ?_
      refine vr_getr 220 16 cl_X6 fl_X6_51 (by decide) dX6_findPlacings_217 rfl s_40 rfl ?_
      refine vr_iload 222 dX6_findPlacings_220 rfl rfl ?_
      obtain ⟨o2, h⟩ := h
      refine vr_iald 223 dX6_findPlacings_222 rfl s_52 o2.1 o2.2 ?_
      refine vr_goto 233 dX6_findPlacings_223 rfl ?_
      exact h
set_option maxRecDepth 100000 in
theorem tX6_findPlacings_283 {l : Launch} {d : Nat} {Q : vx_M → Prop} (g : vx_M) (v1 v2 v3 v4 v5 v6 w0 : Int) (h : ((v5 = 0 → vN l mX6_findPlacings (d + 1) (vx_pv SH Q) SH (vx_u g 40 19 w0) 300 [some (.inr (some 40)), some (.inl v1), some (.inl v2), some (.inl v3), some (.inl v4), some (.inl v5), some (.inl v6)] [.inl (g 40 21), .inr (some 40)]) ∧ (¬ v5 = 0 → vN l mX6_findPlacings (d + 1) (vx_pv SH Q) SH (vx_u g 40 19 w0) 300 [some (.inr (some 40)), some (.inl v1), some (.inl v2), some (.inl v3), some (.inl v4), some (.inl v5), some (.inl v6)] [.inl v3, .inr (some 40)]))) : vN l mX6_findPlacings (d + 1) (vx_pv SH Q) SH g 283 [some (.inr (some 40)), some (.inl v1), some (.inl v2), some (.inl v3), some (.inl v4), some (.inl v5), some (.inl v6)] [.inl w0, .inr (some 40)] := by
  refine vr_puti 286 19 19 cl_X6 fl_X6_117 (by decide) rfl rfl rfl dX6_findPlacings_283 rfl s_40 rfl ?_
  refine vr_aload_n 287 dX6_findPlacings_286 rfl rfl rfl ?_
  refine vr_iload 289 dX6_findPlacings_287 rfl rfl ?_
  refine vr_if_eq 296 292 dX6_findPlacings_289 rfl rfl (fun c => ?_) (fun c => ?_)
  · replace h := h.1 c
    refine vr_aload_n 297 dX6_findPlacings_296 rfl rfl rfl ?_
    refine vr_geti 300 21 21 cl_X6 fl_X6_120 (by decide) rfl dX6_findPlacings_297 rfl s_40 rfl ?_
    exact h
  · replace h := h.2 c
    refine vr_iload_n 293 dX6_findPlacings_292 rfl rfl rfl ?_
    refine vr_goto 300 dX6_findPlacings_293 rfl ?_
    exact h
set_option maxRecDepth 100000 in
theorem tX6_findPlacings_233 {l : Launch} {d : Nat} {Q : vx_M → Prop} (g : vx_M) (v1 v2 v3 v4 v5 v6 w0 w1 : Int) (h : (0 ≤ w1 ∧ w1 < 12) ∧ ((v5 = 0 → (0 ≤ v6 ∧ v6 < 12) ∧ (0 ≤ v6 ∧ v6 < 12) ∧ vx_in (v6 + 1) ∧ vN l mX6_findPlacings (d + 1) (vx_pv SH Q) SH (vx_u (vx_u g 54 w1 w0) 55 v6 (g 55 v6)) 196 [some (.inr (some 40)), some (.inl v1), some (.inl v2), some (.inl v3), some (.inl v4), some (.inl v5), some (.inl (v6 + 1))] []) ∧ (¬ v5 = 0 → (0 ≤ v6 ∧ v6 < 12) ∧ (0 ≤ v6 ∧ v6 < 12) ∧ vx_in (v6 + 1) ∧ vN l mX6_findPlacings (d + 1) (vx_pv SH Q) SH (vx_u (vx_u g 54 w1 w0) 55 v6 (g 52 v6)) 196 [some (.inr (some 40)), some (.inl v1), some (.inl v2), some (.inl v3), some (.inl v4), some (.inl v5), some (.inl (v6 + 1))] []))) : vN l mX6_findPlacings (d + 1) (vx_pv SH Q) SH g 233 [some (.inr (some 40)), some (.inl v1), some (.inl v2), some (.inl v3), some (.inl v4), some (.inl v5), some (.inl v6)] [.inl w0, .inl w1, .inr (some 54)] := by
  obtain ⟨o1, h⟩ := h
  refine vr_iast 234 dX6_findPlacings_233 rfl s_54 o1.1 o1.2 ?_
  refine vr_aload_n 235 dX6_findPlacings_234 rfl rfl rfl ?_
  refine vr_getr 238 23 cl_X6 fl_X6_60 (by decide) dX6_findPlacings_235 rfl s_40 rfl ?_
  refine vr_iload 240 dX6_findPlacings_238 rfl rfl ?_
  refine vr_iload 242 dX6_findPlacings_240 rfl rfl ?_
  refine vr_if_eq 255 245 dX6_findPlacings_242 rfl rfl (fun c => ?_) (fun c => ?_)
  · replace h := h.1 c
    refine vr_aload_n 256 dX6_findPlacings_255 rfl rfl rfl ?_
    refine vr_getr 259 23 cl_X6 fl_X6_60 (by decide) dX6_findPlacings_256 rfl s_40 rfl ?_
    refine vr_iload 261 dX6_findPlacings_259 rfl rfl ?_
    obtain ⟨o2, h⟩ := h
    refine vr_iald 262 dX6_findPlacings_261 rfl s_55 o2.1 o2.2 ?_
    obtain ⟨o3, h⟩ := h
    refine vr_iast 263 dX6_findPlacings_262 rfl s_55 o3.1 o3.2 ?_
    obtain ⟨o4, h⟩ := h
    refine vr_iinc 266 [some (.inr (some 40)), some (.inl v1), some (.inl v2), some (.inl v3), some (.inl v4), some (.inl v5), some (.inl (v6 + 1))] dX6_findPlacings_263 rfl rfl o4 (by decide) rfl ?_
    refine vr_goto 196 dX6_findPlacings_266 rfl ?_
    exact h
  · replace h := h.2 c
    refine vr_aload_n 246 dX6_findPlacings_245 rfl rfl rfl ?_
    refine vr_getr 249 16 cl_X6 fl_X6_51 (by decide) dX6_findPlacings_246 rfl s_40 rfl ?_
    refine vr_iload 251 dX6_findPlacings_249 rfl rfl ?_
    obtain ⟨o5, h⟩ := h
    refine vr_iald 252 dX6_findPlacings_251 rfl s_52 o5.1 o5.2 ?_
    refine vr_goto 262 dX6_findPlacings_252 rfl ?_
    obtain ⟨o6, h⟩ := h
    refine vr_iast 263 dX6_findPlacings_262 rfl s_55 o6.1 o6.2 ?_
    obtain ⟨o7, h⟩ := h
    refine vr_iinc 266 [some (.inr (some 40)), some (.inl v1), some (.inl v2), some (.inl v3), some (.inl v4), some (.inl v5), some (.inl (v6 + 1))] dX6_findPlacings_263 rfl rfl o7 (by decide) rfl ?_
    refine vr_goto 196 dX6_findPlacings_266 rfl ?_
    exact h
set_option maxRecDepth 100000 in
theorem tX6_findPlacings_300 {l : Launch} {d : Nat} {Q : vx_M → Prop} (g : vx_M) (v1 v2 v3 v4 v5 v6 w0 : Int) (h : ((v5 = 0 → (∃ Q1 : Int → vx_M → Prop, vNi l mX6_hasNext d [.inr (some 40)] SH (vx_u (vx_u g 40 21 w0) 40 22 (g 40 22)) Q1 ∧ ∀ (r1 : Int) (g1 : vx_M), Q1 r1 g1 → vN l mX6_findPlacings (d + 1) (vx_pv SH Q) SH g1 55 [some (.inr (some 40)), some (.inl r1), some (.inl v2), none, none, none, none] [])) ∧ (¬ v5 = 0 → (∃ Q2 : Int → vx_M → Prop, vNi l mX6_hasNext d [.inr (some 40)] SH (vx_u (vx_u g 40 21 w0) 40 22 v2) Q2 ∧ ∀ (r2 : Int) (g2 : vx_M), Q2 r2 g2 → vN l mX6_findPlacings (d + 1) (vx_pv SH Q) SH g2 55 [some (.inr (some 40)), some (.inl r2), some (.inl v2), none, none, none, none] [])))) : vN l mX6_findPlacings (d + 1) (vx_pv SH Q) SH g 300 [some (.inr (some 40)), some (.inl v1), some (.inl v2), some (.inl v3), some (.inl v4), some (.inl v5), some (.inl v6)] [.inl w0, .inr (some 40)] := by
  refine vr_puti 303 21 21 cl_X6 fl_X6_120 (by decide) rfl rfl rfl dX6_findPlacings_300 rfl s_40 rfl ?_
  refine vr_aload_n 304 dX6_findPlacings_303 rfl rfl rfl ?_
  refine vr_iload 306 dX6_findPlacings_304 rfl rfl ?_
  refine vr_if_eq 313 309 dX6_findPlacings_306 rfl rfl (fun c => ?_) (fun c => ?_)
  · replace h := h.1 c
    refine vr_aload_n 314 dX6_findPlacings_313 rfl rfl rfl ?_
    refine vr_geti 317 22 22 cl_X6 fl_X6_126 (by decide) rfl dX6_findPlacings_314 rfl s_40 rfl ?_
    refine vr_puti 320 22 22 cl_X6 fl_X6_126 (by decide) rfl rfl rfl dX6_findPlacings_317 rfl s_40 rfl ?_
    refine vr_aload_n 321 dX6_findPlacings_320 rfl rfl rfl ?_
    obtain ⟨Q1, hq, h⟩ := h
    refine vr_callVi 324 [] 40 [] dX6_findPlacings_321 rfl mc_X6_129 dn_X6_hasNext rfl rfl s_40 rfl (Nat.le_of_ble_eq_true rfl) (vx_rmR (by decide)) ⟨rfl, rfl⟩ ⟨Nat.le_refl _, Nat.le_refl _⟩ (fun _ _ => trivial) (fun _ _ => trivial) hq (fun r1 sh9 g1 hp _ _ => ?_)
    obtain ⟨e9, z9, e8, hp⟩ := hp
    subst e9
    cases e8
    replace h := h r1 g1 hp
    refine vr_istore_n 325 [some (.inr (some 40)), some (.inl r1), some (.inl v2), some (.inl v3), some (.inl v4), some (.inl v5), some (.inl v6)] dX6_findPlacings_324 rfl rfl (by decide) rfl ?_
    refine vr_goto 55 dX6_findPlacings_325 rfl ?_
    exact vr_forget [some (.inr (some 40)), some (.inl r1), some (.inl v2), none, none, none, none] (vx_sub.get _ _ ⟨rfl, ⟨rfl, ⟨rfl, trivial⟩⟩⟩) h
  · replace h := h.2 c
    refine vr_iload_n 310 dX6_findPlacings_309 rfl rfl rfl ?_
    refine vr_goto 317 dX6_findPlacings_310 rfl ?_
    refine vr_puti 320 22 22 cl_X6 fl_X6_126 (by decide) rfl rfl rfl dX6_findPlacings_317 rfl s_40 rfl ?_
    refine vr_aload_n 321 dX6_findPlacings_320 rfl rfl rfl ?_
    obtain ⟨Q2, hq, h⟩ := h
    refine vr_callVi 324 [] 40 [] dX6_findPlacings_321 rfl mc_X6_129 dn_X6_hasNext rfl rfl s_40 rfl (Nat.le_of_ble_eq_true rfl) (vx_rmR (by decide)) ⟨rfl, rfl⟩ ⟨Nat.le_refl _, Nat.le_refl _⟩ (fun _ _ => trivial) (fun _ _ => trivial) hq (fun r2 sh9 g2 hp _ _ => ?_)
    obtain ⟨e9, z9, e8, hp⟩ := hp
    subst e9
    cases e8
    replace h := h r2 g2 hp
    refine vr_istore_n 325 [some (.inr (some 40)), some (.inl r2), some (.inl v2), some (.inl v3), some (.inl v4), some (.inl v5), some (.inl v6)] dX6_findPlacings_324 rfl rfl (by decide) rfl ?_
    refine vr_goto 55 dX6_findPlacings_325 rfl ?_
    exact vr_forget [some (.inr (some 40)), some (.inl r2), some (.inl v2), none, none, none, none] (vx_sub.get _ _ ⟨rfl, ⟨rfl, ⟨rfl, trivial⟩⟩⟩) h
set_option maxRecDepth 100000 in
theorem tX6_fits_0 {l : Launch} {d : Nat} {Q : Int → vx_M → Prop} (g : vx_M) (h : (∃ Q1 : vx_M → Prop, vNv l mX6_findPlacings d [.inr (some 40)] SH g Q1 ∧ ∀ g1 : vx_M, Q1 g1 → Q (g1 40 18) g1)) : vN l mX6_fits (d + 1) (vx_pi SH Q) SH g 0 [some (.inr (some 40))] [] := by
  refine vr_aload_n 1 dX6_fits_0 rfl rfl rfl ?_
  obtain ⟨Q1, hq, h⟩ := h
  refine vr_callVv 4 [] 40 [] dX6_fits_1 rfl mc_X6_133 dn_X6_findPlacings rfl rfl s_40 rfl (Nat.le_of_ble_eq_true rfl) (vx_rmR (by decide)) ⟨rfl, rfl⟩ ⟨Nat.le_refl _, Nat.le_refl _⟩ (fun _ _ => trivial) (fun _ _ => trivial) hq (fun sh9 g1 hp _ => ?_)
  obtain ⟨e9, -, hp⟩ := hp
  subst e9
  replace h := h g1 hp
  refine vr_aload_n 5 dX6_fits_4 rfl rfl rfl ?_
  refine vr_geti 8 18 18 cl_X6 fl_X6_114 (by decide) rfl dX6_fits_5 rfl s_40 rfl ?_
  exact vr_iret rfl (Nat.le_refl _) (Nat.le_refl _) dX6_fits_8 ⟨rfl, _, rfl, h⟩
theorem kX6_fits {l : Launch} {d : Nat} {Q : Int → vx_M → Prop} (g : vx_M) (h : (∃ Q1 : vx_M → Prop, vNv l mX6_findPlacings d [.inr (some 40)] SH g Q1 ∧ ∀ g1 : vx_M, Q1 g1 → Q (g1 40 18) g1)) : vNi l mX6_fits (d + 1) [.inr (some 40)] SH g Q := vNi_of [some (.inr (some 40))] pn_X6 (Nat.le_of_ble_eq_true rfl) rfl (tX6_fits_0 g  h)
set_option maxRecDepth 100000 in
theorem tX6_level_0 {l : Launch} {d : Nat} {Q : Int → vx_M → Prop} (g : vx_M) (h : (∃ Q1 : vx_M → Prop, vNv l mX6_findPlacings d [.inr (some 40)] SH g Q1 ∧ ∀ g1 : vx_M, Q1 g1 → Q (g1 40 19) g1)) : vN l mX6_level (d + 1) (vx_pi SH Q) SH g 0 [some (.inr (some 40))] [] := by
  refine vr_aload_n 1 dX6_level_0 rfl rfl rfl ?_
  obtain ⟨Q1, hq, h⟩ := h
  refine vr_callVv 4 [] 40 [] dX6_level_1 rfl mc_X6_133 dn_X6_findPlacings rfl rfl s_40 rfl (Nat.le_of_ble_eq_true rfl) (vx_rmR (by decide)) ⟨rfl, rfl⟩ ⟨Nat.le_refl _, Nat.le_refl _⟩ (fun _ _ => trivial) (fun _ _ => trivial) hq (fun sh9 g1 hp _ => ?_)
  obtain ⟨e9, -, hp⟩ := hp
  subst e9
  replace h := h g1 hp
  refine vr_aload_n 5 dX6_level_4 rfl rfl rfl ?_
  refine vr_geti 8 19 19 cl_X6 fl_X6_117 (by decide) rfl dX6_level_5 rfl s_40 rfl ?_
  exact vr_iret rfl (Nat.le_refl _) (Nat.le_refl _) dX6_level_8 ⟨rfl, _, rfl, h⟩
theorem kX6_level {l : Launch} {d : Nat} {Q : Int → vx_M → Prop} (g : vx_M) (h : (∃ Q1 : vx_M → Prop, vNv l mX6_findPlacings d [.inr (some 40)] SH g Q1 ∧ ∀ g1 : vx_M, Q1 g1 → Q (g1 40 19) g1)) : vNi l mX6_level (d + 1) [.inr (some 40)] SH g Q := vNi_of [some (.inr (some 40))] pn_X6 (Nat.le_of_ble_eq_true rfl) rfl (tX6_level_0 g  h)
set_option maxRecDepth 100000 in
theorem tX6_close_0 {l : Launch} {d : Nat} {Q : Int → vx_M → Prop} (g : vx_M) (h : (∃ Q1 : vx_M → Prop, vNv l mX6_findPlacings d [.inr (some 40)] SH g Q1 ∧ ∀ g1 : vx_M, Q1 g1 → Q (g1 40 21) g1)) : vN l mX6_close (d + 1) (vx_pi SH Q) SH g 0 [some (.inr (some 40))] [] := by
  refine vr_aload_n 1 dX6_close_0 rfl rfl rfl ?_
  obtain ⟨Q1, hq, h⟩ := h
  refine vr_callVv 4 [] 40 [] dX6_close_1 rfl mc_X6_133 dn_X6_findPlacings rfl rfl s_40 rfl (Nat.le_of_ble_eq_true rfl) (vx_rmR (by decide)) ⟨rfl, rfl⟩ ⟨Nat.le_refl _, Nat.le_refl _⟩ (fun _ _ => trivial) (fun _ _ => trivial) hq (fun sh9 g1 hp _ => ?_)
  obtain ⟨e9, -, hp⟩ := hp
  subst e9
  replace h := h g1 hp
  refine vr_aload_n 5 dX6_close_4 rfl rfl rfl ?_
  refine vr_geti 8 21 21 cl_X6 fl_X6_120 (by decide) rfl dX6_close_5 rfl s_40 rfl ?_
  exact vr_iret rfl (Nat.le_refl _) (Nat.le_refl _) dX6_close_8 ⟨rfl, _, rfl, h⟩
theorem kX6_close {l : Launch} {d : Nat} {Q : Int → vx_M → Prop} (g : vx_M) (h : (∃ Q1 : vx_M → Prop, vNv l mX6_findPlacings d [.inr (some 40)] SH g Q1 ∧ ∀ g1 : vx_M, Q1 g1 → Q (g1 40 21) g1)) : vNi l mX6_close (d + 1) [.inr (some 40)] SH g Q := vNi_of [some (.inr (some 40))] pn_X6 (Nat.le_of_ble_eq_true rfl) rfl (tX6_close_0 g  h)
set_option maxRecDepth 100000 in
theorem tX6_take_0 {l : Launch} {d : Nat} {Q : Int → vx_M → Prop} (g : vx_M) (v1 : Int) (h : (∃ Q1 : Int → vx_M → Prop, vNi l mX6_in d [.inl v1, .inl 0, .inl 1] SH g Q1 ∧ ∀ (r1 : Int) (g1 : vx_M), Q1 r1 g1 → ((¬ r1 = 0 → (∃ Q2 : vx_M → Prop, vNv l mX6_findPlacings d [.inr (some 40)] SH g1 Q2 ∧ ∀ g2 : vx_M, Q2 g2 → ((¬ (g2 40 18) = 0 → vN l mX6_take (d + 1) (vx_pi SH Q) SH g2 28 [some (.inr (some 40)), some (.inl v1), some (.inl 0)] []) ∧ ((g2 40 18) = 0 → Q (-4) g2)))) ∧ (r1 = 0 → Q (-3) g1)))) : vN l mX6_take (d + 1) (vx_pi SH Q) SH g 0 [some (.inr (some 40)), some (.inl v1), none] [] := by
  refine vr_iload_n 1 dX6_take_0 rfl rfl rfl ?_
  refine vr_iconst 2 dX6_take_1 rfl ⟨by decide, by decide⟩ ?_
  refine vr_iconst 3 dX6_take_2 rfl ⟨by decide, by decide⟩ ?_
  obtain ⟨Q1, hq, h⟩ := h
  refine vr_callSi 6 [.inl v1, .inl 0, .inl 1] [] dX6_take_3 rfl mc_X6_84 dn_X6_in rfl rfl (Nat.le_of_ble_eq_true rfl) (vx_rmR (by decide)) ⟨rfl, rfl⟩ ⟨Nat.le_refl _, Nat.le_refl _⟩ (fun _ _ => trivial) (fun _ _ => trivial) hq (fun r1 sh9 g1 hp _ _ => ?_)
  obtain ⟨e9, z9, e8, hp⟩ := hp
  subst e9
  cases e8
  replace h := h r1 g1 hp
  refine vr_if_ne 12 9 dX6_take_6 rfl rfl (fun c => ?_) (fun c => ?_)
  · replace h := h.1 c
    refine vr_aload_n 13 dX6_take_12 rfl rfl rfl ?_
    obtain ⟨Q2, hq, h⟩ := h
    refine vr_callVv 16 [] 40 [] dX6_take_13 rfl mc_X6_133 dn_X6_findPlacings rfl rfl s_40 rfl (Nat.le_of_ble_eq_true rfl) (vx_rmR (by decide)) ⟨rfl, rfl⟩ ⟨Nat.le_refl _, Nat.le_refl _⟩ (fun _ _ => trivial) (fun _ _ => trivial) hq (fun sh9 g2 hp _ => ?_)
    obtain ⟨e9, -, hp⟩ := hp
    subst e9
    replace h := h g2 hp
    refine vr_aload_n 17 dX6_take_16 rfl rfl rfl ?_
    refine vr_geti 20 18 18 cl_X6 fl_X6_114 (by decide) rfl dX6_take_17 rfl s_40 rfl ?_
    refine vr_if_ne 26 23 dX6_take_20 rfl rfl (fun c => ?_) (fun c => ?_)
    · replace h := h.1 c
      refine vr_iconst 27 dX6_take_26 rfl ⟨by decide, by decide⟩ ?_
      refine vr_istore_n 28 [some (.inr (some 40)), some (.inl v1), some (.inl 0)] dX6_take_27 rfl rfl (by decide) rfl ?_
      exact h
    · replace h := h.2 c
      refine vr_bipush 25 dX6_take_23 rfl (by decide) ⟨by decide, by decide⟩ ?_
      exact vr_iret rfl (Nat.le_refl _) (Nat.le_refl _) dX6_take_25 ⟨rfl, _, rfl, h⟩
  · replace h := h.2 c
    refine vr_bipush 11 dX6_take_9 rfl (by decide) ⟨by decide, by decide⟩ ?_
    exact vr_iret rfl (Nat.le_refl _) (Nat.le_refl _) dX6_take_11 ⟨rfl, _, rfl, h⟩
theorem kX6_take {l : Launch} {d : Nat} {Q : Int → vx_M → Prop} (g : vx_M) (v1 : Int) (h : (∃ Q1 : Int → vx_M → Prop, vNi l mX6_in d [.inl v1, .inl 0, .inl 1] SH g Q1 ∧ ∀ (r1 : Int) (g1 : vx_M), Q1 r1 g1 → ((¬ r1 = 0 → (∃ Q2 : vx_M → Prop, vNv l mX6_findPlacings d [.inr (some 40)] SH g1 Q2 ∧ ∀ g2 : vx_M, Q2 g2 → ((¬ (g2 40 18) = 0 → vN l mX6_take (d + 1) (vx_pi SH Q) SH g2 28 [some (.inr (some 40)), some (.inl v1), some (.inl 0)] []) ∧ ((g2 40 18) = 0 → Q (-4) g2)))) ∧ (r1 = 0 → Q (-3) g1)))) : vNi l mX6_take (d + 1) [.inr (some 40), .inl v1] SH g Q := vNi_of [some (.inr (some 40)), some (.inl v1), none] pn_X6 (Nat.le_of_ble_eq_true rfl) rfl (tX6_take_0 g v1 h)
set_option maxRecDepth 100000 in
theorem tX6_take_28 {l : Launch} {d : Nat} {Q : Int → vx_M → Prop} (g : vx_M) (v1 v2 : Int) (h : (((g 40 10) ≤ v2 → ((¬ v1 = 0 → Q (g 40 22) (vx_u g 40 14 1)) ∧ (v1 = 0 → Q (g 40 19) (vx_u g 40 14 1)))) ∧ (¬ (g 40 10) ≤ v2 → ((¬ v1 = 0 → (0 ≤ v2 ∧ v2 < 12) ∧ (0 ≤ v2 ∧ v2 < 12) ∧ vx_in (v2 + 1) ∧ vN l mX6_take (d + 1) (vx_pi SH Q) SH (vx_u g 51 v2 (g 55 v2)) 28 [some (.inr (some 40)), some (.inl v1), some (.inl (v2 + 1))] []) ∧ (v1 = 0 → (0 ≤ v2 ∧ v2 < 12) ∧ (0 ≤ v2 ∧ v2 < 12) ∧ vx_in (v2 + 1) ∧ vN l mX6_take (d + 1) (vx_pi SH Q) SH (vx_u g 51 v2 (g 54 v2)) 28 [some (.inr (some 40)), some (.inl v1), some (.inl (v2 + 1))] []))))) : vN l mX6_take (d + 1) (vx_pi SH Q) SH g 28 [some (.inr (some 40)), some (.inl v1), some (.inl v2)] [] := by
  refine vr_iload_n 29 dX6_take_28 rfl rfl rfl ?_
  refine vr_aload_n 30 dX6_take_29 rfl rfl rfl ?_
  refine vr_geti 33 10 10 cl_X6 fl_X6_88 (by decide) rfl dX6_take_30 rfl s_40 rfl ?_
  refine vr_icmp_ge 67 36 dX6_take_33 rfl rfl (fun c => ?_) (fun c => ?_)
  · replace h := h.1 c
    refine vr_aload_n 68 dX6_take_67 rfl rfl rfl ?_
    refine vr_iconst 69 dX6_take_68 rfl ⟨by decide, by decide⟩ ?_
    refine vr_putz 72 14 14 cl_X6 fl_X6_95 (by decide) rfl rfl rfl (by decide) dX6_take_69 rfl s_40 rfl ?_
    refine vr_iload_n 73 dX6_take_72 rfl rfl rfl ?_
    refine vr_if_ne 83 76 dX6_take_73 rfl rfl (fun c => ?_) (fun c => ?_)
    · replace h := h.1 c
      refine vr_aload_n 84 dX6_take_83 rfl rfl rfl ?_
      refine vr_geti 87 22 22 cl_X6 fl_X6_126 (by decide) rfl dX6_take_84 rfl s_40 rfl ?_
      exact vr_iret rfl (Nat.le_refl _) (Nat.le_refl _) dX6_take_87 ⟨rfl, _, rfl, h⟩
    · replace h := h.2 c
      refine vr_aload_n 77 dX6_take_76 rfl rfl rfl ?_
      refine vr_geti 80 19 19 cl_X6 fl_X6_117 (by decide) rfl dX6_take_77 rfl s_40 rfl ?_
      refine vr_goto 87 dX6_take_80 rfl ?_
      exact vr_iret rfl (Nat.le_refl _) (Nat.le_refl _) dX6_take_87 ⟨rfl, _, rfl, h⟩
  · replace h := h.2 c
    refine vr_aload_n 37 dX6_take_36 rfl rfl rfl ?_
    refine vr_getr 40 15 cl_X6 fl_X6_48 (by decide) dX6_take_37 rfl s_40 rfl ?_
    refine vr_iload_n 41 dX6_take_40 rfl rfl rfl ?_
    refine vr_iload_n 42 dX6_take_41 rfl rfl rfl ?_
    refine vr_if_ne 54 45 dX6_take_42 rfl rfl (fun c => ?_) (fun c => ?_)
    · replace h := h.1 c
      refine vr_aload_n 55 dX6_take_54 rfl rfl rfl ?_
      refine vr_getr 58 23 cl_X6 fl_X6_60 (by decide) dX6_take_55 rfl s_40 rfl ?_
      refine vr_iload_n 59 dX6_take_58 rfl rfl rfl ?_
      obtain ⟨o1, h⟩ := h
      refine vr_iald 60 dX6_take_59 rfl s_55 o1.1 o1.2 ?_
      obtain ⟨o2, h⟩ := h
      refine vr_iast 61 dX6_take_60 rfl s_51 o2.1 o2.2 ?_
      obtain ⟨o3, h⟩ := h
      refine vr_iinc 64 [some (.inr (some 40)), some (.inl v1), some (.inl (v2 + 1))] dX6_take_61 rfl rfl o3 (by decide) rfl ?_
      refine vr_goto 28 dX6_take_64 rfl ?_
      exact h
    · replace h := h.2 c
      refine vr_aload_n 46 dX6_take_45 rfl rfl rfl ?_
      refine vr_getr 49 20 cl_X6 fl_X6_57 (by decide) dX6_take_46 rfl s_40 rfl ?_
      refine vr_iload_n 50 dX6_take_49 rfl rfl rfl ?_
      obtain ⟨o4, h⟩ := h
      refine vr_iald 51 dX6_take_50 rfl s_54 o4.1 o4.2 ?_
      refine vr_goto 60 dX6_take_51 rfl ?_
      obtain ⟨o5, h⟩ := h
      refine vr_iast 61 dX6_take_60 rfl s_51 o5.1 o5.2 ?_
      obtain ⟨o6, h⟩ := h
      refine vr_iinc 64 [some (.inr (some 40)), some (.inl v1), some (.inl (v2 + 1))] dX6_take_61 rfl rfl o6 (by decide) rfl ?_
      refine vr_goto 28 dX6_take_64 rfl ?_
      exact h
set_option maxRecDepth 100000 in
theorem tX6_at_0 {l : Launch} {d : Nat} {Q : Int → vx_M → Prop} (g : vx_M) (v1 : Int) (h : (∃ Q1 : Int → vx_M → Prop, vNi l mX6_isPlace d [.inr (some 40), .inl v1] SH g Q1 ∧ ∀ (r1 : Int) (g1 : vx_M), Q1 r1 g1 → ((¬ r1 = 0 → (((g1 40 14) = 0 → Q (-4) g1) ∧ (¬ (g1 40 14) = 0 → (0 ≤ v1 ∧ v1 < 12) ∧ Q (g1 51 v1) g1))) ∧ (r1 = 0 → Q (-2) g1)))) : vN l mX6_at (d + 1) (vx_pi SH Q) SH g 0 [some (.inr (some 40)), some (.inl v1)] [] := by
  refine vr_aload_n 1 dX6_at_0 rfl rfl rfl ?_
  refine vr_iload_n 2 dX6_at_1 rfl rfl rfl ?_
  obtain ⟨Q1, hq, h⟩ := h
  refine vr_callVi 5 [.inl v1] 40 [] dX6_at_2 rfl mc_X6_136 dn_X6_isPlace rfl rfl s_40 rfl (Nat.le_of_ble_eq_true rfl) (vx_rmR (by decide)) ⟨rfl, rfl⟩ ⟨Nat.le_refl _, Nat.le_refl _⟩ (fun _ _ => trivial) (fun _ _ => trivial) hq (fun r1 sh9 g1 hp _ _ => ?_)
  obtain ⟨e9, z9, e8, hp⟩ := hp
  subst e9
  cases e8
  replace h := h r1 g1 hp
  refine vr_if_ne 11 8 dX6_at_5 rfl rfl (fun c => ?_) (fun c => ?_)
  · replace h := h.1 c
    refine vr_aload_n 12 dX6_at_11 rfl rfl rfl ?_
    refine vr_geti 15 14 14 cl_X6 fl_X6_95 (by decide) rfl dX6_at_12 rfl s_40 rfl ?_
    refine vr_if_eq 27 18 dX6_at_15 rfl rfl (fun c => ?_) (fun c => ?_)
    · replace h := h.1 c
      refine vr_bipush 29 dX6_at_27 rfl (by decide) ⟨by decide, by decide⟩ ?_
      exact vr_iret rfl (Nat.le_refl _) (Nat.le_refl _) dX6_at_29 ⟨rfl, _, rfl, h⟩
    · replace h := h.2 c
      refine vr_aload_n 19 dX6_at_18 rfl rfl rfl ?_
      refine vr_getr 22 15 cl_X6 fl_X6_48 (by decide) dX6_at_19 rfl s_40 rfl ?_
      refine vr_iload_n 23 dX6_at_22 rfl rfl rfl ?_
      obtain ⟨o2, h⟩ := h
      refine vr_iald 24 dX6_at_23 rfl s_51 o2.1 o2.2 ?_
      refine vr_goto 29 dX6_at_24 rfl ?_
      exact vr_iret rfl (Nat.le_refl _) (Nat.le_refl _) dX6_at_29 ⟨rfl, _, rfl, h⟩
  · replace h := h.2 c
    refine vr_bipush 10 dX6_at_8 rfl (by decide) ⟨by decide, by decide⟩ ?_
    exact vr_iret rfl (Nat.le_refl _) (Nat.le_refl _) dX6_at_10 ⟨rfl, _, rfl, h⟩
theorem kX6_at {l : Launch} {d : Nat} {Q : Int → vx_M → Prop} (g : vx_M) (v1 : Int) (h : (∃ Q1 : Int → vx_M → Prop, vNi l mX6_isPlace d [.inr (some 40), .inl v1] SH g Q1 ∧ ∀ (r1 : Int) (g1 : vx_M), Q1 r1 g1 → ((¬ r1 = 0 → (((g1 40 14) = 0 → Q (-4) g1) ∧ (¬ (g1 40 14) = 0 → (0 ≤ v1 ∧ v1 < 12) ∧ Q (g1 51 v1) g1))) ∧ (r1 = 0 → Q (-2) g1)))) : vNi l mX6_at (d + 1) [.inr (some 40), .inl v1] SH g Q := vNi_of [some (.inr (some 40)), some (.inl v1)] pn_X6 (Nat.le_of_ble_eq_true rfl) rfl (tX6_at_0 g v1 h)
set_option maxRecDepth 100000 in
theorem tX6_useHand_0 {l : Launch} {d : Nat} {Q : vx_M → Prop} (g : vx_M) (h : vN l mX6_useHand d (vx_pv SH Q) SH g 2 [some (.inr (some 40)), some (.inl 0)] []) : vN l mX6_useHand d (vx_pv SH Q) SH g 0 [some (.inr (some 40)), none] [] := by
  refine vr_iconst 1 dX6_useHand_0 rfl ⟨by decide, by decide⟩ ?_
  refine vr_istore_n 2 [some (.inr (some 40)), some (.inl 0)] dX6_useHand_1 rfl rfl (by decide) rfl ?_
  exact h
theorem kX6_useHand {l : Launch} {d : Nat} {Q : vx_M → Prop} (g : vx_M) (h : vN l mX6_useHand d (vx_pv SH Q) SH g 2 [some (.inr (some 40)), some (.inl 0)] []) : vNv l mX6_useHand d [.inr (some 40)] SH g Q := vNv_of [some (.inr (some 40)), none] pn_X6 (Nat.le_of_ble_eq_true rfl) rfl (tX6_useHand_0 g  h)
set_option maxRecDepth 100000 in
theorem tX6_useHand_2 {l : Launch} {d : Nat} {Q : vx_M → Prop} (g : vx_M) (v1 : Int) (h : (((g 40 10) ≤ v1 → Q g) ∧ (¬ (g 40 10) ≤ v1 → (0 ≤ v1 ∧ v1 < 12) ∧ (0 ≤ v1 ∧ v1 < 12) ∧ vx_in (v1 + 1) ∧ vN l mX6_useHand d (vx_pv SH Q) SH (vx_u g 52 v1 (g 51 v1)) 2 [some (.inr (some 40)), some (.inl (v1 + 1))] []))) : vN l mX6_useHand d (vx_pv SH Q) SH g 2 [some (.inr (some 40)), some (.inl v1)] [] := by
  refine vr_iload_n 3 dX6_useHand_2 rfl rfl rfl ?_
  refine vr_aload_n 4 dX6_useHand_3 rfl rfl rfl ?_
  refine vr_geti 7 10 10 cl_X6 fl_X6_88 (by decide) rfl dX6_useHand_4 rfl s_40 rfl ?_
  refine vr_icmp_ge 28 10 dX6_useHand_7 rfl rfl (fun c => ?_) (fun c => ?_)
  · replace h := h.1 c
    exact vr_vret rfl (Nat.le_refl _) (Nat.le_refl _) dX6_useHand_28 ⟨rfl, rfl, h⟩
  · replace h := h.2 c
    refine vr_aload_n 11 dX6_useHand_10 rfl rfl rfl ?_
    refine vr_getr 14 16 cl_X6 fl_X6_51 (by decide) dX6_useHand_11 rfl s_40 rfl ?_
    refine vr_iload_n 15 dX6_useHand_14 rfl rfl rfl ?_
    refine vr_aload_n 16 dX6_useHand_15 rfl rfl rfl ?_
    refine vr_getr 19 15 cl_X6 fl_X6_48 (by decide) dX6_useHand_16 rfl s_40 rfl ?_
    refine vr_iload_n 20 dX6_useHand_19 rfl rfl rfl ?_
    obtain ⟨o1, h⟩ := h
    refine vr_iald 21 dX6_useHand_20 rfl s_51 o1.1 o1.2 ?_
    obtain ⟨o2, h⟩ := h
    refine vr_iast 22 dX6_useHand_21 rfl s_52 o2.1 o2.2 ?_
    obtain ⟨o3, h⟩ := h
    refine vr_iinc 25 [some (.inr (some 40)), some (.inl (v1 + 1))] dX6_useHand_22 rfl rfl o3 (by decide) rfl ?_
    refine vr_goto 2 dX6_useHand_25 rfl ?_
    exact h
set_option maxRecDepth 100000 in
theorem tX6_load_0 {l : Launch} {d : Nat} {Q : Int → vx_M → Prop} (g : vx_M) (v1 : Int) (h : (∃ Q1 : Int → vx_M → Prop, vNi l mX6_isPlace d [.inr (some 40), .inl v1] SH g Q1 ∧ ∀ (r1 : Int) (g1 : vx_M), Q1 r1 g1 → ((¬ r1 = 0 → ((¬ (g1 40 14) = 0 → (∃ Q2 : vx_M → Prop, vNv l mX6_useHand d [.inr (some 40)] SH g1 Q2 ∧ ∀ g2 : vx_M, Q2 g2 → vx_in ((g2 40 10) - 1) ∧ (∃ Q4 : vx_M → Prop, vNv l mX6_findLoads d [.inr (some 40), .inl ((g2 40 10) - 1)] SH g2 Q4 ∧ ∀ g4 : vx_M, Q4 g4 → (0 ≤ v1 ∧ v1 < 12) ∧ Q (g4 53 v1) g4))) ∧ ((g1 40 14) = 0 → Q (-4) g1))) ∧ (r1 = 0 → Q (-2) g1)))) : vN l mX6_load (d + 1) (vx_pi SH Q) SH g 0 [some (.inr (some 40)), some (.inl v1)] [] := by
  refine vr_aload_n 1 dX6_load_0 rfl rfl rfl ?_
  refine vr_iload_n 2 dX6_load_1 rfl rfl rfl ?_
  obtain ⟨Q1, hq, h⟩ := h
  refine vr_callVi 5 [.inl v1] 40 [] dX6_load_2 rfl mc_X6_136 dn_X6_isPlace rfl rfl s_40 rfl (Nat.le_of_ble_eq_true rfl) (vx_rmR (by decide)) ⟨rfl, rfl⟩ ⟨Nat.le_refl _, Nat.le_refl _⟩ (fun _ _ => trivial) (fun _ _ => trivial) hq (fun r1 sh9 g1 hp _ _ => ?_)
  obtain ⟨e9, z9, e8, hp⟩ := hp
  subst e9
  cases e8
  replace h := h r1 g1 hp
  refine vr_if_ne 11 8 dX6_load_5 rfl rfl (fun c => ?_) (fun c => ?_)
  · replace h := h.1 c
    refine vr_aload_n 12 dX6_load_11 rfl rfl rfl ?_
    refine vr_geti 15 14 14 cl_X6 fl_X6_95 (by decide) rfl dX6_load_12 rfl s_40 rfl ?_
    refine vr_if_ne 21 18 dX6_load_15 rfl rfl (fun c => ?_) (fun c => ?_)
    · replace h := h.1 c
      refine vr_aload_n 22 dX6_load_21 rfl rfl rfl ?_
      obtain ⟨Q2, hq, h⟩ := h
      refine vr_callVv 25 [] 40 [] dX6_load_22 rfl mc_X6_139 dn_X6_useHand rfl rfl s_40 rfl (Nat.le_of_ble_eq_true rfl) (vx_rmR (by decide)) ⟨rfl, rfl⟩ ⟨Nat.le_refl _, Nat.le_refl _⟩ (fun _ _ => trivial) (fun _ _ => trivial) hq (fun sh9 g2 hp _ => ?_)
      obtain ⟨e9, -, hp⟩ := hp
      subst e9
      replace h := h g2 hp
      refine vr_aload_n 26 dX6_load_25 rfl rfl rfl ?_
      refine vr_aload_n 27 dX6_load_26 rfl rfl rfl ?_
      refine vr_geti 30 10 10 cl_X6 fl_X6_88 (by decide) rfl dX6_load_27 rfl s_40 rfl ?_
      refine vr_iconst 31 dX6_load_30 rfl ⟨by decide, by decide⟩ ?_
      obtain ⟨o3, h⟩ := h
      refine vr_isub 32 dX6_load_31 rfl o3 ?_
      obtain ⟨Q4, hq, h⟩ := h
      refine vr_callVv 35 [.inl ((g2 40 10) - 1)] 40 [] dX6_load_32 rfl mc_X6_103 dn_X6_findLoads rfl rfl s_40 rfl (Nat.le_of_ble_eq_true rfl) (vx_rmR (by decide)) ⟨rfl, rfl⟩ ⟨Nat.le_refl _, Nat.le_refl _⟩ (fun _ _ => trivial) (fun _ _ => trivial) hq (fun sh9 g4 hp _ => ?_)
      obtain ⟨e9, -, hp⟩ := hp
      subst e9
      replace h := h g4 hp
      refine vr_aload_n 36 dX6_load_35 rfl rfl rfl ?_
      refine vr_getr 39 17 cl_X6 fl_X6_54 (by decide) dX6_load_36 rfl s_40 rfl ?_
      refine vr_iload_n 40 dX6_load_39 rfl rfl rfl ?_
      obtain ⟨o5, h⟩ := h
      refine vr_iald 41 dX6_load_40 rfl s_53 o5.1 o5.2 ?_
      exact vr_iret rfl (Nat.le_refl _) (Nat.le_refl _) dX6_load_41 ⟨rfl, _, rfl, h⟩
    · replace h := h.2 c
      refine vr_bipush 20 dX6_load_18 rfl (by decide) ⟨by decide, by decide⟩ ?_
      exact vr_iret rfl (Nat.le_refl _) (Nat.le_refl _) dX6_load_20 ⟨rfl, _, rfl, h⟩
  · replace h := h.2 c
    refine vr_bipush 10 dX6_load_8 rfl (by decide) ⟨by decide, by decide⟩ ?_
    exact vr_iret rfl (Nat.le_refl _) (Nat.le_refl _) dX6_load_10 ⟨rfl, _, rfl, h⟩
theorem kX6_load {l : Launch} {d : Nat} {Q : Int → vx_M → Prop} (g : vx_M) (v1 : Int) (h : (∃ Q1 : Int → vx_M → Prop, vNi l mX6_isPlace d [.inr (some 40), .inl v1] SH g Q1 ∧ ∀ (r1 : Int) (g1 : vx_M), Q1 r1 g1 → ((¬ r1 = 0 → ((¬ (g1 40 14) = 0 → (∃ Q2 : vx_M → Prop, vNv l mX6_useHand d [.inr (some 40)] SH g1 Q2 ∧ ∀ g2 : vx_M, Q2 g2 → vx_in ((g2 40 10) - 1) ∧ (∃ Q4 : vx_M → Prop, vNv l mX6_findLoads d [.inr (some 40), .inl ((g2 40 10) - 1)] SH g2 Q4 ∧ ∀ g4 : vx_M, Q4 g4 → (0 ≤ v1 ∧ v1 < 12) ∧ Q (g4 53 v1) g4))) ∧ ((g1 40 14) = 0 → Q (-4) g1))) ∧ (r1 = 0 → Q (-2) g1)))) : vNi l mX6_load (d + 1) [.inr (some 40), .inl v1] SH g Q := vNi_of [some (.inr (some 40)), some (.inl v1)] pn_X6 (Nat.le_of_ble_eq_true rfl) rfl (tX6_load_0 g v1 h)
set_option maxRecDepth 100000 in
theorem tX6_swap_0 {l : Launch} {d : Nat} {Q : Int → vx_M → Prop} (g : vx_M) (v1 v2 : Int) (h : (∃ Q1 : Int → vx_M → Prop, vNi l mX6_isPlace d [.inr (some 40), .inl v1] SH g Q1 ∧ ∀ (r1 : Int) (g1 : vx_M), Q1 r1 g1 → ((r1 = 0 → Q (-2) g1) ∧ (¬ r1 = 0 → (∃ Q2 : Int → vx_M → Prop, vNi l mX6_isPlace d [.inr (some 40), .inl v2] SH g1 Q2 ∧ ∀ (r2 : Int) (g2 : vx_M), Q2 r2 g2 → ((¬ r2 = 0 → ((¬ (g2 40 14) = 0 → (∃ Q3 : vx_M → Prop, vNv l mX6_useHand d [.inr (some 40)] SH g2 Q3 ∧ ∀ g3 : vx_M, Q3 g3 → (0 ≤ v1 ∧ v1 < 12) ∧ (0 ≤ v2 ∧ v2 < 12) ∧ (0 ≤ v1 ∧ v1 < 12) ∧ (0 ≤ v2 ∧ v2 < 12) ∧ (∃ Q8 : Int → vx_M → Prop, vNi l mX6_fitsSo d [.inr (some 40)] SH (vx_u (vx_u g3 52 v1 (g3 52 v2)) 52 v2 (g3 52 v1)) Q8 ∧ ∀ (r8 : Int) (g8 : vx_M), Q8 r8 g8 → ((¬ r8 = (-1) → vN l mX6_swap (d + 1) (vx_pi SH Q) SH g8 73 [some (.inr (some 40)), some (.inl v1), some (.inl v2), some (.inl (g3 52 v1)), some (.inl 0)] []) ∧ (r8 = (-1) → Q (-4) g8))))) ∧ ((g2 40 14) = 0 → Q (-4) g2))) ∧ (r2 = 0 → Q (-2) g2))))))) : vN l mX6_swap (d + 1) (vx_pi SH Q) SH g 0 [some (.inr (some 40)), some (.inl v1), some (.inl v2), none, none] [] := by
  refine vr_aload_n 1 dX6_swap_0 rfl rfl rfl ?_
  refine vr_iload_n 2 dX6_swap_1 rfl rfl rfl ?_
  obtain ⟨Q1, hq, h⟩ := h
  refine vr_callVi 5 [.inl v1] 40 [] dX6_swap_2 rfl mc_X6_136 dn_X6_isPlace rfl rfl s_40 rfl (Nat.le_of_ble_eq_true rfl) (vx_rmR (by decide)) ⟨rfl, rfl⟩ ⟨Nat.le_refl _, Nat.le_refl _⟩ (fun _ _ => trivial) (fun _ _ => trivial) hq (fun r1 sh9 g1 hp _ _ => ?_)
  obtain ⟨e9, z9, e8, hp⟩ := hp
  subst e9
  cases e8
  replace h := h r1 g1 hp
  refine vr_if_eq 16 8 dX6_swap_5 rfl rfl (fun c => ?_) (fun c => ?_)
  · replace h := h.1 c
    refine vr_bipush 18 dX6_swap_16 rfl (by decide) ⟨by decide, by decide⟩ ?_
    exact vr_iret rfl (Nat.le_refl _) (Nat.le_refl _) dX6_swap_18 ⟨rfl, _, rfl, h⟩
  · replace h := h.2 c
    refine vr_aload_n 9 dX6_swap_8 rfl rfl rfl ?_
    refine vr_iload_n 10 dX6_swap_9 rfl rfl rfl ?_
    obtain ⟨Q2, hq, h⟩ := h
    refine vr_callVi 13 [.inl v2] 40 [] dX6_swap_10 rfl mc_X6_136 dn_X6_isPlace rfl rfl s_40 rfl (Nat.le_of_ble_eq_true rfl) (vx_rmR (by decide)) ⟨rfl, rfl⟩ ⟨Nat.le_refl _, Nat.le_refl _⟩ (fun _ _ => trivial) (fun _ _ => trivial) hq (fun r2 sh9 g2 hp _ _ => ?_)
    obtain ⟨e9, z9, e8, hp⟩ := hp
    subst e9
    cases e8
    replace h := h r2 g2 hp
    refine vr_if_ne 19 16 dX6_swap_13 rfl rfl (fun c => ?_) (fun c => ?_)
    · replace h := h.1 c
      refine vr_aload_n 20 dX6_swap_19 rfl rfl rfl ?_
      refine vr_geti 23 14 14 cl_X6 fl_X6_95 (by decide) rfl dX6_swap_20 rfl s_40 rfl ?_
      refine vr_if_ne 29 26 dX6_swap_23 rfl rfl (fun c => ?_) (fun c => ?_)
      · replace h := h.1 c
        refine vr_aload_n 30 dX6_swap_29 rfl rfl rfl ?_
        obtain ⟨Q3, hq, h⟩ := h
        refine vr_callVv 33 [] 40 [] dX6_swap_30 rfl mc_X6_139 dn_X6_useHand rfl rfl s_40 rfl (Nat.le_of_ble_eq_true rfl) (vx_rmR (by decide)) ⟨rfl, rfl⟩ ⟨Nat.le_refl _, Nat.le_refl _⟩ (fun _ _ => trivial) (fun _ _ => trivial) hq (fun sh9 g3 hp _ => ?_)
        obtain ⟨e9, -, hp⟩ := hp
        subst e9
        replace h := h g3 hp
        refine vr_aload_n 34 dX6_swap_33 rfl rfl rfl ?_
        refine vr_getr 37 16 cl_X6 fl_X6_51 (by decide) dX6_swap_34 rfl s_40 rfl ?_
        refine vr_iload_n 38 dX6_swap_37 rfl rfl rfl ?_
        obtain ⟨o4, h⟩ := h
        refine vr_iald 39 dX6_swap_38 rfl s_52 o4.1 o4.2 ?_
        refine vr_istore_n 40 [some (.inr (some 40)), some (.inl v1), some (.inl v2), some (.inl (g3 52 v1)), none] dX6_swap_39 rfl rfl (by decide) rfl ?_
        refine vr_aload_n 41 dX6_swap_40 rfl rfl rfl ?_
        refine vr_getr 44 16 cl_X6 fl_X6_51 (by decide) dX6_swap_41 rfl s_40 rfl ?_
        refine vr_iload_n 45 dX6_swap_44 rfl rfl rfl ?_
        refine vr_aload_n 46 dX6_swap_45 rfl rfl rfl ?_
        refine vr_getr 49 16 cl_X6 fl_X6_51 (by decide) dX6_swap_46 rfl s_40 rfl ?_
        refine vr_iload_n 50 dX6_swap_49 rfl rfl rfl ?_
        obtain ⟨o5, h⟩ := h
        refine vr_iald 51 dX6_swap_50 rfl s_52 o5.1 o5.2 ?_
        obtain ⟨o6, h⟩ := h
        refine vr_iast 52 dX6_swap_51 rfl s_52 o6.1 o6.2 ?_
        refine vr_aload_n 53 dX6_swap_52 rfl rfl rfl ?_
        refine vr_getr 56 16 cl_X6 fl_X6_51 (by decide) dX6_swap_53 rfl s_40 rfl ?_
        refine vr_iload_n 57 dX6_swap_56 rfl rfl rfl ?_
        refine vr_iload_n 58 dX6_swap_57 rfl rfl rfl ?_
        obtain ⟨o7, h⟩ := h
        refine vr_iast 59 dX6_swap_58 rfl s_52 o7.1 o7.2 ?_
        refine vr_aload_n 60 dX6_swap_59 rfl rfl rfl ?_
        obtain ⟨Q8, hq, h⟩ := h
        refine vr_callVi 63 [] 40 [] dX6_swap_60 rfl mc_X6_123 dn_X6_fitsSo rfl rfl s_40 rfl (Nat.le_of_ble_eq_true rfl) (vx_rmR (by decide)) ⟨rfl, rfl⟩ ⟨Nat.le_refl _, Nat.le_refl _⟩ (fun _ _ => trivial) (fun _ _ => trivial) hq (fun r8 sh9 g8 hp _ _ => ?_)
        obtain ⟨e9, z9, e8, hp⟩ := hp
        subst e9
        cases e8
        replace h := h r8 g8 hp
        refine vr_iconst 64 dX6_swap_63 rfl ⟨by decide, by decide⟩ ?_
        refine vr_icmp_ne 70 67 dX6_swap_64 rfl rfl (fun c => ?_) (fun c => ?_)
        · replace h := h.1 c
          refine vr_iconst 71 dX6_swap_70 rfl ⟨by decide, by decide⟩ ?_
          refine vr_istore 73 [some (.inr (some 40)), some (.inl v1), some (.inl v2), some (.inl (g3 52 v1)), some (.inl 0)] dX6_swap_71 rfl (by decide) rfl ?_
          exact h
        · replace h := h.2 c
          refine vr_bipush 69 dX6_swap_67 rfl (by decide) ⟨by decide, by decide⟩ ?_
          exact vr_iret rfl (Nat.le_refl _) (Nat.le_refl _) dX6_swap_69 ⟨rfl, _, rfl, h⟩
      · replace h := h.2 c
        refine vr_bipush 28 dX6_swap_26 rfl (by decide) ⟨by decide, by decide⟩ ?_
        exact vr_iret rfl (Nat.le_refl _) (Nat.le_refl _) dX6_swap_28 ⟨rfl, _, rfl, h⟩
    · replace h := h.2 c
      refine vr_bipush 18 dX6_swap_16 rfl (by decide) ⟨by decide, by decide⟩ ?_
      exact vr_iret rfl (Nat.le_refl _) (Nat.le_refl _) dX6_swap_18 ⟨rfl, _, rfl, h⟩
theorem kX6_swap {l : Launch} {d : Nat} {Q : Int → vx_M → Prop} (g : vx_M) (v1 v2 : Int) (h : (∃ Q1 : Int → vx_M → Prop, vNi l mX6_isPlace d [.inr (some 40), .inl v1] SH g Q1 ∧ ∀ (r1 : Int) (g1 : vx_M), Q1 r1 g1 → ((r1 = 0 → Q (-2) g1) ∧ (¬ r1 = 0 → (∃ Q2 : Int → vx_M → Prop, vNi l mX6_isPlace d [.inr (some 40), .inl v2] SH g1 Q2 ∧ ∀ (r2 : Int) (g2 : vx_M), Q2 r2 g2 → ((¬ r2 = 0 → ((¬ (g2 40 14) = 0 → (∃ Q3 : vx_M → Prop, vNv l mX6_useHand d [.inr (some 40)] SH g2 Q3 ∧ ∀ g3 : vx_M, Q3 g3 → (0 ≤ v1 ∧ v1 < 12) ∧ (0 ≤ v2 ∧ v2 < 12) ∧ (0 ≤ v1 ∧ v1 < 12) ∧ (0 ≤ v2 ∧ v2 < 12) ∧ (∃ Q8 : Int → vx_M → Prop, vNi l mX6_fitsSo d [.inr (some 40)] SH (vx_u (vx_u g3 52 v1 (g3 52 v2)) 52 v2 (g3 52 v1)) Q8 ∧ ∀ (r8 : Int) (g8 : vx_M), Q8 r8 g8 → ((¬ r8 = (-1) → vN l mX6_swap (d + 1) (vx_pi SH Q) SH g8 73 [some (.inr (some 40)), some (.inl v1), some (.inl v2), some (.inl (g3 52 v1)), some (.inl 0)] []) ∧ (r8 = (-1) → Q (-4) g8))))) ∧ ((g2 40 14) = 0 → Q (-4) g2))) ∧ (r2 = 0 → Q (-2) g2))))))) : vNi l mX6_swap (d + 1) [.inr (some 40), .inl v1, .inl v2] SH g Q := vNi_of [some (.inr (some 40)), some (.inl v1), some (.inl v2), none, none] pn_X6 (Nat.le_of_ble_eq_true rfl) rfl (tX6_swap_0 g v1 v2 h)
set_option maxRecDepth 100000 in
theorem tX6_swap_73 {l : Launch} {d : Nat} {Q : Int → vx_M → Prop} (g : vx_M) (v1 v2 v3 v4 : Int) (h : (((g 40 10) ≤ v4 → Q 1 g) ∧ (¬ (g 40 10) ≤ v4 → (0 ≤ v4 ∧ v4 < 12) ∧ (0 ≤ v4 ∧ v4 < 12) ∧ vx_in (v4 + 1) ∧ vN l mX6_swap (d + 1) (vx_pi SH Q) SH (vx_u g 51 v4 (g 52 v4)) 73 [some (.inr (some 40)), some (.inl v1), some (.inl v2), some (.inl v3), some (.inl (v4 + 1))] []))) : vN l mX6_swap (d + 1) (vx_pi SH Q) SH g 73 [some (.inr (some 40)), some (.inl v1), some (.inl v2), some (.inl v3), some (.inl v4)] [] := by
  refine vr_iload 75 dX6_swap_73 rfl rfl ?_
  refine vr_aload_n 76 dX6_swap_75 rfl rfl rfl ?_
  refine vr_geti 79 10 10 cl_X6 fl_X6_88 (by decide) rfl dX6_swap_76 rfl s_40 rfl ?_
  refine vr_icmp_ge 102 82 dX6_swap_79 rfl rfl (fun c => ?_) (fun c => ?_)
  · replace h := h.1 c
    refine vr_iconst 103 dX6_swap_102 rfl ⟨by decide, by decide⟩ ?_
    exact vr_iret rfl (Nat.le_refl _) (Nat.le_refl _) dX6_swap_103 ⟨rfl, _, rfl, h⟩
  · replace h := h.2 c
    refine vr_aload_n 83 dX6_swap_82 rfl rfl rfl ?_
    refine vr_getr 86 15 cl_X6 fl_X6_48 (by decide) dX6_swap_83 rfl s_40 rfl ?_
    refine vr_iload 88 dX6_swap_86 rfl rfl ?_
    refine vr_aload_n 89 dX6_swap_88 rfl rfl rfl ?_
    refine vr_getr 92 16 cl_X6 fl_X6_51 (by decide) dX6_swap_89 rfl s_40 rfl ?_
    refine vr_iload 94 dX6_swap_92 rfl rfl ?_
    obtain ⟨o1, h⟩ := h
    refine vr_iald 95 dX6_swap_94 rfl s_52 o1.1 o1.2 ?_
    obtain ⟨o2, h⟩ := h
    refine vr_iast 96 dX6_swap_95 rfl s_51 o2.1 o2.2 ?_
    obtain ⟨o3, h⟩ := h
    refine vr_iinc 99 [some (.inr (some 40)), some (.inl v1), some (.inl v2), some (.inl v3), some (.inl (v4 + 1))] dX6_swap_96 rfl rfl o3 (by decide) rfl ?_
    refine vr_goto 73 dX6_swap_99 rfl ?_
    exact h
set_option maxRecDepth 100000 in
theorem tX6_findTimes_0 {l : Launch} {d : Nat} {Q : Int → vx_M → Prop} (g : vx_M) (h : vN l mX6_findTimes d (vx_pi SH Q) SH g 4 [some (.inr (some 40)), some (.inl 0), some (.inl 0), none] []) : vN l mX6_findTimes d (vx_pi SH Q) SH g 0 [some (.inr (some 40)), none, none, none] [] := by
  refine vr_iconst 1 dX6_findTimes_0 rfl ⟨by decide, by decide⟩ ?_
  refine vr_istore_n 2 [some (.inr (some 40)), some (.inl 0), none, none] dX6_findTimes_1 rfl rfl (by decide) rfl ?_
  refine vr_iconst 3 dX6_findTimes_2 rfl ⟨by decide, by decide⟩ ?_
  refine vr_istore_n 4 [some (.inr (some 40)), some (.inl 0), some (.inl 0), none] dX6_findTimes_3 rfl rfl (by decide) rfl ?_
  exact h
theorem kX6_findTimes {l : Launch} {d : Nat} {Q : Int → vx_M → Prop} (g : vx_M) (h : vN l mX6_findTimes d (vx_pi SH Q) SH g 4 [some (.inr (some 40)), some (.inl 0), some (.inl 0), none] []) : vNi l mX6_findTimes d [.inr (some 40)] SH g Q := vNi_of [some (.inr (some 40)), none, none, none] pn_X6 (Nat.le_of_ble_eq_true rfl) rfl (tX6_findTimes_0 g  h)
set_option maxRecDepth 100000 in
theorem tX6_findTimes_4 {l : Launch} {d : Nat} {Q : Int → vx_M → Prop} (g : vx_M) (v1 v2 : Int) (h : (((g 40 10) ≤ v2 → vx_in ((g 40 10) - 1) ∧ vN l mX6_findTimes d (vx_pi SH Q) SH g 45 [some (.inr (some 40)), some (.inl v1), some (.inl v1), some (.inl ((g 40 10) - 1))] []) ∧ (¬ (g 40 10) ≤ v2 → (0 ≤ v2 ∧ v2 < 12) ∧ vx_in (2 + (g 48 v2)) ∧ vx_in (v1 + (2 + (g 48 v2))) ∧ (0 ≤ v2 ∧ v2 < 12) ∧ vx_in (v2 + 1) ∧ vN l mX6_findTimes d (vx_pi SH Q) SH (vx_u g 56 v2 (v1 + (2 + (g 48 v2)))) 4 [some (.inr (some 40)), some (.inl (v1 + (2 + (g 48 v2)))), some (.inl (v2 + 1)), none] []))) : vN l mX6_findTimes d (vx_pi SH Q) SH g 4 [some (.inr (some 40)), some (.inl v1), some (.inl v2), none] [] := by
  refine vr_iload_n 5 dX6_findTimes_4 rfl rfl rfl ?_
  refine vr_aload_n 6 dX6_findTimes_5 rfl rfl rfl ?_
  refine vr_geti 9 10 10 cl_X6 fl_X6_88 (by decide) rfl dX6_findTimes_6 rfl s_40 rfl ?_
  refine vr_icmp_ge 36 12 dX6_findTimes_9 rfl rfl (fun c => ?_) (fun c => ?_)
  · replace h := h.1 c
    refine vr_iload_n 37 dX6_findTimes_36 rfl rfl rfl ?_
    refine vr_istore_n 38 [some (.inr (some 40)), some (.inl v1), some (.inl v1), none] dX6_findTimes_37 rfl rfl (by decide) rfl ?_
    refine vr_aload_n 39 dX6_findTimes_38 rfl rfl rfl ?_
    refine vr_geti 42 10 10 cl_X6 fl_X6_88 (by decide) rfl dX6_findTimes_39 rfl s_40 rfl ?_
    refine vr_iconst 43 dX6_findTimes_42 rfl ⟨by decide, by decide⟩ ?_
    obtain ⟨o1, h⟩ := h
    refine vr_isub 44 dX6_findTimes_43 rfl o1 ?_
    refine vr_istore_n 45 [some (.inr (some 40)), some (.inl v1), some (.inl v1), some (.inl ((g 40 10) - 1))] dX6_findTimes_44 rfl rfl (by decide) rfl ?_
    exact h
  · replace h := h.2 c
    refine vr_iload_n 13 dX6_findTimes_12 rfl rfl rfl ?_
    refine vr_iconst 14 dX6_findTimes_13 rfl ⟨by decide, by decide⟩ ?_
    refine vr_aload_n 15 dX6_findTimes_14 rfl rfl rfl ?_
    refine vr_getr 18 11 cl_X6 fl_X6_39 (by decide) dX6_findTimes_15 rfl s_40 rfl ?_
    refine vr_iload_n 19 dX6_findTimes_18 rfl rfl rfl ?_
    obtain ⟨o2, h⟩ := h
    refine vr_iald 20 dX6_findTimes_19 rfl s_48 o2.1 o2.2 ?_
    obtain ⟨o3, h⟩ := h
    refine vr_iadd 21 dX6_findTimes_20 rfl o3 ?_
    obtain ⟨o4, h⟩ := h
    refine vr_iadd 22 dX6_findTimes_21 rfl o4 ?_
    refine vr_istore_n 23 [some (.inr (some 40)), some (.inl (v1 + (2 + (g 48 v2)))), some (.inl v2), none] dX6_findTimes_22 rfl rfl (by decide) rfl ?_
    refine vr_aload_n 24 dX6_findTimes_23 rfl rfl rfl ?_
    refine vr_getr 27 24 cl_X6 fl_X6_63 (by decide) dX6_findTimes_24 rfl s_40 rfl ?_
    refine vr_iload_n 28 dX6_findTimes_27 rfl rfl rfl ?_
    refine vr_iload_n 29 dX6_findTimes_28 rfl rfl rfl ?_
    obtain ⟨o5, h⟩ := h
    refine vr_iast 30 dX6_findTimes_29 rfl s_56 o5.1 o5.2 ?_
    obtain ⟨o6, h⟩ := h
    refine vr_iinc 33 [some (.inr (some 40)), some (.inl (v1 + (2 + (g 48 v2)))), some (.inl (v2 + 1)), none] dX6_findTimes_30 rfl rfl o6 (by decide) rfl ?_
    refine vr_goto 4 dX6_findTimes_33 rfl ?_
    exact h
set_option maxRecDepth 100000 in
theorem tX6_findTimes_45 {l : Launch} {d : Nat} {Q : Int → vx_M → Prop} (g : vx_M) (v1 v2 v3 : Int) (h : ((v3 < 0 → Q v2 g) ∧ (¬ v3 < 0 → (0 ≤ v3 ∧ v3 < 12) ∧ vx_in (2 + (g 48 v3)) ∧ vx_in (v1 + (2 + (g 48 v3))) ∧ (0 ≤ v3 ∧ v3 < 12) ∧ vx_in (v3 + (-1)) ∧ vN l mX6_findTimes d (vx_pi SH Q) SH (vx_u g 57 v3 (v1 + (2 + (g 48 v3)))) 45 [some (.inr (some 40)), some (.inl (v1 + (2 + (g 48 v3)))), some (.inl v2), some (.inl (v3 + (-1)))] []))) : vN l mX6_findTimes d (vx_pi SH Q) SH g 45 [some (.inr (some 40)), some (.inl v1), some (.inl v2), some (.inl v3)] [] := by
  refine vr_iload_n 46 dX6_findTimes_45 rfl rfl rfl ?_
  refine vr_if_lt 73 49 dX6_findTimes_46 rfl rfl (fun c => ?_) (fun c => ?_)
  · replace h := h.1 c
    refine vr_iload_n 74 dX6_findTimes_73 rfl rfl rfl ?_
    exact vr_iret rfl (Nat.le_refl _) (Nat.le_refl _) dX6_findTimes_74 ⟨rfl, _, rfl, h⟩
  · replace h := h.2 c
    refine vr_iload_n 50 dX6_findTimes_49 rfl rfl rfl ?_
    refine vr_iconst 51 dX6_findTimes_50 rfl ⟨by decide, by decide⟩ ?_
    refine vr_aload_n 52 dX6_findTimes_51 rfl rfl rfl ?_
    refine vr_getr 55 11 cl_X6 fl_X6_39 (by decide) dX6_findTimes_52 rfl s_40 rfl ?_
    refine vr_iload_n 56 dX6_findTimes_55 rfl rfl rfl ?_
    obtain ⟨o1, h⟩ := h
    refine vr_iald 57 dX6_findTimes_56 rfl s_48 o1.1 o1.2 ?_
    obtain ⟨o2, h⟩ := h
    refine vr_iadd 58 dX6_findTimes_57 rfl o2 ?_
    obtain ⟨o3, h⟩ := h
    refine vr_iadd 59 dX6_findTimes_58 rfl o3 ?_
    refine vr_istore_n 60 [some (.inr (some 40)), some (.inl (v1 + (2 + (g 48 v3)))), some (.inl v2), some (.inl v3)] dX6_findTimes_59 rfl rfl (by decide) rfl ?_
    refine vr_aload_n 61 dX6_findTimes_60 rfl rfl rfl ?_
    refine vr_getr 64 25 cl_X6 fl_X6_66 (by decide) dX6_findTimes_61 rfl s_40 rfl ?_
    refine vr_iload_n 65 dX6_findTimes_64 rfl rfl rfl ?_
    refine vr_iload_n 66 dX6_findTimes_65 rfl rfl rfl ?_
    obtain ⟨o4, h⟩ := h
    refine vr_iast 67 dX6_findTimes_66 rfl s_57 o4.1 o4.2 ?_
    obtain ⟨o5, h⟩ := h
    refine vr_iinc 70 [some (.inr (some 40)), some (.inl (v1 + (2 + (g 48 v3)))), some (.inl v2), some (.inl (v3 + (-1)))] dX6_findTimes_67 rfl rfl o5 (by decide) rfl ?_
    refine vr_goto 45 dX6_findTimes_70 rfl ?_
    exact h
set_option maxRecDepth 100000 in
theorem tX6_climb_0 {l : Launch} {d : Nat} {Q : Int → vx_M → Prop} (g : vx_M) (v1 : Int) (h : (∃ Q1 : Int → vx_M → Prop, vNi l mX6_findTimes d [.inr (some 40)] SH g Q1 ∧ ∀ (r1 : Int) (g1 : vx_M), Q1 r1 g1 → (∃ Q2 : vx_M → Prop, vNv l mX6_useHand d [.inr (some 40)] SH g1 Q2 ∧ ∀ g2 : vx_M, Q2 g2 → vN l mX6_climb (d + 1) (vx_pi SH Q) SH (vx_u (vx_u g2 40 27 (-1)) 40 28 (-1)) 21 [some (.inr (some 40)), some (.inl v1), some (.inl r1), some (.inl 0), none, none] []))) : vN l mX6_climb (d + 1) (vx_pi SH Q) SH g 0 [some (.inr (some 40)), some (.inl v1), none, none, none, none] [] := by
  refine vr_aload_n 1 dX6_climb_0 rfl rfl rfl ?_
  obtain ⟨Q1, hq, h⟩ := h
  refine vr_callVi 4 [] 40 [] dX6_climb_1 rfl mc_X6_142 dn_X6_findTimes rfl rfl s_40 rfl (Nat.le_of_ble_eq_true rfl) (vx_rmR (by decide)) ⟨rfl, rfl⟩ ⟨Nat.le_refl _, Nat.le_refl _⟩ (fun _ _ => trivial) (fun _ _ => trivial) hq (fun r1 sh9 g1 hp _ _ => ?_)
  obtain ⟨e9, z9, e8, hp⟩ := hp
  subst e9
  cases e8
  replace h := h r1 g1 hp
  refine vr_istore_n 5 [some (.inr (some 40)), some (.inl v1), some (.inl r1), none, none, none] dX6_climb_4 rfl rfl (by decide) rfl ?_
  refine vr_aload_n 6 dX6_climb_5 rfl rfl rfl ?_
  obtain ⟨Q2, hq, h⟩ := h
  refine vr_callVv 9 [] 40 [] dX6_climb_6 rfl mc_X6_139 dn_X6_useHand rfl rfl s_40 rfl (Nat.le_of_ble_eq_true rfl) (vx_rmR (by decide)) ⟨rfl, rfl⟩ ⟨Nat.le_refl _, Nat.le_refl _⟩ (fun _ _ => trivial) (fun _ _ => trivial) hq (fun sh9 g2 hp _ => ?_)
  obtain ⟨e9, -, hp⟩ := hp
  subst e9
  replace h := h g2 hp
  refine vr_aload_n 10 dX6_climb_9 rfl rfl rfl ?_
  refine vr_iconst 11 dX6_climb_10 rfl ⟨by decide, by decide⟩ ?_
  refine vr_puti 14 27 27 cl_X6 fl_X6_145 (by decide) rfl rfl rfl dX6_climb_11 rfl s_40 rfl ?_
  refine vr_aload_n 15 dX6_climb_14 rfl rfl rfl ?_
  refine vr_iconst 16 dX6_climb_15 rfl ⟨by decide, by decide⟩ ?_
  refine vr_puti 19 28 28 cl_X6 fl_X6_148 (by decide) rfl rfl rfl dX6_climb_16 rfl s_40 rfl ?_
  refine vr_iconst 20 dX6_climb_19 rfl ⟨by decide, by decide⟩ ?_
  refine vr_istore_n 21 [some (.inr (some 40)), some (.inl v1), some (.inl r1), some (.inl 0), none, none] dX6_climb_20 rfl rfl (by decide) rfl ?_
  exact h
theorem kX6_climb {l : Launch} {d : Nat} {Q : Int → vx_M → Prop} (g : vx_M) (v1 : Int) (h : (∃ Q1 : Int → vx_M → Prop, vNi l mX6_findTimes d [.inr (some 40)] SH g Q1 ∧ ∀ (r1 : Int) (g1 : vx_M), Q1 r1 g1 → (∃ Q2 : vx_M → Prop, vNv l mX6_useHand d [.inr (some 40)] SH g1 Q2 ∧ ∀ g2 : vx_M, Q2 g2 → vN l mX6_climb (d + 1) (vx_pi SH Q) SH (vx_u (vx_u g2 40 27 (-1)) 40 28 (-1)) 21 [some (.inr (some 40)), some (.inl v1), some (.inl r1), some (.inl 0), none, none] []))) : vNi l mX6_climb (d + 1) [.inr (some 40), .inl v1] SH g Q := vNi_of [some (.inr (some 40)), some (.inl v1), none, none, none, none] pn_X6 (Nat.le_of_ble_eq_true rfl) rfl (tX6_climb_0 g v1 h)
set_option maxRecDepth 100000 in
theorem tX6_climb_21 {l : Launch} {d : Nat} {Q : Int → vx_M → Prop} (g : vx_M) (v1 v2 v3 : Int) (h : (((g 40 10) ≤ v3 → vN l mX6_climb (d + 1) (vx_pi SH Q) SH g 44 [some (.inr (some 40)), some (.inl v1), some (.inl v2), some (.inl 1), none, none] []) ∧ (¬ (g 40 10) ≤ v3 → (0 ≤ v3 ∧ v3 < 12) ∧ vx_in (v3 + 1) ∧ vN l mX6_climb (d + 1) (vx_pi SH Q) SH (vx_u g 58 v3 0) 21 [some (.inr (some 40)), some (.inl v1), some (.inl v2), some (.inl (v3 + 1)), none, none] []))) : vN l mX6_climb (d + 1) (vx_pi SH Q) SH g 21 [some (.inr (some 40)), some (.inl v1), some (.inl v2), some (.inl v3), none, none] [] := by
  refine vr_iload_n 22 dX6_climb_21 rfl rfl rfl ?_
  refine vr_aload_n 23 dX6_climb_22 rfl rfl rfl ?_
  refine vr_geti 26 10 10 cl_X6 fl_X6_88 (by decide) rfl dX6_climb_23 rfl s_40 rfl ?_
  refine vr_icmp_ge 42 29 dX6_climb_26 rfl rfl (fun c => ?_) (fun c => ?_)
  · replace h := h.1 c
    refine vr_iconst 43 dX6_climb_42 rfl ⟨by decide, by decide⟩ ?_
    refine vr_istore_n 44 [some (.inr (some 40)), some (.inl v1), some (.inl v2), some (.inl 1), none, none] dX6_climb_43 rfl rfl (by decide) rfl ?_
    exact h
  · replace h := h.2 c
    refine vr_aload_n 30 dX6_climb_29 rfl rfl rfl ?_
    refine vr_getr 33 26 cl_X6 fl_X6_69 (by decide) dX6_climb_30 rfl s_40 rfl ?_
    refine vr_iload_n 34 dX6_climb_33 rfl rfl rfl ?_
    refine vr_iconst 35 dX6_climb_34 rfl ⟨by decide, by decide⟩ ?_
    obtain ⟨o1, h⟩ := h
    refine vr_iast 36 dX6_climb_35 rfl s_58 o1.1 o1.2 ?_
    obtain ⟨o2, h⟩ := h
    refine vr_iinc 39 [some (.inr (some 40)), some (.inl v1), some (.inl v2), some (.inl (v3 + 1)), none, none] dX6_climb_36 rfl rfl o2 (by decide) rfl ?_
    refine vr_goto 21 dX6_climb_39 rfl ?_
    exact h
set_option maxRecDepth 100000 in
theorem tX6_climb_44 {l : Launch} {d : Nat} {Q : Int → vx_M → Prop} (g : vx_M) (v1 v2 v3 : Int) (h : ((v1 < v3 → Q v2 g) ∧ (¬ v1 < v3 → vN l mX6_climb (d + 1) (vx_pi SH Q) SH g 55 [some (.inr (some 40)), some (.inl v1), some (.inl v2), some (.inl v3), some (.inl 0), some (.inl 0)] []))) : vN l mX6_climb (d + 1) (vx_pi SH Q) SH g 44 [some (.inr (some 40)), some (.inl v1), some (.inl v2), some (.inl v3), none, none] [] := by
  refine vr_iload_n 45 dX6_climb_44 rfl rfl rfl ?_
  refine vr_iload_n 46 dX6_climb_45 rfl rfl rfl ?_
  refine vr_icmp_gt 211 49 dX6_climb_46 rfl rfl (fun c => ?_) (fun c => ?_)
  · replace h := h.1 c
    refine vr_iload_n 212 dX6_climb_211 rfl rfl rfl ?_
    exact vr_iret rfl (Nat.le_refl _) (Nat.le_refl _) dX6_climb_212 ⟨rfl, _, rfl, h⟩
  · replace h := h.2 c
    refine vr_iconst 50 dX6_climb_49 rfl ⟨by decide, by decide⟩ ?_
    refine vr_istore 52 [some (.inr (some 40)), some (.inl v1), some (.inl v2), some (.inl v3), some (.inl 0), none] dX6_climb_50 rfl (by decide) rfl ?_
    refine vr_iconst 53 dX6_climb_52 rfl ⟨by decide, by decide⟩ ?_
    refine vr_istore 55 [some (.inr (some 40)), some (.inl v1), some (.inl v2), some (.inl v3), some (.inl 0), some (.inl 0)] dX6_climb_53 rfl (by decide) rfl ?_
    exact h
set_option maxRecDepth 100000 in
theorem tX6_climb_55 {l : Launch} {d : Nat} {Q : Int → vx_M → Prop} (g : vx_M) (v1 v2 v3 v4 v5 : Int) (h : (((g 40 10) ≤ v5 → vx_in (v4 - 1) ∧ (∃ Q2 : vx_M → Prop, vNv l mX6_findLoads d [.inr (some 40), .inl (v4 - 1)] SH g Q2 ∧ ∀ g2 : vx_M, Q2 g2 → vN l mX6_climb (d + 1) (vx_pi SH Q) SH g2 113 [some (.inr (some 40)), some (.inl v1), some (.inl v2), some (.inl v3), some (.inl v4), some (.inl 0)] [])) ∧ (¬ (g 40 10) ≤ v5 → (0 ≤ v5 ∧ v5 < 12) ∧ ((v3 ≤ (g 56 v5) → vx_in (v4 + 0) ∧ vx_in (v5 + 1) ∧ vN l mX6_climb (d + 1) (vx_pi SH Q) SH g 55 [some (.inr (some 40)), some (.inl v1), some (.inl v2), some (.inl v3), some (.inl (v4 + 0)), some (.inl (v5 + 1))] []) ∧ (¬ v3 ≤ (g 56 v5) → (0 ≤ v5 ∧ v5 < 12) ∧ (((g 57 v5) < v3 → vx_in (v4 + 0) ∧ vx_in (v5 + 1) ∧ vN l mX6_climb (d + 1) (vx_pi SH Q) SH g 55 [some (.inr (some 40)), some (.inl v1), some (.inl v2), some (.inl v3), some (.inl (v4 + 0)), some (.inl (v5 + 1))] []) ∧ (¬ (g 57 v5) < v3 → vx_in (v4 + 1) ∧ vx_in (v5 + 1) ∧ vN l mX6_climb (d + 1) (vx_pi SH Q) SH g 55 [some (.inr (some 40)), some (.inl v1), some (.inl v2), some (.inl v3), some (.inl (v4 + 1)), some (.inl (v5 + 1))] []))))))) : vN l mX6_climb (d + 1) (vx_pi SH Q) SH g 55 [some (.inr (some 40)), some (.inl v1), some (.inl v2), some (.inl v3), some (.inl v4), some (.inl v5)] [] := by
  refine vr_iload 57 dX6_climb_55 rfl rfl ?_
  refine vr_aload_n 58 dX6_climb_57 rfl rfl rfl ?_
  refine vr_geti 61 10 10 cl_X6 fl_X6_88 (by decide) rfl dX6_climb_58 rfl s_40 rfl ?_
  refine vr_icmp_ge 102 64 dX6_climb_61 rfl rfl (fun c => ?_) (fun c => ?_)
  · replace h := h.1 c
    refine vr_aload_n 103 dX6_climb_102 rfl rfl rfl ?_
    refine vr_iload 105 dX6_climb_103 rfl rfl ?_
    refine vr_iconst 106 dX6_climb_105 rfl ⟨by decide, by decide⟩ ?_
    obtain ⟨o1, h⟩ := h
    refine vr_isub 107 dX6_climb_106 rfl o1 ?_
    obtain ⟨Q2, hq, h⟩ := h
    refine vr_callVv 110 [.inl (v4 - 1)] 40 [] dX6_climb_107 rfl mc_X6_103 dn_X6_findLoads rfl rfl s_40 rfl (Nat.le_of_ble_eq_true rfl) (vx_rmR (by decide)) ⟨rfl, rfl⟩ ⟨Nat.le_refl _, Nat.le_refl _⟩ (fun _ _ => trivial) (fun _ _ => trivial) hq (fun sh9 g2 hp _ => ?_)
    obtain ⟨e9, -, hp⟩ := hp
    subst e9
    replace h := h g2 hp
    refine vr_iconst 111 dX6_climb_110 rfl ⟨by decide, by decide⟩ ?_
    refine vr_istore 113 [some (.inr (some 40)), some (.inl v1), some (.inl v2), some (.inl v3), some (.inl v4), some (.inl 0)] dX6_climb_111 rfl (by decide) rfl ?_
    exact h
  · replace h := h.2 c
    refine vr_iload 66 dX6_climb_64 rfl rfl ?_
    refine vr_aload_n 67 dX6_climb_66 rfl rfl rfl ?_
    refine vr_getr 70 24 cl_X6 fl_X6_63 (by decide) dX6_climb_67 rfl s_40 rfl ?_
    refine vr_iload 72 dX6_climb_70 rfl rfl ?_
    obtain ⟨o3, h⟩ := h
    refine vr_iald 73 dX6_climb_72 rfl s_56 o3.1 o3.2 ?_
    refine vr_iload_n 74 dX6_climb_73 rfl rfl rfl ?_
    refine vr_icmp_ge 92 77 dX6_climb_74 rfl rfl (fun c => ?_) (fun c => ?_)
    · replace h := h.1 c
      refine vr_iconst 93 dX6_climb_92 rfl ⟨by decide, by decide⟩ ?_
      obtain ⟨o4, h⟩ := h
      refine vr_iadd 94 dX6_climb_93 rfl o4 ?_
      refine vr_istore 96 [some (.inr (some 40)), some (.inl v1), some (.inl v2), some (.inl v3), some (.inl (v4 + 0)), some (.inl v5)] dX6_climb_94 rfl (by decide) rfl ?_
      obtain ⟨o5, h⟩ := h
      refine vr_iinc 99 [some (.inr (some 40)), some (.inl v1), some (.inl v2), some (.inl v3), some (.inl (v4 + 0)), some (.inl (v5 + 1))] dX6_climb_96 rfl rfl o5 (by decide) rfl ?_
      refine vr_goto 55 dX6_climb_99 rfl ?_
      exact h
    · replace h := h.2 c
      refine vr_aload_n 78 dX6_climb_77 rfl rfl rfl ?_
      refine vr_getr 81 25 cl_X6 fl_X6_66 (by decide) dX6_climb_78 rfl s_40 rfl ?_
      refine vr_iload 83 dX6_climb_81 rfl rfl ?_
      obtain ⟨o6, h⟩ := h
      refine vr_iald 84 dX6_climb_83 rfl s_57 o6.1 o6.2 ?_
      refine vr_iload_n 85 dX6_climb_84 rfl rfl rfl ?_
      refine vr_icmp_lt 92 88 dX6_climb_85 rfl rfl (fun c => ?_) (fun c => ?_)
      · replace h := h.1 c
        refine vr_iconst 93 dX6_climb_92 rfl ⟨by decide, by decide⟩ ?_
        obtain ⟨o7, h⟩ := h
        refine vr_iadd 94 dX6_climb_93 rfl o7 ?_
        refine vr_istore 96 [some (.inr (some 40)), some (.inl v1), some (.inl v2), some (.inl v3), some (.inl (v4 + 0)), some (.inl v5)] dX6_climb_94 rfl (by decide) rfl ?_
        obtain ⟨o8, h⟩ := h
        refine vr_iinc 99 [some (.inr (some 40)), some (.inl v1), some (.inl v2), some (.inl v3), some (.inl (v4 + 0)), some (.inl (v5 + 1))] dX6_climb_96 rfl rfl o8 (by decide) rfl ?_
        refine vr_goto 55 dX6_climb_99 rfl ?_
        exact h
      · replace h := h.2 c
        refine vr_iconst 89 dX6_climb_88 rfl ⟨by decide, by decide⟩ ?_
        refine vr_goto 93 dX6_climb_89 rfl ?_
        obtain ⟨o9, h⟩ := h
        refine vr_iadd 94 dX6_climb_93 rfl o9 ?_
        refine vr_istore 96 [some (.inr (some 40)), some (.inl v1), some (.inl v2), some (.inl v3), some (.inl (v4 + 1)), some (.inl v5)] dX6_climb_94 rfl (by decide) rfl ?_
        obtain ⟨o10, h⟩ := h
        refine vr_iinc 99 [some (.inr (some 40)), some (.inl v1), some (.inl v2), some (.inl v3), some (.inl (v4 + 1)), some (.inl (v5 + 1))] dX6_climb_96 rfl rfl o10 (by decide) rfl ?_
        refine vr_goto 55 dX6_climb_99 rfl ?_
        exact h
set_option maxRecDepth 100000 in
theorem tX6_climb_113 {l : Launch} {d : Nat} {Q : Int → vx_M → Prop} (g : vx_M) (v1 v2 v3 v4 v5 : Int) (h : ((v4 ≤ v5 → vN l mX6_climb (d + 1) (vx_pi SH Q) SH g 146 [some (.inr (some 40)), some (.inl v1), some (.inl v2), some (.inl v3), some (.inl v4), some (.inl 0)] []) ∧ (¬ v4 ≤ v5 → (0 ≤ v5 ∧ v5 < 12) ∧ (0 ≤ v5 ∧ v5 < 12) ∧ vx_in ((g 58 v5) + (g 53 v5)) ∧ (0 ≤ v5 ∧ v5 < 12) ∧ vx_in (v5 + 1) ∧ vN l mX6_climb (d + 1) (vx_pi SH Q) SH (vx_u g 58 v5 ((g 58 v5) + (g 53 v5))) 113 [some (.inr (some 40)), some (.inl v1), some (.inl v2), some (.inl v3), some (.inl v4), some (.inl (v5 + 1))] []))) : vN l mX6_climb (d + 1) (vx_pi SH Q) SH g 113 [some (.inr (some 40)), some (.inl v1), some (.inl v2), some (.inl v3), some (.inl v4), some (.inl v5)] [] := by
  refine vr_iload 115 dX6_climb_113 rfl rfl ?_
  refine vr_iload 117 dX6_climb_115 rfl rfl ?_
  refine vr_icmp_ge 143 120 dX6_climb_117 rfl rfl (fun c => ?_) (fun c => ?_)
  · replace h := h.1 c
    refine vr_iconst 144 dX6_climb_143 rfl ⟨by decide, by decide⟩ ?_
    refine vr_istore 146 [some (.inr (some 40)), some (.inl v1), some (.inl v2), some (.inl v3), some (.inl v4), some (.inl 0)] dX6_climb_144 rfl (by decide) rfl ?_
    exact h
  · replace h := h.2 c
    refine vr_aload_n 121 dX6_climb_120 rfl rfl rfl ?_
    refine vr_getr 124 26 cl_X6 fl_X6_69 (by decide) dX6_climb_121 rfl s_40 rfl ?_
    refine vr_iload 126 dX6_climb_124 rfl rfl ?_
    refine vr_dup2 127 dX6_climb_126 rfl ?_
    obtain ⟨o1, h⟩ := h
    refine vr_iald 128 dX6_climb_127 rfl s_58 o1.1 o1.2 ?_
    refine vr_aload_n 129 dX6_climb_128 rfl rfl rfl ?_
    refine vr_getr 132 17 cl_X6 fl_X6_54 (by decide) dX6_climb_129 rfl s_40 rfl ?_
    refine vr_iload 134 dX6_climb_132 rfl rfl ?_
    obtain ⟨o2, h⟩ := h
    refine vr_iald 135 dX6_climb_134 rfl s_53 o2.1 o2.2 ?_
    obtain ⟨o3, h⟩ := h
    refine vr_iadd 136 dX6_climb_135 rfl o3 ?_
    obtain ⟨o4, h⟩ := h
    refine vr_iast 137 dX6_climb_136 rfl s_58 o4.1 o4.2 ?_
    obtain ⟨o5, h⟩ := h
    refine vr_iinc 140 [some (.inr (some 40)), some (.inl v1), some (.inl v2), some (.inl v3), some (.inl v4), some (.inl (v5 + 1))] dX6_climb_137 rfl rfl o5 (by decide) rfl ?_
    refine vr_goto 113 dX6_climb_140 rfl ?_
    exact h
set_option maxRecDepth 100000 in
theorem tX6_climb_146 {l : Launch} {d : Nat} {Q : Int → vx_M → Prop} (g : vx_M) (v1 v2 v3 v4 v5 : Int) (h : (((g 40 10) ≤ v5 → vx_in (v3 + 1) ∧ vN l mX6_climb (d + 1) (vx_pi SH Q) SH g 44 [some (.inr (some 40)), some (.inl v1), some (.inl v2), some (.inl (v3 + 1)), none, none] []) ∧ (¬ (g 40 10) ≤ v5 → ((¬ (g 40 27) = (-1) → vx_in (v3 + 1) ∧ vN l mX6_climb (d + 1) (vx_pi SH Q) SH g 44 [some (.inr (some 40)), some (.inl v1), some (.inl v2), some (.inl (v3 + 1)), none, none] []) ∧ ((g 40 27) = (-1) → (0 ≤ v5 ∧ v5 < 12) ∧ (0 ≤ v5 ∧ v5 < 12) ∧ (0 ≤ g 52 v5 ∧ g 52 v5 < 8) ∧ vx_in (8 * (g 46 (g 52 v5))) ∧ (((g 58 v5) ≤ (8 * (g 46 (g 52 v5))) → vx_in (v5 + 1) ∧ vN l mX6_climb (d + 1) (vx_pi SH Q) SH g 146 [some (.inr (some 40)), some (.inl v1), some (.inl v2), some (.inl v3), some (.inl v4), some (.inl (v5 + 1))] []) ∧ (¬ (g 58 v5) ≤ (8 * (g 46 (g 52 v5))) → vx_in (v5 + 1) ∧ vN l mX6_climb (d + 1) (vx_pi SH Q) SH (vx_u (vx_u g 40 27 v3) 40 28 v5) 146 [some (.inr (some 40)), some (.inl v1), some (.inl v2), some (.inl v3), some (.inl v4), some (.inl (v5 + 1))] []))))))) : vN l mX6_climb (d + 1) (vx_pi SH Q) SH g 146 [some (.inr (some 40)), some (.inl v1), some (.inl v2), some (.inl v3), some (.inl v4), some (.inl v5)] [] := by
  refine vr_iload 148 dX6_climb_146 rfl rfl ?_
  refine vr_aload_n 149 dX6_climb_148 rfl rfl rfl ?_
  refine vr_geti 152 10 10 cl_X6 fl_X6_88 (by decide) rfl dX6_climb_149 rfl s_40 rfl ?_
  refine vr_icmp_ge 205 155 dX6_climb_152 rfl rfl (fun c => ?_) (fun c => ?_)
  · replace h := h.1 c
    obtain ⟨o1, h⟩ := h
    refine vr_iinc 208 [some (.inr (some 40)), some (.inl v1), some (.inl v2), some (.inl (v3 + 1)), some (.inl v4), some (.inl v5)] dX6_climb_205 rfl rfl o1 (by decide) rfl ?_
    refine vr_goto 44 dX6_climb_208 rfl ?_
    exact vr_forget [some (.inr (some 40)), some (.inl v1), some (.inl v2), some (.inl (v3 + 1)), none, none] (vx_sub.get _ _ ⟨rfl, ⟨rfl, ⟨rfl, ⟨rfl, trivial⟩⟩⟩⟩) h
  · replace h := h.2 c
    refine vr_aload_n 156 dX6_climb_155 rfl rfl rfl ?_
    refine vr_geti 159 27 27 cl_X6 fl_X6_145 (by decide) rfl dX6_climb_156 rfl s_40 rfl ?_
    refine vr_iconst 160 dX6_climb_159 rfl ⟨by decide, by decide⟩ ?_
    refine vr_icmp_ne 205 163 dX6_climb_160 rfl rfl (fun c => ?_) (fun c => ?_)
    · replace h := h.1 c
      obtain ⟨o2, h⟩ := h
      refine vr_iinc 208 [some (.inr (some 40)), some (.inl v1), some (.inl v2), some (.inl (v3 + 1)), some (.inl v4), some (.inl v5)] dX6_climb_205 rfl rfl o2 (by decide) rfl ?_
      refine vr_goto 44 dX6_climb_208 rfl ?_
      exact vr_forget [some (.inr (some 40)), some (.inl v1), some (.inl v2), some (.inl (v3 + 1)), none, none] (vx_sub.get _ _ ⟨rfl, ⟨rfl, ⟨rfl, ⟨rfl, trivial⟩⟩⟩⟩) h
    · replace h := h.2 c
      refine vr_aload_n 164 dX6_climb_163 rfl rfl rfl ?_
      refine vr_getr 167 26 cl_X6 fl_X6_69 (by decide) dX6_climb_164 rfl s_40 rfl ?_
      refine vr_iload 169 dX6_climb_167 rfl rfl ?_
      obtain ⟨o3, h⟩ := h
      refine vr_iald 170 dX6_climb_169 rfl s_58 o3.1 o3.2 ?_
      refine vr_bipush 172 dX6_climb_170 rfl (by decide) ⟨by decide, by decide⟩ ?_
      refine vr_aload_n 173 dX6_climb_172 rfl rfl rfl ?_
      refine vr_getr 176 7 cl_X6 fl_X6_29 (by decide) dX6_climb_173 rfl s_40 rfl ?_
      refine vr_aload_n 177 dX6_climb_176 rfl rfl rfl ?_
      refine vr_getr 180 16 cl_X6 fl_X6_51 (by decide) dX6_climb_177 rfl s_40 rfl ?_
      refine vr_iload 182 dX6_climb_180 rfl rfl ?_
      obtain ⟨o4, h⟩ := h
      refine vr_iald 183 dX6_climb_182 rfl s_52 o4.1 o4.2 ?_
      obtain ⟨o5, h⟩ := h
      refine vr_iald 184 dX6_climb_183 rfl s_46 o5.1 o5.2 ?_
      obtain ⟨o6, h⟩ := h
      refine vr_imul 185 dX6_climb_184 rfl o6 ?_
      refine vr_icmp_le 199 188 dX6_climb_185 rfl rfl (fun c => ?_) (fun c => ?_)
      · replace h := h.1 c
        obtain ⟨o7, h⟩ := h
        refine vr_iinc 202 [some (.inr (some 40)), some (.inl v1), some (.inl v2), some (.inl v3), some (.inl v4), some (.inl (v5 + 1))] dX6_climb_199 rfl rfl o7 (by decide) rfl ?_
        refine vr_goto 146 dX6_climb_202 rfl ?_
        exact h
      · replace h := h.2 c
        refine vr_aload_n 189 dX6_climb_188 rfl rfl rfl ?_
        refine vr_iload_n 190 dX6_climb_189 rfl rfl rfl ?_
        refine vr_puti 193 27 27 cl_X6 fl_X6_145 (by decide) rfl rfl rfl dX6_climb_190 rfl s_40 rfl ?_
        refine vr_aload_n 194 dX6_climb_193 rfl rfl rfl ?_
        refine vr_iload 196 dX6_climb_194 rfl rfl ?_
        refine vr_puti 199 28 28 cl_X6 fl_X6_148 (by decide) rfl rfl rfl dX6_climb_196 rfl s_40 rfl ?_
        obtain ⟨o8, h⟩ := h
        refine vr_iinc 202 [some (.inr (some 40)), some (.inl v1), some (.inl v2), some (.inl v3), some (.inl v4), some (.inl (v5 + 1))] dX6_climb_199 rfl rfl o8 (by decide) rfl ?_
        refine vr_goto 146 dX6_climb_202 rfl ?_
        exact h
set_option maxRecDepth 100000 in
theorem tX6_tick_0 {l : Launch} {d : Nat} {Q : Int → vx_M → Prop} (g : vx_M) (v1 : Int) (h : (∃ Q1 : Int → vx_M → Prop, vNi l mX6_in d [.inl v1, .inl 0, .inl 2] SH g Q1 ∧ ∀ (r1 : Int) (g1 : vx_M), Q1 r1 g1 → ((¬ r1 = 0 → ((¬ (g1 40 14) = 0 → (∃ Q2 : Int → vx_M → Prop, vNi l mX6_climb d [.inr (some 40), .inl 200] SH g1 Q2 ∧ ∀ (r2 : Int) (g2 : vx_M), Q2 r2 g2 → ((¬ v1 = 0 → ((¬ v1 = 1 → Q (g2 40 27) g2) ∧ (v1 = 1 → vx_in (2 * r2) ∧ Q (2 * r2) g2))) ∧ (v1 = 0 → Q r2 g2)))) ∧ ((g1 40 14) = 0 → Q (-4) g1))) ∧ (r1 = 0 → Q (-3) g1)))) : vN l mX6_tick (d + 1) (vx_pi SH Q) SH g 0 [some (.inr (some 40)), some (.inl v1), none] [] := by
  refine vr_iload_n 1 dX6_tick_0 rfl rfl rfl ?_
  refine vr_iconst 2 dX6_tick_1 rfl ⟨by decide, by decide⟩ ?_
  refine vr_iconst 3 dX6_tick_2 rfl ⟨by decide, by decide⟩ ?_
  obtain ⟨Q1, hq, h⟩ := h
  refine vr_callSi 6 [.inl v1, .inl 0, .inl 2] [] dX6_tick_3 rfl mc_X6_84 dn_X6_in rfl rfl (Nat.le_of_ble_eq_true rfl) (vx_rmR (by decide)) ⟨rfl, rfl⟩ ⟨Nat.le_refl _, Nat.le_refl _⟩ (fun _ _ => trivial) (fun _ _ => trivial) hq (fun r1 sh9 g1 hp _ _ => ?_)
  obtain ⟨e9, z9, e8, hp⟩ := hp
  subst e9
  cases e8
  replace h := h r1 g1 hp
  refine vr_if_ne 12 9 dX6_tick_6 rfl rfl (fun c => ?_) (fun c => ?_)
  · replace h := h.1 c
    refine vr_aload_n 13 dX6_tick_12 rfl rfl rfl ?_
    refine vr_geti 16 14 14 cl_X6 fl_X6_95 (by decide) rfl dX6_tick_13 rfl s_40 rfl ?_
    refine vr_if_ne 22 19 dX6_tick_16 rfl rfl (fun c => ?_) (fun c => ?_)
    · replace h := h.1 c
      refine vr_aload_n 23 dX6_tick_22 rfl rfl rfl ?_
      refine vr_sipush 26 dX6_tick_23 rfl (by decide) ⟨by decide, by decide⟩ ?_
      obtain ⟨Q2, hq, h⟩ := h
      refine vr_callVi 29 [.inl 200] 40 [] dX6_tick_26 rfl mc_X6_151 dn_X6_climb rfl rfl s_40 rfl (Nat.le_of_ble_eq_true rfl) (vx_rmR (by decide)) ⟨rfl, rfl⟩ ⟨Nat.le_refl _, Nat.le_refl _⟩ (fun _ _ => trivial) (fun _ _ => trivial) hq (fun r2 sh9 g2 hp _ _ => ?_)
      obtain ⟨e9, z9, e8, hp⟩ := hp
      subst e9
      cases e8
      replace h := h r2 g2 hp
      refine vr_istore_n 30 [some (.inr (some 40)), some (.inl v1), some (.inl r2)] dX6_tick_29 rfl rfl (by decide) rfl ?_
      refine vr_iload_n 31 dX6_tick_30 rfl rfl rfl ?_
      refine vr_if_ne 38 34 dX6_tick_31 rfl rfl (fun c => ?_) (fun c => ?_)
      · replace h := h.1 c
        refine vr_iload_n 39 dX6_tick_38 rfl rfl rfl ?_
        refine vr_iconst 40 dX6_tick_39 rfl ⟨by decide, by decide⟩ ?_
        refine vr_icmp_ne 49 43 dX6_tick_40 rfl rfl (fun c => ?_) (fun c => ?_)
        · replace h := h.1 c
          refine vr_aload_n 50 dX6_tick_49 rfl rfl rfl ?_
          refine vr_geti 53 27 27 cl_X6 fl_X6_145 (by decide) rfl dX6_tick_50 rfl s_40 rfl ?_
          exact vr_iret rfl (Nat.le_refl _) (Nat.le_refl _) dX6_tick_53 ⟨rfl, _, rfl, h⟩
        · replace h := h.2 c
          refine vr_iconst 44 dX6_tick_43 rfl ⟨by decide, by decide⟩ ?_
          refine vr_iload_n 45 dX6_tick_44 rfl rfl rfl ?_
          obtain ⟨o3, h⟩ := h
          refine vr_imul 46 dX6_tick_45 rfl o3 ?_
          refine vr_goto 53 dX6_tick_46 rfl ?_
          exact vr_iret rfl (Nat.le_refl _) (Nat.le_refl _) dX6_tick_53 ⟨rfl, _, rfl, h⟩
      · replace h := h.2 c
        refine vr_iload_n 35 dX6_tick_34 rfl rfl rfl ?_
        refine vr_goto 53 dX6_tick_35 rfl ?_
        exact vr_iret rfl (Nat.le_refl _) (Nat.le_refl _) dX6_tick_53 ⟨rfl, _, rfl, h⟩
    · replace h := h.2 c
      refine vr_bipush 21 dX6_tick_19 rfl (by decide) ⟨by decide, by decide⟩ ?_
      exact vr_iret rfl (Nat.le_refl _) (Nat.le_refl _) dX6_tick_21 ⟨rfl, _, rfl, h⟩
  · replace h := h.2 c
    refine vr_bipush 11 dX6_tick_9 rfl (by decide) ⟨by decide, by decide⟩ ?_
    exact vr_iret rfl (Nat.le_refl _) (Nat.le_refl _) dX6_tick_11 ⟨rfl, _, rfl, h⟩
theorem kX6_tick {l : Launch} {d : Nat} {Q : Int → vx_M → Prop} (g : vx_M) (v1 : Int) (h : (∃ Q1 : Int → vx_M → Prop, vNi l mX6_in d [.inl v1, .inl 0, .inl 2] SH g Q1 ∧ ∀ (r1 : Int) (g1 : vx_M), Q1 r1 g1 → ((¬ r1 = 0 → ((¬ (g1 40 14) = 0 → (∃ Q2 : Int → vx_M → Prop, vNi l mX6_climb d [.inr (some 40), .inl 200] SH g1 Q2 ∧ ∀ (r2 : Int) (g2 : vx_M), Q2 r2 g2 → ((¬ v1 = 0 → ((¬ v1 = 1 → Q (g2 40 27) g2) ∧ (v1 = 1 → vx_in (2 * r2) ∧ Q (2 * r2) g2))) ∧ (v1 = 0 → Q r2 g2)))) ∧ ((g1 40 14) = 0 → Q (-4) g1))) ∧ (r1 = 0 → Q (-3) g1)))) : vNi l mX6_tick (d + 1) [.inr (some 40), .inl v1] SH g Q := vNi_of [some (.inr (some 40)), some (.inl v1), none] pn_X6 (Nat.le_of_ble_eq_true rfl) rfl (tX6_tick_0 g v1 h)
set_option maxRecDepth 100000 in
theorem tX6_weak_0 {l : Launch} {d : Nat} {Q : Int → vx_M → Prop} (g : vx_M) (h : ((¬ (g 40 14) = 0 → (∃ Q1 : Int → vx_M → Prop, vNi l mX6_climb d [.inr (some 40), .inl 200] SH g Q1 ∧ ∀ (r1 : Int) (g1 : vx_M), Q1 r1 g1 → Q (g1 40 28) g1)) ∧ ((g 40 14) = 0 → Q (-4) g))) : vN l mX6_weak (d + 1) (vx_pi SH Q) SH g 0 [some (.inr (some 40))] [] := by
  refine vr_aload_n 1 dX6_weak_0 rfl rfl rfl ?_
  refine vr_geti 4 14 14 cl_X6 fl_X6_95 (by decide) rfl dX6_weak_1 rfl s_40 rfl ?_
  refine vr_if_ne 10 7 dX6_weak_4 rfl rfl (fun c => ?_) (fun c => ?_)
  · replace h := h.1 c
    refine vr_aload_n 11 dX6_weak_10 rfl rfl rfl ?_
    refine vr_sipush 14 dX6_weak_11 rfl (by decide) ⟨by decide, by decide⟩ ?_
    obtain ⟨Q1, hq, h⟩ := h
    refine vr_callVi 17 [.inl 200] 40 [] dX6_weak_14 rfl mc_X6_151 dn_X6_climb rfl rfl s_40 rfl (Nat.le_of_ble_eq_true rfl) (vx_rmR (by decide)) ⟨rfl, rfl⟩ ⟨Nat.le_refl _, Nat.le_refl _⟩ (fun _ _ => trivial) (fun _ _ => trivial) hq (fun r1 sh9 g1 hp _ _ => ?_)
    obtain ⟨e9, z9, e8, hp⟩ := hp
    subst e9
    cases e8
    replace h := h r1 g1 hp
    refine vr_pop 18 dX6_weak_17 rfl ?_
    refine vr_aload_n 19 dX6_weak_18 rfl rfl rfl ?_
    refine vr_geti 22 28 28 cl_X6 fl_X6_148 (by decide) rfl dX6_weak_19 rfl s_40 rfl ?_
    exact vr_iret rfl (Nat.le_refl _) (Nat.le_refl _) dX6_weak_22 ⟨rfl, _, rfl, h⟩
  · replace h := h.2 c
    refine vr_bipush 9 dX6_weak_7 rfl (by decide) ⟨by decide, by decide⟩ ?_
    exact vr_iret rfl (Nat.le_refl _) (Nat.le_refl _) dX6_weak_9 ⟨rfl, _, rfl, h⟩
theorem kX6_weak {l : Launch} {d : Nat} {Q : Int → vx_M → Prop} (g : vx_M) (h : ((¬ (g 40 14) = 0 → (∃ Q1 : Int → vx_M → Prop, vNi l mX6_climb d [.inr (some 40), .inl 200] SH g Q1 ∧ ∀ (r1 : Int) (g1 : vx_M), Q1 r1 g1 → Q (g1 40 28) g1)) ∧ ((g 40 14) = 0 → Q (-4) g))) : vNi l mX6_weak (d + 1) [.inr (some 40)] SH g Q := vNi_of [some (.inr (some 40))] pn_X6 (Nat.le_of_ble_eq_true rfl) rfl (tX6_weak_0 g  h)
set_option maxRecDepth 100000 in
theorem tX6_effort_0 {l : Launch} {d : Nat} {Q : Int → vx_M → Prop} (g : vx_M) (v1 v2 : Int) (h : (∃ Q1 : Int → vx_M → Prop, vNi l mX6_isPlace d [.inr (some 40), .inl v1] SH g Q1 ∧ ∀ (r1 : Int) (g1 : vx_M), Q1 r1 g1 → ((¬ r1 = 0 → (∃ Q2 : Int → vx_M → Prop, vNi l mX6_in d [.inl v2, .inl 0, .inl 200] SH g1 Q2 ∧ ∀ (r2 : Int) (g2 : vx_M), Q2 r2 g2 → ((¬ r2 = 0 → ((¬ (g2 40 14) = 0 → (∃ Q3 : Int → vx_M → Prop, vNi l mX6_climb d [.inr (some 40), .inl v2] SH g2 Q3 ∧ ∀ (r3 : Int) (g3 : vx_M), Q3 r3 g3 → (0 ≤ v1 ∧ v1 < 12) ∧ Q (g3 58 v1) g3)) ∧ ((g2 40 14) = 0 → Q (-4) g2))) ∧ (r2 = 0 → Q (-3) g2)))) ∧ (r1 = 0 → Q (-2) g1)))) : vN l mX6_effort (d + 1) (vx_pi SH Q) SH g 0 [some (.inr (some 40)), some (.inl v1), some (.inl v2)] [] := by
  refine vr_aload_n 1 dX6_effort_0 rfl rfl rfl ?_
  refine vr_iload_n 2 dX6_effort_1 rfl rfl rfl ?_
  obtain ⟨Q1, hq, h⟩ := h
  refine vr_callVi 5 [.inl v1] 40 [] dX6_effort_2 rfl mc_X6_136 dn_X6_isPlace rfl rfl s_40 rfl (Nat.le_of_ble_eq_true rfl) (vx_rmR (by decide)) ⟨rfl, rfl⟩ ⟨Nat.le_refl _, Nat.le_refl _⟩ (fun _ _ => trivial) (fun _ _ => trivial) hq (fun r1 sh9 g1 hp _ _ => ?_)
  obtain ⟨e9, z9, e8, hp⟩ := hp
  subst e9
  cases e8
  replace h := h r1 g1 hp
  refine vr_if_ne 11 8 dX6_effort_5 rfl rfl (fun c => ?_) (fun c => ?_)
  · replace h := h.1 c
    refine vr_iload_n 12 dX6_effort_11 rfl rfl rfl ?_
    refine vr_iconst 13 dX6_effort_12 rfl ⟨by decide, by decide⟩ ?_
    refine vr_sipush 16 dX6_effort_13 rfl (by decide) ⟨by decide, by decide⟩ ?_
    obtain ⟨Q2, hq, h⟩ := h
    refine vr_callSi 19 [.inl v2, .inl 0, .inl 200] [] dX6_effort_16 rfl mc_X6_84 dn_X6_in rfl rfl (Nat.le_of_ble_eq_true rfl) (vx_rmR (by decide)) ⟨rfl, rfl⟩ ⟨Nat.le_refl _, Nat.le_refl _⟩ (fun _ _ => trivial) (fun _ _ => trivial) hq (fun r2 sh9 g2 hp _ _ => ?_)
    obtain ⟨e9, z9, e8, hp⟩ := hp
    subst e9
    cases e8
    replace h := h r2 g2 hp
    refine vr_if_ne 25 22 dX6_effort_19 rfl rfl (fun c => ?_) (fun c => ?_)
    · replace h := h.1 c
      refine vr_aload_n 26 dX6_effort_25 rfl rfl rfl ?_
      refine vr_geti 29 14 14 cl_X6 fl_X6_95 (by decide) rfl dX6_effort_26 rfl s_40 rfl ?_
      refine vr_if_ne 35 32 dX6_effort_29 rfl rfl (fun c => ?_) (fun c => ?_)
      · replace h := h.1 c
        refine vr_aload_n 36 dX6_effort_35 rfl rfl rfl ?_
        refine vr_iload_n 37 dX6_effort_36 rfl rfl rfl ?_
        obtain ⟨Q3, hq, h⟩ := h
        refine vr_callVi 40 [.inl v2] 40 [] dX6_effort_37 rfl mc_X6_151 dn_X6_climb rfl rfl s_40 rfl (Nat.le_of_ble_eq_true rfl) (vx_rmR (by decide)) ⟨rfl, rfl⟩ ⟨Nat.le_refl _, Nat.le_refl _⟩ (fun _ _ => trivial) (fun _ _ => trivial) hq (fun r3 sh9 g3 hp _ _ => ?_)
        obtain ⟨e9, z9, e8, hp⟩ := hp
        subst e9
        cases e8
        replace h := h r3 g3 hp
        refine vr_pop 41 dX6_effort_40 rfl ?_
        refine vr_aload_n 42 dX6_effort_41 rfl rfl rfl ?_
        refine vr_getr 45 26 cl_X6 fl_X6_69 (by decide) dX6_effort_42 rfl s_40 rfl ?_
        refine vr_iload_n 46 dX6_effort_45 rfl rfl rfl ?_
        obtain ⟨o4, h⟩ := h
        refine vr_iald 47 dX6_effort_46 rfl s_58 o4.1 o4.2 ?_
        exact vr_iret rfl (Nat.le_refl _) (Nat.le_refl _) dX6_effort_47 ⟨rfl, _, rfl, h⟩
      · replace h := h.2 c
        refine vr_bipush 34 dX6_effort_32 rfl (by decide) ⟨by decide, by decide⟩ ?_
        exact vr_iret rfl (Nat.le_refl _) (Nat.le_refl _) dX6_effort_34 ⟨rfl, _, rfl, h⟩
    · replace h := h.2 c
      refine vr_bipush 24 dX6_effort_22 rfl (by decide) ⟨by decide, by decide⟩ ?_
      exact vr_iret rfl (Nat.le_refl _) (Nat.le_refl _) dX6_effort_24 ⟨rfl, _, rfl, h⟩
  · replace h := h.2 c
    refine vr_bipush 10 dX6_effort_8 rfl (by decide) ⟨by decide, by decide⟩ ?_
    exact vr_iret rfl (Nat.le_refl _) (Nat.le_refl _) dX6_effort_10 ⟨rfl, _, rfl, h⟩
theorem kX6_effort {l : Launch} {d : Nat} {Q : Int → vx_M → Prop} (g : vx_M) (v1 v2 : Int) (h : (∃ Q1 : Int → vx_M → Prop, vNi l mX6_isPlace d [.inr (some 40), .inl v1] SH g Q1 ∧ ∀ (r1 : Int) (g1 : vx_M), Q1 r1 g1 → ((¬ r1 = 0 → (∃ Q2 : Int → vx_M → Prop, vNi l mX6_in d [.inl v2, .inl 0, .inl 200] SH g1 Q2 ∧ ∀ (r2 : Int) (g2 : vx_M), Q2 r2 g2 → ((¬ r2 = 0 → ((¬ (g2 40 14) = 0 → (∃ Q3 : Int → vx_M → Prop, vNi l mX6_climb d [.inr (some 40), .inl v2] SH g2 Q3 ∧ ∀ (r3 : Int) (g3 : vx_M), Q3 r3 g3 → (0 ≤ v1 ∧ v1 < 12) ∧ Q (g3 58 v1) g3)) ∧ ((g2 40 14) = 0 → Q (-4) g2))) ∧ (r2 = 0 → Q (-3) g2)))) ∧ (r1 = 0 → Q (-2) g1)))) : vNi l mX6_effort (d + 1) [.inr (some 40), .inl v1, .inl v2] SH g Q := vNi_of [some (.inr (some 40)), some (.inl v1), some (.inl v2)] pn_X6 (Nat.le_of_ble_eq_true rfl) rfl (tX6_effort_0 g v1 v2 h)
set_option maxRecDepth 100000 in
theorem tX6_worths_0 {l : Launch} {d : Nat} {Q : Int → vx_M → Prop} (g : vx_M) (v1 v2 : Int) (h : (∃ Q1 : Int → vx_M → Prop, vNi l mX6_in d [.inl v1, .inl 0, .inl 1000] SH g Q1 ∧ ∀ (r1 : Int) (g1 : vx_M), Q1 r1 g1 → ((r1 = 0 → Q (-3) g1) ∧ (¬ r1 = 0 → (∃ Q2 : Int → vx_M → Prop, vNi l mX6_in d [.inl v2, .inl 0, .inl 1000] SH g1 Q2 ∧ ∀ (r2 : Int) (g2 : vx_M), Q2 r2 g2 → ((¬ r2 = 0 → Q 1 (vx_u (vx_u g2 40 29 v1) 40 30 v2)) ∧ (r2 = 0 → Q (-3) g2))))))) : vN l mX6_worths (d + 1) (vx_pi SH Q) SH g 0 [some (.inr (some 40)), some (.inl v1), some (.inl v2)] [] := by
  refine vr_iload_n 1 dX6_worths_0 rfl rfl rfl ?_
  refine vr_iconst 2 dX6_worths_1 rfl ⟨by decide, by decide⟩ ?_
  refine vr_sipush 5 dX6_worths_2 rfl (by decide) ⟨by decide, by decide⟩ ?_
  obtain ⟨Q1, hq, h⟩ := h
  refine vr_callSi 8 [.inl v1, .inl 0, .inl 1000] [] dX6_worths_5 rfl mc_X6_84 dn_X6_in rfl rfl (Nat.le_of_ble_eq_true rfl) (vx_rmR (by decide)) ⟨rfl, rfl⟩ ⟨Nat.le_refl _, Nat.le_refl _⟩ (fun _ _ => trivial) (fun _ _ => trivial) hq (fun r1 sh9 g1 hp _ _ => ?_)
  obtain ⟨e9, z9, e8, hp⟩ := hp
  subst e9
  cases e8
  replace h := h r1 g1 hp
  refine vr_if_eq 22 11 dX6_worths_8 rfl rfl (fun c => ?_) (fun c => ?_)
  · replace h := h.1 c
    refine vr_bipush 24 dX6_worths_22 rfl (by decide) ⟨by decide, by decide⟩ ?_
    exact vr_iret rfl (Nat.le_refl _) (Nat.le_refl _) dX6_worths_24 ⟨rfl, _, rfl, h⟩
  · replace h := h.2 c
    refine vr_iload_n 12 dX6_worths_11 rfl rfl rfl ?_
    refine vr_iconst 13 dX6_worths_12 rfl ⟨by decide, by decide⟩ ?_
    refine vr_sipush 16 dX6_worths_13 rfl (by decide) ⟨by decide, by decide⟩ ?_
    obtain ⟨Q2, hq, h⟩ := h
    refine vr_callSi 19 [.inl v2, .inl 0, .inl 1000] [] dX6_worths_16 rfl mc_X6_84 dn_X6_in rfl rfl (Nat.le_of_ble_eq_true rfl) (vx_rmR (by decide)) ⟨rfl, rfl⟩ ⟨Nat.le_refl _, Nat.le_refl _⟩ (fun _ _ => trivial) (fun _ _ => trivial) hq (fun r2 sh9 g2 hp _ _ => ?_)
    obtain ⟨e9, z9, e8, hp⟩ := hp
    subst e9
    cases e8
    replace h := h r2 g2 hp
    refine vr_if_ne 25 22 dX6_worths_19 rfl rfl (fun c => ?_) (fun c => ?_)
    · replace h := h.1 c
      refine vr_aload_n 26 dX6_worths_25 rfl rfl rfl ?_
      refine vr_iload_n 27 dX6_worths_26 rfl rfl rfl ?_
      refine vr_puti 30 29 29 cl_X6 fl_X6_72 (by decide) rfl rfl rfl dX6_worths_27 rfl s_40 rfl ?_
      refine vr_aload_n 31 dX6_worths_30 rfl rfl rfl ?_
      refine vr_iload_n 32 dX6_worths_31 rfl rfl rfl ?_
      refine vr_puti 35 30 30 cl_X6 fl_X6_75 (by decide) rfl rfl rfl dX6_worths_32 rfl s_40 rfl ?_
      refine vr_iconst 36 dX6_worths_35 rfl ⟨by decide, by decide⟩ ?_
      exact vr_iret rfl (Nat.le_refl _) (Nat.le_refl _) dX6_worths_36 ⟨rfl, _, rfl, h⟩
    · replace h := h.2 c
      refine vr_bipush 24 dX6_worths_22 rfl (by decide) ⟨by decide, by decide⟩ ?_
      exact vr_iret rfl (Nat.le_refl _) (Nat.le_refl _) dX6_worths_24 ⟨rfl, _, rfl, h⟩
theorem kX6_worths {l : Launch} {d : Nat} {Q : Int → vx_M → Prop} (g : vx_M) (v1 v2 : Int) (h : (∃ Q1 : Int → vx_M → Prop, vNi l mX6_in d [.inl v1, .inl 0, .inl 1000] SH g Q1 ∧ ∀ (r1 : Int) (g1 : vx_M), Q1 r1 g1 → ((r1 = 0 → Q (-3) g1) ∧ (¬ r1 = 0 → (∃ Q2 : Int → vx_M → Prop, vNi l mX6_in d [.inl v2, .inl 0, .inl 1000] SH g1 Q2 ∧ ∀ (r2 : Int) (g2 : vx_M), Q2 r2 g2 → ((¬ r2 = 0 → Q 1 (vx_u (vx_u g2 40 29 v1) 40 30 v2)) ∧ (r2 = 0 → Q (-3) g2))))))) : vNi l mX6_worths (d + 1) [.inr (some 40), .inl v1, .inl v2] SH g Q := vNi_of [some (.inr (some 40)), some (.inl v1), some (.inl v2)] pn_X6 (Nat.le_of_ble_eq_true rfl) rfl (tX6_worths_0 g v1 v2 h)
set_option maxRecDepth 100000 in
theorem tX6_attempt_0 {l : Launch} {d : Nat} {Q : Int → vx_M → Prop} (g : vx_M) (h : ((¬ (g 40 14) = 0 → (∃ Q1 : Int → vx_M → Prop, vNi l mX6_climb d [.inr (some 40), .inl 200] SH g Q1 ∧ ∀ (r1 : Int) (g1 : vx_M), Q1 r1 g1 → ((¬ (g1 40 27) = (-1) → (((g1 40 27) ≤ r1 → vN l mX6_attempt (d + 1) (vx_pi SH Q) SH g1 49 [some (.inr (some 40)), some (.inl r1), none] [.inl 0]) ∧ (¬ (g1 40 27) ≤ r1 → vN l mX6_attempt (d + 1) (vx_pi SH Q) SH g1 49 [some (.inr (some 40)), some (.inl r1), none] [.inl (g1 40 29)]))) ∧ ((g1 40 27) = (-1) → vN l mX6_attempt (d + 1) (vx_pi SH Q) SH g1 49 [some (.inr (some 40)), some (.inl r1), none] [.inl (g1 40 30)])))) ∧ ((g 40 14) = 0 → Q (-4) g))) : vN l mX6_attempt (d + 1) (vx_pi SH Q) SH g 0 [some (.inr (some 40)), none, none] [] := by
  refine vr_aload_n 1 dX6_attempt_0 rfl rfl rfl ?_
  refine vr_geti 4 14 14 cl_X6 fl_X6_95 (by decide) rfl dX6_attempt_1 rfl s_40 rfl ?_
  refine vr_if_ne 10 7 dX6_attempt_4 rfl rfl (fun c => ?_) (fun c => ?_)
  · replace h := h.1 c
    refine vr_aload_n 11 dX6_attempt_10 rfl rfl rfl ?_
    refine vr_sipush 14 dX6_attempt_11 rfl (by decide) ⟨by decide, by decide⟩ ?_
    obtain ⟨Q1, hq, h⟩ := h
    refine vr_callVi 17 [.inl 200] 40 [] dX6_attempt_14 rfl mc_X6_151 dn_X6_climb rfl rfl s_40 rfl (Nat.le_of_ble_eq_true rfl) (vx_rmR (by decide)) ⟨rfl, rfl⟩ ⟨Nat.le_refl _, Nat.le_refl _⟩ (fun _ _ => trivial) (fun _ _ => trivial) hq (fun r1 sh9 g1 hp _ _ => ?_)
    obtain ⟨e9, z9, e8, hp⟩ := hp
    subst e9
    cases e8
    replace h := h r1 g1 hp
    refine vr_istore_n 18 [some (.inr (some 40)), some (.inl r1), none] dX6_attempt_17 rfl rfl (by decide) rfl ?_
    refine vr_aload_n 19 dX6_attempt_18 rfl rfl rfl ?_
    refine vr_geti 22 27 27 cl_X6 fl_X6_145 (by decide) rfl dX6_attempt_19 rfl s_40 rfl ?_
    refine vr_iconst 23 dX6_attempt_22 rfl ⟨by decide, by decide⟩ ?_
    refine vr_icmp_ne 33 26 dX6_attempt_23 rfl rfl (fun c => ?_) (fun c => ?_)
    · replace h := h.1 c
      refine vr_aload_n 34 dX6_attempt_33 rfl rfl rfl ?_
      refine vr_geti 37 27 27 cl_X6 fl_X6_145 (by decide) rfl dX6_attempt_34 rfl s_40 rfl ?_
      refine vr_iload_n 38 dX6_attempt_37 rfl rfl rfl ?_
      refine vr_icmp_le 48 41 dX6_attempt_38 rfl rfl (fun c => ?_) (fun c => ?_)
      · replace h := h.1 c
        refine vr_iconst 49 dX6_attempt_48 rfl ⟨by decide, by decide⟩ ?_
        exact h
      · replace h := h.2 c
        refine vr_aload_n 42 dX6_attempt_41 rfl rfl rfl ?_
        refine vr_geti 45 29 29 cl_X6 fl_X6_72 (by decide) rfl dX6_attempt_42 rfl s_40 rfl ?_
        refine vr_goto 49 dX6_attempt_45 rfl ?_
        exact h
    · replace h := h.2 c
      refine vr_aload_n 27 dX6_attempt_26 rfl rfl rfl ?_
      refine vr_geti 30 30 30 cl_X6 fl_X6_75 (by decide) rfl dX6_attempt_27 rfl s_40 rfl ?_
      refine vr_goto 49 dX6_attempt_30 rfl ?_
      exact h
  · replace h := h.2 c
    refine vr_bipush 9 dX6_attempt_7 rfl (by decide) ⟨by decide, by decide⟩ ?_
    exact vr_iret rfl (Nat.le_refl _) (Nat.le_refl _) dX6_attempt_9 ⟨rfl, _, rfl, h⟩
theorem kX6_attempt {l : Launch} {d : Nat} {Q : Int → vx_M → Prop} (g : vx_M) (h : ((¬ (g 40 14) = 0 → (∃ Q1 : Int → vx_M → Prop, vNi l mX6_climb d [.inr (some 40), .inl 200] SH g Q1 ∧ ∀ (r1 : Int) (g1 : vx_M), Q1 r1 g1 → ((¬ (g1 40 27) = (-1) → (((g1 40 27) ≤ r1 → vN l mX6_attempt (d + 1) (vx_pi SH Q) SH g1 49 [some (.inr (some 40)), some (.inl r1), none] [.inl 0]) ∧ (¬ (g1 40 27) ≤ r1 → vN l mX6_attempt (d + 1) (vx_pi SH Q) SH g1 49 [some (.inr (some 40)), some (.inl r1), none] [.inl (g1 40 29)]))) ∧ ((g1 40 27) = (-1) → vN l mX6_attempt (d + 1) (vx_pi SH Q) SH g1 49 [some (.inr (some 40)), some (.inl r1), none] [.inl (g1 40 30)])))) ∧ ((g 40 14) = 0 → Q (-4) g))) : vNi l mX6_attempt (d + 1) [.inr (some 40)] SH g Q := vNi_of [some (.inr (some 40)), none, none] pn_X6 (Nat.le_of_ble_eq_true rfl) rfl (tX6_attempt_0 g  h)
set_option maxRecDepth 100000 in
theorem tX6_attempt_49 {l : Launch} {d : Nat} {Q : Int → vx_M → Prop} (g : vx_M) (v1 w0 : Int) (h : vx_in ((g 40 31) + w0) ∧ Q w0 (vx_u g 40 31 ((g 40 31) + w0))) : vN l mX6_attempt (d + 1) (vx_pi SH Q) SH g 49 [some (.inr (some 40)), some (.inl v1), none] [.inl w0] := by
  refine vr_istore_n 50 [some (.inr (some 40)), some (.inl v1), some (.inl w0)] dX6_attempt_49 rfl rfl (by decide) rfl ?_
  refine vr_aload_n 51 dX6_attempt_50 rfl rfl rfl ?_
  refine vr_dup 52 dX6_attempt_51 rfl ?_
  refine vr_geti 55 31 31 cl_X6 fl_X6_154 (by decide) rfl dX6_attempt_52 rfl s_40 rfl ?_
  refine vr_iload_n 56 dX6_attempt_55 rfl rfl rfl ?_
  obtain ⟨o1, h⟩ := h
  refine vr_iadd 57 dX6_attempt_56 rfl o1 ?_
  refine vr_puti 60 31 31 cl_X6 fl_X6_154 (by decide) rfl rfl rfl dX6_attempt_57 rfl s_40 rfl ?_
  refine vr_iload_n 61 dX6_attempt_60 rfl rfl rfl ?_
  exact vr_iret rfl (Nat.le_refl _) (Nat.le_refl _) dX6_attempt_61 ⟨rfl, _, rfl, h⟩
set_option maxRecDepth 100000 in
theorem tX6_count_0 {l : Launch} {d : Nat} {Q : Int → vx_M → Prop} (g : vx_M) (v1 : Int) (h : (((v1 < 0 ∨ 5 < v1) → Q (-3) g) ∧ (v1 = 0 → Q (g 40 0) g) ∧ (v1 = 1 → Q (g 40 10) g) ∧ (v1 = 2 → Q (g 40 2) g) ∧ (v1 = 3 → vN l mX6_count d (vx_pi SH Q) SH g 57 [some (.inr (some 40)), some (.inl v1), some (.inl 0), some (.inl 0)] []) ∧ (v1 = 4 → Q (g 40 31) g) ∧ (v1 = 5 → (((g 40 14) = 0 → Q 0 g) ∧ (¬ (g 40 14) = 0 → Q 1 g))))) : vN l mX6_count d (vx_pi SH Q) SH g 0 [some (.inr (some 40)), some (.inl v1), none, none] [] := by
  refine vr_iconst 1 dX6_count_0 rfl ⟨by decide, by decide⟩ ?_
  refine vr_istore_n 2 [some (.inr (some 40)), some (.inl v1), some (.inl 0), none] dX6_count_1 rfl rfl (by decide) rfl ?_
  refine vr_iload_n 3 dX6_count_2 rfl rfl rfl ?_
  by_cases q : v1 < 0 ∨ 5 < v1
  · replace h := h.1 q
    refine vr_tabOut 108 dX6_count_3 q rfl ?_
    refine vr_bipush 110 dX6_count_108 rfl (by decide) ⟨by decide, by decide⟩ ?_
    exact vr_iret rfl (Nat.le_refl _) (Nat.le_refl _) dX6_count_110 ⟨rfl, _, rfl, h⟩
  · replace h := h.2
    by_cases q0 : v1 = 0
    · replace h := h.1 q0
      refine vr_tabIn 40 dX6_count_3 (by omega) (by omega) (by rw [q0]; rfl) rfl ?_
      refine vr_aload_n 41 dX6_count_40 rfl rfl rfl ?_
      refine vr_geti 44 0 0 cl_X6 fl_X6_7 (by decide) rfl dX6_count_41 rfl s_40 rfl ?_
      exact vr_iret rfl (Nat.le_refl _) (Nat.le_refl _) dX6_count_44 ⟨rfl, _, rfl, h⟩
    replace h := h.2
    by_cases q1 : v1 = 1
    · replace h := h.1 q1
      refine vr_tabIn 45 dX6_count_3 (by omega) (by omega) (by rw [q1]; rfl) rfl ?_
      refine vr_aload_n 46 dX6_count_45 rfl rfl rfl ?_
      refine vr_geti 49 10 10 cl_X6 fl_X6_88 (by decide) rfl dX6_count_46 rfl s_40 rfl ?_
      exact vr_iret rfl (Nat.le_refl _) (Nat.le_refl _) dX6_count_49 ⟨rfl, _, rfl, h⟩
    replace h := h.2
    by_cases q2 : v1 = 2
    · replace h := h.1 q2
      refine vr_tabIn 50 dX6_count_3 (by omega) (by omega) (by rw [q2]; rfl) rfl ?_
      refine vr_aload_n 51 dX6_count_50 rfl rfl rfl ?_
      refine vr_geti 54 2 2 cl_X6 fl_X6_81 (by decide) rfl dX6_count_51 rfl s_40 rfl ?_
      exact vr_iret rfl (Nat.le_refl _) (Nat.le_refl _) dX6_count_54 ⟨rfl, _, rfl, h⟩
    replace h := h.2
    by_cases q3 : v1 = 3
    · replace h := h.1 q3
      refine vr_tabIn 55 dX6_count_3 (by omega) (by omega) (by rw [q3]; rfl) rfl ?_
      refine vr_iconst 56 dX6_count_55 rfl ⟨by decide, by decide⟩ ?_
      refine vr_istore_n 57 [some (.inr (some 40)), some (.inl v1), some (.inl 0), some (.inl 0)] dX6_count_56 rfl rfl (by decide) rfl ?_
      exact h
    replace h := h.2
    by_cases q4 : v1 = 4
    · replace h := h.1 q4
      refine vr_tabIn 90 dX6_count_3 (by omega) (by omega) (by rw [q4]; rfl) rfl ?_
      refine vr_aload_n 91 dX6_count_90 rfl rfl rfl ?_
      refine vr_geti 94 31 31 cl_X6 fl_X6_154 (by decide) rfl dX6_count_91 rfl s_40 rfl ?_
      exact vr_iret rfl (Nat.le_refl _) (Nat.le_refl _) dX6_count_94 ⟨rfl, _, rfl, h⟩
    replace h := h.2
    by_cases q5 : v1 = 5
    · replace h := h q5
      refine vr_tabIn 95 dX6_count_3 (by omega) (by omega) (by rw [q5]; rfl) rfl ?_
      refine vr_aload_n 96 dX6_count_95 rfl rfl rfl ?_
      refine vr_geti 99 14 14 cl_X6 fl_X6_95 (by decide) rfl dX6_count_96 rfl s_40 rfl ?_
      refine vr_if_eq 106 102 dX6_count_99 rfl rfl (fun c => ?_) (fun c => ?_)
      · replace h := h.1 c
        refine vr_iconst 107 dX6_count_106 rfl ⟨by decide, by decide⟩ ?_
        exact vr_iret rfl (Nat.le_refl _) (Nat.le_refl _) dX6_count_107 ⟨rfl, _, rfl, h⟩
      · replace h := h.2 c
        refine vr_iconst 103 dX6_count_102 rfl ⟨by decide, by decide⟩ ?_
        refine vr_goto 107 dX6_count_103 rfl ?_
        exact vr_iret rfl (Nat.le_refl _) (Nat.le_refl _) dX6_count_107 ⟨rfl, _, rfl, h⟩
    omega
theorem kX6_count {l : Launch} {d : Nat} {Q : Int → vx_M → Prop} (g : vx_M) (v1 : Int) (h : (((v1 < 0 ∨ 5 < v1) → Q (-3) g) ∧ (v1 = 0 → Q (g 40 0) g) ∧ (v1 = 1 → Q (g 40 10) g) ∧ (v1 = 2 → Q (g 40 2) g) ∧ (v1 = 3 → vN l mX6_count d (vx_pi SH Q) SH g 57 [some (.inr (some 40)), some (.inl v1), some (.inl 0), some (.inl 0)] []) ∧ (v1 = 4 → Q (g 40 31) g) ∧ (v1 = 5 → (((g 40 14) = 0 → Q 0 g) ∧ (¬ (g 40 14) = 0 → Q 1 g))))) : vNi l mX6_count d [.inr (some 40), .inl v1] SH g Q := vNi_of [some (.inr (some 40)), some (.inl v1), none, none] pn_X6 (Nat.le_of_ble_eq_true rfl) rfl (tX6_count_0 g v1 h)
set_option maxRecDepth 100000 in
theorem tX6_count_57 {l : Launch} {d : Nat} {Q : Int → vx_M → Prop} (g : vx_M) (v1 v2 v3 : Int) (h : (((g 40 2) ≤ v3 → Q v2 g) ∧ (¬ (g 40 2) ≤ v3 → (0 ≤ v3 ∧ v3 < 8) ∧ (((g 47 v3) = 0 → vx_in (v2 + 0) ∧ vx_in (v3 + 1) ∧ vN l mX6_count d (vx_pi SH Q) SH g 57 [some (.inr (some 40)), some (.inl v1), some (.inl (v2 + 0)), some (.inl (v3 + 1))] []) ∧ (¬ (g 47 v3) = 0 → vx_in (v2 + 1) ∧ vx_in (v3 + 1) ∧ vN l mX6_count d (vx_pi SH Q) SH g 57 [some (.inr (some 40)), some (.inl v1), some (.inl (v2 + 1)), some (.inl (v3 + 1))] []))))) : vN l mX6_count d (vx_pi SH Q) SH g 57 [some (.inr (some 40)), some (.inl v1), some (.inl v2), some (.inl v3)] [] := by
  refine vr_iload_n 58 dX6_count_57 rfl rfl rfl ?_
  refine vr_aload_n 59 dX6_count_58 rfl rfl rfl ?_
  refine vr_geti 62 2 2 cl_X6 fl_X6_81 (by decide) rfl dX6_count_59 rfl s_40 rfl ?_
  refine vr_icmp_ge 88 65 dX6_count_62 rfl rfl (fun c => ?_) (fun c => ?_)
  · replace h := h.1 c
    refine vr_iload_n 89 dX6_count_88 rfl rfl rfl ?_
    exact vr_iret rfl (Nat.le_refl _) (Nat.le_refl _) dX6_count_89 ⟨rfl, _, rfl, h⟩
  · replace h := h.2 c
    refine vr_iload_n 66 dX6_count_65 rfl rfl rfl ?_
    refine vr_aload_n 67 dX6_count_66 rfl rfl rfl ?_
    refine vr_getr 70 8 cl_X6 fl_X6_32 (by decide) dX6_count_67 rfl s_40 rfl ?_
    refine vr_iload_n 71 dX6_count_70 rfl rfl rfl ?_
    obtain ⟨o1, h⟩ := h
    refine vr_zald 72 dX6_count_71 rfl s_47 o1.1 o1.2 ?_
    refine vr_if_eq 79 75 dX6_count_72 rfl rfl (fun c => ?_) (fun c => ?_)
    · replace h := h.1 c
      refine vr_iconst 80 dX6_count_79 rfl ⟨by decide, by decide⟩ ?_
      obtain ⟨o2, h⟩ := h
      refine vr_iadd 81 dX6_count_80 rfl o2 ?_
      refine vr_istore_n 82 [some (.inr (some 40)), some (.inl v1), some (.inl (v2 + 0)), some (.inl v3)] dX6_count_81 rfl rfl (by decide) rfl ?_
      obtain ⟨o3, h⟩ := h
      refine vr_iinc 85 [some (.inr (some 40)), some (.inl v1), some (.inl (v2 + 0)), some (.inl (v3 + 1))] dX6_count_82 rfl rfl o3 (by decide) rfl ?_
      refine vr_goto 57 dX6_count_85 rfl ?_
      exact h
    · replace h := h.2 c
      refine vr_iconst 76 dX6_count_75 rfl ⟨by decide, by decide⟩ ?_
      refine vr_goto 80 dX6_count_76 rfl ?_
      obtain ⟨o4, h⟩ := h
      refine vr_iadd 81 dX6_count_80 rfl o4 ?_
      refine vr_istore_n 82 [some (.inr (some 40)), some (.inl v1), some (.inl (v2 + 1)), some (.inl v3)] dX6_count_81 rfl rfl (by decide) rfl ?_
      obtain ⟨o5, h⟩ := h
      refine vr_iinc 85 [some (.inr (some 40)), some (.inl v1), some (.inl (v2 + 1)), some (.inl (v3 + 1))] dX6_count_82 rfl rfl o5 (by decide) rfl ?_
      refine vr_goto 57 dX6_count_85 rfl ?_
      exact h

set_option maxRecDepth 100000 in
theorem tJ7_fill_53178_0 {l : Launch} {d : Nat} {sh : List vx_H} {Q : vx_M → Prop} {kf nf : Nat} (hkf : sh[kf]? = some (.inr (.inl (false, nf)))) (hnf : nf < 1000) (g : vx_M) (v1 : Int) (h : vN l mJ7_fill_53178 d (vx_pv sh Q) sh g 5 [some (.inr (some (kf))), some (.inl v1), some (.inl 0), some (.inl ((nf : Int) : Int))] []) : vN l mJ7_fill_53178 d (vx_pv sh Q) sh g 0 [some (.inr (some (kf))), some (.inl v1), none, none] [] := by
  refine vr_iconst 1 dJ7_fill_53178_0 rfl ⟨by decide, by decide⟩ ?_
  refine vr_istore_n 2 [some (.inr (some (kf))), some (.inl v1), some (.inl 0), none] dJ7_fill_53178_1 rfl rfl (by decide) rfl ?_
  refine vr_aload_n 3 dJ7_fill_53178_2 rfl rfl rfl ?_
  refine vr_alen 4 dJ7_fill_53178_3 rfl hkf ⟨by omega, by omega⟩ ?_
  refine vr_istore_n 5 [some (.inr (some (kf))), some (.inl v1), some (.inl 0), some (.inl ((nf : Int) : Int))] dJ7_fill_53178_4 rfl rfl (by decide) rfl ?_
  exact h
theorem kJ7_fill_53178 {l : Launch} {d : Nat} {sh : List vx_H} {Q : vx_M → Prop} {kf nf : Nat} (hkf : sh[kf]? = some (.inr (.inl (false, nf)))) (hnf : nf < 1000) (g : vx_M) (v1 : Int) (h : vN l mJ7_fill_53178 d (vx_pv sh Q) sh g 5 [some (.inr (some (kf))), some (.inl v1), some (.inl 0), some (.inl ((nf : Int) : Int))] []) : vNv l mJ7_fill_53178 d [.inr (some (kf)), .inl v1] sh g Q := vNv_of [some (.inr (some (kf))), some (.inl v1), none, none] pn_J7 (Nat.le_of_ble_eq_true rfl) rfl (tJ7_fill_53178_0 hkf hnf g v1 h)
set_option maxRecDepth 100000 in
theorem tJ7_fill_53178_5 {l : Launch} {d : Nat} {sh : List vx_H} {Q : vx_M → Prop} {kf nf : Nat} (hkf : sh[kf]? = some (.inr (.inl (false, nf)))) (hnf : nf < 1000) (g : vx_M) (v1 v2 v3 : Int) (h : ((v3 ≤ v2 → Q g) ∧ (¬ v3 ≤ v2 → (0 ≤ v2 ∧ v2 < (nf : Int)) ∧ vx_in (v2 + 1) ∧ vN l mJ7_fill_53178 d (vx_pv sh Q) sh (vx_u g (kf) v2 v1) 5 [some (.inr (some (kf))), some (.inl v1), some (.inl (v2 + 1)), some (.inl v3)] []))) : vN l mJ7_fill_53178 d (vx_pv sh Q) sh g 5 [some (.inr (some (kf))), some (.inl v1), some (.inl v2), some (.inl v3)] [] := by
  refine vr_iload_n 6 dJ7_fill_53178_5 rfl rfl rfl ?_
  refine vr_iload_n 7 dJ7_fill_53178_6 rfl rfl rfl ?_
  refine vr_icmp_ge 20 10 dJ7_fill_53178_7 rfl rfl (fun c => ?_) (fun c => ?_)
  · replace h := h.1 c
    exact vr_vret rfl (Nat.le_refl _) (Nat.le_refl _) dJ7_fill_53178_20 ⟨rfl, rfl, h⟩
  · replace h := h.2 c
    refine vr_aload_n 11 dJ7_fill_53178_10 rfl rfl rfl ?_
    refine vr_iload_n 12 dJ7_fill_53178_11 rfl rfl rfl ?_
    refine vr_iload_n 13 dJ7_fill_53178_12 rfl rfl rfl ?_
    obtain ⟨o1, h⟩ := h
    refine vr_iast 14 dJ7_fill_53178_13 rfl hkf o1.1 o1.2 ?_
    obtain ⟨o2, h⟩ := h
    refine vr_iinc 17 [some (.inr (some (kf))), some (.inl v1), some (.inl (v2 + 1)), some (.inl v3)] dJ7_fill_53178_14 rfl rfl o2 (by decide) rfl ?_
    refine vr_goto 5 dJ7_fill_53178_17 rfl ?_
    exact h
set_option maxRecDepth 100000 in
theorem tX4_placesUpTo_0 {l : Launch} {d : Nat} {sh : List vx_H} {Q : Int → vx_M → Prop} (hT : vx_TW sh) (g : vx_M) (v1 : Int) (h : vN l mX4_placesUpTo d (vx_pi sh Q) sh g 4 [some (.inr (some 1)), some (.inl v1), some (.inl 0), some (.inl 0)] []) : vN l mX4_placesUpTo d (vx_pi sh Q) sh g 0 [some (.inr (some 1)), some (.inl v1), none, none] [] := by
  refine vr_iconst 1 dX4_placesUpTo_0 rfl ⟨by decide, by decide⟩ ?_
  refine vr_istore_n 2 [some (.inr (some 1)), some (.inl v1), some (.inl 0), none] dX4_placesUpTo_1 rfl rfl (by decide) rfl ?_
  refine vr_iconst 3 dX4_placesUpTo_2 rfl ⟨by decide, by decide⟩ ?_
  refine vr_istore_n 4 [some (.inr (some 1)), some (.inl v1), some (.inl 0), some (.inl 0)] dX4_placesUpTo_3 rfl rfl (by decide) rfl ?_
  exact h
theorem kX4_placesUpTo {l : Launch} {d : Nat} {sh : List vx_H} {Q : Int → vx_M → Prop} (hT : vx_TW sh) (g : vx_M) (v1 : Int) (h : vN l mX4_placesUpTo d (vx_pi sh Q) sh g 4 [some (.inr (some 1)), some (.inl v1), some (.inl 0), some (.inl 0)] []) : vNi l mX4_placesUpTo d [.inr (some 1), .inl v1] sh g Q := vNi_of [some (.inr (some 1)), some (.inl v1), none, none] pn_X4 (Nat.le_of_ble_eq_true rfl) rfl (tX4_placesUpTo_0 hT g v1 h)
set_option maxRecDepth 100000 in
theorem tX4_placesUpTo_4 {l : Launch} {d : Nat} {sh : List vx_H} {Q : Int → vx_M → Prop} (hT : vx_TW sh) (g : vx_M) (v1 v2 v3 : Int) (h : ((v1 ≤ v3 → Q v2 g) ∧ (¬ v1 ≤ v3 → ((4 ≤ v3 → Q v2 g) ∧ (¬ 4 ≤ v3 → (0 ≤ v3 ∧ v3 < 4) ∧ vx_in (v2 + (g 2 v3)) ∧ vx_in (v3 + 1) ∧ vN l mX4_placesUpTo d (vx_pi sh Q) sh g 4 [some (.inr (some 1)), some (.inl v1), some (.inl (v2 + (g 2 v3))), some (.inl (v3 + 1))] []))))) : vN l mX4_placesUpTo d (vx_pi sh Q) sh g 4 [some (.inr (some 1)), some (.inl v1), some (.inl v2), some (.inl v3)] [] := by
  refine vr_iload_n 5 dX4_placesUpTo_4 rfl rfl rfl ?_
  refine vr_iload_n 6 dX4_placesUpTo_5 rfl rfl rfl ?_
  refine vr_icmp_ge 29 9 dX4_placesUpTo_6 rfl rfl (fun c => ?_) (fun c => ?_)
  · replace h := h.1 c
    refine vr_iload_n 30 dX4_placesUpTo_29 rfl rfl rfl ?_
    exact vr_iret rfl (Nat.le_refl _) (Nat.le_refl _) dX4_placesUpTo_30 ⟨rfl, _, rfl, h⟩
  · replace h := h.2 c
    refine vr_iload_n 10 dX4_placesUpTo_9 rfl rfl rfl ?_
    refine vr_iconst 11 dX4_placesUpTo_10 rfl ⟨by decide, by decide⟩ ?_
    refine vr_icmp_ge 29 14 dX4_placesUpTo_11 rfl rfl (fun c => ?_) (fun c => ?_)
    · replace h := h.1 c
      refine vr_iload_n 30 dX4_placesUpTo_29 rfl rfl rfl ?_
      exact vr_iret rfl (Nat.le_refl _) (Nat.le_refl _) dX4_placesUpTo_30 ⟨rfl, _, rfl, h⟩
    · replace h := h.2 c
      refine vr_iload_n 15 dX4_placesUpTo_14 rfl rfl rfl ?_
      refine vr_aload_n 16 dX4_placesUpTo_15 rfl rfl rfl ?_
      refine vr_getr 19 0 cl_X4 fl_X4_9 (by decide) dX4_placesUpTo_16 rfl hT.1 rfl ?_
      refine vr_iload_n 20 dX4_placesUpTo_19 rfl rfl rfl ?_
      obtain ⟨o1, h⟩ := h
      refine vr_iald 21 dX4_placesUpTo_20 rfl hT.2.1 o1.1 o1.2 ?_
      obtain ⟨o2, h⟩ := h
      refine vr_iadd 22 dX4_placesUpTo_21 rfl o2 ?_
      refine vr_istore_n 23 [some (.inr (some 1)), some (.inl v1), some (.inl (v2 + (g 2 v3))), some (.inl v3)] dX4_placesUpTo_22 rfl rfl (by decide) rfl ?_
      obtain ⟨o3, h⟩ := h
      refine vr_iinc 26 [some (.inr (some 1)), some (.inl v1), some (.inl (v2 + (g 2 v3))), some (.inl (v3 + 1))] dX4_placesUpTo_23 rfl rfl o3 (by decide) rfl ?_
      refine vr_goto 4 dX4_placesUpTo_26 rfl ?_
      exact h
set_option maxRecDepth 100000 in
theorem tX4_build_0 {l : Launch} {d : Nat} {sh : List vx_H} {Q : vx_M → Prop} (hT : vx_TW sh) (g : vx_M) (v1 : Int) (h : vN l mX4_build (d + 1) (vx_pv sh Q) sh (vx_u (vx_u g 1 4 (min v1 4)) 1 5 0) 16 [some (.inr (some 1)), some (.inl v1), some (.inl 0), none] []) : vN l mX4_build (d + 1) (vx_pv sh Q) sh g 0 [some (.inr (some 1)), some (.inl v1), none, none] [] := by
  refine vr_aload_n 1 dX4_build_0 rfl rfl rfl ?_
  refine vr_iload_n 2 dX4_build_1 rfl rfl rfl ?_
  refine vr_iconst 3 dX4_build_2 rfl ⟨by decide, by decide⟩ ?_
  refine vr_mmin 6 dX4_build_3 rfl mc_X4_37 ma_min_1 ma_ini ma_min_2 (by show 1 ≤ d + 1; omega) (by show _ + 13 ≤ 40 * (d + 1); simp only [List.length_cons, List.length_nil]; omega) ⟨Nat.le_refl _, Nat.le_refl _⟩ ?_
  refine vr_puti 9 4 4 cl_X4 fl_X4_26 (by decide) rfl rfl rfl dX4_build_6 rfl hT.1 rfl ?_
  refine vr_aload_n 10 dX4_build_9 rfl rfl rfl ?_
  refine vr_iconst 11 dX4_build_10 rfl ⟨by decide, by decide⟩ ?_
  refine vr_puti 14 5 5 cl_X4 fl_X4_30 (by decide) rfl rfl rfl dX4_build_11 rfl hT.1 rfl ?_
  refine vr_iconst 15 dX4_build_14 rfl ⟨by decide, by decide⟩ ?_
  refine vr_istore_n 16 [some (.inr (some 1)), some (.inl v1), some (.inl 0), none] dX4_build_15 rfl rfl (by decide) rfl ?_
  exact h
theorem kX4_build {l : Launch} {d : Nat} {sh : List vx_H} {Q : vx_M → Prop} (hT : vx_TW sh) (g : vx_M) (v1 : Int) (h : vN l mX4_build (d + 1) (vx_pv sh Q) sh (vx_u (vx_u g 1 4 (min v1 4)) 1 5 0) 16 [some (.inr (some 1)), some (.inl v1), some (.inl 0), none] []) : vNv l mX4_build (d + 1) [.inr (some 1), .inl v1] sh g Q := vNv_of [some (.inr (some 1)), some (.inl v1), none, none] pn_X4 (Nat.le_of_ble_eq_true rfl) rfl (tX4_build_0 hT g v1 h)
set_option maxRecDepth 100000 in
theorem tX4_build_16 {l : Launch} {d : Nat} {sh : List vx_H} {Q : vx_M → Prop} (hT : vx_TW sh) (g : vx_M) (v1 v2 : Int) (h : (((g 1 4) ≤ v2 → Q g) ∧ (¬ (g 1 4) ≤ v2 → (0 ≤ v2 ∧ v2 < 4) ∧ vN l mX4_build (d + 1) (vx_pv sh Q) sh (vx_u g 3 v2 (g 1 5)) 36 [some (.inr (some 1)), some (.inl v1), some (.inl v2), some (.inl 0)] []))) : vN l mX4_build (d + 1) (vx_pv sh Q) sh g 16 [some (.inr (some 1)), some (.inl v1), some (.inl v2), none] [] := by
  refine vr_iload_n 17 dX4_build_16 rfl rfl rfl ?_
  refine vr_aload_n 18 dX4_build_17 rfl rfl rfl ?_
  refine vr_geti 21 4 4 cl_X4 fl_X4_26 (by decide) rfl dX4_build_18 rfl hT.1 rfl ?_
  refine vr_icmp_ge 97 24 dX4_build_21 rfl rfl (fun c => ?_) (fun c => ?_)
  · replace h := h.1 c
    exact vr_vret rfl (Nat.le_refl _) (Nat.le_refl _) dX4_build_97 ⟨rfl, rfl, h⟩
  · replace h := h.2 c
    refine vr_aload_n 25 dX4_build_24 rfl rfl rfl ?_
    refine vr_getr 28 1 cl_X4 fl_X4_15 (by decide) dX4_build_25 rfl hT.1 rfl ?_
    refine vr_iload_n 29 dX4_build_28 rfl rfl rfl ?_
    refine vr_aload_n 30 dX4_build_29 rfl rfl rfl ?_
    refine vr_geti 33 5 5 cl_X4 fl_X4_30 (by decide) rfl dX4_build_30 rfl hT.1 rfl ?_
    obtain ⟨o1, h⟩ := h
    refine vr_iast 34 dX4_build_33 rfl hT.2.2.1 o1.1 o1.2 ?_
    refine vr_iconst 35 dX4_build_34 rfl ⟨by decide, by decide⟩ ?_
    refine vr_istore_n 36 [some (.inr (some 1)), some (.inl v1), some (.inl v2), some (.inl 0)] dX4_build_35 rfl rfl (by decide) rfl ?_
    exact h
set_option maxRecDepth 100000 in
theorem tX4_build_36 {l : Launch} {d : Nat} {sh : List vx_H} {Q : vx_M → Prop} (hT : vx_TW sh) (g : vx_M) (v1 v2 v3 : Int) (h : (0 ≤ v2 ∧ v2 < 4) ∧ (((g 2 v2) ≤ v3 → vx_in (v2 + 1) ∧ vN l mX4_build (d + 1) (vx_pv sh Q) sh g 16 [some (.inr (some 1)), some (.inl v1), some (.inl (v2 + 1)), none] []) ∧ (¬ (g 2 v2) ≤ v3 → ((7 ≤ (g 1 5) → vx_in (v2 + 1) ∧ vN l mX4_build (d + 1) (vx_pv sh Q) sh g 16 [some (.inr (some 1)), some (.inl v1), some (.inl (v2 + 1)), none] []) ∧ (¬ 7 ≤ (g 1 5) → (0 ≤ g 1 5 ∧ g 1 5 < 7) ∧ (∃ Q5 : vx_M → Prop, vNv l mX4_shareOut d [.inr (some 1), .inl (g 1 5), .inl v2, .inl v3] sh (vx_u g 4 (g 1 5) v2) Q5 ∧ ∀ g5 : vx_M, Q5 g5 → vx_in ((g5 1 5) + 1) ∧ vx_in (v3 + 1) ∧ vN l mX4_build (d + 1) (vx_pv sh Q) sh (vx_u g5 1 5 ((g5 1 5) + 1)) 36 [some (.inr (some 1)), some (.inl v1), some (.inl v2), some (.inl (v3 + 1))] [])))))) : vN l mX4_build (d + 1) (vx_pv sh Q) sh g 36 [some (.inr (some 1)), some (.inl v1), some (.inl v2), some (.inl v3)] [] := by
  refine vr_iload_n 37 dX4_build_36 rfl rfl rfl ?_
  refine vr_aload_n 38 dX4_build_37 rfl rfl rfl ?_
  refine vr_getr 41 0 cl_X4 fl_X4_9 (by decide) dX4_build_38 rfl hT.1 rfl ?_
  refine vr_iload_n 42 dX4_build_41 rfl rfl rfl ?_
  obtain ⟨o1, h⟩ := h
  refine vr_iald 43 dX4_build_42 rfl hT.2.1 o1.1 o1.2 ?_
  refine vr_icmp_ge 91 46 dX4_build_43 rfl rfl (fun c => ?_) (fun c => ?_)
  · replace h := h.1 c
    obtain ⟨o2, h⟩ := h
    refine vr_iinc 94 [some (.inr (some 1)), some (.inl v1), some (.inl (v2 + 1)), some (.inl v3)] dX4_build_91 rfl rfl o2 (by decide) rfl ?_
    refine vr_goto 16 dX4_build_94 rfl ?_
    exact vr_forget [some (.inr (some 1)), some (.inl v1), some (.inl (v2 + 1)), none] (vx_sub.get _ _ ⟨rfl, ⟨rfl, ⟨rfl, trivial⟩⟩⟩) h
  · replace h := h.2 c
    refine vr_aload_n 47 dX4_build_46 rfl rfl rfl ?_
    refine vr_geti 50 5 5 cl_X4 fl_X4_30 (by decide) rfl dX4_build_47 rfl hT.1 rfl ?_
    refine vr_bipush 52 dX4_build_50 rfl (by decide) ⟨by decide, by decide⟩ ?_
    refine vr_icmp_ge 91 55 dX4_build_52 rfl rfl (fun c => ?_) (fun c => ?_)
    · replace h := h.1 c
      obtain ⟨o3, h⟩ := h
      refine vr_iinc 94 [some (.inr (some 1)), some (.inl v1), some (.inl (v2 + 1)), some (.inl v3)] dX4_build_91 rfl rfl o3 (by decide) rfl ?_
      refine vr_goto 16 dX4_build_94 rfl ?_
      exact vr_forget [some (.inr (some 1)), some (.inl v1), some (.inl (v2 + 1)), none] (vx_sub.get _ _ ⟨rfl, ⟨rfl, ⟨rfl, trivial⟩⟩⟩) h
    · replace h := h.2 c
      refine vr_aload_n 56 dX4_build_55 rfl rfl rfl ?_
      refine vr_getr 59 2 cl_X4 fl_X4_18 (by decide) dX4_build_56 rfl hT.1 rfl ?_
      refine vr_aload_n 60 dX4_build_59 rfl rfl rfl ?_
      refine vr_geti 63 5 5 cl_X4 fl_X4_30 (by decide) rfl dX4_build_60 rfl hT.1 rfl ?_
      refine vr_iload_n 64 dX4_build_63 rfl rfl rfl ?_
      obtain ⟨o4, h⟩ := h
      refine vr_iast 65 dX4_build_64 rfl hT.2.2.2.1 o4.1 o4.2 ?_
      refine vr_aload_n 66 dX4_build_65 rfl rfl rfl ?_
      refine vr_aload_n 67 dX4_build_66 rfl rfl rfl ?_
      refine vr_geti 70 5 5 cl_X4 fl_X4_30 (by decide) rfl dX4_build_67 rfl hT.1 rfl ?_
      refine vr_iload_n 71 dX4_build_70 rfl rfl rfl ?_
      refine vr_iload_n 72 dX4_build_71 rfl rfl rfl ?_
      obtain ⟨Q5, hq, h⟩ := h
      refine vr_callVv 75 [.inl (g 1 5), .inl v2, .inl v3] 1 [] dX4_build_72 rfl mc_X4_43 dn_X4_shareOut rfl rfl hT.1 rfl (Nat.le_of_ble_eq_true rfl) (vx_rmR (by decide)) ⟨rfl, rfl⟩ ⟨Nat.le_refl _, Nat.le_refl _⟩ (fun _ _ => trivial) (fun _ _ => trivial) hq (fun sh9 g5 hp _ => ?_)
      obtain ⟨e9, -, hp⟩ := hp
      subst e9
      replace h := h g5 hp
      refine vr_aload_n 76 dX4_build_75 rfl rfl rfl ?_
      refine vr_dup 77 dX4_build_76 rfl ?_
      refine vr_geti 80 5 5 cl_X4 fl_X4_30 (by decide) rfl dX4_build_77 rfl hT.1 rfl ?_
      refine vr_iconst 81 dX4_build_80 rfl ⟨by decide, by decide⟩ ?_
      obtain ⟨o6, h⟩ := h
      refine vr_iadd 82 dX4_build_81 rfl o6 ?_
      refine vr_puti 85 5 5 cl_X4 fl_X4_30 (by decide) rfl rfl rfl dX4_build_82 rfl hT.1 rfl ?_
      obtain ⟨o7, h⟩ := h
      refine vr_iinc 88 [some (.inr (some 1)), some (.inl v1), some (.inl v2), some (.inl (v3 + 1))] dX4_build_85 rfl rfl o7 (by decide) rfl ?_
      refine vr_goto 36 dX4_build_88 rfl ?_
      exact h
set_option maxRecDepth 100000 in
theorem tX4_shareOut_0 {l : Launch} {d : Nat} {sh : List vx_H} {Q : vx_M → Prop} (hT : vx_TW sh) (g : vx_M) (v1 v2 v3 : Int) (h : (0 ≤ v1 ∧ v1 < 7) ∧ (∃ Q2 : vx_M → Prop, vNv l mJ7_fill_53178 d [.inr (some (6 + (v1).toNat)), .inl 0] sh g Q2 ∧ ∀ g2 : vx_M, Q2 g2 → ((v2 < 1 → Q g2) ∧ (¬ v2 < 1 → vx_in (v2 - 1) ∧ (0 ≤ v2 - 1 ∧ v2 - 1 < 4) ∧ ((1 ≤ (g2 2 (v2 - 1)) → vx_in (v2 - 1) ∧ (0 ≤ v2 - 1 ∧ v2 - 1 < 4) ∧ vx_in (v2 - 1) ∧ (0 ≤ v2 - 1 ∧ v2 - 1 < 4) ∧ (0 ≤ v3 ∧ 0 < (g2 2 (v2 - 1))) ∧ vx_in ((g2 3 (v2 - 1)) + (v3 % (g2 2 (v2 - 1)))) ∧ (∃ Q11 : vx_M → Prop, vNv l mX4_restHalfOn d [.inr (some 1), .inr (some (6 + (v1).toNat)), .inl ((g2 3 (v2 - 1)) + (v3 % (g2 2 (v2 - 1))))] sh g2 Q11 ∧ ∀ g11 : vx_M, Q11 g11 → vx_in (v2 - 1) ∧ (0 ≤ v2 - 1 ∧ v2 - 1 < 4) ∧ vx_in (v3 + 1) ∧ (0 ≤ (v3 + 1) ∧ 0 < (g2 2 (v2 - 1))) ∧ vx_in ((g11 3 (v2 - 1)) + ((v3 + 1) % (g2 2 (v2 - 1)))) ∧ (∃ Q17 : vx_M → Prop, vNv l mX4_restHalfOn d [.inr (some 1), .inr (some (6 + (v1).toNat)), .inl ((g11 3 (v2 - 1)) + ((v3 + 1) % (g2 2 (v2 - 1))))] sh g11 Q17 ∧ ∀ g17 : vx_M, Q17 g17 → Q g17))) ∧ (¬ 1 ≤ (g2 2 (v2 - 1)) → Q g2)))))) : vN l mX4_shareOut (d + 1) (vx_pv sh Q) sh g 0 [some (.inr (some 1)), some (.inl v1), some (.inl v2), some (.inl v3), none, none] [] := by
  refine vr_aload_n 1 dX4_shareOut_0 rfl rfl rfl ?_
  refine vr_getr 4 3 cl_X4 fl_X4_23 (by decide) dX4_shareOut_1 rfl hT.1 rfl ?_
  refine vr_iload_n 5 dX4_shareOut_4 rfl rfl rfl ?_
  obtain ⟨o1, h⟩ := h
  refine vr_aald 6 (6 + (v1).toNat) dX4_shareOut_5 rfl hT.2.2.2.2.1 o1.1 (ra_5 _ (by omega)) ?_
  refine vr_astore 8 [some (.inr (some 1)), some (.inl v1), some (.inl v2), some (.inl v3), some (.inr (some (6 + (v1).toNat))), none] dX4_shareOut_6 rfl (by decide) rfl ?_
  refine vr_aload 10 dX4_shareOut_8 rfl rfl ?_
  refine vr_iconst 11 dX4_shareOut_10 rfl ⟨by decide, by decide⟩ ?_
  obtain ⟨Q2, hq, h⟩ := h
  refine vr_callSv 14 [.inr (some (6 + (v1).toNat)), .inl 0] [] dX4_shareOut_11 rfl mc_X4_47 dn_J7_fill_53178 rfl rfl (Nat.le_of_ble_eq_true rfl) (vx_rmR (by decide)) ⟨rfl, rfl⟩ ⟨Nat.le_refl _, Nat.le_refl _⟩ (fun _ _ => trivial) (fun _ _ => trivial) hq (fun sh9 g2 hp _ => ?_)
  obtain ⟨e9, -, hp⟩ := hp
  subst e9
  replace h := h g2 hp
  refine vr_iload_n 15 dX4_shareOut_14 rfl rfl rfl ?_
  refine vr_iconst 16 dX4_shareOut_15 rfl ⟨by decide, by decide⟩ ?_
  refine vr_icmp_lt 31 19 dX4_shareOut_16 rfl rfl (fun c => ?_) (fun c => ?_)
  · replace h := h.1 c
    exact vr_vret rfl (Nat.le_refl _) (Nat.le_refl _) dX4_shareOut_31 ⟨rfl, rfl, h⟩
  · replace h := h.2 c
    refine vr_aload_n 20 dX4_shareOut_19 rfl rfl rfl ?_
    refine vr_getr 23 0 cl_X4 fl_X4_9 (by decide) dX4_shareOut_20 rfl hT.1 rfl ?_
    refine vr_iload_n 24 dX4_shareOut_23 rfl rfl rfl ?_
    refine vr_iconst 25 dX4_shareOut_24 rfl ⟨by decide, by decide⟩ ?_
    obtain ⟨o3, h⟩ := h
    refine vr_isub 26 dX4_shareOut_25 rfl o3 ?_
    obtain ⟨o4, h⟩ := h
    refine vr_iald 27 dX4_shareOut_26 rfl hT.2.1 o4.1 o4.2 ?_
    refine vr_iconst 28 dX4_shareOut_27 rfl ⟨by decide, by decide⟩ ?_
    refine vr_icmp_ge 32 31 dX4_shareOut_28 rfl rfl (fun c => ?_) (fun c => ?_)
    · replace h := h.1 c
      refine vr_aload_n 33 dX4_shareOut_32 rfl rfl rfl ?_
      refine vr_getr 36 0 cl_X4 fl_X4_9 (by decide) dX4_shareOut_33 rfl hT.1 rfl ?_
      refine vr_iload_n 37 dX4_shareOut_36 rfl rfl rfl ?_
      refine vr_iconst 38 dX4_shareOut_37 rfl ⟨by decide, by decide⟩ ?_
      obtain ⟨o5, h⟩ := h
      refine vr_isub 39 dX4_shareOut_38 rfl o5 ?_
      obtain ⟨o6, h⟩ := h
      refine vr_iald 40 dX4_shareOut_39 rfl hT.2.1 o6.1 o6.2 ?_
      refine vr_istore 42 [some (.inr (some 1)), some (.inl v1), some (.inl v2), some (.inl v3), some (.inr (some (6 + (v1).toNat))), some (.inl (g2 2 (v2 - 1)))] dX4_shareOut_40 rfl (by decide) rfl ?_
      refine vr_aload_n 43 dX4_shareOut_42 rfl rfl rfl ?_
      refine vr_aload 45 dX4_shareOut_43 rfl rfl ?_
      refine vr_aload_n 46 dX4_shareOut_45 rfl rfl rfl ?_
      refine vr_getr 49 1 cl_X4 fl_X4_15 (by decide) dX4_shareOut_46 rfl hT.1 rfl ?_
      refine vr_iload_n 50 dX4_shareOut_49 rfl rfl rfl ?_
      refine vr_iconst 51 dX4_shareOut_50 rfl ⟨by decide, by decide⟩ ?_
      obtain ⟨o7, h⟩ := h
      refine vr_isub 52 dX4_shareOut_51 rfl o7 ?_
      obtain ⟨o8, h⟩ := h
      refine vr_iald 53 dX4_shareOut_52 rfl hT.2.2.1 o8.1 o8.2 ?_
      refine vr_iload_n 54 dX4_shareOut_53 rfl rfl rfl ?_
      refine vr_iload 56 dX4_shareOut_54 rfl rfl ?_
      obtain ⟨o9, h⟩ := h
      refine vr_irem 57 dX4_shareOut_56 rfl o9.1 o9.2 ?_
      obtain ⟨o10, h⟩ := h
      refine vr_iadd 58 dX4_shareOut_57 rfl o10 ?_
      obtain ⟨Q11, hq, h⟩ := h
      refine vr_callVv 61 [.inr (some (6 + (v1).toNat)), .inl ((g2 3 (v2 - 1)) + (v3 % (g2 2 (v2 - 1))))] 1 [] dX4_shareOut_58 rfl mc_X4_53 dn_X4_restHalfOn rfl rfl hT.1 rfl (Nat.le_of_ble_eq_true rfl) (vx_rmR (by decide)) ⟨rfl, rfl⟩ ⟨Nat.le_refl _, Nat.le_refl _⟩ (fun _ _ => trivial) (fun _ _ => trivial) hq (fun sh9 g11 hp _ => ?_)
      obtain ⟨e9, -, hp⟩ := hp
      subst e9
      replace h := h g11 hp
      refine vr_aload_n 62 dX4_shareOut_61 rfl rfl rfl ?_
      refine vr_aload 64 dX4_shareOut_62 rfl rfl ?_
      refine vr_aload_n 65 dX4_shareOut_64 rfl rfl rfl ?_
      refine vr_getr 68 1 cl_X4 fl_X4_15 (by decide) dX4_shareOut_65 rfl hT.1 rfl ?_
      refine vr_iload_n 69 dX4_shareOut_68 rfl rfl rfl ?_
      refine vr_iconst 70 dX4_shareOut_69 rfl ⟨by decide, by decide⟩ ?_
      obtain ⟨o12, h⟩ := h
      refine vr_isub 71 dX4_shareOut_70 rfl o12 ?_
      obtain ⟨o13, h⟩ := h
      refine vr_iald 72 dX4_shareOut_71 rfl hT.2.2.1 o13.1 o13.2 ?_
      refine vr_iload_n 73 dX4_shareOut_72 rfl rfl rfl ?_
      refine vr_iconst 74 dX4_shareOut_73 rfl ⟨by decide, by decide⟩ ?_
      obtain ⟨o14, h⟩ := h
      refine vr_iadd 75 dX4_shareOut_74 rfl o14 ?_
      refine vr_iload 77 dX4_shareOut_75 rfl rfl ?_
      obtain ⟨o15, h⟩ := h
      refine vr_irem 78 dX4_shareOut_77 rfl o15.1 o15.2 ?_
      obtain ⟨o16, h⟩ := h
      refine vr_iadd 79 dX4_shareOut_78 rfl o16 ?_
      obtain ⟨Q17, hq, h⟩ := h
      refine vr_callVv 82 [.inr (some (6 + (v1).toNat)), .inl ((g11 3 (v2 - 1)) + ((v3 + 1) % (g2 2 (v2 - 1))))] 1 [] dX4_shareOut_79 rfl mc_X4_53 dn_X4_restHalfOn rfl rfl hT.1 rfl (Nat.le_of_ble_eq_true rfl) (vx_rmR (by decide)) ⟨rfl, rfl⟩ ⟨Nat.le_refl _, Nat.le_refl _⟩ (fun _ _ => trivial) (fun _ _ => trivial) hq (fun sh9 g17 hp _ => ?_)
      obtain ⟨e9, -, hp⟩ := hp
      subst e9
      replace h := h g17 hp
      exact vr_vret rfl (Nat.le_refl _) (Nat.le_refl _) dX4_shareOut_82 ⟨rfl, rfl, h⟩
    · replace h := h.2 c
      exact vr_vret rfl (Nat.le_refl _) (Nat.le_refl _) dX4_shareOut_31 ⟨rfl, rfl, h⟩
theorem kX4_shareOut {l : Launch} {d : Nat} {sh : List vx_H} {Q : vx_M → Prop} (hT : vx_TW sh) (g : vx_M) (v1 v2 v3 : Int) (h : (0 ≤ v1 ∧ v1 < 7) ∧ (∃ Q2 : vx_M → Prop, vNv l mJ7_fill_53178 d [.inr (some (6 + (v1).toNat)), .inl 0] sh g Q2 ∧ ∀ g2 : vx_M, Q2 g2 → ((v2 < 1 → Q g2) ∧ (¬ v2 < 1 → vx_in (v2 - 1) ∧ (0 ≤ v2 - 1 ∧ v2 - 1 < 4) ∧ ((1 ≤ (g2 2 (v2 - 1)) → vx_in (v2 - 1) ∧ (0 ≤ v2 - 1 ∧ v2 - 1 < 4) ∧ vx_in (v2 - 1) ∧ (0 ≤ v2 - 1 ∧ v2 - 1 < 4) ∧ (0 ≤ v3 ∧ 0 < (g2 2 (v2 - 1))) ∧ vx_in ((g2 3 (v2 - 1)) + (v3 % (g2 2 (v2 - 1)))) ∧ (∃ Q11 : vx_M → Prop, vNv l mX4_restHalfOn d [.inr (some 1), .inr (some (6 + (v1).toNat)), .inl ((g2 3 (v2 - 1)) + (v3 % (g2 2 (v2 - 1))))] sh g2 Q11 ∧ ∀ g11 : vx_M, Q11 g11 → vx_in (v2 - 1) ∧ (0 ≤ v2 - 1 ∧ v2 - 1 < 4) ∧ vx_in (v3 + 1) ∧ (0 ≤ (v3 + 1) ∧ 0 < (g2 2 (v2 - 1))) ∧ vx_in ((g11 3 (v2 - 1)) + ((v3 + 1) % (g2 2 (v2 - 1)))) ∧ (∃ Q17 : vx_M → Prop, vNv l mX4_restHalfOn d [.inr (some 1), .inr (some (6 + (v1).toNat)), .inl ((g11 3 (v2 - 1)) + ((v3 + 1) % (g2 2 (v2 - 1))))] sh g11 Q17 ∧ ∀ g17 : vx_M, Q17 g17 → Q g17))) ∧ (¬ 1 ≤ (g2 2 (v2 - 1)) → Q g2)))))) : vNv l mX4_shareOut (d + 1) [.inr (some 1), .inl v1, .inl v2, .inl v3] sh g Q := vNv_of [some (.inr (some 1)), some (.inl v1), some (.inl v2), some (.inl v3), none, none] pn_X4 (Nat.le_of_ble_eq_true rfl) rfl (tX4_shareOut_0 hT g v1 v2 v3 h)
set_option maxRecDepth 100000 in
theorem tX4_restHalfOn_0 {l : Launch} {d : Nat} {sh : List vx_H} {Q : vx_M → Prop} {kr : Nat} (hT : vx_TW sh) (hkr : sh[kr]? = some (.inr (.inl (false, 7)))) (g : vx_M) (v2 : Int) (h : (0 ≤ v2 ∧ v2 < 7) ∧ vx_in ((g (kr) v2) + 4) ∧ (0 ≤ v2 ∧ v2 < 7) ∧ vN l mX4_restHalfOn d (vx_pv sh Q) sh (vx_u g (kr) v2 ((g (kr) v2) + 4)) 9 [some (.inr (some 1)), some (.inr (some (kr))), some (.inl v2), some (.inl 0)] []) : vN l mX4_restHalfOn d (vx_pv sh Q) sh g 0 [some (.inr (some 1)), some (.inr (some (kr))), some (.inl v2), none] [] := by
  refine vr_aload_n 1 dX4_restHalfOn_0 rfl rfl rfl ?_
  refine vr_iload_n 2 dX4_restHalfOn_1 rfl rfl rfl ?_
  refine vr_dup2 3 dX4_restHalfOn_2 rfl ?_
  obtain ⟨o1, h⟩ := h
  refine vr_iald 4 dX4_restHalfOn_3 rfl hkr o1.1 o1.2 ?_
  refine vr_iconst 5 dX4_restHalfOn_4 rfl ⟨by decide, by decide⟩ ?_
  obtain ⟨o2, h⟩ := h
  refine vr_iadd 6 dX4_restHalfOn_5 rfl o2 ?_
  obtain ⟨o3, h⟩ := h
  refine vr_iast 7 dX4_restHalfOn_6 rfl hkr o3.1 o3.2 ?_
  refine vr_iconst 8 dX4_restHalfOn_7 rfl ⟨by decide, by decide⟩ ?_
  refine vr_istore_n 9 [some (.inr (some 1)), some (.inr (some (kr))), some (.inl v2), some (.inl 0)] dX4_restHalfOn_8 rfl rfl (by decide) rfl ?_
  exact h
theorem kX4_restHalfOn {l : Launch} {d : Nat} {sh : List vx_H} {Q : vx_M → Prop} {kr : Nat} (hT : vx_TW sh) (hkr : sh[kr]? = some (.inr (.inl (false, 7)))) (g : vx_M) (v2 : Int) (h : (0 ≤ v2 ∧ v2 < 7) ∧ vx_in ((g (kr) v2) + 4) ∧ (0 ≤ v2 ∧ v2 < 7) ∧ vN l mX4_restHalfOn d (vx_pv sh Q) sh (vx_u g (kr) v2 ((g (kr) v2) + 4)) 9 [some (.inr (some 1)), some (.inr (some (kr))), some (.inl v2), some (.inl 0)] []) : vNv l mX4_restHalfOn d [.inr (some 1), .inr (some (kr)), .inl v2] sh g Q := vNv_of [some (.inr (some 1)), some (.inr (some (kr))), some (.inl v2), none] pn_X4 (Nat.le_of_ble_eq_true rfl) rfl (tX4_restHalfOn_0 hT hkr g v2 h)
set_option maxRecDepth 100000 in
theorem tX4_restHalfOn_9 {l : Launch} {d : Nat} {sh : List vx_H} {Q : vx_M → Prop} {kr : Nat} (hT : vx_TW sh) (hkr : sh[kr]? = some (.inr (.inl (false, 7)))) (g : vx_M) (v2 v3 : Int) (h : ((v2 ≤ v3 → Q g) ∧ (¬ v2 ≤ v3 → (0 ≤ v3 ∧ v3 < 7) ∧ (0 ≤ v2 ∧ v2 < 7) ∧ (0 ≤ v3 ∧ v3 < 7) ∧ (0 ≤ (g (6 + (v2).toNat) v3)) ∧ vx_in ((g (kr) v3) + ((g (6 + (v2).toNat) v3) / 2)) ∧ (0 ≤ v3 ∧ v3 < 7) ∧ vx_in (v3 + 1) ∧ vN l mX4_restHalfOn d (vx_pv sh Q) sh (vx_u g (kr) v3 ((g (kr) v3) + ((g (6 + (v2).toNat) v3) / 2))) 9 [some (.inr (some 1)), some (.inr (some (kr))), some (.inl v2), some (.inl (v3 + 1))] []))) : vN l mX4_restHalfOn d (vx_pv sh Q) sh g 9 [some (.inr (some 1)), some (.inr (some (kr))), some (.inl v2), some (.inl v3)] [] := by
  refine vr_iload_n 10 dX4_restHalfOn_9 rfl rfl rfl ?_
  refine vr_iload_n 11 dX4_restHalfOn_10 rfl rfl rfl ?_
  refine vr_icmp_ge 36 14 dX4_restHalfOn_11 rfl rfl (fun c => ?_) (fun c => ?_)
  · replace h := h.1 c
    exact vr_vret rfl (Nat.le_refl _) (Nat.le_refl _) dX4_restHalfOn_36 ⟨rfl, rfl, h⟩
  · replace h := h.2 c
    refine vr_aload_n 15 dX4_restHalfOn_14 rfl rfl rfl ?_
    refine vr_iload_n 16 dX4_restHalfOn_15 rfl rfl rfl ?_
    refine vr_dup2 17 dX4_restHalfOn_16 rfl ?_
    obtain ⟨o1, h⟩ := h
    refine vr_iald 18 dX4_restHalfOn_17 rfl hkr o1.1 o1.2 ?_
    refine vr_aload_n 19 dX4_restHalfOn_18 rfl rfl rfl ?_
    refine vr_getr 22 3 cl_X4 fl_X4_23 (by decide) dX4_restHalfOn_19 rfl hT.1 rfl ?_
    refine vr_iload_n 23 dX4_restHalfOn_22 rfl rfl rfl ?_
    obtain ⟨o2, h⟩ := h
    refine vr_aald 24 (6 + (v2).toNat) dX4_restHalfOn_23 rfl hT.2.2.2.2.1 o2.1 (ra_5 _ (by omega)) ?_
    refine vr_iload_n 25 dX4_restHalfOn_24 rfl rfl rfl ?_
    obtain ⟨o3, h⟩ := h
    refine vr_iald 26 dX4_restHalfOn_25 rfl (hT.2.2.2.2.2 _ (by omega : (v2).toNat < 7)) o3.1 o3.2 ?_
    refine vr_iconst 27 dX4_restHalfOn_26 rfl ⟨by decide, by decide⟩ ?_
    obtain ⟨o4, h⟩ := h
    refine vr_idiv 28 dX4_restHalfOn_27 rfl o4 (by decide) ?_
    obtain ⟨o5, h⟩ := h
    refine vr_iadd 29 dX4_restHalfOn_28 rfl o5 ?_
    obtain ⟨o6, h⟩ := h
    refine vr_iast 30 dX4_restHalfOn_29 rfl hkr o6.1 o6.2 ?_
    obtain ⟨o7, h⟩ := h
    refine vr_iinc 33 [some (.inr (some 1)), some (.inr (some (kr))), some (.inl v2), some (.inl (v3 + 1))] dX4_restHalfOn_30 rfl rfl o7 (by decide) rfl ?_
    refine vr_goto 9 dX4_restHalfOn_33 rfl ?_
    exact h

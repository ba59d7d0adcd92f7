section LAWB
variable {p : Program} {l : Launch} {e : Env} {s : State} {m : MethodId} {below : List Frame} {meth : Method} {c : Code} {b L : Nat} {xs : Nat → Int32} {D : va_G} {cs : vx_Cs} {ad : Nat → Nat} {g : vx_M} {H : Heap} {locs : List Loc} {ls : Array Slot} {j : Nat}
set_option maxHeartbeats 4000000 in
theorem law_loop (C : lwC p s m meth c b L xs D cs) : ∀ (n j : Nat), j ≤ L → L + 1 ≤ j + n → ∀ (σ : SG) (g : vx_M) (H : Heap) (locs : List Loc) (ls : Array Slot), 6 * sT σ ≤ 1000 * j → lwW s D cs ad g H locs → RC σ g → RM σ g → lwL b ad j ls → W p l e room_1 s m #[Value.ref b] below meth c H locs 600000 7302250 (lw_Z below #[Value.ref b] s) (F0 m 18 ls []) := by
  intro n
  induction n with
  | zero =>
    intro j h1 h2
    exact absurd h2 (by omega)
  | succ n ih =>
    intro j hjL hn σ g H locs ls hsT w hR hR2 hl
    obtain ⟨⟨hx, hb, hr, hml, hown, hts0, hX, hbl, hlocks, hgv⟩, hK, hKN, hL⟩ := id C
    obtain ⟨hP, hD, hS, hg⟩ := id w
    have hbA : ¬ lw_A s b := Nat.not_le.mpr hbl
    have e1 : nI L - 6 = Int32.ofInt ((L : Int) - 6) := by
      rw [Int32.ofInt_sub, Int32.ofInt_eq_ofNat]
      rfl
    have e2 : nI j = Int32.ofInt (j : Int) := by
      rw [Int32.ofInt_eq_ofNat]
      rfl
    have hcmp : nI L - 6 < nI j ↔ (L : Int) - 6 < j := by
      rw [e1, e2]
      exact vx_lt ⟨by omega, by omega⟩ ⟨by omega, by omega⟩
    refine lv_iload_n hx hb dL_law_18 rfl (lv_at hl 3 rfl) ?_
    refine lv_aload_n hx hb dL_law_19 rfl (lv_at hl 0 rfl) ?_
    refine va_slen hx hb hX hbl hbA hS dL_law_20 ?_
    refine lv_bipush (v := 6) hx hb dL_law_21 (by decide) ?_
    refine lv_isub hx hb dL_law_23 ?_
    refine lv_icmp_gt (tgt := 596) hx hb dL_law_24 (by decide) (fun q => ?_) (fun q => ?_)
    · refine lv_iconst (v := 1) hx hb dL_law_596 (by decide) ?_
      refine va_forget (fun q hq => hS.2.2 q hq) ?_
      exact lw_ret hx hb hr hlocks dL_law_597
    · have hj : j + 6 ≤ L := by
        rcases Nat.lt_or_ge L (j + 6) with h | h
        · exact absurd (hcmp.mpr (by omega)) q
        · exact h
      have hT : sT σ + 1000 ≤ 1000000 := by omega
      have tail : ∀ (g' : vx_M) (H' : Heap) (locs' : List Loc) (σ' : SG), lwW s D cs ad g' H' locs' → RC σ' g' → RM σ' g' → sT σ' ≤ sT σ + 1000 → W p l e room_1 s m #[Value.ref b] below meth c H' locs' 600000 7302250 (lw_Z below #[Value.ref b] s) (F0 m 590 ls []) := by
        intro g' H' locs' σ' w' r1 r2 hs'
        refine lv_iinc (v := nI (j + 6)) (lv' := [(3, .int (nI (j + 6))), (0, .ref b), (1, .ref (ad 0)), (2, .ref (ad 40))]) hx hb dL_law_590 hl (k := 3) rfl (nI_add j 6) (by decide) rfl (fun ls9 hl9 => ?_)
        refine lv_goto (tgt := 18) hx hb dL_law_593 (by decide) ?_
        exact ih (j + 6) (by omega) (by omega) σ' g' H' locs' ls9 (by omega) w' r1 r2 (lv_sub hl9 [1, 2, 3, 0] rfl)
      refine lv_aload_n hx hb dL_law_27 rfl (lv_at hl 0 rfl) ?_
      refine lv_iload_n hx hb dL_law_28 rfl (lv_at hl 3 rfl) ?_
      refine va_sld hx hb hX hbl hbA hS (vp_in_nI (by omega) (by omega)) dL_law_29 ?_
      refine lv_bipush (v := 31) hx hb dL_law_30 (by decide) ?_
      refine lv_iand hx hb dL_law_32 ?_
      generalize xs (nI j).toNatClampNeg &&& 31 = x
      by_cases ho : x.toInt < 0 ∨ 17 < x.toInt
      · refine lv_tableOut (tgt := 590) hx hb dL_law_33 ho rfl ?_
        exact tail g H locs σ w hR hR2 (by omega)
      by_cases h0 : x.toInt = 0
      · refine lv_tableIn (tgt := 120) hx hb dL_law_33 (by omega) (by omega) (by rw [h0]; rfl) rfl ?_
        exact law_storeys C w hl hj hR hR2 hT tail
      by_cases h1 : x.toInt = 1
      · refine lv_tableIn (tgt := 143) hx hb dL_law_33 (by omega) (by omega) (by rw [h1]; rfl) rfl ?_
        exact law_width C w hl hj hR hR2 hT tail
      by_cases h2 : x.toInt = 2
      · refine lv_tableIn (tgt := 176) hx hb dL_law_33 (by omega) (by omega) (by rw [h2]; rfl) rfl ?_
        exact law_person C w hl hj hR hR2 hT tail
      by_cases h3 : x.toInt = 3
      · refine lv_tableIn (tgt := 239) hx hb dL_law_33 (by omega) (by omega) (by rw [h3]; rfl) rfl ?_
        exact law_out C w hl hj hR hR2 hT tail
      by_cases h4 : x.toInt = 4
      · refine lv_tableIn (tgt := 288) hx hb dL_law_33 (by omega) (by omega) (by rw [h4]; rfl) rfl ?_
        exact law_play C w hl hj hR hR2 hT tail
      by_cases h5 : x.toInt = 5
      · refine lv_tableIn (tgt := 311) hx hb dL_law_33 (by omega) (by omega) (by rw [h5]; rfl) rfl ?_
        exact law_fits C w hl hj hR hR2 hT tail
      by_cases h6 : x.toInt = 6
      · refine lv_tableIn (tgt := 324) hx hb dL_law_33 (by omega) (by omega) (by rw [h6]; rfl) rfl ?_
        exact law_level C w hl hj hR hR2 hT tail
      by_cases h7 : x.toInt = 7
      · refine lv_tableIn (tgt := 337) hx hb dL_law_33 (by omega) (by omega) (by rw [h7]; rfl) rfl ?_
        exact law_close C w hl hj hR hR2 hT tail
      by_cases h8 : x.toInt = 8
      · refine lv_tableIn (tgt := 350) hx hb dL_law_33 (by omega) (by omega) (by rw [h8]; rfl) rfl ?_
        exact law_take C w hl hj hR hR2 hT tail
      by_cases h9 : x.toInt = 9
      · refine lv_tableIn (tgt := 373) hx hb dL_law_33 (by omega) (by omega) (by rw [h9]; rfl) rfl ?_
        exact law_at C w hl hj hR hR2 hT tail
      by_cases h10 : x.toInt = 10
      · refine lv_tableIn (tgt := 396) hx hb dL_law_33 (by omega) (by omega) (by rw [h10]; rfl) rfl ?_
        exact law_load C w hl hj hR hR2 hT tail
      by_cases h11 : x.toInt = 11
      · refine lv_tableIn (tgt := 419) hx hb dL_law_33 (by omega) (by omega) (by rw [h11]; rfl) rfl ?_
        exact law_swap C w hl hj hR hR2 hT tail
      by_cases h12 : x.toInt = 12
      · refine lv_tableIn (tgt := 452) hx hb dL_law_33 (by omega) (by omega) (by rw [h12]; rfl) rfl ?_
        exact law_tick C w hl hj hR hR2 hT tail
      by_cases h13 : x.toInt = 13
      · refine lv_tableIn (tgt := 475) hx hb dL_law_33 (by omega) (by omega) (by rw [h13]; rfl) rfl ?_
        exact law_weak C w hl hj hR hR2 hT tail
      by_cases h14 : x.toInt = 14
      · refine lv_tableIn (tgt := 488) hx hb dL_law_33 (by omega) (by omega) (by rw [h14]; rfl) rfl ?_
        exact law_effort C w hl hj hR hR2 hT tail
      by_cases h15 : x.toInt = 15
      · refine lv_tableIn (tgt := 521) hx hb dL_law_33 (by omega) (by omega) (by rw [h15]; rfl) rfl ?_
        exact law_worths C w hl hj hR hR2 hT tail
      by_cases h16 : x.toInt = 16
      · refine lv_tableIn (tgt := 554) hx hb dL_law_33 (by omega) (by omega) (by rw [h16]; rfl) rfl ?_
        exact law_attempt C w hl hj hR hR2 hT tail
      by_cases h17 : x.toInt = 17
      · refine lv_tableIn (tgt := 567) hx hb dL_law_33 (by omega) (by omega) (by rw [h17]; rfl) rfl ?_
        exact law_count C w hl hj hR hR2 hT tail
      exact absurd ho (by omega)
/-- the same with any cells -/
def lwV (s : State) (D : va_G) (cs : vx_Cs) (ad : Nat → Nat) (sh : List vx_H) (g : vx_M) (H : Heap) (locs : List Loc) : Prop := va_P D vwCl (vx_w cs ad sh g) H ∧ va_D (lw_A s) (vx_w cs ad sh g) ∧ va_S (lw_A s) s.heap H locs ∧ vx_gR g
set_option maxHeartbeats 4000000 in
theorem law_new {sh sh' : List vx_H} {k' kc ks pc : Nat} {st : List Value} (fs0 : List (Option (Option Nat))) {ci : Nat} {Cn : String} {T : u_T} {N : Nat} {ty : Nat → FieldType} {idx : Nat} (C : lwC p s m meth c b L xs D cs) (w : lwV s D cs ad sh g H locs) (hcl : vx_cl ci Cn T N ty) (hlk9 : Cond.classLink RL idx Cn ∈ vx_tb) (hin9 : Cond.instantiable Cn N ∈ vx_tb) (hini : Cond.initialized Cn ∈ vx_tb) (hd : decode code pc = .ok (.new idx, 3)) (hfs : ∀ j, j < N → (fs0[j]? = some none ∧ defaultValue (ty j) = .int 0) ∨ (fs0[j]? = some (some none) ∧ defaultValue (ty j) = .null)) (hf : kc + 1 ≤ room_1.cells ∧ ks + N ≤ room_1.slots) (hnr : ∀ (i x : Nat), fs0[i]? ≠ some (some (some x))) (hok : sh.all (vx_rh sh.length) = true) (hsh : sh ++ [.inl (ci, fs0)] = sh') (hk' : sh.length = k')
    (kk : ∀ (ad' : Nat → Nat) (H1 : Heap), (∀ i, i < k' → ad' i = ad i) → lwV s D cs ad' sh' (vx_z g k') H1 locs → W p l e room_1 s m #[Value.ref b] below meth c H1 locs (kc + 1) (ks + N) (lw_Z below #[Value.ref b] s) (F0 m (pc + 3) ls (.ref (ad' k') :: st))) : W p l e room_1 s m #[Value.ref b] below meth c H locs kc ks (lw_Z below #[Value.ref b] s) (F0 m pc ls st) := by
  obtain ⟨⟨hx, hb, hr, hml, hown, hts0, hX, hbl, hlocks, hgv⟩, hK, hKN, hL⟩ := C
  obtain ⟨hP, hD, hS, hg⟩ := w
  have hown : s.vm.findClass RL = some m.cls := hown
  have hts : ∀ w ∈ vx_tb, w.before #[Value.ref b] s = true := fun w hw => hts0 w (List.mem_filter.mp hw).1
  have hA : ∀ q, s.heap.size ≤ q → lw_A s q := fun _ h => h
  subst hsh
  subst hk'
  refine va_new (fs := vx_fs (fun k => k) (vx_z g sh.length) sh.length fs0) hx hb hts hcl.2.1 ty hcl.2.2.1 hown (hts _ hlk9) (hts _ hin9) (hts _ hini) hK hP hD hS hA hcl.1 (fun j hj => ?_) hf.1 hf.2 hd (fun q H1 hP2 hD2 hS1 => ?_)
  · unfold vp_V
    rcases hfs j hj with ⟨h1, h2⟩ | ⟨h1, h2⟩
    · rw [List.getD_eq_getElem?_getD, vx_fs_get h1, h2]
      show Value.int 0 = Value.int (Int32.ofInt (vx_z g sh.length sh.length j))
      rw [show vx_z g sh.length sh.length j = 0 from if_pos (Nat.le_refl _)]
      rfl
    · rw [List.getD_eq_getElem?_getD, vx_fs_get h1, h2]
      rfl
  have hok1 : ∀ i, i < sh.length → (fun k => if k < sh.length then ad k else q) i = ad i := fun i hi => if_pos hi
  have hz1 : ∀ a b, a < sh.length → vx_z g sh.length a b = g a b := fun a b h => if_neg (by omega)
  have efs : vx_fs (fun k => k) (vx_z g sh.length) sh.length fs0 = vx_fs (fun k => if k < sh.length then ad k else q) (vx_z g sh.length) (sh.length + 0) fs0 := by
    apply List.ext_getElem?
    intro i
    unfold vx_fs
    rw [List.getElem?_mapIdx, List.getElem?_mapIdx]
    cases hi : fs0[i]? with
    | none => rfl
    | some f =>
      cases f with
      | none => rfl
      | some r =>
        cases r with
        | none => rfl
        | some x => exact absurd hi (hnr i x)
  rw [efs] at hP2 hD2
  have ew := vx_w_app (cs := cs) (ad := ad) (ad' := (fun k => if k < sh.length then ad k else q)) (g := g) (g' := vx_z g sh.length) (hs := [.inl (ci, fs0)]) hok hok1 hz1
  have eq1 : (fun k => if k < sh.length then ad k else q) (sh.length + 0) = q := if_neg (by omega)
  have eq2 : (fun k => if k < sh.length then ad k else q) sh.length = q := if_neg (by omega)
  have hP1 : va_P D vwCl (vx_w cs (fun k => if k < sh.length then ad k else q) (sh ++ [.inl (ci, fs0)]) (vx_z g sh.length)) H1 := by
    rw [ew]
    show va_P D vwCl (_ ++ [((fun k => if k < sh.length then ad k else q) (sh.length + 0), vx_e cs (fun k => if k < sh.length then ad k else q) (vx_z g sh.length) (sh.length + 0) (.inl (ci, fs0)))]) H1
    rw [eq1]; exact hP2
  have hD1 : va_D (lw_A s) (vx_w cs (fun k => if k < sh.length then ad k else q) (sh ++ [.inl (ci, fs0)]) (vx_z g sh.length)) := by
    rw [ew]
    show va_D (lw_A s) (_ ++ [((fun k => if k < sh.length then ad k else q) (sh.length + 0), vx_e cs (fun k => if k < sh.length then ad k else q) (vx_z g sh.length) (sh.length + 0) (.inl (ci, fs0)))])
    rw [eq1]; exact hD2
  have k9 := kk (fun k => if k < sh.length then ad k else q) H1 hok1 ⟨hP1, hD1, hS1, vx_gR_z hg⟩
  rw [if_neg (Nat.lt_irrefl _)] at k9
  exact k9
set_option maxHeartbeats 4000000 in
theorem law_init {M2 : vx_Me} {R2 : Room} {Na2 : Nat → Prop} {P2 : vx_P} {sh : List vx_H} {idx pc kc ks mc2 ms2 : Nat} {lv : List (Nat × Value)} (C : lwC p s m meth c b L xs D cs) (w : lwV s D cs ad sh g H locs) (hl : lv_has ls 4 lv) (k0 : Nat) (rest : List Value) {st : List Value} (hd : decode code pc = .ok (.invokespecial idx, 3)) (hw : vx_mi RL idx M2) (hdn : vx_dn M2 0) (hini : M2.1.name = "<init>") (hret : M2.2.2.2 = none) (hrest : (rest.map fun v => v.category).sum ≤ 8) (hR : R2.frames + 1 ≤ room_1.frames ∧ 8 + (M2.2.2.1 + 11) + R2.locals ≤ room_1.locals) (hrc : R2.cells = mc2 ∧ R2.slots = ms2) (hf : kc + mc2 ≤ room_1.cells ∧ ks + ms2 ≤ room_1.slots) (hM : vx_Cv l M2 R2 Na2 mc2 ms2 [.inr (some k0)] sh g P2) (hst : Value.ref (ad k0) :: rest = st)
    (kk : ∀ (sh' : List vx_H) (g' : vx_M) (ad' : Nat → Nat) (H' : Heap) (locs' : List Loc), P2 none sh' g' → (∀ k, Na2 k → ad' k = ad k) → lwV s D cs ad' sh' g' H' locs' → W p l e room_1 s m #[Value.ref b] below meth c H' locs' (kc + mc2) (ks + ms2) (lw_Z below #[Value.ref b] s) (F0 m (pc + 3) ls rest)) : W p l e room_1 s m #[Value.ref b] below meth c H locs kc ks (lw_Z below #[Value.ref b] s) (F0 m pc ls st) := by
  obtain ⟨⟨hx, hb, hr, hml, hown, hts0, hX, hbl, hlocks, hgv⟩, hK, hKN, hL⟩ := C
  obtain ⟨hP, hD, hS, hg⟩ := w
  subst hst
  have hown : s.vm.findClass RL = some m.cls := hown
  have hts : ∀ w ∈ vx_tb, w.before #[Value.ref b] s = true := fun w hw => hts0 w (List.mem_filter.mp hw).1
  have hA : ∀ q, s.heap.size ≤ q → lw_A s q := fun _ h => h
  have hM1 := hM hg (vx_sR_r (fun _ h => by cases h)) D cs ad H.size
  have hFc : ∀ q, va_A (vx_w cs ad sh g) H.size q → lw_A s q := fun q h => by
    rcases h with ⟨k, e9, h⟩ | h
    · exact hD.2 k (q, e9) h
    · exact hA q (Nat.le_trans hS.1 h)
  have hbl2 : FrameBlind (va_Pc (([.inr (some k0)] : List vx_V).map (vx_v ad)) (fun U => U.heap.size = H.size ∧ va_P D vwCl (vx_w cs ad sh g) U.heap ∧ (va_K D vwCl (vx_t cs) U ∧ vx_N U) ∧ va_D (fun _ => True) (vx_w cs ad sh g))) := fun a U g9 mk q => by
    obtain ⟨q0, q1, qP, qK, qD⟩ := q
    exact ⟨q0, q1, qP, ⟨va_K.moved (u := U) (U := U.calling g9 mk a) (Vm.Alike.refl U.vm) qK.1, vx_N.same rfl qK.2⟩, qD⟩
  refine va_callv (va_runI (As := []) (rest := rest) ⟨hx, hb, hml, hown, hts⟩ hM1 (cwI 0 hts (vx_good hw.2.2.2) (by rw [hret]) hrc.1 hrc.2 (hts _ hw.2.2.1) (hts _ hw.1) (hts _ hw.2.1) hini hdn hR) ⟨hbl2, fun U hU hW => ⟨rfl, by rw [hU], by rw [hU]; exact hP, ⟨va_K.moved hW.alike hK, hKN.warm hW⟩, hD.weaken (fun _ _ _ _ => trivial)⟩⟩ rfl rfl hl.1 rfl (lv_room hrest) hd hf) hS (fun q _ h => hFc q h) hFc (fun u t H1 locs1 ht hvm hw1 hB hz1 hk1 hS1 => ?_)
  obtain ⟨sh', g', ad'⟩ := u
  obtain ⟨hp2, hg2, hna⟩ := hw1
  obtain ⟨hP1, hK1, hD1⟩ := hB
  rw [ht] at hP1
  dsimp only at hp2 hg2 hna hP1 hD1
  exact kk sh' g' ad' H1 locs1 hp2 hna ⟨hP1, hD1.weaken (fun _ _ _ h => hFc _ h), hS1, hg2⟩
end LAWB

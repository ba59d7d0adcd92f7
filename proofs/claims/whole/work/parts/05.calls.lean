theorem lw_good : ∀ w ∈ vx_tb, goodWord w = true := fun w hw => (List.mem_filter.mp hw).2
theorem vx_good1 {w : Cond} (h : w ∈ vx_tb) : w ∈ vx_tb ∧ ((w.onTables && w.keeps) = true ∨ ∃ ty, w = .arrayClass ty) := ⟨h, good_of_word (lw_good w h)⟩
theorem vx_good {M2 : vx_Me} (hc : Cond.code M2.1 M2.2.1 M2.2.2.1 M2.2.2.2 ∈ vx_tb) : GoodIn vx_tb (Cond.code M2.1 M2.2.1 M2.2.2.1 M2.2.2.2 :: vx_tb) := fun w hw => by
  rcases List.mem_cons.mp hw with rfl | h
  · exact vx_good1 hc
  · exact vx_good1 h
def vx_mv (own : String) (idx : Nat) (M2 : vx_Me) : Prop := Cond.methodLink own idx M2.1 ∈ vx_tb ∧ Cond.instanceMethod M2.1 ∈ vx_tb ∧ Cond.selects M2.1.cls M2.1 M2.1 ∈ vx_tb ∧ Cond.initialized M2.1.cls ∈ vx_tb ∧ Cond.code M2.1 M2.2.1 M2.2.2.1 M2.2.2.2 ∈ vx_tb
def vx_ms (own : String) (idx : Nat) (M2 : vx_Me) : Prop := Cond.methodLink own idx M2.1 ∈ vx_tb ∧ Cond.static M2.1 ∈ vx_tb ∧ Cond.initialized M2.1.cls ∈ vx_tb ∧ Cond.code M2.1 M2.2.1 M2.2.2.1 M2.2.2.2 ∈ vx_tb
def vx_mi (own : String) (idx : Nat) (M2 : vx_Me) : Prop := Cond.methodLink own idx M2.1 ∈ vx_tb ∧ Cond.instanceMethod M2.1 ∈ vx_tb ∧ Cond.initialized M2.1.cls ∈ vx_tb ∧ Cond.code M2.1 M2.2.1 M2.2.2.1 M2.2.2.2 ∈ vx_tb
def vx_mn (own : String) (idx : Nat) (M2 : vx_Me) (host : String) : Prop := (∀ U : State, vx_N U → va_Nw (.methodLinkNest own idx M2.1 host) U) ∧ Cond.instanceMethod M2.1 ∈ vx_tb ∧ Cond.initialized M2.1.cls ∈ vx_tb ∧ Cond.code M2.1 M2.2.1 M2.2.2.1 M2.2.2.2 ∈ vx_tb
def vx_dn (M2 : vx_Me) (n : Nat) : Prop := M2.1.cls ≠ "java/lang/invoke/MethodHandle" ∧ M2.1.cls ≠ "java/lang/invoke/VarHandle" ∧ (parseMethodDescriptor M2.1.desc).map (fun d => d.parameters.length) = some n
theorem vx_goodV {own : String} {idx : Nat} {M2 : vx_Me} (h : vx_mv own idx M2) : GoodIn vx_tb (wsV own idx M2.1.cls M2.1 (Cond.code M2.1 M2.2.1 M2.2.2.1 M2.2.2.2 :: vx_tb)) := fun w hw => by
  obtain ⟨h1, h2, h3, h4, h5⟩ := h
  rcases List.mem_append.mp hw with q | q
  · simp only [List.mem_cons, List.not_mem_nil, or_false] at q
    rcases q with rfl | rfl | rfl | rfl
    · exact vx_good1 h1
    · exact vx_good1 h2
    · exact vx_good1 h3
    · exact vx_good1 h4
  · exact vx_good h5 w q
theorem vx_goodS {own : String} {idx : Nat} {M2 : vx_Me} (h : vx_ms own idx M2) : GoodIn vx_tb (va_wsS own idx M2.1 (Cond.code M2.1 M2.2.1 M2.2.2.1 M2.2.2.2 :: vx_tb)) := fun w hw => by
  obtain ⟨h1, h2, h3, h5⟩ := h
  rcases List.mem_append.mp hw with q | q
  · simp only [List.mem_cons, List.not_mem_nil, or_false] at q
    rcases q with rfl | rfl | rfl
    · exact vx_good1 h1
    · exact vx_good1 h2
    · exact vx_good1 h3
  · exact vx_good h5 w q
theorem vx_v_ad {ad ad' : Nat → Nat} {v : vx_V} (h : ∀ k, v = .inr (some k) → ad' k = ad k) : vx_v ad' v = vx_v ad v := by
  rcases v with z | r
  · rfl
  · cases r with
    | none => rfl
    | some k =>
      show va_rf (some (ad' k)) = va_rf (some (ad k))
      rw [h k rfl]
theorem vx_st_ad {ad ad' : Nat → Nat} {st : List vx_V} (h : ∀ k, Sum.inr (some k) ∈ st → ad' k = ad k) : st.map (vx_v ad') = st.map (vx_v ad) := List.map_congr_left (fun v hv => vx_v_ad (fun k hk => h k (hk ▸ hv)))
theorem vx_l_ad {ad ad' : Nat → Nat} {L : List (Option vx_V)} {ls : Array Slot} {n : Nat} (h : ∀ k, some (Sum.inr (some k)) ∈ L → ad' k = ad k) (hl : lv_has ls n (vx_l ad L)) : lv_has ls n (vx_l ad' L) := by
  refine ⟨hl.1, hl.2.1, fun q hq => ?_⟩
  obtain ⟨v, h1, h2⟩ := vx_l_mem.mp hq
  rw [h2, vx_v_ad (ad := ad) (fun k hk => h k (by rw [hk] at h1; exact List.mem_of_getElem? h1))]
  exact vx_at hl h1
theorem vx_sum {ad : Nat → Nat} : ∀ (st : List vx_V), ((st.map (vx_v ad)).map fun v => v.category).sum = st.length
  | [] => rfl
  | v :: st => by
    have h := vx_sum (ad := ad) st
    simp only [List.map_cons, List.sum_cons, List.length_cons, vx_cat]
    omega
theorem vx_sR_app {a b : List vx_V} (h : vx_sR (a ++ b)) : vx_sR a ∧ vx_sR b := ⟨fun z hz => h z (List.mem_append_left _ hz), fun z hz => h z (List.mem_append_right _ hz)⟩
theorem vx_sR_rev {a : List vx_V} (h : vx_sR a.reverse) : vx_sR a := fun z hz => h z (List.mem_reverse.mpr hz)
section VXC
variable {l : Launch} {M : vx_Me} {R : Room} {Na : Nat → Prop} {P : vx_P} {mc ms kc ks : Nat} {sh : List vx_H} {g : vx_M} {pc : Nat} {L : List (Option vx_V)} {st : List vx_V}
variable {M2 : vx_Me} {R2 : Room} {Na2 : Nat → Prop} {mc2 ms2 idx n ci : Nat} {P2 : vx_P} {T : u_T} {N : Nat} {fs : List (Option (Option Nat))}
set_option maxHeartbeats 4000000 in
theorem vr_callVi (pc' : Nat) (av : List vx_V) (k0 : Nat) (rest : List vx_V) (hd : decode M.2.1 pc = .ok (.invokevirtual idx, 3)) (hpc : pc + 3 = pc') (hw : vx_mv M.1.cls idx M2) (hdn : vx_dn M2 n) (hn : av.length = n) (hst : av.reverse ++ .inr (some k0) :: rest = st) (he : sh[k0]? = some (.inl (ci, fs))) (hc : vwCl[ci]? = some (M2.1.cls, T, N)) (hrest : rest.length ≤ 8) (hR : R2.frames + 1 ≤ R.frames ∧ 8 + (M2.2.2.1 + 11) + R2.locals ≤ R.locals) (hrc : R2.cells = mc2 ∧ R2.slots = ms2) (hf : kc + mc2 ≤ R.cells ∧ ks + ms2 ≤ R.slots) (hNa : ∀ k, Na k → Na2 k) (hrf : ∀ k, (some (Sum.inr (some k)) ∈ L ∨ Sum.inr (some k) ∈ rest) → Na2 k) (hM : vx_Ci l M2 R2 Na2 mc2 ms2 (.inr (some k0) :: av) sh g P2) (kk : ∀ (r : Int) (sh' : List vx_H) (g' : vx_M), P2 (some r) sh' g' → vx_in r → vx_gR g' → vJ l M R Na P mc ms (kc + mc2) (ks + ms2) sh' g' pc' L (.inl r :: rest)) : vJ l M R Na P mc ms kc ks sh g pc L st := by
  intro p e s m args below meth c D cs ad0 A Qc hC H locs ad ls hX
  obtain ⟨hx, hb, hr, hml, hown, hts, hlk, hnm, ⟨hK, hKN⟩, hA, hQ⟩ := id hC
  obtain ⟨hP, hD, hS, hl, hL, hs, hg, ha⟩ := id hX
  subst hpc
  subst hst
  have hsa := vx_sR_app hs
  have hM1 := hM hg (vx_sR_r (vx_sR_rev hsa.1)) D cs ad H.size
  have hsr : vx_sR rest := vx_sR_t hsa.2
  have hstk : (av.reverse ++ .inr (some k0) :: rest).map (vx_v ad) = (av.map (vx_v ad)).reverse ++ Value.ref (ad k0) :: rest.map (vx_v ad) := by rw [List.map_append, List.map_reverse]; rfl
  have hFc : ∀ q, va_A (vx_w cs ad sh g) H.size q → A q := fun q h => by
    rcases h with ⟨k, e9, h⟩ | h
    · exact hD.2 k (q, e9) h
    · exact hA q (Nat.le_trans hS.1 h)
  have hbl : FrameBlind (va_Pc ((.inr (some k0) :: av).map (vx_v ad)) (fun U => U.heap.size = H.size ∧ va_P D vwCl (vx_w cs ad sh g) U.heap ∧ (va_K D vwCl (vx_t cs) U ∧ vx_N U) ∧ va_D (fun _ => True) (vx_w cs ad sh g))) := fun a U g9 mk q => by
    obtain ⟨q0, q1, qP, qK, qD⟩ := q
    exact ⟨q0, q1, qP, ⟨va_K.moved (u := U) (U := U.calling g9 mk a) (Vm.Alike.refl U.vm) qK.1, vx_N.same rfl qK.2⟩, qD⟩
  refine va_calli (va_runV (As := av.map (vx_v ad)) (rest := rest.map (vx_v ad)) ⟨hx, hb, hml, hown, hts⟩ hM1 (cwV n hts (vx_goodV hw) rfl hrc.1 hrc.2 ⟨rfl, hdn⟩ hR) ⟨hbl, va_recv hK hP hc (vx_w_get he), fun U hU hW => ⟨rfl, by rw [hU], by rw [hU]; exact hP, ⟨va_K.moved hW.alike hK, hKN.warm hW⟩, hD.weaken (fun _ _ _ _ => trivial)⟩⟩ rfl (by rw [List.length_map]; exact hn) hl.1 hstk (lv_room (by rw [vx_sum]; exact hrest)) hd hf) hS (fun q _ h => hFc q h) hFc (fun r u t H1 locs1 ht hvm hw1 hB hz1 hk1 hS1 => ?_)
  obtain ⟨z, sh', g', ad'⟩ := u
  obtain ⟨hr1, hz, hp2, hg2, hna⟩ := hw1
  obtain ⟨hP1, hK1, hD1⟩ := hB
  rw [ht] at hP1
  dsimp only at hr1 hz hp2 hg2 hna hP1 hD1
  rw [hr1, show (Value.int (Int32.ofInt z) :: rest.map (vx_v ad)) = ((.inl z :: rest).map (vx_v ad')) by rw [List.map_cons, vx_st_ad (ad := ad) (ad' := ad') (fun k hk => hna k (hrf k (Or.inr hk)))]; rfl]
  exact kk z sh' g' hp2 hz hg2 p e s m args below meth c D cs ad0 A Qc hC H1 locs1 ad' ls ⟨hP1, hD1.weaken (fun _ _ _ h => hFc _ h), hS1, vx_l_ad (fun k hk => hna k (hrf k (Or.inl hk))) hl, hL, vx_sR_i hz hsr, hg2, fun k hk => (hna k (hNa k hk)).trans (ha k hk)⟩
set_option maxHeartbeats 4000000 in
theorem vr_callVv (pc' : Nat) (av : List vx_V) (k0 : Nat) (rest : List vx_V) (hd : decode M.2.1 pc = .ok (.invokevirtual idx, 3)) (hpc : pc + 3 = pc') (hw : vx_mv M.1.cls idx M2) (hdn : vx_dn M2 n) (hn : av.length = n) (hst : av.reverse ++ .inr (some k0) :: rest = st) (he : sh[k0]? = some (.inl (ci, fs))) (hc : vwCl[ci]? = some (M2.1.cls, T, N)) (hrest : rest.length ≤ 8) (hR : R2.frames + 1 ≤ R.frames ∧ 8 + (M2.2.2.1 + 11) + R2.locals ≤ R.locals) (hrc : R2.cells = mc2 ∧ R2.slots = ms2) (hf : kc + mc2 ≤ R.cells ∧ ks + ms2 ≤ R.slots) (hNa : ∀ k, Na k → Na2 k) (hrf : ∀ k, (some (Sum.inr (some k)) ∈ L ∨ Sum.inr (some k) ∈ rest) → Na2 k) (hM : vx_Cv l M2 R2 Na2 mc2 ms2 (.inr (some k0) :: av) sh g P2) (kk : ∀ (sh' : List vx_H) (g' : vx_M), P2 none sh' g' → vx_gR g' → vJ l M R Na P mc ms (kc + mc2) (ks + ms2) sh' g' pc' L rest) : vJ l M R Na P mc ms kc ks sh g pc L st := by
  intro p e s m args below meth c D cs ad0 A Qc hC H locs ad ls hX
  obtain ⟨hx, hb, hr, hml, hown, hts, hlk, hnm, ⟨hK, hKN⟩, hA, hQ⟩ := id hC
  obtain ⟨hP, hD, hS, hl, hL, hs, hg, ha⟩ := id hX
  subst hpc
  subst hst
  have hsa := vx_sR_app hs
  have hM1 := hM hg (vx_sR_r (vx_sR_rev hsa.1)) D cs ad H.size
  have hsr : vx_sR rest := vx_sR_t hsa.2
  have hstk : (av.reverse ++ .inr (some k0) :: rest).map (vx_v ad) = (av.map (vx_v ad)).reverse ++ Value.ref (ad k0) :: rest.map (vx_v ad) := by rw [List.map_append, List.map_reverse]; rfl
  have hFc : ∀ q, va_A (vx_w cs ad sh g) H.size q → A q := fun q h => by
    rcases h with ⟨k, e9, h⟩ | h
    · exact hD.2 k (q, e9) h
    · exact hA q (Nat.le_trans hS.1 h)
  have hbl : FrameBlind (va_Pc ((.inr (some k0) :: av).map (vx_v ad)) (fun U => U.heap.size = H.size ∧ va_P D vwCl (vx_w cs ad sh g) U.heap ∧ (va_K D vwCl (vx_t cs) U ∧ vx_N U) ∧ va_D (fun _ => True) (vx_w cs ad sh g))) := fun a U g9 mk q => by
    obtain ⟨q0, q1, qP, qK, qD⟩ := q
    exact ⟨q0, q1, qP, ⟨va_K.moved (u := U) (U := U.calling g9 mk a) (Vm.Alike.refl U.vm) qK.1, vx_N.same rfl qK.2⟩, qD⟩
  refine va_callv (va_runV (As := av.map (vx_v ad)) (rest := rest.map (vx_v ad)) ⟨hx, hb, hml, hown, hts⟩ hM1 (cwV n hts (vx_goodV hw) rfl hrc.1 hrc.2 ⟨rfl, hdn⟩ hR) ⟨hbl, va_recv hK hP hc (vx_w_get he), fun U hU hW => ⟨rfl, by rw [hU], by rw [hU]; exact hP, ⟨va_K.moved hW.alike hK, hKN.warm hW⟩, hD.weaken (fun _ _ _ _ => trivial)⟩⟩ rfl (by rw [List.length_map]; exact hn) hl.1 hstk (lv_room (by rw [vx_sum]; exact hrest)) hd hf) hS (fun q _ h => hFc q h) hFc (fun u t H1 locs1 ht hvm hw1 hB hz1 hk1 hS1 => ?_)
  obtain ⟨sh', g', ad'⟩ := u
  obtain ⟨hp2, hg2, hna⟩ := hw1
  obtain ⟨hP1, hK1, hD1⟩ := hB
  rw [ht] at hP1
  dsimp only at hp2 hg2 hna hP1 hD1
  rw [← vx_st_ad (ad := ad) (ad' := ad') (fun k hk => hna k (hrf k (Or.inr hk)))]
  exact kk sh' g' hp2 hg2 p e s m args below meth c D cs ad0 A Qc hC H1 locs1 ad' ls ⟨hP1, hD1.weaken (fun _ _ _ h => hFc _ h), hS1, vx_l_ad (fun k hk => hna k (hrf k (Or.inl hk))) hl, hL, hsr, hg2, fun k hk => (hna k (hNa k hk)).trans (ha k hk)⟩
set_option maxHeartbeats 4000000 in
theorem vr_callSi (pc' : Nat) (av : List vx_V) (rest : List vx_V) (hd : decode M.2.1 pc = .ok (.invokestatic idx, 3)) (hpc : pc + 3 = pc') (hw : vx_ms M.1.cls idx M2) (hdn : vx_dn M2 n) (hn : av.length = n) (hst : av.reverse ++ rest = st) (hrest : rest.length ≤ 8) (hR : R2.frames + 1 ≤ R.frames ∧ 8 + (M2.2.2.1 + 11) + R2.locals ≤ R.locals) (hrc : R2.cells = mc2 ∧ R2.slots = ms2) (hf : kc + mc2 ≤ R.cells ∧ ks + ms2 ≤ R.slots) (hNa : ∀ k, Na k → Na2 k) (hrf : ∀ k, (some (Sum.inr (some k)) ∈ L ∨ Sum.inr (some k) ∈ rest) → Na2 k) (hM : vx_Ci l M2 R2 Na2 mc2 ms2 av sh g P2) (kk : ∀ (r : Int) (sh' : List vx_H) (g' : vx_M), P2 (some r) sh' g' → vx_in r → vx_gR g' → vJ l M R Na P mc ms (kc + mc2) (ks + ms2) sh' g' pc' L (.inl r :: rest)) : vJ l M R Na P mc ms kc ks sh g pc L st := by
  intro p e s m args below meth c D cs ad0 A Qc hC H locs ad ls hX
  obtain ⟨hx, hb, hr, hml, hown, hts, hlk, hnm, ⟨hK, hKN⟩, hA, hQ⟩ := id hC
  obtain ⟨hP, hD, hS, hl, hL, hs, hg, ha⟩ := id hX
  subst hpc
  subst hst
  have hsa := vx_sR_app hs
  have hM1 := hM hg (vx_sR_rev hsa.1) D cs ad H.size
  have hsr : vx_sR rest := hsa.2
  have hstk : (av.reverse ++ rest).map (vx_v ad) = (av.map (vx_v ad)).reverse ++ rest.map (vx_v ad) := by rw [List.map_append, List.map_reverse]
  have hFc : ∀ q, va_A (vx_w cs ad sh g) H.size q → A q := fun q h => by
    rcases h with ⟨k, e9, h⟩ | h
    · exact hD.2 k (q, e9) h
    · exact hA q (Nat.le_trans hS.1 h)
  have hbl : FrameBlind (va_Pc (av.map (vx_v ad)) (fun U => U.heap.size = H.size ∧ va_P D vwCl (vx_w cs ad sh g) U.heap ∧ (va_K D vwCl (vx_t cs) U ∧ vx_N U) ∧ va_D (fun _ => True) (vx_w cs ad sh g))) := fun a U g9 mk q => by
    obtain ⟨q0, q1, qP, qK, qD⟩ := q
    exact ⟨q0, q1, qP, ⟨va_K.moved (u := U) (U := U.calling g9 mk a) (Vm.Alike.refl U.vm) qK.1, vx_N.same rfl qK.2⟩, qD⟩
  refine va_calli (va_runS (As := av.map (vx_v ad)) (rest := rest.map (vx_v ad)) ⟨hx, hb, hml, hown, hts⟩ hM1 (va_cwS n hts (vx_goodS hw) rfl hrc.1 hrc.2 hdn hR) ⟨hbl, fun U hU hW => ⟨rfl, by rw [hU], by rw [hU]; exact hP, ⟨va_K.moved hW.alike hK, hKN.warm hW⟩, hD.weaken (fun _ _ _ _ => trivial)⟩⟩ rfl (by rw [List.length_map]; exact hn) hl.1 hstk (lv_room (by rw [vx_sum]; exact hrest)) hd hf) hS (fun q _ h => hFc q h) hFc (fun r u t H1 locs1 ht hvm hw1 hB hz1 hk1 hS1 => ?_)
  obtain ⟨z, sh', g', ad'⟩ := u
  obtain ⟨hr1, hz, hp2, hg2, hna⟩ := hw1
  obtain ⟨hP1, hK1, hD1⟩ := hB
  rw [ht] at hP1
  dsimp only at hr1 hz hp2 hg2 hna hP1 hD1
  rw [hr1, show (Value.int (Int32.ofInt z) :: rest.map (vx_v ad)) = ((.inl z :: rest).map (vx_v ad')) by rw [List.map_cons, vx_st_ad (ad := ad) (ad' := ad') (fun k hk => hna k (hrf k (Or.inr hk)))]; rfl]
  exact kk z sh' g' hp2 hz hg2 p e s m args below meth c D cs ad0 A Qc hC H1 locs1 ad' ls ⟨hP1, hD1.weaken (fun _ _ _ h => hFc _ h), hS1, vx_l_ad (fun k hk => hna k (hrf k (Or.inl hk))) hl, hL, vx_sR_i hz hsr, hg2, fun k hk => (hna k (hNa k hk)).trans (ha k hk)⟩
set_option maxHeartbeats 4000000 in
theorem vr_callSv (pc' : Nat) (av : List vx_V) (rest : List vx_V) (hd : decode M.2.1 pc = .ok (.invokestatic idx, 3)) (hpc : pc + 3 = pc') (hw : vx_ms M.1.cls idx M2) (hdn : vx_dn M2 n) (hn : av.length = n) (hst : av.reverse ++ rest = st) (hrest : rest.length ≤ 8) (hR : R2.frames + 1 ≤ R.frames ∧ 8 + (M2.2.2.1 + 11) + R2.locals ≤ R.locals) (hrc : R2.cells = mc2 ∧ R2.slots = ms2) (hf : kc + mc2 ≤ R.cells ∧ ks + ms2 ≤ R.slots) (hNa : ∀ k, Na k → Na2 k) (hrf : ∀ k, (some (Sum.inr (some k)) ∈ L ∨ Sum.inr (some k) ∈ rest) → Na2 k) (hM : vx_Cv l M2 R2 Na2 mc2 ms2 av sh g P2) (kk : ∀ (sh' : List vx_H) (g' : vx_M), P2 none sh' g' → vx_gR g' → vJ l M R Na P mc ms (kc + mc2) (ks + ms2) sh' g' pc' L rest) : vJ l M R Na P mc ms kc ks sh g pc L st := by
  intro p e s m args below meth c D cs ad0 A Qc hC H locs ad ls hX
  obtain ⟨hx, hb, hr, hml, hown, hts, hlk, hnm, ⟨hK, hKN⟩, hA, hQ⟩ := id hC
  obtain ⟨hP, hD, hS, hl, hL, hs, hg, ha⟩ := id hX
  subst hpc
  subst hst
  have hsa := vx_sR_app hs
  have hM1 := hM hg (vx_sR_rev hsa.1) D cs ad H.size
  have hsr : vx_sR rest := hsa.2
  have hstk : (av.reverse ++ rest).map (vx_v ad) = (av.map (vx_v ad)).reverse ++ rest.map (vx_v ad) := by rw [List.map_append, List.map_reverse]
  have hFc : ∀ q, va_A (vx_w cs ad sh g) H.size q → A q := fun q h => by
    rcases h with ⟨k, e9, h⟩ | h
    · exact hD.2 k (q, e9) h
    · exact hA q (Nat.le_trans hS.1 h)
  have hbl : FrameBlind (va_Pc (av.map (vx_v ad)) (fun U => U.heap.size = H.size ∧ va_P D vwCl (vx_w cs ad sh g) U.heap ∧ (va_K D vwCl (vx_t cs) U ∧ vx_N U) ∧ va_D (fun _ => True) (vx_w cs ad sh g))) := fun a U g9 mk q => by
    obtain ⟨q0, q1, qP, qK, qD⟩ := q
    exact ⟨q0, q1, qP, ⟨va_K.moved (u := U) (U := U.calling g9 mk a) (Vm.Alike.refl U.vm) qK.1, vx_N.same rfl qK.2⟩, qD⟩
  refine va_callv (va_runS (As := av.map (vx_v ad)) (rest := rest.map (vx_v ad)) ⟨hx, hb, hml, hown, hts⟩ hM1 (va_cwS n hts (vx_goodS hw) rfl hrc.1 hrc.2 hdn hR) ⟨hbl, fun U hU hW => ⟨rfl, by rw [hU], by rw [hU]; exact hP, ⟨va_K.moved hW.alike hK, hKN.warm hW⟩, hD.weaken (fun _ _ _ _ => trivial)⟩⟩ rfl (by rw [List.length_map]; exact hn) hl.1 hstk (lv_room (by rw [vx_sum]; exact hrest)) hd hf) hS (fun q _ h => hFc q h) hFc (fun u t H1 locs1 ht hvm hw1 hB hz1 hk1 hS1 => ?_)
  obtain ⟨sh', g', ad'⟩ := u
  obtain ⟨hp2, hg2, hna⟩ := hw1
  obtain ⟨hP1, hK1, hD1⟩ := hB
  rw [ht] at hP1
  dsimp only at hp2 hg2 hna hP1 hD1
  rw [← vx_st_ad (ad := ad) (ad' := ad') (fun k hk => hna k (hrf k (Or.inr hk)))]
  exact kk sh' g' hp2 hg2 p e s m args below meth c D cs ad0 A Qc hC H1 locs1 ad' ls ⟨hP1, hD1.weaken (fun _ _ _ h => hFc _ h), hS1, vx_l_ad (fun k hk => hna k (hrf k (Or.inl hk))) hl, hL, hsr, hg2, fun k hk => (hna k (hNa k hk)).trans (ha k hk)⟩
set_option maxHeartbeats 4000000 in
theorem vr_callIv (pc' : Nat) (av : List vx_V) (k0 : Nat) (rest : List vx_V) (hd : decode M.2.1 pc = .ok (.invokespecial idx, 3)) (hpc : pc + 3 = pc') (hw : vx_mi M.1.cls idx M2) (hdn : vx_dn M2 n) (hn : av.length = n) (hst : av.reverse ++ .inr (some k0) :: rest = st) (hini : M2.1.name = "<init>") (hret : M2.2.2.2 = none) (hrest : rest.length ≤ 8) (hR : R2.frames + 1 ≤ R.frames ∧ 8 + (M2.2.2.1 + 11) + R2.locals ≤ R.locals) (hrc : R2.cells = mc2 ∧ R2.slots = ms2) (hf : kc + mc2 ≤ R.cells ∧ ks + ms2 ≤ R.slots) (hNa : ∀ k, Na k → Na2 k) (hrf : ∀ k, (some (Sum.inr (some k)) ∈ L ∨ Sum.inr (some k) ∈ rest) → Na2 k) (hM : vx_Cv l M2 R2 Na2 mc2 ms2 (.inr (some k0) :: av) sh g P2) (kk : ∀ (sh' : List vx_H) (g' : vx_M), P2 none sh' g' → vx_gR g' → vJ l M R Na P mc ms (kc + mc2) (ks + ms2) sh' g' pc' L rest) : vJ l M R Na P mc ms kc ks sh g pc L st := by
  intro p e s m args below meth c D cs ad0 A Qc hC H locs ad ls hX
  obtain ⟨hx, hb, hr, hml, hown, hts, hlk, hnm, ⟨hK, hKN⟩, hA, hQ⟩ := id hC
  obtain ⟨hP, hD, hS, hl, hL, hs, hg, ha⟩ := id hX
  subst hpc
  subst hst
  have hsa := vx_sR_app hs
  have hM1 := hM hg (vx_sR_r (vx_sR_rev hsa.1)) D cs ad H.size
  have hsr : vx_sR rest := vx_sR_t hsa.2
  have hstk : (av.reverse ++ .inr (some k0) :: rest).map (vx_v ad) = (av.map (vx_v ad)).reverse ++ Value.ref (ad k0) :: rest.map (vx_v ad) := by rw [List.map_append, List.map_reverse]; rfl
  have hFc : ∀ q, va_A (vx_w cs ad sh g) H.size q → A q := fun q h => by
    rcases h with ⟨k, e9, h⟩ | h
    · exact hD.2 k (q, e9) h
    · exact hA q (Nat.le_trans hS.1 h)
  have hbl : FrameBlind (va_Pc ((.inr (some k0) :: av).map (vx_v ad)) (fun U => U.heap.size = H.size ∧ va_P D vwCl (vx_w cs ad sh g) U.heap ∧ (va_K D vwCl (vx_t cs) U ∧ vx_N U) ∧ va_D (fun _ => True) (vx_w cs ad sh g))) := fun a U g9 mk q => by
    obtain ⟨q0, q1, qP, qK, qD⟩ := q
    exact ⟨q0, q1, qP, ⟨va_K.moved (u := U) (U := U.calling g9 mk a) (Vm.Alike.refl U.vm) qK.1, vx_N.same rfl qK.2⟩, qD⟩
  refine va_callv (va_runI (As := av.map (vx_v ad)) (rest := rest.map (vx_v ad)) ⟨hx, hb, hml, hown, hts⟩ hM1 (cwI n hts (vx_good hw.2.2.2) (by rw [hret]) hrc.1 hrc.2 (hts _ hw.2.2.1) (hts _ hw.1) (hts _ hw.2.1) hini hdn hR) ⟨hbl, fun U hU hW => ⟨rfl, by rw [hU], by rw [hU]; exact hP, ⟨va_K.moved hW.alike hK, hKN.warm hW⟩, hD.weaken (fun _ _ _ _ => trivial)⟩⟩ rfl (by rw [List.length_map]; exact hn) hl.1 hstk (lv_room (by rw [vx_sum]; exact hrest)) hd hf) hS (fun q _ h => hFc q h) hFc (fun u t H1 locs1 ht hvm hw1 hB hz1 hk1 hS1 => ?_)
  obtain ⟨sh', g', ad'⟩ := u
  obtain ⟨hp2, hg2, hna⟩ := hw1
  obtain ⟨hP1, hK1, hD1⟩ := hB
  rw [ht] at hP1
  dsimp only at hp2 hg2 hna hP1 hD1
  rw [← vx_st_ad (ad := ad) (ad' := ad') (fun k hk => hna k (hrf k (Or.inr hk)))]
  exact kk sh' g' hp2 hg2 p e s m args below meth c D cs ad0 A Qc hC H1 locs1 ad' ls ⟨hP1, hD1.weaken (fun _ _ _ h => hFc _ h), hS1, vx_l_ad (fun k hk => hna k (hrf k (Or.inl hk))) hl, hL, hsr, hg2, fun k hk => (hna k (hNa k hk)).trans (ha k hk)⟩
set_option maxHeartbeats 4000000 in
theorem vr_callNv (pc' : Nat) (av : List vx_V) (k0 : Nat) (rest : List vx_V) {host : String} (hd : decode M.2.1 pc = .ok (.invokespecial idx, 3)) (hpc : pc + 3 = pc') (hw : vx_mn M.1.cls idx M2 host) (hdn : vx_dn M2 n) (hn : av.length = n) (hst : av.reverse ++ .inr (some k0) :: rest = st) (hini : M2.1.name = "<init>") (hret : M2.2.2.2 = none) (hrest : rest.length ≤ 8) (hR : R2.frames + 1 ≤ R.frames ∧ 8 + (M2.2.2.1 + 11) + R2.locals ≤ R.locals) (hrc : R2.cells = mc2 ∧ R2.slots = ms2) (hf : kc + mc2 ≤ R.cells ∧ ks + ms2 ≤ R.slots) (hNa : ∀ k, Na k → Na2 k) (hrf : ∀ k, (some (Sum.inr (some k)) ∈ L ∨ Sum.inr (some k) ∈ rest) → Na2 k) (hM : vx_Cv l M2 R2 Na2 mc2 ms2 (.inr (some k0) :: av) sh g P2) (kk : ∀ (sh' : List vx_H) (g' : vx_M), P2 none sh' g' → vx_gR g' → vJ l M R Na P mc ms (kc + mc2) (ks + ms2) sh' g' pc' L rest) : vJ l M R Na P mc ms kc ks sh g pc L st := by
  intro p e s m args below meth c D cs ad0 A Qc hC H locs ad ls hX
  obtain ⟨hx, hb, hr, hml, hown, hts, hlk, hnm, ⟨hK, hKN⟩, hA, hQ⟩ := id hC
  obtain ⟨hP, hD, hS, hl, hL, hs, hg, ha⟩ := id hX
  subst hpc
  subst hst
  have hsa := vx_sR_app hs
  have hM1 := hM hg (vx_sR_r (vx_sR_rev hsa.1)) D cs ad H.size
  have hsr : vx_sR rest := vx_sR_t hsa.2
  have hstk : (av.reverse ++ .inr (some k0) :: rest).map (vx_v ad) = (av.map (vx_v ad)).reverse ++ Value.ref (ad k0) :: rest.map (vx_v ad) := by rw [List.map_append, List.map_reverse]; rfl
  have hFc : ∀ q, va_A (vx_w cs ad sh g) H.size q → A q := fun q h => by
    rcases h with ⟨k, e9, h⟩ | h
    · exact hD.2 k (q, e9) h
    · exact hA q (Nat.le_trans hS.1 h)
  have hbl : FrameBlind (va_Pc ((.inr (some k0) :: av).map (vx_v ad)) (fun U => U.heap.size = H.size ∧ va_P D vwCl (vx_w cs ad sh g) U.heap ∧ (va_K D vwCl (vx_t cs) U ∧ vx_N U) ∧ va_D (fun _ => True) (vx_w cs ad sh g))) := fun a U g9 mk q => by
    obtain ⟨q0, q1, qP, qK, qD⟩ := q
    exact ⟨q0, q1, qP, ⟨va_K.moved (u := U) (U := U.calling g9 mk a) (Vm.Alike.refl U.vm) qK.1, vx_N.same rfl qK.2⟩, qD⟩
  refine va_callv (va_runIN (As := av.map (vx_v ad)) (rest := rest.map (vx_v ad)) ⟨hx, hb, hml, hown, hts⟩ hM1 ⟨va_cnB n hts (vx_good hw.2.2.2) (by rw [hret]) hrc.1 hrc.2 (hw.1 s hKN) (hts _ hw.2.2.1) hdn hR, hini, hts _ hw.2.1⟩ ⟨hbl, fun U hU hW => ⟨rfl, by rw [hU], by rw [hU]; exact hP, ⟨va_K.moved hW.alike hK, hKN.warm hW⟩, hD.weaken (fun _ _ _ _ => trivial)⟩⟩ rfl (by rw [List.length_map]; exact hn) hl.1 hstk (lv_room (by rw [vx_sum]; exact hrest)) hd hf) hS (fun q _ h => hFc q h) hFc (fun u t H1 locs1 ht hvm hw1 hB hz1 hk1 hS1 => ?_)
  obtain ⟨sh', g', ad'⟩ := u
  obtain ⟨hp2, hg2, hna⟩ := hw1
  obtain ⟨hP1, hK1, hD1⟩ := hB
  rw [ht] at hP1
  dsimp only at hp2 hg2 hna hP1 hD1
  rw [← vx_st_ad (ad := ad) (ad' := ad') (fun k hk => hna k (hrf k (Or.inr hk)))]
  exact kk sh' g' hp2 hg2 p e s m args below meth c D cs ad0 A Qc hC H1 locs1 ad' ls ⟨hP1, hD1.weaken (fun _ _ _ h => hFc _ h), hS1, vx_l_ad (fun k hk => hna k (hrf k (Or.inl hk))) hl, hL, hsr, hg2, fun k hk => (hna k (hNa k hk)).trans (ha k hk)⟩
end VXC
section VXM
variable {l : Launch} {M : vx_Me} {R : Room} {Na : Nat → Prop} {P : vx_P} {mc ms kc ks : Nat} {sh : List vx_H} {g : vx_M} {pc : Nat} {L : List (Option vx_V)} {st : List vx_V}
theorem vr_mmin (pc' : Nat) {idx : Nat} {x y : Int} (hd : decode M.2.1 pc = .ok (.invokestatic idx, 3)) (hpc : pc + 3 = pc') (hlink : Cond.methodLink M.1.cls idx Lib.Math.min.name ∈ vx_tb) (hstat : Cond.static Lib.Math.min.name ∈ vx_tb) (hini : Cond.initialized "java/lang/Math" ∈ vx_tb) (hcode : Cond.code Lib.Math.min.name Lib.Math.min.code 2 (some .int) ∈ vx_tb) (hfr : 1 ≤ R.frames) (hlo : st.length + 13 ≤ R.locals) (hcs : kc ≤ R.cells ∧ ks ≤ R.slots) (kk : vJ l M R Na P mc ms kc ks sh g pc' L (.inl (min x y) :: st)) : vJ l M R Na P mc ms kc ks sh g pc L (.inl y :: .inl x :: st) := by
  intro p e s m args below meth c D cs ad0 A Qc hC H locs ad ls hX
  obtain ⟨hx, hb, hr, hml, hown, hts, hlk, hnm, ⟨hK, hKN⟩, hA, hQ⟩ := id hC
  obtain ⟨hP, hD, hS, hl, hL, hs, hg, ha⟩ := id hX
  subst hpc
  have hy := vx_sR_h hs
  have hxx := vx_sR_h (vx_sR_t hs)
  have e9 : (if Int32.ofInt y < Int32.ofInt x then Int32.ofInt y else Int32.ofInt x) = Int32.ofInt (min x y) := by
    by_cases h : y < x
    · rw [if_pos ((vx_lt hy hxx).mpr h), show min x y = y by omega]
    · rw [if_neg (fun q => h ((vx_lt hy hxx).mp q)), show min x y = x by omega]
  refine va_mmin hx hb (hml.trans hl.1.symm) hown (hts _ hlink) (hts _ hstat) (hts _ hini) (hts _ hcode) hfr (by rw [vx_sum]; exact hlo) hcs.1 hcs.2 hd ?_
  rw [e9]
  have hin : vx_in (min x y) := by unfold vx_in at hxx hy ⊢; omega
  exact kk p e s m args below meth c D cs ad0 A Qc hC H locs ad ls ⟨hP, hD, hS, hl, hL, vx_sR_i hin (vx_sR_t (vx_sR_t hs)), hg, ha⟩
theorem vr_mmax (pc' : Nat) {idx : Nat} {x y : Int} (hd : decode M.2.1 pc = .ok (.invokestatic idx, 3)) (hpc : pc + 3 = pc') (hlink : Cond.methodLink M.1.cls idx Lib.Math.max.name ∈ vx_tb) (hstat : Cond.static Lib.Math.max.name ∈ vx_tb) (hini : Cond.initialized "java/lang/Math" ∈ vx_tb) (hcode : Cond.code Lib.Math.max.name Lib.Math.max.code 2 (some .int) ∈ vx_tb) (hfr : 1 ≤ R.frames) (hlo : st.length + 13 ≤ R.locals) (hcs : kc ≤ R.cells ∧ ks ≤ R.slots) (kk : vJ l M R Na P mc ms kc ks sh g pc' L (.inl (max x y) :: st)) : vJ l M R Na P mc ms kc ks sh g pc L (.inl y :: .inl x :: st) := by
  intro p e s m args below meth c D cs ad0 A Qc hC H locs ad ls hX
  obtain ⟨hx, hb, hr, hml, hown, hts, hlk, hnm, ⟨hK, hKN⟩, hA, hQ⟩ := id hC
  obtain ⟨hP, hD, hS, hl, hL, hs, hg, ha⟩ := id hX
  subst hpc
  have hy := vx_sR_h hs
  have hxx := vx_sR_h (vx_sR_t hs)
  have e9 : (if Int32.ofInt x < Int32.ofInt y then Int32.ofInt y else Int32.ofInt x) = Int32.ofInt (max x y) := by
    by_cases h : x < y
    · rw [if_pos ((vx_lt hxx hy).mpr h), show max x y = y by omega]
    · rw [if_neg (fun q => h ((vx_lt hxx hy).mp q)), show max x y = x by omega]
  refine va_mmax hx hb (hml.trans hl.1.symm) hown (hts _ hlink) (hts _ hstat) (hts _ hini) (hts _ hcode) hfr (by rw [vx_sum]; exact hlo) hcs.1 hcs.2 hd ?_
  rw [e9]
  have hin : vx_in (max x y) := by unfold vx_in at hxx hy ⊢; omega
  exact kk p e s m args below meth c D cs ad0 A Qc hC H locs ad ls ⟨hP, hD, hS, hl, hL, vx_sR_i hin (vx_sR_t (vx_sR_t hs)), hg, ha⟩
theorem vr_acopy (pc' : Nat) {idx k0 k1 n0 n1 : Nat} {sp dp n : Int} (hd : decode M.2.1 pc = .ok (.invokestatic idx, 3)) (hpc : pc + 3 = pc') (hlink : Cond.methodLink M.1.cls idx arraycopyName ∈ vx_tb) (hnat : Cond.native arraycopyName ∈ vx_tb) (hstat : Cond.static arraycopyName ∈ vx_tb) (hini : Cond.initialized "java/lang/System" ∈ vx_tb) (he0 : sh[k0]? = some (.inr (.inl (false, n0)))) (he1 : sh[k1]? = some (.inr (.inl (false, n1)))) (h1 : 0 ≤ sp) (h2 : 0 ≤ dp) (h3 : 0 ≤ n) (h4 : sp + n ≤ n0) (h5 : dp + n ≤ n1) (hfr : 1 ≤ R.frames) (hlo : st.length + (nativeFrameWords "java/lang/System" "arraycopy" 5 + 11) ≤ R.locals) (kk : vJ l M R Na P mc ms kc ks sh (vx_cp g k0 k1 sp dp n) pc' L st) : vJ l M R Na P mc ms kc ks sh g pc L (.inl n :: .inl dp :: .inr (some k1) :: .inl sp :: .inr (some k0) :: st) := by
  intro p e s m args below meth c D cs ad0 A Qc hC H locs ad ls hX
  obtain ⟨hx, hb, hr, hml, hown, hts, hlk, hnm, ⟨hK, hKN⟩, hA, hQ⟩ := id hC
  obtain ⟨hP, hD, hS, hl, hL, hs, hg, ha⟩ := id hX
  subst hpc
  have qn := vx_sR_h hs
  have qd := vx_sR_h (vx_sR_t hs)
  have qs := vx_sR_h (vx_sR_t (vx_sR_t (vx_sR_t hs)))
  have hng : ∀ z : Int, vx_in z → 0 ≤ z → ¬ Int32.ofInt z < 0 := fun z hz h q => by
    have := (vx_lt hz vx_in0).mp q
    omega
  refine va_copyi hx hb (hml.trans hl.1.symm) hown (hts _ hlink) (hts _ hnat) (hts _ hstat) (hts _ hini) hK hP hD hS k0 k1 0 0 (ty := .int) (vx_w_get he0) (vx_w_get he1) rfl rfl rfl (hng sp qs h1) (hng dp qd h2) (hng n qn h3) (by rw [vx_nat qs, vx_nat qn]; omega) (by rw [vx_nat qd, vx_nat qn]; omega) (fun i _ => rfl) hfr (by rw [vx_sum]; exact hlo) hd (fun H1 locs1 hP1 hD1 hS1 => ?_)
  rw [vx_nat qs, vx_nat qd, vx_nat qn] at hP1 hD1
  have ef : (va_cpy (fun j : Nat => Int32.ofInt (g k0 j)) (fun j : Nat => Int32.ofInt (g k1 j)) sp.toNat dp.toNat n.toNat) = (fun j : Nat => Int32.ofInt (vx_cp g k0 k1 sp dp n k1 j)) := by
    funext j
    unfold va_cpy vx_cp
    rw [if_pos rfl]
    by_cases hj : dp.toNat ≤ j ∧ j < dp.toNat + n.toNat
    · rw [if_pos hj, if_pos (by omega)]
      have e3 : ((sp.toNat + (j - dp.toNat) : Nat) : Int) = sp + ((j : Int) - dp) := by omega
      rw [← e3]
    · rw [if_neg hj, if_neg (by omega)]
  have e2 := vx_w_set (cs := cs) (ad := ad) (g := g) (g' := vx_cp g k0 k1 sp dp n) he1 (fun a b h => by simp [vx_cp, h]) rfl
  have hP1 : va_P D vwCl (vx_w cs ad sh (vx_cp g k0 k1 sp dp n)) H1 := by
    rw [ef] at hP1
    rw [← e2]; exact hP1
  have hD1 : va_D A (vx_w cs ad sh (vx_cp g k0 k1 sp dp n)) := by
    rw [ef] at hD1
    rw [← e2]; exact hD1
  exact kk p e s m args below meth c D cs ad0 A Qc hC H1 locs1 ad ls ⟨hP1, hD1, hS1, hl, hL, vx_sR_t (vx_sR_t (vx_sR_t (vx_sR_t (vx_sR_t hs)))), vx_gR_cp hg, ha⟩
theorem vr_obj (pc' : Nat) {idx k : Nat} (hd : decode M.2.1 pc = .ok (.invokespecial idx, 3)) (hpc : pc + 3 = pc') (hlink : Cond.methodLink M.1.cls idx Lib.objectInit ∈ vx_tb) (hinst : Cond.instanceMethod Lib.objectInit ∈ vx_tb) (hcode : Cond.code Lib.objectInit ⟨#[0xb1]⟩ 1 none ∈ vx_tb) (hfr : 1 ≤ R.frames) (hlo : st.length + 12 ≤ R.locals) (kk : vJ l M R Na P mc ms kc ks sh g pc' L st) : vJ l M R Na P mc ms kc ks sh g pc L (.inr (some k) :: st) := by
  intro p e s m args below meth c D cs ad0 A Qc hC H locs ad ls hX
  obtain ⟨hx, hb, hr, hml, hown, hts, hlk, hnm, ⟨hK, hKN⟩, hA, hQ⟩ := id hC
  obtain ⟨hP, hD, hS, hl, hL, hs, hg, ha⟩ := id hX
  subst hpc
  refine W.objInit (a := ad k) (rest := st.map (vx_v ad)) hx hb hown (hts _ hlink) (hts _ hinst) (hts _ hcode) rfl (hl.1.trans hml.symm) rfl hd hfr (by rw [vx_sum]; show 2 * 0 + _ + 12 ≤ _; omega) ?_
  exact kk p e s m args below meth c D cs ad0 A Qc hC H locs ad ls ⟨hP, hD, hS, hl, hL, vx_sR_t hs, hg, ha⟩
end VXM

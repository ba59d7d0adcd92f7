theorem vx_N.use {A : Array Value} {U : State} (h : vx_N U) : (Cond.arrayOver (.array .int)).before A U = true := h.2
/-! making cells -/
def vx_rh (n : Nat) : vx_H → Bool
  | .inl (_, fs) => fs.all (fun f => match f with | some (some k) => decide (k < n) | _ => true)
  | .inr (.inl _) => true
  | .inr (.inr rs) => rs.all (fun f => match f with | some k => decide (k < n) | _ => true)
def vx_rv (n : Nat) : vx_V → Bool
  | .inr (some k) => decide (k < n)
  | _ => true
def vx_rl (n : Nat) : Option vx_V → Bool
  | some v => vx_rv n v
  | none => true
/-- every reference is to a cell that is there -/
def vx_rok (sh : List vx_H) (L : List (Option vx_V)) (st : List vx_V) : Bool := sh.all (vx_rh sh.length) && L.all (vx_rl sh.length) && st.all (vx_rv sh.length)
theorem vx_e_ad {cs : vx_Cs} {ad ad' : Nat → Nat} {g g' : vx_M} {n k : Nat} {x : vx_H} (h : vx_rh n x = true) (hk : k < n) (ha : ∀ i, i < n → ad' i = ad i) (hg : ∀ a b, a < n → g' a b = g a b) : vx_e cs ad' g' k x = vx_e cs ad g k x := by
  rw [vx_e_congr (g := g) (g' := g') x (fun b => hg k b hk)]
  rcases x with ⟨ci, fs⟩ | ⟨b, m⟩ | rs
  · simp only [vx_e, vx_fs]
    congr 2
    apply List.ext_getElem?
    intro i
    rw [List.getElem?_mapIdx, List.getElem?_mapIdx]
    cases hi : fs[i]? with
    | none => rfl
    | some f =>
      have h1 := List.all_eq_true.mp h f (List.mem_of_getElem? hi)
      cases f with
      | none => rfl
      | some r =>
        cases r with
        | none => rfl
        | some q =>
          have hq : q < n := of_decide_eq_true h1
          show some (va_rf (some (ad' q))) = some (va_rf (some (ad q)))
          rw [ha q hq]
  · rfl
  · simp only [vx_e]
    congr 7
    funext j
    rw [List.getD_eq_getElem?_getD]
    cases hi : rs[j]? with
    | none => rfl
    | some f =>
      have h1 := List.all_eq_true.mp h f (List.mem_of_getElem? hi)
      cases f with
      | none => rfl
      | some q =>
        have hq : q < n := of_decide_eq_true h1
        show some (ad' q) = some (ad q)
        rw [ha q hq]
theorem vx_w_app {cs : vx_Cs} {ad ad' : Nat → Nat} {g g' : vx_M} {sh hs : List vx_H} (h : sh.all (vx_rh sh.length) = true) (ha : ∀ i, i < sh.length → ad' i = ad i) (hg : ∀ a b, a < sh.length → g' a b = g a b) : vx_w cs ad' (sh ++ hs) g' = vx_w cs ad sh g ++ hs.mapIdx (fun i x => (ad' (sh.length + i), vx_e cs ad' g' (sh.length + i) x)) := by
  apply List.ext_getElem?
  intro i
  by_cases hi : i < sh.length
  · rw [List.getElem?_append_left (by unfold vx_w; rw [List.length_mapIdx]; exact hi)]
    unfold vx_w
    rw [List.getElem?_mapIdx, List.getElem?_mapIdx, List.getElem?_append_left hi]
    cases hx : sh[i]? with
    | none => rfl
    | some x =>
      show some (ad' i, vx_e cs ad' g' i x) = some (ad i, vx_e cs ad g i x)
      rw [ha i hi, vx_e_ad (List.all_eq_true.mp h x (List.mem_of_getElem? hx)) hi ha hg]
  · rw [List.getElem?_append_right (by unfold vx_w; rw [List.length_mapIdx]; omega)]
    unfold vx_w
    rw [List.length_mapIdx, List.getElem?_mapIdx, List.getElem?_mapIdx, List.getElem?_append_right (by omega)]
    cases hs[i - sh.length]? with
    | none => rfl
    | some x =>
      show some (ad' i, vx_e cs ad' g' i x) = some (ad' (sh.length + (i - sh.length)), vx_e cs ad' g' (sh.length + (i - sh.length)) x)
      rw [show sh.length + (i - sh.length) = i by omega]
theorem vx_rok_L {sh : List vx_H} {L : List (Option vx_V)} {st : List vx_V} (h : vx_rok sh L st = true) : ∀ k, some (Sum.inr (some k)) ∈ L → k < sh.length := fun k hk => by
  unfold vx_rok at h
  simp only [Bool.and_eq_true] at h
  exact of_decide_eq_true (List.all_eq_true.mp h.1.2 _ hk)
theorem vx_rok_st {sh : List vx_H} {L : List (Option vx_V)} {st : List vx_V} (h : vx_rok sh L st = true) : ∀ k, Sum.inr (some k) ∈ st → k < sh.length := fun k hk => by
  unfold vx_rok at h
  simp only [Bool.and_eq_true] at h
  exact of_decide_eq_true (List.all_eq_true.mp h.2 _ hk)
theorem vx_rok_sh {sh : List vx_H} {L : List (Option vx_V)} {st : List vx_V} (h : vx_rok sh L st = true) : sh.all (vx_rh sh.length) = true := by
  unfold vx_rok at h
  simp only [Bool.and_eq_true] at h
  exact h.1.1
section VXA
variable {l : Launch} {M : vx_Me} {R : Room} {Na : Nat → Prop} {P : vx_P} {mc ms kc ks : Nat} {sh : List vx_H} {g : vx_M} {pc : Nat} {L : List (Option vx_V)} {st : List vx_V}
set_option maxHeartbeats 4000000 in
theorem vr_new (pc' : Nat) (sh' : List vx_H) (k' : Nat) (fs0 : List (Option (Option Nat))) {ci : Nat} {C : String} {T : u_T} {N : Nat} {ty : Nat → FieldType} {idx : Nat} (hcl : vx_cl ci C T N ty) (hlk9 : Cond.classLink M.1.cls idx C ∈ vx_tb) (hin9 : Cond.instantiable C N ∈ vx_tb) (hini : Cond.initialized C ∈ vx_tb) (hd : decode M.2.1 pc = .ok (.new idx, 3)) (hpc : pc + 3 = pc') (hfs : ∀ j, j < N → (fs0[j]? = some none ∧ defaultValue (ty j) = .int 0) ∨ (fs0[j]? = some (some none) ∧ defaultValue (ty j) = .null)) (hf : kc + 1 ≤ R.cells ∧ ks + N ≤ R.slots) (hnr : ∀ (i x : Nat), fs0[i]? ≠ some (some (some x))) (hNa : ∀ k, Na k → k < sh.length) (hok : vx_rok sh L st = true) (hsh : sh ++ [.inl (ci, fs0)] = sh') (hk' : sh.length = k') (kk : vJ l M R Na P mc ms (kc + 1) (ks + N) sh' (vx_z g k') pc' L (.inr (some k') :: st)) : vJ l M R Na P mc ms kc ks sh g pc L st := by
  intro p e s m args below meth c D cs ad0 A Qc hC H locs ad ls hX
  obtain ⟨hx, hb, hr, hml, hown, hts, hlk, hnm, ⟨hK, hKN⟩, hA, hQ⟩ := id hC
  obtain ⟨hP, hD, hS, hl, hL, hs, hg, ha⟩ := id hX
  subst hpc
  subst hsh
  subst hk'
  refine va_new (fs := vx_fs (fun k => k) (vx_z g sh.length) sh.length fs0) hx hb hts hcl.2.1 ty hcl.2.2.1 hown (hts _ hlk9) (hts _ hin9) (hts _ hini) hK hP hD hS hA hcl.1 (fun j hj => ?_) hf.1 hf.2 hd (fun q H1 hP2 hD2 hS1 => ?_)
  · unfold vp_V
    rcases hfs j hj with ⟨h1, h2⟩ | ⟨h1, h2⟩
    · rw [List.getD_eq_getElem?_getD, vx_fs_get h1, h2]
      show Value.int 0 = Value.int (Int32.ofInt (vx_z g sh.length sh.length j))
      rw [show vx_z g sh.length sh.length j = 0 from if_pos (Nat.le_refl _)]
      rfl
    · rw [List.getD_eq_getElem?_getD, vx_fs_get h1, h2]
      rfl
  have hok1 : ∀ i, i < sh.length → (fun k => if k < sh.length then ad k else q) i = ad i := fun i hi => if_pos hi
  have hz1 : ∀ a b, a < sh.length → vx_z g sh.length a b = g a b := fun a b h => if_neg (by omega)
  have efs : vx_fs (fun k => k) (vx_z g sh.length) sh.length fs0 = vx_fs (fun k => if k < sh.length then ad k else q) (vx_z g sh.length) (sh.length + 0) fs0 := by
    apply List.ext_getElem?
    intro i
    unfold vx_fs
    rw [List.getElem?_mapIdx, List.getElem?_mapIdx]
    cases hi : fs0[i]? with
    | none => rfl
    | some f =>
      cases f with
      | none => rfl
      | some r =>
        cases r with
        | none => rfl
        | some x => exact absurd hi (hnr i x)
  rw [efs] at hP2 hD2
  have ew := vx_w_app (cs := cs) (ad := ad) (ad' := (fun k => if k < sh.length then ad k else q)) (g := g) (g' := vx_z g sh.length) (hs := [.inl (ci, fs0)]) (vx_rok_sh hok) hok1 hz1
  have eq1 : (fun k => if k < sh.length then ad k else q) (sh.length + 0) = q := if_neg (by omega)
  rw [← vx_st_ad (ad := ad) (ad' := (fun k => if k < sh.length then ad k else q)) (fun k hk => hok1 k (vx_rok_st hok k hk))]
  have hrf : (Value.ref q :: st.map (vx_v (fun k => if k < sh.length then ad k else q))) = ((.inr (some sh.length) :: st).map (vx_v (fun k => if k < sh.length then ad k else q))) := by
    show _ = va_rf (some ((fun k => if k < sh.length then ad k else q) sh.length)) :: _
    rw [show (fun k => if k < sh.length then ad k else q) sh.length = q from if_neg (by omega)]
    rfl
  rw [hrf]
  have hP1 : va_P D vwCl (vx_w cs (fun k => if k < sh.length then ad k else q) (sh ++ [.inl (ci, fs0)]) (vx_z g sh.length)) H1 := by
    rw [ew]
    show va_P D vwCl (_ ++ [((fun k => if k < sh.length then ad k else q) (sh.length + 0), vx_e cs (fun k => if k < sh.length then ad k else q) (vx_z g sh.length) (sh.length + 0) (.inl (ci, fs0)))]) H1
    rw [eq1]; exact hP2
  have hD1 : va_D A (vx_w cs (fun k => if k < sh.length then ad k else q) (sh ++ [.inl (ci, fs0)]) (vx_z g sh.length)) := by
    rw [ew]
    show va_D A (_ ++ [((fun k => if k < sh.length then ad k else q) (sh.length + 0), vx_e cs (fun k => if k < sh.length then ad k else q) (vx_z g sh.length) (sh.length + 0) (.inl (ci, fs0)))])
    rw [eq1]; exact hD2
  exact kk p e s m args below meth c D cs ad0 A Qc hC H1 locs (fun k => if k < sh.length then ad k else q) ls ⟨hP1, hD1, hS1, vx_l_ad (fun k hk => hok1 k (vx_rok_L hok k hk)) hl, hL, vx_sR_r hs, vx_gR_z hg, fun k hk => (hok1 k (hNa k hk)).trans (ha k hk)⟩
set_option maxHeartbeats 4000000 in
theorem vr_newi (pc' : Nat) (sh' : List vx_H) (k' : Nat) {n : Int} {N' : Nat} (harr : Cond.arrayClass .int ∈ vx_tb) (hn : n = (N' : Int)) (hsm : N' ≤ 1000) (hd : decode M.2.1 pc = .ok (.newarray .int, 2)) (hpc : pc + 2 = pc') (hf : kc + 1 ≤ R.cells ∧ ks + N' ≤ R.slots) (hNa : ∀ k, Na k → k < sh.length) (hok : vx_rok sh L st = true) (hsh : sh ++ [.inr (.inl (false, N'))] = sh') (hk' : sh.length = k') (kk : vJ l M R Na P mc ms (kc + 1) (ks + N') sh' (vx_z g k') pc' L (.inr (some k') :: st)) : vJ l M R Na P mc ms kc ks sh g pc L (.inl n :: st) := by
  intro p e s m args below meth c D cs ad0 A Qc hC H locs ad ls hX
  obtain ⟨hx, hb, hr, hml, hown, hts, hlk, hnm, ⟨hK, hKN⟩, hA, hQ⟩ := id hC
  obtain ⟨hP, hD, hS, hl, hL, hs, hg, ha⟩ := id hX
  subst hpc
  subst hsh
  subst hk'
  subst hn
  have hin : vx_in (N' : Int) := vx_sR_h hs
  refine va_newa (atype := .int) (a0 := (N', .inl (fun _ => (0 : Int32)))) (N' := N') hx hb (hts _ harr) rfl hK hP hD hS hA (fun _ => rfl) (fun h => by have := (vx_lt hin vx_in0).mp h; omega) (by rw [vx_nat hin]; rfl) (by show N' * 4 ≤ 536870912; omega) hf.1 hf.2 hd (fun q cA H1 hK2 hP2 hD2 hS1 => ?_)
  have ecA : cA = cs.1 := by
    have h1 := (hK.2 0 _ rfl).2
    have h2 := (hK2.2 3 (cA, .int) rfl).2
    exact Option.some.inj (h2.symm.trans h1)
  subst ecA
  have hok1 : ∀ i, i < sh.length → (fun k => if k < sh.length then ad k else q) i = ad i := fun i hi => if_pos hi
  have hz1 : ∀ a b, a < sh.length → vx_z g sh.length a b = g a b := fun a b h => if_neg (by omega)
  have efs : (Sum.inl (cs.1, (N', .inl (fun _ => (0 : Int32)))) : va_E) = vx_e cs (fun k => if k < sh.length then ad k else q) (vx_z g sh.length) (sh.length + 0) (.inr (.inl (false, N'))) := by
    show _ = Sum.inl (cs.1, N', Sum.inl (fun j : Nat => Int32.ofInt (vx_z g sh.length (sh.length + 0) j)))
    rw [show (fun j : Nat => Int32.ofInt (vx_z g sh.length (sh.length + 0) j)) = fun _ => (0 : Int32) from funext fun j => by rw [show vx_z g sh.length (sh.length + 0) j = 0 from if_pos (Nat.le_refl _)]; rfl]
  rw [efs] at hP2 hD2
  have ew := vx_w_app (cs := cs) (ad := ad) (ad' := (fun k => if k < sh.length then ad k else q)) (g := g) (g' := vx_z g sh.length) (hs := [.inr (.inl (false, N'))]) (vx_rok_sh hok) hok1 hz1
  have eq1 : (fun k => if k < sh.length then ad k else q) (sh.length + 0) = q := if_neg (by omega)
  rw [← vx_st_ad (ad := ad) (ad' := (fun k => if k < sh.length then ad k else q)) (fun k hk => hok1 k (vx_rok_st hok k hk))]
  have hrf : (Value.ref q :: st.map (vx_v (fun k => if k < sh.length then ad k else q))) = ((.inr (some sh.length) :: st).map (vx_v (fun k => if k < sh.length then ad k else q))) := by
    show _ = va_rf (some ((fun k => if k < sh.length then ad k else q) sh.length)) :: _
    rw [show (fun k => if k < sh.length then ad k else q) sh.length = q from if_neg (by omega)]
    rfl
  rw [hrf]
  have hP1 : va_P D vwCl (vx_w cs (fun k => if k < sh.length then ad k else q) (sh ++ [.inr (.inl (false, N'))]) (vx_z g sh.length)) H1 := by
    rw [ew]
    show va_P D vwCl (_ ++ [((fun k => if k < sh.length then ad k else q) (sh.length + 0), vx_e cs (fun k => if k < sh.length then ad k else q) (vx_z g sh.length) (sh.length + 0) (.inr (.inl (false, N'))))]) H1
    rw [eq1]; exact hP2
  have hD1 : va_D A (vx_w cs (fun k => if k < sh.length then ad k else q) (sh ++ [.inr (.inl (false, N'))]) (vx_z g sh.length)) := by
    rw [ew]
    show va_D A (_ ++ [((fun k => if k < sh.length then ad k else q) (sh.length + 0), vx_e cs (fun k => if k < sh.length then ad k else q) (vx_z g sh.length) (sh.length + 0) (.inr (.inl (false, N'))))])
    rw [eq1]; exact hD2
  exact kk p e s m args below meth c D cs ad0 A Qc hC H1 locs (fun k => if k < sh.length then ad k else q) ls ⟨hP1, hD1, hS1, vx_l_ad (fun k hk => hok1 k (vx_rok_L hok k hk)) hl, hL, vx_sR_r (vx_sR_t hs), vx_gR_z hg, fun k hk => (hok1 k (hNa k hk)).trans (ha k hk)⟩
set_option maxHeartbeats 4000000 in
theorem vr_newz (pc' : Nat) (sh' : List vx_H) (k' : Nat) {n : Int} {N' : Nat} (harr : Cond.arrayClass .boolean ∈ vx_tb) (hn : n = (N' : Int)) (hsm : N' ≤ 1000) (hd : decode M.2.1 pc = .ok (.newarray .boolean, 2)) (hpc : pc + 2 = pc') (hf : kc + 1 ≤ R.cells ∧ ks + N' ≤ R.slots) (hNa : ∀ k, Na k → k < sh.length) (hok : vx_rok sh L st = true) (hsh : sh ++ [.inr (.inl (true, N'))] = sh') (hk' : sh.length = k') (kk : vJ l M R Na P mc ms (kc + 1) (ks + N') sh' (vx_z g k') pc' L (.inr (some k') :: st)) : vJ l M R Na P mc ms kc ks sh g pc L (.inl n :: st) := by
  intro p e s m args below meth c D cs ad0 A Qc hC H locs ad ls hX
  obtain ⟨hx, hb, hr, hml, hown, hts, hlk, hnm, ⟨hK, hKN⟩, hA, hQ⟩ := id hC
  obtain ⟨hP, hD, hS, hl, hL, hs, hg, ha⟩ := id hX
  subst hpc
  subst hsh
  subst hk'
  subst hn
  have hin : vx_in (N' : Int) := vx_sR_h hs
  refine va_newa (atype := .boolean) (a0 := (N', .inl (fun _ => (0 : Int32)))) (N' := N') hx hb (hts _ harr) rfl hK hP hD hS hA (fun _ => rfl) (fun h => by have := (vx_lt hin vx_in0).mp h; omega) (by rw [vx_nat hin]; rfl) (by show N' * 1 ≤ 536870912; omega) hf.1 hf.2 hd (fun q cA H1 hK2 hP2 hD2 hS1 => ?_)
  have ecA : cA = cs.2.1 := by
    have h1 := (hK.2 1 _ rfl).2
    have h2 := (hK2.2 3 (cA, .boolean) rfl).2
    exact Option.some.inj (h2.symm.trans h1)
  subst ecA
  have hok1 : ∀ i, i < sh.length → (fun k => if k < sh.length then ad k else q) i = ad i := fun i hi => if_pos hi
  have hz1 : ∀ a b, a < sh.length → vx_z g sh.length a b = g a b := fun a b h => if_neg (by omega)
  have efs : (Sum.inl (cs.2.1, (N', .inl (fun _ => (0 : Int32)))) : va_E) = vx_e cs (fun k => if k < sh.length then ad k else q) (vx_z g sh.length) (sh.length + 0) (.inr (.inl (true, N'))) := by
    show _ = Sum.inl (cs.2.1, N', Sum.inl (fun j : Nat => Int32.ofInt (vx_z g sh.length (sh.length + 0) j)))
    rw [show (fun j : Nat => Int32.ofInt (vx_z g sh.length (sh.length + 0) j)) = fun _ => (0 : Int32) from funext fun j => by rw [show vx_z g sh.length (sh.length + 0) j = 0 from if_pos (Nat.le_refl _)]; rfl]
  rw [efs] at hP2 hD2
  have ew := vx_w_app (cs := cs) (ad := ad) (ad' := (fun k => if k < sh.length then ad k else q)) (g := g) (g' := vx_z g sh.length) (hs := [.inr (.inl (true, N'))]) (vx_rok_sh hok) hok1 hz1
  have eq1 : (fun k => if k < sh.length then ad k else q) (sh.length + 0) = q := if_neg (by omega)
  rw [← vx_st_ad (ad := ad) (ad' := (fun k => if k < sh.length then ad k else q)) (fun k hk => hok1 k (vx_rok_st hok k hk))]
  have hrf : (Value.ref q :: st.map (vx_v (fun k => if k < sh.length then ad k else q))) = ((.inr (some sh.length) :: st).map (vx_v (fun k => if k < sh.length then ad k else q))) := by
    show _ = va_rf (some ((fun k => if k < sh.length then ad k else q) sh.length)) :: _
    rw [show (fun k => if k < sh.length then ad k else q) sh.length = q from if_neg (by omega)]
    rfl
  rw [hrf]
  have hP1 : va_P D vwCl (vx_w cs (fun k => if k < sh.length then ad k else q) (sh ++ [.inr (.inl (true, N'))]) (vx_z g sh.length)) H1 := by
    rw [ew]
    show va_P D vwCl (_ ++ [((fun k => if k < sh.length then ad k else q) (sh.length + 0), vx_e cs (fun k => if k < sh.length then ad k else q) (vx_z g sh.length) (sh.length + 0) (.inr (.inl (true, N'))))]) H1
    rw [eq1]; exact hP2
  have hD1 : va_D A (vx_w cs (fun k => if k < sh.length then ad k else q) (sh ++ [.inr (.inl (true, N'))]) (vx_z g sh.length)) := by
    rw [ew]
    show va_D A (_ ++ [((fun k => if k < sh.length then ad k else q) (sh.length + 0), vx_e cs (fun k => if k < sh.length then ad k else q) (vx_z g sh.length) (sh.length + 0) (.inr (.inl (true, N'))))])
    rw [eq1]; exact hD2
  exact kk p e s m args below meth c D cs ad0 A Qc hC H1 locs (fun k => if k < sh.length then ad k else q) ls ⟨hP1, hD1, hS1, vx_l_ad (fun k hk => hok1 k (vx_rok_L hok k hk)) hl, hL, vx_sR_r (vx_sR_t hs), vx_gR_z hg, fun k hk => (hok1 k (hNa k hk)).trans (ha k hk)⟩
end VXA
section VXG
variable {l : Launch} {M : vx_Me} {R : Room} {Na : Nat → Prop} {P : vx_P} {mc ms kc ks : Nat} {sh : List vx_H} {g : vx_M} {pc : Nat} {L : List (Option vx_V)} {st : List vx_V}
set_option maxHeartbeats 4000000 in
theorem vr_mna (pc' : Nat) (sh' : List vx_H) (k' : Nat) {n k : Int} {N' K' idx : Nat} (hclk : Cond.classLink M.1.cls idx "[[I" ∈ vx_tb) (harr : Cond.arrayClass .int ∈ vx_tb) (hn : n = (N' : Int)) (hk : k = (K' : Int)) (hsm : N' ≤ 1000 ∧ K' ≤ 1000) (hd : decode M.2.1 pc = .ok (.multianewarray idx 2, 4)) (hpc : pc + 4 = pc') (hf : kc + (1 + N') ≤ R.cells ∧ ks + (N' + N' * K') ≤ R.slots) (hNa : ∀ k, Na k → k < sh.length) (hok : vx_rok sh L st = true) (hsh : sh ++ (.inr (.inr ((List.range N').map (fun i => some (sh.length + 1 + i)))) :: List.replicate N' (.inr (.inl (false, K')))) = sh') (hk' : sh.length = k') (kk : vJ l M R Na P mc ms (kc + 1 + N') (ks + N' + N' * K') sh' (vx_z g k') pc' L (.inr (some k') :: st)) : vJ l M R Na P mc ms kc ks sh g pc L (.inl k :: .inl n :: st) := by
  intro p e s m args below meth c D cs ad0 A Qc hC H locs ad ls hX
  obtain ⟨hx, hb, hr, hml, hown, hts, hlk, hnm, ⟨hK, hKN⟩, hA, hQ⟩ := id hC
  obtain ⟨hP, hD, hS, hl, hL, hs, hg, ha⟩ := id hX
  subst hpc
  subst hsh
  subst hk'
  subst hn
  subst hk
  have hink : vx_in (K' : Int) := vx_sR_h hs
  have hinn : vx_in (N' : Int) := vx_sR_h (vx_sR_t hs)
  have hXP : va_P D vwCl (vx_w cs ad sh g ++ va_pl [] (fun _ => .inr (0, []))) H := by
    rw [show va_pl [] (fun _ => (.inr (0, []) : va_E)) = [] from rfl, List.append_nil]; exact hP
  have hXD : va_D A (vx_w cs ad sh g ++ va_pl [] (fun _ => .inr (0, []))) := by
    rw [show va_pl [] (fun _ => (.inr (0, []) : va_E)) = [] from rfl, List.append_nil]; exact hD
  refine va_mna (ty := .int) (cy := cs.1) (z := (K', .inl (fun _ => (0 : Int32)))) (N' := N') (K' := K') hx hb hown (hts _ hclk) (vx_N.use hKN) (hts _ harr) (hK.2 0 _ rfl).2 hK hXP hXD hS hA (fun h => by have := (vx_lt hinn vx_in0).mp h; omega) (fun h => by have := (vx_lt hink vx_in0).mp h; omega) (by rw [vx_nat hinn]; rfl) (by rw [vx_nat hink]; rfl) (by omega) (by show K' * 4 ≤ 536870912; omega) (by omega) rfl rfl hf.1 hf.2 (fun c9 => by rw [vp_cell_i]; exact (arrV_new _ _ _).symm.symm) hd (fun q r cA H1 hinj _ hK2 hP2 hD2 hS1 => ?_)
  have ecA : cA = cs.2.2 := by
    have h1 := (hK.2 2 _ rfl).2
    have h2 := (hK2.2 3 (cA, .array .int) rfl).2
    exact Option.some.inj (h2.symm.trans h1)
  subst ecA
  have hok1 : ∀ i, i < sh.length → (fun k => if k < sh.length then ad k else if k = sh.length then q else r (k - sh.length - 1)) i = ad i := fun i hi => if_pos hi
  have hz1 : ∀ a b, a < sh.length → vx_z g sh.length a b = g a b := fun a b h => if_neg (by omega)
  have hq1 : (fun k => if k < sh.length then ad k else if k = sh.length then q else r (k - sh.length - 1)) sh.length = q := by simp
  have hr1 : ∀ i, (fun k => if k < sh.length then ad k else if k = sh.length then q else r (k - sh.length - 1)) (sh.length + 1 + i) = r i := fun i => by
    show (if sh.length + 1 + i < sh.length then _ else _) = _
    rw [if_neg (by omega), if_neg (by omega), show sh.length + 1 + i - sh.length - 1 = i by omega]
  have ew := vx_w_app (cs := cs) (ad := ad) (ad' := (fun k => if k < sh.length then ad k else if k = sh.length then q else r (k - sh.length - 1))) (g := g) (g' := vx_z g sh.length) (hs := (.inr (.inr ((List.range N').map (fun i => some (sh.length + 1 + i)))) :: List.replicate N' (.inr (.inl (false, K'))))) (vx_rok_sh hok) hok1 hz1
  have e1 : vx_w cs ad sh g ++ [(q, .inl (cs.2.2, N', .inr (.inr (.inr (.inr (fun i => if i < N' then some (r i) else none))))))] ++ va_pl ([] ++ (List.range N').map r) (vr_up (fun _ => .inr (0, [])) ((List.range N').map r) (.inl (cs.1, (K', .inl (fun _ => (0 : Int32)))))) = vx_w cs (fun k => if k < sh.length then ad k else if k = sh.length then q else r (k - sh.length - 1)) (sh ++ (.inr (.inr ((List.range N').map (fun i => some (sh.length + 1 + i)))) :: List.replicate N' (.inr (.inl (false, K'))))) (vx_z g sh.length) := by
    rw [ew, List.append_assoc]
    congr 1
    rw [List.mapIdx_cons]
    show _ :: _ = _
    congr 1
    · show (q, _) = ((fun k => if k < sh.length then ad k else if k = sh.length then q else r (k - sh.length - 1)) sh.length, _)
      rw [hq1]
      congr 1
      simp only [vx_e, List.length_map, List.length_range]
      congr 7
      funext i
      by_cases hi : i < N'
      · rw [if_pos hi, List.getD_eq_getElem?_getD, List.getElem?_map, List.getElem?_range hi]
        show some (r i) = some ((fun k => if k < sh.length then ad k else if k = sh.length then q else r (k - sh.length - 1)) (sh.length + 1 + i))
        rw [hr1 i]
      · rw [if_neg hi, List.getD_eq_getElem?_getD, List.getElem?_eq_none (by simp; omega)]
        rfl
    · apply List.ext_getElem?
      intro i
      unfold va_pl
      rw [List.nil_append, List.map_map]
      show (List.map _ (List.range N'))[i]? = _
      rw [List.getElem?_map, List.getElem?_mapIdx]
      by_cases hi : i < N'
      · rw [List.getElem?_range hi, List.getElem?_replicate, if_pos hi]
        show some (r i, vr_up _ _ _ (r i)) = some ((fun k => if k < sh.length then ad k else if k = sh.length then q else r (k - sh.length - 1)) (sh.length + (i + 1)), _)
        rw [vr_up_in (List.mem_map.mpr ⟨i, List.mem_range.mpr hi, rfl⟩), show sh.length + (i + 1) = sh.length + 1 + i by omega, hr1 i]
        show some (r i, Sum.inl (cs.1, K', Sum.inl fun _ => (0 : Int32))) = some (r i, Sum.inl (cs.1, K', Sum.inl (fun j : Nat => Int32.ofInt (vx_z g sh.length (sh.length + 1 + i) j))))
        rw [show (fun j : Nat => Int32.ofInt (vx_z g sh.length (sh.length + 1 + i) j)) = fun _ => (0 : Int32) from funext fun j => by rw [show vx_z g sh.length (sh.length + 1 + i) j = 0 from if_pos (by omega)]; rfl]
      · rw [List.getElem?_eq_none (by simp; omega), List.getElem?_eq_none (by simp; omega)]
        rfl
  rw [e1] at hP2 hD2
  rw [← vx_st_ad (ad := ad) (ad' := (fun k => if k < sh.length then ad k else if k = sh.length then q else r (k - sh.length - 1))) (fun k hk => hok1 k (vx_rok_st hok k hk))]
  have hrf : (Value.ref q :: st.map (vx_v (fun k => if k < sh.length then ad k else if k = sh.length then q else r (k - sh.length - 1)))) = ((.inr (some sh.length) :: st).map (vx_v (fun k => if k < sh.length then ad k else if k = sh.length then q else r (k - sh.length - 1)))) := by
    show _ = va_rf (some ((fun k => if k < sh.length then ad k else if k = sh.length then q else r (k - sh.length - 1)) sh.length)) :: _
    rw [hq1]
    rfl
  rw [hrf]
  exact kk p e s m args below meth c D cs ad0 A Qc hC H1 locs (fun k => if k < sh.length then ad k else if k = sh.length then q else r (k - sh.length - 1)) ls ⟨hP2, hD2, hS1, vx_l_ad (fun k hk => hok1 k (vx_rok_L hok k hk)) hl, hL, vx_sR_r (vx_sR_t (vx_sR_t hs)), vx_gR_z hg, fun k hk => (hok1 k (hNa k hk)).trans (ha k hk)⟩
end VXG

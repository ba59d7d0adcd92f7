section VXR
variable {l : Launch} {M : vx_Me} {R : Room} {Na : Nat → Prop} {P : vx_P} {mc ms kc ks : Nat} {sh : List vx_H} {g : vx_M} {pc : Nat} {L : List (Option vx_V)} {st : List vx_V}
theorem vr_iconst (pc' : Nat) {n : Int} (hd : decode M.2.1 pc = .ok (.iconst n, 1)) (hpc : pc + 1 = pc') (hn : vx_in n) (kk : vJ l M R Na P mc ms kc ks sh g pc' L (.inl n :: st)) : vJ l M R Na P mc ms kc ks sh g pc L st := by
  intro p e s m args below meth c D cs ad0 A Qc hC H locs ad ls hX
  obtain ⟨hx, hb, hr, hml, hown, hts, hlk, hnm, ⟨hK, hKN⟩, hA, hQ⟩ := id hC
  obtain ⟨hP, hD, hS, hl, hL, hs, hg, ha⟩ := id hX
  subst hpc
  refine lv_iconst (v := Int32.ofInt n) hx hb hd rfl ?_
  exact kk p e s m args below meth c D cs ad0 A Qc hC H locs ad ls ⟨hP, hD, hS, hl, hL, vx_sR_i hn hs, hg, ha⟩
theorem vr_bipush (pc' : Nat) {n : Int} (hd : decode M.2.1 pc = .ok (.bipush n, 2)) (hpc : pc + 2 = pc') (hv : (Int8.ofInt n).toInt32 = Int32.ofInt n) (hn : vx_in n) (kk : vJ l M R Na P mc ms kc ks sh g pc' L (.inl n :: st)) : vJ l M R Na P mc ms kc ks sh g pc L st := by
  intro p e s m args below meth c D cs ad0 A Qc hC H locs ad ls hX
  obtain ⟨hx, hb, hr, hml, hown, hts, hlk, hnm, ⟨hK, hKN⟩, hA, hQ⟩ := id hC
  obtain ⟨hP, hD, hS, hl, hL, hs, hg, ha⟩ := id hX
  subst hpc
  refine lv_bipush (v := Int32.ofInt n) hx hb hd hv ?_
  exact kk p e s m args below meth c D cs ad0 A Qc hC H locs ad ls ⟨hP, hD, hS, hl, hL, vx_sR_i hn hs, hg, ha⟩
theorem vr_sipush (pc' : Nat) {n : Int} (hd : decode M.2.1 pc = .ok (.sipush n, 3)) (hpc : pc + 3 = pc') (hv : (Int16.ofInt n).toInt32 = Int32.ofInt n) (hn : vx_in n) (kk : vJ l M R Na P mc ms kc ks sh g pc' L (.inl n :: st)) : vJ l M R Na P mc ms kc ks sh g pc L st := by
  intro p e s m args below meth c D cs ad0 A Qc hC H locs ad ls hX
  obtain ⟨hx, hb, hr, hml, hown, hts, hlk, hnm, ⟨hK, hKN⟩, hA, hQ⟩ := id hC
  obtain ⟨hP, hD, hS, hl, hL, hs, hg, ha⟩ := id hX
  subst hpc
  refine lv_sipush (v := Int32.ofInt n) hx hb hd hv ?_
  exact kk p e s m args below meth c D cs ad0 A Qc hC H locs ad ls ⟨hP, hD, hS, hl, hL, vx_sR_i hn hs, hg, ha⟩
theorem vr_ldc (pc' : Nat) (n : Int) {idx : Nat} (hd : decode M.2.1 pc = .ok (.ldc idx, 2)) (hpc : pc + 2 = pc') (hc : Cond.constant M.1.cls idx (Int32.ofInt n) ∈ vx_tb) (hn : vx_in n) (kk : vJ l M R Na P mc ms kc ks sh g pc' L (.inl n :: st)) : vJ l M R Na P mc ms kc ks sh g pc L st := by
  intro p e s m args below meth c D cs ad0 A Qc hC H locs ad ls hX
  obtain ⟨hx, hb, hr, hml, hown, hts, hlk, hnm, ⟨hK, hKN⟩, hA, hQ⟩ := id hC
  obtain ⟨hP, hD, hS, hl, hL, hs, hg, ha⟩ := id hX
  subst hpc
  refine lv_ldc (v := Int32.ofInt n) hx hb hown (hts _ hc) hd ?_
  exact kk p e s m args below meth c D cs ad0 A Qc hC H locs ad ls ⟨hP, hD, hS, hl, hL, vx_sR_i hn hs, hg, ha⟩
theorem vr_iload_n (pc' : Nat) {k : Fin 4} {i : Nat} {x : Int} (hd : decode M.2.1 pc = .ok (.iload_n k, 1)) (hpc : pc + 1 = pc') (hi : (k : Nat) = i) (hv : L[i]? = some (some (.inl x))) (kk : vJ l M R Na P mc ms kc ks sh g pc' L (.inl x :: st)) : vJ l M R Na P mc ms kc ks sh g pc L st := by
  intro p e s m args below meth c D cs ad0 A Qc hC H locs ad ls hX
  obtain ⟨hx, hb, hr, hml, hown, hts, hlk, hnm, ⟨hK, hKN⟩, hA, hQ⟩ := id hC
  obtain ⟨hP, hD, hS, hl, hL, hs, hg, ha⟩ := id hX
  subst hpc
  refine lv_iload_n hx hb hd hi (vx_at hl hv) ?_
  exact kk p e s m args below meth c D cs ad0 A Qc hC H locs ad ls ⟨hP, hD, hS, hl, hL, vx_sR_i (vx_LR_at hL hv) hs, hg, ha⟩
theorem vr_iload (pc' : Nat) {i : Nat} {x : Int} (hd : decode M.2.1 pc = .ok (.iload i, 2)) (hpc : pc + 2 = pc') (hv : L[i]? = some (some (.inl x))) (kk : vJ l M R Na P mc ms kc ks sh g pc' L (.inl x :: st)) : vJ l M R Na P mc ms kc ks sh g pc L st := by
  intro p e s m args below meth c D cs ad0 A Qc hC H locs ad ls hX
  obtain ⟨hx, hb, hr, hml, hown, hts, hlk, hnm, ⟨hK, hKN⟩, hA, hQ⟩ := id hC
  obtain ⟨hP, hD, hS, hl, hL, hs, hg, ha⟩ := id hX
  subst hpc
  refine lv_iload hx hb hd (vx_at hl hv) ?_
  exact kk p e s m args below meth c D cs ad0 A Qc hC H locs ad ls ⟨hP, hD, hS, hl, hL, vx_sR_i (vx_LR_at hL hv) hs, hg, ha⟩
theorem vr_aload_n (pc' : Nat) {k : Fin 4} {i : Nat} {x : Nat} (hd : decode M.2.1 pc = .ok (.aload_n k, 1)) (hpc : pc + 1 = pc') (hi : (k : Nat) = i) (hv : L[i]? = some (some (.inr (some x)))) (kk : vJ l M R Na P mc ms kc ks sh g pc' L (.inr (some x) :: st)) : vJ l M R Na P mc ms kc ks sh g pc L st := by
  intro p e s m args below meth c D cs ad0 A Qc hC H locs ad ls hX
  obtain ⟨hx, hb, hr, hml, hown, hts, hlk, hnm, ⟨hK, hKN⟩, hA, hQ⟩ := id hC
  obtain ⟨hP, hD, hS, hl, hL, hs, hg, ha⟩ := id hX
  subst hpc
  refine lv_aload_n hx hb hd hi (vx_at hl hv) ?_
  exact kk p e s m args below meth c D cs ad0 A Qc hC H locs ad ls ⟨hP, hD, hS, hl, hL, vx_sR_r hs, hg, ha⟩
theorem vr_aload (pc' : Nat) {i : Nat} {x : Nat} (hd : decode M.2.1 pc = .ok (.aload i, 2)) (hpc : pc + 2 = pc') (hv : L[i]? = some (some (.inr (some x)))) (kk : vJ l M R Na P mc ms kc ks sh g pc' L (.inr (some x) :: st)) : vJ l M R Na P mc ms kc ks sh g pc L st := by
  intro p e s m args below meth c D cs ad0 A Qc hC H locs ad ls hX
  obtain ⟨hx, hb, hr, hml, hown, hts, hlk, hnm, ⟨hK, hKN⟩, hA, hQ⟩ := id hC
  obtain ⟨hP, hD, hS, hl, hL, hs, hg, ha⟩ := id hX
  subst hpc
  refine lv_aload hx hb hd (vx_at hl hv) ?_
  exact kk p e s m args below meth c D cs ad0 A Qc hC H locs ad ls ⟨hP, hD, hS, hl, hL, vx_sR_r hs, hg, ha⟩
theorem vr_istore_n (pc' : Nat) (L' : List (Option vx_V)) {k : Fin 4} {i : Nat} {x : Int} (hd : decode M.2.1 pc = .ok (.istore_n k, 1)) (hpc : pc + 1 = pc') (hi : (k : Nat) = i) (hn : i < M.2.2.1) (hL' : L.set i (some (.inl x)) = L') (kk : vJ l M R Na P mc ms kc ks sh g pc' L' st) : vJ l M R Na P mc ms kc ks sh g pc L ((.inl x) :: st) := by
  intro p e s m args below meth c D cs ad0 A Qc hC H locs ad ls hX
  obtain ⟨hx, hb, hr, hml, hown, hts, hlk, hnm, ⟨hK, hKN⟩, hA, hQ⟩ := id hC
  obtain ⟨hP, hD, hS, hl, hL, hs, hg, ha⟩ := id hX
  subst hpc
  refine lv_istore_n hx hb hd hi hl hn rfl (fun ls hl2 => ?_)
  exact kk p e s m args below meth c D cs ad0 A Qc hC H locs ad ls ⟨hP, hD, hS, vx_st hL' hl2, vx_LR_set hL' hL (fun z hz => by cases hz; exact vx_sR_h hs), vx_sR_t hs, hg, ha⟩
theorem vr_istore (pc' : Nat) (L' : List (Option vx_V)) {i : Nat} {x : Int} (hd : decode M.2.1 pc = .ok (.istore i, 2)) (hpc : pc + 2 = pc') (hn : i < M.2.2.1) (hL' : L.set i (some (.inl x)) = L') (kk : vJ l M R Na P mc ms kc ks sh g pc' L' st) : vJ l M R Na P mc ms kc ks sh g pc L ((.inl x) :: st) := by
  intro p e s m args below meth c D cs ad0 A Qc hC H locs ad ls hX
  obtain ⟨hx, hb, hr, hml, hown, hts, hlk, hnm, ⟨hK, hKN⟩, hA, hQ⟩ := id hC
  obtain ⟨hP, hD, hS, hl, hL, hs, hg, ha⟩ := id hX
  subst hpc
  refine lv_istore hx hb hd hl hn rfl (fun ls hl2 => ?_)
  exact kk p e s m args below meth c D cs ad0 A Qc hC H locs ad ls ⟨hP, hD, hS, vx_st hL' hl2, vx_LR_set hL' hL (fun z hz => by cases hz; exact vx_sR_h hs), vx_sR_t hs, hg, ha⟩
theorem vr_astore_n (pc' : Nat) (L' : List (Option vx_V)) {k : Fin 4} {i : Nat} {x : Nat} (hd : decode M.2.1 pc = .ok (.astore_n k, 1)) (hpc : pc + 1 = pc') (hi : (k : Nat) = i) (hn : i < M.2.2.1) (hL' : L.set i (some (.inr (some x))) = L') (kk : vJ l M R Na P mc ms kc ks sh g pc' L' st) : vJ l M R Na P mc ms kc ks sh g pc L ((.inr (some x)) :: st) := by
  intro p e s m args below meth c D cs ad0 A Qc hC H locs ad ls hX
  obtain ⟨hx, hb, hr, hml, hown, hts, hlk, hnm, ⟨hK, hKN⟩, hA, hQ⟩ := id hC
  obtain ⟨hP, hD, hS, hl, hL, hs, hg, ha⟩ := id hX
  subst hpc
  refine lv_astore_n hx hb hd hi hl hn rfl (fun ls hl2 => ?_)
  exact kk p e s m args below meth c D cs ad0 A Qc hC H locs ad ls ⟨hP, hD, hS, vx_st hL' hl2, vx_LR_set hL' hL (fun z hz => by cases hz), vx_sR_t hs, hg, ha⟩
theorem vr_astore (pc' : Nat) (L' : List (Option vx_V)) {i : Nat} {x : Nat} (hd : decode M.2.1 pc = .ok (.astore i, 2)) (hpc : pc + 2 = pc') (hn : i < M.2.2.1) (hL' : L.set i (some (.inr (some x))) = L') (kk : vJ l M R Na P mc ms kc ks sh g pc' L' st) : vJ l M R Na P mc ms kc ks sh g pc L ((.inr (some x)) :: st) := by
  intro p e s m args below meth c D cs ad0 A Qc hC H locs ad ls hX
  obtain ⟨hx, hb, hr, hml, hown, hts, hlk, hnm, ⟨hK, hKN⟩, hA, hQ⟩ := id hC
  obtain ⟨hP, hD, hS, hl, hL, hs, hg, ha⟩ := id hX
  subst hpc
  refine lv_astore hx hb hd hl hn rfl (fun ls hl2 => ?_)
  exact kk p e s m args below meth c D cs ad0 A Qc hC H locs ad ls ⟨hP, hD, hS, vx_st hL' hl2, vx_LR_set hL' hL (fun z hz => by cases hz), vx_sR_t hs, hg, ha⟩
theorem vr_iinc (pc' : Nat) (L' : List (Option vx_V)) {i : Nat} {n x : Int} (hd : decode M.2.1 pc = .ok (.iinc i n, 3)) (hpc : pc + 3 = pc') (hv : L[i]? = some (some (.inl x))) (hin : vx_in (x + n)) (hn : i < M.2.2.1) (hL' : L.set i (some (.inl (x + n))) = L') (kk : vJ l M R Na P mc ms kc ks sh g pc' L' st) : vJ l M R Na P mc ms kc ks sh g pc L st := by
  intro p e s m args below meth c D cs ad0 A Qc hC H locs ad ls hX
  obtain ⟨hx, hb, hr, hml, hown, hts, hlk, hnm, ⟨hK, hKN⟩, hA, hQ⟩ := id hC
  obtain ⟨hP, hD, hS, hl, hL, hs, hg, ha⟩ := id hX
  subst hpc
  obtain ⟨k, hk⟩ := List.getElem?_of_mem (vx_l_mem (ad := ad) (q := (i, vx_v ad (.inl x))).mpr ⟨_, hv, rfl⟩)
  refine lv_iinc (v := Int32.ofInt (x + n)) hx hb hd hl hk (Int32.ofInt_add x n).symm hn rfl (fun ls hl2 => ?_)
  exact kk p e s m args below meth c D cs ad0 A Qc hC H locs ad ls ⟨hP, hD, hS, vx_st (v := .inl (x + n)) hL' hl2, vx_LR_set hL' hL (fun z hz => by cases hz; exact hin), hs, hg, ha⟩
theorem vr_dup (pc' : Nat) {v : vx_V} (hd : decode M.2.1 pc = .ok (.dup, 1)) (hpc : pc + 1 = pc') (kk : vJ l M R Na P mc ms kc ks sh g pc' L (v :: v :: st)) : vJ l M R Na P mc ms kc ks sh g pc L (v :: st) := by
  intro p e s m args below meth c D cs ad0 A Qc hC H locs ad ls hX
  obtain ⟨hx, hb, hr, hml, hown, hts, hlk, hnm, ⟨hK, hKN⟩, hA, hQ⟩ := id hC
  obtain ⟨hP, hD, hS, hl, hL, hs, hg, ha⟩ := id hX
  subst hpc
  refine lv_dup hx hb hd (vx_cat ad v) ?_
  exact kk p e s m args below meth c D cs ad0 A Qc hC H locs ad ls ⟨hP, hD, hS, hl, hL, vx_sR_c (fun z hz => hs z (hz ▸ List.mem_cons_self)) hs, hg, ha⟩
theorem vr_pop (pc' : Nat) {v : vx_V} (hd : decode M.2.1 pc = .ok (.pop, 1)) (hpc : pc + 1 = pc') (kk : vJ l M R Na P mc ms kc ks sh g pc' L st) : vJ l M R Na P mc ms kc ks sh g pc L (v :: st) := by
  intro p e s m args below meth c D cs ad0 A Qc hC H locs ad ls hX
  obtain ⟨hx, hb, hr, hml, hown, hts, hlk, hnm, ⟨hK, hKN⟩, hA, hQ⟩ := id hC
  obtain ⟨hP, hD, hS, hl, hL, hs, hg, ha⟩ := id hX
  subst hpc
  refine lv_pop hx hb hd (vx_cat ad v) ?_
  exact kk p e s m args below meth c D cs ad0 A Qc hC H locs ad ls ⟨hP, hD, hS, hl, hL, vx_sR_t hs, hg, ha⟩
theorem vr_dup2 (pc' : Nat) {v u : vx_V} (hd : decode M.2.1 pc = .ok (.dup2, 1)) (hpc : pc + 1 = pc') (kk : vJ l M R Na P mc ms kc ks sh g pc' L (v :: u :: v :: u :: st)) : vJ l M R Na P mc ms kc ks sh g pc L (v :: u :: st) := by
  intro p e s m args below meth c D cs ad0 A Qc hC H locs ad ls hX
  obtain ⟨hx, hb, hr, hml, hown, hts, hlk, hnm, ⟨hK, hKN⟩, hA, hQ⟩ := id hC
  obtain ⟨hP, hD, hS, hl, hL, hs, hg, ha⟩ := id hX
  subst hpc
  refine lv_dup2_11 hx hb hd (vx_cat ad v) (vx_cat ad u) ?_
  exact kk p e s m args below meth c D cs ad0 A Qc hC H locs ad ls ⟨hP, hD, hS, hl, hL, vx_sR_c (fun z hz => hs z (hz ▸ List.mem_cons_self)) (vx_sR_c (fun z hz => vx_sR_t hs z (hz ▸ List.mem_cons_self)) hs), hg, ha⟩
theorem vr_dup_x1 (pc' : Nat) {v u : vx_V} (hd : decode M.2.1 pc = .ok (.dup_x1, 1)) (hpc : pc + 1 = pc') (kk : vJ l M R Na P mc ms kc ks sh g pc' L (v :: u :: v :: st)) : vJ l M R Na P mc ms kc ks sh g pc L (v :: u :: st) := by
  intro p e s m args below meth c D cs ad0 A Qc hC H locs ad ls hX
  obtain ⟨hx, hb, hr, hml, hown, hts, hlk, hnm, ⟨hK, hKN⟩, hA, hQ⟩ := id hC
  obtain ⟨hP, hD, hS, hl, hL, hs, hg, ha⟩ := id hX
  subst hpc
  refine lv_dup_x1 hx hb hd (vx_cat ad v) (vx_cat ad u) ?_
  exact kk p e s m args below meth c D cs ad0 A Qc hC H locs ad ls ⟨hP, hD, hS, hl, hL, vx_sR_c (fun z hz => hs z (hz ▸ List.mem_cons_self)) (vx_sR_c (fun z hz => vx_sR_t hs z (hz ▸ List.mem_cons_self)) (vx_sR_c (fun z hz => hs z (hz ▸ List.mem_cons_self)) (vx_sR_t (vx_sR_t hs)))), hg, ha⟩
theorem vr_iadd (pc' : Nat) {x y : Int} (hd : decode M.2.1 pc = .ok (.iadd, 1)) (hpc : pc + 1 = pc') (hin : vx_in (x + y)) (kk : vJ l M R Na P mc ms kc ks sh g pc' L (.inl (x + y) :: st)) : vJ l M R Na P mc ms kc ks sh g pc L (.inl y :: .inl x :: st) := by
  intro p e s m args below meth c D cs ad0 A Qc hC H locs ad ls hX
  obtain ⟨hx, hb, hr, hml, hown, hts, hlk, hnm, ⟨hK, hKN⟩, hA, hQ⟩ := id hC
  obtain ⟨hP, hD, hS, hl, hL, hs, hg, ha⟩ := id hX
  subst hpc
  refine lv_iadd hx hb hd ?_
  rw [← Int32.ofInt_add]
  exact kk p e s m args below meth c D cs ad0 A Qc hC H locs ad ls ⟨hP, hD, hS, hl, hL, vx_sR_i hin (vx_sR_t (vx_sR_t hs)), hg, ha⟩
theorem vr_isub (pc' : Nat) {x y : Int} (hd : decode M.2.1 pc = .ok (.isub, 1)) (hpc : pc + 1 = pc') (hin : vx_in (x - y)) (kk : vJ l M R Na P mc ms kc ks sh g pc' L (.inl (x - y) :: st)) : vJ l M R Na P mc ms kc ks sh g pc L (.inl y :: .inl x :: st) := by
  intro p e s m args below meth c D cs ad0 A Qc hC H locs ad ls hX
  obtain ⟨hx, hb, hr, hml, hown, hts, hlk, hnm, ⟨hK, hKN⟩, hA, hQ⟩ := id hC
  obtain ⟨hP, hD, hS, hl, hL, hs, hg, ha⟩ := id hX
  subst hpc
  refine lv_isub hx hb hd ?_
  rw [← Int32.ofInt_sub]
  exact kk p e s m args below meth c D cs ad0 A Qc hC H locs ad ls ⟨hP, hD, hS, hl, hL, vx_sR_i hin (vx_sR_t (vx_sR_t hs)), hg, ha⟩
theorem vr_imul (pc' : Nat) {x y : Int} (hd : decode M.2.1 pc = .ok (.imul, 1)) (hpc : pc + 1 = pc') (hin : vx_in (x * y)) (kk : vJ l M R Na P mc ms kc ks sh g pc' L (.inl (x * y) :: st)) : vJ l M R Na P mc ms kc ks sh g pc L (.inl y :: .inl x :: st) := by
  intro p e s m args below meth c D cs ad0 A Qc hC H locs ad ls hX
  obtain ⟨hx, hb, hr, hml, hown, hts, hlk, hnm, ⟨hK, hKN⟩, hA, hQ⟩ := id hC
  obtain ⟨hP, hD, hS, hl, hL, hs, hg, ha⟩ := id hX
  subst hpc
  refine lv_imul hx hb hd ?_
  rw [← Int32.ofInt_mul]
  exact kk p e s m args below meth c D cs ad0 A Qc hC H locs ad ls ⟨hP, hD, hS, hl, hL, vx_sR_i hin (vx_sR_t (vx_sR_t hs)), hg, ha⟩
theorem vx_emod_le {x y : Int} (h0 : 0 ≤ x) (h1 : 0 < y) : x % y ≤ x := by
  have h := Int.emod_def x y
  have h2 : 0 ≤ y * (x / y) := Int.mul_nonneg (by omega) (Int.ediv_nonneg h0 (by omega))
  omega
theorem vr_idiv (pc' : Nat) {x y : Int} (hd : decode M.2.1 pc = .ok (.idiv, 1)) (hpc : pc + 1 = pc') (h0 : 0 ≤ x) (h1 : 0 < y) (kk : vJ l M R Na P mc ms kc ks sh g pc' L (.inl (x / y) :: st)) : vJ l M R Na P mc ms kc ks sh g pc L (.inl y :: .inl x :: st) := by
  intro p e s m args below meth c D cs ad0 A Qc hC H locs ad ls hX
  obtain ⟨hx, hb, hr, hml, hown, hts, hlk, hnm, ⟨hK, hKN⟩, hA, hQ⟩ := id hC
  obtain ⟨hP, hD, hS, hl, hL, hs, hg, ha⟩ := id hX
  subst hpc
  have hy := vx_sR_h hs
  have hxx := vx_sR_h (vx_sR_t hs)
  have hin : vx_in (x / y) := by
    have q0 : 0 ≤ x / y := Int.ediv_nonneg h0 (by omega)
    have q1 : x / y ≤ x := by first | exact Int.ediv_le_self y h0 | exact vx_emod_le h0 h1
    unfold vx_in at hxx ⊢
    omega
  refine lv_idiv hx hb hd (fun h => ?_) ?_
  · have := (vx_eq hy vx_in0).mp h
    omega
  rw [← vx_divE hxx hy h0 h1]
  exact kk p e s m args below meth c D cs ad0 A Qc hC H locs ad ls ⟨hP, hD, hS, hl, hL, vx_sR_i hin (vx_sR_t (vx_sR_t hs)), hg, ha⟩
theorem vr_irem (pc' : Nat) {x y : Int} (hd : decode M.2.1 pc = .ok (.irem, 1)) (hpc : pc + 1 = pc') (h0 : 0 ≤ x) (h1 : 0 < y) (kk : vJ l M R Na P mc ms kc ks sh g pc' L (.inl (x % y) :: st)) : vJ l M R Na P mc ms kc ks sh g pc L (.inl y :: .inl x :: st) := by
  intro p e s m args below meth c D cs ad0 A Qc hC H locs ad ls hX
  obtain ⟨hx, hb, hr, hml, hown, hts, hlk, hnm, ⟨hK, hKN⟩, hA, hQ⟩ := id hC
  obtain ⟨hP, hD, hS, hl, hL, hs, hg, ha⟩ := id hX
  subst hpc
  have hy := vx_sR_h hs
  have hxx := vx_sR_h (vx_sR_t hs)
  have hin : vx_in (x % y) := by
    have q0 : 0 ≤ x % y := Int.emod_nonneg x (by omega)
    have q1 : x % y ≤ x := by first | exact Int.ediv_le_self y h0 | exact vx_emod_le h0 h1
    unfold vx_in at hxx ⊢
    omega
  refine lv_irem hx hb hd (fun h => ?_) ?_
  · have := (vx_eq hy vx_in0).mp h
    omega
  rw [← vx_remE hxx hy h0 h1]
  exact kk p e s m args below meth c D cs ad0 A Qc hC H locs ad ls ⟨hP, hD, hS, hl, hL, vx_sR_i hin (vx_sR_t (vx_sR_t hs)), hg, ha⟩
theorem vr_if_eq (tgt pc' : Nat) {x : Int} {off : Int} (hd : decode M.2.1 pc = .ok (.ifCond .eq off, 3)) (ht : (pc : Int) + off = (tgt : Int)) (hpc : pc + 3 = pc') (kt : x = 0 → vJ l M R Na P mc ms kc ks sh g tgt L st) (kf : ¬ x = 0 → vJ l M R Na P mc ms kc ks sh g pc' L st) : vJ l M R Na P mc ms kc ks sh g pc L (.inl x :: st) := by
  intro p e s m args below meth c D cs ad0 A Qc hC H locs ad ls hX
  obtain ⟨hx, hb, hr, hml, hown, hts, hlk, hnm, ⟨hK, hKN⟩, hA, hQ⟩ := id hC
  obtain ⟨hP, hD, hS, hl, hL, hs, hg, ha⟩ := id hX
  subst hpc
  have hxx := vx_sR_h hs
  refine lv_if_eq hx hb hd ht (fun h => ?_) (fun h => ?_)
  · exact kt ((vx_eq hxx vx_in0).mp h) p e s m args below meth c D cs ad0 A Qc hC H locs ad ls ⟨hP, hD, hS, hl, hL, vx_sR_t hs, hg, ha⟩
  · exact kf ((not_congr (vx_eq hxx vx_in0)).mp h) p e s m args below meth c D cs ad0 A Qc hC H locs ad ls ⟨hP, hD, hS, hl, hL, vx_sR_t hs, hg, ha⟩
theorem vr_icmp_eq (tgt pc' : Nat) {x y : Int} {off : Int} (hd : decode M.2.1 pc = .ok (.if_icmp .eq off, 3)) (ht : (pc : Int) + off = (tgt : Int)) (hpc : pc + 3 = pc') (kt : x = y → vJ l M R Na P mc ms kc ks sh g tgt L st) (kf : ¬ x = y → vJ l M R Na P mc ms kc ks sh g pc' L st) : vJ l M R Na P mc ms kc ks sh g pc L (.inl y :: .inl x :: st) := by
  intro p e s m args below meth c D cs ad0 A Qc hC H locs ad ls hX
  obtain ⟨hx, hb, hr, hml, hown, hts, hlk, hnm, ⟨hK, hKN⟩, hA, hQ⟩ := id hC
  obtain ⟨hP, hD, hS, hl, hL, hs, hg, ha⟩ := id hX
  subst hpc
  have hy := vx_sR_h hs
  have hxx := vx_sR_h (vx_sR_t hs)
  refine lv_icmp_eq hx hb hd ht (fun h => ?_) (fun h => ?_)
  · exact kt ((vx_eq hxx hy).mp h) p e s m args below meth c D cs ad0 A Qc hC H locs ad ls ⟨hP, hD, hS, hl, hL, vx_sR_t (vx_sR_t hs), hg, ha⟩
  · exact kf ((not_congr (vx_eq hxx hy)).mp h) p e s m args below meth c D cs ad0 A Qc hC H locs ad ls ⟨hP, hD, hS, hl, hL, vx_sR_t (vx_sR_t hs), hg, ha⟩
theorem vr_if_ne (tgt pc' : Nat) {x : Int} {off : Int} (hd : decode M.2.1 pc = .ok (.ifCond .ne off, 3)) (ht : (pc : Int) + off = (tgt : Int)) (hpc : pc + 3 = pc') (kt : ¬ x = 0 → vJ l M R Na P mc ms kc ks sh g tgt L st) (kf : x = 0 → vJ l M R Na P mc ms kc ks sh g pc' L st) : vJ l M R Na P mc ms kc ks sh g pc L (.inl x :: st) := by
  intro p e s m args below meth c D cs ad0 A Qc hC H locs ad ls hX
  obtain ⟨hx, hb, hr, hml, hown, hts, hlk, hnm, ⟨hK, hKN⟩, hA, hQ⟩ := id hC
  obtain ⟨hP, hD, hS, hl, hL, hs, hg, ha⟩ := id hX
  subst hpc
  have hxx := vx_sR_h hs
  refine lv_if_ne hx hb hd ht (fun h => ?_) (fun h => ?_)
  · exact kt ((not_congr (vx_eq hxx vx_in0)).mp h) p e s m args below meth c D cs ad0 A Qc hC H locs ad ls ⟨hP, hD, hS, hl, hL, vx_sR_t hs, hg, ha⟩
  · exact kf ((vx_eq hxx vx_in0).mp h) p e s m args below meth c D cs ad0 A Qc hC H locs ad ls ⟨hP, hD, hS, hl, hL, vx_sR_t hs, hg, ha⟩
theorem vr_icmp_ne (tgt pc' : Nat) {x y : Int} {off : Int} (hd : decode M.2.1 pc = .ok (.if_icmp .ne off, 3)) (ht : (pc : Int) + off = (tgt : Int)) (hpc : pc + 3 = pc') (kt : ¬ x = y → vJ l M R Na P mc ms kc ks sh g tgt L st) (kf : x = y → vJ l M R Na P mc ms kc ks sh g pc' L st) : vJ l M R Na P mc ms kc ks sh g pc L (.inl y :: .inl x :: st) := by
  intro p e s m args below meth c D cs ad0 A Qc hC H locs ad ls hX
  obtain ⟨hx, hb, hr, hml, hown, hts, hlk, hnm, ⟨hK, hKN⟩, hA, hQ⟩ := id hC
  obtain ⟨hP, hD, hS, hl, hL, hs, hg, ha⟩ := id hX
  subst hpc
  have hy := vx_sR_h hs
  have hxx := vx_sR_h (vx_sR_t hs)
  refine lv_icmp_ne hx hb hd ht (fun h => ?_) (fun h => ?_)
  · exact kt ((not_congr (vx_eq hxx hy)).mp h) p e s m args below meth c D cs ad0 A Qc hC H locs ad ls ⟨hP, hD, hS, hl, hL, vx_sR_t (vx_sR_t hs), hg, ha⟩
  · exact kf ((vx_eq hxx hy).mp h) p e s m args below meth c D cs ad0 A Qc hC H locs ad ls ⟨hP, hD, hS, hl, hL, vx_sR_t (vx_sR_t hs), hg, ha⟩
theorem vr_if_lt (tgt pc' : Nat) {x : Int} {off : Int} (hd : decode M.2.1 pc = .ok (.ifCond .lt off, 3)) (ht : (pc : Int) + off = (tgt : Int)) (hpc : pc + 3 = pc') (kt : x < 0 → vJ l M R Na P mc ms kc ks sh g tgt L st) (kf : ¬ x < 0 → vJ l M R Na P mc ms kc ks sh g pc' L st) : vJ l M R Na P mc ms kc ks sh g pc L (.inl x :: st) := by
  intro p e s m args below meth c D cs ad0 A Qc hC H locs ad ls hX
  obtain ⟨hx, hb, hr, hml, hown, hts, hlk, hnm, ⟨hK, hKN⟩, hA, hQ⟩ := id hC
  obtain ⟨hP, hD, hS, hl, hL, hs, hg, ha⟩ := id hX
  subst hpc
  have hxx := vx_sR_h hs
  refine lv_if_lt hx hb hd ht (fun h => ?_) (fun h => ?_)
  · exact kt ((vx_lt hxx vx_in0).mp h) p e s m args below meth c D cs ad0 A Qc hC H locs ad ls ⟨hP, hD, hS, hl, hL, vx_sR_t hs, hg, ha⟩
  · exact kf ((not_congr (vx_lt hxx vx_in0)).mp h) p e s m args below meth c D cs ad0 A Qc hC H locs ad ls ⟨hP, hD, hS, hl, hL, vx_sR_t hs, hg, ha⟩
theorem vr_icmp_lt (tgt pc' : Nat) {x y : Int} {off : Int} (hd : decode M.2.1 pc = .ok (.if_icmp .lt off, 3)) (ht : (pc : Int) + off = (tgt : Int)) (hpc : pc + 3 = pc') (kt : x < y → vJ l M R Na P mc ms kc ks sh g tgt L st) (kf : ¬ x < y → vJ l M R Na P mc ms kc ks sh g pc' L st) : vJ l M R Na P mc ms kc ks sh g pc L (.inl y :: .inl x :: st) := by
  intro p e s m args below meth c D cs ad0 A Qc hC H locs ad ls hX
  obtain ⟨hx, hb, hr, hml, hown, hts, hlk, hnm, ⟨hK, hKN⟩, hA, hQ⟩ := id hC
  obtain ⟨hP, hD, hS, hl, hL, hs, hg, ha⟩ := id hX
  subst hpc
  have hy := vx_sR_h hs
  have hxx := vx_sR_h (vx_sR_t hs)
  refine lv_icmp_lt hx hb hd ht (fun h => ?_) (fun h => ?_)
  · exact kt ((vx_lt hxx hy).mp h) p e s m args below meth c D cs ad0 A Qc hC H locs ad ls ⟨hP, hD, hS, hl, hL, vx_sR_t (vx_sR_t hs), hg, ha⟩
  · exact kf ((not_congr (vx_lt hxx hy)).mp h) p e s m args below meth c D cs ad0 A Qc hC H locs ad ls ⟨hP, hD, hS, hl, hL, vx_sR_t (vx_sR_t hs), hg, ha⟩
theorem vr_if_ge (tgt pc' : Nat) {x : Int} {off : Int} (hd : decode M.2.1 pc = .ok (.ifCond .ge off, 3)) (ht : (pc : Int) + off = (tgt : Int)) (hpc : pc + 3 = pc') (kt : 0 ≤ x → vJ l M R Na P mc ms kc ks sh g tgt L st) (kf : ¬ 0 ≤ x → vJ l M R Na P mc ms kc ks sh g pc' L st) : vJ l M R Na P mc ms kc ks sh g pc L (.inl x :: st) := by
  intro p e s m args below meth c D cs ad0 A Qc hC H locs ad ls hX
  obtain ⟨hx, hb, hr, hml, hown, hts, hlk, hnm, ⟨hK, hKN⟩, hA, hQ⟩ := id hC
  obtain ⟨hP, hD, hS, hl, hL, hs, hg, ha⟩ := id hX
  subst hpc
  have hxx := vx_sR_h hs
  refine lv_if_ge hx hb hd ht (fun h => ?_) (fun h => ?_)
  · exact kt ((vx_le vx_in0 hxx).mp h) p e s m args below meth c D cs ad0 A Qc hC H locs ad ls ⟨hP, hD, hS, hl, hL, vx_sR_t hs, hg, ha⟩
  · exact kf ((not_congr (vx_le vx_in0 hxx)).mp h) p e s m args below meth c D cs ad0 A Qc hC H locs ad ls ⟨hP, hD, hS, hl, hL, vx_sR_t hs, hg, ha⟩
theorem vr_icmp_ge (tgt pc' : Nat) {x y : Int} {off : Int} (hd : decode M.2.1 pc = .ok (.if_icmp .ge off, 3)) (ht : (pc : Int) + off = (tgt : Int)) (hpc : pc + 3 = pc') (kt : y ≤ x → vJ l M R Na P mc ms kc ks sh g tgt L st) (kf : ¬ y ≤ x → vJ l M R Na P mc ms kc ks sh g pc' L st) : vJ l M R Na P mc ms kc ks sh g pc L (.inl y :: .inl x :: st) := by
  intro p e s m args below meth c D cs ad0 A Qc hC H locs ad ls hX
  obtain ⟨hx, hb, hr, hml, hown, hts, hlk, hnm, ⟨hK, hKN⟩, hA, hQ⟩ := id hC
  obtain ⟨hP, hD, hS, hl, hL, hs, hg, ha⟩ := id hX
  subst hpc
  have hy := vx_sR_h hs
  have hxx := vx_sR_h (vx_sR_t hs)
  refine lv_icmp_ge hx hb hd ht (fun h => ?_) (fun h => ?_)
  · exact kt ((vx_le hy hxx).mp h) p e s m args below meth c D cs ad0 A Qc hC H locs ad ls ⟨hP, hD, hS, hl, hL, vx_sR_t (vx_sR_t hs), hg, ha⟩
  · exact kf ((not_congr (vx_le hy hxx)).mp h) p e s m args below meth c D cs ad0 A Qc hC H locs ad ls ⟨hP, hD, hS, hl, hL, vx_sR_t (vx_sR_t hs), hg, ha⟩
theorem vr_if_gt (tgt pc' : Nat) {x : Int} {off : Int} (hd : decode M.2.1 pc = .ok (.ifCond .gt off, 3)) (ht : (pc : Int) + off = (tgt : Int)) (hpc : pc + 3 = pc') (kt : 0 < x → vJ l M R Na P mc ms kc ks sh g tgt L st) (kf : ¬ 0 < x → vJ l M R Na P mc ms kc ks sh g pc' L st) : vJ l M R Na P mc ms kc ks sh g pc L (.inl x :: st) := by
  intro p e s m args below meth c D cs ad0 A Qc hC H locs ad ls hX
  obtain ⟨hx, hb, hr, hml, hown, hts, hlk, hnm, ⟨hK, hKN⟩, hA, hQ⟩ := id hC
  obtain ⟨hP, hD, hS, hl, hL, hs, hg, ha⟩ := id hX
  subst hpc
  have hxx := vx_sR_h hs
  refine lv_if_gt hx hb hd ht (fun h => ?_) (fun h => ?_)
  · exact kt ((vx_lt vx_in0 hxx).mp h) p e s m args below meth c D cs ad0 A Qc hC H locs ad ls ⟨hP, hD, hS, hl, hL, vx_sR_t hs, hg, ha⟩
  · exact kf ((not_congr (vx_lt vx_in0 hxx)).mp h) p e s m args below meth c D cs ad0 A Qc hC H locs ad ls ⟨hP, hD, hS, hl, hL, vx_sR_t hs, hg, ha⟩
theorem vr_icmp_gt (tgt pc' : Nat) {x y : Int} {off : Int} (hd : decode M.2.1 pc = .ok (.if_icmp .gt off, 3)) (ht : (pc : Int) + off = (tgt : Int)) (hpc : pc + 3 = pc') (kt : y < x → vJ l M R Na P mc ms kc ks sh g tgt L st) (kf : ¬ y < x → vJ l M R Na P mc ms kc ks sh g pc' L st) : vJ l M R Na P mc ms kc ks sh g pc L (.inl y :: .inl x :: st) := by
  intro p e s m args below meth c D cs ad0 A Qc hC H locs ad ls hX
  obtain ⟨hx, hb, hr, hml, hown, hts, hlk, hnm, ⟨hK, hKN⟩, hA, hQ⟩ := id hC
  obtain ⟨hP, hD, hS, hl, hL, hs, hg, ha⟩ := id hX
  subst hpc
  have hy := vx_sR_h hs
  have hxx := vx_sR_h (vx_sR_t hs)
  refine lv_icmp_gt hx hb hd ht (fun h => ?_) (fun h => ?_)
  · exact kt ((vx_lt hy hxx).mp h) p e s m args below meth c D cs ad0 A Qc hC H locs ad ls ⟨hP, hD, hS, hl, hL, vx_sR_t (vx_sR_t hs), hg, ha⟩
  · exact kf ((not_congr (vx_lt hy hxx)).mp h) p e s m args below meth c D cs ad0 A Qc hC H locs ad ls ⟨hP, hD, hS, hl, hL, vx_sR_t (vx_sR_t hs), hg, ha⟩
theorem vr_if_le (tgt pc' : Nat) {x : Int} {off : Int} (hd : decode M.2.1 pc = .ok (.ifCond .le off, 3)) (ht : (pc : Int) + off = (tgt : Int)) (hpc : pc + 3 = pc') (kt : x ≤ 0 → vJ l M R Na P mc ms kc ks sh g tgt L st) (kf : ¬ x ≤ 0 → vJ l M R Na P mc ms kc ks sh g pc' L st) : vJ l M R Na P mc ms kc ks sh g pc L (.inl x :: st) := by
  intro p e s m args below meth c D cs ad0 A Qc hC H locs ad ls hX
  obtain ⟨hx, hb, hr, hml, hown, hts, hlk, hnm, ⟨hK, hKN⟩, hA, hQ⟩ := id hC
  obtain ⟨hP, hD, hS, hl, hL, hs, hg, ha⟩ := id hX
  subst hpc
  have hxx := vx_sR_h hs
  refine lv_if_le hx hb hd ht (fun h => ?_) (fun h => ?_)
  · exact kt ((vx_le hxx vx_in0).mp h) p e s m args below meth c D cs ad0 A Qc hC H locs ad ls ⟨hP, hD, hS, hl, hL, vx_sR_t hs, hg, ha⟩
  · exact kf ((not_congr (vx_le hxx vx_in0)).mp h) p e s m args below meth c D cs ad0 A Qc hC H locs ad ls ⟨hP, hD, hS, hl, hL, vx_sR_t hs, hg, ha⟩
theorem vr_icmp_le (tgt pc' : Nat) {x y : Int} {off : Int} (hd : decode M.2.1 pc = .ok (.if_icmp .le off, 3)) (ht : (pc : Int) + off = (tgt : Int)) (hpc : pc + 3 = pc') (kt : x ≤ y → vJ l M R Na P mc ms kc ks sh g tgt L st) (kf : ¬ x ≤ y → vJ l M R Na P mc ms kc ks sh g pc' L st) : vJ l M R Na P mc ms kc ks sh g pc L (.inl y :: .inl x :: st) := by
  intro p e s m args below meth c D cs ad0 A Qc hC H locs ad ls hX
  obtain ⟨hx, hb, hr, hml, hown, hts, hlk, hnm, ⟨hK, hKN⟩, hA, hQ⟩ := id hC
  obtain ⟨hP, hD, hS, hl, hL, hs, hg, ha⟩ := id hX
  subst hpc
  have hy := vx_sR_h hs
  have hxx := vx_sR_h (vx_sR_t hs)
  refine lv_icmp_le hx hb hd ht (fun h => ?_) (fun h => ?_)
  · exact kt ((vx_le hxx hy).mp h) p e s m args below meth c D cs ad0 A Qc hC H locs ad ls ⟨hP, hD, hS, hl, hL, vx_sR_t (vx_sR_t hs), hg, ha⟩
  · exact kf ((not_congr (vx_le hxx hy)).mp h) p e s m args below meth c D cs ad0 A Qc hC H locs ad ls ⟨hP, hD, hS, hl, hL, vx_sR_t (vx_sR_t hs), hg, ha⟩
theorem vr_goto (tgt : Nat) {off : Int} (hd : decode M.2.1 pc = .ok (.goto off, 3)) (ht : (pc : Int) + off = (tgt : Int)) (kk : vJ l M R Na P mc ms kc ks sh g tgt L st) : vJ l M R Na P mc ms kc ks sh g pc L st := by
  intro p e s m args below meth c D cs ad0 A Qc hC H locs ad ls hX
  obtain ⟨hx, hb, hr, hml, hown, hts, hlk, hnm, ⟨hK, hKN⟩, hA, hQ⟩ := id hC
  obtain ⟨hP, hD, hS, hl, hL, hs, hg, ha⟩ := id hX
  refine lv_goto hx hb hd ht ?_
  exact kk p e s m args below meth c D cs ad0 A Qc hC H locs ad ls hX
theorem vr_tabOut (tgt : Nat) {x dflt lo hi : Int} {offs : Array Int} {len : Nat} (hd : decode M.2.1 pc = .ok (.tableswitch dflt lo hi offs, len)) (h : x < lo ∨ hi < x) (ht : (pc : Int) + dflt = (tgt : Int)) (kk : vJ l M R Na P mc ms kc ks sh g tgt L st) : vJ l M R Na P mc ms kc ks sh g pc L (.inl x :: st) := by
  intro p e s m args below meth c D cs ad0 A Qc hC H locs ad ls hX
  obtain ⟨hx, hb, hr, hml, hown, hts, hlk, hnm, ⟨hK, hKN⟩, hA, hQ⟩ := id hC
  obtain ⟨hP, hD, hS, hl, hL, hs, hg, ha⟩ := id hX
  have hxx := vx_sR_h hs
  refine lv_tableOut hx hb hd (by rw [vx_toInt hxx]; exact h) ht ?_
  exact kk p e s m args below meth c D cs ad0 A Qc hC H locs ad ls ⟨hP, hD, hS, hl, hL, vx_sR_t hs, hg, ha⟩
theorem vr_tabIn (tgt : Nat) {x dflt lo hi off : Int} {offs : Array Int} {len : Nat} (hd : decode M.2.1 pc = .ok (.tableswitch dflt lo hi offs, len)) (h1 : ¬ x < lo) (h2 : ¬ hi < x) (ho : offs[(x - lo).toNat]? = some off) (ht : (pc : Int) + off = (tgt : Int)) (kk : vJ l M R Na P mc ms kc ks sh g tgt L st) : vJ l M R Na P mc ms kc ks sh g pc L (.inl x :: st) := by
  intro p e s m args below meth c D cs ad0 A Qc hC H locs ad ls hX
  obtain ⟨hx, hb, hr, hml, hown, hts, hlk, hnm, ⟨hK, hKN⟩, hA, hQ⟩ := id hC
  obtain ⟨hP, hD, hS, hl, hL, hs, hg, ha⟩ := id hX
  have hxx := vx_sR_h hs
  refine lv_tableIn hx hb hd (by rw [vx_toInt hxx]; exact h1) (by rw [vx_toInt hxx]; exact h2) (by rw [vx_toInt hxx]; exact ho) ht ?_
  exact kk p e s m args below meth c D cs ad0 A Qc hC H locs ad ls ⟨hP, hD, hS, hl, hL, vx_sR_t hs, hg, ha⟩
end VXR
/-- the facts of a class -/
def vx_cl (ci : Nat) (C : String) (T : u_T) (N : Nat) (ty : Nat → FieldType) : Prop := vwCl[ci]? = some (C, T, N) ∧ (∀ w ∈ u_ws C T N, w ∈ vx_tb) ∧ (∀ k, k < N → parseFieldDescriptor (T k).2.2.1 = some (ty k)) ∧ (∀ a, a < N → ∀ b, b < N → a ≠ b → (T a).2.1 ≠ (T b).2.1)
def vx_fl (own : String) (idx : Nat) (T : u_T) (k : Nat) : Prop := Cond.fieldLink own idx (T k).1 (T k).2.1 (T k).2.2.1 ∈ vx_tb
theorem vx_nbool {v : Int} (h : v = 0 ∨ v = 1) : narrow .boolean (.int (Int32.ofInt v)) = .int (Int32.ofInt v) ∧ fits .boolean (.int (Int32.ofInt v)) = true := by
  rcases h with rfl | rfl
  · exact ⟨by decide, by decide⟩
  · exact ⟨by decide, by decide⟩
theorem vx_nbool2 {v : Int} (h : v = 0 ∨ v = 1) : vp_nar .boolean (Int32.ofInt v) = Int32.ofInt v := by
  rcases h with rfl | rfl
  · decide
  · decide
section VXF
variable {l : Launch} {M : vx_Me} {R : Room} {Na : Nat → Prop} {P : vx_P} {mc ms kc ks : Nat} {sh : List vx_H} {g : vx_M} {pc : Nat} {L : List (Option vx_V)} {st : List vx_V}
theorem vr_geti (pc' : Nat) (jz : Int) {ci : Nat} {C : String} {T : u_T} {N : Nat} {ty : Nat → FieldType} {idx : Nat} {fs : List (Option (Option Nat))} {k : Nat} (j : Nat) (hcl : vx_cl ci C T N ty) (hfl : vx_fl M.1.cls idx T j) (hj : j < N) (hjz : (j : Int) = jz) (hd : decode M.2.1 pc = .ok (.getfield idx, 3)) (hpc : pc + 3 = pc') (he : sh[k]? = some (.inl (ci, fs))) (hf : fs[j]? = some none) (kk : vJ l M R Na P mc ms kc ks sh g pc' L (.inl (g k jz) :: st)) : vJ l M R Na P mc ms kc ks sh g pc L (.inr (some k) :: st) := by
  intro p e s m args below meth c D cs ad0 A Qc hC H locs ad ls hX
  obtain ⟨hx, hb, hr, hml, hown, hts, hlk, hnm, ⟨hK, hKN⟩, hA, hQ⟩ := id hC
  obtain ⟨hP, hD, hS, hl, hL, hs, hg, ha⟩ := id hX
  subst hpc
  subst hjz
  refine va_get hx hb hts hcl.2.1 hown hK hP k (vx_w_get he) hcl.1 j hj (hts _ hfl) (fun _ h => h) (vx_fs_get hf) hd ?_
  exact kk p e s m args below meth c D cs ad0 A Qc hC H locs ad ls ⟨hP, hD, hS, hl, hL, vx_sR_i (hg k j) (vx_sR_t hs), hg, ha⟩
theorem vr_getr (pc' : Nat) {ci : Nat} {C : String} {T : u_T} {N : Nat} {ty : Nat → FieldType} {idx : Nat} {fs : List (Option (Option Nat))} {k : Nat} (j : Nat) (hcl : vx_cl ci C T N ty) (hfl : vx_fl M.1.cls idx T j) (hj : j < N) {r : Nat} (hd : decode M.2.1 pc = .ok (.getfield idx, 3)) (hpc : pc + 3 = pc') (he : sh[k]? = some (.inl (ci, fs))) (hf : fs[j]? = some (some (some r))) (kk : vJ l M R Na P mc ms kc ks sh g pc' L (.inr (some r) :: st)) : vJ l M R Na P mc ms kc ks sh g pc L (.inr (some k) :: st) := by
  intro p e s m args below meth c D cs ad0 A Qc hC H locs ad ls hX
  obtain ⟨hx, hb, hr, hml, hown, hts, hlk, hnm, ⟨hK, hKN⟩, hA, hQ⟩ := id hC
  obtain ⟨hP, hD, hS, hl, hL, hs, hg, ha⟩ := id hX
  subst hpc
  refine va_get hx hb hts hcl.2.1 hown hK hP k (vx_w_get he) hcl.1 j hj (hts _ hfl) (fun _ h => h) (vx_fs_get hf) hd ?_
  exact kk p e s m args below meth c D cs ad0 A Qc hC H locs ad ls ⟨hP, hD, hS, hl, hL, vx_sR_r (vx_sR_t hs), hg, ha⟩
theorem vr_puti (pc' : Nat) (jz : Int) {ci : Nat} {C : String} {T : u_T} {N : Nat} {ty : Nat → FieldType} {idx : Nat} {fs : List (Option (Option Nat))} {k : Nat} (j : Nat) (hcl : vx_cl ci C T N ty) (hfl : vx_fl M.1.cls idx T j) (hj : j < N) (hjz : (j : Int) = jz) {v : Int} (hty : ty j = .int) (hfin : (T j).2.2.2 = false) (hd : decode M.2.1 pc = .ok (.putfield idx, 3)) (hpc : pc + 3 = pc') (he : sh[k]? = some (.inl (ci, fs))) (hf : fs[j]? = some none) (kk : vJ l M R Na P mc ms kc ks sh (vx_u g k jz v) pc' L st) : vJ l M R Na P mc ms kc ks sh g pc L (.inl v :: .inr (some k) :: st) := by
  intro p e s m args below meth c D cs ad0 A Qc hC H locs ad ls hX
  obtain ⟨hx, hb, hr, hml, hown, hts, hlk, hnm, ⟨hK, hKN⟩, hA, hQ⟩ := id hC
  obtain ⟨hP, hD, hS, hl, hL, hs, hg, ha⟩ := id hX
  subst hpc
  subst hjz
  have hlt : j < (vx_fs ad g k fs).length := by unfold vx_fs; rw [List.length_mapIdx]; exact (List.getElem?_eq_some_iff.mp hf).1
  refine va_put hx hb hts hcl.2.1 ty hcl.2.2.1 hcl.2.2.2 hown hK hP hD hS k (vx_w_get he) hcl.1 j hj (hts _ hfl) (fun _ h => h) hfin (ty := .int) (by rw [hcl.2.2.1 j hj, hty]) (vp_nar_int _) rfl hlt hd (fun H1 locs1 hP1 hD1 hS1 => ?_)
  rw [vx_w_set (g' := vx_u g k j v) he (fun a b h => by simp [vx_u, h]) (by show Sum.inr (ci, vx_fs ad (vx_u g k j v) k fs) = _; rw [vx_fs_put hf]; rfl)] at hP1 hD1
  exact kk p e s m args below meth c D cs ad0 A Qc hC H1 locs1 ad ls ⟨hP1, hD1, hS1, hl, hL, vx_sR_t (vx_sR_t hs), vx_gR_u hg (vx_sR_h hs), ha⟩
theorem vr_putz (pc' : Nat) (jz : Int) {ci : Nat} {C : String} {T : u_T} {N : Nat} {ty : Nat → FieldType} {idx : Nat} {fs : List (Option (Option Nat))} {k : Nat} (j : Nat) (hcl : vx_cl ci C T N ty) (hfl : vx_fl M.1.cls idx T j) (hj : j < N) (hjz : (j : Int) = jz) {v : Int} (hty : ty j = .boolean) (hfin : (T j).2.2.2 = false) (hv : v = 0 ∨ v = 1) (hd : decode M.2.1 pc = .ok (.putfield idx, 3)) (hpc : pc + 3 = pc') (he : sh[k]? = some (.inl (ci, fs))) (hf : fs[j]? = some none) (kk : vJ l M R Na P mc ms kc ks sh (vx_u g k jz v) pc' L st) : vJ l M R Na P mc ms kc ks sh g pc L (.inl v :: .inr (some k) :: st) := by
  intro p e s m args below meth c D cs ad0 A Qc hC H locs ad ls hX
  obtain ⟨hx, hb, hr, hml, hown, hts, hlk, hnm, ⟨hK, hKN⟩, hA, hQ⟩ := id hC
  obtain ⟨hP, hD, hS, hl, hL, hs, hg, ha⟩ := id hX
  subst hpc
  subst hjz
  have hlt : j < (vx_fs ad g k fs).length := by unfold vx_fs; rw [List.length_mapIdx]; exact (List.getElem?_eq_some_iff.mp hf).1
  refine va_put hx hb hts hcl.2.1 ty hcl.2.2.1 hcl.2.2.2 hown hK hP hD hS k (vx_w_get he) hcl.1 j hj (hts _ hfl) (fun _ h => h) hfin (ty := .boolean) (by rw [hcl.2.2.1 j hj, hty]) (vx_nbool hv).1 (vx_nbool hv).2 hlt hd (fun H1 locs1 hP1 hD1 hS1 => ?_)
  rw [vx_w_set (g' := vx_u g k j v) he (fun a b h => by simp [vx_u, h]) (by show Sum.inr (ci, vx_fs ad (vx_u g k j v) k fs) = _; rw [vx_fs_put hf]; rfl)] at hP1 hD1
  exact kk p e s m args below meth c D cs ad0 A Qc hC H1 locs1 ad ls ⟨hP1, hD1, hS1, hl, hL, vx_sR_t (vx_sR_t hs), vx_gR_u hg (vx_sR_h hs), ha⟩
theorem vr_putr (pc' : Nat) (sh' : List vx_H) {ci : Nat} {C : String} {T : u_T} {N : Nat} {ty : Nat → FieldType} {idx : Nat} {fs : List (Option (Option Nat))} {k : Nat} (j : Nat) (hcl : vx_cl ci C T N ty) (hfl : vx_fl M.1.cls idx T j) (hj : j < N) {r : Nat} {f : Option (Option Nat)} (hnr : narrow (ty j) (.ref 0) = .ref 0 ∧ ∀ a : Nat, narrow (ty j) (.ref a) = .ref a ∧ fits (ty j) (.ref a) = true) (hfin : (T j).2.2.2 = true) (hini : M.1.name = "<init>") (hdcl : (T j).1 = M.1.cls) (hd : decode M.2.1 pc = .ok (.putfield idx, 3)) (hpc : pc + 3 = pc') (he : sh[k]? = some (.inl (ci, fs))) (hf : fs[j]? = some f) (hsh : sh.set k (.inl (ci, fs.set j (some (some r)))) = sh') (kk : vJ l M R Na P mc ms kc ks sh' g pc' L st) : vJ l M R Na P mc ms kc ks sh g pc L (.inr (some r) :: .inr (some k) :: st) := by
  intro p e s m args below meth c D cs ad0 A Qc hC H locs ad ls hX
  obtain ⟨hx, hb, hr, hml, hown, hts, hlk, hnm, ⟨hK, hKN⟩, hA, hQ⟩ := id hC
  obtain ⟨hP, hD, hS, hl, hL, hs, hg, ha⟩ := id hX
  subst hpc
  have hlt : j < (vx_fs ad g k fs).length := by unfold vx_fs; rw [List.length_mapIdx]; exact (List.getElem?_eq_some_iff.mp hf).1
  refine va_putF hx hb hts hcl.2.1 ty hcl.2.2.1 hcl.2.2.2 hown hK hP hD hS k (vx_w_get he) hcl.1 j hj (hts _ hfl) (fun _ h => h) hfin (hnm.trans hini) hdcl (ty := ty j) (hcl.2.2.1 j hj) (hnr.2 _).1 (hnr.2 _).2 hlt hd (fun H1 locs1 hP1 hD1 hS1 => ?_)
  rw [vx_w_shape (h' := .inl (ci, fs.set j (some (some r)))) he (by show Sum.inr _ = _; rw [vx_fs_ref hf]; rfl), hsh] at hP1 hD1
  exact kk p e s m args below meth c D cs ad0 A Qc hC H1 locs1 ad ls ⟨hP1, hD1, hS1, hl, hL, vx_sR_t (vx_sR_t hs), hg, ha⟩
theorem vr_iald (pc' : Nat) {k n : Nat} {z : Int} (hd : decode M.2.1 pc = .ok (.iaload, 1)) (hpc : pc + 1 = pc') (he : sh[k]? = some (.inr (.inl (false, n)))) (h0 : 0 ≤ z) (h1 : z < n) (kk : vJ l M R Na P mc ms kc ks sh g pc' L (.inl (g k z) :: st)) : vJ l M R Na P mc ms kc ks sh g pc L (.inl z :: .inr (some k) :: st) := by
  intro p e s m args below meth c D cs ad0 A Qc hC H locs ad ls hX
  obtain ⟨hx, hb, hr, hml, hown, hts, hlk, hnm, ⟨hK, hKN⟩, hA, hQ⟩ := id hC
  obtain ⟨hP, hD, hS, hl, hL, hs, hg, ha⟩ := id hX
  subst hpc
  have hz := vx_sR_h hs
  refine va_iald hx hb hK hP k 0 (vx_w_get he) rfl (vx_vp hz h0 h1) hd ?_
  rw [vx_nat hz, Int.toNat_of_nonneg h0]
  exact kk p e s m args below meth c D cs ad0 A Qc hC H locs ad ls ⟨hP, hD, hS, hl, hL, vx_sR_i (hg k z) (vx_sR_t (vx_sR_t hs)), hg, ha⟩
theorem vr_zald (pc' : Nat) {k n : Nat} {z : Int} (hd : decode M.2.1 pc = .ok (.baload, 1)) (hpc : pc + 1 = pc') (he : sh[k]? = some (.inr (.inl (true, n)))) (h0 : 0 ≤ z) (h1 : z < n) (kk : vJ l M R Na P mc ms kc ks sh g pc' L (.inl (g k z) :: st)) : vJ l M R Na P mc ms kc ks sh g pc L (.inl z :: .inr (some k) :: st) := by
  intro p e s m args below meth c D cs ad0 A Qc hC H locs ad ls hX
  obtain ⟨hx, hb, hr, hml, hown, hts, hlk, hnm, ⟨hK, hKN⟩, hA, hQ⟩ := id hC
  obtain ⟨hP, hD, hS, hl, hL, hs, hg, ha⟩ := id hX
  subst hpc
  have hz := vx_sR_h hs
  refine va_zald hx hb hK hP k 1 (vx_w_get he) rfl (vx_vp hz h0 h1) hd ?_
  rw [vx_nat hz, Int.toNat_of_nonneg h0]
  exact kk p e s m args below meth c D cs ad0 A Qc hC H locs ad ls ⟨hP, hD, hS, hl, hL, vx_sR_i (hg k z) (vx_sR_t (vx_sR_t hs)), hg, ha⟩
theorem vr_iast (pc' : Nat) {k n : Nat} {z v : Int} (hd : decode M.2.1 pc = .ok (.iastore, 1)) (hpc : pc + 1 = pc') (he : sh[k]? = some (.inr (.inl (false, n)))) (h0 : 0 ≤ z) (h1 : z < n) (kk : vJ l M R Na P mc ms kc ks sh (vx_u g k z v) pc' L st) : vJ l M R Na P mc ms kc ks sh g pc L (.inl v :: .inl z :: .inr (some k) :: st) := by
  intro p e s m args below meth c D cs ad0 A Qc hC H locs ad ls hX
  obtain ⟨hx, hb, hr, hml, hown, hts, hlk, hnm, ⟨hK, hKN⟩, hA, hQ⟩ := id hC
  obtain ⟨hP, hD, hS, hl, hL, hs, hg, ha⟩ := id hX
  subst hpc
  have hv := vx_sR_h hs
  have hz := vx_sR_h (vx_sR_t hs)
  refine va_iast hx hb hK hP hD hS k 0 (vx_w_get he) rfl (vx_vp hz h0 h1) hd (fun H1 locs1 hP1 hD1 hS1 => ?_)
  rw [vx_nat hz, vx_arr_put h0] at hP1 hD1
  have e2 := vx_w_set (cs := cs) (ad := ad) (g := g) (g' := vx_u g k z v) he (fun a b h => by simp [vx_u, h]) rfl
  have hP1 : va_P D vwCl (vx_w cs ad sh (vx_u g k z v)) H1 := by rw [← e2]; exact hP1
  have hD1 : va_D A (vx_w cs ad sh (vx_u g k z v)) := by rw [← e2]; exact hD1
  exact kk p e s m args below meth c D cs ad0 A Qc hC H1 locs1 ad ls ⟨hP1, hD1, hS1, hl, hL, vx_sR_t (vx_sR_t (vx_sR_t hs)), vx_gR_u hg hv, ha⟩
theorem vr_zast (pc' : Nat) {k n : Nat} {z v : Int} (hd : decode M.2.1 pc = .ok (.bastore, 1)) (hpc : pc + 1 = pc') (he : sh[k]? = some (.inr (.inl (true, n)))) (h0 : 0 ≤ z) (h1 : z < n) (hb01 : v = 0 ∨ v = 1) (kk : vJ l M R Na P mc ms kc ks sh (vx_u g k z v) pc' L st) : vJ l M R Na P mc ms kc ks sh g pc L (.inl v :: .inl z :: .inr (some k) :: st) := by
  intro p e s m args below meth c D cs ad0 A Qc hC H locs ad ls hX
  obtain ⟨hx, hb, hr, hml, hown, hts, hlk, hnm, ⟨hK, hKN⟩, hA, hQ⟩ := id hC
  obtain ⟨hP, hD, hS, hl, hL, hs, hg, ha⟩ := id hX
  subst hpc
  have hv := vx_sR_h hs
  have hz := vx_sR_h (vx_sR_t hs)
  refine va_zast hx hb hK hP hD hS k 1 (vx_w_get he) rfl (vx_vp hz h0 h1) hd (fun H1 locs1 hP1 hD1 hS1 => ?_)
  rw [vx_nat hz, vx_nbool2 hb01, vx_arr_put h0] at hP1 hD1
  have e2 := vx_w_set (cs := cs) (ad := ad) (g := g) (g' := vx_u g k z v) he (fun a b h => by simp [vx_u, h]) rfl
  have hP1 : va_P D vwCl (vx_w cs ad sh (vx_u g k z v)) H1 := by rw [← e2]; exact hP1
  have hD1 : va_D A (vx_w cs ad sh (vx_u g k z v)) := by rw [← e2]; exact hD1
  exact kk p e s m args below meth c D cs ad0 A Qc hC H1 locs1 ad ls ⟨hP1, hD1, hS1, hl, hL, vx_sR_t (vx_sR_t (vx_sR_t hs)), vx_gR_u hg hv, ha⟩
theorem vr_aald (pc' : Nat) (r : Nat) {k : Nat} {rs : List (Option Nat)} {z : Int} (hd : decode M.2.1 pc = .ok (.aaload, 1)) (hpc : pc + 1 = pc') (he : sh[k]? = some (.inr (.inr rs))) (h0 : 0 ≤ z) (hr1 : rs[z.toNat]? = some (some r)) (kk : vJ l M R Na P mc ms kc ks sh g pc' L (.inr (some r) :: st)) : vJ l M R Na P mc ms kc ks sh g pc L (.inl z :: .inr (some k) :: st) := by
  intro p e s m args below meth c D cs ad0 A Qc hC H locs ad ls hX
  obtain ⟨hx, hb, hr, hml, hown, hts, hlk, hnm, ⟨hK, hKN⟩, hA, hQ⟩ := id hC
  obtain ⟨hP, hD, hS, hl, hL, hs, hg, ha⟩ := id hX
  subst hpc
  have hz := vx_sR_h hs
  have hlt : z.toNat < rs.length := (List.getElem?_eq_some_iff.mp hr1).1
  have hin : vp_in (Int32.ofInt z) rs.length := vx_vp hz h0 (by omega)
  have hgd : rs.getD z.toNat none = some r := by rw [List.getD_eq_getElem?_getD, hr1]; rfl
  have hW : W p l e R s m args below meth c H locs kc ks (MQ below Qc args s mc ms A) (F0 m (pc + 1) ls (va_rf ((rs.getD (Int32.ofInt z).toNatClampNeg none).map ad) :: st.map (vx_v ad))) := by
    rw [vx_nat hz, hgd]
    exact kk p e s m args below meth c D cs ad0 A Qc hC H locs ad ls ⟨hP, hD, hS, hl, hL, vx_sR_r (vx_sR_t (vx_sR_t hs)), hg, ha⟩
  refine W.aald (v := va_rf ((rs.getD (Int32.ofInt z).toNatClampNeg none).map ad)) (ty := .array .int) hx hb (hP k _ (vx_w_get he)) ((hK.2 2 _ rfl).1 rs.length (fun j => va_rf ((rs.getD j none).map ad))) rfl (fun q => by cases q) (by show ¬ (_ ∨ (arrV _ _ _).slots.size ≤ _); rw [arrV_size]; exact hin) (by show (arrV _ _ _).slots[_]? = _; rw [arrV_read _ _ (by rw [vx_nat hz]; exact hlt)]) rfl rfl hd hW
theorem vr_alen (pc' : Nat) {b : Bool} {k n : Nat} (hd : decode M.2.1 pc = .ok (.arraylength, 1)) (hpc : pc + 1 = pc') (he : sh[k]? = some (.inr (.inl (b, n)))) (hn : vx_in n) (kk : vJ l M R Na P mc ms kc ks sh g pc' L (.inl (n : Int) :: st)) : vJ l M R Na P mc ms kc ks sh g pc L (.inr (some k) :: st) := by
  intro p e s m args below meth c D cs ad0 A Qc hC H locs ad ls hX
  obtain ⟨hx, hb, hr, hml, hown, hts, hlk, hnm, ⟨hK, hKN⟩, hA, hQ⟩ := id hC
  obtain ⟨hP, hD, hS, hl, hL, hs, hg, ha⟩ := id hX
  subst hpc
  cases b with
  | false =>
    refine va_alen (ty := .int) hx hb hK hP k 0 (vx_w_get he) rfl (v := Int32.ofInt (n : Int)) rfl hd ?_
    exact kk p e s m args below meth c D cs ad0 A Qc hC H locs ad ls ⟨hP, hD, hS, hl, hL, vx_sR_i hn (vx_sR_t hs), hg, ha⟩
  | true =>
    refine va_alen (ty := .boolean) hx hb hK hP k 1 (vx_w_get he) rfl (v := Int32.ofInt (n : Int)) rfl hd ?_
    exact kk p e s m args below meth c D cs ad0 A Qc hC H locs ad ls ⟨hP, hD, hS, hl, hL, vx_sR_i hn (vx_sR_t hs), hg, ha⟩
theorem vr_iret {r : Int} (hrt : M.2.2.2 = some .int) (hc : kc ≤ mc) (hk : ks ≤ ms) (hd : decode M.2.1 pc = .ok (.ireturn, 1)) (kk : P (some r) sh g) : vJ l M R Na P mc ms kc ks sh g pc L [.inl r] := by
  intro p e s m args below meth c D cs ad0 A Qc hC H locs ad ls hX
  obtain ⟨hx, hb, hr, hml, hown, hts, hlk, hnm, ⟨hK, hKN⟩, hA, hQ⟩ := id hC
  obtain ⟨hP, hD, hS, hl, hL, hs, hg, ha⟩ := id hX
  refine W.widen hc hk ?_
  exact W.iret (v := Int32.ofInt r) hx hb (hr.trans hrt) (fun t ht hW => hQ (some r) sh g ad t kk hg (fun z hz => by cases hz; exact vx_sR_h hs) ha (by rw [ht]; exact hP) (va_K.moved hW.alike hK) hD (hS.F ht)) hS.2.2 hd hlk
theorem vr_zret {r : Int} (hrt : M.2.2.2 = some .boolean) (hc : kc ≤ mc) (hk : ks ≤ ms) (hd : decode M.2.1 pc = .ok (.ireturn, 1)) (h01 : r = 0 ∨ r = 1) (kk : P (some r) sh g) : vJ l M R Na P mc ms kc ks sh g pc L [.inl r] := by
  intro p e s m args below meth c D cs ad0 A Qc hC H locs ad ls hX
  obtain ⟨hx, hb, hr, hml, hown, hts, hlk, hnm, ⟨hK, hKN⟩, hA, hQ⟩ := id hC
  obtain ⟨hP, hD, hS, hl, hL, hs, hg, ha⟩ := id hX
  refine W.widen hc hk ?_
  exact W.zret (v := Int32.ofInt r) hx hb (hr.trans hrt) (vx_nbool h01).1 (fun t ht hW => hQ (some r) sh g ad t kk hg (fun z hz => by cases hz; exact vx_sR_h hs) ha (by rw [ht]; exact hP) (va_K.moved hW.alike hK) hD (hS.F ht)) hS.2.2 hd hlk
theorem vr_vret (hrt : M.2.2.2 = none) (hc : kc ≤ mc) (hk : ks ≤ ms) (hd : decode M.2.1 pc = .ok (.return_, 1)) (kk : P none sh g) : vJ l M R Na P mc ms kc ks sh g pc L [] := by
  intro p e s m args below meth c D cs ad0 A Qc hC H locs ad ls hX
  obtain ⟨hx, hb, hr, hml, hown, hts, hlk, hnm, ⟨hK, hKN⟩, hA, hQ⟩ := id hC
  obtain ⟨hP, hD, hS, hl, hL, hs, hg, ha⟩ := id hX
  refine W.widen hc hk ?_
  exact W.vret hx hb (hr.trans hrt) (fun t ht hW => hQ none sh g ad t kk hg (fun z hz => by cases hz) ha (by rw [ht]; exact hP) (va_K.moved hW.alike hK) hD (hS.F ht)) hS.2.2 hd hlk
theorem vr_forget (L' : List (Option vx_V)) (h : ∀ (i : Nat) (v : vx_V), L'[i]? = some (some v) → L[i]? = some (some v)) (kk : vJ l M R Na P mc ms kc ks sh g pc L' st) : vJ l M R Na P mc ms kc ks sh g pc L st := by
  intro p e s m args below meth c D cs ad0 A Qc hC H locs ad ls hX
  obtain ⟨hx, hb, hr, hml, hown, hts, hlk, hnm, ⟨hK, hKN⟩, hA, hQ⟩ := id hC
  obtain ⟨hP, hD, hS, hl, hL, hs, hg, ha⟩ := id hX
  exact kk p e s m args below meth c D cs ad0 A Qc hC H locs ad ls ⟨hP, hD, hS, ⟨hl.1, hl.2.1, fun q hq => by
    obtain ⟨v, h1, h2⟩ := vx_l_mem.mp hq
    rw [h2]
    exact vx_at hl (h _ _ h1)⟩, (fun z hz => by
    obtain ⟨i, hi⟩ := List.getElem?_of_mem hz
    exact hL z (List.mem_of_getElem? (h i _ hi))), hs, hg, ha⟩
end VXF
def vx_sub : List (Option vx_V) → List (Option vx_V) → Prop
  | [], _ => True
  | none :: a, _ :: b => vx_sub a b
  | some v :: a, w :: b => w = some v ∧ vx_sub a b
  | _ :: _, [] => False
theorem vx_sub.get : ∀ (a b : List (Option vx_V)), vx_sub a b → ∀ (i : Nat) (v : vx_V), a[i]? = some (some v) → b[i]? = some (some v)
  | [], _, _, i, v, h => by simp at h
  | none :: a, [], h, _, _, _ => h.elim
  | some v :: a, [], h, _, _, _ => h.elim
  | none :: a, w :: b, h, i, v, hi => by
    cases i with
    | zero => simp at hi
    | succ i => exact vx_sub.get a b h i v hi
  | some u :: a, w :: b, h, i, v, hi => by
    cases i with
    | zero =>
      rw [List.getElem?_cons_zero] at hi ⊢
      rw [h.1]
      exact hi
    | succ i => exact vx_sub.get a b h.2 i v hi

/-! THE LAW'S OWN STEPS -/
def lw_A (s : State) : Nat → Prop := fun q => s.heap.size ≤ q
def lwC (p : Program) (s : State) (m : MethodId) (meth : Method) (c : Code) (b L : Nat) (xs : Nat → Int32) (D : va_G) (cs : vx_Cs) : Prop := lw_At p s m meth c b L xs ∧ va_K D vwCl (vx_t cs) s ∧ vx_N s ∧ L ≤ 3072
def lwW (s : State) (D : va_G) (cs : vx_Cs) (ad : Nat → Nat) (g : vx_M) (H : Heap) (locs : List Loc) : Prop := va_P D vwCl (vx_w cs ad SH g) H ∧ va_D (lw_A s) (vx_w cs ad SH g) ∧ va_S (lw_A s) s.heap H locs ∧ vx_gR g
def lwL (b : Nat) (ad : Nat → Nat) (j : Nat) (ls : Array Slot) : Prop := lv_has ls 4 [(0, .ref b), (1, .ref (ad 0)), (2, .ref (ad 40)), (3, .int (nI j))]
section LAW
variable {p : Program} {l : Launch} {e : Env} {s : State} {m : MethodId} {below : List Frame} {meth : Method} {c : Code} {b L : Nat} {xs : Nat → Int32} {D : va_G} {cs : vx_Cs} {ad : Nat → Nat} {g : vx_M} {H : Heap} {locs : List Loc} {ls : Array Slot} {j : Nat}
set_option maxHeartbeats 4000000 in
theorem law_call {M2 : vx_Me} {idx n ci N pc : Nat} {T : u_T} {fs : List (Option (Option Nat))} {Q : Int → vx_M → Prop} (C : lwC p s m meth c b L xs D cs) (w : lwW s D cs ad g H locs) (hl : lwL b ad j ls) (av : List vx_V) (k0 : Nat) (rest : List Value) {st : List Value} (hd : decode code pc = .ok (.invokevirtual idx, 3)) (hw : vx_mv RL idx M2) (hdn : vx_dn M2 n) (hn : av.length = n) (he : SH[k0]? = some (.inl (ci, fs))) (hc : vwCl[ci]? = some (M2.1.cls, T, N)) (hrest : (rest.map fun v => v.category).sum ≤ 8) (hm : M2.2.2.1 ≤ 1000) (hM : vNi l M2 (0 + 20) (.inr (some k0) :: av) SH g Q) (hs : vx_sR av) (hst : (av.map (vx_v ad)).reverse ++ Value.ref (ad k0) :: rest = st)
    (kk : ∀ (r : Int) (g' : vx_M) (H' : Heap) (locs' : List Loc), Q r g' → lwW s D cs ad g' H' locs' → W p l e room_1 s m #[Value.ref b] below meth c H' locs' 600000 7302250 (lw_Z below #[Value.ref b] s) (F0 m (pc + 3) ls (.int (Int32.ofInt r) :: rest))) : W p l e room_1 s m #[Value.ref b] below meth c H locs 600000 7302250 (lw_Z below #[Value.ref b] s) (F0 m pc ls st) := by
  obtain ⟨⟨hx, hb, hr, hml, hown, hts0, hX, hbl, hlocks, hgv⟩, hK, hKN, hL⟩ := C
  obtain ⟨hP, hD, hS, hg⟩ := w
  subst hst
  have hown : s.vm.findClass RL = some m.cls := hown
  have hts : ∀ w ∈ vx_tb, w.before #[Value.ref b] s = true := fun w hw => hts0 w (List.mem_filter.mp hw).1
  have hA : ∀ q, s.heap.size ≤ q → lw_A s q := fun _ h => h
  have hM1 := hM hg (vx_sR_r hs) D cs ad H.size
  have hFc : ∀ q, va_A (vx_w cs ad SH g) H.size q → lw_A s q := fun q h => by
    rcases h with ⟨k, e9, h⟩ | h
    · exact hD.2 k (q, e9) h
    · exact hA q (Nat.le_trans hS.1 h)
  have hbl2 : FrameBlind (va_Pc ((.inr (some k0) :: av).map (vx_v ad)) (fun U => U.heap.size = H.size ∧ va_P D vwCl (vx_w cs ad SH g) U.heap ∧ (va_K D vwCl (vx_t cs) U ∧ vx_N U) ∧ va_D (fun _ => True) (vx_w cs ad SH g))) := fun a U g9 mk q => by
    obtain ⟨q0, q1, qP, qK, qD⟩ := q
    exact ⟨q0, q1, qP, ⟨va_K.moved (u := U) (U := U.calling g9 mk a) (Vm.Alike.refl U.vm) qK.1, vx_N.same rfl qK.2⟩, qD⟩
  have hR : (vx_rm (0 + 20) 0 0).frames + 1 ≤ room_1.frames ∧ 8 + (M2.2.2.1 + 11) + (vx_rm (0 + 20) 0 0).locals ≤ room_1.locals := by
    constructor
    · show 20 + 1 ≤ 2048
      omega
    · show 8 + (M2.2.2.1 + 11) + 40 * 20 ≤ 84000
      omega
  refine va_calli (va_runV (As := av.map (vx_v ad)) (rest := rest) ⟨hx, hb, hml, hown, hts⟩ hM1 (cwV n hts (vx_goodV hw) rfl rfl rfl ⟨rfl, hdn⟩ hR) ⟨hbl2, va_recv hK hP hc (vx_w_get he), fun U hU hW => ⟨rfl, by rw [hU], by rw [hU]; exact hP, ⟨va_K.moved hW.alike hK, hKN.warm hW⟩, hD.weaken (fun _ _ _ _ => trivial)⟩⟩ rfl (by rw [List.length_map]; exact hn) hl.1 rfl (lv_room hrest) hd ⟨Nat.le_of_ble_eq_true rfl, Nat.le_of_ble_eq_true rfl⟩) hS (fun q _ h => hFc q h) hFc (fun r u t H1 locs1 ht hvm hw1 hB hz1 hk1 hS1 => ?_)
  obtain ⟨z, sh', g', ad'⟩ := u
  obtain ⟨hr1, hz, hp2, hg2, hna⟩ := hw1
  obtain ⟨hP1, hK1, hD1⟩ := hB
  rw [ht] at hP1
  dsimp only at hr1 hz hp2 hg2 hna hP1 hD1
  obtain ⟨e1, z2, e2, hq⟩ := hp2
  cases e2
  subst e1
  have ea : ad' = ad := funext fun k => hna k trivial
  subst ea
  rw [hr1]
  exact kk z g' H1 locs1 hq ⟨hP1, hD1.weaken (fun _ _ _ h => hFc _ h), hS1, hg2⟩
theorem law_arg (C : lwC p s m meth c b L xs D cs) (w : lwW s D cs ad g H locs) (hl : lwL b ad j ls) (hj : j + 6 ≤ L) (k : Nat) (hk : k < 6) {pc : Nat} {st : List Value} {kz : Int} (hkz : (k : Int) = kz) (d0 : decode code pc = .ok (.aload_n 0, 1)) (d1 : decode code (pc + 1) = .ok (.iload_n 3, 1)) (d2 : decode code (pc + 2) = .ok (.iconst kz, 1)) (d3 : decode code (pc + 3) = .ok (.iadd, 1)) (d4 : decode code (pc + 4) = .ok (.iaload, 1))
    (kk : W p l e room_1 s m #[Value.ref b] below meth c H locs 600000 7302250 (lw_Z below #[Value.ref b] s) (F0 m (pc + 5) ls (.int (Int32.ofInt (xs (j + k)).toInt) :: st))) : W p l e room_1 s m #[Value.ref b] below meth c H locs 600000 7302250 (lw_Z below #[Value.ref b] s) (F0 m pc ls st) := by
  obtain ⟨⟨hx, hb, hr, hml, hown, hts0, hX, hbl, hlocks, hgv⟩, hK, hKN, hL⟩ := C
  obtain ⟨hP, hD, hS, hg⟩ := w
  subst hkz
  have hbA : ¬ lw_A s b := Nat.not_le.mpr hbl
  refine lv_aload_n hx hb d0 rfl (lv_at hl 0 rfl) ?_
  refine lv_iload_n hx hb d1 rfl (lv_at hl 3 rfl) ?_
  refine lv_iconst (v := nI k) hx hb d2 (by show Int32.ofInt (k : Int) = Int32.ofNat k; exact Int32.ofInt_eq_ofNat) ?_
  refine lv_iadd hx hb d3 ?_
  rw [nI_add]
  refine va_sld hx hb hX hbl hbA hS (vp_in_nI (by omega) (by omega)) d4 ?_
  rw [nI_clamp (by omega)]
  rw [Int32.ofInt_toInt] at kk
  exact kk
theorem law_in (x : Int32) : vx_in x.toInt := ⟨Int32.le_toInt x, Int.le_of_lt_add_one (Int32.toInt_lt x)⟩
end LAW

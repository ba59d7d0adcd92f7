/-! THE SMALL LOGIC: a machine over whole numbers. A value is a number or a reference to a cell by its place; a cell is an object, a row of numbers or a row of references; numbers lie in one memory g : place → offset → number. -/
abbrev vx_V : Type := Int ⊕ Option Nat
abbrev vx_M : Type := Nat → Int → Int
abbrev vx_H : Type := (Nat × List (Option (Option Nat))) ⊕ ((Bool × Nat) ⊕ List (Option Nat))
abbrev vx_Me : Type := MethodName × ByteArray × Nat × Option FieldType
abbrev vx_Cs : Type := ClassId × ClassId × ClassId
abbrev vx_P : Type := Option Int → List vx_H → vx_M → Prop
def vx_in (z : Int) : Prop := -2147483648 ≤ z ∧ z ≤ 2147483647
def vx_v (ad : Nat → Nat) : vx_V → Value
  | .inl z => .int (Int32.ofInt z)
  | .inr r => va_rf (r.map ad)
def vx_f (ad : Nat → Nat) (g : vx_M) (k j : Nat) : Option (Option Nat) → Value
  | none => .int (Int32.ofInt (g k j))
  | some r => va_rf (r.map ad)
def vx_fs (ad : Nat → Nat) (g : vx_M) (k : Nat) (fs : List (Option (Option Nat))) : List Value := fs.mapIdx (fun j f => vx_f ad g k j f)
def vx_e (cs : vx_Cs) (ad : Nat → Nat) (g : vx_M) (k : Nat) : vx_H → va_E
  | .inl (ci, fs) => .inr (ci, vx_fs ad g k fs)
  | .inr (.inl (b, n)) => .inl (if b = true then cs.2.1 else cs.1, n, .inl (fun j : Nat => Int32.ofInt (g k j)))
  | .inr (.inr rs) => .inl (cs.2.2, rs.length, .inr (.inr (.inr (.inr (fun j : Nat => (rs.getD j none).map ad)))))
def vx_w (cs : vx_Cs) (ad : Nat → Nat) (sh : List vx_H) (g : vx_M) : va_W := sh.mapIdx (fun k h => (ad k, vx_e cs ad g k h))
def vx_t (cs : vx_Cs) : List (ClassId × FieldType) := [(cs.1, .int), (cs.2.1, .boolean), (cs.2.2, .array .int)]
def vx_l (ad : Nat → Nat) (L : List (Option vx_V)) : List (Nat × Value) := (List.range L.length).filterMap (fun i => (L[i]?).join.map (fun v => (i, vx_v ad v)))
def vx_gR (g : vx_M) : Prop := ∀ k j, vx_in (g k j)
def vx_sR (st : List vx_V) : Prop := ∀ z, Sum.inl z ∈ st → vx_in z
def vx_LR (L : List (Option vx_V)) : Prop := ∀ z, some (Sum.inl z) ∈ L → vx_in z
/-- the memory with one number written -/
def vx_u (g : vx_M) (k : Nat) (j v : Int) : vx_M := fun a b => if a = k then (if b = j then v else g a b) else g a b
/-- the memory with a stretch copied -/
def vx_cp (g : vx_M) (k0 k1 : Nat) (sp dp n : Int) : vx_M := fun a b => if a = k1 then (if dp ≤ b ∧ b < dp + n then g k0 (sp + (b - dp)) else g a b) else g a b
/-- the memory with noughts from a place on -/
def vx_z (g : vx_M) (k : Nat) : vx_M := fun a b => if k ≤ a then 0 else g a b
theorem vx_toInt {z : Int} (h : vx_in z) : (Int32.ofInt z).toInt = z := Int32.toInt_ofInt_of_le (by unfold vx_in at h; omega) (by unfold vx_in at h; omega)
theorem vx_lt {x y : Int} (hx : vx_in x) (hy : vx_in y) : Int32.ofInt x < Int32.ofInt y ↔ x < y := by rw [Int32.lt_iff_toInt_lt, vx_toInt hx, vx_toInt hy]
theorem vx_le {x y : Int} (hx : vx_in x) (hy : vx_in y) : Int32.ofInt x ≤ Int32.ofInt y ↔ x ≤ y := by rw [Int32.le_iff_toInt_le, vx_toInt hx, vx_toInt hy]
theorem vx_eq {x y : Int} (hx : vx_in x) (hy : vx_in y) : Int32.ofInt x = Int32.ofInt y ↔ x = y := ⟨fun h => by rw [← vx_toInt hx, h, vx_toInt hy], fun h => by rw [h]⟩
theorem vx_in0 : vx_in 0 := by unfold vx_in; omega
theorem vx_nat {z : Int} (h : vx_in z) : (Int32.ofInt z).toNatClampNeg = z.toNat := by
  show (Int32.ofInt z).toInt.toNat = z.toNat
  rw [vx_toInt h]
theorem vx_vp {z : Int} {n : Nat} (h : vx_in z) (h0 : 0 ≤ z) (h1 : z < n) : vp_in (Int32.ofInt z) n := by
  rw [vp_in_iff, vx_toInt h]; exact ⟨h0, h1⟩
theorem vx_divE {x y : Int} (hx : vx_in x) (hy : vx_in y) (h0 : 0 ≤ x) (h1 : 0 < y) : Int32.ofInt (x / y) = Int32.ofInt x / Int32.ofInt y := by
  unfold vx_in at hx hy
  rw [← Int.tdiv_eq_ediv_of_nonneg h0]
  exact Int32.ofInt_tdiv hx.1 hx.2 hy.1 hy.2
theorem vx_remE {x y : Int} (hx : vx_in x) (hy : vx_in y) (h0 : 0 ≤ x) (h1 : 0 < y) : Int32.ofInt (x % y) = Int32.ofInt x - Int32.ofInt x / Int32.ofInt y * Int32.ofInt y := by
  rw [← vx_divE hx hy h0 h1, ← Int32.ofInt_mul, ← Int32.ofInt_sub, Int.emod_def, Int.mul_comm]
theorem vx_cat (ad : Nat → Nat) (v : vx_V) : (vx_v ad v).category = 1 := by
  rcases v with z | r
  · rfl
  · cases r <;> rfl
theorem vx_l_mem {ad : Nat → Nat} {L : List (Option vx_V)} {q : Nat × Value} : q ∈ vx_l ad L ↔ ∃ v, L[q.1]? = some (some v) ∧ q.2 = vx_v ad v := by
  unfold vx_l
  rw [List.mem_filterMap]
  constructor
  · rintro ⟨i, -, h⟩
    cases hL : L[i]? with
    | none => rw [hL] at h; cases h
    | some o =>
      rw [hL] at h
      cases o with
      | none => cases h
      | some v => cases h; exact ⟨v, hL, rfl⟩
  · rintro ⟨v, h1, h2⟩
    refine ⟨q.1, List.mem_range.mpr (List.getElem?_eq_some_iff.mp h1).1, ?_⟩
    rw [h1]
    obtain ⟨a, b⟩ := q
    cases h2
    rfl
theorem vx_at {ls : Array Slot} {nL : Nat} {ad : Nat → Nat} {L : List (Option vx_V)} {i : Nat} {v : vx_V} (h : lv_has ls nL (vx_l ad L)) (hv : L[i]? = some (some v)) : ls[i]? = some (.val (vx_v ad v)) := h.2.2 (i, vx_v ad v) (vx_l_mem.mpr ⟨v, hv, rfl⟩)
theorem vx_st {ls : Array Slot} {nL : Nat} {ad : Nat → Nat} {L L' : List (Option vx_V)} {i : Nat} {v : vx_V} (hL' : L.set i (some v) = L') (h : lv_has ls nL ((i, vx_v ad v) :: (vx_l ad L).filter (fun q => !(q.1 == i) && !(q.1 + 1 == i && q.2.category == 2)))) : lv_has ls nL (vx_l ad L') := by
  subst hL'
  refine ⟨h.1, h.2.1, fun q hq => ?_⟩
  obtain ⟨w, h1, h2⟩ := vx_l_mem.mp hq
  by_cases hi : q.1 = i
  · have hlt : i < L.length := by
      have := (List.getElem?_eq_some_iff.mp h1).1
      rw [List.length_set] at this
      omega
    rw [hi, List.getElem?_set_self hlt] at h1
    cases h1
    have := h.2.2 (i, vx_v ad v) List.mem_cons_self
    rw [hi, h2]
    exact this
  · rw [List.getElem?_set_ne (Ne.symm hi)] at h1
    refine h.2.2 q (List.mem_cons_of_mem _ (List.mem_filter.mpr ⟨vx_l_mem.mpr ⟨w, h1, h2⟩, ?_⟩))
    have hc : q.2.category = 1 := by rw [h2]; exact vx_cat ad w
    simp [hi, hc]
theorem vx_w_get {cs : vx_Cs} {ad : Nat → Nat} {sh : List vx_H} {g : vx_M} {k : Nat} {h : vx_H} (e : sh[k]? = some h) : (vx_w cs ad sh g)[k]? = some (ad k, vx_e cs ad g k h) := by
  unfold vx_w
  rw [List.getElem?_mapIdx, e]
  rfl
theorem vx_e_congr {cs : vx_Cs} {ad : Nat → Nat} {g g' : vx_M} {k : Nat} (h : vx_H) (e : ∀ b, g' k b = g k b) : vx_e cs ad g' k h = vx_e cs ad g k h := by
  have e2 : g' k = g k := funext e
  rcases h with ⟨ci, fs⟩ | ⟨b, n⟩ | rs
  · simp only [vx_e, vx_fs]
    congr 3
    funext j f
    cases f <;> simp only [vx_f, e]
  · simp only [vx_e, e]
  · rfl
theorem vx_w_set {cs : vx_Cs} {ad : Nat → Nat} {sh : List vx_H} {g g' : vx_M} {k : Nat} {h : vx_H} {e' : va_E} (e : sh[k]? = some h) (h2 : ∀ a b, a ≠ k → g' a b = g a b) (h3 : vx_e cs ad g' k h = e') : (vx_w cs ad sh g).set k (ad k, e') = vx_w cs ad sh g' := by
  apply List.ext_getElem?
  intro i
  have hlt : k < sh.length := (List.getElem?_eq_some_iff.mp e).1
  by_cases hi : i = k
  · subst hi
    rw [List.getElem?_set_self (by unfold vx_w; rw [List.length_mapIdx]; exact hlt), vx_w_get e, h3]
  · rw [List.getElem?_set_ne (Ne.symm hi)]
    unfold vx_w
    rw [List.getElem?_mapIdx, List.getElem?_mapIdx]
    cases sh[i]? with
    | none => rfl
    | some x =>
      show some (ad i, vx_e cs ad g i x) = some (ad i, vx_e cs ad g' i x)
      rw [vx_e_congr (g := g) (g' := g') x (fun b => h2 i b hi)]
theorem vx_w_shape {cs : vx_Cs} {ad : Nat → Nat} {sh : List vx_H} {g : vx_M} {k : Nat} {h h' : vx_H} {e' : va_E} (e : sh[k]? = some h) (h3 : vx_e cs ad g k h' = e') : (vx_w cs ad sh g).set k (ad k, e') = vx_w cs ad (sh.set k h') g := by
  apply List.ext_getElem?
  intro i
  have hlt : k < sh.length := (List.getElem?_eq_some_iff.mp e).1
  by_cases hi : i = k
  · subst hi
    rw [List.getElem?_set_self (by unfold vx_w; rw [List.length_mapIdx]; exact hlt), vx_w_get (List.getElem?_set_self hlt), h3]
  · rw [List.getElem?_set_ne (Ne.symm hi)]
    unfold vx_w
    rw [List.getElem?_mapIdx, List.getElem?_mapIdx, List.getElem?_set_ne (Ne.symm hi)]
theorem vx_fs_get {ad : Nat → Nat} {g : vx_M} {k j : Nat} {fs : List (Option (Option Nat))} {f : Option (Option Nat)} (h : fs[j]? = some f) : (vx_fs ad g k fs)[j]? = some (vx_f ad g k j f) := by
  unfold vx_fs
  rw [List.getElem?_mapIdx, h]
  rfl
theorem vx_fs_put {ad : Nat → Nat} {g : vx_M} {k j : Nat} {fs : List (Option (Option Nat))} {v : Int} (h : fs[j]? = some none) : vx_fs ad (vx_u g k j v) k fs = (vx_fs ad g k fs).set j (.int (Int32.ofInt v)) := by
  apply List.ext_getElem?
  intro i
  have hlt : j < fs.length := (List.getElem?_eq_some_iff.mp h).1
  by_cases hi : i = j
  · subst hi
    rw [List.getElem?_set_self (by unfold vx_fs; rw [List.length_mapIdx]; exact hlt), vx_fs_get h]
    simp [vx_f, vx_u]
  · rw [List.getElem?_set_ne (Ne.symm hi)]
    unfold vx_fs
    rw [List.getElem?_mapIdx, List.getElem?_mapIdx]
    cases fs[i]? with
    | none => rfl
    | some x =>
      have hne : ¬ ((i : Int) = (j : Int)) := by omega
      cases x <;> simp [vx_f, vx_u, hne]
theorem vx_fs_ref {ad : Nat → Nat} {g : vx_M} {k j : Nat} {fs : List (Option (Option Nat))} {r : Option Nat} {f : Option (Option Nat)} (h : fs[j]? = some f) : vx_fs ad g k (fs.set j (some r)) = (vx_fs ad g k fs).set j (va_rf (r.map ad)) := by
  apply List.ext_getElem?
  intro i
  have hlt : j < fs.length := (List.getElem?_eq_some_iff.mp h).1
  by_cases hi : i = j
  · subst hi
    rw [List.getElem?_set_self (by unfold vx_fs; rw [List.length_mapIdx]; exact hlt), vx_fs_get (List.getElem?_set_self hlt)]
    rfl
  · rw [List.getElem?_set_ne (Ne.symm hi)]
    unfold vx_fs
    rw [List.getElem?_mapIdx, List.getElem?_mapIdx, List.getElem?_set_ne (Ne.symm hi)]
theorem vx_arr_put {g : vx_M} {k : Nat} {z v : Int} (h0 : 0 ≤ z) : upd (fun j : Nat => Int32.ofInt (g k j)) z.toNat (Int32.ofInt v) = fun j : Nat => Int32.ofInt (vx_u g k z v k j) := by
  funext j
  by_cases hj : j = z.toNat
  · subst hj
    have e : ((z.toNat : Nat) : Int) = z := Int.toNat_of_nonneg h0
    simp [pk_us, vx_u, e]
  · rw [pk_un hj]
    have e : ¬ ((j : Int) = z) := by omega
    simp [vx_u, e]
theorem vx_gR_u {g : vx_M} {k : Nat} {j v : Int} (h : vx_gR g) (hv : vx_in v) : vx_gR (vx_u g k j v) := by
  intro a b
  unfold vx_u
  split
  · split
    · exact hv
    · exact h a b
  · exact h a b
theorem vx_gR_cp {g : vx_M} {k0 k1 : Nat} {sp dp n : Int} (h : vx_gR g) : vx_gR (vx_cp g k0 k1 sp dp n) := by
  intro a b
  unfold vx_cp
  split
  · split
    · exact h _ _
    · exact h a b
  · exact h a b
theorem vx_gR_z {g : vx_M} {k : Nat} (h : vx_gR g) : vx_gR (vx_z g k) := by
  intro a b
  unfold vx_z
  split
  · exact vx_in0
  · exact h a b
theorem vx_sR_i {st : List vx_V} {z : Int} (h : vx_in z) (hs : vx_sR st) : vx_sR (.inl z :: st) := by
  intro w hw
  rcases List.mem_cons.mp hw with h1 | h1
  · cases h1; exact h
  · exact hs w h1
theorem vx_sR_r {st : List vx_V} {r : Option Nat} (hs : vx_sR st) : vx_sR (.inr r :: st) := by
  intro w hw
  rcases List.mem_cons.mp hw with h1 | h1
  · cases h1
  · exact hs w h1
theorem vx_sR_t {st : List vx_V} {v : vx_V} (hs : vx_sR (v :: st)) : vx_sR st := fun w hw => hs w (List.mem_cons_of_mem _ hw)
theorem vx_sR_h {st : List vx_V} {z : Int} (hs : vx_sR (.inl z :: st)) : vx_in z := hs z List.mem_cons_self
theorem vx_sR_c {st : List vx_V} {v : vx_V} (hv : ∀ z, v = .inl z → vx_in z) (hs : vx_sR st) : vx_sR (v :: st) := by
  intro w hw
  rcases List.mem_cons.mp hw with h1 | h1
  · exact hv w h1.symm
  · exact hs w h1
theorem vx_LR_at {L : List (Option vx_V)} {i : Nat} {z : Int} (h : vx_LR L) (hv : L[i]? = some (some (.inl z))) : vx_in z := h z (List.mem_of_getElem? hv)
theorem vx_LR_set {L L' : List (Option vx_V)} {i : Nat} {v : vx_V} (e : L.set i (some v) = L') (h : vx_LR L) (hv : ∀ z, v = .inl z → vx_in z) : vx_LR L' := by
  subst e
  intro z hz
  rcases List.mem_or_eq_of_mem_set hz with h1 | h1
  · exact h z h1
  · exact hv z (Option.some.inj h1).symm
/-- the tables' words that a call may carry on -/
def vx_tb : List Cond := lw_tbl.filter goodWord
theorem vx_tb_in {w : Cond} (i : Nat) (h : lw_tbl[i]? = some w) (hg : goodWord w = true) : w ∈ vx_tb := List.mem_filter.mpr ⟨List.mem_of_getElem? h, hg⟩
/-- the two words that calls don't carry on by themselves -/
def vx_N (U : State) : Prop := va_Nw (.methodLinkNest "PeopleTower" 18 yX1_init "PeopleTower") U ∧ (Cond.arrayOver (.array .int)).before #[] U = true
theorem vx_N.same {u U : State} (h : u.vm = U.vm) (hz : vx_N u) : vx_N U := ⟨va_Nw.same rfl h hz.1, by
  have h2 := hz.2
  unfold Cond.before Cond.holds at h2 ⊢
  simp only [Cond.value] at h2 ⊢
  rw [← h]
  exact h2⟩
theorem vx_N.warm {s U : State} (h : s.WarmedH U.vm) (hz : vx_N s) : vx_N U := ⟨va_Nw.warmM h hz.1, by
  have e := Cond.arrayOver_setVmC (args := #[]) h.alike (.array .int)
  have h2 := hz.2
  rw [← e] at h2
  exact h2⟩
/-! the judgement -/
/-- what stands through a whole method -/
def vx_C (M : vx_Me) (Na : Nat → Prop) (P : vx_P) (p : Program) (s : State) (m : MethodId) (args : Array Value) (meth : Method) (c : Code) (D : va_G) (cs : vx_Cs) (ad0 : Nat → Nat) (A : Nat → Prop) (Qc : Array Value → State → Outcome → State → Prop) : Prop :=
  p.tables.exec = Jvm.exec ∧ c.code = M.2.1 ∧ meth.sig.returnType = M.2.2.2 ∧ c.maxLocals = M.2.2.1 ∧ s.vm.findClass M.1.cls = some m.cls ∧ (∀ w ∈ vx_tb, w.before args s = true) ∧ meth.locks = false ∧ meth.name = M.1.name ∧ (va_K D vwCl (vx_t cs) s ∧ vx_N s) ∧ (∀ q, s.heap.size ≤ q → A q) ∧
  (∀ (r : Option Int) (sh : List vx_H) (g : vx_M) (ad : Nat → Nat) (t : State), P r sh g → vx_gR g → (∀ z, r = some z → vx_in z) → (∀ k, Na k → ad k = ad0 k) → va_P D vwCl (vx_w cs ad sh g) t.heap → va_K D vwCl (vx_t cs) t → va_D A (vx_w cs ad sh g) → va_F A s t → Qc args s (.returned (r.map fun z => Value.int (Int32.ofInt z))) t)
/-- what stands at an instruction -/
def vx_D (M : vx_Me) (Na : Nat → Prop) (s : State) (D : va_G) (cs : vx_Cs) (ad0 : Nat → Nat) (A : Nat → Prop) (sh : List vx_H) (g : vx_M) (L : List (Option vx_V)) (st : List vx_V) (H : Heap) (locs : List Loc) (ad : Nat → Nat) (ls : Array Slot) : Prop :=
  va_P D vwCl (vx_w cs ad sh g) H ∧ va_D A (vx_w cs ad sh g) ∧ va_S A s.heap H locs ∧ lv_has ls M.2.2.1 (vx_l ad L) ∧ vx_LR L ∧ vx_sR st ∧ vx_gR g ∧ (∀ k, Na k → ad k = ad0 k)
/-- from this instruction the method M comes to its end, with P -/
def vJ (l : Launch) (M : vx_Me) (R : Room) (Na : Nat → Prop) (P : vx_P) (mc ms kc ks : Nat) (sh : List vx_H) (g : vx_M) (pc : Nat) (L : List (Option vx_V)) (st : List vx_V) : Prop :=
  ∀ (p : Program) (e : Env) (s : State) (m : MethodId) (args : Array Value) (below : List Frame) (meth : Method) (c : Code) (D : va_G) (cs : vx_Cs) (ad0 : Nat → Nat) (A : Nat → Prop) (Qc : Array Value → State → Outcome → State → Prop), vx_C M Na P p s m args meth c D cs ad0 A Qc →
  ∀ (H : Heap) (locs : List Loc) (ad : Nat → Nat) (ls : Array Slot), vx_D M Na s D cs ad0 A sh g L st H locs ad ls →
  W p l e R s m args below meth c H locs kc ks (MQ below Qc args s mc ms A) (F0 m pc ls (st.map (vx_v ad)))
/-- a method's contract: numbers as answers -/
def vx_Ci (l : Launch) (M : vx_Me) (R : Room) (Na : Nat → Prop) (mc ms : Nat) (av : List vx_V) (sh : List vx_H) (g : vx_M) (P : vx_P) : Prop :=
  vx_gR g → vx_sR av → ∀ (D : va_G) (cs : vx_Cs) (ad : Nat → Nat) (sz : Nat), Met l M.1 (Cond.code M.1 M.2.1 M.2.2.1 M.2.2.2 :: vx_tb) R
    (va_Pc (av.map (vx_v ad)) (fun U => U.heap.size = sz ∧ va_P D vwCl (vx_w cs ad sh g) U.heap ∧ (va_K D vwCl (vx_t cs) U ∧ vx_N U) ∧ va_D (fun _ => True) (vx_w cs ad sh g)))
    (va_Qi (fun (r : Int32) (u : Int × List vx_H × vx_M × (Nat → Nat)) => r = Int32.ofInt u.1 ∧ vx_in u.1 ∧ P (some u.1) u.2.1 u.2.2.1 ∧ vx_gR u.2.2.1 ∧ ∀ k, Na k → u.2.2.2 k = ad k)
      (fun (u : Int × List vx_H × vx_M × (Nat → Nat)) t => va_P D vwCl (vx_w cs u.2.2.2 u.2.1 u.2.2.1) t.heap ∧ va_K D vwCl (vx_t cs) t ∧ va_D (va_A (vx_w cs ad sh g) sz) (vx_w cs u.2.2.2 u.2.1 u.2.2.1)) (va_A (vx_w cs ad sh g) sz)) mc ms (va_A (vx_w cs ad sh g) sz)
/-- a method's contract: no answer -/
def vx_Cv (l : Launch) (M : vx_Me) (R : Room) (Na : Nat → Prop) (mc ms : Nat) (av : List vx_V) (sh : List vx_H) (g : vx_M) (P : vx_P) : Prop :=
  vx_gR g → vx_sR av → ∀ (D : va_G) (cs : vx_Cs) (ad : Nat → Nat) (sz : Nat), Met l M.1 (Cond.code M.1 M.2.1 M.2.2.1 M.2.2.2 :: vx_tb) R
    (va_Pc (av.map (vx_v ad)) (fun U => U.heap.size = sz ∧ va_P D vwCl (vx_w cs ad sh g) U.heap ∧ (va_K D vwCl (vx_t cs) U ∧ vx_N U) ∧ va_D (fun _ => True) (vx_w cs ad sh g)))
    (va_Qv (fun (u : List vx_H × vx_M × (Nat → Nat)) => P none u.1 u.2.1 ∧ vx_gR u.2.1 ∧ ∀ k, Na k → u.2.2 k = ad k)
      (fun (u : List vx_H × vx_M × (Nat → Nat)) t => va_P D vwCl (vx_w cs u.2.2 u.1 u.2.1) t.heap ∧ va_K D vwCl (vx_t cs) t ∧ va_D (va_A (vx_w cs ad sh g) sz) (vx_w cs u.2.2 u.1 u.2.1)) (va_A (vx_w cs ad sh g) sz)) mc ms (va_A (vx_w cs ad sh g) sz)
theorem vx_args (ad : Nat → Nat) : ∀ (av : List vx_V) (n i : Nat) (v : vx_V), av[i]? = some v → (n + i, vx_v ad v) ∈ lv_args n (av.map (vx_v ad))
  | [], n, i, v, h => by simp at h
  | a :: av, n, i, v, h => by
    have hc : (vx_v ad a).category = 1 := vx_cat ad a
    cases i with
    | zero =>
      rw [List.getElem?_cons_zero] at h
      cases h
      simp [lv_args]
    | succ i =>
      rw [List.getElem?_cons_succ] at h
      have h1 := vx_args ad av (n + 1) i v h
      rw [show n + (i + 1) = n + 1 + i by omega]
      simp only [List.map_cons, lv_args, hc]
      exact List.mem_cons_of_mem _ h1
theorem vx_sl (ad : Nat → Nat) : ∀ (av : List vx_V), (lg_sl (av.map (vx_v ad))).length = av.length
  | [] => rfl
  | a :: av => by
    have h1 := vx_sl ad av
    have hc : (vx_v ad a).category = 1 := vx_cat ad a
    unfold lg_sl at h1 ⊢
    rw [List.map_cons, List.flatMap_cons, List.length_append, h1, List.length_cons]
    simp [hc]
    omega
theorem vx_entry {ad : Nat → Nat} {av : List vx_V} {nL : Nat} {L : List (Option vx_V)} {ls : Array Slot} (hL : av.map some ++ List.replicate (nL - av.length) none = L) (h : lv_has ls nL (lv_args 0 (av.map (vx_v ad)))) : lv_has ls nL (vx_l ad L) := by
  subst hL
  refine ⟨h.1, h.2.1, fun q hq => ?_⟩
  obtain ⟨v, h1, h2⟩ := vx_l_mem.mp hq
  by_cases hi : q.1 < av.length
  · rw [List.getElem?_append_left (by rw [List.length_map]; exact hi), List.getElem?_map] at h1
    cases ha : av[q.1]? with
    | none => rw [ha] at h1; cases h1
    | some a =>
      rw [ha] at h1
      cases h1
      have := vx_args ad av 0 q.1 v ha
      rw [Nat.zero_add] at this
      rw [h2]
      exact h.2.2 (q.1, vx_v ad v) this
  · rw [List.getElem?_append_right (by rw [List.length_map]; omega)] at h1
    have := List.mem_of_getElem? h1
    have := (List.mem_replicate.mp this).2
    cases this
theorem vx_entryR {av : List vx_V} {nL : Nat} {L : List (Option vx_V)} (hL : av.map some ++ List.replicate (nL - av.length) none = L) (h : vx_sR av) : vx_LR L := by
  subst hL
  intro z hz
  rcases List.mem_append.mp hz with h1 | h1
  · obtain ⟨a, ha, hb⟩ := List.mem_map.mp h1
    cases hb
    exact h z ha
  · have := (List.mem_replicate.mp h1).2
    cases this
set_option maxHeartbeats 4000000 in
theorem vx_Ci.of {l : Launch} {M : vx_Me} {R : Room} {Na : Nat → Prop} {mc ms : Nat} {av : List vx_V} {sh : List vx_H} {g : vx_M} {P : vx_P} (L : List (Option vx_V)) (hy : plainName M.1.cls = true) (hlen : av.length ≤ M.2.2.1) (hL : av.map some ++ List.replicate (M.2.2.1 - av.length) none = L)
    (hP0 : ∀ sh' g', ¬ P none sh' g') (h : vJ l M R Na P mc ms 0 0 sh g 0 L []) : vx_Ci l M R Na mc ms av sh g P := by
  intro hg hs D cs ad sz
  refine Met.ofW (cc := M.2.1) (maxL := M.2.2.1) (ret := M.2.2.2) hy rfl ?_
  intro p e s m args below meth c s₁ B hml hv
  obtain ⟨rfl, hsz, hP, hK, hD0⟩ := hv
  have hts := atoms_spec (ws := Cond.code M.1 M.2.1 M.2.2.1 M.2.2.2 :: vx_tb) B.pre
  subst hsz
  have hD := hD0.self (sz := s.heap.size)
  have hl := lv_entry (av.map (vx_v ad)) (n := M.2.2.1) (by rw [vx_sl]; exact hlen)
  rw [lg_entry_eq]
  generalize (lg_sl (av.map (vx_v ad)) ++ List.replicate (M.2.2.1 - (lg_sl (av.map (vx_v ad))).length) Slot.unset).toArray = ls at hl ⊢
  refine h p e s m _ below meth c D cs ad (va_A (vx_w cs ad sh g) s.heap.size) _ ⟨B.exec, B.bytes, B.returns, hml, findClass_of_methodNamed B.named, fun w hw => hts w (List.mem_cons_of_mem _ hw), B.notSynchronized, (name_of_methodNamed B.named B.method).1, hK, fun q hq => Or.inr hq, ?_⟩ s.heap [] ad ls ⟨hP, hD, va_S.rf, vx_entry hL hl, vx_entryR hL hs, (fun _ h => by cases h), hg, fun _ _ => rfl⟩
  intro r sh' g' ad' t hp hgR hr hna hP1 hK1 hD1 hF
  cases r with
  | none => exact absurd hp (hP0 _ _)
  | some z => exact ⟨⟨Int32.ofInt z, (z, sh', g', ad'), rfl, ⟨rfl, hr z rfl, hp, hgR, hna⟩, hP1, hK1, hD1⟩, hF⟩
set_option maxHeartbeats 4000000 in
theorem vx_Cv.of {l : Launch} {M : vx_Me} {R : Room} {Na : Nat → Prop} {mc ms : Nat} {av : List vx_V} {sh : List vx_H} {g : vx_M} {P : vx_P} (L : List (Option vx_V)) (hy : plainName M.1.cls = true) (hlen : av.length ≤ M.2.2.1) (hL : av.map some ++ List.replicate (M.2.2.1 - av.length) none = L)
    (hP0 : ∀ z sh' g', ¬ P (some z) sh' g') (h : vJ l M R Na P mc ms 0 0 sh g 0 L []) : vx_Cv l M R Na mc ms av sh g P := by
  intro hg hs D cs ad sz
  refine Met.ofW (cc := M.2.1) (maxL := M.2.2.1) (ret := M.2.2.2) hy rfl ?_
  intro p e s m args below meth c s₁ B hml hv
  obtain ⟨rfl, hsz, hP, hK, hD0⟩ := hv
  have hts := atoms_spec (ws := Cond.code M.1 M.2.1 M.2.2.1 M.2.2.2 :: vx_tb) B.pre
  subst hsz
  have hD := hD0.self (sz := s.heap.size)
  have hl := lv_entry (av.map (vx_v ad)) (n := M.2.2.1) (by rw [vx_sl]; exact hlen)
  rw [lg_entry_eq]
  generalize (lg_sl (av.map (vx_v ad)) ++ List.replicate (M.2.2.1 - (lg_sl (av.map (vx_v ad))).length) Slot.unset).toArray = ls at hl ⊢
  refine h p e s m _ below meth c D cs ad (va_A (vx_w cs ad sh g) s.heap.size) _ ⟨B.exec, B.bytes, B.returns, hml, findClass_of_methodNamed B.named, fun w hw => hts w (List.mem_cons_of_mem _ hw), B.notSynchronized, (name_of_methodNamed B.named B.method).1, hK, fun q hq => Or.inr hq, ?_⟩ s.heap [] ad ls ⟨hP, hD, va_S.rf, vx_entry hL hl, vx_entryR hL hs, (fun _ h => by cases h), hg, fun _ _ => rfl⟩
  intro r sh' g' ad' t hp hgR hr hna hP1 hK1 hD1 hF
  cases r with
  | some z => exact absurd hp (hP0 _ _ _)
  | none => exact ⟨⟨(sh', g', ad'), rfl, ⟨hp, hgR, hna⟩, hP1, hK1, hD1⟩, hF⟩

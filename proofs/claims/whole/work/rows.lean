section
-- ===== PART A: goes FIRST, ahead of the names: the tables' words, and 'selects' of the private methods out of them =====
/-- a private method of a class that the tables say can be made, by its rows of tables_1 -/
def lw_okq (q : MethodName × Nat) : Prop := (q.1.cls ≠ "java/lang/invoke/MethodHandle" ∧ q.1.cls ≠ "java/lang/invoke/VarHandle") ∧ Cond.instantiable q.1.cls q.2 ∈ tables_1 ∧ Cond.privateMethod q.1 ∈ tables_1 ∧ Cond.instanceMethod q.1 ∈ tables_1
theorem lw_p0 : lw_okq (⟨"PeopleTower$Tower", "shareOut", "(III)V"⟩, 6) := ⟨⟨by decide +kernel, by decide +kernel⟩, List.mem_of_getElem? (i := 20) (by decide +kernel), List.mem_of_getElem? (i := 35) (by decide +kernel), List.mem_of_getElem? (i := 36) (by decide +kernel)⟩
theorem lw_p1 : lw_okq (⟨"PeopleTower$Tower", "restHalfOn", "([II)V"⟩, 6) := ⟨⟨by decide +kernel, by decide +kernel⟩, List.mem_of_getElem? (i := 20) (by decide +kernel), List.mem_of_getElem? (i := 42) (by decide +kernel), List.mem_of_getElem? (i := 43) (by decide +kernel)⟩
theorem lw_p2 : lw_okq (⟨"PeopleTower", "endPlacing", "()V"⟩, 10) := ⟨⟨by decide +kernel, by decide +kernel⟩, List.mem_of_getElem? (i := 12) (by decide +kernel), List.mem_of_getElem? (i := 262) (by decide +kernel), List.mem_of_getElem? (i := 263) (by decide +kernel)⟩
theorem lw_p3 : lw_okq (⟨"PeopleTower$Search", "start", "(ZI)V"⟩, 13) := ⟨⟨by decide +kernel, by decide +kernel⟩, List.mem_of_getElem? (i := 139) (by decide +kernel), List.mem_of_getElem? (i := 294) (by decide +kernel), List.mem_of_getElem? (i := 295) (by decide +kernel)⟩
theorem lw_p4 : lw_okq (⟨"PeopleTower$Search", "walk", "(IIII)V"⟩, 13) := ⟨⟨by decide +kernel, by decide +kernel⟩, List.mem_of_getElem? (i := 139) (by decide +kernel), List.mem_of_getElem? (i := 299) (by decide +kernel), List.mem_of_getElem? (i := 300) (by decide +kernel)⟩
theorem lw_p5 : lw_okq (⟨"PeopleTower$Search", "arrive", "(I)V"⟩, 13) := ⟨⟨by decide +kernel, by decide +kernel⟩, List.mem_of_getElem? (i := 139) (by decide +kernel), List.mem_of_getElem? (i := 303) (by decide +kernel), List.mem_of_getElem? (i := 304) (by decide +kernel)⟩
theorem lw_p6 : lw_okq (⟨"PeopleTower$Search", "goOnWith", "(IIIII)V"⟩, 13) := ⟨⟨by decide +kernel, by decide +kernel⟩, List.mem_of_getElem? (i := 139) (by decide +kernel), List.mem_of_getElem? (i := 318) (by decide +kernel), List.mem_of_getElem? (i := 319) (by decide +kernel)⟩
theorem lw_p7 : lw_okq (⟨"PeopleTower$Search", "bearsAlso", "(II)Z"⟩, 13) := ⟨⟨by decide +kernel, by decide +kernel⟩, List.mem_of_getElem? (i := 139) (by decide +kernel), List.mem_of_getElem? (i := 326) (by decide +kernel), List.mem_of_getElem? (i := 327) (by decide +kernel)⟩
theorem lw_p8 : lw_okq (⟨"PeopleTower", "isPlace", "(I)Z"⟩, 10) := ⟨⟨by decide +kernel, by decide +kernel⟩, List.mem_of_getElem? (i := 12) (by decide +kernel), List.mem_of_getElem? (i := 363) (by decide +kernel), List.mem_of_getElem? (i := 364) (by decide +kernel)⟩
theorem lw_p9 : lw_okq (⟨"PeopleTower", "exchange", "(II)V"⟩, 10) := ⟨⟨by decide +kernel, by decide +kernel⟩, List.mem_of_getElem? (i := 12) (by decide +kernel), List.mem_of_getElem? (i := 379) (by decide +kernel), List.mem_of_getElem? (i := 380) (by decide +kernel)⟩
theorem lw_p10 : lw_okq (⟨"PeopleTower$Rules", "spread", "([II)I"⟩, 3) := ⟨⟨by decide +kernel, by decide +kernel⟩, List.mem_of_getElem? (i := 121) (by decide +kernel), List.mem_of_getElem? (i := 390) (by decide +kernel), List.mem_of_getElem? (i := 391) (by decide +kernel)⟩
theorem lw_p11 : lw_okq (⟨"PeopleTower$Climb", "ticksFor", "(I)I"⟩, 7) := ⟨⟨by decide +kernel, by decide +kernel⟩, List.mem_of_getElem? (i := 187) (by decide +kernel), List.mem_of_getElem? (i := 405) (by decide +kernel), List.mem_of_getElem? (i := 406) (by decide +kernel)⟩
theorem lw_p12 : lw_okq (⟨"PeopleTower$Climb", "pass", "([IIIII)I"⟩, 7) := ⟨⟨by decide +kernel, by decide +kernel⟩, List.mem_of_getElem? (i := 187) (by decide +kernel), List.mem_of_getElem? (i := 409) (by decide +kernel), List.mem_of_getElem? (i := 410) (by decide +kernel)⟩
theorem lw_p13 : lw_okq (⟨"PeopleTower$Climb", "tire", "([II)V"⟩, 7) := ⟨⟨by decide +kernel, by decide +kernel⟩, List.mem_of_getElem? (i := 187) (by decide +kernel), List.mem_of_getElem? (i := 414) (by decide +kernel), List.mem_of_getElem? (i := 415) (by decide +kernel)⟩
theorem lw_p14 : lw_okq (⟨"PeopleTower", "pointsOfTry", "()I"⟩, 10) := ⟨⟨by decide +kernel, by decide +kernel⟩, List.mem_of_getElem? (i := 12) (by decide +kernel), List.mem_of_getElem? (i := 438) (by decide +kernel), List.mem_of_getElem? (i := 439) (by decide +kernel)⟩
theorem lw_p15 : lw_okq (⟨"PeopleTowerModel", "findPlaces", "()V"⟩, 32) := ⟨⟨by decide +kernel, by decide +kernel⟩, List.mem_of_getElem? (i := 450) (by decide +kernel), List.mem_of_getElem? (i := 456) (by decide +kernel), List.mem_of_getElem? (i := 457) (by decide +kernel)⟩
def lw_privs_1 : List (MethodName × Nat) := [(⟨"PeopleTower$Tower", "shareOut", "(III)V"⟩, 6), (⟨"PeopleTower$Tower", "restHalfOn", "([II)V"⟩, 6), (⟨"PeopleTower", "endPlacing", "()V"⟩, 10), (⟨"PeopleTower$Search", "start", "(ZI)V"⟩, 13), (⟨"PeopleTower$Search", "walk", "(IIII)V"⟩, 13), (⟨"PeopleTower$Search", "arrive", "(I)V"⟩, 13), (⟨"PeopleTower$Search", "goOnWith", "(IIIII)V"⟩, 13), (⟨"PeopleTower$Search", "bearsAlso", "(II)Z"⟩, 13), (⟨"PeopleTower", "isPlace", "(I)Z"⟩, 10), (⟨"PeopleTower", "exchange", "(II)V"⟩, 10), (⟨"PeopleTower$Rules", "spread", "([II)I"⟩, 3), (⟨"PeopleTower$Climb", "ticksFor", "(I)I"⟩, 7), (⟨"PeopleTower$Climb", "pass", "([IIIII)I"⟩, 7), (⟨"PeopleTower$Climb", "tire", "([II)V"⟩, 7), (⟨"PeopleTower", "pointsOfTry", "()I"⟩, 10), (⟨"PeopleTowerModel", "findPlaces", "()V"⟩, 32)]
theorem lw_r1 : ∀ q ∈ lw_privs_1, lw_okq q := List.forall_mem_cons.mpr ⟨lw_p0, List.forall_mem_cons.mpr ⟨lw_p1, List.forall_mem_cons.mpr ⟨lw_p2, List.forall_mem_cons.mpr ⟨lw_p3, List.forall_mem_cons.mpr ⟨lw_p4, List.forall_mem_cons.mpr ⟨lw_p5, List.forall_mem_cons.mpr ⟨lw_p6, List.forall_mem_cons.mpr ⟨lw_p7, List.forall_mem_cons.mpr ⟨lw_p8, List.forall_mem_cons.mpr ⟨lw_p9, List.forall_mem_cons.mpr ⟨lw_p10, List.forall_mem_cons.mpr ⟨lw_p11, List.forall_mem_cons.mpr ⟨lw_p12, List.forall_mem_cons.mpr ⟨lw_p13, List.forall_mem_cons.mpr ⟨lw_p14, List.forall_mem_cons.mpr ⟨lw_p15, fun _ h => absurd h List.not_mem_nil⟩⟩⟩⟩⟩⟩⟩⟩⟩⟩⟩⟩⟩⟩⟩⟩
theorem lw_p16 : lw_okq (⟨"PeopleTowerModel", "sum", "(I)I"⟩, 32) := ⟨⟨by decide +kernel, by decide +kernel⟩, List.mem_of_getElem? (i := 450) (by decide +kernel), List.mem_of_getElem? (i := 564) (by decide +kernel), List.mem_of_getElem? (i := 565) (by decide +kernel)⟩
theorem lw_p17 : lw_okq (⟨"PeopleTowerModel", "isPerson", "(I)Z"⟩, 32) := ⟨⟨by decide +kernel, by decide +kernel⟩, List.mem_of_getElem? (i := 450) (by decide +kernel), List.mem_of_getElem? (i := 580) (by decide +kernel), List.mem_of_getElem? (i := 581) (by decide +kernel)⟩
theorem lw_p18 : lw_okq (⟨"PeopleTowerModel", "findPlacings", "()V"⟩, 32) := ⟨⟨by decide +kernel, by decide +kernel⟩, List.mem_of_getElem? (i := 450) (by decide +kernel), List.mem_of_getElem? (i := 592) (by decide +kernel), List.mem_of_getElem? (i := 593) (by decide +kernel)⟩
theorem lw_p19 : lw_okq (⟨"PeopleTowerModel", "fitsSo", "()I"⟩, 32) := ⟨⟨by decide +kernel, by decide +kernel⟩, List.mem_of_getElem? (i := 450) (by decide +kernel), List.mem_of_getElem? (i := 596) (by decide +kernel), List.mem_of_getElem? (i := 597) (by decide +kernel)⟩
theorem lw_p20 : lw_okq (⟨"PeopleTowerModel", "findLoads", "(I)V"⟩, 32) := ⟨⟨by decide +kernel, by decide +kernel⟩, List.mem_of_getElem? (i := 450) (by decide +kernel), List.mem_of_getElem? (i := 600) (by decide +kernel), List.mem_of_getElem? (i := 601) (by decide +kernel)⟩
theorem lw_p21 : lw_okq (⟨"PeopleTowerModel", "uneven", "()I"⟩, 32) := ⟨⟨by decide +kernel, by decide +kernel⟩, List.mem_of_getElem? (i := 450) (by decide +kernel), List.mem_of_getElem? (i := 604) (by decide +kernel), List.mem_of_getElem? (i := 605) (by decide +kernel)⟩
theorem lw_p22 : lw_okq (⟨"PeopleTowerModel", "hasNext", "()Z"⟩, 32) := ⟨⟨by decide +kernel, by decide +kernel⟩, List.mem_of_getElem? (i := 450) (by decide +kernel), List.mem_of_getElem? (i := 608) (by decide +kernel), List.mem_of_getElem? (i := 609) (by decide +kernel)⟩
theorem lw_p23 : lw_okq (⟨"PeopleTowerModel", "isAhead", "(I)Z"⟩, 32) := ⟨⟨by decide +kernel, by decide +kernel⟩, List.mem_of_getElem? (i := 450) (by decide +kernel), List.mem_of_getElem? (i := 612) (by decide +kernel), List.mem_of_getElem? (i := 613) (by decide +kernel)⟩
theorem lw_p24 : lw_okq (⟨"PeopleTowerModel", "isPlace", "(I)Z"⟩, 32) := ⟨⟨by decide +kernel, by decide +kernel⟩, List.mem_of_getElem? (i := 450) (by decide +kernel), List.mem_of_getElem? (i := 632) (by decide +kernel), List.mem_of_getElem? (i := 633) (by decide +kernel)⟩
theorem lw_p25 : lw_okq (⟨"PeopleTowerModel", "useHand", "()V"⟩, 32) := ⟨⟨by decide +kernel, by decide +kernel⟩, List.mem_of_getElem? (i := 450) (by decide +kernel), List.mem_of_getElem? (i := 640) (by decide +kernel), List.mem_of_getElem? (i := 641) (by decide +kernel)⟩
theorem lw_p26 : lw_okq (⟨"PeopleTowerModel", "climb", "(I)I"⟩, 32) := ⟨⟨by decide +kernel, by decide +kernel⟩, List.mem_of_getElem? (i := 450) (by decide +kernel), List.mem_of_getElem? (i := 652) (by decide +kernel), List.mem_of_getElem? (i := 653) (by decide +kernel)⟩
theorem lw_p27 : lw_okq (⟨"PeopleTowerModel", "findTimes", "()I"⟩, 32) := ⟨⟨by decide +kernel, by decide +kernel⟩, List.mem_of_getElem? (i := 450) (by decide +kernel), List.mem_of_getElem? (i := 656) (by decide +kernel), List.mem_of_getElem? (i := 657) (by decide +kernel)⟩
def lw_privs_2 : List (MethodName × Nat) := [(⟨"PeopleTowerModel", "sum", "(I)I"⟩, 32), (⟨"PeopleTowerModel", "isPerson", "(I)Z"⟩, 32), (⟨"PeopleTowerModel", "findPlacings", "()V"⟩, 32), (⟨"PeopleTowerModel", "fitsSo", "()I"⟩, 32), (⟨"PeopleTowerModel", "findLoads", "(I)V"⟩, 32), (⟨"PeopleTowerModel", "uneven", "()I"⟩, 32), (⟨"PeopleTowerModel", "hasNext", "()Z"⟩, 32), (⟨"PeopleTowerModel", "isAhead", "(I)Z"⟩, 32), (⟨"PeopleTowerModel", "isPlace", "(I)Z"⟩, 32), (⟨"PeopleTowerModel", "useHand", "()V"⟩, 32), (⟨"PeopleTowerModel", "climb", "(I)I"⟩, 32), (⟨"PeopleTowerModel", "findTimes", "()I"⟩, 32)]
theorem lw_r2 : ∀ q ∈ lw_privs_2, lw_okq q := List.forall_mem_cons.mpr ⟨lw_p16, List.forall_mem_cons.mpr ⟨lw_p17, List.forall_mem_cons.mpr ⟨lw_p18, List.forall_mem_cons.mpr ⟨lw_p19, List.forall_mem_cons.mpr ⟨lw_p20, List.forall_mem_cons.mpr ⟨lw_p21, List.forall_mem_cons.mpr ⟨lw_p22, List.forall_mem_cons.mpr ⟨lw_p23, List.forall_mem_cons.mpr ⟨lw_p24, List.forall_mem_cons.mpr ⟨lw_p25, List.forall_mem_cons.mpr ⟨lw_p26, List.forall_mem_cons.mpr ⟨lw_p27, fun _ h => absurd h List.not_mem_nil⟩⟩⟩⟩⟩⟩⟩⟩⟩⟩⟩⟩
def lw_privs : List (MethodName × Nat) := lw_privs_1 ++ (lw_privs_2)
def lw_tbl : List Cond := k2_sels lw_privs ++ tables_1
theorem lw_privs_ok : ∀ q ∈ lw_privs, lw_okq q := by
  show ∀ q ∈ lw_privs_1 ++ (lw_privs_2), lw_okq q
  exact List.forall_mem_append.mpr ⟨lw_r1, lw_r2⟩

/-! ===== BEGIN words of one list among another's, by their places ===== -/
theorem goodIn_r {big : List Cond} (ws : List Cond) (ps : List Nat) (hp : ws = ps.filterMap (fun i => big[i]?)) (h : ws.all goodWord = true) : GoodIn big ws := by
  intro w hw
  have h1 := List.all_eq_true.mp h w hw
  rw [hp] at hw
  obtain ⟨i, -, hi⟩ := List.mem_filterMap.mp hw
  have hm : w ∈ big := by first | exact List.mem_of_getElem? hi | exact List.getElem?_mem hi
  exact ⟨hm, good_of_word h1⟩
theorem goodIn_app {big a b : List Cond} (ha : GoodIn big a) (hb : GoodIn big b) : GoodIn big (a ++ b) := fun w h => (List.mem_append.mp h).elim (ha w) (hb w)
theorem goodIn_ca {big a b : List Cond} {c : Cond} (ha : GoodIn big (c :: a)) (hb : GoodIn big b) : GoodIn big (c :: (a ++ b)) := fun w h => (List.mem_cons.mp h).elim (fun e => ha w (List.mem_cons.mpr (Or.inl e))) (fun h => (List.mem_append.mp h).elim (fun h => ha w (List.mem_cons.mpr (Or.inr h))) (hb w))
theorem goodIn_sub {big ws : List Cond} (hm : ∀ w ∈ ws, w ∈ big) (h : ws.all goodWord = true) : GoodIn big ws := fun w hw => ⟨hm w hw, good_of_word (List.all_eq_true.mp h w hw)⟩
/-! ===== END ===== -/

/-! ===== BEGIN new T[n][m]: the outer array a place, the inner ones among the pooled ===== -/
/-- f, but v at every address of l -/
def vr_up {α : Type} (f : Nat → α) (l : List Nat) (v : α) : Nat → α := fun a => if a ∈ l then v else f a
theorem vr_up_in {α : Type} {f : Nat → α} {l : List Nat} {v : α} {a : Nat} (h : a ∈ l) : vr_up f l v a = v := if_pos h
theorem vr_up_ne {α : Type} {f : Nat → α} {l : List Nat} {v : α} {a : Nat} (h : a ∉ l) : vr_up f l v a = f a := if_neg h
theorem vr_rows {L l : List Nat} {f : Nat → va_E} {e : va_E} (h : ∀ a, a ∈ l → a ∉ L) : va_pl L f ++ l.map (fun a => (a, e)) = va_pl (L ++ l) (vr_up f l e) := by
  unfold va_pl
  rw [List.map_append]
  congr 1
  · apply List.map_congr_left
    intro a ha
    rw [vr_up_ne (fun q => h a q ha)]
  · apply List.map_congr_left
    intro a ha
    rw [vr_up_in ha]
theorem vr_lay {X rows : va_W} {x : Nat × va_E} {pl : va_W} {D : va_G} {cl : List vw_C} {H : Heap} (hP : va_P D cl (((X ++ pl) ++ [x]) ++ rows) H) : va_P D cl ((X ++ [x]) ++ (pl ++ rows)) H := by
  rw [List.append_assoc (X ++ pl)] at hP
  have h := va_P.swap hP
  rw [← List.append_assoc X] at h
  have h2 := va_P.swap h
  rw [List.append_assoc (X ++ [x])] at h2
  exact h2
theorem vr_layD {X rows : va_W} {x : Nat × va_E} {pl : va_W} {A : Nat → Prop} (hD : va_D A (((X ++ pl) ++ [x]) ++ rows)) : va_D A ((X ++ [x]) ++ (pl ++ rows)) := by
  rw [List.append_assoc (X ++ pl)] at hD
  have h := va_D.swap hD
  rw [← List.append_assoc X] at h
  have h2 := va_D.swap h
  rw [List.append_assoc (X ++ [x])] at h2
  exact h2
theorem vr_outer (c : ClassId) (N h0 : Nat) : ∀ i : Nat, Jvm.Free.Multi.outerC c N h0 i = arrV c N (fun j => va_rf (if j < i then some (h0 + 1 + j) else none))
  | 0 => by
    show ({ cls := c, slots := Array.replicate N .null, vm := .none } : Cell) = _
    rw [arrV_new]
    refine congrArg (arrV c N) (funext fun j => ?_)
    simp [va_rf]
  | i + 1 => by
    show (Jvm.Free.Multi.outerC c N h0 i).setSlot i (.ref (h0 + 1 + i)) = _
    rw [vr_outer c N h0 i, arrV_store]
    refine congrArg (arrV c N) (funext fun j => ?_)
    by_cases e : j = i
    · subst e
      simp [updV, va_rf]
    · by_cases h : j < i
      · simp [updV, e, h, Nat.lt_succ_of_lt h]
      · simp [updV, e, h, show ¬ j < i + 1 by omega]
section VGM
variable {p : Program} {l : Launch} {e : Env} {R : Room} {s : State} {m : MethodId} {args : Array Value} {below : List Frame} {meth : Method} {c : Code} {H : Heap} {locs : List Loc} {cells slots : Nat} {Q : State → Prop}
variable {cc : ByteArray} {pc : Nat} {ls : Array Slot} {rest : List Value} {D : va_G} {cl : List vw_C} {A : Nat → Prop} {a : Nat} {tys : List (ClassId × FieldType)} {ws : va_W} {H0 : Heap}
theorem va_mna {X : va_W} {L : List Nat} {f : Nat → va_E} {cc : ByteArray} (hexec : p.tables.exec = Jvm.exec) (hb : c.code = cc) {own : String} {index : Nat} {ty : FieldType} {cy : ClassId} (hown : s.vm.findClass own = some m.cls) (hclink : (Cond.classLink own index ("[" ++ (FieldType.array ty).toString)).before args s = true) (hover : (Cond.arrayOver (.array ty)).before args s = true) (harr : (Cond.arrayClass ty).before args s = true) (hcy : s.vm.findClass (FieldType.array ty).toString = some cy)
    (hK : va_K D cl tys s) (hP : va_P D cl (X ++ va_pl L f) H) (hD : va_D A (X ++ va_pl L f)) (hS : va_S A H0 H locs) (hA : ∀ q, H0.size ≤ q → A q) {n k : Int32} {N' K' : Nat} {z : vp_A} (hn : ¬ n < 0) (hk : ¬ k < 0) (hN : n.toNatClampNeg = N') (hM : k.toNatClampNeg = K')
    (hb1 : N' * 4 ≤ 536870912) (hb2 : K' * componentBytes ty ≤ 536870912) (hb3 : K' ≤ 536870912) (hdf : fits ty (defaultValue ty) = true) (hdd : (defaultValue ty).isDefault = true) (hcells : cells + (1 + N') ≤ R.cells) (hslots : slots + (N' + N' * K') ≤ R.slots) (hz : ∀ c : ClassId, Jvm.Free.Multi.innerC c K' (defaultValue ty) = vp_cell c z) (hdg : decode cc pc = .ok (.multianewarray index 2, 4))
    (kk : ∀ (q : Nat) (r : Nat → Nat) (cA : ClassId) (H1 : Heap), (∀ i j : Nat, i < N' → j < N' → r i = r j → i = j) → (∀ i : Nat, i < N' → r i ∉ L) → va_K D cl (tys ++ [(cA, .array ty)]) s →
      va_P D cl ((X ++ [(q, .inl (cA, N', .inr (.inr (.inr (.inr (fun i => if i < N' then some (r i) else none))))))]) ++ va_pl (L ++ (List.range N').map r) (vr_up f ((List.range N').map r) (.inl (cy, z)))) H1 → va_D A ((X ++ [(q, .inl (cA, N', .inr (.inr (.inr (.inr (fun i => if i < N' then some (r i) else none))))))]) ++ va_pl (L ++ (List.range N').map r) (vr_up f ((List.range N').map r) (.inl (cy, z)))) → va_S A H0 H1 locs →
      W p l e R s m args below meth c H1 locs (cells + 1 + N') (slots + N' + N' * K') Q (F0 m (pc + 4) ls (.ref q :: rest))) : W p l e R s m args below meth c H locs cells slots Q (F0 m pc ls (.int k :: .int n :: rest)) := by
  subst hN
  subst hM
  intro T hT Xs
  obtain ⟨vm₁, cA, comp, -, fA, fC, hO, -, X', step⟩ := Xs.multianewarray2F hexec hown hclink hover harr (g := F0 m pc ls (.int k :: .int n :: rest)) rfl (by rw [hb]; exact hdg) rfl hn hk hb1 hb2 hb3 hdf hdd hcells hslots
  have ec : some cy = some comp := hcy.symm.trans fC
  cases ec
  generalize hF : Jvm.Free.Multi.fill (T.setVm vm₁) cA cy n.toNatClampNeg k.toNatClampNeg (defaultValue ty) n.toNatClampNeg = F at X' step
  have hTh : (T.setVm vm₁).heap = H := hT
  obtain ⟨f1, f2, -, -⟩ := Jvm.Free.Multi.fill_facts (T.setVm vm₁) cA cy n.toNatClampNeg k.toNatClampNeg (defaultValue ty) n.toNatClampNeg
  rw [hF, hTh] at f1 f2
  have hold : ∀ x : Nat, x < H.size → F.heap[x]? = H[x]? := fun x hx => by
    have := Jvm.Free.Multi.fill_old (T.setVm vm₁) cA cy n.toNatClampNeg k.toNatClampNeg (defaultValue ty) (a := x) (by rw [hTh]; exact hx) n.toNatClampNeg
    rw [hF, hTh] at this
    exact this
  have hrow : ∀ j : Nat, j < n.toNatClampNeg → F.heap[H.size + 1 + j]? = some (vp_cell cy z) := fun j hj => by
    have := Jvm.Free.Multi.fill_inner (T.setVm vm₁) cA cy n.toNatClampNeg k.toNatClampNeg (defaultValue ty) n.toNatClampNeg j hj
    rw [hF, hTh, hz] at this
    exact this
  have hout : Jvm.Free.Multi.outerC cA n.toNatClampNeg H.size n.toNatClampNeg = vp_cell cA (n.toNatClampNeg, .inr (.inr (.inr (.inr (fun i => if i < n.toNatClampNeg then some (H.size + 1 + i) else none))))) := by
    rw [vp_cell_q]
    exact vr_outer cA n.toNatClampNeg H.size n.toNatClampNeg
  rw [hout] at f2
  have hlt : ∀ a, a ∈ L → a < H.size := fun a ha => by
    obtain ⟨k9, hk9⟩ := va_pl_get (X := X) (f := f) ha
    exact (hP k9 _ hk9).lt
  have hnl : ∀ i : Nat, i < n.toNatClampNeg → H.size + 1 + i ∉ L := fun i _ h => by
    have := hlt _ h
    omega
  have hnm : ∀ a, a ∈ (List.range n.toNatClampNeg).map (fun i => H.size + 1 + i) → a ∉ L := fun a ha h => by
    obtain ⟨i, -, rfl⟩ := List.mem_map.mp ha
    have := hlt _ h
    omega
  have hP0 : va_P D cl (X ++ va_pl L f) F.heap := hP.kept (fun k9 x hx => hold x.1 ((hP k9 x hx).lt))
  have hP1 : va_P D cl ((X ++ va_pl L f) ++ [(H.size, .inl (cA, n.toNatClampNeg, .inr (.inr (.inr (.inr (fun i => if i < n.toNatClampNeg then some (H.size + 1 + i) else none))))))]) F.heap := hP0.app (fun k9 x hx => by
    have h0 : k9 < 1 := (List.getElem?_eq_some_iff.mp hx).1
    rw [show k9 = 0 by omega] at hx
    cases hx
    exact f2)
  have hP2 : va_P D cl (((X ++ va_pl L f) ++ [(H.size, .inl (cA, n.toNatClampNeg, .inr (.inr (.inr (.inr (fun i => if i < n.toNatClampNeg then some (H.size + 1 + i) else none))))))]) ++ ((List.range n.toNatClampNeg).map (fun i => H.size + 1 + i)).map (fun a => (a, .inl (cy, z)))) F.heap := hP1.app (fun k9 x hx => by
    obtain ⟨a, ha, rfl⟩ := List.mem_map.mp (List.mem_of_getElem? hx)
    obtain ⟨i, hi, rfl⟩ := List.mem_map.mp ha
    exact hrow i (List.mem_range.mp hi))
  have hD2 : va_D A (((X ++ va_pl L f) ++ [(H.size, .inl (cA, n.toNatClampNeg, .inr (.inr (.inr (.inr (fun i => if i < n.toNatClampNeg then some (H.size + 1 + i) else none))))))]) ++ ((List.range n.toNatClampNeg).map (fun i => H.size + 1 + i)).map (fun a => (a, .inl (cy, z)))) := by
    have hD1 := hD.push (e := .inl (cA, n.toNatClampNeg, .inr (.inr (.inr (.inr (fun i => if i < n.toNatClampNeg then some (H.size + 1 + i) else none)))))) hP rfl (hA _ hS.1)
    generalize hW1 : (X ++ va_pl L f) ++ [(H.size, .inl (cA, n.toNatClampNeg, .inr (.inr (.inr (.inr (fun i => if i < n.toNatClampNeg then some (H.size + 1 + i) else none))))))] = W1 at hD1 hP1 ⊢
    have hle : ∀ (k9 : Nat) (x : Nat × va_E), W1[k9]? = some x → x.1 ≤ H.size := fun k9 x hx => by
      rw [← hW1] at hx
      by_cases hl : k9 < (X ++ va_pl L f).length
      · rw [List.getElem?_append_left hl] at hx
        exact Nat.le_of_lt ((hP k9 x hx).lt)
      · rw [List.getElem?_append_right (by omega)] at hx
        have h0 : k9 - (X ++ va_pl L f).length < 1 := (List.getElem?_eq_some_iff.mp hx).1
        rw [show k9 - (X ++ va_pl L f).length = 0 by omega] at hx
        cases hx
        exact Nat.le_refl _
    have hr : ∀ (k9 : Nat) (x : Nat × va_E), (((List.range n.toNatClampNeg).map (fun i => H.size + 1 + i)).map (fun a => ((a, .inl (cy, z)) : Nat × va_E)))[k9]? = some x → x.1 = H.size + 1 + k9 := fun k9 x hx => by
      rw [List.getElem?_map, List.getElem?_map] at hx
      by_cases h9 : k9 < n.toNatClampNeg
      · rw [List.getElem?_range h9] at hx
        cases hx
        rfl
      · have hn0 : (List.range n.toNatClampNeg)[k9]? = none := List.getElem?_eq_none (by rw [List.length_range]; omega)
        rw [hn0] at hx
        cases hx
    refine ⟨fun i j x y hi hj hxy => ?_, fun k9 x hx => ?_⟩
    · by_cases h1 : i < W1.length <;> by_cases h2 : j < W1.length
      · rw [List.getElem?_append_left h1] at hi
        rw [List.getElem?_append_left h2] at hj
        exact hD1.1 i j x y hi hj hxy
      · rw [List.getElem?_append_left h1] at hi
        rw [List.getElem?_append_right (by omega)] at hj
        have := hle _ _ hi
        have := hr _ _ hj
        omega
      · rw [List.getElem?_append_right (by omega)] at hi
        rw [List.getElem?_append_left h2] at hj
        have := hle _ _ hj
        have := hr _ _ hi
        omega
      · rw [List.getElem?_append_right (by omega)] at hi hj
        have := hr _ _ hi
        have := hr _ _ hj
        omega
    · by_cases h1 : k9 < W1.length
      · rw [List.getElem?_append_left h1] at hx
        exact hD1.2 k9 x hx
      · rw [List.getElem?_append_right (by omega)] at hx
        have := hr _ _ hx
        exact hA _ (by have := hS.1; omega)
  have hAr : ArrOfT s cA (.array ty) := fun N9 z9 => by
    obtain ⟨-, k9, hk9, cm9, hkk9⟩ := (hO 0 0 0).1
    exact ⟨(fun q hq => by cases hq), k9, hk9, cm9, hkk9⟩
  have hK2 : va_K D cl (tys ++ [(cA, .array ty)]) s := ⟨hK.1, fun k9 x hx => by
    by_cases hl : k9 < tys.length
    · rw [List.getElem?_append_left hl] at hx
      exact hK.2 k9 x hx
    · rw [List.getElem?_append_right (by omega)] at hx
      have h0 : k9 - tys.length < 1 := (List.getElem?_eq_some_iff.mp hx).1
      rw [show k9 - tys.length = 0 by omega] at hx
      cases hx
      exact ⟨hAr, fA⟩⟩
  obtain ⟨t, a1, b1⟩ := kk H.size (fun i => H.size + 1 + i) cA F.heap (fun i j _ _ h => by have h9 : H.size + 1 + i = H.size + 1 + j := h; omega) hnl hK2 (by rw [← vr_rows hnm]; exact vr_lay hP2) (by rw [← vr_rows hnm]; exact vr_layD hD2) ⟨by rw [f1]; have := hS.1; omega, fun x h1 h2 => (hold x (Nat.lt_of_lt_of_le h1 hS.1)).trans (hS.2.1 x h1 h2), hS.2.2⟩ F rfl X'
  refine ⟨t, step t ?_, b1⟩
  have e : T.heap.size = H.size := by rw [hT]
  rw [e]
  exact a1
end VGM
/-! ===== END ===== -/


def RX0 : String := "PeopleTower$Climb"
def TX0 : u_T := fun k => match k with
  | 0 => ("PeopleTower$Climb", "tower", "LPeopleTower$Tower;", true)
  | 1 => ("PeopleTower$Climb", "people", "LPeopleTower$People;", true)
  | 2 => ("PeopleTower$Climb", "rules", "LPeopleTower$Rules;", true)
  | 3 => ("PeopleTower$Climb", "strains", "[I", true)
  | 4 => ("PeopleTower$Climb", "efforts", "[I", true)
  | 5 => ("PeopleTower$Climb", "fall", "I", false)
  | _ => ("PeopleTower$Climb", "weakest", "I", false)
def tyX0 : Nat → FieldType := fun k => match k with
  | 0 => .object "PeopleTower$Tower"
  | 1 => .object "PeopleTower$People"
  | 2 => .object "PeopleTower$Rules"
  | 3 => .array .int
  | 4 => .array .int
  | 5 => .int
  | _ => .int
abbrev wsX00 : List Cond := u_ws RX0 TX0 7
theorem nmX0 : ∀ a, a < 7 → ∀ b, b < 7 → a ≠ b → (TX0 a).2.1 ≠ (TX0 b).2.1 := by decide +kernel
theorem tyX0_ok : ∀ k, k < 7 → parseFieldDescriptor (TX0 k).2.2.1 = some (tyX0 k) := by decide +kernel
abbrev cX0_init : ByteArray := prog_2_method_1_code
def yX0_init : MethodName := ⟨RX0, "<init>", "(LPeopleTower$Tower;LPeopleTower$People;LPeopleTower$Rules;)V"⟩
abbrev cX0_crowned : ByteArray := prog_2_method_2_code
def yX0_crowned : MethodName := ⟨RX0, "crowned", "()I"⟩
abbrev cX0_run : ByteArray := prog_2_method_3_code
def yX0_run : MethodName := ⟨RX0, "run", "([II)V"⟩
abbrev cX0_ticksFor : ByteArray := prog_2_method_4_code
def yX0_ticksFor : MethodName := ⟨RX0, "ticksFor", "(I)I"⟩
abbrev cX0_pass : ByteArray := prog_2_method_5_code
def yX0_pass : MethodName := ⟨RX0, "pass", "([IIIII)I"⟩
abbrev cX0_tire : ByteArray := prog_2_method_6_code
def yX0_tire : MethodName := ⟨RX0, "tire", "([II)V"⟩
def RX1 : String := "PeopleTower$People"
def TX1 : u_T := fun k => match k with
  | 0 => ("PeopleTower$People", "heights", "[I", true)
  | 1 => ("PeopleTower$People", "weights", "[I", true)
  | 2 => ("PeopleTower$People", "bearings", "[I", true)
  | 3 => ("PeopleTower$People", "fears", "[I", true)
  | 4 => ("PeopleTower$People", "staminas", "[I", true)
  | 5 => ("PeopleTower$People", "isOut", "[Z", true)
  | _ => ("PeopleTower$People", "size", "I", false)
def tyX1 : Nat → FieldType := fun k => match k with
  | 0 => .array .int
  | 1 => .array .int
  | 2 => .array .int
  | 3 => .array .int
  | 4 => .array .int
  | 5 => .array .boolean
  | _ => .int
abbrev wsX10 : List Cond := u_ws RX1 TX1 7
theorem nmX1 : ∀ a, a < 7 → ∀ b, b < 7 → a ≠ b → (TX1 a).2.1 ≠ (TX1 b).2.1 := by decide +kernel
theorem tyX1_ok : ∀ k, k < 7 → parseFieldDescriptor (TX1 k).2.2.1 = some (tyX1 k) := by decide +kernel
abbrev cX1_init : ByteArray := prog_3_method_1_code
def yX1_init : MethodName := ⟨RX1, "<init>", "()V"⟩
abbrev cX1_add : ByteArray := prog_3_method_2_code
def yX1_add : MethodName := ⟨RX1, "add", "(IIIII)I"⟩
abbrev cX1_countOut : ByteArray := prog_3_method_3_code
def yX1_countOut : MethodName := ⟨RX1, "countOut", "()I"⟩
def RX2 : String := "PeopleTower$Rules"
def TX2 : u_T := fun k => match k with
  | 0 => ("PeopleTower$Rules", "tower", "LPeopleTower$Tower;", true)
  | 1 => ("PeopleTower$Rules", "people", "LPeopleTower$People;", true)
  | _ => ("PeopleTower$Rules", "play", "I", false)
def tyX2 : Nat → FieldType := fun k => match k with
  | 0 => .object "PeopleTower$Tower"
  | 1 => .object "PeopleTower$People"
  | _ => .int
abbrev wsX20 : List Cond := u_ws RX2 TX2 3
theorem nmX2 : ∀ a, a < 3 → ∀ b, b < 3 → a ≠ b → (TX2 a).2.1 ≠ (TX2 b).2.1 := by decide +kernel
theorem tyX2_ok : ∀ k, k < 3 → parseFieldDescriptor (TX2 k).2.2.1 = some (tyX2 k) := by decide +kernel
abbrev cX2_init : ByteArray := prog_4_method_1_code
def yX2_init : MethodName := ⟨RX2, "<init>", "(LPeopleTower$Tower;LPeopleTower$People;)V"⟩
abbrev cX2_goesTo : ByteArray := prog_4_method_2_code
def yX2_goesTo : MethodName := ⟨RX2, "goesTo", "(II)Z"⟩
abbrev cX2_mostLoad : ByteArray := prog_4_method_3_code
def yX2_mostLoad : MethodName := ⟨RX2, "mostLoad", "(I)I"⟩
abbrev cX2_loadOn : ByteArray := prog_4_method_4_code
def yX2_loadOn : MethodName := ⟨RX2, "loadOn", "([III)I"⟩
abbrev cX2_admit : ByteArray := prog_4_method_5_code
def yX2_admit : MethodName := ⟨RX2, "admit", "([I)Z"⟩
abbrev cX2_spread : ByteArray := prog_4_method_6_code
def yX2_spread : MethodName := ⟨RX2, "spread", "([II)I"⟩
def RX3 : String := "PeopleTower$Search"
def TX3 : u_T := fun k => match k with
  | 0 => ("PeopleTower$Search", "tower", "LPeopleTower$Tower;", true)
  | 1 => ("PeopleTower$Search", "people", "LPeopleTower$People;", true)
  | 2 => ("PeopleTower$Search", "rules", "LPeopleTower$Rules;", true)
  | 3 => ("PeopleTower$Search", "who", "[I", true)
  | 4 => ("PeopleTower$Search", "loads", "[[I", true)
  | 5 => ("PeopleTower$Search", "mostLoads", "[I", true)
  | 6 => ("PeopleTower$Search", "used", "[Z", true)
  | 7 => ("PeopleTower$Search", "near", "[I", true)
  | 8 => ("PeopleTower$Search", "best", "[I", true)
  | 9 => ("PeopleTower$Search", "counting", "Z", false)
  | 10 => ("PeopleTower$Search", "moveCost", "I", false)
  | 11 => ("PeopleTower$Search", "bound", "I", false)
  | _ => ("PeopleTower$Search", "found", "I", false)
def tyX3 : Nat → FieldType := fun k => match k with
  | 0 => .object "PeopleTower$Tower"
  | 1 => .object "PeopleTower$People"
  | 2 => .object "PeopleTower$Rules"
  | 3 => .array .int
  | 4 => .array (.array .int)
  | 5 => .array .int
  | 6 => .array .boolean
  | 7 => .array .int
  | 8 => .array .int
  | 9 => .boolean
  | 10 => .int
  | 11 => .int
  | _ => .int
abbrev wsX30 : List Cond := u_ws RX3 TX3 13
theorem nmX3 : ∀ a, a < 13 → ∀ b, b < 13 → a ≠ b → (TX3 a).2.1 ≠ (TX3 b).2.1 := by decide +kernel
theorem tyX3_ok : ∀ k, k < 13 → parseFieldDescriptor (TX3 k).2.2.1 = some (tyX3 k) := by decide +kernel
abbrev cX3_init : ByteArray := prog_5_method_1_code
def yX3_init : MethodName := ⟨RX3, "<init>", "(LPeopleTower$Tower;LPeopleTower$People;LPeopleTower$Rules;)V"⟩
abbrev cX3_countFitting : ByteArray := prog_5_method_2_code
def yX3_countFitting : MethodName := ⟨RX3, "countFitting", "()I"⟩
abbrev cX3_seekLevel : ByteArray := prog_5_method_3_code
def yX3_seekLevel : MethodName := ⟨RX3, "seekLevel", "()Z"⟩
abbrev cX3_seekClose : ByteArray := prog_5_method_4_code
def yX3_seekClose : MethodName := ⟨RX3, "seekClose", "([I)Z"⟩
abbrev cX3_uneven : ByteArray := prog_5_method_5_code
def yX3_uneven : MethodName := ⟨RX3, "uneven", "()I"⟩
abbrev cX3_moves : ByteArray := prog_5_method_6_code
def yX3_moves : MethodName := ⟨RX3, "moves", "()I"⟩
abbrev cX3_start : ByteArray := prog_5_method_7_code
def yX3_start : MethodName := ⟨RX3, "start", "(ZI)V"⟩
abbrev cX3_walk : ByteArray := prog_5_method_8_code
def yX3_walk : MethodName := ⟨RX3, "walk", "(IIII)V"⟩
abbrev cX3_goOnWith : ByteArray := prog_5_method_9_code
def yX3_goOnWith : MethodName := ⟨RX3, "goOnWith", "(IIIII)V"⟩
abbrev cX3_bearsAlso : ByteArray := prog_5_method_10_code
def yX3_bearsAlso : MethodName := ⟨RX3, "bearsAlso", "(II)Z"⟩
abbrev cX3_arrive : ByteArray := prog_5_method_11_code
def yX3_arrive : MethodName := ⟨RX3, "arrive", "(I)V"⟩
def RX4 : String := "PeopleTower$Tower"
def TX4 : u_T := fun k => match k with
  | 0 => ("PeopleTower$Tower", "widths", "[I", true)
  | 1 => ("PeopleTower$Tower", "firstPlace", "[I", true)
  | 2 => ("PeopleTower$Tower", "storeyOf", "[I", true)
  | 3 => ("PeopleTower$Tower", "shares", "[[I", true)
  | 4 => ("PeopleTower$Tower", "storeys", "I", false)
  | _ => ("PeopleTower$Tower", "places", "I", false)
def tyX4 : Nat → FieldType := fun k => match k with
  | 0 => .array .int
  | 1 => .array .int
  | 2 => .array .int
  | 3 => .array (.array .int)
  | 4 => .int
  | _ => .int
abbrev wsX40 : List Cond := u_ws RX4 TX4 6
theorem nmX4 : ∀ a, a < 6 → ∀ b, b < 6 → a ≠ b → (TX4 a).2.1 ≠ (TX4 b).2.1 := by decide +kernel
theorem tyX4_ok : ∀ k, k < 6 → parseFieldDescriptor (TX4 k).2.2.1 = some (tyX4 k) := by decide +kernel
abbrev cX4_init : ByteArray := prog_6_method_1_code
def yX4_init : MethodName := ⟨RX4, "<init>", "()V"⟩
abbrev cX4_placesUpTo : ByteArray := prog_6_method_2_code
def yX4_placesUpTo : MethodName := ⟨RX4, "placesUpTo", "(I)I"⟩
abbrev cX4_build : ByteArray := prog_6_method_3_code
def yX4_build : MethodName := ⟨RX4, "build", "(I)V"⟩
abbrev cX4_shareOut : ByteArray := prog_6_method_4_code
def yX4_shareOut : MethodName := ⟨RX4, "shareOut", "(III)V"⟩
abbrev cX4_restHalfOn : ByteArray := prog_6_method_5_code
def yX4_restHalfOn : MethodName := ⟨RX4, "restHalfOn", "([II)V"⟩
def RX5 : String := "PeopleTower"
def TX5 : u_T := fun k => match k with
  | 0 => ("PeopleTower", "tower", "LPeopleTower$Tower;", true)
  | 1 => ("PeopleTower", "people", "LPeopleTower$People;", true)
  | 2 => ("PeopleTower", "rules", "LPeopleTower$Rules;", true)
  | 3 => ("PeopleTower", "search", "LPeopleTower$Search;", true)
  | 4 => ("PeopleTower", "climb", "LPeopleTower$Climb;", true)
  | 5 => ("PeopleTower", "hand", "[I", true)
  | 6 => ("PeopleTower", "atHand", "Z", false)
  | 7 => ("PeopleTower", "crownWorth", "I", false)
  | 8 => ("PeopleTower", "downWorth", "I", false)
  | _ => ("PeopleTower", "points", "I", false)
def tyX5 : Nat → FieldType := fun k => match k with
  | 0 => .object "PeopleTower$Tower"
  | 1 => .object "PeopleTower$People"
  | 2 => .object "PeopleTower$Rules"
  | 3 => .object "PeopleTower$Search"
  | 4 => .object "PeopleTower$Climb"
  | 5 => .array .int
  | 6 => .boolean
  | 7 => .int
  | 8 => .int
  | _ => .int
abbrev wsX50 : List Cond := u_ws RX5 TX5 10
theorem nmX5 : ∀ a, a < 10 → ∀ b, b < 10 → a ≠ b → (TX5 a).2.1 ≠ (TX5 b).2.1 := by decide +kernel
theorem tyX5_ok : ∀ k, k < 10 → parseFieldDescriptor (TX5 k).2.2.1 = some (tyX5 k) := by decide +kernel
abbrev cX5_init : ByteArray := prog_1_method_1_code
def yX5_init : MethodName := ⟨RX5, "<init>", "()V"⟩
abbrev cX5_storeys : ByteArray := prog_1_method_2_code
def yX5_storeys : MethodName := ⟨RX5, "storeys", "(I)I"⟩
abbrev cX5_width : ByteArray := prog_1_method_3_code
def yX5_width : MethodName := ⟨RX5, "width", "(II)I"⟩
abbrev cX5_person : ByteArray := prog_1_method_4_code
def yX5_person : MethodName := ⟨RX5, "person", "(IIIII)I"⟩
abbrev cX5_out : ByteArray := prog_1_method_5_code
def yX5_out : MethodName := ⟨RX5, "out", "(IZ)I"⟩
abbrev cX5_play : ByteArray := prog_1_method_6_code
def yX5_play : MethodName := ⟨RX5, "play", "(I)I"⟩
abbrev cX5_fits : ByteArray := prog_1_method_7_code
def yX5_fits : MethodName := ⟨RX5, "fits", "()I"⟩
abbrev cX5_level : ByteArray := prog_1_method_8_code
def yX5_level : MethodName := ⟨RX5, "level", "()I"⟩
abbrev cX5_close : ByteArray := prog_1_method_9_code
def yX5_close : MethodName := ⟨RX5, "close", "()I"⟩
abbrev cX5_take : ByteArray := prog_1_method_10_code
def yX5_take : MethodName := ⟨RX5, "take", "(I)I"⟩
abbrev cX5_at : ByteArray := prog_1_method_11_code
def yX5_at : MethodName := ⟨RX5, "at", "(I)I"⟩
abbrev cX5_load : ByteArray := prog_1_method_12_code
def yX5_load : MethodName := ⟨RX5, "load", "(I)I"⟩
abbrev cX5_swap : ByteArray := prog_1_method_13_code
def yX5_swap : MethodName := ⟨RX5, "swap", "(II)I"⟩
abbrev cX5_tick : ByteArray := prog_1_method_14_code
def yX5_tick : MethodName := ⟨RX5, "tick", "(I)I"⟩
abbrev cX5_weak : ByteArray := prog_1_method_15_code
def yX5_weak : MethodName := ⟨RX5, "weak", "()I"⟩
abbrev cX5_effort : ByteArray := prog_1_method_16_code
def yX5_effort : MethodName := ⟨RX5, "effort", "(II)I"⟩
abbrev cX5_worths : ByteArray := prog_1_method_17_code
def yX5_worths : MethodName := ⟨RX5, "worths", "(II)I"⟩
abbrev cX5_attempt : ByteArray := prog_1_method_18_code
def yX5_attempt : MethodName := ⟨RX5, "attempt", "()I"⟩
abbrev cX5_count : ByteArray := prog_1_method_19_code
def yX5_count : MethodName := ⟨RX5, "count", "(I)I"⟩
abbrev cX5_within : ByteArray := prog_1_method_20_code
def yX5_within : MethodName := ⟨RX5, "within", "(III)Z"⟩
abbrev cX5_isPlace : ByteArray := prog_1_method_21_code
def yX5_isPlace : MethodName := ⟨RX5, "isPlace", "(I)Z"⟩
abbrev cX5_endPlacing : ByteArray := prog_1_method_22_code
def yX5_endPlacing : MethodName := ⟨RX5, "endPlacing", "()V"⟩
abbrev cX5_exchange : ByteArray := prog_1_method_23_code
def yX5_exchange : MethodName := ⟨RX5, "exchange", "(II)V"⟩
abbrev cX5_pointsOfTry : ByteArray := prog_1_method_24_code
def yX5_pointsOfTry : MethodName := ⟨RX5, "pointsOfTry", "()I"⟩
def RX6 : String := "PeopleTowerModel"
def TX6 : u_T := fun k => match k with
  | 0 => ("PeopleTowerModel", "h", "I", false)
  | 1 => ("PeopleTowerModel", "width", "[I", true)
  | 2 => ("PeopleTowerModel", "people", "I", false)
  | 3 => ("PeopleTowerModel", "height", "[I", true)
  | 4 => ("PeopleTowerModel", "weight", "[I", true)
  | 5 => ("PeopleTowerModel", "bears", "[I", true)
  | 6 => ("PeopleTowerModel", "fear", "[I", true)
  | 7 => ("PeopleTowerModel", "stamina", "[I", true)
  | 8 => ("PeopleTowerModel", "isOut", "[Z", true)
  | 9 => ("PeopleTowerModel", "play", "I", false)
  | 10 => ("PeopleTowerModel", "places", "I", false)
  | 11 => ("PeopleTowerModel", "storey", "[I", true)
  | 12 => ("PeopleTowerModel", "one", "[I", true)
  | 13 => ("PeopleTowerModel", "two", "[I", true)
  | 14 => ("PeopleTowerModel", "isAtHand", "Z", false)
  | 15 => ("PeopleTowerModel", "hand", "[I", true)
  | 16 => ("PeopleTowerModel", "row", "[I", true)
  | 17 => ("PeopleTowerModel", "load", "[I", true)
  | 18 => ("PeopleTowerModel", "fitting", "I", false)
  | 19 => ("PeopleTowerModel", "leastUneven", "I", false)
  | 20 => ("PeopleTowerModel", "level", "[I", true)
  | 21 => ("PeopleTowerModel", "fewest", "I", false)
  | 22 => ("PeopleTowerModel", "closeUneven", "I", false)
  | 23 => ("PeopleTowerModel", "close", "[I", true)
  | 24 => ("PeopleTowerModel", "stands", "[I", true)
  | 25 => ("PeopleTowerModel", "isOffAt", "[I", true)
  | 26 => ("PeopleTowerModel", "effort", "[I", true)
  | 27 => ("PeopleTowerModel", "fall", "I", false)
  | 28 => ("PeopleTowerModel", "weak", "I", false)
  | 29 => ("PeopleTowerModel", "crown", "I", false)
  | 30 => ("PeopleTowerModel", "down", "I", false)
  | _ => ("PeopleTowerModel", "points", "I", false)
def tyX6 : Nat → FieldType := fun k => match k with
  | 0 => .int
  | 1 => .array .int
  | 2 => .int
  | 3 => .array .int
  | 4 => .array .int
  | 5 => .array .int
  | 6 => .array .int
  | 7 => .array .int
  | 8 => .array .boolean
  | 9 => .int
  | 10 => .int
  | 11 => .array .int
  | 12 => .array .int
  | 13 => .array .int
  | 14 => .boolean
  | 15 => .array .int
  | 16 => .array .int
  | 17 => .array .int
  | 18 => .int
  | 19 => .int
  | 20 => .array .int
  | 21 => .int
  | 22 => .int
  | 23 => .array .int
  | 24 => .array .int
  | 25 => .array .int
  | 26 => .array .int
  | 27 => .int
  | 28 => .int
  | 29 => .int
  | 30 => .int
  | _ => .int
abbrev wsX60 : List Cond := u_ws RX6 TX6 32
theorem nmX6 : ∀ a, a < 32 → ∀ b, b < 32 → a ≠ b → (TX6 a).2.1 ≠ (TX6 b).2.1 := by decide +kernel
theorem tyX6_ok : ∀ k, k < 32 → parseFieldDescriptor (TX6 k).2.2.1 = some (tyX6 k) := by decide +kernel
abbrev cX6_init : ByteArray := prog_8_method_1_code
def yX6_init : MethodName := ⟨RX6, "<init>", "()V"⟩
abbrev cX6_in : ByteArray := prog_8_method_2_code
def yX6_in : MethodName := ⟨RX6, "in", "(III)Z"⟩
abbrev cX6_isPerson : ByteArray := prog_8_method_3_code
def yX6_isPerson : MethodName := ⟨RX6, "isPerson", "(I)Z"⟩
abbrev cX6_isPlace : ByteArray := prog_8_method_4_code
def yX6_isPlace : MethodName := ⟨RX6, "isPlace", "(I)Z"⟩
abbrev cX6_findPlaces : ByteArray := prog_8_method_5_code
def yX6_findPlaces : MethodName := ⟨RX6, "findPlaces", "()V"⟩
abbrev cX6_sum : ByteArray := prog_8_method_6_code
def yX6_sum : MethodName := ⟨RX6, "sum", "(I)I"⟩
abbrev cX6_storeys : ByteArray := prog_8_method_7_code
def yX6_storeys : MethodName := ⟨RX6, "storeys", "(I)I"⟩
abbrev cX6_width : ByteArray := prog_8_method_8_code
def yX6_width : MethodName := ⟨RX6, "width", "(II)I"⟩
abbrev cX6_person : ByteArray := prog_8_method_9_code
def yX6_person : MethodName := ⟨RX6, "person", "(IIIII)I"⟩
abbrev cX6_out : ByteArray := prog_8_method_10_code
def yX6_out : MethodName := ⟨RX6, "out", "(IZ)I"⟩
abbrev cX6_play : ByteArray := prog_8_method_11_code
def yX6_play : MethodName := ⟨RX6, "play", "(I)I"⟩
abbrev cX6_findLoads : ByteArray := prog_8_method_12_code
def yX6_findLoads : MethodName := ⟨RX6, "findLoads", "(I)V"⟩
abbrev cX6_uneven : ByteArray := prog_8_method_13_code
def yX6_uneven : MethodName := ⟨RX6, "uneven", "()I"⟩
abbrev cX6_fitsSo : ByteArray := prog_8_method_14_code
def yX6_fitsSo : MethodName := ⟨RX6, "fitsSo", "()I"⟩
abbrev cX6_isAhead : ByteArray := prog_8_method_15_code
def yX6_isAhead : MethodName := ⟨RX6, "isAhead", "(I)Z"⟩
abbrev cX6_hasNext : ByteArray := prog_8_method_16_code
def yX6_hasNext : MethodName := ⟨RX6, "hasNext", "()Z"⟩
abbrev cX6_findPlacings : ByteArray := prog_8_method_17_code
def yX6_findPlacings : MethodName := ⟨RX6, "findPlacings", "()V"⟩
abbrev cX6_fits : ByteArray := prog_8_method_18_code
def yX6_fits : MethodName := ⟨RX6, "fits", "()I"⟩
abbrev cX6_level : ByteArray := prog_8_method_19_code
def yX6_level : MethodName := ⟨RX6, "level", "()I"⟩
abbrev cX6_close : ByteArray := prog_8_method_20_code
def yX6_close : MethodName := ⟨RX6, "close", "()I"⟩
abbrev cX6_take : ByteArray := prog_8_method_21_code
def yX6_take : MethodName := ⟨RX6, "take", "(I)I"⟩
abbrev cX6_at : ByteArray := prog_8_method_22_code
def yX6_at : MethodName := ⟨RX6, "at", "(I)I"⟩
abbrev cX6_useHand : ByteArray := prog_8_method_23_code
def yX6_useHand : MethodName := ⟨RX6, "useHand", "()V"⟩
abbrev cX6_load : ByteArray := prog_8_method_24_code
def yX6_load : MethodName := ⟨RX6, "load", "(I)I"⟩
abbrev cX6_swap : ByteArray := prog_8_method_25_code
def yX6_swap : MethodName := ⟨RX6, "swap", "(II)I"⟩
abbrev cX6_findTimes : ByteArray := prog_8_method_26_code
def yX6_findTimes : MethodName := ⟨RX6, "findTimes", "()I"⟩
abbrev cX6_climb : ByteArray := prog_8_method_27_code
def yX6_climb : MethodName := ⟨RX6, "climb", "(I)I"⟩
abbrev cX6_tick : ByteArray := prog_8_method_28_code
def yX6_tick : MethodName := ⟨RX6, "tick", "(I)I"⟩
abbrev cX6_weak : ByteArray := prog_8_method_29_code
def yX6_weak : MethodName := ⟨RX6, "weak", "()I"⟩
abbrev cX6_effort : ByteArray := prog_8_method_30_code
def yX6_effort : MethodName := ⟨RX6, "effort", "(II)I"⟩
abbrev cX6_worths : ByteArray := prog_8_method_31_code
def yX6_worths : MethodName := ⟨RX6, "worths", "(II)I"⟩
abbrev cX6_attempt : ByteArray := prog_8_method_32_code
def yX6_attempt : MethodName := ⟨RX6, "attempt", "()I"⟩
abbrev cX6_count : ByteArray := prog_8_method_33_code
def yX6_count : MethodName := ⟨RX6, "count", "(I)I"⟩
def RJ9 : String := "java/lang/Math"
def TJ9 : u_T := fun k => match k with
  | _ => ("", "", "", false)
def tyJ9 : Nat → FieldType := fun k => match k with
  | _ => .int
abbrev wsJ90 : List Cond := u_ws RJ9 TJ9 0
theorem nmJ9 : ∀ a, a < 0 → ∀ b, b < 0 → a ≠ b → (TJ9 a).2.1 ≠ (TJ9 b).2.1 := by decide +kernel
theorem tyJ9_ok : ∀ k, k < 0 → parseFieldDescriptor (TJ9 k).2.2.1 = some (tyJ9 k) := by decide +kernel
abbrev cJ9_max_7cf53 : ByteArray := prog_9_method_65_code
def yJ9_max_7cf53 : MethodName := ⟨RJ9, "max", "(II)I"⟩
abbrev cJ9_min_7cf53 : ByteArray := prog_9_method_69_code
def yJ9_min_7cf53 : MethodName := ⟨RJ9, "min", "(II)I"⟩
def RJ10 : String := "java/lang/System"
def TJ10 : u_T := fun k => match k with
  | _ => ("", "", "", false)
def tyJ10 : Nat → FieldType := fun k => match k with
  | _ => .int
abbrev wsJ100 : List Cond := u_ws RJ10 TJ10 0
theorem nmJ10 : ∀ a, a < 0 → ∀ b, b < 0 → a ≠ b → (TJ10 a).2.1 ≠ (TJ10 b).2.1 := by decide +kernel
theorem tyJ10_ok : ∀ k, k < 0 → parseFieldDescriptor (TJ10 k).2.2.1 = some (tyJ10 k) := by decide +kernel
def RJ7 : String := "java/util/Arrays"
def TJ7 : u_T := fun k => match k with
  | _ => ("", "", "", false)
def tyJ7 : Nat → FieldType := fun k => match k with
  | _ => .int
abbrev wsJ70 : List Cond := u_ws RJ7 TJ7 0
theorem nmJ7 : ∀ a, a < 0 → ∀ b, b < 0 → a ≠ b → (TJ7 a).2.1 ≠ (TJ7 b).2.1 := by decide +kernel
theorem tyJ7_ok : ∀ k, k < 0 → parseFieldDescriptor (TJ7 k).2.2.1 = some (tyJ7 k) := by decide +kernel
abbrev cJ7_fill_53178 : ByteArray := prog_11_method_103_code
def yJ7_fill_53178 : MethodName := ⟨RJ7, "fill", "([II)V"⟩
def RL : String := "PeopleTowerLaw"
abbrev cL_law : ByteArray := code
def yL_law : MethodName := ⟨RL, "law", "([I)Z"⟩
abbrev vwCl : List vw_C := [(RX0, TX0, 7), (RX1, TX1, 7), (RX2, TX2, 3), (RX3, TX3, 13), (RX4, TX4, 6), (RX5, TX5, 10), (RX6, TX6, 32)]
end
section
theorem dX0_init_0 : decode cX0_init 0 = .ok (.aload_n 0, 1) := by decide +kernel
theorem dX0_init_1 : decode cX0_init 1 = .ok (.invokespecial 3, 3) := by decide +kernel
theorem dX0_init_4 : decode cX0_init 4 = .ok (.aload_n 0, 1) := by decide +kernel
theorem dX0_init_5 : decode cX0_init 5 = .ok (.bipush 7, 2) := by decide +kernel
theorem dX0_init_7 : decode cX0_init 7 = .ok (.newarray .int, 2) := by decide +kernel
theorem dX0_init_9 : decode cX0_init 9 = .ok (.putfield 9, 3) := by decide +kernel
theorem dX0_init_12 : decode cX0_init 12 = .ok (.aload_n 0, 1) := by decide +kernel
theorem dX0_init_13 : decode cX0_init 13 = .ok (.bipush 7, 2) := by decide +kernel
theorem dX0_init_15 : decode cX0_init 15 = .ok (.newarray .int, 2) := by decide +kernel
theorem dX0_init_17 : decode cX0_init 17 = .ok (.putfield 15, 3) := by decide +kernel
theorem dX0_init_20 : decode cX0_init 20 = .ok (.aload_n 0, 1) := by decide +kernel
theorem dX0_init_21 : decode cX0_init 21 = .ok (.iconst (-1), 1) := by decide +kernel
theorem dX0_init_22 : decode cX0_init 22 = .ok (.putfield 18, 3) := by decide +kernel
theorem dX0_init_25 : decode cX0_init 25 = .ok (.aload_n 0, 1) := by decide +kernel
theorem dX0_init_26 : decode cX0_init 26 = .ok (.iconst (-1), 1) := by decide +kernel
theorem dX0_init_27 : decode cX0_init 27 = .ok (.putfield 22, 3) := by decide +kernel
theorem dX0_init_30 : decode cX0_init 30 = .ok (.aload_n 0, 1) := by decide +kernel
theorem dX0_init_31 : decode cX0_init 31 = .ok (.aload_n 1, 1) := by decide +kernel
theorem dX0_init_32 : decode cX0_init 32 = .ok (.putfield 25, 3) := by decide +kernel
theorem dX0_init_35 : decode cX0_init 35 = .ok (.aload_n 0, 1) := by decide +kernel
theorem dX0_init_36 : decode cX0_init 36 = .ok (.aload_n 2, 1) := by decide +kernel
theorem dX0_init_37 : decode cX0_init 37 = .ok (.putfield 29, 3) := by decide +kernel
theorem dX0_init_40 : decode cX0_init 40 = .ok (.aload_n 0, 1) := by decide +kernel
theorem dX0_init_41 : decode cX0_init 41 = .ok (.aload_n 3, 1) := by decide +kernel
theorem dX0_init_42 : decode cX0_init 42 = .ok (.putfield 33, 3) := by decide +kernel
theorem dX0_init_45 : decode cX0_init 45 = .ok (.return_, 1) := by decide +kernel
theorem dX0_crowned_0 : decode cX0_crowned 0 = .ok (.iconst 0, 1) := by decide +kernel
theorem dX0_crowned_1 : decode cX0_crowned 1 = .ok (.istore_n 1, 1) := by decide +kernel
theorem dX0_crowned_2 : decode cX0_crowned 2 = .ok (.iconst 0, 1) := by decide +kernel
theorem dX0_crowned_3 : decode cX0_crowned 3 = .ok (.istore_n 2, 1) := by decide +kernel
theorem dX0_crowned_4 : decode cX0_crowned 4 = .ok (.iload_n 2, 1) := by decide +kernel
theorem dX0_crowned_5 : decode cX0_crowned 5 = .ok (.aload_n 0, 1) := by decide +kernel
theorem dX0_crowned_6 : decode cX0_crowned 6 = .ok (.getfield 25, 3) := by decide +kernel
theorem dX0_crowned_9 : decode cX0_crowned 9 = .ok (.getfield 37, 3) := by decide +kernel
theorem dX0_crowned_12 : decode cX0_crowned 12 = .ok (.if_icmp .ge 17, 3) := by decide +kernel
theorem dX0_crowned_15 : decode cX0_crowned 15 = .ok (.iload_n 1, 1) := by decide +kernel
theorem dX0_crowned_16 : decode cX0_crowned 16 = .ok (.aload_n 0, 1) := by decide +kernel
theorem dX0_crowned_17 : decode cX0_crowned 17 = .ok (.iload_n 2, 1) := by decide +kernel
theorem dX0_crowned_18 : decode cX0_crowned 18 = .ok (.invokevirtual 42, 3) := by decide +kernel
theorem dX0_crowned_21 : decode cX0_crowned 21 = .ok (.iadd, 1) := by decide +kernel
theorem dX0_crowned_22 : decode cX0_crowned 22 = .ok (.istore_n 1, 1) := by decide +kernel
theorem dX0_crowned_23 : decode cX0_crowned 23 = .ok (.iinc 2 1, 3) := by decide +kernel
theorem dX0_crowned_26 : decode cX0_crowned 26 = .ok (.goto (-22), 3) := by decide +kernel
theorem dX0_crowned_29 : decode cX0_crowned 29 = .ok (.iload_n 1, 1) := by decide +kernel
theorem dX0_crowned_30 : decode cX0_crowned 30 = .ok (.ireturn, 1) := by decide +kernel
theorem dX0_run_0 : decode cX0_run 0 = .ok (.aload_n 0, 1) := by decide +kernel
theorem dX0_run_1 : decode cX0_run 1 = .ok (.getfield 15, 3) := by decide +kernel
theorem dX0_run_4 : decode cX0_run 4 = .ok (.iconst 0, 1) := by decide +kernel
theorem dX0_run_5 : decode cX0_run 5 = .ok (.invokestatic 46, 3) := by decide +kernel
theorem dX0_run_8 : decode cX0_run 8 = .ok (.aload_n 0, 1) := by decide +kernel
theorem dX0_run_9 : decode cX0_run 9 = .ok (.iconst (-1), 1) := by decide +kernel
theorem dX0_run_10 : decode cX0_run 10 = .ok (.putfield 18, 3) := by decide +kernel
theorem dX0_run_13 : decode cX0_run 13 = .ok (.aload_n 0, 1) := by decide +kernel
theorem dX0_run_14 : decode cX0_run 14 = .ok (.iconst (-1), 1) := by decide +kernel
theorem dX0_run_15 : decode cX0_run 15 = .ok (.putfield 22, 3) := by decide +kernel
theorem dX0_run_18 : decode cX0_run 18 = .ok (.iconst 0, 1) := by decide +kernel
theorem dX0_run_19 : decode cX0_run 19 = .ok (.istore_n 3, 1) := by decide +kernel
theorem dX0_run_20 : decode cX0_run 20 = .ok (.iconst 0, 1) := by decide +kernel
theorem dX0_run_21 : decode cX0_run 21 = .ok (.istore 4, 2) := by decide +kernel
theorem dX0_run_23 : decode cX0_run 23 = .ok (.iload 4, 2) := by decide +kernel
theorem dX0_run_25 : decode cX0_run 25 = .ok (.aload_n 0, 1) := by decide +kernel
theorem dX0_run_26 : decode cX0_run 26 = .ok (.getfield 25, 3) := by decide +kernel
theorem dX0_run_29 : decode cX0_run 29 = .ok (.getfield 37, 3) := by decide +kernel
theorem dX0_run_32 : decode cX0_run 32 = .ok (.if_icmp .ge 25, 3) := by decide +kernel
theorem dX0_run_35 : decode cX0_run 35 = .ok (.aload_n 0, 1) := by decide +kernel
theorem dX0_run_36 : decode cX0_run 36 = .ok (.aload_n 1, 1) := by decide +kernel
theorem dX0_run_37 : decode cX0_run 37 = .ok (.iload 4, 2) := by decide +kernel
theorem dX0_run_39 : decode cX0_run 39 = .ok (.iload_n 3, 1) := by decide +kernel
theorem dX0_run_40 : decode cX0_run 40 = .ok (.aload_n 0, 1) := by decide +kernel
theorem dX0_run_41 : decode cX0_run 41 = .ok (.iload 4, 2) := by decide +kernel
theorem dX0_run_43 : decode cX0_run 43 = .ok (.invokevirtual 42, 3) := by decide +kernel
theorem dX0_run_46 : decode cX0_run 46 = .ok (.iload_n 2, 1) := by decide +kernel
theorem dX0_run_47 : decode cX0_run 47 = .ok (.invokevirtual 52, 3) := by decide +kernel
theorem dX0_run_50 : decode cX0_run 50 = .ok (.istore_n 3, 1) := by decide +kernel
theorem dX0_run_51 : decode cX0_run 51 = .ok (.iinc 4 1, 3) := by decide +kernel
theorem dX0_run_54 : decode cX0_run 54 = .ok (.goto (-31), 3) := by decide +kernel
theorem dX0_run_57 : decode cX0_run 57 = .ok (.aload_n 0, 1) := by decide +kernel
theorem dX0_run_58 : decode cX0_run 58 = .ok (.getfield 25, 3) := by decide +kernel
theorem dX0_run_61 : decode cX0_run 61 = .ok (.getfield 37, 3) := by decide +kernel
theorem dX0_run_64 : decode cX0_run 64 = .ok (.iconst 1, 1) := by decide +kernel
theorem dX0_run_65 : decode cX0_run 65 = .ok (.isub, 1) := by decide +kernel
theorem dX0_run_66 : decode cX0_run 66 = .ok (.istore 4, 2) := by decide +kernel
theorem dX0_run_68 : decode cX0_run 68 = .ok (.iload 4, 2) := by decide +kernel
theorem dX0_run_70 : decode cX0_run 70 = .ok (.ifCond .lt 27, 3) := by decide +kernel
theorem dX0_run_73 : decode cX0_run 73 = .ok (.aload_n 0, 1) := by decide +kernel
theorem dX0_run_74 : decode cX0_run 74 = .ok (.aload_n 1, 1) := by decide +kernel
theorem dX0_run_75 : decode cX0_run 75 = .ok (.iload 4, 2) := by decide +kernel
theorem dX0_run_77 : decode cX0_run 77 = .ok (.iconst 1, 1) := by decide +kernel
theorem dX0_run_78 : decode cX0_run 78 = .ok (.iadd, 1) := by decide +kernel
theorem dX0_run_79 : decode cX0_run 79 = .ok (.iload_n 3, 1) := by decide +kernel
theorem dX0_run_80 : decode cX0_run 80 = .ok (.aload_n 0, 1) := by decide +kernel
theorem dX0_run_81 : decode cX0_run 81 = .ok (.iload 4, 2) := by decide +kernel
theorem dX0_run_83 : decode cX0_run 83 = .ok (.invokevirtual 42, 3) := by decide +kernel
theorem dX0_run_86 : decode cX0_run 86 = .ok (.iload_n 2, 1) := by decide +kernel
theorem dX0_run_87 : decode cX0_run 87 = .ok (.invokevirtual 52, 3) := by decide +kernel
theorem dX0_run_90 : decode cX0_run 90 = .ok (.istore_n 3, 1) := by decide +kernel
theorem dX0_run_91 : decode cX0_run 91 = .ok (.iinc 4 (-1), 3) := by decide +kernel
theorem dX0_run_94 : decode cX0_run 94 = .ok (.goto (-26), 3) := by decide +kernel
theorem dX0_run_97 : decode cX0_run 97 = .ok (.return_, 1) := by decide +kernel
theorem dX0_ticksFor_0 : decode cX0_ticksFor 0 = .ok (.iconst 2, 1) := by decide +kernel
theorem dX0_ticksFor_1 : decode cX0_ticksFor 1 = .ok (.aload_n 0, 1) := by decide +kernel
theorem dX0_ticksFor_2 : decode cX0_ticksFor 2 = .ok (.getfield 25, 3) := by decide +kernel
theorem dX0_ticksFor_5 : decode cX0_ticksFor 5 = .ok (.getfield 56, 3) := by decide +kernel
theorem dX0_ticksFor_8 : decode cX0_ticksFor 8 = .ok (.iload_n 1, 1) := by decide +kernel
theorem dX0_ticksFor_9 : decode cX0_ticksFor 9 = .ok (.iaload, 1) := by decide +kernel
theorem dX0_ticksFor_10 : decode cX0_ticksFor 10 = .ok (.iadd, 1) := by decide +kernel
theorem dX0_ticksFor_11 : decode cX0_ticksFor 11 = .ok (.ireturn, 1) := by decide +kernel
theorem dX0_pass_0 : decode cX0_pass 0 = .ok (.iconst 0, 1) := by decide +kernel
theorem dX0_pass_1 : decode cX0_pass 1 = .ok (.istore 6, 2) := by decide +kernel
theorem dX0_pass_3 : decode cX0_pass 3 = .ok (.iload 6, 2) := by decide +kernel
theorem dX0_pass_5 : decode cX0_pass 5 = .ok (.aload_n 0, 1) := by decide +kernel
theorem dX0_pass_6 : decode cX0_pass 6 = .ok (.getfield 25, 3) := by decide +kernel
theorem dX0_pass_9 : decode cX0_pass 9 = .ok (.getfield 37, 3) := by decide +kernel
theorem dX0_pass_12 : decode cX0_pass 12 = .ok (.if_icmp .ge 27, 3) := by decide +kernel
theorem dX0_pass_15 : decode cX0_pass 15 = .ok (.aload_n 0, 1) := by decide +kernel
theorem dX0_pass_16 : decode cX0_pass 16 = .ok (.getfield 9, 3) := by decide +kernel
theorem dX0_pass_19 : decode cX0_pass 19 = .ok (.iload 6, 2) := by decide +kernel
theorem dX0_pass_21 : decode cX0_pass 21 = .ok (.aload_n 0, 1) := by decide +kernel
theorem dX0_pass_22 : decode cX0_pass 22 = .ok (.getfield 33, 3) := by decide +kernel
theorem dX0_pass_25 : decode cX0_pass 25 = .ok (.aload_n 1, 1) := by decide +kernel
theorem dX0_pass_26 : decode cX0_pass 26 = .ok (.iload 6, 2) := by decide +kernel
theorem dX0_pass_28 : decode cX0_pass 28 = .ok (.iload_n 2, 1) := by decide +kernel
theorem dX0_pass_29 : decode cX0_pass 29 = .ok (.invokevirtual 59, 3) := by decide +kernel
theorem dX0_pass_32 : decode cX0_pass 32 = .ok (.iastore, 1) := by decide +kernel
theorem dX0_pass_33 : decode cX0_pass 33 = .ok (.iinc 6 1, 3) := by decide +kernel
theorem dX0_pass_36 : decode cX0_pass 36 = .ok (.goto (-33), 3) := by decide +kernel
theorem dX0_pass_39 : decode cX0_pass 39 = .ok (.iload_n 3, 1) := by decide +kernel
theorem dX0_pass_40 : decode cX0_pass 40 = .ok (.iload 4, 2) := by decide +kernel
theorem dX0_pass_42 : decode cX0_pass 42 = .ok (.iadd, 1) := by decide +kernel
theorem dX0_pass_43 : decode cX0_pass 43 = .ok (.istore 6, 2) := by decide +kernel
theorem dX0_pass_45 : decode cX0_pass 45 = .ok (.iload_n 3, 1) := by decide +kernel
theorem dX0_pass_46 : decode cX0_pass 46 = .ok (.iconst 1, 1) := by decide +kernel
theorem dX0_pass_47 : decode cX0_pass 47 = .ok (.iadd, 1) := by decide +kernel
theorem dX0_pass_48 : decode cX0_pass 48 = .ok (.istore 7, 2) := by decide +kernel
theorem dX0_pass_50 : decode cX0_pass 50 = .ok (.iload 7, 2) := by decide +kernel
theorem dX0_pass_52 : decode cX0_pass 52 = .ok (.iload 6, 2) := by decide +kernel
theorem dX0_pass_54 : decode cX0_pass 54 = .ok (.if_icmp .gt 23, 3) := by decide +kernel
theorem dX0_pass_57 : decode cX0_pass 57 = .ok (.iload 7, 2) := by decide +kernel
theorem dX0_pass_59 : decode cX0_pass 59 = .ok (.iload 5, 2) := by decide +kernel
theorem dX0_pass_61 : decode cX0_pass 61 = .ok (.if_icmp .gt 16, 3) := by decide +kernel
theorem dX0_pass_64 : decode cX0_pass 64 = .ok (.aload_n 0, 1) := by decide +kernel
theorem dX0_pass_65 : decode cX0_pass 65 = .ok (.aload_n 1, 1) := by decide +kernel
theorem dX0_pass_66 : decode cX0_pass 66 = .ok (.iload 7, 2) := by decide +kernel
theorem dX0_pass_68 : decode cX0_pass 68 = .ok (.invokevirtual 65, 3) := by decide +kernel
theorem dX0_pass_71 : decode cX0_pass 71 = .ok (.iinc 7 1, 3) := by decide +kernel
theorem dX0_pass_74 : decode cX0_pass 74 = .ok (.goto (-24), 3) := by decide +kernel
theorem dX0_pass_77 : decode cX0_pass 77 = .ok (.iload 6, 2) := by decide +kernel
theorem dX0_pass_79 : decode cX0_pass 79 = .ok (.ireturn, 1) := by decide +kernel
theorem dX0_tire_0 : decode cX0_tire 0 = .ok (.iconst 0, 1) := by decide +kernel
theorem dX0_tire_1 : decode cX0_tire 1 = .ok (.istore_n 3, 1) := by decide +kernel
theorem dX0_tire_2 : decode cX0_tire 2 = .ok (.iload_n 3, 1) := by decide +kernel
theorem dX0_tire_3 : decode cX0_tire 3 = .ok (.aload_n 0, 1) := by decide +kernel
theorem dX0_tire_4 : decode cX0_tire 4 = .ok (.getfield 25, 3) := by decide +kernel
theorem dX0_tire_7 : decode cX0_tire 7 = .ok (.getfield 37, 3) := by decide +kernel
theorem dX0_tire_10 : decode cX0_tire 10 = .ok (.if_icmp .ge 65, 3) := by decide +kernel
theorem dX0_tire_13 : decode cX0_tire 13 = .ok (.aload_n 0, 1) := by decide +kernel
theorem dX0_tire_14 : decode cX0_tire 14 = .ok (.getfield 15, 3) := by decide +kernel
theorem dX0_tire_17 : decode cX0_tire 17 = .ok (.iload_n 3, 1) := by decide +kernel
theorem dX0_tire_18 : decode cX0_tire 18 = .ok (.dup2, 1) := by decide +kernel
theorem dX0_tire_19 : decode cX0_tire 19 = .ok (.iaload, 1) := by decide +kernel
theorem dX0_tire_20 : decode cX0_tire 20 = .ok (.aload_n 0, 1) := by decide +kernel
theorem dX0_tire_21 : decode cX0_tire 21 = .ok (.getfield 9, 3) := by decide +kernel
theorem dX0_tire_24 : decode cX0_tire 24 = .ok (.iload_n 3, 1) := by decide +kernel
theorem dX0_tire_25 : decode cX0_tire 25 = .ok (.iaload, 1) := by decide +kernel
theorem dX0_tire_26 : decode cX0_tire 26 = .ok (.iadd, 1) := by decide +kernel
theorem dX0_tire_27 : decode cX0_tire 27 = .ok (.iastore, 1) := by decide +kernel
theorem dX0_tire_28 : decode cX0_tire 28 = .ok (.aload_n 0, 1) := by decide +kernel
theorem dX0_tire_29 : decode cX0_tire 29 = .ok (.getfield 18, 3) := by decide +kernel
theorem dX0_tire_32 : decode cX0_tire 32 = .ok (.iconst (-1), 1) := by decide +kernel
theorem dX0_tire_33 : decode cX0_tire 33 = .ok (.if_icmp .ne 36, 3) := by decide +kernel
theorem dX0_tire_36 : decode cX0_tire 36 = .ok (.aload_n 0, 1) := by decide +kernel
theorem dX0_tire_37 : decode cX0_tire 37 = .ok (.getfield 15, 3) := by decide +kernel
theorem dX0_tire_40 : decode cX0_tire 40 = .ok (.iload_n 3, 1) := by decide +kernel
theorem dX0_tire_41 : decode cX0_tire 41 = .ok (.iaload, 1) := by decide +kernel
theorem dX0_tire_42 : decode cX0_tire 42 = .ok (.bipush 8, 2) := by decide +kernel
theorem dX0_tire_44 : decode cX0_tire 44 = .ok (.aload_n 0, 1) := by decide +kernel
theorem dX0_tire_45 : decode cX0_tire 45 = .ok (.getfield 29, 3) := by decide +kernel
theorem dX0_tire_48 : decode cX0_tire 48 = .ok (.getfield 68, 3) := by decide +kernel
theorem dX0_tire_51 : decode cX0_tire 51 = .ok (.aload_n 1, 1) := by decide +kernel
theorem dX0_tire_52 : decode cX0_tire 52 = .ok (.iload_n 3, 1) := by decide +kernel
theorem dX0_tire_53 : decode cX0_tire 53 = .ok (.iaload, 1) := by decide +kernel
theorem dX0_tire_54 : decode cX0_tire 54 = .ok (.iaload, 1) := by decide +kernel
theorem dX0_tire_55 : decode cX0_tire 55 = .ok (.imul, 1) := by decide +kernel
theorem dX0_tire_56 : decode cX0_tire 56 = .ok (.if_icmp .le 13, 3) := by decide +kernel
theorem dX0_tire_59 : decode cX0_tire 59 = .ok (.aload_n 0, 1) := by decide +kernel
theorem dX0_tire_60 : decode cX0_tire 60 = .ok (.iload_n 2, 1) := by decide +kernel
theorem dX0_tire_61 : decode cX0_tire 61 = .ok (.putfield 18, 3) := by decide +kernel
theorem dX0_tire_64 : decode cX0_tire 64 = .ok (.aload_n 0, 1) := by decide +kernel
theorem dX0_tire_65 : decode cX0_tire 65 = .ok (.iload_n 3, 1) := by decide +kernel
theorem dX0_tire_66 : decode cX0_tire 66 = .ok (.putfield 22, 3) := by decide +kernel
theorem dX0_tire_69 : decode cX0_tire 69 = .ok (.iinc 3 1, 3) := by decide +kernel
theorem dX0_tire_72 : decode cX0_tire 72 = .ok (.goto (-70), 3) := by decide +kernel
theorem dX0_tire_75 : decode cX0_tire 75 = .ok (.return_, 1) := by decide +kernel
theorem dX1_init_0 : decode cX1_init 0 = .ok (.aload_n 0, 1) := by decide +kernel
theorem dX1_init_1 : decode cX1_init 1 = .ok (.invokespecial 3, 3) := by decide +kernel
theorem dX1_init_4 : decode cX1_init 4 = .ok (.aload_n 0, 1) := by decide +kernel
theorem dX1_init_5 : decode cX1_init 5 = .ok (.bipush 8, 2) := by decide +kernel
theorem dX1_init_7 : decode cX1_init 7 = .ok (.newarray .int, 2) := by decide +kernel
theorem dX1_init_9 : decode cX1_init 9 = .ok (.putfield 9, 3) := by decide +kernel
theorem dX1_init_12 : decode cX1_init 12 = .ok (.aload_n 0, 1) := by decide +kernel
theorem dX1_init_13 : decode cX1_init 13 = .ok (.bipush 8, 2) := by decide +kernel
theorem dX1_init_15 : decode cX1_init 15 = .ok (.newarray .int, 2) := by decide +kernel
theorem dX1_init_17 : decode cX1_init 17 = .ok (.putfield 15, 3) := by decide +kernel
theorem dX1_init_20 : decode cX1_init 20 = .ok (.aload_n 0, 1) := by decide +kernel
theorem dX1_init_21 : decode cX1_init 21 = .ok (.bipush 8, 2) := by decide +kernel
theorem dX1_init_23 : decode cX1_init 23 = .ok (.newarray .int, 2) := by decide +kernel
theorem dX1_init_25 : decode cX1_init 25 = .ok (.putfield 18, 3) := by decide +kernel
theorem dX1_init_28 : decode cX1_init 28 = .ok (.aload_n 0, 1) := by decide +kernel
theorem dX1_init_29 : decode cX1_init 29 = .ok (.bipush 8, 2) := by decide +kernel
theorem dX1_init_31 : decode cX1_init 31 = .ok (.newarray .int, 2) := by decide +kernel
theorem dX1_init_33 : decode cX1_init 33 = .ok (.putfield 21, 3) := by decide +kernel
theorem dX1_init_36 : decode cX1_init 36 = .ok (.aload_n 0, 1) := by decide +kernel
theorem dX1_init_37 : decode cX1_init 37 = .ok (.bipush 8, 2) := by decide +kernel
theorem dX1_init_39 : decode cX1_init 39 = .ok (.newarray .int, 2) := by decide +kernel
theorem dX1_init_41 : decode cX1_init 41 = .ok (.putfield 24, 3) := by decide +kernel
theorem dX1_init_44 : decode cX1_init 44 = .ok (.aload_n 0, 1) := by decide +kernel
theorem dX1_init_45 : decode cX1_init 45 = .ok (.bipush 8, 2) := by decide +kernel
theorem dX1_init_47 : decode cX1_init 47 = .ok (.newarray .boolean, 2) := by decide +kernel
theorem dX1_init_49 : decode cX1_init 49 = .ok (.putfield 27, 3) := by decide +kernel
theorem dX1_init_52 : decode cX1_init 52 = .ok (.aload_n 0, 1) := by decide +kernel
theorem dX1_init_53 : decode cX1_init 53 = .ok (.iconst 0, 1) := by decide +kernel
theorem dX1_init_54 : decode cX1_init 54 = .ok (.putfield 31, 3) := by decide +kernel
theorem dX1_init_57 : decode cX1_init 57 = .ok (.return_, 1) := by decide +kernel
theorem dX1_add_0 : decode cX1_add 0 = .ok (.aload_n 0, 1) := by decide +kernel
theorem dX1_add_1 : decode cX1_add 1 = .ok (.getfield 31, 3) := by decide +kernel
theorem dX1_add_4 : decode cX1_add 4 = .ok (.bipush 8, 2) := by decide +kernel
theorem dX1_add_6 : decode cX1_add 6 = .ok (.if_icmp .lt 6, 3) := by decide +kernel
theorem dX1_add_9 : decode cX1_add 9 = .ok (.bipush (-5), 2) := by decide +kernel
theorem dX1_add_11 : decode cX1_add 11 = .ok (.ireturn, 1) := by decide +kernel
theorem dX1_add_12 : decode cX1_add 12 = .ok (.aload_n 0, 1) := by decide +kernel
theorem dX1_add_13 : decode cX1_add 13 = .ok (.getfield 9, 3) := by decide +kernel
theorem dX1_add_16 : decode cX1_add 16 = .ok (.aload_n 0, 1) := by decide +kernel
theorem dX1_add_17 : decode cX1_add 17 = .ok (.getfield 31, 3) := by decide +kernel
theorem dX1_add_20 : decode cX1_add 20 = .ok (.iload_n 1, 1) := by decide +kernel
theorem dX1_add_21 : decode cX1_add 21 = .ok (.iastore, 1) := by decide +kernel
theorem dX1_add_22 : decode cX1_add 22 = .ok (.aload_n 0, 1) := by decide +kernel
theorem dX1_add_23 : decode cX1_add 23 = .ok (.getfield 15, 3) := by decide +kernel
theorem dX1_add_26 : decode cX1_add 26 = .ok (.aload_n 0, 1) := by decide +kernel
theorem dX1_add_27 : decode cX1_add 27 = .ok (.getfield 31, 3) := by decide +kernel
theorem dX1_add_30 : decode cX1_add 30 = .ok (.iload_n 2, 1) := by decide +kernel
theorem dX1_add_31 : decode cX1_add 31 = .ok (.iastore, 1) := by decide +kernel
theorem dX1_add_32 : decode cX1_add 32 = .ok (.aload_n 0, 1) := by decide +kernel
theorem dX1_add_33 : decode cX1_add 33 = .ok (.getfield 18, 3) := by decide +kernel
theorem dX1_add_36 : decode cX1_add 36 = .ok (.aload_n 0, 1) := by decide +kernel
theorem dX1_add_37 : decode cX1_add 37 = .ok (.getfield 31, 3) := by decide +kernel
theorem dX1_add_40 : decode cX1_add 40 = .ok (.iload_n 3, 1) := by decide +kernel
theorem dX1_add_41 : decode cX1_add 41 = .ok (.iastore, 1) := by decide +kernel
theorem dX1_add_42 : decode cX1_add 42 = .ok (.aload_n 0, 1) := by decide +kernel
theorem dX1_add_43 : decode cX1_add 43 = .ok (.getfield 21, 3) := by decide +kernel
theorem dX1_add_46 : decode cX1_add 46 = .ok (.aload_n 0, 1) := by decide +kernel
theorem dX1_add_47 : decode cX1_add 47 = .ok (.getfield 31, 3) := by decide +kernel
theorem dX1_add_50 : decode cX1_add 50 = .ok (.iload 4, 2) := by decide +kernel
theorem dX1_add_52 : decode cX1_add 52 = .ok (.iastore, 1) := by decide +kernel
theorem dX1_add_53 : decode cX1_add 53 = .ok (.aload_n 0, 1) := by decide +kernel
theorem dX1_add_54 : decode cX1_add 54 = .ok (.getfield 24, 3) := by decide +kernel
theorem dX1_add_57 : decode cX1_add 57 = .ok (.aload_n 0, 1) := by decide +kernel
theorem dX1_add_58 : decode cX1_add 58 = .ok (.getfield 31, 3) := by decide +kernel
theorem dX1_add_61 : decode cX1_add 61 = .ok (.iload 5, 2) := by decide +kernel
theorem dX1_add_63 : decode cX1_add 63 = .ok (.iastore, 1) := by decide +kernel
theorem dX1_add_64 : decode cX1_add 64 = .ok (.aload_n 0, 1) := by decide +kernel
theorem dX1_add_65 : decode cX1_add 65 = .ok (.getfield 27, 3) := by decide +kernel
theorem dX1_add_68 : decode cX1_add 68 = .ok (.aload_n 0, 1) := by decide +kernel
theorem dX1_add_69 : decode cX1_add 69 = .ok (.getfield 31, 3) := by decide +kernel
theorem dX1_add_72 : decode cX1_add 72 = .ok (.iconst 0, 1) := by decide +kernel
theorem dX1_add_73 : decode cX1_add 73 = .ok (.bastore, 1) := by decide +kernel
theorem dX1_add_74 : decode cX1_add 74 = .ok (.aload_n 0, 1) := by decide +kernel
theorem dX1_add_75 : decode cX1_add 75 = .ok (.dup, 1) := by decide +kernel
theorem dX1_add_76 : decode cX1_add 76 = .ok (.getfield 31, 3) := by decide +kernel
theorem dX1_add_79 : decode cX1_add 79 = .ok (.dup_x1, 1) := by decide +kernel
theorem dX1_add_80 : decode cX1_add 80 = .ok (.iconst 1, 1) := by decide +kernel
theorem dX1_add_81 : decode cX1_add 81 = .ok (.iadd, 1) := by decide +kernel
theorem dX1_add_82 : decode cX1_add 82 = .ok (.putfield 31, 3) := by decide +kernel
theorem dX1_add_85 : decode cX1_add 85 = .ok (.ireturn, 1) := by decide +kernel
theorem dX1_countOut_0 : decode cX1_countOut 0 = .ok (.iconst 0, 1) := by decide +kernel
theorem dX1_countOut_1 : decode cX1_countOut 1 = .ok (.istore_n 1, 1) := by decide +kernel
theorem dX1_countOut_2 : decode cX1_countOut 2 = .ok (.iconst 0, 1) := by decide +kernel
theorem dX1_countOut_3 : decode cX1_countOut 3 = .ok (.istore_n 2, 1) := by decide +kernel
theorem dX1_countOut_4 : decode cX1_countOut 4 = .ok (.iload_n 2, 1) := by decide +kernel
theorem dX1_countOut_5 : decode cX1_countOut 5 = .ok (.aload_n 0, 1) := by decide +kernel
theorem dX1_countOut_6 : decode cX1_countOut 6 = .ok (.getfield 31, 3) := by decide +kernel
theorem dX1_countOut_9 : decode cX1_countOut 9 = .ok (.if_icmp .ge 26, 3) := by decide +kernel
theorem dX1_countOut_12 : decode cX1_countOut 12 = .ok (.iload_n 1, 1) := by decide +kernel
theorem dX1_countOut_13 : decode cX1_countOut 13 = .ok (.aload_n 0, 1) := by decide +kernel
theorem dX1_countOut_14 : decode cX1_countOut 14 = .ok (.getfield 27, 3) := by decide +kernel
theorem dX1_countOut_17 : decode cX1_countOut 17 = .ok (.iload_n 2, 1) := by decide +kernel
theorem dX1_countOut_18 : decode cX1_countOut 18 = .ok (.baload, 1) := by decide +kernel
theorem dX1_countOut_19 : decode cX1_countOut 19 = .ok (.ifCond .eq 7, 3) := by decide +kernel
theorem dX1_countOut_22 : decode cX1_countOut 22 = .ok (.iconst 1, 1) := by decide +kernel
theorem dX1_countOut_23 : decode cX1_countOut 23 = .ok (.goto 4, 3) := by decide +kernel
theorem dX1_countOut_26 : decode cX1_countOut 26 = .ok (.iconst 0, 1) := by decide +kernel
theorem dX1_countOut_27 : decode cX1_countOut 27 = .ok (.iadd, 1) := by decide +kernel
theorem dX1_countOut_28 : decode cX1_countOut 28 = .ok (.istore_n 1, 1) := by decide +kernel
theorem dX1_countOut_29 : decode cX1_countOut 29 = .ok (.iinc 2 1, 3) := by decide +kernel
theorem dX1_countOut_32 : decode cX1_countOut 32 = .ok (.goto (-28), 3) := by decide +kernel
theorem dX1_countOut_35 : decode cX1_countOut 35 = .ok (.iload_n 1, 1) := by decide +kernel
theorem dX1_countOut_36 : decode cX1_countOut 36 = .ok (.ireturn, 1) := by decide +kernel
theorem dX2_init_0 : decode cX2_init 0 = .ok (.aload_n 0, 1) := by decide +kernel
theorem dX2_init_1 : decode cX2_init 1 = .ok (.invokespecial 3, 3) := by decide +kernel
theorem dX2_init_4 : decode cX2_init 4 = .ok (.aload_n 0, 1) := by decide +kernel
theorem dX2_init_5 : decode cX2_init 5 = .ok (.bipush 10, 2) := by decide +kernel
theorem dX2_init_7 : decode cX2_init 7 = .ok (.putfield 9, 3) := by decide +kernel
theorem dX2_init_10 : decode cX2_init 10 = .ok (.aload_n 0, 1) := by decide +kernel
theorem dX2_init_11 : decode cX2_init 11 = .ok (.aload_n 1, 1) := by decide +kernel
theorem dX2_init_12 : decode cX2_init 12 = .ok (.putfield 15, 3) := by decide +kernel
theorem dX2_init_15 : decode cX2_init 15 = .ok (.aload_n 0, 1) := by decide +kernel
theorem dX2_init_16 : decode cX2_init 16 = .ok (.aload_n 2, 1) := by decide +kernel
theorem dX2_init_17 : decode cX2_init 17 = .ok (.putfield 19, 3) := by decide +kernel
theorem dX2_init_20 : decode cX2_init 20 = .ok (.return_, 1) := by decide +kernel
theorem dX2_goesTo_0 : decode cX2_goesTo 0 = .ok (.aload_n 0, 1) := by decide +kernel
theorem dX2_goesTo_1 : decode cX2_goesTo 1 = .ok (.getfield 19, 3) := by decide +kernel
theorem dX2_goesTo_4 : decode cX2_goesTo 4 = .ok (.getfield 23, 3) := by decide +kernel
theorem dX2_goesTo_7 : decode cX2_goesTo 7 = .ok (.iload_n 1, 1) := by decide +kernel
theorem dX2_goesTo_8 : decode cX2_goesTo 8 = .ok (.baload, 1) := by decide +kernel
theorem dX2_goesTo_9 : decode cX2_goesTo 9 = .ok (.ifCond .ne 20, 3) := by decide +kernel
theorem dX2_goesTo_12 : decode cX2_goesTo 12 = .ok (.iload_n 2, 1) := by decide +kernel
theorem dX2_goesTo_13 : decode cX2_goesTo 13 = .ok (.aload_n 0, 1) := by decide +kernel
theorem dX2_goesTo_14 : decode cX2_goesTo 14 = .ok (.getfield 19, 3) := by decide +kernel
theorem dX2_goesTo_17 : decode cX2_goesTo 17 = .ok (.getfield 29, 3) := by decide +kernel
theorem dX2_goesTo_20 : decode cX2_goesTo 20 = .ok (.iload_n 1, 1) := by decide +kernel
theorem dX2_goesTo_21 : decode cX2_goesTo 21 = .ok (.iaload, 1) := by decide +kernel
theorem dX2_goesTo_22 : decode cX2_goesTo 22 = .ok (.if_icmp .gt 7, 3) := by decide +kernel
theorem dX2_goesTo_25 : decode cX2_goesTo 25 = .ok (.iconst 1, 1) := by decide +kernel
theorem dX2_goesTo_26 : decode cX2_goesTo 26 = .ok (.goto 4, 3) := by decide +kernel
theorem dX2_goesTo_29 : decode cX2_goesTo 29 = .ok (.iconst 0, 1) := by decide +kernel
theorem dX2_goesTo_30 : decode cX2_goesTo 30 = .ok (.ireturn, 1) := by decide +kernel
theorem dX2_mostLoad_0 : decode cX2_mostLoad 0 = .ok (.bipush 8, 2) := by decide +kernel
theorem dX2_mostLoad_2 : decode cX2_mostLoad 2 = .ok (.aload_n 0, 1) := by decide +kernel
theorem dX2_mostLoad_3 : decode cX2_mostLoad 3 = .ok (.getfield 19, 3) := by decide +kernel
theorem dX2_mostLoad_6 : decode cX2_mostLoad 6 = .ok (.getfield 33, 3) := by decide +kernel
theorem dX2_mostLoad_9 : decode cX2_mostLoad 9 = .ok (.iload_n 1, 1) := by decide +kernel
theorem dX2_mostLoad_10 : decode cX2_mostLoad 10 = .ok (.iaload, 1) := by decide +kernel
theorem dX2_mostLoad_11 : decode cX2_mostLoad 11 = .ok (.imul, 1) := by decide +kernel
theorem dX2_mostLoad_12 : decode cX2_mostLoad 12 = .ok (.ireturn, 1) := by decide +kernel
theorem dX2_loadOn_0 : decode cX2_loadOn 0 = .ok (.iconst 0, 1) := by decide +kernel
theorem dX2_loadOn_1 : decode cX2_loadOn 1 = .ok (.istore 4, 2) := by decide +kernel
theorem dX2_loadOn_3 : decode cX2_loadOn 3 = .ok (.iload_n 2, 1) := by decide +kernel
theorem dX2_loadOn_4 : decode cX2_loadOn 4 = .ok (.iconst 1, 1) := by decide +kernel
theorem dX2_loadOn_5 : decode cX2_loadOn 5 = .ok (.iadd, 1) := by decide +kernel
theorem dX2_loadOn_6 : decode cX2_loadOn 6 = .ok (.istore 5, 2) := by decide +kernel
theorem dX2_loadOn_8 : decode cX2_loadOn 8 = .ok (.iload 5, 2) := by decide +kernel
theorem dX2_loadOn_10 : decode cX2_loadOn 10 = .ok (.iload_n 3, 1) := by decide +kernel
theorem dX2_loadOn_11 : decode cX2_loadOn 11 = .ok (.if_icmp .ge 39, 3) := by decide +kernel
theorem dX2_loadOn_14 : decode cX2_loadOn 14 = .ok (.iload 4, 2) := by decide +kernel
theorem dX2_loadOn_16 : decode cX2_loadOn 16 = .ok (.aload_n 0, 1) := by decide +kernel
theorem dX2_loadOn_17 : decode cX2_loadOn 17 = .ok (.getfield 15, 3) := by decide +kernel
theorem dX2_loadOn_20 : decode cX2_loadOn 20 = .ok (.getfield 36, 3) := by decide +kernel
theorem dX2_loadOn_23 : decode cX2_loadOn 23 = .ok (.iload 5, 2) := by decide +kernel
theorem dX2_loadOn_25 : decode cX2_loadOn 25 = .ok (.aaload, 1) := by decide +kernel
theorem dX2_loadOn_26 : decode cX2_loadOn 26 = .ok (.iload_n 2, 1) := by decide +kernel
theorem dX2_loadOn_27 : decode cX2_loadOn 27 = .ok (.iaload, 1) := by decide +kernel
theorem dX2_loadOn_28 : decode cX2_loadOn 28 = .ok (.aload_n 0, 1) := by decide +kernel
theorem dX2_loadOn_29 : decode cX2_loadOn 29 = .ok (.getfield 19, 3) := by decide +kernel
theorem dX2_loadOn_32 : decode cX2_loadOn 32 = .ok (.getfield 42, 3) := by decide +kernel
theorem dX2_loadOn_35 : decode cX2_loadOn 35 = .ok (.aload_n 1, 1) := by decide +kernel
theorem dX2_loadOn_36 : decode cX2_loadOn 36 = .ok (.iload 5, 2) := by decide +kernel
theorem dX2_loadOn_38 : decode cX2_loadOn 38 = .ok (.iaload, 1) := by decide +kernel
theorem dX2_loadOn_39 : decode cX2_loadOn 39 = .ok (.iaload, 1) := by decide +kernel
theorem dX2_loadOn_40 : decode cX2_loadOn 40 = .ok (.imul, 1) := by decide +kernel
theorem dX2_loadOn_41 : decode cX2_loadOn 41 = .ok (.iadd, 1) := by decide +kernel
theorem dX2_loadOn_42 : decode cX2_loadOn 42 = .ok (.istore 4, 2) := by decide +kernel
theorem dX2_loadOn_44 : decode cX2_loadOn 44 = .ok (.iinc 5 1, 3) := by decide +kernel
theorem dX2_loadOn_47 : decode cX2_loadOn 47 = .ok (.goto (-39), 3) := by decide +kernel
theorem dX2_loadOn_50 : decode cX2_loadOn 50 = .ok (.iload 4, 2) := by decide +kernel
theorem dX2_loadOn_52 : decode cX2_loadOn 52 = .ok (.ireturn, 1) := by decide +kernel
theorem dX2_admit_0 : decode cX2_admit 0 = .ok (.iconst 0, 1) := by decide +kernel
theorem dX2_admit_1 : decode cX2_admit 1 = .ok (.istore_n 2, 1) := by decide +kernel
theorem dX2_admit_2 : decode cX2_admit 2 = .ok (.iload_n 2, 1) := by decide +kernel
theorem dX2_admit_3 : decode cX2_admit 3 = .ok (.aload_n 0, 1) := by decide +kernel
theorem dX2_admit_4 : decode cX2_admit 4 = .ok (.getfield 15, 3) := by decide +kernel
theorem dX2_admit_7 : decode cX2_admit 7 = .ok (.getfield 45, 3) := by decide +kernel
theorem dX2_admit_10 : decode cX2_admit 10 = .ok (.if_icmp .ge 53, 3) := by decide +kernel
theorem dX2_admit_13 : decode cX2_admit 13 = .ok (.aload_n 1, 1) := by decide +kernel
theorem dX2_admit_14 : decode cX2_admit 14 = .ok (.iload_n 2, 1) := by decide +kernel
theorem dX2_admit_15 : decode cX2_admit 15 = .ok (.iaload, 1) := by decide +kernel
theorem dX2_admit_16 : decode cX2_admit 16 = .ok (.istore_n 3, 1) := by decide +kernel
theorem dX2_admit_17 : decode cX2_admit 17 = .ok (.aload_n 0, 1) := by decide +kernel
theorem dX2_admit_18 : decode cX2_admit 18 = .ok (.iload_n 3, 1) := by decide +kernel
theorem dX2_admit_19 : decode cX2_admit 19 = .ok (.aload_n 0, 1) := by decide +kernel
theorem dX2_admit_20 : decode cX2_admit 20 = .ok (.getfield 15, 3) := by decide +kernel
theorem dX2_admit_23 : decode cX2_admit 23 = .ok (.getfield 48, 3) := by decide +kernel
theorem dX2_admit_26 : decode cX2_admit 26 = .ok (.iload_n 2, 1) := by decide +kernel
theorem dX2_admit_27 : decode cX2_admit 27 = .ok (.iaload, 1) := by decide +kernel
theorem dX2_admit_28 : decode cX2_admit 28 = .ok (.invokevirtual 51, 3) := by decide +kernel
theorem dX2_admit_31 : decode cX2_admit 31 = .ok (.ifCond .eq 24, 3) := by decide +kernel
theorem dX2_admit_34 : decode cX2_admit 34 = .ok (.aload_n 0, 1) := by decide +kernel
theorem dX2_admit_35 : decode cX2_admit 35 = .ok (.aload_n 1, 1) := by decide +kernel
theorem dX2_admit_36 : decode cX2_admit 36 = .ok (.iload_n 2, 1) := by decide +kernel
theorem dX2_admit_37 : decode cX2_admit 37 = .ok (.aload_n 0, 1) := by decide +kernel
theorem dX2_admit_38 : decode cX2_admit 38 = .ok (.getfield 15, 3) := by decide +kernel
theorem dX2_admit_41 : decode cX2_admit 41 = .ok (.getfield 45, 3) := by decide +kernel
theorem dX2_admit_44 : decode cX2_admit 44 = .ok (.invokevirtual 55, 3) := by decide +kernel
theorem dX2_admit_47 : decode cX2_admit 47 = .ok (.aload_n 0, 1) := by decide +kernel
theorem dX2_admit_48 : decode cX2_admit 48 = .ok (.iload_n 3, 1) := by decide +kernel
theorem dX2_admit_49 : decode cX2_admit 49 = .ok (.invokevirtual 59, 3) := by decide +kernel
theorem dX2_admit_52 : decode cX2_admit 52 = .ok (.if_icmp .le 5, 3) := by decide +kernel
theorem dX2_admit_55 : decode cX2_admit 55 = .ok (.iconst 0, 1) := by decide +kernel
theorem dX2_admit_56 : decode cX2_admit 56 = .ok (.ireturn, 1) := by decide +kernel
theorem dX2_admit_57 : decode cX2_admit 57 = .ok (.iinc 2 1, 3) := by decide +kernel
theorem dX2_admit_60 : decode cX2_admit 60 = .ok (.goto (-58), 3) := by decide +kernel
theorem dX2_admit_63 : decode cX2_admit 63 = .ok (.iconst 0, 1) := by decide +kernel
theorem dX2_admit_64 : decode cX2_admit 64 = .ok (.istore_n 2, 1) := by decide +kernel
theorem dX2_admit_65 : decode cX2_admit 65 = .ok (.iload_n 2, 1) := by decide +kernel
theorem dX2_admit_66 : decode cX2_admit 66 = .ok (.aload_n 0, 1) := by decide +kernel
theorem dX2_admit_67 : decode cX2_admit 67 = .ok (.getfield 15, 3) := by decide +kernel
theorem dX2_admit_70 : decode cX2_admit 70 = .ok (.getfield 63, 3) := by decide +kernel
theorem dX2_admit_73 : decode cX2_admit 73 = .ok (.if_icmp .ge 24, 3) := by decide +kernel
theorem dX2_admit_76 : decode cX2_admit 76 = .ok (.aload_n 0, 1) := by decide +kernel
theorem dX2_admit_77 : decode cX2_admit 77 = .ok (.aload_n 1, 1) := by decide +kernel
theorem dX2_admit_78 : decode cX2_admit 78 = .ok (.iload_n 2, 1) := by decide +kernel
theorem dX2_admit_79 : decode cX2_admit 79 = .ok (.invokevirtual 66, 3) := by decide +kernel
theorem dX2_admit_82 : decode cX2_admit 82 = .ok (.aload_n 0, 1) := by decide +kernel
theorem dX2_admit_83 : decode cX2_admit 83 = .ok (.getfield 9, 3) := by decide +kernel
theorem dX2_admit_86 : decode cX2_admit 86 = .ok (.if_icmp .le 5, 3) := by decide +kernel
theorem dX2_admit_89 : decode cX2_admit 89 = .ok (.iconst 0, 1) := by decide +kernel
theorem dX2_admit_90 : decode cX2_admit 90 = .ok (.ireturn, 1) := by decide +kernel
theorem dX2_admit_91 : decode cX2_admit 91 = .ok (.iinc 2 1, 3) := by decide +kernel
theorem dX2_admit_94 : decode cX2_admit 94 = .ok (.goto (-29), 3) := by decide +kernel
theorem dX2_admit_97 : decode cX2_admit 97 = .ok (.iconst 1, 1) := by decide +kernel
theorem dX2_admit_98 : decode cX2_admit 98 = .ok (.ireturn, 1) := by decide +kernel
theorem dX2_spread_0 : decode cX2_spread 0 = .ok (.aload_n 0, 1) := by decide +kernel
theorem dX2_spread_1 : decode cX2_spread 1 = .ok (.getfield 15, 3) := by decide +kernel
theorem dX2_spread_4 : decode cX2_spread 4 = .ok (.getfield 70, 3) := by decide +kernel
theorem dX2_spread_7 : decode cX2_spread 7 = .ok (.iload_n 2, 1) := by decide +kernel
theorem dX2_spread_8 : decode cX2_spread 8 = .ok (.iaload, 1) := by decide +kernel
theorem dX2_spread_9 : decode cX2_spread 9 = .ok (.istore_n 3, 1) := by decide +kernel
theorem dX2_spread_10 : decode cX2_spread 10 = .ok (.aload_n 0, 1) := by decide +kernel
theorem dX2_spread_11 : decode cX2_spread 11 = .ok (.getfield 19, 3) := by decide +kernel
theorem dX2_spread_14 : decode cX2_spread 14 = .ok (.getfield 73, 3) := by decide +kernel
theorem dX2_spread_17 : decode cX2_spread 17 = .ok (.aload_n 1, 1) := by decide +kernel
theorem dX2_spread_18 : decode cX2_spread 18 = .ok (.iload_n 3, 1) := by decide +kernel
theorem dX2_spread_19 : decode cX2_spread 19 = .ok (.iaload, 1) := by decide +kernel
theorem dX2_spread_20 : decode cX2_spread 20 = .ok (.iaload, 1) := by decide +kernel
theorem dX2_spread_21 : decode cX2_spread 21 = .ok (.istore 4, 2) := by decide +kernel
theorem dX2_spread_23 : decode cX2_spread 23 = .ok (.iload 4, 2) := by decide +kernel
theorem dX2_spread_25 : decode cX2_spread 25 = .ok (.istore 5, 2) := by decide +kernel
theorem dX2_spread_27 : decode cX2_spread 27 = .ok (.iconst 1, 1) := by decide +kernel
theorem dX2_spread_28 : decode cX2_spread 28 = .ok (.istore 6, 2) := by decide +kernel
theorem dX2_spread_30 : decode cX2_spread 30 = .ok (.iload 6, 2) := by decide +kernel
theorem dX2_spread_32 : decode cX2_spread 32 = .ok (.aload_n 0, 1) := by decide +kernel
theorem dX2_spread_33 : decode cX2_spread 33 = .ok (.getfield 15, 3) := by decide +kernel
theorem dX2_spread_36 : decode cX2_spread 36 = .ok (.getfield 76, 3) := by decide +kernel
theorem dX2_spread_39 : decode cX2_spread 39 = .ok (.iload_n 2, 1) := by decide +kernel
theorem dX2_spread_40 : decode cX2_spread 40 = .ok (.iaload, 1) := by decide +kernel
theorem dX2_spread_41 : decode cX2_spread 41 = .ok (.if_icmp .ge 43, 3) := by decide +kernel
theorem dX2_spread_44 : decode cX2_spread 44 = .ok (.aload_n 0, 1) := by decide +kernel
theorem dX2_spread_45 : decode cX2_spread 45 = .ok (.getfield 19, 3) := by decide +kernel
theorem dX2_spread_48 : decode cX2_spread 48 = .ok (.getfield 73, 3) := by decide +kernel
theorem dX2_spread_51 : decode cX2_spread 51 = .ok (.aload_n 1, 1) := by decide +kernel
theorem dX2_spread_52 : decode cX2_spread 52 = .ok (.iload_n 3, 1) := by decide +kernel
theorem dX2_spread_53 : decode cX2_spread 53 = .ok (.iload 6, 2) := by decide +kernel
theorem dX2_spread_55 : decode cX2_spread 55 = .ok (.iadd, 1) := by decide +kernel
theorem dX2_spread_56 : decode cX2_spread 56 = .ok (.iaload, 1) := by decide +kernel
theorem dX2_spread_57 : decode cX2_spread 57 = .ok (.iaload, 1) := by decide +kernel
theorem dX2_spread_58 : decode cX2_spread 58 = .ok (.istore 7, 2) := by decide +kernel
theorem dX2_spread_60 : decode cX2_spread 60 = .ok (.iload 4, 2) := by decide +kernel
theorem dX2_spread_62 : decode cX2_spread 62 = .ok (.iload 7, 2) := by decide +kernel
theorem dX2_spread_64 : decode cX2_spread 64 = .ok (.invokestatic 79, 3) := by decide +kernel
theorem dX2_spread_67 : decode cX2_spread 67 = .ok (.istore 4, 2) := by decide +kernel
theorem dX2_spread_69 : decode cX2_spread 69 = .ok (.iload 5, 2) := by decide +kernel
theorem dX2_spread_71 : decode cX2_spread 71 = .ok (.iload 7, 2) := by decide +kernel
theorem dX2_spread_73 : decode cX2_spread 73 = .ok (.invokestatic 85, 3) := by decide +kernel
theorem dX2_spread_76 : decode cX2_spread 76 = .ok (.istore 5, 2) := by decide +kernel
theorem dX2_spread_78 : decode cX2_spread 78 = .ok (.iinc 6 1, 3) := by decide +kernel
theorem dX2_spread_81 : decode cX2_spread 81 = .ok (.goto (-51), 3) := by decide +kernel
theorem dX2_spread_84 : decode cX2_spread 84 = .ok (.iload 5, 2) := by decide +kernel
theorem dX2_spread_86 : decode cX2_spread 86 = .ok (.iload 4, 2) := by decide +kernel
theorem dX2_spread_88 : decode cX2_spread 88 = .ok (.isub, 1) := by decide +kernel
theorem dX2_spread_89 : decode cX2_spread 89 = .ok (.ireturn, 1) := by decide +kernel
theorem dX3_init_0 : decode cX3_init 0 = .ok (.aload_n 0, 1) := by decide +kernel
theorem dX3_init_1 : decode cX3_init 1 = .ok (.invokespecial 3, 3) := by decide +kernel
theorem dX3_init_4 : decode cX3_init 4 = .ok (.aload_n 0, 1) := by decide +kernel
theorem dX3_init_5 : decode cX3_init 5 = .ok (.bipush 7, 2) := by decide +kernel
theorem dX3_init_7 : decode cX3_init 7 = .ok (.newarray .int, 2) := by decide +kernel
theorem dX3_init_9 : decode cX3_init 9 = .ok (.putfield 9, 3) := by decide +kernel
theorem dX3_init_12 : decode cX3_init 12 = .ok (.aload_n 0, 1) := by decide +kernel
theorem dX3_init_13 : decode cX3_init 13 = .ok (.bipush 8, 2) := by decide +kernel
theorem dX3_init_15 : decode cX3_init 15 = .ok (.bipush 7, 2) := by decide +kernel
theorem dX3_init_17 : decode cX3_init 17 = .ok (.multianewarray 15 2, 4) := by decide +kernel
theorem dX3_init_21 : decode cX3_init 21 = .ok (.putfield 17, 3) := by decide +kernel
theorem dX3_init_24 : decode cX3_init 24 = .ok (.aload_n 0, 1) := by decide +kernel
theorem dX3_init_25 : decode cX3_init 25 = .ok (.bipush 7, 2) := by decide +kernel
theorem dX3_init_27 : decode cX3_init 27 = .ok (.newarray .int, 2) := by decide +kernel
theorem dX3_init_29 : decode cX3_init 29 = .ok (.putfield 20, 3) := by decide +kernel
theorem dX3_init_32 : decode cX3_init 32 = .ok (.aload_n 0, 1) := by decide +kernel
theorem dX3_init_33 : decode cX3_init 33 = .ok (.bipush 8, 2) := by decide +kernel
theorem dX3_init_35 : decode cX3_init 35 = .ok (.newarray .boolean, 2) := by decide +kernel
theorem dX3_init_37 : decode cX3_init 37 = .ok (.putfield 23, 3) := by decide +kernel
theorem dX3_init_40 : decode cX3_init 40 = .ok (.aload_n 0, 1) := by decide +kernel
theorem dX3_init_41 : decode cX3_init 41 = .ok (.bipush 7, 2) := by decide +kernel
theorem dX3_init_43 : decode cX3_init 43 = .ok (.newarray .int, 2) := by decide +kernel
theorem dX3_init_45 : decode cX3_init 45 = .ok (.putfield 27, 3) := by decide +kernel
theorem dX3_init_48 : decode cX3_init 48 = .ok (.aload_n 0, 1) := by decide +kernel
theorem dX3_init_49 : decode cX3_init 49 = .ok (.bipush 7, 2) := by decide +kernel
theorem dX3_init_51 : decode cX3_init 51 = .ok (.newarray .int, 2) := by decide +kernel
theorem dX3_init_53 : decode cX3_init 53 = .ok (.putfield 30, 3) := by decide +kernel
theorem dX3_init_56 : decode cX3_init 56 = .ok (.aload_n 0, 1) := by decide +kernel
theorem dX3_init_57 : decode cX3_init 57 = .ok (.iconst 0, 1) := by decide +kernel
theorem dX3_init_58 : decode cX3_init 58 = .ok (.putfield 33, 3) := by decide +kernel
theorem dX3_init_61 : decode cX3_init 61 = .ok (.aload_n 0, 1) := by decide +kernel
theorem dX3_init_62 : decode cX3_init 62 = .ok (.iconst 0, 1) := by decide +kernel
theorem dX3_init_63 : decode cX3_init 63 = .ok (.putfield 37, 3) := by decide +kernel
theorem dX3_init_66 : decode cX3_init 66 = .ok (.aload_n 0, 1) := by decide +kernel
theorem dX3_init_67 : decode cX3_init 67 = .ok (.iconst 0, 1) := by decide +kernel
theorem dX3_init_68 : decode cX3_init 68 = .ok (.putfield 41, 3) := by decide +kernel
theorem dX3_init_71 : decode cX3_init 71 = .ok (.aload_n 0, 1) := by decide +kernel
theorem dX3_init_72 : decode cX3_init 72 = .ok (.iconst 0, 1) := by decide +kernel
theorem dX3_init_73 : decode cX3_init 73 = .ok (.putfield 44, 3) := by decide +kernel
theorem dX3_init_76 : decode cX3_init 76 = .ok (.aload_n 0, 1) := by decide +kernel
theorem dX3_init_77 : decode cX3_init 77 = .ok (.aload_n 1, 1) := by decide +kernel
theorem dX3_init_78 : decode cX3_init 78 = .ok (.putfield 47, 3) := by decide +kernel
theorem dX3_init_81 : decode cX3_init 81 = .ok (.aload_n 0, 1) := by decide +kernel
theorem dX3_init_82 : decode cX3_init 82 = .ok (.aload_n 2, 1) := by decide +kernel
theorem dX3_init_83 : decode cX3_init 83 = .ok (.putfield 51, 3) := by decide +kernel
theorem dX3_init_86 : decode cX3_init 86 = .ok (.aload_n 0, 1) := by decide +kernel
theorem dX3_init_87 : decode cX3_init 87 = .ok (.aload_n 3, 1) := by decide +kernel
theorem dX3_init_88 : decode cX3_init 88 = .ok (.putfield 55, 3) := by decide +kernel
theorem dX3_init_91 : decode cX3_init 91 = .ok (.return_, 1) := by decide +kernel
theorem dX3_countFitting_0 : decode cX3_countFitting 0 = .ok (.aload_n 0, 1) := by decide +kernel
theorem dX3_countFitting_1 : decode cX3_countFitting 1 = .ok (.iconst 1, 1) := by decide +kernel
theorem dX3_countFitting_2 : decode cX3_countFitting 2 = .ok (.iconst 0, 1) := by decide +kernel
theorem dX3_countFitting_3 : decode cX3_countFitting 3 = .ok (.invokevirtual 59, 3) := by decide +kernel
theorem dX3_countFitting_6 : decode cX3_countFitting 6 = .ok (.aload_n 0, 1) := by decide +kernel
theorem dX3_countFitting_7 : decode cX3_countFitting 7 = .ok (.getfield 44, 3) := by decide +kernel
theorem dX3_countFitting_10 : decode cX3_countFitting 10 = .ok (.ireturn, 1) := by decide +kernel
theorem dX3_seekLevel_0 : decode cX3_seekLevel 0 = .ok (.aload_n 0, 1) := by decide +kernel
theorem dX3_seekLevel_1 : decode cX3_seekLevel 1 = .ok (.iconst 0, 1) := by decide +kernel
theorem dX3_seekLevel_2 : decode cX3_seekLevel 2 = .ok (.iconst 0, 1) := by decide +kernel
theorem dX3_seekLevel_3 : decode cX3_seekLevel 3 = .ok (.invokevirtual 59, 3) := by decide +kernel
theorem dX3_seekLevel_6 : decode cX3_seekLevel 6 = .ok (.aload_n 0, 1) := by decide +kernel
theorem dX3_seekLevel_7 : decode cX3_seekLevel 7 = .ok (.getfield 44, 3) := by decide +kernel
theorem dX3_seekLevel_10 : decode cX3_seekLevel 10 = .ok (.ifCond .le 7, 3) := by decide +kernel
theorem dX3_seekLevel_13 : decode cX3_seekLevel 13 = .ok (.iconst 1, 1) := by decide +kernel
theorem dX3_seekLevel_14 : decode cX3_seekLevel 14 = .ok (.goto 4, 3) := by decide +kernel
theorem dX3_seekLevel_17 : decode cX3_seekLevel 17 = .ok (.iconst 0, 1) := by decide +kernel
theorem dX3_seekLevel_18 : decode cX3_seekLevel 18 = .ok (.ireturn, 1) := by decide +kernel
theorem dX3_seekClose_0 : decode cX3_seekClose 0 = .ok (.aload_n 1, 1) := by decide +kernel
theorem dX3_seekClose_1 : decode cX3_seekClose 1 = .ok (.iconst 0, 1) := by decide +kernel
theorem dX3_seekClose_2 : decode cX3_seekClose 2 = .ok (.aload_n 0, 1) := by decide +kernel
theorem dX3_seekClose_3 : decode cX3_seekClose 3 = .ok (.getfield 27, 3) := by decide +kernel
theorem dX3_seekClose_6 : decode cX3_seekClose 6 = .ok (.iconst 0, 1) := by decide +kernel
theorem dX3_seekClose_7 : decode cX3_seekClose 7 = .ok (.bipush 7, 2) := by decide +kernel
theorem dX3_seekClose_9 : decode cX3_seekClose 9 = .ok (.invokestatic 63, 3) := by decide +kernel
theorem dX3_seekClose_12 : decode cX3_seekClose 12 = .ok (.aload_n 0, 1) := by decide +kernel
theorem dX3_seekClose_13 : decode cX3_seekClose 13 = .ok (.iconst 0, 1) := by decide +kernel
theorem dX3_seekClose_14 : decode cX3_seekClose 14 = .ok (.sipush 1000, 3) := by decide +kernel
theorem dX3_seekClose_17 : decode cX3_seekClose 17 = .ok (.invokevirtual 59, 3) := by decide +kernel
theorem dX3_seekClose_20 : decode cX3_seekClose 20 = .ok (.aload_n 0, 1) := by decide +kernel
theorem dX3_seekClose_21 : decode cX3_seekClose 21 = .ok (.getfield 44, 3) := by decide +kernel
theorem dX3_seekClose_24 : decode cX3_seekClose 24 = .ok (.ifCond .le 7, 3) := by decide +kernel
theorem dX3_seekClose_27 : decode cX3_seekClose 27 = .ok (.iconst 1, 1) := by decide +kernel
theorem dX3_seekClose_28 : decode cX3_seekClose 28 = .ok (.goto 4, 3) := by decide +kernel
theorem dX3_seekClose_31 : decode cX3_seekClose 31 = .ok (.iconst 0, 1) := by decide +kernel
theorem dX3_seekClose_32 : decode cX3_seekClose 32 = .ok (.ireturn, 1) := by decide +kernel
theorem dX3_uneven_0 : decode cX3_uneven 0 = .ok (.aload_n 0, 1) := by decide +kernel
theorem dX3_uneven_1 : decode cX3_uneven 1 = .ok (.getfield 41, 3) := by decide +kernel
theorem dX3_uneven_4 : decode cX3_uneven 4 = .ok (.sipush 1000, 3) := by decide +kernel
theorem dX3_uneven_7 : decode cX3_uneven 7 = .ok (.irem, 1) := by decide +kernel
theorem dX3_uneven_8 : decode cX3_uneven 8 = .ok (.ireturn, 1) := by decide +kernel
theorem dX3_moves_0 : decode cX3_moves 0 = .ok (.aload_n 0, 1) := by decide +kernel
theorem dX3_moves_1 : decode cX3_moves 1 = .ok (.getfield 41, 3) := by decide +kernel
theorem dX3_moves_4 : decode cX3_moves 4 = .ok (.sipush 1000, 3) := by decide +kernel
theorem dX3_moves_7 : decode cX3_moves 7 = .ok (.idiv, 1) := by decide +kernel
theorem dX3_moves_8 : decode cX3_moves 8 = .ok (.ireturn, 1) := by decide +kernel
theorem dX3_start_0 : decode cX3_start 0 = .ok (.aload_n 0, 1) := by decide +kernel
theorem dX3_start_1 : decode cX3_start 1 = .ok (.iload_n 1, 1) := by decide +kernel
theorem dX3_start_2 : decode cX3_start 2 = .ok (.putfield 33, 3) := by decide +kernel
theorem dX3_start_5 : decode cX3_start 5 = .ok (.aload_n 0, 1) := by decide +kernel
theorem dX3_start_6 : decode cX3_start 6 = .ok (.iload_n 2, 1) := by decide +kernel
theorem dX3_start_7 : decode cX3_start 7 = .ok (.putfield 37, 3) := by decide +kernel
theorem dX3_start_10 : decode cX3_start 10 = .ok (.aload_n 0, 1) := by decide +kernel
theorem dX3_start_11 : decode cX3_start 11 = .ok (.ldc 71, 2) := by decide +kernel
theorem dX3_start_13 : decode cX3_start 13 = .ok (.putfield 41, 3) := by decide +kernel
theorem dX3_start_16 : decode cX3_start 16 = .ok (.aload_n 0, 1) := by decide +kernel
theorem dX3_start_17 : decode cX3_start 17 = .ok (.iconst 0, 1) := by decide +kernel
theorem dX3_start_18 : decode cX3_start 18 = .ok (.putfield 44, 3) := by decide +kernel
theorem dX3_start_21 : decode cX3_start 21 = .ok (.aload_n 0, 1) := by decide +kernel
theorem dX3_start_22 : decode cX3_start 22 = .ok (.iconst 0, 1) := by decide +kernel
theorem dX3_start_23 : decode cX3_start 23 = .ok (.iconst 0, 1) := by decide +kernel
theorem dX3_start_24 : decode cX3_start 24 = .ok (.iconst 0, 1) := by decide +kernel
theorem dX3_start_25 : decode cX3_start 25 = .ok (.iconst 0, 1) := by decide +kernel
theorem dX3_start_26 : decode cX3_start 26 = .ok (.invokevirtual 72, 3) := by decide +kernel
theorem dX3_start_29 : decode cX3_start 29 = .ok (.return_, 1) := by decide +kernel
theorem dX3_walk_0 : decode cX3_walk 0 = .ok (.iload_n 1, 1) := by decide +kernel
theorem dX3_walk_1 : decode cX3_walk 1 = .ok (.aload_n 0, 1) := by decide +kernel
theorem dX3_walk_2 : decode cX3_walk 2 = .ok (.getfield 47, 3) := by decide +kernel
theorem dX3_walk_5 : decode cX3_walk 5 = .ok (.getfield 76, 3) := by decide +kernel
theorem dX3_walk_8 : decode cX3_walk 8 = .ok (.if_icmp .lt 10, 3) := by decide +kernel
theorem dX3_walk_11 : decode cX3_walk 11 = .ok (.aload_n 0, 1) := by decide +kernel
theorem dX3_walk_12 : decode cX3_walk 12 = .ok (.iload 4, 2) := by decide +kernel
theorem dX3_walk_14 : decode cX3_walk 14 = .ok (.invokevirtual 81, 3) := by decide +kernel
theorem dX3_walk_17 : decode cX3_walk 17 = .ok (.return_, 1) := by decide +kernel
theorem dX3_walk_18 : decode cX3_walk 18 = .ok (.aload_n 0, 1) := by decide +kernel
theorem dX3_walk_19 : decode cX3_walk 19 = .ok (.getfield 47, 3) := by decide +kernel
theorem dX3_walk_22 : decode cX3_walk 22 = .ok (.getfield 85, 3) := by decide +kernel
theorem dX3_walk_25 : decode cX3_walk 25 = .ok (.iload_n 1, 1) := by decide +kernel
theorem dX3_walk_26 : decode cX3_walk 26 = .ok (.iaload, 1) := by decide +kernel
theorem dX3_walk_27 : decode cX3_walk 27 = .ok (.istore 5, 2) := by decide +kernel
theorem dX3_walk_29 : decode cX3_walk 29 = .ok (.iload_n 1, 1) := by decide +kernel
theorem dX3_walk_30 : decode cX3_walk 30 = .ok (.aload_n 0, 1) := by decide +kernel
theorem dX3_walk_31 : decode cX3_walk 31 = .ok (.getfield 47, 3) := by decide +kernel
theorem dX3_walk_34 : decode cX3_walk 34 = .ok (.getfield 88, 3) := by decide +kernel
theorem dX3_walk_37 : decode cX3_walk 37 = .ok (.iload 5, 2) := by decide +kernel
theorem dX3_walk_39 : decode cX3_walk 39 = .ok (.iaload, 1) := by decide +kernel
theorem dX3_walk_40 : decode cX3_walk 40 = .ok (.if_icmp .ne 7, 3) := by decide +kernel
theorem dX3_walk_43 : decode cX3_walk 43 = .ok (.iconst 1, 1) := by decide +kernel
theorem dX3_walk_44 : decode cX3_walk 44 = .ok (.goto 4, 3) := by decide +kernel
theorem dX3_walk_47 : decode cX3_walk 47 = .ok (.iconst 0, 1) := by decide +kernel
theorem dX3_walk_48 : decode cX3_walk 48 = .ok (.istore 6, 2) := by decide +kernel
theorem dX3_walk_50 : decode cX3_walk 50 = .ok (.iconst 0, 1) := by decide +kernel
theorem dX3_walk_51 : decode cX3_walk 51 = .ok (.istore 7, 2) := by decide +kernel
theorem dX3_walk_53 : decode cX3_walk 53 = .ok (.iload 7, 2) := by decide +kernel
theorem dX3_walk_55 : decode cX3_walk 55 = .ok (.aload_n 0, 1) := by decide +kernel
theorem dX3_walk_56 : decode cX3_walk 56 = .ok (.getfield 51, 3) := by decide +kernel
theorem dX3_walk_59 : decode cX3_walk 59 = .ok (.getfield 91, 3) := by decide +kernel
theorem dX3_walk_62 : decode cX3_walk 62 = .ok (.if_icmp .ge 168, 3) := by decide +kernel
theorem dX3_walk_65 : decode cX3_walk 65 = .ok (.aload_n 0, 1) := by decide +kernel
theorem dX3_walk_66 : decode cX3_walk 66 = .ok (.getfield 23, 3) := by decide +kernel
theorem dX3_walk_69 : decode cX3_walk 69 = .ok (.iload 7, 2) := by decide +kernel
theorem dX3_walk_71 : decode cX3_walk 71 = .ok (.baload, 1) := by decide +kernel
theorem dX3_walk_72 : decode cX3_walk 72 = .ok (.ifCond .ne 152, 3) := by decide +kernel
theorem dX3_walk_75 : decode cX3_walk 75 = .ok (.aload_n 0, 1) := by decide +kernel
theorem dX3_walk_76 : decode cX3_walk 76 = .ok (.getfield 55, 3) := by decide +kernel
theorem dX3_walk_79 : decode cX3_walk 79 = .ok (.iload 7, 2) := by decide +kernel
theorem dX3_walk_81 : decode cX3_walk 81 = .ok (.iload 5, 2) := by decide +kernel
theorem dX3_walk_83 : decode cX3_walk 83 = .ok (.invokevirtual 96, 3) := by decide +kernel
theorem dX3_walk_86 : decode cX3_walk 86 = .ok (.ifCond .ne 6, 3) := by decide +kernel
theorem dX3_walk_89 : decode cX3_walk 89 = .ok (.goto 135, 3) := by decide +kernel
theorem dX3_walk_92 : decode cX3_walk 92 = .ok (.aload_n 0, 1) := by decide +kernel
theorem dX3_walk_93 : decode cX3_walk 93 = .ok (.getfield 51, 3) := by decide +kernel
theorem dX3_walk_96 : decode cX3_walk 96 = .ok (.getfield 102, 3) := by decide +kernel
theorem dX3_walk_99 : decode cX3_walk 99 = .ok (.iload 7, 2) := by decide +kernel
theorem dX3_walk_101 : decode cX3_walk 101 = .ok (.iaload, 1) := by decide +kernel
theorem dX3_walk_102 : decode cX3_walk 102 = .ok (.istore 8, 2) := by decide +kernel
theorem dX3_walk_104 : decode cX3_walk 104 = .ok (.iload 6, 2) := by decide +kernel
theorem dX3_walk_106 : decode cX3_walk 106 = .ok (.ifCond .eq 8, 3) := by decide +kernel
theorem dX3_walk_109 : decode cX3_walk 109 = .ok (.iload 8, 2) := by decide +kernel
theorem dX3_walk_111 : decode cX3_walk 111 = .ok (.goto 9, 3) := by decide +kernel
theorem dX3_walk_114 : decode cX3_walk 114 = .ok (.iload_n 2, 1) := by decide +kernel
theorem dX3_walk_115 : decode cX3_walk 115 = .ok (.iload 8, 2) := by decide +kernel
theorem dX3_walk_117 : decode cX3_walk 117 = .ok (.invokestatic 105, 3) := by decide +kernel
theorem dX3_walk_120 : decode cX3_walk 120 = .ok (.istore 9, 2) := by decide +kernel
theorem dX3_walk_122 : decode cX3_walk 122 = .ok (.iload 6, 2) := by decide +kernel
theorem dX3_walk_124 : decode cX3_walk 124 = .ok (.ifCond .eq 8, 3) := by decide +kernel
theorem dX3_walk_127 : decode cX3_walk 127 = .ok (.iload 8, 2) := by decide +kernel
theorem dX3_walk_129 : decode cX3_walk 129 = .ok (.goto 9, 3) := by decide +kernel
theorem dX3_walk_132 : decode cX3_walk 132 = .ok (.iload_n 3, 1) := by decide +kernel
theorem dX3_walk_133 : decode cX3_walk 133 = .ok (.iload 8, 2) := by decide +kernel
theorem dX3_walk_135 : decode cX3_walk 135 = .ok (.invokestatic 111, 3) := by decide +kernel
theorem dX3_walk_138 : decode cX3_walk 138 = .ok (.istore 10, 2) := by decide +kernel
theorem dX3_walk_140 : decode cX3_walk 140 = .ok (.iload 6, 2) := by decide +kernel
theorem dX3_walk_142 : decode cX3_walk 142 = .ok (.ifCond .eq 7, 3) := by decide +kernel
theorem dX3_walk_145 : decode cX3_walk 145 = .ok (.iconst 0, 1) := by decide +kernel
theorem dX3_walk_146 : decode cX3_walk 146 = .ok (.goto 12, 3) := by decide +kernel
theorem dX3_walk_149 : decode cX3_walk 149 = .ok (.iload 10, 2) := by decide +kernel
theorem dX3_walk_151 : decode cX3_walk 151 = .ok (.iload 9, 2) := by decide +kernel
theorem dX3_walk_153 : decode cX3_walk 153 = .ok (.isub, 1) := by decide +kernel
theorem dX3_walk_154 : decode cX3_walk 154 = .ok (.iload_n 3, 1) := by decide +kernel
theorem dX3_walk_155 : decode cX3_walk 155 = .ok (.iload_n 2, 1) := by decide +kernel
theorem dX3_walk_156 : decode cX3_walk 156 = .ok (.isub, 1) := by decide +kernel
theorem dX3_walk_157 : decode cX3_walk 157 = .ok (.isub, 1) := by decide +kernel
theorem dX3_walk_158 : decode cX3_walk 158 = .ok (.istore 11, 2) := by decide +kernel
theorem dX3_walk_160 : decode cX3_walk 160 = .ok (.iload 4, 2) := by decide +kernel
theorem dX3_walk_162 : decode cX3_walk 162 = .ok (.iload 11, 2) := by decide +kernel
theorem dX3_walk_164 : decode cX3_walk 164 = .ok (.iadd, 1) := by decide +kernel
theorem dX3_walk_165 : decode cX3_walk 165 = .ok (.iload 7, 2) := by decide +kernel
theorem dX3_walk_167 : decode cX3_walk 167 = .ok (.aload_n 0, 1) := by decide +kernel
theorem dX3_walk_168 : decode cX3_walk 168 = .ok (.getfield 27, 3) := by decide +kernel
theorem dX3_walk_171 : decode cX3_walk 171 = .ok (.iload_n 1, 1) := by decide +kernel
theorem dX3_walk_172 : decode cX3_walk 172 = .ok (.iaload, 1) := by decide +kernel
theorem dX3_walk_173 : decode cX3_walk 173 = .ok (.if_icmp .ne 7, 3) := by decide +kernel
theorem dX3_walk_176 : decode cX3_walk 176 = .ok (.iconst 0, 1) := by decide +kernel
theorem dX3_walk_177 : decode cX3_walk 177 = .ok (.goto 7, 3) := by decide +kernel
theorem dX3_walk_180 : decode cX3_walk 180 = .ok (.aload_n 0, 1) := by decide +kernel
theorem dX3_walk_181 : decode cX3_walk 181 = .ok (.getfield 37, 3) := by decide +kernel
theorem dX3_walk_184 : decode cX3_walk 184 = .ok (.iadd, 1) := by decide +kernel
theorem dX3_walk_185 : decode cX3_walk 185 = .ok (.istore 12, 2) := by decide +kernel
theorem dX3_walk_187 : decode cX3_walk 187 = .ok (.iload 10, 2) := by decide +kernel
theorem dX3_walk_189 : decode cX3_walk 189 = .ok (.iload 9, 2) := by decide +kernel
theorem dX3_walk_191 : decode cX3_walk 191 = .ok (.isub, 1) := by decide +kernel
theorem dX3_walk_192 : decode cX3_walk 192 = .ok (.aload_n 0, 1) := by decide +kernel
theorem dX3_walk_193 : decode cX3_walk 193 = .ok (.getfield 55, 3) := by decide +kernel
theorem dX3_walk_196 : decode cX3_walk 196 = .ok (.getfield 114, 3) := by decide +kernel
theorem dX3_walk_199 : decode cX3_walk 199 = .ok (.if_icmp .gt 25, 3) := by decide +kernel
theorem dX3_walk_202 : decode cX3_walk 202 = .ok (.iload 12, 2) := by decide +kernel
theorem dX3_walk_204 : decode cX3_walk 204 = .ok (.aload_n 0, 1) := by decide +kernel
theorem dX3_walk_205 : decode cX3_walk 205 = .ok (.getfield 41, 3) := by decide +kernel
theorem dX3_walk_208 : decode cX3_walk 208 = .ok (.if_icmp .ge 16, 3) := by decide +kernel
theorem dX3_walk_211 : decode cX3_walk 211 = .ok (.aload_n 0, 1) := by decide +kernel
theorem dX3_walk_212 : decode cX3_walk 212 = .ok (.iload 7, 2) := by decide +kernel
theorem dX3_walk_214 : decode cX3_walk 214 = .ok (.iload_n 1, 1) := by decide +kernel
theorem dX3_walk_215 : decode cX3_walk 215 = .ok (.iload 9, 2) := by decide +kernel
theorem dX3_walk_217 : decode cX3_walk 217 = .ok (.iload 10, 2) := by decide +kernel
theorem dX3_walk_219 : decode cX3_walk 219 = .ok (.iload 12, 2) := by decide +kernel
theorem dX3_walk_221 : decode cX3_walk 221 = .ok (.invokevirtual 117, 3) := by decide +kernel
theorem dX3_walk_224 : decode cX3_walk 224 = .ok (.iinc 7 1, 3) := by decide +kernel
theorem dX3_walk_227 : decode cX3_walk 227 = .ok (.goto (-174), 3) := by decide +kernel
theorem dX3_walk_230 : decode cX3_walk 230 = .ok (.return_, 1) := by decide +kernel
theorem dX3_goOnWith_0 : decode cX3_goOnWith 0 = .ok (.aload_n 0, 1) := by decide +kernel
theorem dX3_goOnWith_1 : decode cX3_goOnWith 1 = .ok (.getfield 9, 3) := by decide +kernel
theorem dX3_goOnWith_4 : decode cX3_goOnWith 4 = .ok (.iload_n 2, 1) := by decide +kernel
theorem dX3_goOnWith_5 : decode cX3_goOnWith 5 = .ok (.iload_n 1, 1) := by decide +kernel
theorem dX3_goOnWith_6 : decode cX3_goOnWith 6 = .ok (.iastore, 1) := by decide +kernel
theorem dX3_goOnWith_7 : decode cX3_goOnWith 7 = .ok (.aload_n 0, 1) := by decide +kernel
theorem dX3_goOnWith_8 : decode cX3_goOnWith 8 = .ok (.getfield 20, 3) := by decide +kernel
theorem dX3_goOnWith_11 : decode cX3_goOnWith 11 = .ok (.iload_n 2, 1) := by decide +kernel
theorem dX3_goOnWith_12 : decode cX3_goOnWith 12 = .ok (.aload_n 0, 1) := by decide +kernel
theorem dX3_goOnWith_13 : decode cX3_goOnWith 13 = .ok (.getfield 55, 3) := by decide +kernel
theorem dX3_goOnWith_16 : decode cX3_goOnWith 16 = .ok (.iload_n 1, 1) := by decide +kernel
theorem dX3_goOnWith_17 : decode cX3_goOnWith 17 = .ok (.invokevirtual 121, 3) := by decide +kernel
theorem dX3_goOnWith_20 : decode cX3_goOnWith 20 = .ok (.iastore, 1) := by decide +kernel
theorem dX3_goOnWith_21 : decode cX3_goOnWith 21 = .ok (.aload_n 0, 1) := by decide +kernel
theorem dX3_goOnWith_22 : decode cX3_goOnWith 22 = .ok (.iload_n 2, 1) := by decide +kernel
theorem dX3_goOnWith_23 : decode cX3_goOnWith 23 = .ok (.aload_n 0, 1) := by decide +kernel
theorem dX3_goOnWith_24 : decode cX3_goOnWith 24 = .ok (.getfield 51, 3) := by decide +kernel
theorem dX3_goOnWith_27 : decode cX3_goOnWith 27 = .ok (.getfield 125, 3) := by decide +kernel
theorem dX3_goOnWith_30 : decode cX3_goOnWith 30 = .ok (.iload_n 1, 1) := by decide +kernel
theorem dX3_goOnWith_31 : decode cX3_goOnWith 31 = .ok (.iaload, 1) := by decide +kernel
theorem dX3_goOnWith_32 : decode cX3_goOnWith 32 = .ok (.invokevirtual 128, 3) := by decide +kernel
theorem dX3_goOnWith_35 : decode cX3_goOnWith 35 = .ok (.ifCond .eq 29, 3) := by decide +kernel
theorem dX3_goOnWith_38 : decode cX3_goOnWith 38 = .ok (.aload_n 0, 1) := by decide +kernel
theorem dX3_goOnWith_39 : decode cX3_goOnWith 39 = .ok (.getfield 23, 3) := by decide +kernel
theorem dX3_goOnWith_42 : decode cX3_goOnWith 42 = .ok (.iload_n 1, 1) := by decide +kernel
theorem dX3_goOnWith_43 : decode cX3_goOnWith 43 = .ok (.iconst 1, 1) := by decide +kernel
theorem dX3_goOnWith_44 : decode cX3_goOnWith 44 = .ok (.bastore, 1) := by decide +kernel
theorem dX3_goOnWith_45 : decode cX3_goOnWith 45 = .ok (.aload_n 0, 1) := by decide +kernel
theorem dX3_goOnWith_46 : decode cX3_goOnWith 46 = .ok (.iload_n 2, 1) := by decide +kernel
theorem dX3_goOnWith_47 : decode cX3_goOnWith 47 = .ok (.iconst 1, 1) := by decide +kernel
theorem dX3_goOnWith_48 : decode cX3_goOnWith 48 = .ok (.iadd, 1) := by decide +kernel
theorem dX3_goOnWith_49 : decode cX3_goOnWith 49 = .ok (.iload_n 3, 1) := by decide +kernel
theorem dX3_goOnWith_50 : decode cX3_goOnWith 50 = .ok (.iload 4, 2) := by decide +kernel
theorem dX3_goOnWith_52 : decode cX3_goOnWith 52 = .ok (.iload 5, 2) := by decide +kernel
theorem dX3_goOnWith_54 : decode cX3_goOnWith 54 = .ok (.invokevirtual 72, 3) := by decide +kernel
theorem dX3_goOnWith_57 : decode cX3_goOnWith 57 = .ok (.aload_n 0, 1) := by decide +kernel
theorem dX3_goOnWith_58 : decode cX3_goOnWith 58 = .ok (.getfield 23, 3) := by decide +kernel
theorem dX3_goOnWith_61 : decode cX3_goOnWith 61 = .ok (.iload_n 1, 1) := by decide +kernel
theorem dX3_goOnWith_62 : decode cX3_goOnWith 62 = .ok (.iconst 0, 1) := by decide +kernel
theorem dX3_goOnWith_63 : decode cX3_goOnWith 63 = .ok (.bastore, 1) := by decide +kernel
theorem dX3_goOnWith_64 : decode cX3_goOnWith 64 = .ok (.return_, 1) := by decide +kernel
theorem dX3_bearsAlso_0 : decode cX3_bearsAlso 0 = .ok (.aload_n 0, 1) := by decide +kernel
theorem dX3_bearsAlso_1 : decode cX3_bearsAlso 1 = .ok (.getfield 47, 3) := by decide +kernel
theorem dX3_bearsAlso_4 : decode cX3_bearsAlso 4 = .ok (.getfield 131, 3) := by decide +kernel
theorem dX3_bearsAlso_7 : decode cX3_bearsAlso 7 = .ok (.iload_n 1, 1) := by decide +kernel
theorem dX3_bearsAlso_8 : decode cX3_bearsAlso 8 = .ok (.aaload, 1) := by decide +kernel
theorem dX3_bearsAlso_9 : decode cX3_bearsAlso 9 = .ok (.astore_n 3, 1) := by decide +kernel
theorem dX3_bearsAlso_10 : decode cX3_bearsAlso 10 = .ok (.aload_n 0, 1) := by decide +kernel
theorem dX3_bearsAlso_11 : decode cX3_bearsAlso 11 = .ok (.getfield 17, 3) := by decide +kernel
theorem dX3_bearsAlso_14 : decode cX3_bearsAlso 14 = .ok (.iload_n 1, 1) := by decide +kernel
theorem dX3_bearsAlso_15 : decode cX3_bearsAlso 15 = .ok (.aaload, 1) := by decide +kernel
theorem dX3_bearsAlso_16 : decode cX3_bearsAlso 16 = .ok (.astore 4, 2) := by decide +kernel
theorem dX3_bearsAlso_18 : decode cX3_bearsAlso 18 = .ok (.aload_n 0, 1) := by decide +kernel
theorem dX3_bearsAlso_19 : decode cX3_bearsAlso 19 = .ok (.getfield 17, 3) := by decide +kernel
theorem dX3_bearsAlso_22 : decode cX3_bearsAlso 22 = .ok (.iload_n 1, 1) := by decide +kernel
theorem dX3_bearsAlso_23 : decode cX3_bearsAlso 23 = .ok (.iconst 1, 1) := by decide +kernel
theorem dX3_bearsAlso_24 : decode cX3_bearsAlso 24 = .ok (.iadd, 1) := by decide +kernel
theorem dX3_bearsAlso_25 : decode cX3_bearsAlso 25 = .ok (.aaload, 1) := by decide +kernel
theorem dX3_bearsAlso_26 : decode cX3_bearsAlso 26 = .ok (.astore 5, 2) := by decide +kernel
theorem dX3_bearsAlso_28 : decode cX3_bearsAlso 28 = .ok (.iconst 0, 1) := by decide +kernel
theorem dX3_bearsAlso_29 : decode cX3_bearsAlso 29 = .ok (.istore 6, 2) := by decide +kernel
theorem dX3_bearsAlso_31 : decode cX3_bearsAlso 31 = .ok (.iload 6, 2) := by decide +kernel
theorem dX3_bearsAlso_33 : decode cX3_bearsAlso 33 = .ok (.iload_n 1, 1) := by decide +kernel
theorem dX3_bearsAlso_34 : decode cX3_bearsAlso 34 = .ok (.if_icmp .ge 43, 3) := by decide +kernel
theorem dX3_bearsAlso_37 : decode cX3_bearsAlso 37 = .ok (.aload 5, 2) := by decide +kernel
theorem dX3_bearsAlso_39 : decode cX3_bearsAlso 39 = .ok (.iload 6, 2) := by decide +kernel
theorem dX3_bearsAlso_41 : decode cX3_bearsAlso 41 = .ok (.aload 4, 2) := by decide +kernel
theorem dX3_bearsAlso_43 : decode cX3_bearsAlso 43 = .ok (.iload 6, 2) := by decide +kernel
theorem dX3_bearsAlso_45 : decode cX3_bearsAlso 45 = .ok (.iaload, 1) := by decide +kernel
theorem dX3_bearsAlso_46 : decode cX3_bearsAlso 46 = .ok (.aload_n 3, 1) := by decide +kernel
theorem dX3_bearsAlso_47 : decode cX3_bearsAlso 47 = .ok (.iload 6, 2) := by decide +kernel
theorem dX3_bearsAlso_49 : decode cX3_bearsAlso 49 = .ok (.iaload, 1) := by decide +kernel
theorem dX3_bearsAlso_50 : decode cX3_bearsAlso 50 = .ok (.iload_n 2, 1) := by decide +kernel
theorem dX3_bearsAlso_51 : decode cX3_bearsAlso 51 = .ok (.imul, 1) := by decide +kernel
theorem dX3_bearsAlso_52 : decode cX3_bearsAlso 52 = .ok (.iadd, 1) := by decide +kernel
theorem dX3_bearsAlso_53 : decode cX3_bearsAlso 53 = .ok (.iastore, 1) := by decide +kernel
theorem dX3_bearsAlso_54 : decode cX3_bearsAlso 54 = .ok (.aload 5, 2) := by decide +kernel
theorem dX3_bearsAlso_56 : decode cX3_bearsAlso 56 = .ok (.iload 6, 2) := by decide +kernel
theorem dX3_bearsAlso_58 : decode cX3_bearsAlso 58 = .ok (.iaload, 1) := by decide +kernel
theorem dX3_bearsAlso_59 : decode cX3_bearsAlso 59 = .ok (.aload_n 0, 1) := by decide +kernel
theorem dX3_bearsAlso_60 : decode cX3_bearsAlso 60 = .ok (.getfield 20, 3) := by decide +kernel
theorem dX3_bearsAlso_63 : decode cX3_bearsAlso 63 = .ok (.iload 6, 2) := by decide +kernel
theorem dX3_bearsAlso_65 : decode cX3_bearsAlso 65 = .ok (.iaload, 1) := by decide +kernel
theorem dX3_bearsAlso_66 : decode cX3_bearsAlso 66 = .ok (.if_icmp .le 5, 3) := by decide +kernel
theorem dX3_bearsAlso_69 : decode cX3_bearsAlso 69 = .ok (.iconst 0, 1) := by decide +kernel
theorem dX3_bearsAlso_70 : decode cX3_bearsAlso 70 = .ok (.ireturn, 1) := by decide +kernel
theorem dX3_bearsAlso_71 : decode cX3_bearsAlso 71 = .ok (.iinc 6 1, 3) := by decide +kernel
theorem dX3_bearsAlso_74 : decode cX3_bearsAlso 74 = .ok (.goto (-43), 3) := by decide +kernel
theorem dX3_bearsAlso_77 : decode cX3_bearsAlso 77 = .ok (.aload 5, 2) := by decide +kernel
theorem dX3_bearsAlso_79 : decode cX3_bearsAlso 79 = .ok (.iload_n 1, 1) := by decide +kernel
theorem dX3_bearsAlso_80 : decode cX3_bearsAlso 80 = .ok (.iconst 0, 1) := by decide +kernel
theorem dX3_bearsAlso_81 : decode cX3_bearsAlso 81 = .ok (.iastore, 1) := by decide +kernel
theorem dX3_bearsAlso_82 : decode cX3_bearsAlso 82 = .ok (.iconst 1, 1) := by decide +kernel
theorem dX3_bearsAlso_83 : decode cX3_bearsAlso 83 = .ok (.ireturn, 1) := by decide +kernel
theorem dX3_arrive_0 : decode cX3_arrive 0 = .ok (.aload_n 0, 1) := by decide +kernel
theorem dX3_arrive_1 : decode cX3_arrive 1 = .ok (.dup, 1) := by decide +kernel
theorem dX3_arrive_2 : decode cX3_arrive 2 = .ok (.getfield 44, 3) := by decide +kernel
theorem dX3_arrive_5 : decode cX3_arrive 5 = .ok (.iconst 1, 1) := by decide +kernel
theorem dX3_arrive_6 : decode cX3_arrive 6 = .ok (.iadd, 1) := by decide +kernel
theorem dX3_arrive_7 : decode cX3_arrive 7 = .ok (.putfield 44, 3) := by decide +kernel
theorem dX3_arrive_10 : decode cX3_arrive 10 = .ok (.aload_n 0, 1) := by decide +kernel
theorem dX3_arrive_11 : decode cX3_arrive 11 = .ok (.getfield 33, 3) := by decide +kernel
theorem dX3_arrive_14 : decode cX3_arrive 14 = .ok (.ifCond .ne 23, 3) := by decide +kernel
theorem dX3_arrive_17 : decode cX3_arrive 17 = .ok (.aload_n 0, 1) := by decide +kernel
theorem dX3_arrive_18 : decode cX3_arrive 18 = .ok (.iload_n 1, 1) := by decide +kernel
theorem dX3_arrive_19 : decode cX3_arrive 19 = .ok (.putfield 41, 3) := by decide +kernel
theorem dX3_arrive_22 : decode cX3_arrive 22 = .ok (.aload_n 0, 1) := by decide +kernel
theorem dX3_arrive_23 : decode cX3_arrive 23 = .ok (.getfield 9, 3) := by decide +kernel
theorem dX3_arrive_26 : decode cX3_arrive 26 = .ok (.iconst 0, 1) := by decide +kernel
theorem dX3_arrive_27 : decode cX3_arrive 27 = .ok (.aload_n 0, 1) := by decide +kernel
theorem dX3_arrive_28 : decode cX3_arrive 28 = .ok (.getfield 30, 3) := by decide +kernel
theorem dX3_arrive_31 : decode cX3_arrive 31 = .ok (.iconst 0, 1) := by decide +kernel
theorem dX3_arrive_32 : decode cX3_arrive 32 = .ok (.bipush 7, 2) := by decide +kernel
theorem dX3_arrive_34 : decode cX3_arrive 34 = .ok (.invokestatic 63, 3) := by decide +kernel
theorem dX3_arrive_37 : decode cX3_arrive 37 = .ok (.return_, 1) := by decide +kernel
theorem dX4_init_0 : decode cX4_init 0 = .ok (.aload_n 0, 1) := by decide +kernel
theorem dX4_init_1 : decode cX4_init 1 = .ok (.invokespecial 3, 3) := by decide +kernel
theorem dX4_init_4 : decode cX4_init 4 = .ok (.aload_n 0, 1) := by decide +kernel
theorem dX4_init_5 : decode cX4_init 5 = .ok (.iconst 4, 1) := by decide +kernel
theorem dX4_init_6 : decode cX4_init 6 = .ok (.newarray .int, 2) := by decide +kernel
theorem dX4_init_8 : decode cX4_init 8 = .ok (.dup, 1) := by decide +kernel
theorem dX4_init_9 : decode cX4_init 9 = .ok (.iconst 0, 1) := by decide +kernel
theorem dX4_init_10 : decode cX4_init 10 = .ok (.iconst 2, 1) := by decide +kernel
theorem dX4_init_11 : decode cX4_init 11 = .ok (.iastore, 1) := by decide +kernel
theorem dX4_init_12 : decode cX4_init 12 = .ok (.dup, 1) := by decide +kernel
theorem dX4_init_13 : decode cX4_init 13 = .ok (.iconst 1, 1) := by decide +kernel
theorem dX4_init_14 : decode cX4_init 14 = .ok (.iconst 1, 1) := by decide +kernel
theorem dX4_init_15 : decode cX4_init 15 = .ok (.iastore, 1) := by decide +kernel
theorem dX4_init_16 : decode cX4_init 16 = .ok (.dup, 1) := by decide +kernel
theorem dX4_init_17 : decode cX4_init 17 = .ok (.iconst 2, 1) := by decide +kernel
theorem dX4_init_18 : decode cX4_init 18 = .ok (.iconst 1, 1) := by decide +kernel
theorem dX4_init_19 : decode cX4_init 19 = .ok (.iastore, 1) := by decide +kernel
theorem dX4_init_20 : decode cX4_init 20 = .ok (.dup, 1) := by decide +kernel
theorem dX4_init_21 : decode cX4_init 21 = .ok (.iconst 3, 1) := by decide +kernel
theorem dX4_init_22 : decode cX4_init 22 = .ok (.iconst 1, 1) := by decide +kernel
theorem dX4_init_23 : decode cX4_init 23 = .ok (.iastore, 1) := by decide +kernel
theorem dX4_init_24 : decode cX4_init 24 = .ok (.putfield 9, 3) := by decide +kernel
theorem dX4_init_27 : decode cX4_init 27 = .ok (.aload_n 0, 1) := by decide +kernel
theorem dX4_init_28 : decode cX4_init 28 = .ok (.iconst 4, 1) := by decide +kernel
theorem dX4_init_29 : decode cX4_init 29 = .ok (.newarray .int, 2) := by decide +kernel
theorem dX4_init_31 : decode cX4_init 31 = .ok (.putfield 15, 3) := by decide +kernel
theorem dX4_init_34 : decode cX4_init 34 = .ok (.aload_n 0, 1) := by decide +kernel
theorem dX4_init_35 : decode cX4_init 35 = .ok (.bipush 7, 2) := by decide +kernel
theorem dX4_init_37 : decode cX4_init 37 = .ok (.newarray .int, 2) := by decide +kernel
theorem dX4_init_39 : decode cX4_init 39 = .ok (.putfield 18, 3) := by decide +kernel
theorem dX4_init_42 : decode cX4_init 42 = .ok (.aload_n 0, 1) := by decide +kernel
theorem dX4_init_43 : decode cX4_init 43 = .ok (.bipush 7, 2) := by decide +kernel
theorem dX4_init_45 : decode cX4_init 45 = .ok (.bipush 7, 2) := by decide +kernel
theorem dX4_init_47 : decode cX4_init 47 = .ok (.multianewarray 21 2, 4) := by decide +kernel
theorem dX4_init_51 : decode cX4_init 51 = .ok (.putfield 23, 3) := by decide +kernel
theorem dX4_init_54 : decode cX4_init 54 = .ok (.aload_n 0, 1) := by decide +kernel
theorem dX4_init_55 : decode cX4_init 55 = .ok (.iconst 0, 1) := by decide +kernel
theorem dX4_init_56 : decode cX4_init 56 = .ok (.putfield 26, 3) := by decide +kernel
theorem dX4_init_59 : decode cX4_init 59 = .ok (.aload_n 0, 1) := by decide +kernel
theorem dX4_init_60 : decode cX4_init 60 = .ok (.iconst 0, 1) := by decide +kernel
theorem dX4_init_61 : decode cX4_init 61 = .ok (.putfield 30, 3) := by decide +kernel
theorem dX4_init_64 : decode cX4_init 64 = .ok (.aload_n 0, 1) := by decide +kernel
theorem dX4_init_65 : decode cX4_init 65 = .ok (.iconst 2, 1) := by decide +kernel
theorem dX4_init_66 : decode cX4_init 66 = .ok (.invokevirtual 33, 3) := by decide +kernel
theorem dX4_init_69 : decode cX4_init 69 = .ok (.return_, 1) := by decide +kernel
theorem dX4_placesUpTo_0 : decode cX4_placesUpTo 0 = .ok (.iconst 0, 1) := by decide +kernel
theorem dX4_placesUpTo_1 : decode cX4_placesUpTo 1 = .ok (.istore_n 2, 1) := by decide +kernel
theorem dX4_placesUpTo_2 : decode cX4_placesUpTo 2 = .ok (.iconst 0, 1) := by decide +kernel
theorem dX4_placesUpTo_3 : decode cX4_placesUpTo 3 = .ok (.istore_n 3, 1) := by decide +kernel
theorem dX4_placesUpTo_4 : decode cX4_placesUpTo 4 = .ok (.iload_n 3, 1) := by decide +kernel
theorem dX4_placesUpTo_5 : decode cX4_placesUpTo 5 = .ok (.iload_n 1, 1) := by decide +kernel
theorem dX4_placesUpTo_6 : decode cX4_placesUpTo 6 = .ok (.if_icmp .ge 23, 3) := by decide +kernel
theorem dX4_placesUpTo_9 : decode cX4_placesUpTo 9 = .ok (.iload_n 3, 1) := by decide +kernel
theorem dX4_placesUpTo_10 : decode cX4_placesUpTo 10 = .ok (.iconst 4, 1) := by decide +kernel
theorem dX4_placesUpTo_11 : decode cX4_placesUpTo 11 = .ok (.if_icmp .ge 18, 3) := by decide +kernel
theorem dX4_placesUpTo_14 : decode cX4_placesUpTo 14 = .ok (.iload_n 2, 1) := by decide +kernel
theorem dX4_placesUpTo_15 : decode cX4_placesUpTo 15 = .ok (.aload_n 0, 1) := by decide +kernel
theorem dX4_placesUpTo_16 : decode cX4_placesUpTo 16 = .ok (.getfield 9, 3) := by decide +kernel
theorem dX4_placesUpTo_19 : decode cX4_placesUpTo 19 = .ok (.iload_n 3, 1) := by decide +kernel
theorem dX4_placesUpTo_20 : decode cX4_placesUpTo 20 = .ok (.iaload, 1) := by decide +kernel
theorem dX4_placesUpTo_21 : decode cX4_placesUpTo 21 = .ok (.iadd, 1) := by decide +kernel
theorem dX4_placesUpTo_22 : decode cX4_placesUpTo 22 = .ok (.istore_n 2, 1) := by decide +kernel
theorem dX4_placesUpTo_23 : decode cX4_placesUpTo 23 = .ok (.iinc 3 1, 3) := by decide +kernel
theorem dX4_placesUpTo_26 : decode cX4_placesUpTo 26 = .ok (.goto (-22), 3) := by decide +kernel
theorem dX4_placesUpTo_29 : decode cX4_placesUpTo 29 = .ok (.iload_n 2, 1) := by decide +kernel
theorem dX4_placesUpTo_30 : decode cX4_placesUpTo 30 = .ok (.ireturn, 1) := by decide +kernel
theorem dX4_build_0 : decode cX4_build 0 = .ok (.aload_n 0, 1) := by decide +kernel
theorem dX4_build_1 : decode cX4_build 1 = .ok (.iload_n 1, 1) := by decide +kernel
theorem dX4_build_2 : decode cX4_build 2 = .ok (.iconst 4, 1) := by decide +kernel
theorem dX4_build_3 : decode cX4_build 3 = .ok (.invokestatic 37, 3) := by decide +kernel
theorem dX4_build_6 : decode cX4_build 6 = .ok (.putfield 26, 3) := by decide +kernel
theorem dX4_build_9 : decode cX4_build 9 = .ok (.aload_n 0, 1) := by decide +kernel
theorem dX4_build_10 : decode cX4_build 10 = .ok (.iconst 0, 1) := by decide +kernel
theorem dX4_build_11 : decode cX4_build 11 = .ok (.putfield 30, 3) := by decide +kernel
theorem dX4_build_14 : decode cX4_build 14 = .ok (.iconst 0, 1) := by decide +kernel
theorem dX4_build_15 : decode cX4_build 15 = .ok (.istore_n 2, 1) := by decide +kernel
theorem dX4_build_16 : decode cX4_build 16 = .ok (.iload_n 2, 1) := by decide +kernel
theorem dX4_build_17 : decode cX4_build 17 = .ok (.aload_n 0, 1) := by decide +kernel
theorem dX4_build_18 : decode cX4_build 18 = .ok (.getfield 26, 3) := by decide +kernel
theorem dX4_build_21 : decode cX4_build 21 = .ok (.if_icmp .ge 76, 3) := by decide +kernel
theorem dX4_build_24 : decode cX4_build 24 = .ok (.aload_n 0, 1) := by decide +kernel
theorem dX4_build_25 : decode cX4_build 25 = .ok (.getfield 15, 3) := by decide +kernel
theorem dX4_build_28 : decode cX4_build 28 = .ok (.iload_n 2, 1) := by decide +kernel
theorem dX4_build_29 : decode cX4_build 29 = .ok (.aload_n 0, 1) := by decide +kernel
theorem dX4_build_30 : decode cX4_build 30 = .ok (.getfield 30, 3) := by decide +kernel
theorem dX4_build_33 : decode cX4_build 33 = .ok (.iastore, 1) := by decide +kernel
theorem dX4_build_34 : decode cX4_build 34 = .ok (.iconst 0, 1) := by decide +kernel
theorem dX4_build_35 : decode cX4_build 35 = .ok (.istore_n 3, 1) := by decide +kernel
theorem dX4_build_36 : decode cX4_build 36 = .ok (.iload_n 3, 1) := by decide +kernel
theorem dX4_build_37 : decode cX4_build 37 = .ok (.aload_n 0, 1) := by decide +kernel
theorem dX4_build_38 : decode cX4_build 38 = .ok (.getfield 9, 3) := by decide +kernel
theorem dX4_build_41 : decode cX4_build 41 = .ok (.iload_n 2, 1) := by decide +kernel
theorem dX4_build_42 : decode cX4_build 42 = .ok (.iaload, 1) := by decide +kernel
theorem dX4_build_43 : decode cX4_build 43 = .ok (.if_icmp .ge 48, 3) := by decide +kernel
theorem dX4_build_46 : decode cX4_build 46 = .ok (.aload_n 0, 1) := by decide +kernel
theorem dX4_build_47 : decode cX4_build 47 = .ok (.getfield 30, 3) := by decide +kernel
theorem dX4_build_50 : decode cX4_build 50 = .ok (.bipush 7, 2) := by decide +kernel
theorem dX4_build_52 : decode cX4_build 52 = .ok (.if_icmp .ge 39, 3) := by decide +kernel
theorem dX4_build_55 : decode cX4_build 55 = .ok (.aload_n 0, 1) := by decide +kernel
theorem dX4_build_56 : decode cX4_build 56 = .ok (.getfield 18, 3) := by decide +kernel
theorem dX4_build_59 : decode cX4_build 59 = .ok (.aload_n 0, 1) := by decide +kernel
theorem dX4_build_60 : decode cX4_build 60 = .ok (.getfield 30, 3) := by decide +kernel
theorem dX4_build_63 : decode cX4_build 63 = .ok (.iload_n 2, 1) := by decide +kernel
theorem dX4_build_64 : decode cX4_build 64 = .ok (.iastore, 1) := by decide +kernel
theorem dX4_build_65 : decode cX4_build 65 = .ok (.aload_n 0, 1) := by decide +kernel
theorem dX4_build_66 : decode cX4_build 66 = .ok (.aload_n 0, 1) := by decide +kernel
theorem dX4_build_67 : decode cX4_build 67 = .ok (.getfield 30, 3) := by decide +kernel
theorem dX4_build_70 : decode cX4_build 70 = .ok (.iload_n 2, 1) := by decide +kernel
theorem dX4_build_71 : decode cX4_build 71 = .ok (.iload_n 3, 1) := by decide +kernel
theorem dX4_build_72 : decode cX4_build 72 = .ok (.invokevirtual 43, 3) := by decide +kernel
theorem dX4_build_75 : decode cX4_build 75 = .ok (.aload_n 0, 1) := by decide +kernel
theorem dX4_build_76 : decode cX4_build 76 = .ok (.dup, 1) := by decide +kernel
theorem dX4_build_77 : decode cX4_build 77 = .ok (.getfield 30, 3) := by decide +kernel
theorem dX4_build_80 : decode cX4_build 80 = .ok (.iconst 1, 1) := by decide +kernel
theorem dX4_build_81 : decode cX4_build 81 = .ok (.iadd, 1) := by decide +kernel
theorem dX4_build_82 : decode cX4_build 82 = .ok (.putfield 30, 3) := by decide +kernel
theorem dX4_build_85 : decode cX4_build 85 = .ok (.iinc 3 1, 3) := by decide +kernel
theorem dX4_build_88 : decode cX4_build 88 = .ok (.goto (-52), 3) := by decide +kernel
theorem dX4_build_91 : decode cX4_build 91 = .ok (.iinc 2 1, 3) := by decide +kernel
theorem dX4_build_94 : decode cX4_build 94 = .ok (.goto (-78), 3) := by decide +kernel
theorem dX4_build_97 : decode cX4_build 97 = .ok (.return_, 1) := by decide +kernel
theorem dX4_shareOut_0 : decode cX4_shareOut 0 = .ok (.aload_n 0, 1) := by decide +kernel
theorem dX4_shareOut_1 : decode cX4_shareOut 1 = .ok (.getfield 23, 3) := by decide +kernel
theorem dX4_shareOut_4 : decode cX4_shareOut 4 = .ok (.iload_n 1, 1) := by decide +kernel
theorem dX4_shareOut_5 : decode cX4_shareOut 5 = .ok (.aaload, 1) := by decide +kernel
theorem dX4_shareOut_6 : decode cX4_shareOut 6 = .ok (.astore 4, 2) := by decide +kernel
theorem dX4_shareOut_8 : decode cX4_shareOut 8 = .ok (.aload 4, 2) := by decide +kernel
theorem dX4_shareOut_10 : decode cX4_shareOut 10 = .ok (.iconst 0, 1) := by decide +kernel
theorem dX4_shareOut_11 : decode cX4_shareOut 11 = .ok (.invokestatic 47, 3) := by decide +kernel
theorem dX4_shareOut_14 : decode cX4_shareOut 14 = .ok (.iload_n 2, 1) := by decide +kernel
theorem dX4_shareOut_15 : decode cX4_shareOut 15 = .ok (.iconst 1, 1) := by decide +kernel
theorem dX4_shareOut_16 : decode cX4_shareOut 16 = .ok (.if_icmp .lt 15, 3) := by decide +kernel
theorem dX4_shareOut_19 : decode cX4_shareOut 19 = .ok (.aload_n 0, 1) := by decide +kernel
theorem dX4_shareOut_20 : decode cX4_shareOut 20 = .ok (.getfield 9, 3) := by decide +kernel
theorem dX4_shareOut_23 : decode cX4_shareOut 23 = .ok (.iload_n 2, 1) := by decide +kernel
theorem dX4_shareOut_24 : decode cX4_shareOut 24 = .ok (.iconst 1, 1) := by decide +kernel
theorem dX4_shareOut_25 : decode cX4_shareOut 25 = .ok (.isub, 1) := by decide +kernel
theorem dX4_shareOut_26 : decode cX4_shareOut 26 = .ok (.iaload, 1) := by decide +kernel
theorem dX4_shareOut_27 : decode cX4_shareOut 27 = .ok (.iconst 1, 1) := by decide +kernel
theorem dX4_shareOut_28 : decode cX4_shareOut 28 = .ok (.if_icmp .ge 4, 3) := by decide +kernel
theorem dX4_shareOut_31 : decode cX4_shareOut 31 = .ok (.return_, 1) := by decide +kernel
theorem dX4_shareOut_32 : decode cX4_shareOut 32 = .ok (.aload_n 0, 1) := by decide +kernel
theorem dX4_shareOut_33 : decode cX4_shareOut 33 = .ok (.getfield 9, 3) := by decide +kernel
theorem dX4_shareOut_36 : decode cX4_shareOut 36 = .ok (.iload_n 2, 1) := by decide +kernel
theorem dX4_shareOut_37 : decode cX4_shareOut 37 = .ok (.iconst 1, 1) := by decide +kernel
theorem dX4_shareOut_38 : decode cX4_shareOut 38 = .ok (.isub, 1) := by decide +kernel
theorem dX4_shareOut_39 : decode cX4_shareOut 39 = .ok (.iaload, 1) := by decide +kernel
theorem dX4_shareOut_40 : decode cX4_shareOut 40 = .ok (.istore 5, 2) := by decide +kernel
theorem dX4_shareOut_42 : decode cX4_shareOut 42 = .ok (.aload_n 0, 1) := by decide +kernel
theorem dX4_shareOut_43 : decode cX4_shareOut 43 = .ok (.aload 4, 2) := by decide +kernel
theorem dX4_shareOut_45 : decode cX4_shareOut 45 = .ok (.aload_n 0, 1) := by decide +kernel
theorem dX4_shareOut_46 : decode cX4_shareOut 46 = .ok (.getfield 15, 3) := by decide +kernel
theorem dX4_shareOut_49 : decode cX4_shareOut 49 = .ok (.iload_n 2, 1) := by decide +kernel
theorem dX4_shareOut_50 : decode cX4_shareOut 50 = .ok (.iconst 1, 1) := by decide +kernel
theorem dX4_shareOut_51 : decode cX4_shareOut 51 = .ok (.isub, 1) := by decide +kernel
theorem dX4_shareOut_52 : decode cX4_shareOut 52 = .ok (.iaload, 1) := by decide +kernel
theorem dX4_shareOut_53 : decode cX4_shareOut 53 = .ok (.iload_n 3, 1) := by decide +kernel
theorem dX4_shareOut_54 : decode cX4_shareOut 54 = .ok (.iload 5, 2) := by decide +kernel
theorem dX4_shareOut_56 : decode cX4_shareOut 56 = .ok (.irem, 1) := by decide +kernel
theorem dX4_shareOut_57 : decode cX4_shareOut 57 = .ok (.iadd, 1) := by decide +kernel
theorem dX4_shareOut_58 : decode cX4_shareOut 58 = .ok (.invokevirtual 53, 3) := by decide +kernel
theorem dX4_shareOut_61 : decode cX4_shareOut 61 = .ok (.aload_n 0, 1) := by decide +kernel
theorem dX4_shareOut_62 : decode cX4_shareOut 62 = .ok (.aload 4, 2) := by decide +kernel
theorem dX4_shareOut_64 : decode cX4_shareOut 64 = .ok (.aload_n 0, 1) := by decide +kernel
theorem dX4_shareOut_65 : decode cX4_shareOut 65 = .ok (.getfield 15, 3) := by decide +kernel
theorem dX4_shareOut_68 : decode cX4_shareOut 68 = .ok (.iload_n 2, 1) := by decide +kernel
theorem dX4_shareOut_69 : decode cX4_shareOut 69 = .ok (.iconst 1, 1) := by decide +kernel
theorem dX4_shareOut_70 : decode cX4_shareOut 70 = .ok (.isub, 1) := by decide +kernel
theorem dX4_shareOut_71 : decode cX4_shareOut 71 = .ok (.iaload, 1) := by decide +kernel
theorem dX4_shareOut_72 : decode cX4_shareOut 72 = .ok (.iload_n 3, 1) := by decide +kernel
theorem dX4_shareOut_73 : decode cX4_shareOut 73 = .ok (.iconst 1, 1) := by decide +kernel
theorem dX4_shareOut_74 : decode cX4_shareOut 74 = .ok (.iadd, 1) := by decide +kernel
theorem dX4_shareOut_75 : decode cX4_shareOut 75 = .ok (.iload 5, 2) := by decide +kernel
theorem dX4_shareOut_77 : decode cX4_shareOut 77 = .ok (.irem, 1) := by decide +kernel
theorem dX4_shareOut_78 : decode cX4_shareOut 78 = .ok (.iadd, 1) := by decide +kernel
theorem dX4_shareOut_79 : decode cX4_shareOut 79 = .ok (.invokevirtual 53, 3) := by decide +kernel
theorem dX4_shareOut_82 : decode cX4_shareOut 82 = .ok (.return_, 1) := by decide +kernel
theorem dX4_restHalfOn_0 : decode cX4_restHalfOn 0 = .ok (.aload_n 1, 1) := by decide +kernel
theorem dX4_restHalfOn_1 : decode cX4_restHalfOn 1 = .ok (.iload_n 2, 1) := by decide +kernel
theorem dX4_restHalfOn_2 : decode cX4_restHalfOn 2 = .ok (.dup2, 1) := by decide +kernel
theorem dX4_restHalfOn_3 : decode cX4_restHalfOn 3 = .ok (.iaload, 1) := by decide +kernel
theorem dX4_restHalfOn_4 : decode cX4_restHalfOn 4 = .ok (.iconst 4, 1) := by decide +kernel
theorem dX4_restHalfOn_5 : decode cX4_restHalfOn 5 = .ok (.iadd, 1) := by decide +kernel
theorem dX4_restHalfOn_6 : decode cX4_restHalfOn 6 = .ok (.iastore, 1) := by decide +kernel
theorem dX4_restHalfOn_7 : decode cX4_restHalfOn 7 = .ok (.iconst 0, 1) := by decide +kernel
theorem dX4_restHalfOn_8 : decode cX4_restHalfOn 8 = .ok (.istore_n 3, 1) := by decide +kernel
theorem dX4_restHalfOn_9 : decode cX4_restHalfOn 9 = .ok (.iload_n 3, 1) := by decide +kernel
theorem dX4_restHalfOn_10 : decode cX4_restHalfOn 10 = .ok (.iload_n 2, 1) := by decide +kernel
theorem dX4_restHalfOn_11 : decode cX4_restHalfOn 11 = .ok (.if_icmp .ge 25, 3) := by decide +kernel
theorem dX4_restHalfOn_14 : decode cX4_restHalfOn 14 = .ok (.aload_n 1, 1) := by decide +kernel
theorem dX4_restHalfOn_15 : decode cX4_restHalfOn 15 = .ok (.iload_n 3, 1) := by decide +kernel
theorem dX4_restHalfOn_16 : decode cX4_restHalfOn 16 = .ok (.dup2, 1) := by decide +kernel
theorem dX4_restHalfOn_17 : decode cX4_restHalfOn 17 = .ok (.iaload, 1) := by decide +kernel
theorem dX4_restHalfOn_18 : decode cX4_restHalfOn 18 = .ok (.aload_n 0, 1) := by decide +kernel
theorem dX4_restHalfOn_19 : decode cX4_restHalfOn 19 = .ok (.getfield 23, 3) := by decide +kernel
theorem dX4_restHalfOn_22 : decode cX4_restHalfOn 22 = .ok (.iload_n 2, 1) := by decide +kernel
theorem dX4_restHalfOn_23 : decode cX4_restHalfOn 23 = .ok (.aaload, 1) := by decide +kernel
theorem dX4_restHalfOn_24 : decode cX4_restHalfOn 24 = .ok (.iload_n 3, 1) := by decide +kernel
theorem dX4_restHalfOn_25 : decode cX4_restHalfOn 25 = .ok (.iaload, 1) := by decide +kernel
theorem dX4_restHalfOn_26 : decode cX4_restHalfOn 26 = .ok (.iconst 2, 1) := by decide +kernel
theorem dX4_restHalfOn_27 : decode cX4_restHalfOn 27 = .ok (.idiv, 1) := by decide +kernel
theorem dX4_restHalfOn_28 : decode cX4_restHalfOn 28 = .ok (.iadd, 1) := by decide +kernel
theorem dX4_restHalfOn_29 : decode cX4_restHalfOn 29 = .ok (.iastore, 1) := by decide +kernel
theorem dX4_restHalfOn_30 : decode cX4_restHalfOn 30 = .ok (.iinc 3 1, 3) := by decide +kernel
theorem dX4_restHalfOn_33 : decode cX4_restHalfOn 33 = .ok (.goto (-24), 3) := by decide +kernel
theorem dX4_restHalfOn_36 : decode cX4_restHalfOn 36 = .ok (.return_, 1) := by decide +kernel
theorem dX5_init_0 : decode cX5_init 0 = .ok (.aload_n 0, 1) := by decide +kernel
theorem dX5_init_1 : decode cX5_init 1 = .ok (.invokespecial 1, 3) := by decide +kernel
theorem dX5_init_4 : decode cX5_init 4 = .ok (.aload_n 0, 1) := by decide +kernel
theorem dX5_init_5 : decode cX5_init 5 = .ok (.new 7, 3) := by decide +kernel
theorem dX5_init_8 : decode cX5_init 8 = .ok (.dup, 1) := by decide +kernel
theorem dX5_init_9 : decode cX5_init 9 = .ok (.invokespecial 9, 3) := by decide +kernel
theorem dX5_init_12 : decode cX5_init 12 = .ok (.putfield 10, 3) := by decide +kernel
theorem dX5_init_15 : decode cX5_init 15 = .ok (.aload_n 0, 1) := by decide +kernel
theorem dX5_init_16 : decode cX5_init 16 = .ok (.new 16, 3) := by decide +kernel
theorem dX5_init_19 : decode cX5_init 19 = .ok (.dup, 1) := by decide +kernel
theorem dX5_init_20 : decode cX5_init 20 = .ok (.invokespecial 18, 3) := by decide +kernel
theorem dX5_init_23 : decode cX5_init 23 = .ok (.putfield 19, 3) := by decide +kernel
theorem dX5_init_26 : decode cX5_init 26 = .ok (.aload_n 0, 1) := by decide +kernel
theorem dX5_init_27 : decode cX5_init 27 = .ok (.new 23, 3) := by decide +kernel
theorem dX5_init_30 : decode cX5_init 30 = .ok (.dup, 1) := by decide +kernel
theorem dX5_init_31 : decode cX5_init 31 = .ok (.aload_n 0, 1) := by decide +kernel
theorem dX5_init_32 : decode cX5_init 32 = .ok (.getfield 10, 3) := by decide +kernel
theorem dX5_init_35 : decode cX5_init 35 = .ok (.aload_n 0, 1) := by decide +kernel
theorem dX5_init_36 : decode cX5_init 36 = .ok (.getfield 19, 3) := by decide +kernel
theorem dX5_init_39 : decode cX5_init 39 = .ok (.invokespecial 25, 3) := by decide +kernel
theorem dX5_init_42 : decode cX5_init 42 = .ok (.putfield 28, 3) := by decide +kernel
theorem dX5_init_45 : decode cX5_init 45 = .ok (.aload_n 0, 1) := by decide +kernel
theorem dX5_init_46 : decode cX5_init 46 = .ok (.new 32, 3) := by decide +kernel
theorem dX5_init_49 : decode cX5_init 49 = .ok (.dup, 1) := by decide +kernel
theorem dX5_init_50 : decode cX5_init 50 = .ok (.aload_n 0, 1) := by decide +kernel
theorem dX5_init_51 : decode cX5_init 51 = .ok (.getfield 10, 3) := by decide +kernel
theorem dX5_init_54 : decode cX5_init 54 = .ok (.aload_n 0, 1) := by decide +kernel
theorem dX5_init_55 : decode cX5_init 55 = .ok (.getfield 19, 3) := by decide +kernel
theorem dX5_init_58 : decode cX5_init 58 = .ok (.aload_n 0, 1) := by decide +kernel
theorem dX5_init_59 : decode cX5_init 59 = .ok (.getfield 28, 3) := by decide +kernel
theorem dX5_init_62 : decode cX5_init 62 = .ok (.invokespecial 34, 3) := by decide +kernel
theorem dX5_init_65 : decode cX5_init 65 = .ok (.putfield 37, 3) := by decide +kernel
theorem dX5_init_68 : decode cX5_init 68 = .ok (.aload_n 0, 1) := by decide +kernel
theorem dX5_init_69 : decode cX5_init 69 = .ok (.new 41, 3) := by decide +kernel
theorem dX5_init_72 : decode cX5_init 72 = .ok (.dup, 1) := by decide +kernel
theorem dX5_init_73 : decode cX5_init 73 = .ok (.aload_n 0, 1) := by decide +kernel
theorem dX5_init_74 : decode cX5_init 74 = .ok (.getfield 10, 3) := by decide +kernel
theorem dX5_init_77 : decode cX5_init 77 = .ok (.aload_n 0, 1) := by decide +kernel
theorem dX5_init_78 : decode cX5_init 78 = .ok (.getfield 19, 3) := by decide +kernel
theorem dX5_init_81 : decode cX5_init 81 = .ok (.aload_n 0, 1) := by decide +kernel
theorem dX5_init_82 : decode cX5_init 82 = .ok (.getfield 28, 3) := by decide +kernel
theorem dX5_init_85 : decode cX5_init 85 = .ok (.invokespecial 43, 3) := by decide +kernel
theorem dX5_init_88 : decode cX5_init 88 = .ok (.putfield 44, 3) := by decide +kernel
theorem dX5_init_91 : decode cX5_init 91 = .ok (.aload_n 0, 1) := by decide +kernel
theorem dX5_init_92 : decode cX5_init 92 = .ok (.bipush 7, 2) := by decide +kernel
theorem dX5_init_94 : decode cX5_init 94 = .ok (.newarray .int, 2) := by decide +kernel
theorem dX5_init_96 : decode cX5_init 96 = .ok (.putfield 48, 3) := by decide +kernel
theorem dX5_init_99 : decode cX5_init 99 = .ok (.aload_n 0, 1) := by decide +kernel
theorem dX5_init_100 : decode cX5_init 100 = .ok (.iconst 0, 1) := by decide +kernel
theorem dX5_init_101 : decode cX5_init 101 = .ok (.putfield 52, 3) := by decide +kernel
theorem dX5_init_104 : decode cX5_init 104 = .ok (.aload_n 0, 1) := by decide +kernel
theorem dX5_init_105 : decode cX5_init 105 = .ok (.bipush 10, 2) := by decide +kernel
theorem dX5_init_107 : decode cX5_init 107 = .ok (.putfield 56, 3) := by decide +kernel
theorem dX5_init_110 : decode cX5_init 110 = .ok (.aload_n 0, 1) := by decide +kernel
theorem dX5_init_111 : decode cX5_init 111 = .ok (.bipush 15, 2) := by decide +kernel
theorem dX5_init_113 : decode cX5_init 113 = .ok (.putfield 60, 3) := by decide +kernel
theorem dX5_init_116 : decode cX5_init 116 = .ok (.aload_n 0, 1) := by decide +kernel
theorem dX5_init_117 : decode cX5_init 117 = .ok (.iconst 0, 1) := by decide +kernel
theorem dX5_init_118 : decode cX5_init 118 = .ok (.putfield 63, 3) := by decide +kernel
theorem dX5_init_121 : decode cX5_init 121 = .ok (.aload_n 0, 1) := by decide +kernel
theorem dX5_init_122 : decode cX5_init 122 = .ok (.getfield 48, 3) := by decide +kernel
theorem dX5_init_125 : decode cX5_init 125 = .ok (.iconst (-1), 1) := by decide +kernel
theorem dX5_init_126 : decode cX5_init 126 = .ok (.invokestatic 66, 3) := by decide +kernel
theorem dX5_init_129 : decode cX5_init 129 = .ok (.return_, 1) := by decide +kernel
theorem dX5_storeys_0 : decode cX5_storeys 0 = .ok (.iload_n 1, 1) := by decide +kernel
theorem dX5_storeys_1 : decode cX5_storeys 1 = .ok (.iconst 1, 1) := by decide +kernel
theorem dX5_storeys_2 : decode cX5_storeys 2 = .ok (.iconst 4, 1) := by decide +kernel
theorem dX5_storeys_3 : decode cX5_storeys 3 = .ok (.invokestatic 72, 3) := by decide +kernel
theorem dX5_storeys_6 : decode cX5_storeys 6 = .ok (.ifCond .ne 6, 3) := by decide +kernel
theorem dX5_storeys_9 : decode cX5_storeys 9 = .ok (.bipush (-3), 2) := by decide +kernel
theorem dX5_storeys_11 : decode cX5_storeys 11 = .ok (.ireturn, 1) := by decide +kernel
theorem dX5_storeys_12 : decode cX5_storeys 12 = .ok (.aload_n 0, 1) := by decide +kernel
theorem dX5_storeys_13 : decode cX5_storeys 13 = .ok (.getfield 10, 3) := by decide +kernel
theorem dX5_storeys_16 : decode cX5_storeys 16 = .ok (.iload_n 1, 1) := by decide +kernel
theorem dX5_storeys_17 : decode cX5_storeys 17 = .ok (.invokevirtual 76, 3) := by decide +kernel
theorem dX5_storeys_20 : decode cX5_storeys 20 = .ok (.bipush 7, 2) := by decide +kernel
theorem dX5_storeys_22 : decode cX5_storeys 22 = .ok (.if_icmp .le 6, 3) := by decide +kernel
theorem dX5_storeys_25 : decode cX5_storeys 25 = .ok (.bipush (-4), 2) := by decide +kernel
theorem dX5_storeys_27 : decode cX5_storeys 27 = .ok (.ireturn, 1) := by decide +kernel
theorem dX5_storeys_28 : decode cX5_storeys 28 = .ok (.aload_n 0, 1) := by decide +kernel
theorem dX5_storeys_29 : decode cX5_storeys 29 = .ok (.getfield 10, 3) := by decide +kernel
theorem dX5_storeys_32 : decode cX5_storeys 32 = .ok (.iload_n 1, 1) := by decide +kernel
theorem dX5_storeys_33 : decode cX5_storeys 33 = .ok (.invokevirtual 80, 3) := by decide +kernel
theorem dX5_storeys_36 : decode cX5_storeys 36 = .ok (.aload_n 0, 1) := by decide +kernel
theorem dX5_storeys_37 : decode cX5_storeys 37 = .ok (.invokevirtual 84, 3) := by decide +kernel
theorem dX5_storeys_40 : decode cX5_storeys 40 = .ok (.aload_n 0, 1) := by decide +kernel
theorem dX5_storeys_41 : decode cX5_storeys 41 = .ok (.getfield 10, 3) := by decide +kernel
theorem dX5_storeys_44 : decode cX5_storeys 44 = .ok (.getfield 87, 3) := by decide +kernel
theorem dX5_storeys_47 : decode cX5_storeys 47 = .ok (.ireturn, 1) := by decide +kernel
theorem dX5_width_0 : decode cX5_width 0 = .ok (.iload_n 1, 1) := by decide +kernel
theorem dX5_width_1 : decode cX5_width 1 = .ok (.ifCond .lt 8, 3) := by decide +kernel
theorem dX5_width_4 : decode cX5_width 4 = .ok (.iload_n 1, 1) := by decide +kernel
theorem dX5_width_5 : decode cX5_width 5 = .ok (.iconst 4, 1) := by decide +kernel
theorem dX5_width_6 : decode cX5_width 6 = .ok (.if_icmp .lt 6, 3) := by decide +kernel
theorem dX5_width_9 : decode cX5_width 9 = .ok (.bipush (-2), 2) := by decide +kernel
theorem dX5_width_11 : decode cX5_width 11 = .ok (.ireturn, 1) := by decide +kernel
theorem dX5_width_12 : decode cX5_width 12 = .ok (.iload_n 2, 1) := by decide +kernel
theorem dX5_width_13 : decode cX5_width 13 = .ok (.iconst 1, 1) := by decide +kernel
theorem dX5_width_14 : decode cX5_width 14 = .ok (.iconst 3, 1) := by decide +kernel
theorem dX5_width_15 : decode cX5_width 15 = .ok (.invokestatic 72, 3) := by decide +kernel
theorem dX5_width_18 : decode cX5_width 18 = .ok (.ifCond .ne 6, 3) := by decide +kernel
theorem dX5_width_21 : decode cX5_width 21 = .ok (.bipush (-3), 2) := by decide +kernel
theorem dX5_width_23 : decode cX5_width 23 = .ok (.ireturn, 1) := by decide +kernel
theorem dX5_width_24 : decode cX5_width 24 = .ok (.aload_n 0, 1) := by decide +kernel
theorem dX5_width_25 : decode cX5_width 25 = .ok (.getfield 10, 3) := by decide +kernel
theorem dX5_width_28 : decode cX5_width 28 = .ok (.getfield 90, 3) := by decide +kernel
theorem dX5_width_31 : decode cX5_width 31 = .ok (.iload_n 1, 1) := by decide +kernel
theorem dX5_width_32 : decode cX5_width 32 = .ok (.iaload, 1) := by decide +kernel
theorem dX5_width_33 : decode cX5_width 33 = .ok (.istore_n 3, 1) := by decide +kernel
theorem dX5_width_34 : decode cX5_width 34 = .ok (.iload_n 1, 1) := by decide +kernel
theorem dX5_width_35 : decode cX5_width 35 = .ok (.aload_n 0, 1) := by decide +kernel
theorem dX5_width_36 : decode cX5_width 36 = .ok (.getfield 10, 3) := by decide +kernel
theorem dX5_width_39 : decode cX5_width 39 = .ok (.getfield 93, 3) := by decide +kernel
theorem dX5_width_42 : decode cX5_width 42 = .ok (.if_icmp .ge 22, 3) := by decide +kernel
theorem dX5_width_45 : decode cX5_width 45 = .ok (.aload_n 0, 1) := by decide +kernel
theorem dX5_width_46 : decode cX5_width 46 = .ok (.getfield 10, 3) := by decide +kernel
theorem dX5_width_49 : decode cX5_width 49 = .ok (.getfield 87, 3) := by decide +kernel
theorem dX5_width_52 : decode cX5_width 52 = .ok (.iload_n 3, 1) := by decide +kernel
theorem dX5_width_53 : decode cX5_width 53 = .ok (.isub, 1) := by decide +kernel
theorem dX5_width_54 : decode cX5_width 54 = .ok (.iload_n 2, 1) := by decide +kernel
theorem dX5_width_55 : decode cX5_width 55 = .ok (.iadd, 1) := by decide +kernel
theorem dX5_width_56 : decode cX5_width 56 = .ok (.bipush 7, 2) := by decide +kernel
theorem dX5_width_58 : decode cX5_width 58 = .ok (.if_icmp .le 6, 3) := by decide +kernel
theorem dX5_width_61 : decode cX5_width 61 = .ok (.bipush (-4), 2) := by decide +kernel
theorem dX5_width_63 : decode cX5_width 63 = .ok (.ireturn, 1) := by decide +kernel
theorem dX5_width_64 : decode cX5_width 64 = .ok (.aload_n 0, 1) := by decide +kernel
theorem dX5_width_65 : decode cX5_width 65 = .ok (.getfield 10, 3) := by decide +kernel
theorem dX5_width_68 : decode cX5_width 68 = .ok (.getfield 90, 3) := by decide +kernel
theorem dX5_width_71 : decode cX5_width 71 = .ok (.iload_n 1, 1) := by decide +kernel
theorem dX5_width_72 : decode cX5_width 72 = .ok (.iload_n 2, 1) := by decide +kernel
theorem dX5_width_73 : decode cX5_width 73 = .ok (.iastore, 1) := by decide +kernel
theorem dX5_width_74 : decode cX5_width 74 = .ok (.aload_n 0, 1) := by decide +kernel
theorem dX5_width_75 : decode cX5_width 75 = .ok (.getfield 10, 3) := by decide +kernel
theorem dX5_width_78 : decode cX5_width 78 = .ok (.aload_n 0, 1) := by decide +kernel
theorem dX5_width_79 : decode cX5_width 79 = .ok (.getfield 10, 3) := by decide +kernel
theorem dX5_width_82 : decode cX5_width 82 = .ok (.getfield 93, 3) := by decide +kernel
theorem dX5_width_85 : decode cX5_width 85 = .ok (.invokevirtual 80, 3) := by decide +kernel
theorem dX5_width_88 : decode cX5_width 88 = .ok (.aload_n 0, 1) := by decide +kernel
theorem dX5_width_89 : decode cX5_width 89 = .ok (.invokevirtual 84, 3) := by decide +kernel
theorem dX5_width_92 : decode cX5_width 92 = .ok (.iload_n 3, 1) := by decide +kernel
theorem dX5_width_93 : decode cX5_width 93 = .ok (.ireturn, 1) := by decide +kernel
theorem dX5_person_0 : decode cX5_person 0 = .ok (.iload_n 1, 1) := by decide +kernel
theorem dX5_person_1 : decode cX5_person 1 = .ok (.bipush 100, 2) := by decide +kernel
theorem dX5_person_3 : decode cX5_person 3 = .ok (.sipush 200, 3) := by decide +kernel
theorem dX5_person_6 : decode cX5_person 6 = .ok (.invokestatic 72, 3) := by decide +kernel
theorem dX5_person_9 : decode cX5_person 9 = .ok (.ifCond .eq 47, 3) := by decide +kernel
theorem dX5_person_12 : decode cX5_person 12 = .ok (.iload_n 2, 1) := by decide +kernel
theorem dX5_person_13 : decode cX5_person 13 = .ok (.bipush 20, 2) := by decide +kernel
theorem dX5_person_15 : decode cX5_person 15 = .ok (.bipush 120, 2) := by decide +kernel
theorem dX5_person_17 : decode cX5_person 17 = .ok (.invokestatic 72, 3) := by decide +kernel
theorem dX5_person_20 : decode cX5_person 20 = .ok (.ifCond .eq 36, 3) := by decide +kernel
theorem dX5_person_23 : decode cX5_person 23 = .ok (.iload_n 3, 1) := by decide +kernel
theorem dX5_person_24 : decode cX5_person 24 = .ok (.iconst 0, 1) := by decide +kernel
theorem dX5_person_25 : decode cX5_person 25 = .ok (.sipush 400, 3) := by decide +kernel
theorem dX5_person_28 : decode cX5_person 28 = .ok (.invokestatic 72, 3) := by decide +kernel
theorem dX5_person_31 : decode cX5_person 31 = .ok (.ifCond .eq 25, 3) := by decide +kernel
theorem dX5_person_34 : decode cX5_person 34 = .ok (.iload 4, 2) := by decide +kernel
theorem dX5_person_36 : decode cX5_person 36 = .ok (.iconst 0, 1) := by decide +kernel
theorem dX5_person_37 : decode cX5_person 37 = .ok (.iconst 3, 1) := by decide +kernel
theorem dX5_person_38 : decode cX5_person 38 = .ok (.invokestatic 72, 3) := by decide +kernel
theorem dX5_person_41 : decode cX5_person 41 = .ok (.ifCond .eq 15, 3) := by decide +kernel
theorem dX5_person_44 : decode cX5_person 44 = .ok (.iload 5, 2) := by decide +kernel
theorem dX5_person_46 : decode cX5_person 46 = .ok (.iconst 0, 1) := by decide +kernel
theorem dX5_person_47 : decode cX5_person 47 = .ok (.sipush 20000, 3) := by decide +kernel
theorem dX5_person_50 : decode cX5_person 50 = .ok (.invokestatic 72, 3) := by decide +kernel
theorem dX5_person_53 : decode cX5_person 53 = .ok (.ifCond .ne 6, 3) := by decide +kernel
theorem dX5_person_56 : decode cX5_person 56 = .ok (.bipush (-3), 2) := by decide +kernel
theorem dX5_person_58 : decode cX5_person 58 = .ok (.ireturn, 1) := by decide +kernel
theorem dX5_person_59 : decode cX5_person 59 = .ok (.aload_n 0, 1) := by decide +kernel
theorem dX5_person_60 : decode cX5_person 60 = .ok (.getfield 19, 3) := by decide +kernel
theorem dX5_person_63 : decode cX5_person 63 = .ok (.iload_n 1, 1) := by decide +kernel
theorem dX5_person_64 : decode cX5_person 64 = .ok (.iload_n 2, 1) := by decide +kernel
theorem dX5_person_65 : decode cX5_person 65 = .ok (.iload_n 3, 1) := by decide +kernel
theorem dX5_person_66 : decode cX5_person 66 = .ok (.iload 4, 2) := by decide +kernel
theorem dX5_person_68 : decode cX5_person 68 = .ok (.iload 5, 2) := by decide +kernel
theorem dX5_person_70 : decode cX5_person 70 = .ok (.invokevirtual 96, 3) := by decide +kernel
theorem dX5_person_73 : decode cX5_person 73 = .ok (.ireturn, 1) := by decide +kernel
theorem dX5_out_0 : decode cX5_out 0 = .ok (.iload_n 1, 1) := by decide +kernel
theorem dX5_out_1 : decode cX5_out 1 = .ok (.ifCond .lt 14, 3) := by decide +kernel
theorem dX5_out_4 : decode cX5_out 4 = .ok (.iload_n 1, 1) := by decide +kernel
theorem dX5_out_5 : decode cX5_out 5 = .ok (.aload_n 0, 1) := by decide +kernel
theorem dX5_out_6 : decode cX5_out 6 = .ok (.getfield 19, 3) := by decide +kernel
theorem dX5_out_9 : decode cX5_out 9 = .ok (.getfield 100, 3) := by decide +kernel
theorem dX5_out_12 : decode cX5_out 12 = .ok (.if_icmp .lt 6, 3) := by decide +kernel
theorem dX5_out_15 : decode cX5_out 15 = .ok (.bipush (-2), 2) := by decide +kernel
theorem dX5_out_17 : decode cX5_out 17 = .ok (.ireturn, 1) := by decide +kernel
theorem dX5_out_18 : decode cX5_out 18 = .ok (.aload_n 0, 1) := by decide +kernel
theorem dX5_out_19 : decode cX5_out 19 = .ok (.getfield 19, 3) := by decide +kernel
theorem dX5_out_22 : decode cX5_out 22 = .ok (.getfield 103, 3) := by decide +kernel
theorem dX5_out_25 : decode cX5_out 25 = .ok (.iload_n 1, 1) := by decide +kernel
theorem dX5_out_26 : decode cX5_out 26 = .ok (.baload, 1) := by decide +kernel
theorem dX5_out_27 : decode cX5_out 27 = .ok (.ifCond .eq 7, 3) := by decide +kernel
theorem dX5_out_30 : decode cX5_out 30 = .ok (.iconst 1, 1) := by decide +kernel
theorem dX5_out_31 : decode cX5_out 31 = .ok (.goto 4, 3) := by decide +kernel
theorem dX5_out_34 : decode cX5_out 34 = .ok (.iconst 0, 1) := by decide +kernel
theorem dX5_out_35 : decode cX5_out 35 = .ok (.istore_n 3, 1) := by decide +kernel
theorem dX5_out_36 : decode cX5_out 36 = .ok (.aload_n 0, 1) := by decide +kernel
theorem dX5_out_37 : decode cX5_out 37 = .ok (.getfield 19, 3) := by decide +kernel
theorem dX5_out_40 : decode cX5_out 40 = .ok (.getfield 103, 3) := by decide +kernel
theorem dX5_out_43 : decode cX5_out 43 = .ok (.iload_n 1, 1) := by decide +kernel
theorem dX5_out_44 : decode cX5_out 44 = .ok (.iload_n 2, 1) := by decide +kernel
theorem dX5_out_45 : decode cX5_out 45 = .ok (.bastore, 1) := by decide +kernel
theorem dX5_out_46 : decode cX5_out 46 = .ok (.iload_n 3, 1) := by decide +kernel
theorem dX5_out_47 : decode cX5_out 47 = .ok (.ireturn, 1) := by decide +kernel
theorem dX5_play_0 : decode cX5_play 0 = .ok (.iload_n 1, 1) := by decide +kernel
theorem dX5_play_1 : decode cX5_play 1 = .ok (.iconst 0, 1) := by decide +kernel
theorem dX5_play_2 : decode cX5_play 2 = .ok (.bipush 50, 2) := by decide +kernel
theorem dX5_play_4 : decode cX5_play 4 = .ok (.invokestatic 72, 3) := by decide +kernel
theorem dX5_play_7 : decode cX5_play 7 = .ok (.ifCond .ne 6, 3) := by decide +kernel
theorem dX5_play_10 : decode cX5_play 10 = .ok (.bipush (-3), 2) := by decide +kernel
theorem dX5_play_12 : decode cX5_play 12 = .ok (.ireturn, 1) := by decide +kernel
theorem dX5_play_13 : decode cX5_play 13 = .ok (.aload_n 0, 1) := by decide +kernel
theorem dX5_play_14 : decode cX5_play 14 = .ok (.getfield 28, 3) := by decide +kernel
theorem dX5_play_17 : decode cX5_play 17 = .ok (.getfield 107, 3) := by decide +kernel
theorem dX5_play_20 : decode cX5_play 20 = .ok (.istore_n 2, 1) := by decide +kernel
theorem dX5_play_21 : decode cX5_play 21 = .ok (.aload_n 0, 1) := by decide +kernel
theorem dX5_play_22 : decode cX5_play 22 = .ok (.getfield 28, 3) := by decide +kernel
theorem dX5_play_25 : decode cX5_play 25 = .ok (.iload_n 1, 1) := by decide +kernel
theorem dX5_play_26 : decode cX5_play 26 = .ok (.putfield 107, 3) := by decide +kernel
theorem dX5_play_29 : decode cX5_play 29 = .ok (.iload_n 2, 1) := by decide +kernel
theorem dX5_play_30 : decode cX5_play 30 = .ok (.ireturn, 1) := by decide +kernel
theorem dX5_fits_0 : decode cX5_fits 0 = .ok (.aload_n 0, 1) := by decide +kernel
theorem dX5_fits_1 : decode cX5_fits 1 = .ok (.getfield 37, 3) := by decide +kernel
theorem dX5_fits_4 : decode cX5_fits 4 = .ok (.invokevirtual 110, 3) := by decide +kernel
theorem dX5_fits_7 : decode cX5_fits 7 = .ok (.ireturn, 1) := by decide +kernel
theorem dX5_level_0 : decode cX5_level 0 = .ok (.aload_n 0, 1) := by decide +kernel
theorem dX5_level_1 : decode cX5_level 1 = .ok (.getfield 37, 3) := by decide +kernel
theorem dX5_level_4 : decode cX5_level 4 = .ok (.invokevirtual 114, 3) := by decide +kernel
theorem dX5_level_7 : decode cX5_level 7 = .ok (.ifCond .eq 13, 3) := by decide +kernel
theorem dX5_level_10 : decode cX5_level 10 = .ok (.aload_n 0, 1) := by decide +kernel
theorem dX5_level_11 : decode cX5_level 11 = .ok (.getfield 37, 3) := by decide +kernel
theorem dX5_level_14 : decode cX5_level 14 = .ok (.invokevirtual 118, 3) := by decide +kernel
theorem dX5_level_17 : decode cX5_level 17 = .ok (.goto 4, 3) := by decide +kernel
theorem dX5_level_20 : decode cX5_level 20 = .ok (.iconst (-1), 1) := by decide +kernel
theorem dX5_level_21 : decode cX5_level 21 = .ok (.ireturn, 1) := by decide +kernel
theorem dX5_close_0 : decode cX5_close 0 = .ok (.aload_n 0, 1) := by decide +kernel
theorem dX5_close_1 : decode cX5_close 1 = .ok (.getfield 37, 3) := by decide +kernel
theorem dX5_close_4 : decode cX5_close 4 = .ok (.aload_n 0, 1) := by decide +kernel
theorem dX5_close_5 : decode cX5_close 5 = .ok (.getfield 48, 3) := by decide +kernel
theorem dX5_close_8 : decode cX5_close 8 = .ok (.invokevirtual 121, 3) := by decide +kernel
theorem dX5_close_11 : decode cX5_close 11 = .ok (.ifCond .eq 13, 3) := by decide +kernel
theorem dX5_close_14 : decode cX5_close 14 = .ok (.aload_n 0, 1) := by decide +kernel
theorem dX5_close_15 : decode cX5_close 15 = .ok (.getfield 37, 3) := by decide +kernel
theorem dX5_close_18 : decode cX5_close 18 = .ok (.invokevirtual 125, 3) := by decide +kernel
theorem dX5_close_21 : decode cX5_close 21 = .ok (.goto 4, 3) := by decide +kernel
theorem dX5_close_24 : decode cX5_close 24 = .ok (.iconst (-1), 1) := by decide +kernel
theorem dX5_close_25 : decode cX5_close 25 = .ok (.ireturn, 1) := by decide +kernel
theorem dX5_take_0 : decode cX5_take 0 = .ok (.iload_n 1, 1) := by decide +kernel
theorem dX5_take_1 : decode cX5_take 1 = .ok (.iconst 0, 1) := by decide +kernel
theorem dX5_take_2 : decode cX5_take 2 = .ok (.iconst 1, 1) := by decide +kernel
theorem dX5_take_3 : decode cX5_take 3 = .ok (.invokestatic 72, 3) := by decide +kernel
theorem dX5_take_6 : decode cX5_take 6 = .ok (.ifCond .ne 6, 3) := by decide +kernel
theorem dX5_take_9 : decode cX5_take 9 = .ok (.bipush (-3), 2) := by decide +kernel
theorem dX5_take_11 : decode cX5_take 11 = .ok (.ireturn, 1) := by decide +kernel
theorem dX5_take_12 : decode cX5_take 12 = .ok (.iload_n 1, 1) := by decide +kernel
theorem dX5_take_13 : decode cX5_take 13 = .ok (.ifCond .ne 13, 3) := by decide +kernel
theorem dX5_take_16 : decode cX5_take 16 = .ok (.aload_n 0, 1) := by decide +kernel
theorem dX5_take_17 : decode cX5_take 17 = .ok (.getfield 37, 3) := by decide +kernel
theorem dX5_take_20 : decode cX5_take 20 = .ok (.invokevirtual 114, 3) := by decide +kernel
theorem dX5_take_23 : decode cX5_take 23 = .ok (.goto 14, 3) := by decide +kernel
theorem dX5_take_26 : decode cX5_take 26 = .ok (.aload_n 0, 1) := by decide +kernel
theorem dX5_take_27 : decode cX5_take 27 = .ok (.getfield 37, 3) := by decide +kernel
theorem dX5_take_30 : decode cX5_take 30 = .ok (.aload_n 0, 1) := by decide +kernel
theorem dX5_take_31 : decode cX5_take 31 = .ok (.getfield 48, 3) := by decide +kernel
theorem dX5_take_34 : decode cX5_take 34 = .ok (.invokevirtual 121, 3) := by decide +kernel
theorem dX5_take_37 : decode cX5_take 37 = .ok (.istore_n 2, 1) := by decide +kernel
theorem dX5_take_38 : decode cX5_take 38 = .ok (.iload_n 2, 1) := by decide +kernel
theorem dX5_take_39 : decode cX5_take 39 = .ok (.ifCond .ne 6, 3) := by decide +kernel
theorem dX5_take_42 : decode cX5_take 42 = .ok (.bipush (-4), 2) := by decide +kernel
theorem dX5_take_44 : decode cX5_take 44 = .ok (.ireturn, 1) := by decide +kernel
theorem dX5_take_45 : decode cX5_take 45 = .ok (.aload_n 0, 1) := by decide +kernel
theorem dX5_take_46 : decode cX5_take 46 = .ok (.getfield 37, 3) := by decide +kernel
theorem dX5_take_49 : decode cX5_take 49 = .ok (.getfield 128, 3) := by decide +kernel
theorem dX5_take_52 : decode cX5_take 52 = .ok (.iconst 0, 1) := by decide +kernel
theorem dX5_take_53 : decode cX5_take 53 = .ok (.aload_n 0, 1) := by decide +kernel
theorem dX5_take_54 : decode cX5_take 54 = .ok (.getfield 48, 3) := by decide +kernel
theorem dX5_take_57 : decode cX5_take 57 = .ok (.iconst 0, 1) := by decide +kernel
theorem dX5_take_58 : decode cX5_take 58 = .ok (.aload_n 0, 1) := by decide +kernel
theorem dX5_take_59 : decode cX5_take 59 = .ok (.getfield 10, 3) := by decide +kernel
theorem dX5_take_62 : decode cX5_take 62 = .ok (.getfield 87, 3) := by decide +kernel
theorem dX5_take_65 : decode cX5_take 65 = .ok (.invokestatic 131, 3) := by decide +kernel
theorem dX5_take_68 : decode cX5_take 68 = .ok (.aload_n 0, 1) := by decide +kernel
theorem dX5_take_69 : decode cX5_take 69 = .ok (.iconst 1, 1) := by decide +kernel
theorem dX5_take_70 : decode cX5_take 70 = .ok (.putfield 52, 3) := by decide +kernel
theorem dX5_take_73 : decode cX5_take 73 = .ok (.aload_n 0, 1) := by decide +kernel
theorem dX5_take_74 : decode cX5_take 74 = .ok (.getfield 37, 3) := by decide +kernel
theorem dX5_take_77 : decode cX5_take 77 = .ok (.invokevirtual 118, 3) := by decide +kernel
theorem dX5_take_80 : decode cX5_take 80 = .ok (.ireturn, 1) := by decide +kernel
theorem dX5_at_0 : decode cX5_at 0 = .ok (.aload_n 0, 1) := by decide +kernel
theorem dX5_at_1 : decode cX5_at 1 = .ok (.iload_n 1, 1) := by decide +kernel
theorem dX5_at_2 : decode cX5_at 2 = .ok (.invokevirtual 137, 3) := by decide +kernel
theorem dX5_at_5 : decode cX5_at 5 = .ok (.ifCond .ne 6, 3) := by decide +kernel
theorem dX5_at_8 : decode cX5_at 8 = .ok (.bipush (-2), 2) := by decide +kernel
theorem dX5_at_10 : decode cX5_at 10 = .ok (.ireturn, 1) := by decide +kernel
theorem dX5_at_11 : decode cX5_at 11 = .ok (.aload_n 0, 1) := by decide +kernel
theorem dX5_at_12 : decode cX5_at 12 = .ok (.getfield 52, 3) := by decide +kernel
theorem dX5_at_15 : decode cX5_at 15 = .ok (.ifCond .eq 12, 3) := by decide +kernel
theorem dX5_at_18 : decode cX5_at 18 = .ok (.aload_n 0, 1) := by decide +kernel
theorem dX5_at_19 : decode cX5_at 19 = .ok (.getfield 48, 3) := by decide +kernel
theorem dX5_at_22 : decode cX5_at 22 = .ok (.iload_n 1, 1) := by decide +kernel
theorem dX5_at_23 : decode cX5_at 23 = .ok (.iaload, 1) := by decide +kernel
theorem dX5_at_24 : decode cX5_at 24 = .ok (.goto 5, 3) := by decide +kernel
theorem dX5_at_27 : decode cX5_at 27 = .ok (.bipush (-4), 2) := by decide +kernel
theorem dX5_at_29 : decode cX5_at 29 = .ok (.ireturn, 1) := by decide +kernel
theorem dX5_load_0 : decode cX5_load 0 = .ok (.aload_n 0, 1) := by decide +kernel
theorem dX5_load_1 : decode cX5_load 1 = .ok (.iload_n 1, 1) := by decide +kernel
theorem dX5_load_2 : decode cX5_load 2 = .ok (.invokevirtual 137, 3) := by decide +kernel
theorem dX5_load_5 : decode cX5_load 5 = .ok (.ifCond .ne 6, 3) := by decide +kernel
theorem dX5_load_8 : decode cX5_load 8 = .ok (.bipush (-2), 2) := by decide +kernel
theorem dX5_load_10 : decode cX5_load 10 = .ok (.ireturn, 1) := by decide +kernel
theorem dX5_load_11 : decode cX5_load 11 = .ok (.aload_n 0, 1) := by decide +kernel
theorem dX5_load_12 : decode cX5_load 12 = .ok (.getfield 52, 3) := by decide +kernel
theorem dX5_load_15 : decode cX5_load 15 = .ok (.ifCond .eq 25, 3) := by decide +kernel
theorem dX5_load_18 : decode cX5_load 18 = .ok (.aload_n 0, 1) := by decide +kernel
theorem dX5_load_19 : decode cX5_load 19 = .ok (.getfield 28, 3) := by decide +kernel
theorem dX5_load_22 : decode cX5_load 22 = .ok (.aload_n 0, 1) := by decide +kernel
theorem dX5_load_23 : decode cX5_load 23 = .ok (.getfield 48, 3) := by decide +kernel
theorem dX5_load_26 : decode cX5_load 26 = .ok (.iload_n 1, 1) := by decide +kernel
theorem dX5_load_27 : decode cX5_load 27 = .ok (.aload_n 0, 1) := by decide +kernel
theorem dX5_load_28 : decode cX5_load 28 = .ok (.getfield 10, 3) := by decide +kernel
theorem dX5_load_31 : decode cX5_load 31 = .ok (.getfield 87, 3) := by decide +kernel
theorem dX5_load_34 : decode cX5_load 34 = .ok (.invokevirtual 141, 3) := by decide +kernel
theorem dX5_load_37 : decode cX5_load 37 = .ok (.goto 5, 3) := by decide +kernel
theorem dX5_load_40 : decode cX5_load 40 = .ok (.bipush (-4), 2) := by decide +kernel
theorem dX5_load_42 : decode cX5_load 42 = .ok (.ireturn, 1) := by decide +kernel
theorem dX5_swap_0 : decode cX5_swap 0 = .ok (.aload_n 0, 1) := by decide +kernel
theorem dX5_swap_1 : decode cX5_swap 1 = .ok (.iload_n 1, 1) := by decide +kernel
theorem dX5_swap_2 : decode cX5_swap 2 = .ok (.invokevirtual 137, 3) := by decide +kernel
theorem dX5_swap_5 : decode cX5_swap 5 = .ok (.ifCond .eq 11, 3) := by decide +kernel
theorem dX5_swap_8 : decode cX5_swap 8 = .ok (.aload_n 0, 1) := by decide +kernel
theorem dX5_swap_9 : decode cX5_swap 9 = .ok (.iload_n 2, 1) := by decide +kernel
theorem dX5_swap_10 : decode cX5_swap 10 = .ok (.invokevirtual 137, 3) := by decide +kernel
theorem dX5_swap_13 : decode cX5_swap 13 = .ok (.ifCond .ne 6, 3) := by decide +kernel
theorem dX5_swap_16 : decode cX5_swap 16 = .ok (.bipush (-2), 2) := by decide +kernel
theorem dX5_swap_18 : decode cX5_swap 18 = .ok (.ireturn, 1) := by decide +kernel
theorem dX5_swap_19 : decode cX5_swap 19 = .ok (.aload_n 0, 1) := by decide +kernel
theorem dX5_swap_20 : decode cX5_swap 20 = .ok (.getfield 52, 3) := by decide +kernel
theorem dX5_swap_23 : decode cX5_swap 23 = .ok (.ifCond .ne 6, 3) := by decide +kernel
theorem dX5_swap_26 : decode cX5_swap 26 = .ok (.bipush (-4), 2) := by decide +kernel
theorem dX5_swap_28 : decode cX5_swap 28 = .ok (.ireturn, 1) := by decide +kernel
theorem dX5_swap_29 : decode cX5_swap 29 = .ok (.aload_n 0, 1) := by decide +kernel
theorem dX5_swap_30 : decode cX5_swap 30 = .ok (.iload_n 1, 1) := by decide +kernel
theorem dX5_swap_31 : decode cX5_swap 31 = .ok (.iload_n 2, 1) := by decide +kernel
theorem dX5_swap_32 : decode cX5_swap 32 = .ok (.invokevirtual 145, 3) := by decide +kernel
theorem dX5_swap_35 : decode cX5_swap 35 = .ok (.aload_n 0, 1) := by decide +kernel
theorem dX5_swap_36 : decode cX5_swap 36 = .ok (.getfield 28, 3) := by decide +kernel
theorem dX5_swap_39 : decode cX5_swap 39 = .ok (.aload_n 0, 1) := by decide +kernel
theorem dX5_swap_40 : decode cX5_swap 40 = .ok (.getfield 48, 3) := by decide +kernel
theorem dX5_swap_43 : decode cX5_swap 43 = .ok (.invokevirtual 149, 3) := by decide +kernel
theorem dX5_swap_46 : decode cX5_swap 46 = .ok (.ifCond .ne 12, 3) := by decide +kernel
theorem dX5_swap_49 : decode cX5_swap 49 = .ok (.aload_n 0, 1) := by decide +kernel
theorem dX5_swap_50 : decode cX5_swap 50 = .ok (.iload_n 1, 1) := by decide +kernel
theorem dX5_swap_51 : decode cX5_swap 51 = .ok (.iload_n 2, 1) := by decide +kernel
theorem dX5_swap_52 : decode cX5_swap 52 = .ok (.invokevirtual 145, 3) := by decide +kernel
theorem dX5_swap_55 : decode cX5_swap 55 = .ok (.bipush (-4), 2) := by decide +kernel
theorem dX5_swap_57 : decode cX5_swap 57 = .ok (.ireturn, 1) := by decide +kernel
theorem dX5_swap_58 : decode cX5_swap 58 = .ok (.iconst 1, 1) := by decide +kernel
theorem dX5_swap_59 : decode cX5_swap 59 = .ok (.ireturn, 1) := by decide +kernel
theorem dX5_tick_0 : decode cX5_tick 0 = .ok (.iload_n 1, 1) := by decide +kernel
theorem dX5_tick_1 : decode cX5_tick 1 = .ok (.iconst 0, 1) := by decide +kernel
theorem dX5_tick_2 : decode cX5_tick 2 = .ok (.iconst 2, 1) := by decide +kernel
theorem dX5_tick_3 : decode cX5_tick 3 = .ok (.invokestatic 72, 3) := by decide +kernel
theorem dX5_tick_6 : decode cX5_tick 6 = .ok (.ifCond .ne 6, 3) := by decide +kernel
theorem dX5_tick_9 : decode cX5_tick 9 = .ok (.bipush (-3), 2) := by decide +kernel
theorem dX5_tick_11 : decode cX5_tick 11 = .ok (.ireturn, 1) := by decide +kernel
theorem dX5_tick_12 : decode cX5_tick 12 = .ok (.aload_n 0, 1) := by decide +kernel
theorem dX5_tick_13 : decode cX5_tick 13 = .ok (.getfield 52, 3) := by decide +kernel
theorem dX5_tick_16 : decode cX5_tick 16 = .ok (.ifCond .ne 6, 3) := by decide +kernel
theorem dX5_tick_19 : decode cX5_tick 19 = .ok (.bipush (-4), 2) := by decide +kernel
theorem dX5_tick_21 : decode cX5_tick 21 = .ok (.ireturn, 1) := by decide +kernel
theorem dX5_tick_22 : decode cX5_tick 22 = .ok (.iload_n 1, 1) := by decide +kernel
theorem dX5_tick_23 : decode cX5_tick 23 = .ok (.iconst 2, 1) := by decide +kernel
theorem dX5_tick_24 : decode cX5_tick 24 = .ok (.if_icmp .ne 25, 3) := by decide +kernel
theorem dX5_tick_27 : decode cX5_tick 27 = .ok (.aload_n 0, 1) := by decide +kernel
theorem dX5_tick_28 : decode cX5_tick 28 = .ok (.getfield 44, 3) := by decide +kernel
theorem dX5_tick_31 : decode cX5_tick 31 = .ok (.aload_n 0, 1) := by decide +kernel
theorem dX5_tick_32 : decode cX5_tick 32 = .ok (.getfield 48, 3) := by decide +kernel
theorem dX5_tick_35 : decode cX5_tick 35 = .ok (.sipush 200, 3) := by decide +kernel
theorem dX5_tick_38 : decode cX5_tick 38 = .ok (.invokevirtual 152, 3) := by decide +kernel
theorem dX5_tick_41 : decode cX5_tick 41 = .ok (.aload_n 0, 1) := by decide +kernel
theorem dX5_tick_42 : decode cX5_tick 42 = .ok (.getfield 44, 3) := by decide +kernel
theorem dX5_tick_45 : decode cX5_tick 45 = .ok (.getfield 155, 3) := by decide +kernel
theorem dX5_tick_48 : decode cX5_tick 48 = .ok (.ireturn, 1) := by decide +kernel
theorem dX5_tick_49 : decode cX5_tick 49 = .ok (.aload_n 0, 1) := by decide +kernel
theorem dX5_tick_50 : decode cX5_tick 50 = .ok (.getfield 44, 3) := by decide +kernel
theorem dX5_tick_53 : decode cX5_tick 53 = .ok (.invokevirtual 158, 3) := by decide +kernel
theorem dX5_tick_56 : decode cX5_tick 56 = .ok (.istore_n 2, 1) := by decide +kernel
theorem dX5_tick_57 : decode cX5_tick 57 = .ok (.iload_n 1, 1) := by decide +kernel
theorem dX5_tick_58 : decode cX5_tick 58 = .ok (.ifCond .ne 7, 3) := by decide +kernel
theorem dX5_tick_61 : decode cX5_tick 61 = .ok (.iload_n 2, 1) := by decide +kernel
theorem dX5_tick_62 : decode cX5_tick 62 = .ok (.goto 6, 3) := by decide +kernel
theorem dX5_tick_65 : decode cX5_tick 65 = .ok (.iconst 2, 1) := by decide +kernel
theorem dX5_tick_66 : decode cX5_tick 66 = .ok (.iload_n 2, 1) := by decide +kernel
theorem dX5_tick_67 : decode cX5_tick 67 = .ok (.imul, 1) := by decide +kernel
theorem dX5_tick_68 : decode cX5_tick 68 = .ok (.ireturn, 1) := by decide +kernel
theorem dX5_weak_0 : decode cX5_weak 0 = .ok (.aload_n 0, 1) := by decide +kernel
theorem dX5_weak_1 : decode cX5_weak 1 = .ok (.getfield 52, 3) := by decide +kernel
theorem dX5_weak_4 : decode cX5_weak 4 = .ok (.ifCond .ne 6, 3) := by decide +kernel
theorem dX5_weak_7 : decode cX5_weak 7 = .ok (.bipush (-4), 2) := by decide +kernel
theorem dX5_weak_9 : decode cX5_weak 9 = .ok (.ireturn, 1) := by decide +kernel
theorem dX5_weak_10 : decode cX5_weak 10 = .ok (.aload_n 0, 1) := by decide +kernel
theorem dX5_weak_11 : decode cX5_weak 11 = .ok (.getfield 44, 3) := by decide +kernel
theorem dX5_weak_14 : decode cX5_weak 14 = .ok (.aload_n 0, 1) := by decide +kernel
theorem dX5_weak_15 : decode cX5_weak 15 = .ok (.getfield 48, 3) := by decide +kernel
theorem dX5_weak_18 : decode cX5_weak 18 = .ok (.sipush 200, 3) := by decide +kernel
theorem dX5_weak_21 : decode cX5_weak 21 = .ok (.invokevirtual 152, 3) := by decide +kernel
theorem dX5_weak_24 : decode cX5_weak 24 = .ok (.aload_n 0, 1) := by decide +kernel
theorem dX5_weak_25 : decode cX5_weak 25 = .ok (.getfield 44, 3) := by decide +kernel
theorem dX5_weak_28 : decode cX5_weak 28 = .ok (.getfield 161, 3) := by decide +kernel
theorem dX5_weak_31 : decode cX5_weak 31 = .ok (.ireturn, 1) := by decide +kernel
theorem dX5_effort_0 : decode cX5_effort 0 = .ok (.aload_n 0, 1) := by decide +kernel
theorem dX5_effort_1 : decode cX5_effort 1 = .ok (.iload_n 1, 1) := by decide +kernel
theorem dX5_effort_2 : decode cX5_effort 2 = .ok (.invokevirtual 137, 3) := by decide +kernel
theorem dX5_effort_5 : decode cX5_effort 5 = .ok (.ifCond .ne 6, 3) := by decide +kernel
theorem dX5_effort_8 : decode cX5_effort 8 = .ok (.bipush (-2), 2) := by decide +kernel
theorem dX5_effort_10 : decode cX5_effort 10 = .ok (.ireturn, 1) := by decide +kernel
theorem dX5_effort_11 : decode cX5_effort 11 = .ok (.iload_n 2, 1) := by decide +kernel
theorem dX5_effort_12 : decode cX5_effort 12 = .ok (.iconst 0, 1) := by decide +kernel
theorem dX5_effort_13 : decode cX5_effort 13 = .ok (.sipush 200, 3) := by decide +kernel
theorem dX5_effort_16 : decode cX5_effort 16 = .ok (.invokestatic 72, 3) := by decide +kernel
theorem dX5_effort_19 : decode cX5_effort 19 = .ok (.ifCond .ne 6, 3) := by decide +kernel
theorem dX5_effort_22 : decode cX5_effort 22 = .ok (.bipush (-3), 2) := by decide +kernel
theorem dX5_effort_24 : decode cX5_effort 24 = .ok (.ireturn, 1) := by decide +kernel
theorem dX5_effort_25 : decode cX5_effort 25 = .ok (.aload_n 0, 1) := by decide +kernel
theorem dX5_effort_26 : decode cX5_effort 26 = .ok (.getfield 52, 3) := by decide +kernel
theorem dX5_effort_29 : decode cX5_effort 29 = .ok (.ifCond .ne 6, 3) := by decide +kernel
theorem dX5_effort_32 : decode cX5_effort 32 = .ok (.bipush (-4), 2) := by decide +kernel
theorem dX5_effort_34 : decode cX5_effort 34 = .ok (.ireturn, 1) := by decide +kernel
theorem dX5_effort_35 : decode cX5_effort 35 = .ok (.aload_n 0, 1) := by decide +kernel
theorem dX5_effort_36 : decode cX5_effort 36 = .ok (.getfield 44, 3) := by decide +kernel
theorem dX5_effort_39 : decode cX5_effort 39 = .ok (.aload_n 0, 1) := by decide +kernel
theorem dX5_effort_40 : decode cX5_effort 40 = .ok (.getfield 48, 3) := by decide +kernel
theorem dX5_effort_43 : decode cX5_effort 43 = .ok (.iload_n 2, 1) := by decide +kernel
theorem dX5_effort_44 : decode cX5_effort 44 = .ok (.invokevirtual 152, 3) := by decide +kernel
theorem dX5_effort_47 : decode cX5_effort 47 = .ok (.aload_n 0, 1) := by decide +kernel
theorem dX5_effort_48 : decode cX5_effort 48 = .ok (.getfield 44, 3) := by decide +kernel
theorem dX5_effort_51 : decode cX5_effort 51 = .ok (.getfield 164, 3) := by decide +kernel
theorem dX5_effort_54 : decode cX5_effort 54 = .ok (.iload_n 1, 1) := by decide +kernel
theorem dX5_effort_55 : decode cX5_effort 55 = .ok (.iaload, 1) := by decide +kernel
theorem dX5_effort_56 : decode cX5_effort 56 = .ok (.ireturn, 1) := by decide +kernel
theorem dX5_worths_0 : decode cX5_worths 0 = .ok (.iload_n 1, 1) := by decide +kernel
theorem dX5_worths_1 : decode cX5_worths 1 = .ok (.iconst 0, 1) := by decide +kernel
theorem dX5_worths_2 : decode cX5_worths 2 = .ok (.sipush 1000, 3) := by decide +kernel
theorem dX5_worths_5 : decode cX5_worths 5 = .ok (.invokestatic 72, 3) := by decide +kernel
theorem dX5_worths_8 : decode cX5_worths 8 = .ok (.ifCond .eq 14, 3) := by decide +kernel
theorem dX5_worths_11 : decode cX5_worths 11 = .ok (.iload_n 2, 1) := by decide +kernel
theorem dX5_worths_12 : decode cX5_worths 12 = .ok (.iconst 0, 1) := by decide +kernel
theorem dX5_worths_13 : decode cX5_worths 13 = .ok (.sipush 1000, 3) := by decide +kernel
theorem dX5_worths_16 : decode cX5_worths 16 = .ok (.invokestatic 72, 3) := by decide +kernel
theorem dX5_worths_19 : decode cX5_worths 19 = .ok (.ifCond .ne 6, 3) := by decide +kernel
theorem dX5_worths_22 : decode cX5_worths 22 = .ok (.bipush (-3), 2) := by decide +kernel
theorem dX5_worths_24 : decode cX5_worths 24 = .ok (.ireturn, 1) := by decide +kernel
theorem dX5_worths_25 : decode cX5_worths 25 = .ok (.aload_n 0, 1) := by decide +kernel
theorem dX5_worths_26 : decode cX5_worths 26 = .ok (.iload_n 1, 1) := by decide +kernel
theorem dX5_worths_27 : decode cX5_worths 27 = .ok (.putfield 56, 3) := by decide +kernel
theorem dX5_worths_30 : decode cX5_worths 30 = .ok (.aload_n 0, 1) := by decide +kernel
theorem dX5_worths_31 : decode cX5_worths 31 = .ok (.iload_n 2, 1) := by decide +kernel
theorem dX5_worths_32 : decode cX5_worths 32 = .ok (.putfield 60, 3) := by decide +kernel
theorem dX5_worths_35 : decode cX5_worths 35 = .ok (.iconst 1, 1) := by decide +kernel
theorem dX5_worths_36 : decode cX5_worths 36 = .ok (.ireturn, 1) := by decide +kernel
theorem dX5_attempt_0 : decode cX5_attempt 0 = .ok (.aload_n 0, 1) := by decide +kernel
theorem dX5_attempt_1 : decode cX5_attempt 1 = .ok (.getfield 52, 3) := by decide +kernel
theorem dX5_attempt_4 : decode cX5_attempt 4 = .ok (.ifCond .ne 6, 3) := by decide +kernel
theorem dX5_attempt_7 : decode cX5_attempt 7 = .ok (.bipush (-4), 2) := by decide +kernel
theorem dX5_attempt_9 : decode cX5_attempt 9 = .ok (.ireturn, 1) := by decide +kernel
theorem dX5_attempt_10 : decode cX5_attempt 10 = .ok (.aload_n 0, 1) := by decide +kernel
theorem dX5_attempt_11 : decode cX5_attempt 11 = .ok (.invokevirtual 167, 3) := by decide +kernel
theorem dX5_attempt_14 : decode cX5_attempt 14 = .ok (.istore_n 1, 1) := by decide +kernel
theorem dX5_attempt_15 : decode cX5_attempt 15 = .ok (.aload_n 0, 1) := by decide +kernel
theorem dX5_attempt_16 : decode cX5_attempt 16 = .ok (.dup, 1) := by decide +kernel
theorem dX5_attempt_17 : decode cX5_attempt 17 = .ok (.getfield 63, 3) := by decide +kernel
theorem dX5_attempt_20 : decode cX5_attempt 20 = .ok (.iload_n 1, 1) := by decide +kernel
theorem dX5_attempt_21 : decode cX5_attempt 21 = .ok (.iadd, 1) := by decide +kernel
theorem dX5_attempt_22 : decode cX5_attempt 22 = .ok (.putfield 63, 3) := by decide +kernel
theorem dX5_attempt_25 : decode cX5_attempt 25 = .ok (.iload_n 1, 1) := by decide +kernel
theorem dX5_attempt_26 : decode cX5_attempt 26 = .ok (.ireturn, 1) := by decide +kernel
theorem dX5_count_0 : decode cX5_count 0 = .ok (.iload_n 1, 1) := by decide +kernel
theorem dX5_count_1 : decode cX5_count 1 = .ok (.tableswitch 89 0 5 #[39, 47, 55, 63, 71, 76], 39) := by decide +kernel
theorem dX5_count_40 : decode cX5_count 40 = .ok (.aload_n 0, 1) := by decide +kernel
theorem dX5_count_41 : decode cX5_count 41 = .ok (.getfield 10, 3) := by decide +kernel
theorem dX5_count_44 : decode cX5_count 44 = .ok (.getfield 93, 3) := by decide +kernel
theorem dX5_count_47 : decode cX5_count 47 = .ok (.ireturn, 1) := by decide +kernel
theorem dX5_count_48 : decode cX5_count 48 = .ok (.aload_n 0, 1) := by decide +kernel
theorem dX5_count_49 : decode cX5_count 49 = .ok (.getfield 10, 3) := by decide +kernel
theorem dX5_count_52 : decode cX5_count 52 = .ok (.getfield 87, 3) := by decide +kernel
theorem dX5_count_55 : decode cX5_count 55 = .ok (.ireturn, 1) := by decide +kernel
theorem dX5_count_56 : decode cX5_count 56 = .ok (.aload_n 0, 1) := by decide +kernel
theorem dX5_count_57 : decode cX5_count 57 = .ok (.getfield 19, 3) := by decide +kernel
theorem dX5_count_60 : decode cX5_count 60 = .ok (.getfield 100, 3) := by decide +kernel
theorem dX5_count_63 : decode cX5_count 63 = .ok (.ireturn, 1) := by decide +kernel
theorem dX5_count_64 : decode cX5_count 64 = .ok (.aload_n 0, 1) := by decide +kernel
theorem dX5_count_65 : decode cX5_count 65 = .ok (.getfield 19, 3) := by decide +kernel
theorem dX5_count_68 : decode cX5_count 68 = .ok (.invokevirtual 170, 3) := by decide +kernel
theorem dX5_count_71 : decode cX5_count 71 = .ok (.ireturn, 1) := by decide +kernel
theorem dX5_count_72 : decode cX5_count 72 = .ok (.aload_n 0, 1) := by decide +kernel
theorem dX5_count_73 : decode cX5_count 73 = .ok (.getfield 63, 3) := by decide +kernel
theorem dX5_count_76 : decode cX5_count 76 = .ok (.ireturn, 1) := by decide +kernel
theorem dX5_count_77 : decode cX5_count 77 = .ok (.aload_n 0, 1) := by decide +kernel
theorem dX5_count_78 : decode cX5_count 78 = .ok (.getfield 52, 3) := by decide +kernel
theorem dX5_count_81 : decode cX5_count 81 = .ok (.ifCond .eq 7, 3) := by decide +kernel
theorem dX5_count_84 : decode cX5_count 84 = .ok (.iconst 1, 1) := by decide +kernel
theorem dX5_count_85 : decode cX5_count 85 = .ok (.goto 4, 3) := by decide +kernel
theorem dX5_count_88 : decode cX5_count 88 = .ok (.iconst 0, 1) := by decide +kernel
theorem dX5_count_89 : decode cX5_count 89 = .ok (.ireturn, 1) := by decide +kernel
theorem dX5_count_90 : decode cX5_count 90 = .ok (.bipush (-3), 2) := by decide +kernel
theorem dX5_count_92 : decode cX5_count 92 = .ok (.ireturn, 1) := by decide +kernel
theorem dX5_within_0 : decode cX5_within 0 = .ok (.iload_n 0, 1) := by decide +kernel
theorem dX5_within_1 : decode cX5_within 1 = .ok (.iload_n 1, 1) := by decide +kernel
theorem dX5_within_2 : decode cX5_within 2 = .ok (.if_icmp .lt 12, 3) := by decide +kernel
theorem dX5_within_5 : decode cX5_within 5 = .ok (.iload_n 0, 1) := by decide +kernel
theorem dX5_within_6 : decode cX5_within 6 = .ok (.iload_n 2, 1) := by decide +kernel
theorem dX5_within_7 : decode cX5_within 7 = .ok (.if_icmp .gt 7, 3) := by decide +kernel
theorem dX5_within_10 : decode cX5_within 10 = .ok (.iconst 1, 1) := by decide +kernel
theorem dX5_within_11 : decode cX5_within 11 = .ok (.goto 4, 3) := by decide +kernel
theorem dX5_within_14 : decode cX5_within 14 = .ok (.iconst 0, 1) := by decide +kernel
theorem dX5_within_15 : decode cX5_within 15 = .ok (.ireturn, 1) := by decide +kernel
theorem dX5_isPlace_0 : decode cX5_isPlace 0 = .ok (.iload_n 1, 1) := by decide +kernel
theorem dX5_isPlace_1 : decode cX5_isPlace 1 = .ok (.ifCond .lt 18, 3) := by decide +kernel
theorem dX5_isPlace_4 : decode cX5_isPlace 4 = .ok (.iload_n 1, 1) := by decide +kernel
theorem dX5_isPlace_5 : decode cX5_isPlace 5 = .ok (.aload_n 0, 1) := by decide +kernel
theorem dX5_isPlace_6 : decode cX5_isPlace 6 = .ok (.getfield 10, 3) := by decide +kernel
theorem dX5_isPlace_9 : decode cX5_isPlace 9 = .ok (.getfield 87, 3) := by decide +kernel
theorem dX5_isPlace_12 : decode cX5_isPlace 12 = .ok (.if_icmp .ge 7, 3) := by decide +kernel
theorem dX5_isPlace_15 : decode cX5_isPlace 15 = .ok (.iconst 1, 1) := by decide +kernel
theorem dX5_isPlace_16 : decode cX5_isPlace 16 = .ok (.goto 4, 3) := by decide +kernel
theorem dX5_isPlace_19 : decode cX5_isPlace 19 = .ok (.iconst 0, 1) := by decide +kernel
theorem dX5_isPlace_20 : decode cX5_isPlace 20 = .ok (.ireturn, 1) := by decide +kernel
theorem dX5_endPlacing_0 : decode cX5_endPlacing 0 = .ok (.aload_n 0, 1) := by decide +kernel
theorem dX5_endPlacing_1 : decode cX5_endPlacing 1 = .ok (.getfield 48, 3) := by decide +kernel
theorem dX5_endPlacing_4 : decode cX5_endPlacing 4 = .ok (.iconst (-1), 1) := by decide +kernel
theorem dX5_endPlacing_5 : decode cX5_endPlacing 5 = .ok (.invokestatic 66, 3) := by decide +kernel
theorem dX5_endPlacing_8 : decode cX5_endPlacing 8 = .ok (.aload_n 0, 1) := by decide +kernel
theorem dX5_endPlacing_9 : decode cX5_endPlacing 9 = .ok (.iconst 0, 1) := by decide +kernel
theorem dX5_endPlacing_10 : decode cX5_endPlacing 10 = .ok (.putfield 52, 3) := by decide +kernel
theorem dX5_endPlacing_13 : decode cX5_endPlacing 13 = .ok (.return_, 1) := by decide +kernel
theorem dX5_exchange_0 : decode cX5_exchange 0 = .ok (.aload_n 0, 1) := by decide +kernel
theorem dX5_exchange_1 : decode cX5_exchange 1 = .ok (.getfield 48, 3) := by decide +kernel
theorem dX5_exchange_4 : decode cX5_exchange 4 = .ok (.iload_n 1, 1) := by decide +kernel
theorem dX5_exchange_5 : decode cX5_exchange 5 = .ok (.iaload, 1) := by decide +kernel
theorem dX5_exchange_6 : decode cX5_exchange 6 = .ok (.istore_n 3, 1) := by decide +kernel
theorem dX5_exchange_7 : decode cX5_exchange 7 = .ok (.aload_n 0, 1) := by decide +kernel
theorem dX5_exchange_8 : decode cX5_exchange 8 = .ok (.getfield 48, 3) := by decide +kernel
theorem dX5_exchange_11 : decode cX5_exchange 11 = .ok (.iload_n 1, 1) := by decide +kernel
theorem dX5_exchange_12 : decode cX5_exchange 12 = .ok (.aload_n 0, 1) := by decide +kernel
theorem dX5_exchange_13 : decode cX5_exchange 13 = .ok (.getfield 48, 3) := by decide +kernel
theorem dX5_exchange_16 : decode cX5_exchange 16 = .ok (.iload_n 2, 1) := by decide +kernel
theorem dX5_exchange_17 : decode cX5_exchange 17 = .ok (.iaload, 1) := by decide +kernel
theorem dX5_exchange_18 : decode cX5_exchange 18 = .ok (.iastore, 1) := by decide +kernel
theorem dX5_exchange_19 : decode cX5_exchange 19 = .ok (.aload_n 0, 1) := by decide +kernel
theorem dX5_exchange_20 : decode cX5_exchange 20 = .ok (.getfield 48, 3) := by decide +kernel
theorem dX5_exchange_23 : decode cX5_exchange 23 = .ok (.iload_n 2, 1) := by decide +kernel
theorem dX5_exchange_24 : decode cX5_exchange 24 = .ok (.iload_n 3, 1) := by decide +kernel
theorem dX5_exchange_25 : decode cX5_exchange 25 = .ok (.iastore, 1) := by decide +kernel
theorem dX5_exchange_26 : decode cX5_exchange 26 = .ok (.return_, 1) := by decide +kernel
theorem dX5_pointsOfTry_0 : decode cX5_pointsOfTry 0 = .ok (.aload_n 0, 1) := by decide +kernel
theorem dX5_pointsOfTry_1 : decode cX5_pointsOfTry 1 = .ok (.getfield 44, 3) := by decide +kernel
theorem dX5_pointsOfTry_4 : decode cX5_pointsOfTry 4 = .ok (.aload_n 0, 1) := by decide +kernel
theorem dX5_pointsOfTry_5 : decode cX5_pointsOfTry 5 = .ok (.getfield 48, 3) := by decide +kernel
theorem dX5_pointsOfTry_8 : decode cX5_pointsOfTry 8 = .ok (.sipush 200, 3) := by decide +kernel
theorem dX5_pointsOfTry_11 : decode cX5_pointsOfTry 11 = .ok (.invokevirtual 152, 3) := by decide +kernel
theorem dX5_pointsOfTry_14 : decode cX5_pointsOfTry 14 = .ok (.aload_n 0, 1) := by decide +kernel
theorem dX5_pointsOfTry_15 : decode cX5_pointsOfTry 15 = .ok (.getfield 44, 3) := by decide +kernel
theorem dX5_pointsOfTry_18 : decode cX5_pointsOfTry 18 = .ok (.getfield 155, 3) := by decide +kernel
theorem dX5_pointsOfTry_21 : decode cX5_pointsOfTry 21 = .ok (.iconst (-1), 1) := by decide +kernel
theorem dX5_pointsOfTry_22 : decode cX5_pointsOfTry 22 = .ok (.if_icmp .ne 8, 3) := by decide +kernel
theorem dX5_pointsOfTry_25 : decode cX5_pointsOfTry 25 = .ok (.aload_n 0, 1) := by decide +kernel
theorem dX5_pointsOfTry_26 : decode cX5_pointsOfTry 26 = .ok (.getfield 60, 3) := by decide +kernel
theorem dX5_pointsOfTry_29 : decode cX5_pointsOfTry 29 = .ok (.ireturn, 1) := by decide +kernel
theorem dX5_pointsOfTry_30 : decode cX5_pointsOfTry 30 = .ok (.aload_n 0, 1) := by decide +kernel
theorem dX5_pointsOfTry_31 : decode cX5_pointsOfTry 31 = .ok (.getfield 44, 3) := by decide +kernel
theorem dX5_pointsOfTry_34 : decode cX5_pointsOfTry 34 = .ok (.getfield 155, 3) := by decide +kernel
theorem dX5_pointsOfTry_37 : decode cX5_pointsOfTry 37 = .ok (.aload_n 0, 1) := by decide +kernel
theorem dX5_pointsOfTry_38 : decode cX5_pointsOfTry 38 = .ok (.getfield 44, 3) := by decide +kernel
theorem dX5_pointsOfTry_41 : decode cX5_pointsOfTry 41 = .ok (.invokevirtual 158, 3) := by decide +kernel
theorem dX5_pointsOfTry_44 : decode cX5_pointsOfTry 44 = .ok (.if_icmp .le 10, 3) := by decide +kernel
theorem dX5_pointsOfTry_47 : decode cX5_pointsOfTry 47 = .ok (.aload_n 0, 1) := by decide +kernel
theorem dX5_pointsOfTry_48 : decode cX5_pointsOfTry 48 = .ok (.getfield 56, 3) := by decide +kernel
theorem dX5_pointsOfTry_51 : decode cX5_pointsOfTry 51 = .ok (.goto 4, 3) := by decide +kernel
theorem dX5_pointsOfTry_54 : decode cX5_pointsOfTry 54 = .ok (.iconst 0, 1) := by decide +kernel
theorem dX5_pointsOfTry_55 : decode cX5_pointsOfTry 55 = .ok (.ireturn, 1) := by decide +kernel
theorem dX6_init_0 : decode cX6_init 0 = .ok (.aload_n 0, 1) := by decide +kernel
theorem dX6_init_1 : decode cX6_init 1 = .ok (.invokespecial 1, 3) := by decide +kernel
theorem dX6_init_4 : decode cX6_init 4 = .ok (.aload_n 0, 1) := by decide +kernel
theorem dX6_init_5 : decode cX6_init 5 = .ok (.iconst 2, 1) := by decide +kernel
theorem dX6_init_6 : decode cX6_init 6 = .ok (.putfield 7, 3) := by decide +kernel
theorem dX6_init_9 : decode cX6_init 9 = .ok (.aload_n 0, 1) := by decide +kernel
theorem dX6_init_10 : decode cX6_init 10 = .ok (.iconst 4, 1) := by decide +kernel
theorem dX6_init_11 : decode cX6_init 11 = .ok (.newarray .int, 2) := by decide +kernel
theorem dX6_init_13 : decode cX6_init 13 = .ok (.putfield 13, 3) := by decide +kernel
theorem dX6_init_16 : decode cX6_init 16 = .ok (.aload_n 0, 1) := by decide +kernel
theorem dX6_init_17 : decode cX6_init 17 = .ok (.bipush 8, 2) := by decide +kernel
theorem dX6_init_19 : decode cX6_init 19 = .ok (.newarray .int, 2) := by decide +kernel
theorem dX6_init_21 : decode cX6_init 21 = .ok (.putfield 17, 3) := by decide +kernel
theorem dX6_init_24 : decode cX6_init 24 = .ok (.aload_n 0, 1) := by decide +kernel
theorem dX6_init_25 : decode cX6_init 25 = .ok (.bipush 8, 2) := by decide +kernel
theorem dX6_init_27 : decode cX6_init 27 = .ok (.newarray .int, 2) := by decide +kernel
theorem dX6_init_29 : decode cX6_init 29 = .ok (.putfield 20, 3) := by decide +kernel
theorem dX6_init_32 : decode cX6_init 32 = .ok (.aload_n 0, 1) := by decide +kernel
theorem dX6_init_33 : decode cX6_init 33 = .ok (.bipush 8, 2) := by decide +kernel
theorem dX6_init_35 : decode cX6_init 35 = .ok (.newarray .int, 2) := by decide +kernel
theorem dX6_init_37 : decode cX6_init 37 = .ok (.putfield 23, 3) := by decide +kernel
theorem dX6_init_40 : decode cX6_init 40 = .ok (.aload_n 0, 1) := by decide +kernel
theorem dX6_init_41 : decode cX6_init 41 = .ok (.bipush 8, 2) := by decide +kernel
theorem dX6_init_43 : decode cX6_init 43 = .ok (.newarray .int, 2) := by decide +kernel
theorem dX6_init_45 : decode cX6_init 45 = .ok (.putfield 26, 3) := by decide +kernel
theorem dX6_init_48 : decode cX6_init 48 = .ok (.aload_n 0, 1) := by decide +kernel
theorem dX6_init_49 : decode cX6_init 49 = .ok (.bipush 8, 2) := by decide +kernel
theorem dX6_init_51 : decode cX6_init 51 = .ok (.newarray .int, 2) := by decide +kernel
theorem dX6_init_53 : decode cX6_init 53 = .ok (.putfield 29, 3) := by decide +kernel
theorem dX6_init_56 : decode cX6_init 56 = .ok (.aload_n 0, 1) := by decide +kernel
theorem dX6_init_57 : decode cX6_init 57 = .ok (.bipush 8, 2) := by decide +kernel
theorem dX6_init_59 : decode cX6_init 59 = .ok (.newarray .boolean, 2) := by decide +kernel
theorem dX6_init_61 : decode cX6_init 61 = .ok (.putfield 32, 3) := by decide +kernel
theorem dX6_init_64 : decode cX6_init 64 = .ok (.aload_n 0, 1) := by decide +kernel
theorem dX6_init_65 : decode cX6_init 65 = .ok (.bipush 10, 2) := by decide +kernel
theorem dX6_init_67 : decode cX6_init 67 = .ok (.putfield 36, 3) := by decide +kernel
theorem dX6_init_70 : decode cX6_init 70 = .ok (.aload_n 0, 1) := by decide +kernel
theorem dX6_init_71 : decode cX6_init 71 = .ok (.bipush 12, 2) := by decide +kernel
theorem dX6_init_73 : decode cX6_init 73 = .ok (.newarray .int, 2) := by decide +kernel
theorem dX6_init_75 : decode cX6_init 75 = .ok (.putfield 39, 3) := by decide +kernel
theorem dX6_init_78 : decode cX6_init 78 = .ok (.aload_n 0, 1) := by decide +kernel
theorem dX6_init_79 : decode cX6_init 79 = .ok (.bipush 12, 2) := by decide +kernel
theorem dX6_init_81 : decode cX6_init 81 = .ok (.newarray .int, 2) := by decide +kernel
theorem dX6_init_83 : decode cX6_init 83 = .ok (.putfield 42, 3) := by decide +kernel
theorem dX6_init_86 : decode cX6_init 86 = .ok (.aload_n 0, 1) := by decide +kernel
theorem dX6_init_87 : decode cX6_init 87 = .ok (.bipush 12, 2) := by decide +kernel
theorem dX6_init_89 : decode cX6_init 89 = .ok (.newarray .int, 2) := by decide +kernel
theorem dX6_init_91 : decode cX6_init 91 = .ok (.putfield 45, 3) := by decide +kernel
theorem dX6_init_94 : decode cX6_init 94 = .ok (.aload_n 0, 1) := by decide +kernel
theorem dX6_init_95 : decode cX6_init 95 = .ok (.bipush 12, 2) := by decide +kernel
theorem dX6_init_97 : decode cX6_init 97 = .ok (.newarray .int, 2) := by decide +kernel
theorem dX6_init_99 : decode cX6_init 99 = .ok (.putfield 48, 3) := by decide +kernel
theorem dX6_init_102 : decode cX6_init 102 = .ok (.aload_n 0, 1) := by decide +kernel
theorem dX6_init_103 : decode cX6_init 103 = .ok (.bipush 12, 2) := by decide +kernel
theorem dX6_init_105 : decode cX6_init 105 = .ok (.newarray .int, 2) := by decide +kernel
theorem dX6_init_107 : decode cX6_init 107 = .ok (.putfield 51, 3) := by decide +kernel
theorem dX6_init_110 : decode cX6_init 110 = .ok (.aload_n 0, 1) := by decide +kernel
theorem dX6_init_111 : decode cX6_init 111 = .ok (.bipush 12, 2) := by decide +kernel
theorem dX6_init_113 : decode cX6_init 113 = .ok (.newarray .int, 2) := by decide +kernel
theorem dX6_init_115 : decode cX6_init 115 = .ok (.putfield 54, 3) := by decide +kernel
theorem dX6_init_118 : decode cX6_init 118 = .ok (.aload_n 0, 1) := by decide +kernel
theorem dX6_init_119 : decode cX6_init 119 = .ok (.bipush 12, 2) := by decide +kernel
theorem dX6_init_121 : decode cX6_init 121 = .ok (.newarray .int, 2) := by decide +kernel
theorem dX6_init_123 : decode cX6_init 123 = .ok (.putfield 57, 3) := by decide +kernel
theorem dX6_init_126 : decode cX6_init 126 = .ok (.aload_n 0, 1) := by decide +kernel
theorem dX6_init_127 : decode cX6_init 127 = .ok (.bipush 12, 2) := by decide +kernel
theorem dX6_init_129 : decode cX6_init 129 = .ok (.newarray .int, 2) := by decide +kernel
theorem dX6_init_131 : decode cX6_init 131 = .ok (.putfield 60, 3) := by decide +kernel
theorem dX6_init_134 : decode cX6_init 134 = .ok (.aload_n 0, 1) := by decide +kernel
theorem dX6_init_135 : decode cX6_init 135 = .ok (.bipush 12, 2) := by decide +kernel
theorem dX6_init_137 : decode cX6_init 137 = .ok (.newarray .int, 2) := by decide +kernel
theorem dX6_init_139 : decode cX6_init 139 = .ok (.putfield 63, 3) := by decide +kernel
theorem dX6_init_142 : decode cX6_init 142 = .ok (.aload_n 0, 1) := by decide +kernel
theorem dX6_init_143 : decode cX6_init 143 = .ok (.bipush 12, 2) := by decide +kernel
theorem dX6_init_145 : decode cX6_init 145 = .ok (.newarray .int, 2) := by decide +kernel
theorem dX6_init_147 : decode cX6_init 147 = .ok (.putfield 66, 3) := by decide +kernel
theorem dX6_init_150 : decode cX6_init 150 = .ok (.aload_n 0, 1) := by decide +kernel
theorem dX6_init_151 : decode cX6_init 151 = .ok (.bipush 12, 2) := by decide +kernel
theorem dX6_init_153 : decode cX6_init 153 = .ok (.newarray .int, 2) := by decide +kernel
theorem dX6_init_155 : decode cX6_init 155 = .ok (.putfield 69, 3) := by decide +kernel
theorem dX6_init_158 : decode cX6_init 158 = .ok (.aload_n 0, 1) := by decide +kernel
theorem dX6_init_159 : decode cX6_init 159 = .ok (.bipush 10, 2) := by decide +kernel
theorem dX6_init_161 : decode cX6_init 161 = .ok (.putfield 72, 3) := by decide +kernel
theorem dX6_init_164 : decode cX6_init 164 = .ok (.aload_n 0, 1) := by decide +kernel
theorem dX6_init_165 : decode cX6_init 165 = .ok (.bipush 15, 2) := by decide +kernel
theorem dX6_init_167 : decode cX6_init 167 = .ok (.putfield 75, 3) := by decide +kernel
theorem dX6_init_170 : decode cX6_init 170 = .ok (.aload_n 0, 1) := by decide +kernel
theorem dX6_init_171 : decode cX6_init 171 = .ok (.getfield 13, 3) := by decide +kernel
theorem dX6_init_174 : decode cX6_init 174 = .ok (.iconst 0, 1) := by decide +kernel
theorem dX6_init_175 : decode cX6_init 175 = .ok (.iconst 2, 1) := by decide +kernel
theorem dX6_init_176 : decode cX6_init 176 = .ok (.iastore, 1) := by decide +kernel
theorem dX6_init_177 : decode cX6_init 177 = .ok (.aload_n 0, 1) := by decide +kernel
theorem dX6_init_178 : decode cX6_init 178 = .ok (.getfield 13, 3) := by decide +kernel
theorem dX6_init_181 : decode cX6_init 181 = .ok (.iconst 1, 1) := by decide +kernel
theorem dX6_init_182 : decode cX6_init 182 = .ok (.iconst 1, 1) := by decide +kernel
theorem dX6_init_183 : decode cX6_init 183 = .ok (.iastore, 1) := by decide +kernel
theorem dX6_init_184 : decode cX6_init 184 = .ok (.aload_n 0, 1) := by decide +kernel
theorem dX6_init_185 : decode cX6_init 185 = .ok (.getfield 13, 3) := by decide +kernel
theorem dX6_init_188 : decode cX6_init 188 = .ok (.iconst 2, 1) := by decide +kernel
theorem dX6_init_189 : decode cX6_init 189 = .ok (.iconst 1, 1) := by decide +kernel
theorem dX6_init_190 : decode cX6_init 190 = .ok (.iastore, 1) := by decide +kernel
theorem dX6_init_191 : decode cX6_init 191 = .ok (.aload_n 0, 1) := by decide +kernel
theorem dX6_init_192 : decode cX6_init 192 = .ok (.getfield 13, 3) := by decide +kernel
theorem dX6_init_195 : decode cX6_init 195 = .ok (.iconst 3, 1) := by decide +kernel
theorem dX6_init_196 : decode cX6_init 196 = .ok (.iconst 1, 1) := by decide +kernel
theorem dX6_init_197 : decode cX6_init 197 = .ok (.iastore, 1) := by decide +kernel
theorem dX6_init_198 : decode cX6_init 198 = .ok (.aload_n 0, 1) := by decide +kernel
theorem dX6_init_199 : decode cX6_init 199 = .ok (.invokevirtual 78, 3) := by decide +kernel
theorem dX6_init_202 : decode cX6_init 202 = .ok (.return_, 1) := by decide +kernel
theorem dX6_in_0 : decode cX6_in 0 = .ok (.iload_n 0, 1) := by decide +kernel
theorem dX6_in_1 : decode cX6_in 1 = .ok (.iload_n 1, 1) := by decide +kernel
theorem dX6_in_2 : decode cX6_in 2 = .ok (.if_icmp .lt 12, 3) := by decide +kernel
theorem dX6_in_5 : decode cX6_in 5 = .ok (.iload_n 0, 1) := by decide +kernel
theorem dX6_in_6 : decode cX6_in 6 = .ok (.iload_n 2, 1) := by decide +kernel
theorem dX6_in_7 : decode cX6_in 7 = .ok (.if_icmp .gt 7, 3) := by decide +kernel
theorem dX6_in_10 : decode cX6_in 10 = .ok (.iconst 1, 1) := by decide +kernel
theorem dX6_in_11 : decode cX6_in 11 = .ok (.goto 4, 3) := by decide +kernel
theorem dX6_in_14 : decode cX6_in 14 = .ok (.iconst 0, 1) := by decide +kernel
theorem dX6_in_15 : decode cX6_in 15 = .ok (.ireturn, 1) := by decide +kernel
theorem dX6_isPerson_0 : decode cX6_isPerson 0 = .ok (.iload_n 1, 1) := by decide +kernel
theorem dX6_isPerson_1 : decode cX6_isPerson 1 = .ok (.iconst 0, 1) := by decide +kernel
theorem dX6_isPerson_2 : decode cX6_isPerson 2 = .ok (.aload_n 0, 1) := by decide +kernel
theorem dX6_isPerson_3 : decode cX6_isPerson 3 = .ok (.getfield 81, 3) := by decide +kernel
theorem dX6_isPerson_6 : decode cX6_isPerson 6 = .ok (.iconst 1, 1) := by decide +kernel
theorem dX6_isPerson_7 : decode cX6_isPerson 7 = .ok (.isub, 1) := by decide +kernel
theorem dX6_isPerson_8 : decode cX6_isPerson 8 = .ok (.invokestatic 84, 3) := by decide +kernel
theorem dX6_isPerson_11 : decode cX6_isPerson 11 = .ok (.ireturn, 1) := by decide +kernel
theorem dX6_isPlace_0 : decode cX6_isPlace 0 = .ok (.iload_n 1, 1) := by decide +kernel
theorem dX6_isPlace_1 : decode cX6_isPlace 1 = .ok (.iconst 0, 1) := by decide +kernel
theorem dX6_isPlace_2 : decode cX6_isPlace 2 = .ok (.aload_n 0, 1) := by decide +kernel
theorem dX6_isPlace_3 : decode cX6_isPlace 3 = .ok (.getfield 88, 3) := by decide +kernel
theorem dX6_isPlace_6 : decode cX6_isPlace 6 = .ok (.iconst 1, 1) := by decide +kernel
theorem dX6_isPlace_7 : decode cX6_isPlace 7 = .ok (.isub, 1) := by decide +kernel
theorem dX6_isPlace_8 : decode cX6_isPlace 8 = .ok (.invokestatic 84, 3) := by decide +kernel
theorem dX6_isPlace_11 : decode cX6_isPlace 11 = .ok (.ireturn, 1) := by decide +kernel
theorem dX6_findPlaces_0 : decode cX6_findPlaces 0 = .ok (.aload_n 0, 1) := by decide +kernel
theorem dX6_findPlaces_1 : decode cX6_findPlaces 1 = .ok (.iconst 0, 1) := by decide +kernel
theorem dX6_findPlaces_2 : decode cX6_findPlaces 2 = .ok (.putfield 88, 3) := by decide +kernel
theorem dX6_findPlaces_5 : decode cX6_findPlaces 5 = .ok (.iconst 0, 1) := by decide +kernel
theorem dX6_findPlaces_6 : decode cX6_findPlaces 6 = .ok (.istore_n 1, 1) := by decide +kernel
theorem dX6_findPlaces_7 : decode cX6_findPlaces 7 = .ok (.iconst 0, 1) := by decide +kernel
theorem dX6_findPlaces_8 : decode cX6_findPlaces 8 = .ok (.istore_n 2, 1) := by decide +kernel
theorem dX6_findPlaces_9 : decode cX6_findPlaces 9 = .ok (.iload_n 2, 1) := by decide +kernel
theorem dX6_findPlaces_10 : decode cX6_findPlaces 10 = .ok (.aload_n 0, 1) := by decide +kernel
theorem dX6_findPlaces_11 : decode cX6_findPlaces 11 = .ok (.getfield 7, 3) := by decide +kernel
theorem dX6_findPlaces_14 : decode cX6_findPlaces 14 = .ok (.if_icmp .ge 118, 3) := by decide +kernel
theorem dX6_findPlaces_17 : decode cX6_findPlaces 17 = .ok (.iload_n 1, 1) := by decide +kernel
theorem dX6_findPlaces_18 : decode cX6_findPlaces 18 = .ok (.istore_n 3, 1) := by decide +kernel
theorem dX6_findPlaces_19 : decode cX6_findPlaces 19 = .ok (.aload_n 0, 1) := by decide +kernel
theorem dX6_findPlaces_20 : decode cX6_findPlaces 20 = .ok (.getfield 88, 3) := by decide +kernel
theorem dX6_findPlaces_23 : decode cX6_findPlaces 23 = .ok (.istore_n 1, 1) := by decide +kernel
theorem dX6_findPlaces_24 : decode cX6_findPlaces 24 = .ok (.iconst 0, 1) := by decide +kernel
theorem dX6_findPlaces_25 : decode cX6_findPlaces 25 = .ok (.istore 4, 2) := by decide +kernel
theorem dX6_findPlaces_27 : decode cX6_findPlaces 27 = .ok (.iload 4, 2) := by decide +kernel
theorem dX6_findPlaces_29 : decode cX6_findPlaces 29 = .ok (.aload_n 0, 1) := by decide +kernel
theorem dX6_findPlaces_30 : decode cX6_findPlaces 30 = .ok (.getfield 13, 3) := by decide +kernel
theorem dX6_findPlaces_33 : decode cX6_findPlaces 33 = .ok (.iload_n 2, 1) := by decide +kernel
theorem dX6_findPlaces_34 : decode cX6_findPlaces 34 = .ok (.iaload, 1) := by decide +kernel
theorem dX6_findPlaces_35 : decode cX6_findPlaces 35 = .ok (.if_icmp .ge 91, 3) := by decide +kernel
theorem dX6_findPlaces_38 : decode cX6_findPlaces 38 = .ok (.aload_n 0, 1) := by decide +kernel
theorem dX6_findPlaces_39 : decode cX6_findPlaces 39 = .ok (.getfield 39, 3) := by decide +kernel
theorem dX6_findPlaces_42 : decode cX6_findPlaces 42 = .ok (.aload_n 0, 1) := by decide +kernel
theorem dX6_findPlaces_43 : decode cX6_findPlaces 43 = .ok (.getfield 88, 3) := by decide +kernel
theorem dX6_findPlaces_46 : decode cX6_findPlaces 46 = .ok (.iload_n 2, 1) := by decide +kernel
theorem dX6_findPlaces_47 : decode cX6_findPlaces 47 = .ok (.iastore, 1) := by decide +kernel
theorem dX6_findPlaces_48 : decode cX6_findPlaces 48 = .ok (.aload_n 0, 1) := by decide +kernel
theorem dX6_findPlaces_49 : decode cX6_findPlaces 49 = .ok (.getfield 42, 3) := by decide +kernel
theorem dX6_findPlaces_52 : decode cX6_findPlaces 52 = .ok (.aload_n 0, 1) := by decide +kernel
theorem dX6_findPlaces_53 : decode cX6_findPlaces 53 = .ok (.getfield 88, 3) := by decide +kernel
theorem dX6_findPlaces_56 : decode cX6_findPlaces 56 = .ok (.iload_n 2, 1) := by decide +kernel
theorem dX6_findPlaces_57 : decode cX6_findPlaces 57 = .ok (.ifCond .ne 7, 3) := by decide +kernel
theorem dX6_findPlaces_60 : decode cX6_findPlaces 60 = .ok (.iconst (-1), 1) := by decide +kernel
theorem dX6_findPlaces_61 : decode cX6_findPlaces 61 = .ok (.goto 16, 3) := by decide +kernel
theorem dX6_findPlaces_64 : decode cX6_findPlaces 64 = .ok (.iload_n 3, 1) := by decide +kernel
theorem dX6_findPlaces_65 : decode cX6_findPlaces 65 = .ok (.iload 4, 2) := by decide +kernel
theorem dX6_findPlaces_67 : decode cX6_findPlaces 67 = .ok (.aload_n 0, 1) := by decide +kernel
theorem dX6_findPlaces_68 : decode cX6_findPlaces 68 = .ok (.getfield 13, 3) := by decide +kernel
theorem dX6_findPlaces_71 : decode cX6_findPlaces 71 = .ok (.iload_n 2, 1) := by decide +kernel
theorem dX6_findPlaces_72 : decode cX6_findPlaces 72 = .ok (.iconst 1, 1) := by decide +kernel
theorem dX6_findPlaces_73 : decode cX6_findPlaces 73 = .ok (.isub, 1) := by decide +kernel
theorem dX6_findPlaces_74 : decode cX6_findPlaces 74 = .ok (.iaload, 1) := by decide +kernel
theorem dX6_findPlaces_75 : decode cX6_findPlaces 75 = .ok (.irem, 1) := by decide +kernel
theorem dX6_findPlaces_76 : decode cX6_findPlaces 76 = .ok (.iadd, 1) := by decide +kernel
theorem dX6_findPlaces_77 : decode cX6_findPlaces 77 = .ok (.iastore, 1) := by decide +kernel
theorem dX6_findPlaces_78 : decode cX6_findPlaces 78 = .ok (.aload_n 0, 1) := by decide +kernel
theorem dX6_findPlaces_79 : decode cX6_findPlaces 79 = .ok (.getfield 45, 3) := by decide +kernel
theorem dX6_findPlaces_82 : decode cX6_findPlaces 82 = .ok (.aload_n 0, 1) := by decide +kernel
theorem dX6_findPlaces_83 : decode cX6_findPlaces 83 = .ok (.getfield 88, 3) := by decide +kernel
theorem dX6_findPlaces_86 : decode cX6_findPlaces 86 = .ok (.iload_n 2, 1) := by decide +kernel
theorem dX6_findPlaces_87 : decode cX6_findPlaces 87 = .ok (.ifCond .ne 7, 3) := by decide +kernel
theorem dX6_findPlaces_90 : decode cX6_findPlaces 90 = .ok (.iconst (-1), 1) := by decide +kernel
theorem dX6_findPlaces_91 : decode cX6_findPlaces 91 = .ok (.goto 18, 3) := by decide +kernel
theorem dX6_findPlaces_94 : decode cX6_findPlaces 94 = .ok (.iload_n 3, 1) := by decide +kernel
theorem dX6_findPlaces_95 : decode cX6_findPlaces 95 = .ok (.iload 4, 2) := by decide +kernel
theorem dX6_findPlaces_97 : decode cX6_findPlaces 97 = .ok (.iconst 1, 1) := by decide +kernel
theorem dX6_findPlaces_98 : decode cX6_findPlaces 98 = .ok (.iadd, 1) := by decide +kernel
theorem dX6_findPlaces_99 : decode cX6_findPlaces 99 = .ok (.aload_n 0, 1) := by decide +kernel
theorem dX6_findPlaces_100 : decode cX6_findPlaces 100 = .ok (.getfield 13, 3) := by decide +kernel
theorem dX6_findPlaces_103 : decode cX6_findPlaces 103 = .ok (.iload_n 2, 1) := by decide +kernel
theorem dX6_findPlaces_104 : decode cX6_findPlaces 104 = .ok (.iconst 1, 1) := by decide +kernel
theorem dX6_findPlaces_105 : decode cX6_findPlaces 105 = .ok (.isub, 1) := by decide +kernel
theorem dX6_findPlaces_106 : decode cX6_findPlaces 106 = .ok (.iaload, 1) := by decide +kernel
theorem dX6_findPlaces_107 : decode cX6_findPlaces 107 = .ok (.irem, 1) := by decide +kernel
theorem dX6_findPlaces_108 : decode cX6_findPlaces 108 = .ok (.iadd, 1) := by decide +kernel
theorem dX6_findPlaces_109 : decode cX6_findPlaces 109 = .ok (.iastore, 1) := by decide +kernel
theorem dX6_findPlaces_110 : decode cX6_findPlaces 110 = .ok (.aload_n 0, 1) := by decide +kernel
theorem dX6_findPlaces_111 : decode cX6_findPlaces 111 = .ok (.dup, 1) := by decide +kernel
theorem dX6_findPlaces_112 : decode cX6_findPlaces 112 = .ok (.getfield 88, 3) := by decide +kernel
theorem dX6_findPlaces_115 : decode cX6_findPlaces 115 = .ok (.iconst 1, 1) := by decide +kernel
theorem dX6_findPlaces_116 : decode cX6_findPlaces 116 = .ok (.iadd, 1) := by decide +kernel
theorem dX6_findPlaces_117 : decode cX6_findPlaces 117 = .ok (.putfield 88, 3) := by decide +kernel
theorem dX6_findPlaces_120 : decode cX6_findPlaces 120 = .ok (.iinc 4 1, 3) := by decide +kernel
theorem dX6_findPlaces_123 : decode cX6_findPlaces 123 = .ok (.goto (-96), 3) := by decide +kernel
theorem dX6_findPlaces_126 : decode cX6_findPlaces 126 = .ok (.iinc 2 1, 3) := by decide +kernel
theorem dX6_findPlaces_129 : decode cX6_findPlaces 129 = .ok (.goto (-120), 3) := by decide +kernel
theorem dX6_findPlaces_132 : decode cX6_findPlaces 132 = .ok (.return_, 1) := by decide +kernel
theorem dX6_sum_0 : decode cX6_sum 0 = .ok (.iconst 0, 1) := by decide +kernel
theorem dX6_sum_1 : decode cX6_sum 1 = .ok (.istore_n 2, 1) := by decide +kernel
theorem dX6_sum_2 : decode cX6_sum 2 = .ok (.iconst 0, 1) := by decide +kernel
theorem dX6_sum_3 : decode cX6_sum 3 = .ok (.istore_n 3, 1) := by decide +kernel
theorem dX6_sum_4 : decode cX6_sum 4 = .ok (.iload_n 3, 1) := by decide +kernel
theorem dX6_sum_5 : decode cX6_sum 5 = .ok (.iload_n 1, 1) := by decide +kernel
theorem dX6_sum_6 : decode cX6_sum 6 = .ok (.if_icmp .ge 18, 3) := by decide +kernel
theorem dX6_sum_9 : decode cX6_sum 9 = .ok (.iload_n 2, 1) := by decide +kernel
theorem dX6_sum_10 : decode cX6_sum 10 = .ok (.aload_n 0, 1) := by decide +kernel
theorem dX6_sum_11 : decode cX6_sum 11 = .ok (.getfield 13, 3) := by decide +kernel
theorem dX6_sum_14 : decode cX6_sum 14 = .ok (.iload_n 3, 1) := by decide +kernel
theorem dX6_sum_15 : decode cX6_sum 15 = .ok (.iaload, 1) := by decide +kernel
theorem dX6_sum_16 : decode cX6_sum 16 = .ok (.iadd, 1) := by decide +kernel
theorem dX6_sum_17 : decode cX6_sum 17 = .ok (.istore_n 2, 1) := by decide +kernel
theorem dX6_sum_18 : decode cX6_sum 18 = .ok (.iinc 3 1, 3) := by decide +kernel
theorem dX6_sum_21 : decode cX6_sum 21 = .ok (.goto (-17), 3) := by decide +kernel
theorem dX6_sum_24 : decode cX6_sum 24 = .ok (.iload_n 2, 1) := by decide +kernel
theorem dX6_sum_25 : decode cX6_sum 25 = .ok (.ireturn, 1) := by decide +kernel
theorem dX6_storeys_0 : decode cX6_storeys 0 = .ok (.iload_n 1, 1) := by decide +kernel
theorem dX6_storeys_1 : decode cX6_storeys 1 = .ok (.iconst 1, 1) := by decide +kernel
theorem dX6_storeys_2 : decode cX6_storeys 2 = .ok (.iconst 4, 1) := by decide +kernel
theorem dX6_storeys_3 : decode cX6_storeys 3 = .ok (.invokestatic 84, 3) := by decide +kernel
theorem dX6_storeys_6 : decode cX6_storeys 6 = .ok (.ifCond .ne 6, 3) := by decide +kernel
theorem dX6_storeys_9 : decode cX6_storeys 9 = .ok (.bipush (-3), 2) := by decide +kernel
theorem dX6_storeys_11 : decode cX6_storeys 11 = .ok (.ireturn, 1) := by decide +kernel
theorem dX6_storeys_12 : decode cX6_storeys 12 = .ok (.aload_n 0, 1) := by decide +kernel
theorem dX6_storeys_13 : decode cX6_storeys 13 = .ok (.iload_n 1, 1) := by decide +kernel
theorem dX6_storeys_14 : decode cX6_storeys 14 = .ok (.invokevirtual 91, 3) := by decide +kernel
theorem dX6_storeys_17 : decode cX6_storeys 17 = .ok (.bipush 7, 2) := by decide +kernel
theorem dX6_storeys_19 : decode cX6_storeys 19 = .ok (.if_icmp .le 6, 3) := by decide +kernel
theorem dX6_storeys_22 : decode cX6_storeys 22 = .ok (.bipush (-4), 2) := by decide +kernel
theorem dX6_storeys_24 : decode cX6_storeys 24 = .ok (.ireturn, 1) := by decide +kernel
theorem dX6_storeys_25 : decode cX6_storeys 25 = .ok (.aload_n 0, 1) := by decide +kernel
theorem dX6_storeys_26 : decode cX6_storeys 26 = .ok (.iload_n 1, 1) := by decide +kernel
theorem dX6_storeys_27 : decode cX6_storeys 27 = .ok (.putfield 7, 3) := by decide +kernel
theorem dX6_storeys_30 : decode cX6_storeys 30 = .ok (.aload_n 0, 1) := by decide +kernel
theorem dX6_storeys_31 : decode cX6_storeys 31 = .ok (.iconst 0, 1) := by decide +kernel
theorem dX6_storeys_32 : decode cX6_storeys 32 = .ok (.putfield 95, 3) := by decide +kernel
theorem dX6_storeys_35 : decode cX6_storeys 35 = .ok (.aload_n 0, 1) := by decide +kernel
theorem dX6_storeys_36 : decode cX6_storeys 36 = .ok (.invokevirtual 78, 3) := by decide +kernel
theorem dX6_storeys_39 : decode cX6_storeys 39 = .ok (.aload_n 0, 1) := by decide +kernel
theorem dX6_storeys_40 : decode cX6_storeys 40 = .ok (.getfield 88, 3) := by decide +kernel
theorem dX6_storeys_43 : decode cX6_storeys 43 = .ok (.ireturn, 1) := by decide +kernel
theorem dX6_width_0 : decode cX6_width 0 = .ok (.iload_n 1, 1) := by decide +kernel
theorem dX6_width_1 : decode cX6_width 1 = .ok (.iconst 0, 1) := by decide +kernel
theorem dX6_width_2 : decode cX6_width 2 = .ok (.iconst 3, 1) := by decide +kernel
theorem dX6_width_3 : decode cX6_width 3 = .ok (.invokestatic 84, 3) := by decide +kernel
theorem dX6_width_6 : decode cX6_width 6 = .ok (.ifCond .ne 6, 3) := by decide +kernel
theorem dX6_width_9 : decode cX6_width 9 = .ok (.bipush (-2), 2) := by decide +kernel
theorem dX6_width_11 : decode cX6_width 11 = .ok (.ireturn, 1) := by decide +kernel
theorem dX6_width_12 : decode cX6_width 12 = .ok (.iload_n 2, 1) := by decide +kernel
theorem dX6_width_13 : decode cX6_width 13 = .ok (.iconst 1, 1) := by decide +kernel
theorem dX6_width_14 : decode cX6_width 14 = .ok (.iconst 3, 1) := by decide +kernel
theorem dX6_width_15 : decode cX6_width 15 = .ok (.invokestatic 84, 3) := by decide +kernel
theorem dX6_width_18 : decode cX6_width 18 = .ok (.ifCond .ne 6, 3) := by decide +kernel
theorem dX6_width_21 : decode cX6_width 21 = .ok (.bipush (-3), 2) := by decide +kernel
theorem dX6_width_23 : decode cX6_width 23 = .ok (.ireturn, 1) := by decide +kernel
theorem dX6_width_24 : decode cX6_width 24 = .ok (.aload_n 0, 1) := by decide +kernel
theorem dX6_width_25 : decode cX6_width 25 = .ok (.getfield 13, 3) := by decide +kernel
theorem dX6_width_28 : decode cX6_width 28 = .ok (.iload_n 1, 1) := by decide +kernel
theorem dX6_width_29 : decode cX6_width 29 = .ok (.iaload, 1) := by decide +kernel
theorem dX6_width_30 : decode cX6_width 30 = .ok (.istore_n 3, 1) := by decide +kernel
theorem dX6_width_31 : decode cX6_width 31 = .ok (.iload_n 1, 1) := by decide +kernel
theorem dX6_width_32 : decode cX6_width 32 = .ok (.aload_n 0, 1) := by decide +kernel
theorem dX6_width_33 : decode cX6_width 33 = .ok (.getfield 7, 3) := by decide +kernel
theorem dX6_width_36 : decode cX6_width 36 = .ok (.if_icmp .ge 23, 3) := by decide +kernel
theorem dX6_width_39 : decode cX6_width 39 = .ok (.aload_n 0, 1) := by decide +kernel
theorem dX6_width_40 : decode cX6_width 40 = .ok (.aload_n 0, 1) := by decide +kernel
theorem dX6_width_41 : decode cX6_width 41 = .ok (.getfield 7, 3) := by decide +kernel
theorem dX6_width_44 : decode cX6_width 44 = .ok (.invokevirtual 91, 3) := by decide +kernel
theorem dX6_width_47 : decode cX6_width 47 = .ok (.iload_n 3, 1) := by decide +kernel
theorem dX6_width_48 : decode cX6_width 48 = .ok (.isub, 1) := by decide +kernel
theorem dX6_width_49 : decode cX6_width 49 = .ok (.iload_n 2, 1) := by decide +kernel
theorem dX6_width_50 : decode cX6_width 50 = .ok (.iadd, 1) := by decide +kernel
theorem dX6_width_51 : decode cX6_width 51 = .ok (.bipush 7, 2) := by decide +kernel
theorem dX6_width_53 : decode cX6_width 53 = .ok (.if_icmp .le 6, 3) := by decide +kernel
theorem dX6_width_56 : decode cX6_width 56 = .ok (.bipush (-4), 2) := by decide +kernel
theorem dX6_width_58 : decode cX6_width 58 = .ok (.ireturn, 1) := by decide +kernel
theorem dX6_width_59 : decode cX6_width 59 = .ok (.aload_n 0, 1) := by decide +kernel
theorem dX6_width_60 : decode cX6_width 60 = .ok (.getfield 13, 3) := by decide +kernel
theorem dX6_width_63 : decode cX6_width 63 = .ok (.iload_n 1, 1) := by decide +kernel
theorem dX6_width_64 : decode cX6_width 64 = .ok (.iload_n 2, 1) := by decide +kernel
theorem dX6_width_65 : decode cX6_width 65 = .ok (.iastore, 1) := by decide +kernel
theorem dX6_width_66 : decode cX6_width 66 = .ok (.aload_n 0, 1) := by decide +kernel
theorem dX6_width_67 : decode cX6_width 67 = .ok (.iconst 0, 1) := by decide +kernel
theorem dX6_width_68 : decode cX6_width 68 = .ok (.putfield 95, 3) := by decide +kernel
theorem dX6_width_71 : decode cX6_width 71 = .ok (.aload_n 0, 1) := by decide +kernel
theorem dX6_width_72 : decode cX6_width 72 = .ok (.invokevirtual 78, 3) := by decide +kernel
theorem dX6_width_75 : decode cX6_width 75 = .ok (.iload_n 3, 1) := by decide +kernel
theorem dX6_width_76 : decode cX6_width 76 = .ok (.ireturn, 1) := by decide +kernel
theorem dX6_person_0 : decode cX6_person 0 = .ok (.iload_n 1, 1) := by decide +kernel
theorem dX6_person_1 : decode cX6_person 1 = .ok (.bipush 100, 2) := by decide +kernel
theorem dX6_person_3 : decode cX6_person 3 = .ok (.sipush 200, 3) := by decide +kernel
theorem dX6_person_6 : decode cX6_person 6 = .ok (.invokestatic 84, 3) := by decide +kernel
theorem dX6_person_9 : decode cX6_person 9 = .ok (.ifCond .eq 47, 3) := by decide +kernel
theorem dX6_person_12 : decode cX6_person 12 = .ok (.iload_n 2, 1) := by decide +kernel
theorem dX6_person_13 : decode cX6_person 13 = .ok (.bipush 20, 2) := by decide +kernel
theorem dX6_person_15 : decode cX6_person 15 = .ok (.bipush 120, 2) := by decide +kernel
theorem dX6_person_17 : decode cX6_person 17 = .ok (.invokestatic 84, 3) := by decide +kernel
theorem dX6_person_20 : decode cX6_person 20 = .ok (.ifCond .eq 36, 3) := by decide +kernel
theorem dX6_person_23 : decode cX6_person 23 = .ok (.iload_n 3, 1) := by decide +kernel
theorem dX6_person_24 : decode cX6_person 24 = .ok (.iconst 0, 1) := by decide +kernel
theorem dX6_person_25 : decode cX6_person 25 = .ok (.sipush 400, 3) := by decide +kernel
theorem dX6_person_28 : decode cX6_person 28 = .ok (.invokestatic 84, 3) := by decide +kernel
theorem dX6_person_31 : decode cX6_person 31 = .ok (.ifCond .eq 25, 3) := by decide +kernel
theorem dX6_person_34 : decode cX6_person 34 = .ok (.iload 4, 2) := by decide +kernel
theorem dX6_person_36 : decode cX6_person 36 = .ok (.iconst 0, 1) := by decide +kernel
theorem dX6_person_37 : decode cX6_person 37 = .ok (.iconst 3, 1) := by decide +kernel
theorem dX6_person_38 : decode cX6_person 38 = .ok (.invokestatic 84, 3) := by decide +kernel
theorem dX6_person_41 : decode cX6_person 41 = .ok (.ifCond .eq 15, 3) := by decide +kernel
theorem dX6_person_44 : decode cX6_person 44 = .ok (.iload 5, 2) := by decide +kernel
theorem dX6_person_46 : decode cX6_person 46 = .ok (.iconst 0, 1) := by decide +kernel
theorem dX6_person_47 : decode cX6_person 47 = .ok (.sipush 20000, 3) := by decide +kernel
theorem dX6_person_50 : decode cX6_person 50 = .ok (.invokestatic 84, 3) := by decide +kernel
theorem dX6_person_53 : decode cX6_person 53 = .ok (.ifCond .ne 6, 3) := by decide +kernel
theorem dX6_person_56 : decode cX6_person 56 = .ok (.bipush (-3), 2) := by decide +kernel
theorem dX6_person_58 : decode cX6_person 58 = .ok (.ireturn, 1) := by decide +kernel
theorem dX6_person_59 : decode cX6_person 59 = .ok (.aload_n 0, 1) := by decide +kernel
theorem dX6_person_60 : decode cX6_person 60 = .ok (.getfield 81, 3) := by decide +kernel
theorem dX6_person_63 : decode cX6_person 63 = .ok (.bipush 8, 2) := by decide +kernel
theorem dX6_person_65 : decode cX6_person 65 = .ok (.if_icmp .ne 6, 3) := by decide +kernel
theorem dX6_person_68 : decode cX6_person 68 = .ok (.bipush (-5), 2) := by decide +kernel
theorem dX6_person_70 : decode cX6_person 70 = .ok (.ireturn, 1) := by decide +kernel
theorem dX6_person_71 : decode cX6_person 71 = .ok (.aload_n 0, 1) := by decide +kernel
theorem dX6_person_72 : decode cX6_person 72 = .ok (.getfield 17, 3) := by decide +kernel
theorem dX6_person_75 : decode cX6_person 75 = .ok (.aload_n 0, 1) := by decide +kernel
theorem dX6_person_76 : decode cX6_person 76 = .ok (.getfield 81, 3) := by decide +kernel
theorem dX6_person_79 : decode cX6_person 79 = .ok (.iload_n 1, 1) := by decide +kernel
theorem dX6_person_80 : decode cX6_person 80 = .ok (.iastore, 1) := by decide +kernel
theorem dX6_person_81 : decode cX6_person 81 = .ok (.aload_n 0, 1) := by decide +kernel
theorem dX6_person_82 : decode cX6_person 82 = .ok (.getfield 20, 3) := by decide +kernel
theorem dX6_person_85 : decode cX6_person 85 = .ok (.aload_n 0, 1) := by decide +kernel
theorem dX6_person_86 : decode cX6_person 86 = .ok (.getfield 81, 3) := by decide +kernel
theorem dX6_person_89 : decode cX6_person 89 = .ok (.iload_n 2, 1) := by decide +kernel
theorem dX6_person_90 : decode cX6_person 90 = .ok (.iastore, 1) := by decide +kernel
theorem dX6_person_91 : decode cX6_person 91 = .ok (.aload_n 0, 1) := by decide +kernel
theorem dX6_person_92 : decode cX6_person 92 = .ok (.getfield 23, 3) := by decide +kernel
theorem dX6_person_95 : decode cX6_person 95 = .ok (.aload_n 0, 1) := by decide +kernel
theorem dX6_person_96 : decode cX6_person 96 = .ok (.getfield 81, 3) := by decide +kernel
theorem dX6_person_99 : decode cX6_person 99 = .ok (.iload_n 3, 1) := by decide +kernel
theorem dX6_person_100 : decode cX6_person 100 = .ok (.iastore, 1) := by decide +kernel
theorem dX6_person_101 : decode cX6_person 101 = .ok (.aload_n 0, 1) := by decide +kernel
theorem dX6_person_102 : decode cX6_person 102 = .ok (.getfield 26, 3) := by decide +kernel
theorem dX6_person_105 : decode cX6_person 105 = .ok (.aload_n 0, 1) := by decide +kernel
theorem dX6_person_106 : decode cX6_person 106 = .ok (.getfield 81, 3) := by decide +kernel
theorem dX6_person_109 : decode cX6_person 109 = .ok (.iload 4, 2) := by decide +kernel
theorem dX6_person_111 : decode cX6_person 111 = .ok (.iastore, 1) := by decide +kernel
theorem dX6_person_112 : decode cX6_person 112 = .ok (.aload_n 0, 1) := by decide +kernel
theorem dX6_person_113 : decode cX6_person 113 = .ok (.getfield 29, 3) := by decide +kernel
theorem dX6_person_116 : decode cX6_person 116 = .ok (.aload_n 0, 1) := by decide +kernel
theorem dX6_person_117 : decode cX6_person 117 = .ok (.getfield 81, 3) := by decide +kernel
theorem dX6_person_120 : decode cX6_person 120 = .ok (.iload 5, 2) := by decide +kernel
theorem dX6_person_122 : decode cX6_person 122 = .ok (.iastore, 1) := by decide +kernel
theorem dX6_person_123 : decode cX6_person 123 = .ok (.aload_n 0, 1) := by decide +kernel
theorem dX6_person_124 : decode cX6_person 124 = .ok (.dup, 1) := by decide +kernel
theorem dX6_person_125 : decode cX6_person 125 = .ok (.getfield 81, 3) := by decide +kernel
theorem dX6_person_128 : decode cX6_person 128 = .ok (.iconst 1, 1) := by decide +kernel
theorem dX6_person_129 : decode cX6_person 129 = .ok (.iadd, 1) := by decide +kernel
theorem dX6_person_130 : decode cX6_person 130 = .ok (.putfield 81, 3) := by decide +kernel
theorem dX6_person_133 : decode cX6_person 133 = .ok (.aload_n 0, 1) := by decide +kernel
theorem dX6_person_134 : decode cX6_person 134 = .ok (.getfield 81, 3) := by decide +kernel
theorem dX6_person_137 : decode cX6_person 137 = .ok (.iconst 1, 1) := by decide +kernel
theorem dX6_person_138 : decode cX6_person 138 = .ok (.isub, 1) := by decide +kernel
theorem dX6_person_139 : decode cX6_person 139 = .ok (.ireturn, 1) := by decide +kernel
theorem dX6_out_0 : decode cX6_out 0 = .ok (.aload_n 0, 1) := by decide +kernel
theorem dX6_out_1 : decode cX6_out 1 = .ok (.iload_n 1, 1) := by decide +kernel
theorem dX6_out_2 : decode cX6_out 2 = .ok (.invokevirtual 99, 3) := by decide +kernel
theorem dX6_out_5 : decode cX6_out 5 = .ok (.ifCond .ne 6, 3) := by decide +kernel
theorem dX6_out_8 : decode cX6_out 8 = .ok (.bipush (-2), 2) := by decide +kernel
theorem dX6_out_10 : decode cX6_out 10 = .ok (.ireturn, 1) := by decide +kernel
theorem dX6_out_11 : decode cX6_out 11 = .ok (.aload_n 0, 1) := by decide +kernel
theorem dX6_out_12 : decode cX6_out 12 = .ok (.getfield 32, 3) := by decide +kernel
theorem dX6_out_15 : decode cX6_out 15 = .ok (.iload_n 1, 1) := by decide +kernel
theorem dX6_out_16 : decode cX6_out 16 = .ok (.baload, 1) := by decide +kernel
theorem dX6_out_17 : decode cX6_out 17 = .ok (.istore_n 3, 1) := by decide +kernel
theorem dX6_out_18 : decode cX6_out 18 = .ok (.aload_n 0, 1) := by decide +kernel
theorem dX6_out_19 : decode cX6_out 19 = .ok (.getfield 32, 3) := by decide +kernel
theorem dX6_out_22 : decode cX6_out 22 = .ok (.iload_n 1, 1) := by decide +kernel
theorem dX6_out_23 : decode cX6_out 23 = .ok (.iload_n 2, 1) := by decide +kernel
theorem dX6_out_24 : decode cX6_out 24 = .ok (.bastore, 1) := by decide +kernel
theorem dX6_out_25 : decode cX6_out 25 = .ok (.iload_n 3, 1) := by decide +kernel
theorem dX6_out_26 : decode cX6_out 26 = .ok (.ifCond .eq 7, 3) := by decide +kernel
theorem dX6_out_29 : decode cX6_out 29 = .ok (.iconst 1, 1) := by decide +kernel
theorem dX6_out_30 : decode cX6_out 30 = .ok (.goto 4, 3) := by decide +kernel
theorem dX6_out_33 : decode cX6_out 33 = .ok (.iconst 0, 1) := by decide +kernel
theorem dX6_out_34 : decode cX6_out 34 = .ok (.ireturn, 1) := by decide +kernel
theorem dX6_play_0 : decode cX6_play 0 = .ok (.iload_n 1, 1) := by decide +kernel
theorem dX6_play_1 : decode cX6_play 1 = .ok (.iconst 0, 1) := by decide +kernel
theorem dX6_play_2 : decode cX6_play 2 = .ok (.bipush 50, 2) := by decide +kernel
theorem dX6_play_4 : decode cX6_play 4 = .ok (.invokestatic 84, 3) := by decide +kernel
theorem dX6_play_7 : decode cX6_play 7 = .ok (.ifCond .ne 6, 3) := by decide +kernel
theorem dX6_play_10 : decode cX6_play 10 = .ok (.bipush (-3), 2) := by decide +kernel
theorem dX6_play_12 : decode cX6_play 12 = .ok (.ireturn, 1) := by decide +kernel
theorem dX6_play_13 : decode cX6_play 13 = .ok (.aload_n 0, 1) := by decide +kernel
theorem dX6_play_14 : decode cX6_play 14 = .ok (.getfield 36, 3) := by decide +kernel
theorem dX6_play_17 : decode cX6_play 17 = .ok (.istore_n 2, 1) := by decide +kernel
theorem dX6_play_18 : decode cX6_play 18 = .ok (.aload_n 0, 1) := by decide +kernel
theorem dX6_play_19 : decode cX6_play 19 = .ok (.iload_n 1, 1) := by decide +kernel
theorem dX6_play_20 : decode cX6_play 20 = .ok (.putfield 36, 3) := by decide +kernel
theorem dX6_play_23 : decode cX6_play 23 = .ok (.iload_n 2, 1) := by decide +kernel
theorem dX6_play_24 : decode cX6_play 24 = .ok (.ireturn, 1) := by decide +kernel
theorem dX6_findLoads_0 : decode cX6_findLoads 0 = .ok (.iconst 0, 1) := by decide +kernel
theorem dX6_findLoads_1 : decode cX6_findLoads 1 = .ok (.istore_n 2, 1) := by decide +kernel
theorem dX6_findLoads_2 : decode cX6_findLoads 2 = .ok (.iload_n 2, 1) := by decide +kernel
theorem dX6_findLoads_3 : decode cX6_findLoads 3 = .ok (.aload_n 0, 1) := by decide +kernel
theorem dX6_findLoads_4 : decode cX6_findLoads 4 = .ok (.getfield 88, 3) := by decide +kernel
theorem dX6_findLoads_7 : decode cX6_findLoads 7 = .ok (.if_icmp .ge 16, 3) := by decide +kernel
theorem dX6_findLoads_10 : decode cX6_findLoads 10 = .ok (.aload_n 0, 1) := by decide +kernel
theorem dX6_findLoads_11 : decode cX6_findLoads 11 = .ok (.getfield 54, 3) := by decide +kernel
theorem dX6_findLoads_14 : decode cX6_findLoads 14 = .ok (.iload_n 2, 1) := by decide +kernel
theorem dX6_findLoads_15 : decode cX6_findLoads 15 = .ok (.iconst 0, 1) := by decide +kernel
theorem dX6_findLoads_16 : decode cX6_findLoads 16 = .ok (.iastore, 1) := by decide +kernel
theorem dX6_findLoads_17 : decode cX6_findLoads 17 = .ok (.iinc 2 1, 3) := by decide +kernel
theorem dX6_findLoads_20 : decode cX6_findLoads 20 = .ok (.goto (-18), 3) := by decide +kernel
theorem dX6_findLoads_23 : decode cX6_findLoads 23 = .ok (.iload_n 1, 1) := by decide +kernel
theorem dX6_findLoads_24 : decode cX6_findLoads 24 = .ok (.istore_n 2, 1) := by decide +kernel
theorem dX6_findLoads_25 : decode cX6_findLoads 25 = .ok (.iload_n 2, 1) := by decide +kernel
theorem dX6_findLoads_26 : decode cX6_findLoads 26 = .ok (.ifCond .lt 73, 3) := by decide +kernel
theorem dX6_findLoads_29 : decode cX6_findLoads 29 = .ok (.aload_n 0, 1) := by decide +kernel
theorem dX6_findLoads_30 : decode cX6_findLoads 30 = .ok (.getfield 42, 3) := by decide +kernel
theorem dX6_findLoads_33 : decode cX6_findLoads 33 = .ok (.iload_n 2, 1) := by decide +kernel
theorem dX6_findLoads_34 : decode cX6_findLoads 34 = .ok (.iaload, 1) := by decide +kernel
theorem dX6_findLoads_35 : decode cX6_findLoads 35 = .ok (.iconst (-1), 1) := by decide +kernel
theorem dX6_findLoads_36 : decode cX6_findLoads 36 = .ok (.if_icmp .eq 57, 3) := by decide +kernel
theorem dX6_findLoads_39 : decode cX6_findLoads 39 = .ok (.bipush 8, 2) := by decide +kernel
theorem dX6_findLoads_41 : decode cX6_findLoads 41 = .ok (.aload_n 0, 1) := by decide +kernel
theorem dX6_findLoads_42 : decode cX6_findLoads 42 = .ok (.getfield 20, 3) := by decide +kernel
theorem dX6_findLoads_45 : decode cX6_findLoads 45 = .ok (.aload_n 0, 1) := by decide +kernel
theorem dX6_findLoads_46 : decode cX6_findLoads 46 = .ok (.getfield 51, 3) := by decide +kernel
theorem dX6_findLoads_49 : decode cX6_findLoads 49 = .ok (.iload_n 2, 1) := by decide +kernel
theorem dX6_findLoads_50 : decode cX6_findLoads 50 = .ok (.iaload, 1) := by decide +kernel
theorem dX6_findLoads_51 : decode cX6_findLoads 51 = .ok (.iaload, 1) := by decide +kernel
theorem dX6_findLoads_52 : decode cX6_findLoads 52 = .ok (.imul, 1) := by decide +kernel
theorem dX6_findLoads_53 : decode cX6_findLoads 53 = .ok (.aload_n 0, 1) := by decide +kernel
theorem dX6_findLoads_54 : decode cX6_findLoads 54 = .ok (.getfield 54, 3) := by decide +kernel
theorem dX6_findLoads_57 : decode cX6_findLoads 57 = .ok (.iload_n 2, 1) := by decide +kernel
theorem dX6_findLoads_58 : decode cX6_findLoads 58 = .ok (.iaload, 1) := by decide +kernel
theorem dX6_findLoads_59 : decode cX6_findLoads 59 = .ok (.iadd, 1) := by decide +kernel
theorem dX6_findLoads_60 : decode cX6_findLoads 60 = .ok (.iconst 2, 1) := by decide +kernel
theorem dX6_findLoads_61 : decode cX6_findLoads 61 = .ok (.idiv, 1) := by decide +kernel
theorem dX6_findLoads_62 : decode cX6_findLoads 62 = .ok (.istore_n 3, 1) := by decide +kernel
theorem dX6_findLoads_63 : decode cX6_findLoads 63 = .ok (.aload_n 0, 1) := by decide +kernel
theorem dX6_findLoads_64 : decode cX6_findLoads 64 = .ok (.getfield 54, 3) := by decide +kernel
theorem dX6_findLoads_67 : decode cX6_findLoads 67 = .ok (.aload_n 0, 1) := by decide +kernel
theorem dX6_findLoads_68 : decode cX6_findLoads 68 = .ok (.getfield 42, 3) := by decide +kernel
theorem dX6_findLoads_71 : decode cX6_findLoads 71 = .ok (.iload_n 2, 1) := by decide +kernel
theorem dX6_findLoads_72 : decode cX6_findLoads 72 = .ok (.iaload, 1) := by decide +kernel
theorem dX6_findLoads_73 : decode cX6_findLoads 73 = .ok (.dup2, 1) := by decide +kernel
theorem dX6_findLoads_74 : decode cX6_findLoads 74 = .ok (.iaload, 1) := by decide +kernel
theorem dX6_findLoads_75 : decode cX6_findLoads 75 = .ok (.iload_n 3, 1) := by decide +kernel
theorem dX6_findLoads_76 : decode cX6_findLoads 76 = .ok (.iadd, 1) := by decide +kernel
theorem dX6_findLoads_77 : decode cX6_findLoads 77 = .ok (.iastore, 1) := by decide +kernel
theorem dX6_findLoads_78 : decode cX6_findLoads 78 = .ok (.aload_n 0, 1) := by decide +kernel
theorem dX6_findLoads_79 : decode cX6_findLoads 79 = .ok (.getfield 54, 3) := by decide +kernel
theorem dX6_findLoads_82 : decode cX6_findLoads 82 = .ok (.aload_n 0, 1) := by decide +kernel
theorem dX6_findLoads_83 : decode cX6_findLoads 83 = .ok (.getfield 45, 3) := by decide +kernel
theorem dX6_findLoads_86 : decode cX6_findLoads 86 = .ok (.iload_n 2, 1) := by decide +kernel
theorem dX6_findLoads_87 : decode cX6_findLoads 87 = .ok (.iaload, 1) := by decide +kernel
theorem dX6_findLoads_88 : decode cX6_findLoads 88 = .ok (.dup2, 1) := by decide +kernel
theorem dX6_findLoads_89 : decode cX6_findLoads 89 = .ok (.iaload, 1) := by decide +kernel
theorem dX6_findLoads_90 : decode cX6_findLoads 90 = .ok (.iload_n 3, 1) := by decide +kernel
theorem dX6_findLoads_91 : decode cX6_findLoads 91 = .ok (.iadd, 1) := by decide +kernel
theorem dX6_findLoads_92 : decode cX6_findLoads 92 = .ok (.iastore, 1) := by decide +kernel
theorem dX6_findLoads_93 : decode cX6_findLoads 93 = .ok (.iinc 2 (-1), 3) := by decide +kernel
theorem dX6_findLoads_96 : decode cX6_findLoads 96 = .ok (.goto (-71), 3) := by decide +kernel
theorem dX6_findLoads_99 : decode cX6_findLoads 99 = .ok (.return_, 1) := by decide +kernel
theorem dX6_uneven_0 : decode cX6_uneven 0 = .ok (.iconst 0, 1) := by decide +kernel
theorem dX6_uneven_1 : decode cX6_uneven 1 = .ok (.istore_n 1, 1) := by decide +kernel
theorem dX6_uneven_2 : decode cX6_uneven 2 = .ok (.iconst 0, 1) := by decide +kernel
theorem dX6_uneven_3 : decode cX6_uneven 3 = .ok (.istore_n 2, 1) := by decide +kernel
theorem dX6_uneven_4 : decode cX6_uneven 4 = .ok (.iload_n 2, 1) := by decide +kernel
theorem dX6_uneven_5 : decode cX6_uneven 5 = .ok (.aload_n 0, 1) := by decide +kernel
theorem dX6_uneven_6 : decode cX6_uneven 6 = .ok (.getfield 7, 3) := by decide +kernel
theorem dX6_uneven_9 : decode cX6_uneven 9 = .ok (.if_icmp .ge 134, 3) := by decide +kernel
theorem dX6_uneven_12 : decode cX6_uneven 12 = .ok (.sipush 1000, 3) := by decide +kernel
theorem dX6_uneven_15 : decode cX6_uneven 15 = .ok (.istore_n 3, 1) := by decide +kernel
theorem dX6_uneven_16 : decode cX6_uneven 16 = .ok (.iconst 0, 1) := by decide +kernel
theorem dX6_uneven_17 : decode cX6_uneven 17 = .ok (.istore 4, 2) := by decide +kernel
theorem dX6_uneven_19 : decode cX6_uneven 19 = .ok (.iconst 0, 1) := by decide +kernel
theorem dX6_uneven_20 : decode cX6_uneven 20 = .ok (.istore 5, 2) := by decide +kernel
theorem dX6_uneven_22 : decode cX6_uneven 22 = .ok (.iload 5, 2) := by decide +kernel
theorem dX6_uneven_24 : decode cX6_uneven 24 = .ok (.aload_n 0, 1) := by decide +kernel
theorem dX6_uneven_25 : decode cX6_uneven 25 = .ok (.getfield 88, 3) := by decide +kernel
theorem dX6_uneven_28 : decode cX6_uneven 28 = .ok (.if_icmp .ge 89, 3) := by decide +kernel
theorem dX6_uneven_31 : decode cX6_uneven 31 = .ok (.aload_n 0, 1) := by decide +kernel
theorem dX6_uneven_32 : decode cX6_uneven 32 = .ok (.getfield 39, 3) := by decide +kernel
theorem dX6_uneven_35 : decode cX6_uneven 35 = .ok (.iload 5, 2) := by decide +kernel
theorem dX6_uneven_37 : decode cX6_uneven 37 = .ok (.iaload, 1) := by decide +kernel
theorem dX6_uneven_38 : decode cX6_uneven 38 = .ok (.iload_n 2, 1) := by decide +kernel
theorem dX6_uneven_39 : decode cX6_uneven 39 = .ok (.if_icmp .ne 72, 3) := by decide +kernel
theorem dX6_uneven_42 : decode cX6_uneven 42 = .ok (.aload_n 0, 1) := by decide +kernel
theorem dX6_uneven_43 : decode cX6_uneven 43 = .ok (.getfield 17, 3) := by decide +kernel
theorem dX6_uneven_46 : decode cX6_uneven 46 = .ok (.aload_n 0, 1) := by decide +kernel
theorem dX6_uneven_47 : decode cX6_uneven 47 = .ok (.getfield 51, 3) := by decide +kernel
theorem dX6_uneven_50 : decode cX6_uneven 50 = .ok (.iload 5, 2) := by decide +kernel
theorem dX6_uneven_52 : decode cX6_uneven 52 = .ok (.iaload, 1) := by decide +kernel
theorem dX6_uneven_53 : decode cX6_uneven 53 = .ok (.iaload, 1) := by decide +kernel
theorem dX6_uneven_54 : decode cX6_uneven 54 = .ok (.iload_n 3, 1) := by decide +kernel
theorem dX6_uneven_55 : decode cX6_uneven 55 = .ok (.if_icmp .ge 18, 3) := by decide +kernel
theorem dX6_uneven_58 : decode cX6_uneven 58 = .ok (.aload_n 0, 1) := by decide +kernel
theorem dX6_uneven_59 : decode cX6_uneven 59 = .ok (.getfield 17, 3) := by decide +kernel
theorem dX6_uneven_62 : decode cX6_uneven 62 = .ok (.aload_n 0, 1) := by decide +kernel
theorem dX6_uneven_63 : decode cX6_uneven 63 = .ok (.getfield 51, 3) := by decide +kernel
theorem dX6_uneven_66 : decode cX6_uneven 66 = .ok (.iload 5, 2) := by decide +kernel
theorem dX6_uneven_68 : decode cX6_uneven 68 = .ok (.iaload, 1) := by decide +kernel
theorem dX6_uneven_69 : decode cX6_uneven 69 = .ok (.iaload, 1) := by decide +kernel
theorem dX6_uneven_70 : decode cX6_uneven 70 = .ok (.goto 4, 3) := by decide +kernel
theorem dX6_uneven_73 : decode cX6_uneven 73 = .ok (.iload_n 3, 1) := by decide +kernel
theorem dX6_uneven_74 : decode cX6_uneven 74 = .ok (.istore_n 3, 1) := by decide +kernel
theorem dX6_uneven_75 : decode cX6_uneven 75 = .ok (.aload_n 0, 1) := by decide +kernel
theorem dX6_uneven_76 : decode cX6_uneven 76 = .ok (.getfield 17, 3) := by decide +kernel
theorem dX6_uneven_79 : decode cX6_uneven 79 = .ok (.aload_n 0, 1) := by decide +kernel
theorem dX6_uneven_80 : decode cX6_uneven 80 = .ok (.getfield 51, 3) := by decide +kernel
theorem dX6_uneven_83 : decode cX6_uneven 83 = .ok (.iload 5, 2) := by decide +kernel
theorem dX6_uneven_85 : decode cX6_uneven 85 = .ok (.iaload, 1) := by decide +kernel
theorem dX6_uneven_86 : decode cX6_uneven 86 = .ok (.iaload, 1) := by decide +kernel
theorem dX6_uneven_87 : decode cX6_uneven 87 = .ok (.iload 4, 2) := by decide +kernel
theorem dX6_uneven_89 : decode cX6_uneven 89 = .ok (.if_icmp .le 18, 3) := by decide +kernel
theorem dX6_uneven_92 : decode cX6_uneven 92 = .ok (.aload_n 0, 1) := by decide +kernel
theorem dX6_uneven_93 : decode cX6_uneven 93 = .ok (.getfield 17, 3) := by decide +kernel
theorem dX6_uneven_96 : decode cX6_uneven 96 = .ok (.aload_n 0, 1) := by decide +kernel
theorem dX6_uneven_97 : decode cX6_uneven 97 = .ok (.getfield 51, 3) := by decide +kernel
theorem dX6_uneven_100 : decode cX6_uneven 100 = .ok (.iload 5, 2) := by decide +kernel
theorem dX6_uneven_102 : decode cX6_uneven 102 = .ok (.iaload, 1) := by decide +kernel
theorem dX6_uneven_103 : decode cX6_uneven 103 = .ok (.iaload, 1) := by decide +kernel
theorem dX6_uneven_104 : decode cX6_uneven 104 = .ok (.goto 5, 3) := by decide +kernel
theorem dX6_uneven_107 : decode cX6_uneven 107 = .ok (.iload 4, 2) := by decide +kernel
theorem dX6_uneven_109 : decode cX6_uneven 109 = .ok (.istore 4, 2) := by decide +kernel
theorem dX6_uneven_111 : decode cX6_uneven 111 = .ok (.iinc 5 1, 3) := by decide +kernel
theorem dX6_uneven_114 : decode cX6_uneven 114 = .ok (.goto (-92), 3) := by decide +kernel
theorem dX6_uneven_117 : decode cX6_uneven 117 = .ok (.iload 4, 2) := by decide +kernel
theorem dX6_uneven_119 : decode cX6_uneven 119 = .ok (.iload_n 3, 1) := by decide +kernel
theorem dX6_uneven_120 : decode cX6_uneven 120 = .ok (.isub, 1) := by decide +kernel
theorem dX6_uneven_121 : decode cX6_uneven 121 = .ok (.aload_n 0, 1) := by decide +kernel
theorem dX6_uneven_122 : decode cX6_uneven 122 = .ok (.getfield 36, 3) := by decide +kernel
theorem dX6_uneven_125 : decode cX6_uneven 125 = .ok (.if_icmp .le 5, 3) := by decide +kernel
theorem dX6_uneven_128 : decode cX6_uneven 128 = .ok (.iconst (-1), 1) := by decide +kernel
theorem dX6_uneven_129 : decode cX6_uneven 129 = .ok (.ireturn, 1) := by decide +kernel
theorem dX6_uneven_130 : decode cX6_uneven 130 = .ok (.iload_n 1, 1) := by decide +kernel
theorem dX6_uneven_131 : decode cX6_uneven 131 = .ok (.iload 4, 2) := by decide +kernel
theorem dX6_uneven_133 : decode cX6_uneven 133 = .ok (.iload_n 3, 1) := by decide +kernel
theorem dX6_uneven_134 : decode cX6_uneven 134 = .ok (.isub, 1) := by decide +kernel
theorem dX6_uneven_135 : decode cX6_uneven 135 = .ok (.iadd, 1) := by decide +kernel
theorem dX6_uneven_136 : decode cX6_uneven 136 = .ok (.istore_n 1, 1) := by decide +kernel
theorem dX6_uneven_137 : decode cX6_uneven 137 = .ok (.iinc 2 1, 3) := by decide +kernel
theorem dX6_uneven_140 : decode cX6_uneven 140 = .ok (.goto (-136), 3) := by decide +kernel
theorem dX6_uneven_143 : decode cX6_uneven 143 = .ok (.iload_n 1, 1) := by decide +kernel
theorem dX6_uneven_144 : decode cX6_uneven 144 = .ok (.ireturn, 1) := by decide +kernel
theorem dX6_fitsSo_0 : decode cX6_fitsSo 0 = .ok (.iconst 0, 1) := by decide +kernel
theorem dX6_fitsSo_1 : decode cX6_fitsSo 1 = .ok (.istore_n 1, 1) := by decide +kernel
theorem dX6_fitsSo_2 : decode cX6_fitsSo 2 = .ok (.iload_n 1, 1) := by decide +kernel
theorem dX6_fitsSo_3 : decode cX6_fitsSo 3 = .ok (.aload_n 0, 1) := by decide +kernel
theorem dX6_fitsSo_4 : decode cX6_fitsSo 4 = .ok (.getfield 88, 3) := by decide +kernel
theorem dX6_fitsSo_7 : decode cX6_fitsSo 7 = .ok (.if_icmp .ge 45, 3) := by decide +kernel
theorem dX6_fitsSo_10 : decode cX6_fitsSo 10 = .ok (.aload_n 0, 1) := by decide +kernel
theorem dX6_fitsSo_11 : decode cX6_fitsSo 11 = .ok (.getfield 32, 3) := by decide +kernel
theorem dX6_fitsSo_14 : decode cX6_fitsSo 14 = .ok (.aload_n 0, 1) := by decide +kernel
theorem dX6_fitsSo_15 : decode cX6_fitsSo 15 = .ok (.getfield 51, 3) := by decide +kernel
theorem dX6_fitsSo_18 : decode cX6_fitsSo 18 = .ok (.iload_n 1, 1) := by decide +kernel
theorem dX6_fitsSo_19 : decode cX6_fitsSo 19 = .ok (.iaload, 1) := by decide +kernel
theorem dX6_fitsSo_20 : decode cX6_fitsSo 20 = .ok (.baload, 1) := by decide +kernel
theorem dX6_fitsSo_21 : decode cX6_fitsSo 21 = .ok (.ifCond .ne 23, 3) := by decide +kernel
theorem dX6_fitsSo_24 : decode cX6_fitsSo 24 = .ok (.aload_n 0, 1) := by decide +kernel
theorem dX6_fitsSo_25 : decode cX6_fitsSo 25 = .ok (.getfield 39, 3) := by decide +kernel
theorem dX6_fitsSo_28 : decode cX6_fitsSo 28 = .ok (.iload_n 1, 1) := by decide +kernel
theorem dX6_fitsSo_29 : decode cX6_fitsSo 29 = .ok (.iaload, 1) := by decide +kernel
theorem dX6_fitsSo_30 : decode cX6_fitsSo 30 = .ok (.aload_n 0, 1) := by decide +kernel
theorem dX6_fitsSo_31 : decode cX6_fitsSo 31 = .ok (.getfield 26, 3) := by decide +kernel
theorem dX6_fitsSo_34 : decode cX6_fitsSo 34 = .ok (.aload_n 0, 1) := by decide +kernel
theorem dX6_fitsSo_35 : decode cX6_fitsSo 35 = .ok (.getfield 51, 3) := by decide +kernel
theorem dX6_fitsSo_38 : decode cX6_fitsSo 38 = .ok (.iload_n 1, 1) := by decide +kernel
theorem dX6_fitsSo_39 : decode cX6_fitsSo 39 = .ok (.iaload, 1) := by decide +kernel
theorem dX6_fitsSo_40 : decode cX6_fitsSo 40 = .ok (.iaload, 1) := by decide +kernel
theorem dX6_fitsSo_41 : decode cX6_fitsSo 41 = .ok (.if_icmp .le 5, 3) := by decide +kernel
theorem dX6_fitsSo_44 : decode cX6_fitsSo 44 = .ok (.iconst (-1), 1) := by decide +kernel
theorem dX6_fitsSo_45 : decode cX6_fitsSo 45 = .ok (.ireturn, 1) := by decide +kernel
theorem dX6_fitsSo_46 : decode cX6_fitsSo 46 = .ok (.iinc 1 1, 3) := by decide +kernel
theorem dX6_fitsSo_49 : decode cX6_fitsSo 49 = .ok (.goto (-47), 3) := by decide +kernel
theorem dX6_fitsSo_52 : decode cX6_fitsSo 52 = .ok (.aload_n 0, 1) := by decide +kernel
theorem dX6_fitsSo_53 : decode cX6_fitsSo 53 = .ok (.aload_n 0, 1) := by decide +kernel
theorem dX6_fitsSo_54 : decode cX6_fitsSo 54 = .ok (.getfield 88, 3) := by decide +kernel
theorem dX6_fitsSo_57 : decode cX6_fitsSo 57 = .ok (.iconst 1, 1) := by decide +kernel
theorem dX6_fitsSo_58 : decode cX6_fitsSo 58 = .ok (.isub, 1) := by decide +kernel
theorem dX6_fitsSo_59 : decode cX6_fitsSo 59 = .ok (.invokevirtual 103, 3) := by decide +kernel
theorem dX6_fitsSo_62 : decode cX6_fitsSo 62 = .ok (.iconst 0, 1) := by decide +kernel
theorem dX6_fitsSo_63 : decode cX6_fitsSo 63 = .ok (.istore_n 1, 1) := by decide +kernel
theorem dX6_fitsSo_64 : decode cX6_fitsSo 64 = .ok (.iload_n 1, 1) := by decide +kernel
theorem dX6_fitsSo_65 : decode cX6_fitsSo 65 = .ok (.aload_n 0, 1) := by decide +kernel
theorem dX6_fitsSo_66 : decode cX6_fitsSo 66 = .ok (.getfield 88, 3) := by decide +kernel
theorem dX6_fitsSo_69 : decode cX6_fitsSo 69 = .ok (.if_icmp .ge 34, 3) := by decide +kernel
theorem dX6_fitsSo_72 : decode cX6_fitsSo 72 = .ok (.aload_n 0, 1) := by decide +kernel
theorem dX6_fitsSo_73 : decode cX6_fitsSo 73 = .ok (.getfield 54, 3) := by decide +kernel
theorem dX6_fitsSo_76 : decode cX6_fitsSo 76 = .ok (.iload_n 1, 1) := by decide +kernel
theorem dX6_fitsSo_77 : decode cX6_fitsSo 77 = .ok (.iaload, 1) := by decide +kernel
theorem dX6_fitsSo_78 : decode cX6_fitsSo 78 = .ok (.bipush 8, 2) := by decide +kernel
theorem dX6_fitsSo_80 : decode cX6_fitsSo 80 = .ok (.aload_n 0, 1) := by decide +kernel
theorem dX6_fitsSo_81 : decode cX6_fitsSo 81 = .ok (.getfield 23, 3) := by decide +kernel
theorem dX6_fitsSo_84 : decode cX6_fitsSo 84 = .ok (.aload_n 0, 1) := by decide +kernel
theorem dX6_fitsSo_85 : decode cX6_fitsSo 85 = .ok (.getfield 51, 3) := by decide +kernel
theorem dX6_fitsSo_88 : decode cX6_fitsSo 88 = .ok (.iload_n 1, 1) := by decide +kernel
theorem dX6_fitsSo_89 : decode cX6_fitsSo 89 = .ok (.iaload, 1) := by decide +kernel
theorem dX6_fitsSo_90 : decode cX6_fitsSo 90 = .ok (.iaload, 1) := by decide +kernel
theorem dX6_fitsSo_91 : decode cX6_fitsSo 91 = .ok (.imul, 1) := by decide +kernel
theorem dX6_fitsSo_92 : decode cX6_fitsSo 92 = .ok (.if_icmp .le 5, 3) := by decide +kernel
theorem dX6_fitsSo_95 : decode cX6_fitsSo 95 = .ok (.iconst (-1), 1) := by decide +kernel
theorem dX6_fitsSo_96 : decode cX6_fitsSo 96 = .ok (.ireturn, 1) := by decide +kernel
theorem dX6_fitsSo_97 : decode cX6_fitsSo 97 = .ok (.iinc 1 1, 3) := by decide +kernel
theorem dX6_fitsSo_100 : decode cX6_fitsSo 100 = .ok (.goto (-36), 3) := by decide +kernel
theorem dX6_fitsSo_103 : decode cX6_fitsSo 103 = .ok (.aload_n 0, 1) := by decide +kernel
theorem dX6_fitsSo_104 : decode cX6_fitsSo 104 = .ok (.invokevirtual 107, 3) := by decide +kernel
theorem dX6_fitsSo_107 : decode cX6_fitsSo 107 = .ok (.ireturn, 1) := by decide +kernel
theorem dX6_isAhead_0 : decode cX6_isAhead 0 = .ok (.iconst 0, 1) := by decide +kernel
theorem dX6_isAhead_1 : decode cX6_isAhead 1 = .ok (.istore_n 2, 1) := by decide +kernel
theorem dX6_isAhead_2 : decode cX6_isAhead 2 = .ok (.iconst 0, 1) := by decide +kernel
theorem dX6_isAhead_3 : decode cX6_isAhead 3 = .ok (.istore_n 3, 1) := by decide +kernel
theorem dX6_isAhead_4 : decode cX6_isAhead 4 = .ok (.iload_n 3, 1) := by decide +kernel
theorem dX6_isAhead_5 : decode cX6_isAhead 5 = .ok (.iload_n 1, 1) := by decide +kernel
theorem dX6_isAhead_6 : decode cX6_isAhead 6 = .ok (.if_icmp .ge 34, 3) := by decide +kernel
theorem dX6_isAhead_9 : decode cX6_isAhead 9 = .ok (.iload_n 2, 1) := by decide +kernel
theorem dX6_isAhead_10 : decode cX6_isAhead 10 = .ok (.ifCond .ne 18, 3) := by decide +kernel
theorem dX6_isAhead_13 : decode cX6_isAhead 13 = .ok (.aload_n 0, 1) := by decide +kernel
theorem dX6_isAhead_14 : decode cX6_isAhead 14 = .ok (.getfield 51, 3) := by decide +kernel
theorem dX6_isAhead_17 : decode cX6_isAhead 17 = .ok (.iload_n 3, 1) := by decide +kernel
theorem dX6_isAhead_18 : decode cX6_isAhead 18 = .ok (.iaload, 1) := by decide +kernel
theorem dX6_isAhead_19 : decode cX6_isAhead 19 = .ok (.aload_n 0, 1) := by decide +kernel
theorem dX6_isAhead_20 : decode cX6_isAhead 20 = .ok (.getfield 51, 3) := by decide +kernel
theorem dX6_isAhead_23 : decode cX6_isAhead 23 = .ok (.iload_n 1, 1) := by decide +kernel
theorem dX6_isAhead_24 : decode cX6_isAhead 24 = .ok (.iaload, 1) := by decide +kernel
theorem dX6_isAhead_25 : decode cX6_isAhead 25 = .ok (.if_icmp .ne 7, 3) := by decide +kernel
theorem dX6_isAhead_28 : decode cX6_isAhead 28 = .ok (.iconst 1, 1) := by decide +kernel
theorem dX6_isAhead_29 : decode cX6_isAhead 29 = .ok (.goto 4, 3) := by decide +kernel
theorem dX6_isAhead_32 : decode cX6_isAhead 32 = .ok (.iconst 0, 1) := by decide +kernel
theorem dX6_isAhead_33 : decode cX6_isAhead 33 = .ok (.istore_n 2, 1) := by decide +kernel
theorem dX6_isAhead_34 : decode cX6_isAhead 34 = .ok (.iinc 3 1, 3) := by decide +kernel
theorem dX6_isAhead_37 : decode cX6_isAhead 37 = .ok (.goto (-33), 3) := by decide +kernel
theorem dX6_isAhead_40 : decode cX6_isAhead 40 = .ok (.iload_n 2, 1) := by decide +kernel
theorem dX6_isAhead_41 : decode cX6_isAhead 41 = .ok (.ireturn, 1) := by decide +kernel
theorem dX6_hasNext_0 : decode cX6_hasNext 0 = .ok (.aload_n 0, 1) := by decide +kernel
theorem dX6_hasNext_1 : decode cX6_hasNext 1 = .ok (.getfield 88, 3) := by decide +kernel
theorem dX6_hasNext_4 : decode cX6_hasNext 4 = .ok (.iconst 1, 1) := by decide +kernel
theorem dX6_hasNext_5 : decode cX6_hasNext 5 = .ok (.isub, 1) := by decide +kernel
theorem dX6_hasNext_6 : decode cX6_hasNext 6 = .ok (.istore_n 1, 1) := by decide +kernel
theorem dX6_hasNext_7 : decode cX6_hasNext 7 = .ok (.iload_n 1, 1) := by decide +kernel
theorem dX6_hasNext_8 : decode cX6_hasNext 8 = .ok (.ifCond .lt 114, 3) := by decide +kernel
theorem dX6_hasNext_11 : decode cX6_hasNext 11 = .ok (.aload_n 0, 1) := by decide +kernel
theorem dX6_hasNext_12 : decode cX6_hasNext 12 = .ok (.getfield 51, 3) := by decide +kernel
theorem dX6_hasNext_15 : decode cX6_hasNext 15 = .ok (.iload_n 1, 1) := by decide +kernel
theorem dX6_hasNext_16 : decode cX6_hasNext 16 = .ok (.dup2, 1) := by decide +kernel
theorem dX6_hasNext_17 : decode cX6_hasNext 17 = .ok (.iaload, 1) := by decide +kernel
theorem dX6_hasNext_18 : decode cX6_hasNext 18 = .ok (.iconst 1, 1) := by decide +kernel
theorem dX6_hasNext_19 : decode cX6_hasNext 19 = .ok (.iadd, 1) := by decide +kernel
theorem dX6_hasNext_20 : decode cX6_hasNext 20 = .ok (.iastore, 1) := by decide +kernel
theorem dX6_hasNext_21 : decode cX6_hasNext 21 = .ok (.aload_n 0, 1) := by decide +kernel
theorem dX6_hasNext_22 : decode cX6_hasNext 22 = .ok (.getfield 51, 3) := by decide +kernel
theorem dX6_hasNext_25 : decode cX6_hasNext 25 = .ok (.iload_n 1, 1) := by decide +kernel
theorem dX6_hasNext_26 : decode cX6_hasNext 26 = .ok (.iaload, 1) := by decide +kernel
theorem dX6_hasNext_27 : decode cX6_hasNext 27 = .ok (.aload_n 0, 1) := by decide +kernel
theorem dX6_hasNext_28 : decode cX6_hasNext 28 = .ok (.getfield 81, 3) := by decide +kernel
theorem dX6_hasNext_31 : decode cX6_hasNext 31 = .ok (.if_icmp .ge 24, 3) := by decide +kernel
theorem dX6_hasNext_34 : decode cX6_hasNext 34 = .ok (.aload_n 0, 1) := by decide +kernel
theorem dX6_hasNext_35 : decode cX6_hasNext 35 = .ok (.iload_n 1, 1) := by decide +kernel
theorem dX6_hasNext_36 : decode cX6_hasNext 36 = .ok (.invokevirtual 111, 3) := by decide +kernel
theorem dX6_hasNext_39 : decode cX6_hasNext 39 = .ok (.ifCond .eq 16, 3) := by decide +kernel
theorem dX6_hasNext_42 : decode cX6_hasNext 42 = .ok (.aload_n 0, 1) := by decide +kernel
theorem dX6_hasNext_43 : decode cX6_hasNext 43 = .ok (.getfield 51, 3) := by decide +kernel
theorem dX6_hasNext_46 : decode cX6_hasNext 46 = .ok (.iload_n 1, 1) := by decide +kernel
theorem dX6_hasNext_47 : decode cX6_hasNext 47 = .ok (.dup2, 1) := by decide +kernel
theorem dX6_hasNext_48 : decode cX6_hasNext 48 = .ok (.iaload, 1) := by decide +kernel
theorem dX6_hasNext_49 : decode cX6_hasNext 49 = .ok (.iconst 1, 1) := by decide +kernel
theorem dX6_hasNext_50 : decode cX6_hasNext 50 = .ok (.iadd, 1) := by decide +kernel
theorem dX6_hasNext_51 : decode cX6_hasNext 51 = .ok (.iastore, 1) := by decide +kernel
theorem dX6_hasNext_52 : decode cX6_hasNext 52 = .ok (.goto (-31), 3) := by decide +kernel
theorem dX6_hasNext_55 : decode cX6_hasNext 55 = .ok (.aload_n 0, 1) := by decide +kernel
theorem dX6_hasNext_56 : decode cX6_hasNext 56 = .ok (.getfield 51, 3) := by decide +kernel
theorem dX6_hasNext_59 : decode cX6_hasNext 59 = .ok (.iload_n 1, 1) := by decide +kernel
theorem dX6_hasNext_60 : decode cX6_hasNext 60 = .ok (.iaload, 1) := by decide +kernel
theorem dX6_hasNext_61 : decode cX6_hasNext 61 = .ok (.aload_n 0, 1) := by decide +kernel
theorem dX6_hasNext_62 : decode cX6_hasNext 62 = .ok (.getfield 81, 3) := by decide +kernel
theorem dX6_hasNext_65 : decode cX6_hasNext 65 = .ok (.if_icmp .ge 51, 3) := by decide +kernel
theorem dX6_hasNext_68 : decode cX6_hasNext 68 = .ok (.iload_n 1, 1) := by decide +kernel
theorem dX6_hasNext_69 : decode cX6_hasNext 69 = .ok (.iconst 1, 1) := by decide +kernel
theorem dX6_hasNext_70 : decode cX6_hasNext 70 = .ok (.iadd, 1) := by decide +kernel
theorem dX6_hasNext_71 : decode cX6_hasNext 71 = .ok (.istore_n 2, 1) := by decide +kernel
theorem dX6_hasNext_72 : decode cX6_hasNext 72 = .ok (.iload_n 2, 1) := by decide +kernel
theorem dX6_hasNext_73 : decode cX6_hasNext 73 = .ok (.aload_n 0, 1) := by decide +kernel
theorem dX6_hasNext_74 : decode cX6_hasNext 74 = .ok (.getfield 88, 3) := by decide +kernel
theorem dX6_hasNext_77 : decode cX6_hasNext 77 = .ok (.if_icmp .ge 37, 3) := by decide +kernel
theorem dX6_hasNext_80 : decode cX6_hasNext 80 = .ok (.aload_n 0, 1) := by decide +kernel
theorem dX6_hasNext_81 : decode cX6_hasNext 81 = .ok (.getfield 51, 3) := by decide +kernel
theorem dX6_hasNext_84 : decode cX6_hasNext 84 = .ok (.iload_n 2, 1) := by decide +kernel
theorem dX6_hasNext_85 : decode cX6_hasNext 85 = .ok (.iconst 0, 1) := by decide +kernel
theorem dX6_hasNext_86 : decode cX6_hasNext 86 = .ok (.iastore, 1) := by decide +kernel
theorem dX6_hasNext_87 : decode cX6_hasNext 87 = .ok (.aload_n 0, 1) := by decide +kernel
theorem dX6_hasNext_88 : decode cX6_hasNext 88 = .ok (.iload_n 2, 1) := by decide +kernel
theorem dX6_hasNext_89 : decode cX6_hasNext 89 = .ok (.invokevirtual 111, 3) := by decide +kernel
theorem dX6_hasNext_92 : decode cX6_hasNext 92 = .ok (.ifCond .eq 16, 3) := by decide +kernel
theorem dX6_hasNext_95 : decode cX6_hasNext 95 = .ok (.aload_n 0, 1) := by decide +kernel
theorem dX6_hasNext_96 : decode cX6_hasNext 96 = .ok (.getfield 51, 3) := by decide +kernel
theorem dX6_hasNext_99 : decode cX6_hasNext 99 = .ok (.iload_n 2, 1) := by decide +kernel
theorem dX6_hasNext_100 : decode cX6_hasNext 100 = .ok (.dup2, 1) := by decide +kernel
theorem dX6_hasNext_101 : decode cX6_hasNext 101 = .ok (.iaload, 1) := by decide +kernel
theorem dX6_hasNext_102 : decode cX6_hasNext 102 = .ok (.iconst 1, 1) := by decide +kernel
theorem dX6_hasNext_103 : decode cX6_hasNext 103 = .ok (.iadd, 1) := by decide +kernel
theorem dX6_hasNext_104 : decode cX6_hasNext 104 = .ok (.iastore, 1) := by decide +kernel
theorem dX6_hasNext_105 : decode cX6_hasNext 105 = .ok (.goto (-18), 3) := by decide +kernel
theorem dX6_hasNext_108 : decode cX6_hasNext 108 = .ok (.iinc 2 1, 3) := by decide +kernel
theorem dX6_hasNext_111 : decode cX6_hasNext 111 = .ok (.goto (-39), 3) := by decide +kernel
theorem dX6_hasNext_114 : decode cX6_hasNext 114 = .ok (.iconst 1, 1) := by decide +kernel
theorem dX6_hasNext_115 : decode cX6_hasNext 115 = .ok (.ireturn, 1) := by decide +kernel
theorem dX6_hasNext_116 : decode cX6_hasNext 116 = .ok (.iinc 1 (-1), 3) := by decide +kernel
theorem dX6_hasNext_119 : decode cX6_hasNext 119 = .ok (.goto (-112), 3) := by decide +kernel
theorem dX6_hasNext_122 : decode cX6_hasNext 122 = .ok (.iconst 0, 1) := by decide +kernel
theorem dX6_hasNext_123 : decode cX6_hasNext 123 = .ok (.ireturn, 1) := by decide +kernel
theorem dX6_findPlacings_0 : decode cX6_findPlacings 0 = .ok (.aload_n 0, 1) := by decide +kernel
theorem dX6_findPlacings_1 : decode cX6_findPlacings 1 = .ok (.iconst 0, 1) := by decide +kernel
theorem dX6_findPlacings_2 : decode cX6_findPlacings 2 = .ok (.putfield 114, 3) := by decide +kernel
theorem dX6_findPlacings_5 : decode cX6_findPlacings 5 = .ok (.aload_n 0, 1) := by decide +kernel
theorem dX6_findPlacings_6 : decode cX6_findPlacings 6 = .ok (.iconst (-1), 1) := by decide +kernel
theorem dX6_findPlacings_7 : decode cX6_findPlacings 7 = .ok (.putfield 117, 3) := by decide +kernel
theorem dX6_findPlacings_10 : decode cX6_findPlacings 10 = .ok (.aload_n 0, 1) := by decide +kernel
theorem dX6_findPlacings_11 : decode cX6_findPlacings 11 = .ok (.iconst (-1), 1) := by decide +kernel
theorem dX6_findPlacings_12 : decode cX6_findPlacings 12 = .ok (.putfield 120, 3) := by decide +kernel
theorem dX6_findPlacings_15 : decode cX6_findPlacings 15 = .ok (.aload_n 0, 1) := by decide +kernel
theorem dX6_findPlacings_16 : decode cX6_findPlacings 16 = .ok (.getfield 81, 3) := by decide +kernel
theorem dX6_findPlacings_19 : decode cX6_findPlacings 19 = .ok (.aload_n 0, 1) := by decide +kernel
theorem dX6_findPlacings_20 : decode cX6_findPlacings 20 = .ok (.getfield 88, 3) := by decide +kernel
theorem dX6_findPlacings_23 : decode cX6_findPlacings 23 = .ok (.if_icmp .lt 7, 3) := by decide +kernel
theorem dX6_findPlacings_26 : decode cX6_findPlacings 26 = .ok (.iconst 1, 1) := by decide +kernel
theorem dX6_findPlacings_27 : decode cX6_findPlacings 27 = .ok (.goto 4, 3) := by decide +kernel
theorem dX6_findPlacings_30 : decode cX6_findPlacings 30 = .ok (.iconst 0, 1) := by decide +kernel
theorem dX6_findPlacings_31 : decode cX6_findPlacings 31 = .ok (.istore_n 1, 1) := by decide +kernel
theorem dX6_findPlacings_32 : decode cX6_findPlacings 32 = .ok (.iconst 0, 1) := by decide +kernel
theorem dX6_findPlacings_33 : decode cX6_findPlacings 33 = .ok (.istore_n 2, 1) := by decide +kernel
theorem dX6_findPlacings_34 : decode cX6_findPlacings 34 = .ok (.iload_n 2, 1) := by decide +kernel
theorem dX6_findPlacings_35 : decode cX6_findPlacings 35 = .ok (.aload_n 0, 1) := by decide +kernel
theorem dX6_findPlacings_36 : decode cX6_findPlacings 36 = .ok (.getfield 88, 3) := by decide +kernel
theorem dX6_findPlacings_39 : decode cX6_findPlacings 39 = .ok (.if_icmp .ge 16, 3) := by decide +kernel
theorem dX6_findPlacings_42 : decode cX6_findPlacings 42 = .ok (.aload_n 0, 1) := by decide +kernel
theorem dX6_findPlacings_43 : decode cX6_findPlacings 43 = .ok (.getfield 51, 3) := by decide +kernel
theorem dX6_findPlacings_46 : decode cX6_findPlacings 46 = .ok (.iload_n 2, 1) := by decide +kernel
theorem dX6_findPlacings_47 : decode cX6_findPlacings 47 = .ok (.iload_n 2, 1) := by decide +kernel
theorem dX6_findPlacings_48 : decode cX6_findPlacings 48 = .ok (.iastore, 1) := by decide +kernel
theorem dX6_findPlacings_49 : decode cX6_findPlacings 49 = .ok (.iinc 2 1, 3) := by decide +kernel
theorem dX6_findPlacings_52 : decode cX6_findPlacings 52 = .ok (.goto (-18), 3) := by decide +kernel
theorem dX6_findPlacings_55 : decode cX6_findPlacings 55 = .ok (.iload_n 1, 1) := by decide +kernel
theorem dX6_findPlacings_56 : decode cX6_findPlacings 56 = .ok (.ifCond .eq 272, 3) := by decide +kernel
theorem dX6_findPlacings_59 : decode cX6_findPlacings 59 = .ok (.aload_n 0, 1) := by decide +kernel
theorem dX6_findPlacings_60 : decode cX6_findPlacings 60 = .ok (.invokevirtual 123, 3) := by decide +kernel
theorem dX6_findPlacings_63 : decode cX6_findPlacings 63 = .ok (.istore_n 2, 1) := by decide +kernel
theorem dX6_findPlacings_64 : decode cX6_findPlacings 64 = .ok (.iload_n 2, 1) := by decide +kernel
theorem dX6_findPlacings_65 : decode cX6_findPlacings 65 = .ok (.iconst (-1), 1) := by decide +kernel
theorem dX6_findPlacings_66 : decode cX6_findPlacings 66 = .ok (.if_icmp .eq 254, 3) := by decide +kernel
theorem dX6_findPlacings_69 : decode cX6_findPlacings 69 = .ok (.aload_n 0, 1) := by decide +kernel
theorem dX6_findPlacings_70 : decode cX6_findPlacings 70 = .ok (.dup, 1) := by decide +kernel
theorem dX6_findPlacings_71 : decode cX6_findPlacings 71 = .ok (.getfield 114, 3) := by decide +kernel
theorem dX6_findPlacings_74 : decode cX6_findPlacings 74 = .ok (.iconst 1, 1) := by decide +kernel
theorem dX6_findPlacings_75 : decode cX6_findPlacings 75 = .ok (.iadd, 1) := by decide +kernel
theorem dX6_findPlacings_76 : decode cX6_findPlacings 76 = .ok (.putfield 114, 3) := by decide +kernel
theorem dX6_findPlacings_79 : decode cX6_findPlacings 79 = .ok (.iconst 0, 1) := by decide +kernel
theorem dX6_findPlacings_80 : decode cX6_findPlacings 80 = .ok (.istore_n 3, 1) := by decide +kernel
theorem dX6_findPlacings_81 : decode cX6_findPlacings 81 = .ok (.iconst 0, 1) := by decide +kernel
theorem dX6_findPlacings_82 : decode cX6_findPlacings 82 = .ok (.istore 4, 2) := by decide +kernel
theorem dX6_findPlacings_84 : decode cX6_findPlacings 84 = .ok (.iload 4, 2) := by decide +kernel
theorem dX6_findPlacings_86 : decode cX6_findPlacings 86 = .ok (.aload_n 0, 1) := by decide +kernel
theorem dX6_findPlacings_87 : decode cX6_findPlacings 87 = .ok (.getfield 88, 3) := by decide +kernel
theorem dX6_findPlacings_90 : decode cX6_findPlacings 90 = .ok (.if_icmp .ge 41, 3) := by decide +kernel
theorem dX6_findPlacings_93 : decode cX6_findPlacings 93 = .ok (.iload_n 3, 1) := by decide +kernel
theorem dX6_findPlacings_94 : decode cX6_findPlacings 94 = .ok (.aload_n 0, 1) := by decide +kernel
theorem dX6_findPlacings_95 : decode cX6_findPlacings 95 = .ok (.getfield 95, 3) := by decide +kernel
theorem dX6_findPlacings_98 : decode cX6_findPlacings 98 = .ok (.ifCond .eq 20, 3) := by decide +kernel
theorem dX6_findPlacings_101 : decode cX6_findPlacings 101 = .ok (.aload_n 0, 1) := by decide +kernel
theorem dX6_findPlacings_102 : decode cX6_findPlacings 102 = .ok (.getfield 51, 3) := by decide +kernel
theorem dX6_findPlacings_105 : decode cX6_findPlacings 105 = .ok (.iload 4, 2) := by decide +kernel
theorem dX6_findPlacings_107 : decode cX6_findPlacings 107 = .ok (.iaload, 1) := by decide +kernel
theorem dX6_findPlacings_108 : decode cX6_findPlacings 108 = .ok (.aload_n 0, 1) := by decide +kernel
theorem dX6_findPlacings_109 : decode cX6_findPlacings 109 = .ok (.getfield 48, 3) := by decide +kernel
theorem dX6_findPlacings_112 : decode cX6_findPlacings 112 = .ok (.iload 4, 2) := by decide +kernel
theorem dX6_findPlacings_114 : decode cX6_findPlacings 114 = .ok (.iaload, 1) := by decide +kernel
theorem dX6_findPlacings_115 : decode cX6_findPlacings 115 = .ok (.if_icmp .eq 7, 3) := by decide +kernel
theorem dX6_findPlacings_118 : decode cX6_findPlacings 118 = .ok (.iconst 1, 1) := by decide +kernel
theorem dX6_findPlacings_119 : decode cX6_findPlacings 119 = .ok (.goto 4, 3) := by decide +kernel
theorem dX6_findPlacings_122 : decode cX6_findPlacings 122 = .ok (.iconst 0, 1) := by decide +kernel
theorem dX6_findPlacings_123 : decode cX6_findPlacings 123 = .ok (.iadd, 1) := by decide +kernel
theorem dX6_findPlacings_124 : decode cX6_findPlacings 124 = .ok (.istore_n 3, 1) := by decide +kernel
theorem dX6_findPlacings_125 : decode cX6_findPlacings 125 = .ok (.iinc 4 1, 3) := by decide +kernel
theorem dX6_findPlacings_128 : decode cX6_findPlacings 128 = .ok (.goto (-44), 3) := by decide +kernel
theorem dX6_findPlacings_131 : decode cX6_findPlacings 131 = .ok (.aload_n 0, 1) := by decide +kernel
theorem dX6_findPlacings_132 : decode cX6_findPlacings 132 = .ok (.getfield 117, 3) := by decide +kernel
theorem dX6_findPlacings_135 : decode cX6_findPlacings 135 = .ok (.iconst (-1), 1) := by decide +kernel
theorem dX6_findPlacings_136 : decode cX6_findPlacings 136 = .ok (.if_icmp .eq 11, 3) := by decide +kernel
theorem dX6_findPlacings_139 : decode cX6_findPlacings 139 = .ok (.iload_n 2, 1) := by decide +kernel
theorem dX6_findPlacings_140 : decode cX6_findPlacings 140 = .ok (.aload_n 0, 1) := by decide +kernel
theorem dX6_findPlacings_141 : decode cX6_findPlacings 141 = .ok (.getfield 117, 3) := by decide +kernel
theorem dX6_findPlacings_144 : decode cX6_findPlacings 144 = .ok (.if_icmp .ge 7, 3) := by decide +kernel
theorem dX6_findPlacings_147 : decode cX6_findPlacings 147 = .ok (.iconst 1, 1) := by decide +kernel
theorem dX6_findPlacings_148 : decode cX6_findPlacings 148 = .ok (.goto 4, 3) := by decide +kernel
theorem dX6_findPlacings_151 : decode cX6_findPlacings 151 = .ok (.iconst 0, 1) := by decide +kernel
theorem dX6_findPlacings_152 : decode cX6_findPlacings 152 = .ok (.istore 4, 2) := by decide +kernel
theorem dX6_findPlacings_154 : decode cX6_findPlacings 154 = .ok (.aload_n 0, 1) := by decide +kernel
theorem dX6_findPlacings_155 : decode cX6_findPlacings 155 = .ok (.getfield 120, 3) := by decide +kernel
theorem dX6_findPlacings_158 : decode cX6_findPlacings 158 = .ok (.iconst (-1), 1) := by decide +kernel
theorem dX6_findPlacings_159 : decode cX6_findPlacings 159 = .ok (.if_icmp .eq 27, 3) := by decide +kernel
theorem dX6_findPlacings_162 : decode cX6_findPlacings 162 = .ok (.iload_n 3, 1) := by decide +kernel
theorem dX6_findPlacings_163 : decode cX6_findPlacings 163 = .ok (.aload_n 0, 1) := by decide +kernel
theorem dX6_findPlacings_164 : decode cX6_findPlacings 164 = .ok (.getfield 120, 3) := by decide +kernel
theorem dX6_findPlacings_167 : decode cX6_findPlacings 167 = .ok (.if_icmp .lt 19, 3) := by decide +kernel
theorem dX6_findPlacings_170 : decode cX6_findPlacings 170 = .ok (.iload_n 3, 1) := by decide +kernel
theorem dX6_findPlacings_171 : decode cX6_findPlacings 171 = .ok (.aload_n 0, 1) := by decide +kernel
theorem dX6_findPlacings_172 : decode cX6_findPlacings 172 = .ok (.getfield 120, 3) := by decide +kernel
theorem dX6_findPlacings_175 : decode cX6_findPlacings 175 = .ok (.if_icmp .ne 15, 3) := by decide +kernel
theorem dX6_findPlacings_178 : decode cX6_findPlacings 178 = .ok (.iload_n 2, 1) := by decide +kernel
theorem dX6_findPlacings_179 : decode cX6_findPlacings 179 = .ok (.aload_n 0, 1) := by decide +kernel
theorem dX6_findPlacings_180 : decode cX6_findPlacings 180 = .ok (.getfield 126, 3) := by decide +kernel
theorem dX6_findPlacings_183 : decode cX6_findPlacings 183 = .ok (.if_icmp .ge 7, 3) := by decide +kernel
theorem dX6_findPlacings_186 : decode cX6_findPlacings 186 = .ok (.iconst 1, 1) := by decide +kernel
theorem dX6_findPlacings_187 : decode cX6_findPlacings 187 = .ok (.goto 4, 3) := by decide +kernel
theorem dX6_findPlacings_190 : decode cX6_findPlacings 190 = .ok (.iconst 0, 1) := by decide +kernel
theorem dX6_findPlacings_191 : decode cX6_findPlacings 191 = .ok (.istore 5, 2) := by decide +kernel
theorem dX6_findPlacings_193 : decode cX6_findPlacings 193 = .ok (.iconst 0, 1) := by decide +kernel
theorem dX6_findPlacings_194 : decode cX6_findPlacings 194 = .ok (.istore 6, 2) := by decide +kernel
theorem dX6_findPlacings_196 : decode cX6_findPlacings 196 = .ok (.iload 6, 2) := by decide +kernel
theorem dX6_findPlacings_198 : decode cX6_findPlacings 198 = .ok (.aload_n 0, 1) := by decide +kernel
theorem dX6_findPlacings_199 : decode cX6_findPlacings 199 = .ok (.getfield 88, 3) := by decide +kernel
theorem dX6_findPlacings_202 : decode cX6_findPlacings 202 = .ok (.if_icmp .ge 67, 3) := by decide +kernel
theorem dX6_findPlacings_205 : decode cX6_findPlacings 205 = .ok (.aload_n 0, 1) := by decide +kernel
theorem dX6_findPlacings_206 : decode cX6_findPlacings 206 = .ok (.getfield 57, 3) := by decide +kernel
theorem dX6_findPlacings_209 : decode cX6_findPlacings 209 = .ok (.iload 6, 2) := by decide +kernel
theorem dX6_findPlacings_211 : decode cX6_findPlacings 211 = .ok (.iload 4, 2) := by decide +kernel
theorem dX6_findPlacings_213 : decode cX6_findPlacings 213 = .ok (.ifCond .eq 13, 3) := by decide +kernel
theorem dX6_findPlacings_216 : decode cX6_findPlacings 216 = .ok (.aload_n 0, 1) := by decide +kernel
theorem dX6_findPlacings_217 : decode cX6_findPlacings 217 = .ok (.getfield 51, 3) := by decide +kernel
theorem dX6_findPlacings_220 : decode cX6_findPlacings 220 = .ok (.iload 6, 2) := by decide +kernel
theorem dX6_findPlacings_222 : decode cX6_findPlacings 222 = .ok (.iaload, 1) := by decide +kernel
theorem dX6_findPlacings_223 : decode cX6_findPlacings 223 = .ok (.goto 10, 3) := by decide +kernel
theorem dX6_findPlacings_226 : decode cX6_findPlacings 226 = .ok (.aload_n 0, 1) := by decide +kernel
theorem dX6_findPlacings_227 : decode cX6_findPlacings 227 = .ok (.getfield 57, 3) := by decide +kernel
theorem dX6_findPlacings_230 : decode cX6_findPlacings 230 = .ok (.iload 6, 2) := by decide +kernel
theorem dX6_findPlacings_232 : decode cX6_findPlacings 232 = .ok (.iaload, 1) := by decide +kernel
theorem dX6_findPlacings_233 : decode cX6_findPlacings 233 = .ok (.iastore, 1) := by decide +kernel
theorem dX6_findPlacings_234 : decode cX6_findPlacings 234 = .ok (.aload_n 0, 1) := by decide +kernel
theorem dX6_findPlacings_235 : decode cX6_findPlacings 235 = .ok (.getfield 60, 3) := by decide +kernel
theorem dX6_findPlacings_238 : decode cX6_findPlacings 238 = .ok (.iload 6, 2) := by decide +kernel
theorem dX6_findPlacings_240 : decode cX6_findPlacings 240 = .ok (.iload 5, 2) := by decide +kernel
theorem dX6_findPlacings_242 : decode cX6_findPlacings 242 = .ok (.ifCond .eq 13, 3) := by decide +kernel
theorem dX6_findPlacings_245 : decode cX6_findPlacings 245 = .ok (.aload_n 0, 1) := by decide +kernel
theorem dX6_findPlacings_246 : decode cX6_findPlacings 246 = .ok (.getfield 51, 3) := by decide +kernel
theorem dX6_findPlacings_249 : decode cX6_findPlacings 249 = .ok (.iload 6, 2) := by decide +kernel
theorem dX6_findPlacings_251 : decode cX6_findPlacings 251 = .ok (.iaload, 1) := by decide +kernel
theorem dX6_findPlacings_252 : decode cX6_findPlacings 252 = .ok (.goto 10, 3) := by decide +kernel
theorem dX6_findPlacings_255 : decode cX6_findPlacings 255 = .ok (.aload_n 0, 1) := by decide +kernel
theorem dX6_findPlacings_256 : decode cX6_findPlacings 256 = .ok (.getfield 60, 3) := by decide +kernel
theorem dX6_findPlacings_259 : decode cX6_findPlacings 259 = .ok (.iload 6, 2) := by decide +kernel
theorem dX6_findPlacings_261 : decode cX6_findPlacings 261 = .ok (.iaload, 1) := by decide +kernel
theorem dX6_findPlacings_262 : decode cX6_findPlacings 262 = .ok (.iastore, 1) := by decide +kernel
theorem dX6_findPlacings_263 : decode cX6_findPlacings 263 = .ok (.iinc 6 1, 3) := by decide +kernel
theorem dX6_findPlacings_266 : decode cX6_findPlacings 266 = .ok (.goto (-70), 3) := by decide +kernel
theorem dX6_findPlacings_269 : decode cX6_findPlacings 269 = .ok (.aload_n 0, 1) := by decide +kernel
theorem dX6_findPlacings_270 : decode cX6_findPlacings 270 = .ok (.iload 4, 2) := by decide +kernel
theorem dX6_findPlacings_272 : decode cX6_findPlacings 272 = .ok (.ifCond .eq 7, 3) := by decide +kernel
theorem dX6_findPlacings_275 : decode cX6_findPlacings 275 = .ok (.iload_n 2, 1) := by decide +kernel
theorem dX6_findPlacings_276 : decode cX6_findPlacings 276 = .ok (.goto 7, 3) := by decide +kernel
theorem dX6_findPlacings_279 : decode cX6_findPlacings 279 = .ok (.aload_n 0, 1) := by decide +kernel
theorem dX6_findPlacings_280 : decode cX6_findPlacings 280 = .ok (.getfield 117, 3) := by decide +kernel
theorem dX6_findPlacings_283 : decode cX6_findPlacings 283 = .ok (.putfield 117, 3) := by decide +kernel
theorem dX6_findPlacings_286 : decode cX6_findPlacings 286 = .ok (.aload_n 0, 1) := by decide +kernel
theorem dX6_findPlacings_287 : decode cX6_findPlacings 287 = .ok (.iload 5, 2) := by decide +kernel
theorem dX6_findPlacings_289 : decode cX6_findPlacings 289 = .ok (.ifCond .eq 7, 3) := by decide +kernel
theorem dX6_findPlacings_292 : decode cX6_findPlacings 292 = .ok (.iload_n 3, 1) := by decide +kernel
theorem dX6_findPlacings_293 : decode cX6_findPlacings 293 = .ok (.goto 7, 3) := by decide +kernel
theorem dX6_findPlacings_296 : decode cX6_findPlacings 296 = .ok (.aload_n 0, 1) := by decide +kernel
theorem dX6_findPlacings_297 : decode cX6_findPlacings 297 = .ok (.getfield 120, 3) := by decide +kernel
theorem dX6_findPlacings_300 : decode cX6_findPlacings 300 = .ok (.putfield 120, 3) := by decide +kernel
theorem dX6_findPlacings_303 : decode cX6_findPlacings 303 = .ok (.aload_n 0, 1) := by decide +kernel
theorem dX6_findPlacings_304 : decode cX6_findPlacings 304 = .ok (.iload 5, 2) := by decide +kernel
theorem dX6_findPlacings_306 : decode cX6_findPlacings 306 = .ok (.ifCond .eq 7, 3) := by decide +kernel
theorem dX6_findPlacings_309 : decode cX6_findPlacings 309 = .ok (.iload_n 2, 1) := by decide +kernel
theorem dX6_findPlacings_310 : decode cX6_findPlacings 310 = .ok (.goto 7, 3) := by decide +kernel
theorem dX6_findPlacings_313 : decode cX6_findPlacings 313 = .ok (.aload_n 0, 1) := by decide +kernel
theorem dX6_findPlacings_314 : decode cX6_findPlacings 314 = .ok (.getfield 126, 3) := by decide +kernel
theorem dX6_findPlacings_317 : decode cX6_findPlacings 317 = .ok (.putfield 126, 3) := by decide +kernel
theorem dX6_findPlacings_320 : decode cX6_findPlacings 320 = .ok (.aload_n 0, 1) := by decide +kernel
theorem dX6_findPlacings_321 : decode cX6_findPlacings 321 = .ok (.invokevirtual 129, 3) := by decide +kernel
theorem dX6_findPlacings_324 : decode cX6_findPlacings 324 = .ok (.istore_n 1, 1) := by decide +kernel
theorem dX6_findPlacings_325 : decode cX6_findPlacings 325 = .ok (.goto (-270), 3) := by decide +kernel
theorem dX6_findPlacings_328 : decode cX6_findPlacings 328 = .ok (.return_, 1) := by decide +kernel
theorem dX6_fits_0 : decode cX6_fits 0 = .ok (.aload_n 0, 1) := by decide +kernel
theorem dX6_fits_1 : decode cX6_fits 1 = .ok (.invokevirtual 133, 3) := by decide +kernel
theorem dX6_fits_4 : decode cX6_fits 4 = .ok (.aload_n 0, 1) := by decide +kernel
theorem dX6_fits_5 : decode cX6_fits 5 = .ok (.getfield 114, 3) := by decide +kernel
theorem dX6_fits_8 : decode cX6_fits 8 = .ok (.ireturn, 1) := by decide +kernel
theorem dX6_level_0 : decode cX6_level 0 = .ok (.aload_n 0, 1) := by decide +kernel
theorem dX6_level_1 : decode cX6_level 1 = .ok (.invokevirtual 133, 3) := by decide +kernel
theorem dX6_level_4 : decode cX6_level 4 = .ok (.aload_n 0, 1) := by decide +kernel
theorem dX6_level_5 : decode cX6_level 5 = .ok (.getfield 117, 3) := by decide +kernel
theorem dX6_level_8 : decode cX6_level 8 = .ok (.ireturn, 1) := by decide +kernel
theorem dX6_close_0 : decode cX6_close 0 = .ok (.aload_n 0, 1) := by decide +kernel
theorem dX6_close_1 : decode cX6_close 1 = .ok (.invokevirtual 133, 3) := by decide +kernel
theorem dX6_close_4 : decode cX6_close 4 = .ok (.aload_n 0, 1) := by decide +kernel
theorem dX6_close_5 : decode cX6_close 5 = .ok (.getfield 120, 3) := by decide +kernel
theorem dX6_close_8 : decode cX6_close 8 = .ok (.ireturn, 1) := by decide +kernel
theorem dX6_take_0 : decode cX6_take 0 = .ok (.iload_n 1, 1) := by decide +kernel
theorem dX6_take_1 : decode cX6_take 1 = .ok (.iconst 0, 1) := by decide +kernel
theorem dX6_take_2 : decode cX6_take 2 = .ok (.iconst 1, 1) := by decide +kernel
theorem dX6_take_3 : decode cX6_take 3 = .ok (.invokestatic 84, 3) := by decide +kernel
theorem dX6_take_6 : decode cX6_take 6 = .ok (.ifCond .ne 6, 3) := by decide +kernel
theorem dX6_take_9 : decode cX6_take 9 = .ok (.bipush (-3), 2) := by decide +kernel
theorem dX6_take_11 : decode cX6_take 11 = .ok (.ireturn, 1) := by decide +kernel
theorem dX6_take_12 : decode cX6_take 12 = .ok (.aload_n 0, 1) := by decide +kernel
theorem dX6_take_13 : decode cX6_take 13 = .ok (.invokevirtual 133, 3) := by decide +kernel
theorem dX6_take_16 : decode cX6_take 16 = .ok (.aload_n 0, 1) := by decide +kernel
theorem dX6_take_17 : decode cX6_take 17 = .ok (.getfield 114, 3) := by decide +kernel
theorem dX6_take_20 : decode cX6_take 20 = .ok (.ifCond .ne 6, 3) := by decide +kernel
theorem dX6_take_23 : decode cX6_take 23 = .ok (.bipush (-4), 2) := by decide +kernel
theorem dX6_take_25 : decode cX6_take 25 = .ok (.ireturn, 1) := by decide +kernel
theorem dX6_take_26 : decode cX6_take 26 = .ok (.iconst 0, 1) := by decide +kernel
theorem dX6_take_27 : decode cX6_take 27 = .ok (.istore_n 2, 1) := by decide +kernel
theorem dX6_take_28 : decode cX6_take 28 = .ok (.iload_n 2, 1) := by decide +kernel
theorem dX6_take_29 : decode cX6_take 29 = .ok (.aload_n 0, 1) := by decide +kernel
theorem dX6_take_30 : decode cX6_take 30 = .ok (.getfield 88, 3) := by decide +kernel
theorem dX6_take_33 : decode cX6_take 33 = .ok (.if_icmp .ge 34, 3) := by decide +kernel
theorem dX6_take_36 : decode cX6_take 36 = .ok (.aload_n 0, 1) := by decide +kernel
theorem dX6_take_37 : decode cX6_take 37 = .ok (.getfield 48, 3) := by decide +kernel
theorem dX6_take_40 : decode cX6_take 40 = .ok (.iload_n 2, 1) := by decide +kernel
theorem dX6_take_41 : decode cX6_take 41 = .ok (.iload_n 1, 1) := by decide +kernel
theorem dX6_take_42 : decode cX6_take 42 = .ok (.ifCond .ne 12, 3) := by decide +kernel
theorem dX6_take_45 : decode cX6_take 45 = .ok (.aload_n 0, 1) := by decide +kernel
theorem dX6_take_46 : decode cX6_take 46 = .ok (.getfield 57, 3) := by decide +kernel
theorem dX6_take_49 : decode cX6_take 49 = .ok (.iload_n 2, 1) := by decide +kernel
theorem dX6_take_50 : decode cX6_take 50 = .ok (.iaload, 1) := by decide +kernel
theorem dX6_take_51 : decode cX6_take 51 = .ok (.goto 9, 3) := by decide +kernel
theorem dX6_take_54 : decode cX6_take 54 = .ok (.aload_n 0, 1) := by decide +kernel
theorem dX6_take_55 : decode cX6_take 55 = .ok (.getfield 60, 3) := by decide +kernel
theorem dX6_take_58 : decode cX6_take 58 = .ok (.iload_n 2, 1) := by decide +kernel
theorem dX6_take_59 : decode cX6_take 59 = .ok (.iaload, 1) := by decide +kernel
theorem dX6_take_60 : decode cX6_take 60 = .ok (.iastore, 1) := by decide +kernel
theorem dX6_take_61 : decode cX6_take 61 = .ok (.iinc 2 1, 3) := by decide +kernel
theorem dX6_take_64 : decode cX6_take 64 = .ok (.goto (-36), 3) := by decide +kernel
theorem dX6_take_67 : decode cX6_take 67 = .ok (.aload_n 0, 1) := by decide +kernel
theorem dX6_take_68 : decode cX6_take 68 = .ok (.iconst 1, 1) := by decide +kernel
theorem dX6_take_69 : decode cX6_take 69 = .ok (.putfield 95, 3) := by decide +kernel
theorem dX6_take_72 : decode cX6_take 72 = .ok (.iload_n 1, 1) := by decide +kernel
theorem dX6_take_73 : decode cX6_take 73 = .ok (.ifCond .ne 10, 3) := by decide +kernel
theorem dX6_take_76 : decode cX6_take 76 = .ok (.aload_n 0, 1) := by decide +kernel
theorem dX6_take_77 : decode cX6_take 77 = .ok (.getfield 117, 3) := by decide +kernel
theorem dX6_take_80 : decode cX6_take 80 = .ok (.goto 7, 3) := by decide +kernel
theorem dX6_take_83 : decode cX6_take 83 = .ok (.aload_n 0, 1) := by decide +kernel
theorem dX6_take_84 : decode cX6_take 84 = .ok (.getfield 126, 3) := by decide +kernel
theorem dX6_take_87 : decode cX6_take 87 = .ok (.ireturn, 1) := by decide +kernel
theorem dX6_at_0 : decode cX6_at 0 = .ok (.aload_n 0, 1) := by decide +kernel
theorem dX6_at_1 : decode cX6_at 1 = .ok (.iload_n 1, 1) := by decide +kernel
theorem dX6_at_2 : decode cX6_at 2 = .ok (.invokevirtual 136, 3) := by decide +kernel
theorem dX6_at_5 : decode cX6_at 5 = .ok (.ifCond .ne 6, 3) := by decide +kernel
theorem dX6_at_8 : decode cX6_at 8 = .ok (.bipush (-2), 2) := by decide +kernel
theorem dX6_at_10 : decode cX6_at 10 = .ok (.ireturn, 1) := by decide +kernel
theorem dX6_at_11 : decode cX6_at 11 = .ok (.aload_n 0, 1) := by decide +kernel
theorem dX6_at_12 : decode cX6_at 12 = .ok (.getfield 95, 3) := by decide +kernel
theorem dX6_at_15 : decode cX6_at 15 = .ok (.ifCond .eq 12, 3) := by decide +kernel
theorem dX6_at_18 : decode cX6_at 18 = .ok (.aload_n 0, 1) := by decide +kernel
theorem dX6_at_19 : decode cX6_at 19 = .ok (.getfield 48, 3) := by decide +kernel
theorem dX6_at_22 : decode cX6_at 22 = .ok (.iload_n 1, 1) := by decide +kernel
theorem dX6_at_23 : decode cX6_at 23 = .ok (.iaload, 1) := by decide +kernel
theorem dX6_at_24 : decode cX6_at 24 = .ok (.goto 5, 3) := by decide +kernel
theorem dX6_at_27 : decode cX6_at 27 = .ok (.bipush (-4), 2) := by decide +kernel
theorem dX6_at_29 : decode cX6_at 29 = .ok (.ireturn, 1) := by decide +kernel
theorem dX6_useHand_0 : decode cX6_useHand 0 = .ok (.iconst 0, 1) := by decide +kernel
theorem dX6_useHand_1 : decode cX6_useHand 1 = .ok (.istore_n 1, 1) := by decide +kernel
theorem dX6_useHand_2 : decode cX6_useHand 2 = .ok (.iload_n 1, 1) := by decide +kernel
theorem dX6_useHand_3 : decode cX6_useHand 3 = .ok (.aload_n 0, 1) := by decide +kernel
theorem dX6_useHand_4 : decode cX6_useHand 4 = .ok (.getfield 88, 3) := by decide +kernel
theorem dX6_useHand_7 : decode cX6_useHand 7 = .ok (.if_icmp .ge 21, 3) := by decide +kernel
theorem dX6_useHand_10 : decode cX6_useHand 10 = .ok (.aload_n 0, 1) := by decide +kernel
theorem dX6_useHand_11 : decode cX6_useHand 11 = .ok (.getfield 51, 3) := by decide +kernel
theorem dX6_useHand_14 : decode cX6_useHand 14 = .ok (.iload_n 1, 1) := by decide +kernel
theorem dX6_useHand_15 : decode cX6_useHand 15 = .ok (.aload_n 0, 1) := by decide +kernel
theorem dX6_useHand_16 : decode cX6_useHand 16 = .ok (.getfield 48, 3) := by decide +kernel
theorem dX6_useHand_19 : decode cX6_useHand 19 = .ok (.iload_n 1, 1) := by decide +kernel
theorem dX6_useHand_20 : decode cX6_useHand 20 = .ok (.iaload, 1) := by decide +kernel
theorem dX6_useHand_21 : decode cX6_useHand 21 = .ok (.iastore, 1) := by decide +kernel
theorem dX6_useHand_22 : decode cX6_useHand 22 = .ok (.iinc 1 1, 3) := by decide +kernel
theorem dX6_useHand_25 : decode cX6_useHand 25 = .ok (.goto (-23), 3) := by decide +kernel
theorem dX6_useHand_28 : decode cX6_useHand 28 = .ok (.return_, 1) := by decide +kernel
theorem dX6_load_0 : decode cX6_load 0 = .ok (.aload_n 0, 1) := by decide +kernel
theorem dX6_load_1 : decode cX6_load 1 = .ok (.iload_n 1, 1) := by decide +kernel
theorem dX6_load_2 : decode cX6_load 2 = .ok (.invokevirtual 136, 3) := by decide +kernel
theorem dX6_load_5 : decode cX6_load 5 = .ok (.ifCond .ne 6, 3) := by decide +kernel
theorem dX6_load_8 : decode cX6_load 8 = .ok (.bipush (-2), 2) := by decide +kernel
theorem dX6_load_10 : decode cX6_load 10 = .ok (.ireturn, 1) := by decide +kernel
theorem dX6_load_11 : decode cX6_load 11 = .ok (.aload_n 0, 1) := by decide +kernel
theorem dX6_load_12 : decode cX6_load 12 = .ok (.getfield 95, 3) := by decide +kernel
theorem dX6_load_15 : decode cX6_load 15 = .ok (.ifCond .ne 6, 3) := by decide +kernel
theorem dX6_load_18 : decode cX6_load 18 = .ok (.bipush (-4), 2) := by decide +kernel
theorem dX6_load_20 : decode cX6_load 20 = .ok (.ireturn, 1) := by decide +kernel
theorem dX6_load_21 : decode cX6_load 21 = .ok (.aload_n 0, 1) := by decide +kernel
theorem dX6_load_22 : decode cX6_load 22 = .ok (.invokevirtual 139, 3) := by decide +kernel
theorem dX6_load_25 : decode cX6_load 25 = .ok (.aload_n 0, 1) := by decide +kernel
theorem dX6_load_26 : decode cX6_load 26 = .ok (.aload_n 0, 1) := by decide +kernel
theorem dX6_load_27 : decode cX6_load 27 = .ok (.getfield 88, 3) := by decide +kernel
theorem dX6_load_30 : decode cX6_load 30 = .ok (.iconst 1, 1) := by decide +kernel
theorem dX6_load_31 : decode cX6_load 31 = .ok (.isub, 1) := by decide +kernel
theorem dX6_load_32 : decode cX6_load 32 = .ok (.invokevirtual 103, 3) := by decide +kernel
theorem dX6_load_35 : decode cX6_load 35 = .ok (.aload_n 0, 1) := by decide +kernel
theorem dX6_load_36 : decode cX6_load 36 = .ok (.getfield 54, 3) := by decide +kernel
theorem dX6_load_39 : decode cX6_load 39 = .ok (.iload_n 1, 1) := by decide +kernel
theorem dX6_load_40 : decode cX6_load 40 = .ok (.iaload, 1) := by decide +kernel
theorem dX6_load_41 : decode cX6_load 41 = .ok (.ireturn, 1) := by decide +kernel
theorem dX6_swap_0 : decode cX6_swap 0 = .ok (.aload_n 0, 1) := by decide +kernel
theorem dX6_swap_1 : decode cX6_swap 1 = .ok (.iload_n 1, 1) := by decide +kernel
theorem dX6_swap_2 : decode cX6_swap 2 = .ok (.invokevirtual 136, 3) := by decide +kernel
theorem dX6_swap_5 : decode cX6_swap 5 = .ok (.ifCond .eq 11, 3) := by decide +kernel
theorem dX6_swap_8 : decode cX6_swap 8 = .ok (.aload_n 0, 1) := by decide +kernel
theorem dX6_swap_9 : decode cX6_swap 9 = .ok (.iload_n 2, 1) := by decide +kernel
theorem dX6_swap_10 : decode cX6_swap 10 = .ok (.invokevirtual 136, 3) := by decide +kernel
theorem dX6_swap_13 : decode cX6_swap 13 = .ok (.ifCond .ne 6, 3) := by decide +kernel
theorem dX6_swap_16 : decode cX6_swap 16 = .ok (.bipush (-2), 2) := by decide +kernel
theorem dX6_swap_18 : decode cX6_swap 18 = .ok (.ireturn, 1) := by decide +kernel
theorem dX6_swap_19 : decode cX6_swap 19 = .ok (.aload_n 0, 1) := by decide +kernel
theorem dX6_swap_20 : decode cX6_swap 20 = .ok (.getfield 95, 3) := by decide +kernel
theorem dX6_swap_23 : decode cX6_swap 23 = .ok (.ifCond .ne 6, 3) := by decide +kernel
theorem dX6_swap_26 : decode cX6_swap 26 = .ok (.bipush (-4), 2) := by decide +kernel
theorem dX6_swap_28 : decode cX6_swap 28 = .ok (.ireturn, 1) := by decide +kernel
theorem dX6_swap_29 : decode cX6_swap 29 = .ok (.aload_n 0, 1) := by decide +kernel
theorem dX6_swap_30 : decode cX6_swap 30 = .ok (.invokevirtual 139, 3) := by decide +kernel
theorem dX6_swap_33 : decode cX6_swap 33 = .ok (.aload_n 0, 1) := by decide +kernel
theorem dX6_swap_34 : decode cX6_swap 34 = .ok (.getfield 51, 3) := by decide +kernel
theorem dX6_swap_37 : decode cX6_swap 37 = .ok (.iload_n 1, 1) := by decide +kernel
theorem dX6_swap_38 : decode cX6_swap 38 = .ok (.iaload, 1) := by decide +kernel
theorem dX6_swap_39 : decode cX6_swap 39 = .ok (.istore_n 3, 1) := by decide +kernel
theorem dX6_swap_40 : decode cX6_swap 40 = .ok (.aload_n 0, 1) := by decide +kernel
theorem dX6_swap_41 : decode cX6_swap 41 = .ok (.getfield 51, 3) := by decide +kernel
theorem dX6_swap_44 : decode cX6_swap 44 = .ok (.iload_n 1, 1) := by decide +kernel
theorem dX6_swap_45 : decode cX6_swap 45 = .ok (.aload_n 0, 1) := by decide +kernel
theorem dX6_swap_46 : decode cX6_swap 46 = .ok (.getfield 51, 3) := by decide +kernel
theorem dX6_swap_49 : decode cX6_swap 49 = .ok (.iload_n 2, 1) := by decide +kernel
theorem dX6_swap_50 : decode cX6_swap 50 = .ok (.iaload, 1) := by decide +kernel
theorem dX6_swap_51 : decode cX6_swap 51 = .ok (.iastore, 1) := by decide +kernel
theorem dX6_swap_52 : decode cX6_swap 52 = .ok (.aload_n 0, 1) := by decide +kernel
theorem dX6_swap_53 : decode cX6_swap 53 = .ok (.getfield 51, 3) := by decide +kernel
theorem dX6_swap_56 : decode cX6_swap 56 = .ok (.iload_n 2, 1) := by decide +kernel
theorem dX6_swap_57 : decode cX6_swap 57 = .ok (.iload_n 3, 1) := by decide +kernel
theorem dX6_swap_58 : decode cX6_swap 58 = .ok (.iastore, 1) := by decide +kernel
theorem dX6_swap_59 : decode cX6_swap 59 = .ok (.aload_n 0, 1) := by decide +kernel
theorem dX6_swap_60 : decode cX6_swap 60 = .ok (.invokevirtual 123, 3) := by decide +kernel
theorem dX6_swap_63 : decode cX6_swap 63 = .ok (.iconst (-1), 1) := by decide +kernel
theorem dX6_swap_64 : decode cX6_swap 64 = .ok (.if_icmp .ne 6, 3) := by decide +kernel
theorem dX6_swap_67 : decode cX6_swap 67 = .ok (.bipush (-4), 2) := by decide +kernel
theorem dX6_swap_69 : decode cX6_swap 69 = .ok (.ireturn, 1) := by decide +kernel
theorem dX6_swap_70 : decode cX6_swap 70 = .ok (.iconst 0, 1) := by decide +kernel
theorem dX6_swap_71 : decode cX6_swap 71 = .ok (.istore 4, 2) := by decide +kernel
theorem dX6_swap_73 : decode cX6_swap 73 = .ok (.iload 4, 2) := by decide +kernel
theorem dX6_swap_75 : decode cX6_swap 75 = .ok (.aload_n 0, 1) := by decide +kernel
theorem dX6_swap_76 : decode cX6_swap 76 = .ok (.getfield 88, 3) := by decide +kernel
theorem dX6_swap_79 : decode cX6_swap 79 = .ok (.if_icmp .ge 23, 3) := by decide +kernel
theorem dX6_swap_82 : decode cX6_swap 82 = .ok (.aload_n 0, 1) := by decide +kernel
theorem dX6_swap_83 : decode cX6_swap 83 = .ok (.getfield 48, 3) := by decide +kernel
theorem dX6_swap_86 : decode cX6_swap 86 = .ok (.iload 4, 2) := by decide +kernel
theorem dX6_swap_88 : decode cX6_swap 88 = .ok (.aload_n 0, 1) := by decide +kernel
theorem dX6_swap_89 : decode cX6_swap 89 = .ok (.getfield 51, 3) := by decide +kernel
theorem dX6_swap_92 : decode cX6_swap 92 = .ok (.iload 4, 2) := by decide +kernel
theorem dX6_swap_94 : decode cX6_swap 94 = .ok (.iaload, 1) := by decide +kernel
theorem dX6_swap_95 : decode cX6_swap 95 = .ok (.iastore, 1) := by decide +kernel
theorem dX6_swap_96 : decode cX6_swap 96 = .ok (.iinc 4 1, 3) := by decide +kernel
theorem dX6_swap_99 : decode cX6_swap 99 = .ok (.goto (-26), 3) := by decide +kernel
theorem dX6_swap_102 : decode cX6_swap 102 = .ok (.iconst 1, 1) := by decide +kernel
theorem dX6_swap_103 : decode cX6_swap 103 = .ok (.ireturn, 1) := by decide +kernel
theorem dX6_findTimes_0 : decode cX6_findTimes 0 = .ok (.iconst 0, 1) := by decide +kernel
theorem dX6_findTimes_1 : decode cX6_findTimes 1 = .ok (.istore_n 1, 1) := by decide +kernel
theorem dX6_findTimes_2 : decode cX6_findTimes 2 = .ok (.iconst 0, 1) := by decide +kernel
theorem dX6_findTimes_3 : decode cX6_findTimes 3 = .ok (.istore_n 2, 1) := by decide +kernel
theorem dX6_findTimes_4 : decode cX6_findTimes 4 = .ok (.iload_n 2, 1) := by decide +kernel
theorem dX6_findTimes_5 : decode cX6_findTimes 5 = .ok (.aload_n 0, 1) := by decide +kernel
theorem dX6_findTimes_6 : decode cX6_findTimes 6 = .ok (.getfield 88, 3) := by decide +kernel
theorem dX6_findTimes_9 : decode cX6_findTimes 9 = .ok (.if_icmp .ge 27, 3) := by decide +kernel
theorem dX6_findTimes_12 : decode cX6_findTimes 12 = .ok (.iload_n 1, 1) := by decide +kernel
theorem dX6_findTimes_13 : decode cX6_findTimes 13 = .ok (.iconst 2, 1) := by decide +kernel
theorem dX6_findTimes_14 : decode cX6_findTimes 14 = .ok (.aload_n 0, 1) := by decide +kernel
theorem dX6_findTimes_15 : decode cX6_findTimes 15 = .ok (.getfield 39, 3) := by decide +kernel
theorem dX6_findTimes_18 : decode cX6_findTimes 18 = .ok (.iload_n 2, 1) := by decide +kernel
theorem dX6_findTimes_19 : decode cX6_findTimes 19 = .ok (.iaload, 1) := by decide +kernel
theorem dX6_findTimes_20 : decode cX6_findTimes 20 = .ok (.iadd, 1) := by decide +kernel
theorem dX6_findTimes_21 : decode cX6_findTimes 21 = .ok (.iadd, 1) := by decide +kernel
theorem dX6_findTimes_22 : decode cX6_findTimes 22 = .ok (.istore_n 1, 1) := by decide +kernel
theorem dX6_findTimes_23 : decode cX6_findTimes 23 = .ok (.aload_n 0, 1) := by decide +kernel
theorem dX6_findTimes_24 : decode cX6_findTimes 24 = .ok (.getfield 63, 3) := by decide +kernel
theorem dX6_findTimes_27 : decode cX6_findTimes 27 = .ok (.iload_n 2, 1) := by decide +kernel
theorem dX6_findTimes_28 : decode cX6_findTimes 28 = .ok (.iload_n 1, 1) := by decide +kernel
theorem dX6_findTimes_29 : decode cX6_findTimes 29 = .ok (.iastore, 1) := by decide +kernel
theorem dX6_findTimes_30 : decode cX6_findTimes 30 = .ok (.iinc 2 1, 3) := by decide +kernel
theorem dX6_findTimes_33 : decode cX6_findTimes 33 = .ok (.goto (-29), 3) := by decide +kernel
theorem dX6_findTimes_36 : decode cX6_findTimes 36 = .ok (.iload_n 1, 1) := by decide +kernel
theorem dX6_findTimes_37 : decode cX6_findTimes 37 = .ok (.istore_n 2, 1) := by decide +kernel
theorem dX6_findTimes_38 : decode cX6_findTimes 38 = .ok (.aload_n 0, 1) := by decide +kernel
theorem dX6_findTimes_39 : decode cX6_findTimes 39 = .ok (.getfield 88, 3) := by decide +kernel
theorem dX6_findTimes_42 : decode cX6_findTimes 42 = .ok (.iconst 1, 1) := by decide +kernel
theorem dX6_findTimes_43 : decode cX6_findTimes 43 = .ok (.isub, 1) := by decide +kernel
theorem dX6_findTimes_44 : decode cX6_findTimes 44 = .ok (.istore_n 3, 1) := by decide +kernel
theorem dX6_findTimes_45 : decode cX6_findTimes 45 = .ok (.iload_n 3, 1) := by decide +kernel
theorem dX6_findTimes_46 : decode cX6_findTimes 46 = .ok (.ifCond .lt 27, 3) := by decide +kernel
theorem dX6_findTimes_49 : decode cX6_findTimes 49 = .ok (.iload_n 1, 1) := by decide +kernel
theorem dX6_findTimes_50 : decode cX6_findTimes 50 = .ok (.iconst 2, 1) := by decide +kernel
theorem dX6_findTimes_51 : decode cX6_findTimes 51 = .ok (.aload_n 0, 1) := by decide +kernel
theorem dX6_findTimes_52 : decode cX6_findTimes 52 = .ok (.getfield 39, 3) := by decide +kernel
theorem dX6_findTimes_55 : decode cX6_findTimes 55 = .ok (.iload_n 3, 1) := by decide +kernel
theorem dX6_findTimes_56 : decode cX6_findTimes 56 = .ok (.iaload, 1) := by decide +kernel
theorem dX6_findTimes_57 : decode cX6_findTimes 57 = .ok (.iadd, 1) := by decide +kernel
theorem dX6_findTimes_58 : decode cX6_findTimes 58 = .ok (.iadd, 1) := by decide +kernel
theorem dX6_findTimes_59 : decode cX6_findTimes 59 = .ok (.istore_n 1, 1) := by decide +kernel
theorem dX6_findTimes_60 : decode cX6_findTimes 60 = .ok (.aload_n 0, 1) := by decide +kernel
theorem dX6_findTimes_61 : decode cX6_findTimes 61 = .ok (.getfield 66, 3) := by decide +kernel
theorem dX6_findTimes_64 : decode cX6_findTimes 64 = .ok (.iload_n 3, 1) := by decide +kernel
theorem dX6_findTimes_65 : decode cX6_findTimes 65 = .ok (.iload_n 1, 1) := by decide +kernel
theorem dX6_findTimes_66 : decode cX6_findTimes 66 = .ok (.iastore, 1) := by decide +kernel
theorem dX6_findTimes_67 : decode cX6_findTimes 67 = .ok (.iinc 3 (-1), 3) := by decide +kernel
theorem dX6_findTimes_70 : decode cX6_findTimes 70 = .ok (.goto (-25), 3) := by decide +kernel
theorem dX6_findTimes_73 : decode cX6_findTimes 73 = .ok (.iload_n 2, 1) := by decide +kernel
theorem dX6_findTimes_74 : decode cX6_findTimes 74 = .ok (.ireturn, 1) := by decide +kernel
theorem dX6_climb_0 : decode cX6_climb 0 = .ok (.aload_n 0, 1) := by decide +kernel
theorem dX6_climb_1 : decode cX6_climb 1 = .ok (.invokevirtual 142, 3) := by decide +kernel
theorem dX6_climb_4 : decode cX6_climb 4 = .ok (.istore_n 2, 1) := by decide +kernel
theorem dX6_climb_5 : decode cX6_climb 5 = .ok (.aload_n 0, 1) := by decide +kernel
theorem dX6_climb_6 : decode cX6_climb 6 = .ok (.invokevirtual 139, 3) := by decide +kernel
theorem dX6_climb_9 : decode cX6_climb 9 = .ok (.aload_n 0, 1) := by decide +kernel
theorem dX6_climb_10 : decode cX6_climb 10 = .ok (.iconst (-1), 1) := by decide +kernel
theorem dX6_climb_11 : decode cX6_climb 11 = .ok (.putfield 145, 3) := by decide +kernel
theorem dX6_climb_14 : decode cX6_climb 14 = .ok (.aload_n 0, 1) := by decide +kernel
theorem dX6_climb_15 : decode cX6_climb 15 = .ok (.iconst (-1), 1) := by decide +kernel
theorem dX6_climb_16 : decode cX6_climb 16 = .ok (.putfield 148, 3) := by decide +kernel
theorem dX6_climb_19 : decode cX6_climb 19 = .ok (.iconst 0, 1) := by decide +kernel
theorem dX6_climb_20 : decode cX6_climb 20 = .ok (.istore_n 3, 1) := by decide +kernel
theorem dX6_climb_21 : decode cX6_climb 21 = .ok (.iload_n 3, 1) := by decide +kernel
theorem dX6_climb_22 : decode cX6_climb 22 = .ok (.aload_n 0, 1) := by decide +kernel
theorem dX6_climb_23 : decode cX6_climb 23 = .ok (.getfield 88, 3) := by decide +kernel
theorem dX6_climb_26 : decode cX6_climb 26 = .ok (.if_icmp .ge 16, 3) := by decide +kernel
theorem dX6_climb_29 : decode cX6_climb 29 = .ok (.aload_n 0, 1) := by decide +kernel
theorem dX6_climb_30 : decode cX6_climb 30 = .ok (.getfield 69, 3) := by decide +kernel
theorem dX6_climb_33 : decode cX6_climb 33 = .ok (.iload_n 3, 1) := by decide +kernel
theorem dX6_climb_34 : decode cX6_climb 34 = .ok (.iconst 0, 1) := by decide +kernel
theorem dX6_climb_35 : decode cX6_climb 35 = .ok (.iastore, 1) := by decide +kernel
theorem dX6_climb_36 : decode cX6_climb 36 = .ok (.iinc 3 1, 3) := by decide +kernel
theorem dX6_climb_39 : decode cX6_climb 39 = .ok (.goto (-18), 3) := by decide +kernel
theorem dX6_climb_42 : decode cX6_climb 42 = .ok (.iconst 1, 1) := by decide +kernel
theorem dX6_climb_43 : decode cX6_climb 43 = .ok (.istore_n 3, 1) := by decide +kernel
theorem dX6_climb_44 : decode cX6_climb 44 = .ok (.iload_n 3, 1) := by decide +kernel
theorem dX6_climb_45 : decode cX6_climb 45 = .ok (.iload_n 1, 1) := by decide +kernel
theorem dX6_climb_46 : decode cX6_climb 46 = .ok (.if_icmp .gt 165, 3) := by decide +kernel
theorem dX6_climb_49 : decode cX6_climb 49 = .ok (.iconst 0, 1) := by decide +kernel
theorem dX6_climb_50 : decode cX6_climb 50 = .ok (.istore 4, 2) := by decide +kernel
theorem dX6_climb_52 : decode cX6_climb 52 = .ok (.iconst 0, 1) := by decide +kernel
theorem dX6_climb_53 : decode cX6_climb 53 = .ok (.istore 5, 2) := by decide +kernel
theorem dX6_climb_55 : decode cX6_climb 55 = .ok (.iload 5, 2) := by decide +kernel
theorem dX6_climb_57 : decode cX6_climb 57 = .ok (.aload_n 0, 1) := by decide +kernel
theorem dX6_climb_58 : decode cX6_climb 58 = .ok (.getfield 88, 3) := by decide +kernel
theorem dX6_climb_61 : decode cX6_climb 61 = .ok (.if_icmp .ge 41, 3) := by decide +kernel
theorem dX6_climb_64 : decode cX6_climb 64 = .ok (.iload 4, 2) := by decide +kernel
theorem dX6_climb_66 : decode cX6_climb 66 = .ok (.aload_n 0, 1) := by decide +kernel
theorem dX6_climb_67 : decode cX6_climb 67 = .ok (.getfield 63, 3) := by decide +kernel
theorem dX6_climb_70 : decode cX6_climb 70 = .ok (.iload 5, 2) := by decide +kernel
theorem dX6_climb_72 : decode cX6_climb 72 = .ok (.iaload, 1) := by decide +kernel
theorem dX6_climb_73 : decode cX6_climb 73 = .ok (.iload_n 3, 1) := by decide +kernel
theorem dX6_climb_74 : decode cX6_climb 74 = .ok (.if_icmp .ge 18, 3) := by decide +kernel
theorem dX6_climb_77 : decode cX6_climb 77 = .ok (.aload_n 0, 1) := by decide +kernel
theorem dX6_climb_78 : decode cX6_climb 78 = .ok (.getfield 66, 3) := by decide +kernel
theorem dX6_climb_81 : decode cX6_climb 81 = .ok (.iload 5, 2) := by decide +kernel
theorem dX6_climb_83 : decode cX6_climb 83 = .ok (.iaload, 1) := by decide +kernel
theorem dX6_climb_84 : decode cX6_climb 84 = .ok (.iload_n 3, 1) := by decide +kernel
theorem dX6_climb_85 : decode cX6_climb 85 = .ok (.if_icmp .lt 7, 3) := by decide +kernel
theorem dX6_climb_88 : decode cX6_climb 88 = .ok (.iconst 1, 1) := by decide +kernel
theorem dX6_climb_89 : decode cX6_climb 89 = .ok (.goto 4, 3) := by decide +kernel
theorem dX6_climb_92 : decode cX6_climb 92 = .ok (.iconst 0, 1) := by decide +kernel
theorem dX6_climb_93 : decode cX6_climb 93 = .ok (.iadd, 1) := by decide +kernel
theorem dX6_climb_94 : decode cX6_climb 94 = .ok (.istore 4, 2) := by decide +kernel
theorem dX6_climb_96 : decode cX6_climb 96 = .ok (.iinc 5 1, 3) := by decide +kernel
theorem dX6_climb_99 : decode cX6_climb 99 = .ok (.goto (-44), 3) := by decide +kernel
theorem dX6_climb_102 : decode cX6_climb 102 = .ok (.aload_n 0, 1) := by decide +kernel
theorem dX6_climb_103 : decode cX6_climb 103 = .ok (.iload 4, 2) := by decide +kernel
theorem dX6_climb_105 : decode cX6_climb 105 = .ok (.iconst 1, 1) := by decide +kernel
theorem dX6_climb_106 : decode cX6_climb 106 = .ok (.isub, 1) := by decide +kernel
theorem dX6_climb_107 : decode cX6_climb 107 = .ok (.invokevirtual 103, 3) := by decide +kernel
theorem dX6_climb_110 : decode cX6_climb 110 = .ok (.iconst 0, 1) := by decide +kernel
theorem dX6_climb_111 : decode cX6_climb 111 = .ok (.istore 5, 2) := by decide +kernel
theorem dX6_climb_113 : decode cX6_climb 113 = .ok (.iload 5, 2) := by decide +kernel
theorem dX6_climb_115 : decode cX6_climb 115 = .ok (.iload 4, 2) := by decide +kernel
theorem dX6_climb_117 : decode cX6_climb 117 = .ok (.if_icmp .ge 26, 3) := by decide +kernel
theorem dX6_climb_120 : decode cX6_climb 120 = .ok (.aload_n 0, 1) := by decide +kernel
theorem dX6_climb_121 : decode cX6_climb 121 = .ok (.getfield 69, 3) := by decide +kernel
theorem dX6_climb_124 : decode cX6_climb 124 = .ok (.iload 5, 2) := by decide +kernel
theorem dX6_climb_126 : decode cX6_climb 126 = .ok (.dup2, 1) := by decide +kernel
theorem dX6_climb_127 : decode cX6_climb 127 = .ok (.iaload, 1) := by decide +kernel
theorem dX6_climb_128 : decode cX6_climb 128 = .ok (.aload_n 0, 1) := by decide +kernel
theorem dX6_climb_129 : decode cX6_climb 129 = .ok (.getfield 54, 3) := by decide +kernel
theorem dX6_climb_132 : decode cX6_climb 132 = .ok (.iload 5, 2) := by decide +kernel
theorem dX6_climb_134 : decode cX6_climb 134 = .ok (.iaload, 1) := by decide +kernel
theorem dX6_climb_135 : decode cX6_climb 135 = .ok (.iadd, 1) := by decide +kernel
theorem dX6_climb_136 : decode cX6_climb 136 = .ok (.iastore, 1) := by decide +kernel
theorem dX6_climb_137 : decode cX6_climb 137 = .ok (.iinc 5 1, 3) := by decide +kernel
theorem dX6_climb_140 : decode cX6_climb 140 = .ok (.goto (-27), 3) := by decide +kernel
theorem dX6_climb_143 : decode cX6_climb 143 = .ok (.iconst 0, 1) := by decide +kernel
theorem dX6_climb_144 : decode cX6_climb 144 = .ok (.istore 5, 2) := by decide +kernel
theorem dX6_climb_146 : decode cX6_climb 146 = .ok (.iload 5, 2) := by decide +kernel
theorem dX6_climb_148 : decode cX6_climb 148 = .ok (.aload_n 0, 1) := by decide +kernel
theorem dX6_climb_149 : decode cX6_climb 149 = .ok (.getfield 88, 3) := by decide +kernel
theorem dX6_climb_152 : decode cX6_climb 152 = .ok (.if_icmp .ge 53, 3) := by decide +kernel
theorem dX6_climb_155 : decode cX6_climb 155 = .ok (.aload_n 0, 1) := by decide +kernel
theorem dX6_climb_156 : decode cX6_climb 156 = .ok (.getfield 145, 3) := by decide +kernel
theorem dX6_climb_159 : decode cX6_climb 159 = .ok (.iconst (-1), 1) := by decide +kernel
theorem dX6_climb_160 : decode cX6_climb 160 = .ok (.if_icmp .ne 45, 3) := by decide +kernel
theorem dX6_climb_163 : decode cX6_climb 163 = .ok (.aload_n 0, 1) := by decide +kernel
theorem dX6_climb_164 : decode cX6_climb 164 = .ok (.getfield 69, 3) := by decide +kernel
theorem dX6_climb_167 : decode cX6_climb 167 = .ok (.iload 5, 2) := by decide +kernel
theorem dX6_climb_169 : decode cX6_climb 169 = .ok (.iaload, 1) := by decide +kernel
theorem dX6_climb_170 : decode cX6_climb 170 = .ok (.bipush 8, 2) := by decide +kernel
theorem dX6_climb_172 : decode cX6_climb 172 = .ok (.aload_n 0, 1) := by decide +kernel
theorem dX6_climb_173 : decode cX6_climb 173 = .ok (.getfield 29, 3) := by decide +kernel
theorem dX6_climb_176 : decode cX6_climb 176 = .ok (.aload_n 0, 1) := by decide +kernel
theorem dX6_climb_177 : decode cX6_climb 177 = .ok (.getfield 51, 3) := by decide +kernel
theorem dX6_climb_180 : decode cX6_climb 180 = .ok (.iload 5, 2) := by decide +kernel
theorem dX6_climb_182 : decode cX6_climb 182 = .ok (.iaload, 1) := by decide +kernel
theorem dX6_climb_183 : decode cX6_climb 183 = .ok (.iaload, 1) := by decide +kernel
theorem dX6_climb_184 : decode cX6_climb 184 = .ok (.imul, 1) := by decide +kernel
theorem dX6_climb_185 : decode cX6_climb 185 = .ok (.if_icmp .le 14, 3) := by decide +kernel
theorem dX6_climb_188 : decode cX6_climb 188 = .ok (.aload_n 0, 1) := by decide +kernel
theorem dX6_climb_189 : decode cX6_climb 189 = .ok (.iload_n 3, 1) := by decide +kernel
theorem dX6_climb_190 : decode cX6_climb 190 = .ok (.putfield 145, 3) := by decide +kernel
theorem dX6_climb_193 : decode cX6_climb 193 = .ok (.aload_n 0, 1) := by decide +kernel
theorem dX6_climb_194 : decode cX6_climb 194 = .ok (.iload 5, 2) := by decide +kernel
theorem dX6_climb_196 : decode cX6_climb 196 = .ok (.putfield 148, 3) := by decide +kernel
theorem dX6_climb_199 : decode cX6_climb 199 = .ok (.iinc 5 1, 3) := by decide +kernel
theorem dX6_climb_202 : decode cX6_climb 202 = .ok (.goto (-56), 3) := by decide +kernel
theorem dX6_climb_205 : decode cX6_climb 205 = .ok (.iinc 3 1, 3) := by decide +kernel
theorem dX6_climb_208 : decode cX6_climb 208 = .ok (.goto (-164), 3) := by decide +kernel
theorem dX6_climb_211 : decode cX6_climb 211 = .ok (.iload_n 2, 1) := by decide +kernel
theorem dX6_climb_212 : decode cX6_climb 212 = .ok (.ireturn, 1) := by decide +kernel
theorem dX6_tick_0 : decode cX6_tick 0 = .ok (.iload_n 1, 1) := by decide +kernel
theorem dX6_tick_1 : decode cX6_tick 1 = .ok (.iconst 0, 1) := by decide +kernel
theorem dX6_tick_2 : decode cX6_tick 2 = .ok (.iconst 2, 1) := by decide +kernel
theorem dX6_tick_3 : decode cX6_tick 3 = .ok (.invokestatic 84, 3) := by decide +kernel
theorem dX6_tick_6 : decode cX6_tick 6 = .ok (.ifCond .ne 6, 3) := by decide +kernel
theorem dX6_tick_9 : decode cX6_tick 9 = .ok (.bipush (-3), 2) := by decide +kernel
theorem dX6_tick_11 : decode cX6_tick 11 = .ok (.ireturn, 1) := by decide +kernel
theorem dX6_tick_12 : decode cX6_tick 12 = .ok (.aload_n 0, 1) := by decide +kernel
theorem dX6_tick_13 : decode cX6_tick 13 = .ok (.getfield 95, 3) := by decide +kernel
theorem dX6_tick_16 : decode cX6_tick 16 = .ok (.ifCond .ne 6, 3) := by decide +kernel
theorem dX6_tick_19 : decode cX6_tick 19 = .ok (.bipush (-4), 2) := by decide +kernel
theorem dX6_tick_21 : decode cX6_tick 21 = .ok (.ireturn, 1) := by decide +kernel
theorem dX6_tick_22 : decode cX6_tick 22 = .ok (.aload_n 0, 1) := by decide +kernel
theorem dX6_tick_23 : decode cX6_tick 23 = .ok (.sipush 200, 3) := by decide +kernel
theorem dX6_tick_26 : decode cX6_tick 26 = .ok (.invokevirtual 151, 3) := by decide +kernel
theorem dX6_tick_29 : decode cX6_tick 29 = .ok (.istore_n 2, 1) := by decide +kernel
theorem dX6_tick_30 : decode cX6_tick 30 = .ok (.iload_n 1, 1) := by decide +kernel
theorem dX6_tick_31 : decode cX6_tick 31 = .ok (.ifCond .ne 7, 3) := by decide +kernel
theorem dX6_tick_34 : decode cX6_tick 34 = .ok (.iload_n 2, 1) := by decide +kernel
theorem dX6_tick_35 : decode cX6_tick 35 = .ok (.goto 18, 3) := by decide +kernel
theorem dX6_tick_38 : decode cX6_tick 38 = .ok (.iload_n 1, 1) := by decide +kernel
theorem dX6_tick_39 : decode cX6_tick 39 = .ok (.iconst 1, 1) := by decide +kernel
theorem dX6_tick_40 : decode cX6_tick 40 = .ok (.if_icmp .ne 9, 3) := by decide +kernel
theorem dX6_tick_43 : decode cX6_tick 43 = .ok (.iconst 2, 1) := by decide +kernel
theorem dX6_tick_44 : decode cX6_tick 44 = .ok (.iload_n 2, 1) := by decide +kernel
theorem dX6_tick_45 : decode cX6_tick 45 = .ok (.imul, 1) := by decide +kernel
theorem dX6_tick_46 : decode cX6_tick 46 = .ok (.goto 7, 3) := by decide +kernel
theorem dX6_tick_49 : decode cX6_tick 49 = .ok (.aload_n 0, 1) := by decide +kernel
theorem dX6_tick_50 : decode cX6_tick 50 = .ok (.getfield 145, 3) := by decide +kernel
theorem dX6_tick_53 : decode cX6_tick 53 = .ok (.ireturn, 1) := by decide +kernel
theorem dX6_weak_0 : decode cX6_weak 0 = .ok (.aload_n 0, 1) := by decide +kernel
theorem dX6_weak_1 : decode cX6_weak 1 = .ok (.getfield 95, 3) := by decide +kernel
theorem dX6_weak_4 : decode cX6_weak 4 = .ok (.ifCond .ne 6, 3) := by decide +kernel
theorem dX6_weak_7 : decode cX6_weak 7 = .ok (.bipush (-4), 2) := by decide +kernel
theorem dX6_weak_9 : decode cX6_weak 9 = .ok (.ireturn, 1) := by decide +kernel
theorem dX6_weak_10 : decode cX6_weak 10 = .ok (.aload_n 0, 1) := by decide +kernel
theorem dX6_weak_11 : decode cX6_weak 11 = .ok (.sipush 200, 3) := by decide +kernel
theorem dX6_weak_14 : decode cX6_weak 14 = .ok (.invokevirtual 151, 3) := by decide +kernel
theorem dX6_weak_17 : decode cX6_weak 17 = .ok (.pop, 1) := by decide +kernel
theorem dX6_weak_18 : decode cX6_weak 18 = .ok (.aload_n 0, 1) := by decide +kernel
theorem dX6_weak_19 : decode cX6_weak 19 = .ok (.getfield 148, 3) := by decide +kernel
theorem dX6_weak_22 : decode cX6_weak 22 = .ok (.ireturn, 1) := by decide +kernel
theorem dX6_effort_0 : decode cX6_effort 0 = .ok (.aload_n 0, 1) := by decide +kernel
theorem dX6_effort_1 : decode cX6_effort 1 = .ok (.iload_n 1, 1) := by decide +kernel
theorem dX6_effort_2 : decode cX6_effort 2 = .ok (.invokevirtual 136, 3) := by decide +kernel
theorem dX6_effort_5 : decode cX6_effort 5 = .ok (.ifCond .ne 6, 3) := by decide +kernel
theorem dX6_effort_8 : decode cX6_effort 8 = .ok (.bipush (-2), 2) := by decide +kernel
theorem dX6_effort_10 : decode cX6_effort 10 = .ok (.ireturn, 1) := by decide +kernel
theorem dX6_effort_11 : decode cX6_effort 11 = .ok (.iload_n 2, 1) := by decide +kernel
theorem dX6_effort_12 : decode cX6_effort 12 = .ok (.iconst 0, 1) := by decide +kernel
theorem dX6_effort_13 : decode cX6_effort 13 = .ok (.sipush 200, 3) := by decide +kernel
theorem dX6_effort_16 : decode cX6_effort 16 = .ok (.invokestatic 84, 3) := by decide +kernel
theorem dX6_effort_19 : decode cX6_effort 19 = .ok (.ifCond .ne 6, 3) := by decide +kernel
theorem dX6_effort_22 : decode cX6_effort 22 = .ok (.bipush (-3), 2) := by decide +kernel
theorem dX6_effort_24 : decode cX6_effort 24 = .ok (.ireturn, 1) := by decide +kernel
theorem dX6_effort_25 : decode cX6_effort 25 = .ok (.aload_n 0, 1) := by decide +kernel
theorem dX6_effort_26 : decode cX6_effort 26 = .ok (.getfield 95, 3) := by decide +kernel
theorem dX6_effort_29 : decode cX6_effort 29 = .ok (.ifCond .ne 6, 3) := by decide +kernel
theorem dX6_effort_32 : decode cX6_effort 32 = .ok (.bipush (-4), 2) := by decide +kernel
theorem dX6_effort_34 : decode cX6_effort 34 = .ok (.ireturn, 1) := by decide +kernel
theorem dX6_effort_35 : decode cX6_effort 35 = .ok (.aload_n 0, 1) := by decide +kernel
theorem dX6_effort_36 : decode cX6_effort 36 = .ok (.iload_n 2, 1) := by decide +kernel
theorem dX6_effort_37 : decode cX6_effort 37 = .ok (.invokevirtual 151, 3) := by decide +kernel
theorem dX6_effort_40 : decode cX6_effort 40 = .ok (.pop, 1) := by decide +kernel
theorem dX6_effort_41 : decode cX6_effort 41 = .ok (.aload_n 0, 1) := by decide +kernel
theorem dX6_effort_42 : decode cX6_effort 42 = .ok (.getfield 69, 3) := by decide +kernel
theorem dX6_effort_45 : decode cX6_effort 45 = .ok (.iload_n 1, 1) := by decide +kernel
theorem dX6_effort_46 : decode cX6_effort 46 = .ok (.iaload, 1) := by decide +kernel
theorem dX6_effort_47 : decode cX6_effort 47 = .ok (.ireturn, 1) := by decide +kernel
theorem dX6_worths_0 : decode cX6_worths 0 = .ok (.iload_n 1, 1) := by decide +kernel
theorem dX6_worths_1 : decode cX6_worths 1 = .ok (.iconst 0, 1) := by decide +kernel
theorem dX6_worths_2 : decode cX6_worths 2 = .ok (.sipush 1000, 3) := by decide +kernel
theorem dX6_worths_5 : decode cX6_worths 5 = .ok (.invokestatic 84, 3) := by decide +kernel
theorem dX6_worths_8 : decode cX6_worths 8 = .ok (.ifCond .eq 14, 3) := by decide +kernel
theorem dX6_worths_11 : decode cX6_worths 11 = .ok (.iload_n 2, 1) := by decide +kernel
theorem dX6_worths_12 : decode cX6_worths 12 = .ok (.iconst 0, 1) := by decide +kernel
theorem dX6_worths_13 : decode cX6_worths 13 = .ok (.sipush 1000, 3) := by decide +kernel
theorem dX6_worths_16 : decode cX6_worths 16 = .ok (.invokestatic 84, 3) := by decide +kernel
theorem dX6_worths_19 : decode cX6_worths 19 = .ok (.ifCond .ne 6, 3) := by decide +kernel
theorem dX6_worths_22 : decode cX6_worths 22 = .ok (.bipush (-3), 2) := by decide +kernel
theorem dX6_worths_24 : decode cX6_worths 24 = .ok (.ireturn, 1) := by decide +kernel
theorem dX6_worths_25 : decode cX6_worths 25 = .ok (.aload_n 0, 1) := by decide +kernel
theorem dX6_worths_26 : decode cX6_worths 26 = .ok (.iload_n 1, 1) := by decide +kernel
theorem dX6_worths_27 : decode cX6_worths 27 = .ok (.putfield 72, 3) := by decide +kernel
theorem dX6_worths_30 : decode cX6_worths 30 = .ok (.aload_n 0, 1) := by decide +kernel
theorem dX6_worths_31 : decode cX6_worths 31 = .ok (.iload_n 2, 1) := by decide +kernel
theorem dX6_worths_32 : decode cX6_worths 32 = .ok (.putfield 75, 3) := by decide +kernel
theorem dX6_worths_35 : decode cX6_worths 35 = .ok (.iconst 1, 1) := by decide +kernel
theorem dX6_worths_36 : decode cX6_worths 36 = .ok (.ireturn, 1) := by decide +kernel
theorem dX6_attempt_0 : decode cX6_attempt 0 = .ok (.aload_n 0, 1) := by decide +kernel
theorem dX6_attempt_1 : decode cX6_attempt 1 = .ok (.getfield 95, 3) := by decide +kernel
theorem dX6_attempt_4 : decode cX6_attempt 4 = .ok (.ifCond .ne 6, 3) := by decide +kernel
theorem dX6_attempt_7 : decode cX6_attempt 7 = .ok (.bipush (-4), 2) := by decide +kernel
theorem dX6_attempt_9 : decode cX6_attempt 9 = .ok (.ireturn, 1) := by decide +kernel
theorem dX6_attempt_10 : decode cX6_attempt 10 = .ok (.aload_n 0, 1) := by decide +kernel
theorem dX6_attempt_11 : decode cX6_attempt 11 = .ok (.sipush 200, 3) := by decide +kernel
theorem dX6_attempt_14 : decode cX6_attempt 14 = .ok (.invokevirtual 151, 3) := by decide +kernel
theorem dX6_attempt_17 : decode cX6_attempt 17 = .ok (.istore_n 1, 1) := by decide +kernel
theorem dX6_attempt_18 : decode cX6_attempt 18 = .ok (.aload_n 0, 1) := by decide +kernel
theorem dX6_attempt_19 : decode cX6_attempt 19 = .ok (.getfield 145, 3) := by decide +kernel
theorem dX6_attempt_22 : decode cX6_attempt 22 = .ok (.iconst (-1), 1) := by decide +kernel
theorem dX6_attempt_23 : decode cX6_attempt 23 = .ok (.if_icmp .ne 10, 3) := by decide +kernel
theorem dX6_attempt_26 : decode cX6_attempt 26 = .ok (.aload_n 0, 1) := by decide +kernel
theorem dX6_attempt_27 : decode cX6_attempt 27 = .ok (.getfield 75, 3) := by decide +kernel
theorem dX6_attempt_30 : decode cX6_attempt 30 = .ok (.goto 19, 3) := by decide +kernel
theorem dX6_attempt_33 : decode cX6_attempt 33 = .ok (.aload_n 0, 1) := by decide +kernel
theorem dX6_attempt_34 : decode cX6_attempt 34 = .ok (.getfield 145, 3) := by decide +kernel
theorem dX6_attempt_37 : decode cX6_attempt 37 = .ok (.iload_n 1, 1) := by decide +kernel
theorem dX6_attempt_38 : decode cX6_attempt 38 = .ok (.if_icmp .le 10, 3) := by decide +kernel
theorem dX6_attempt_41 : decode cX6_attempt 41 = .ok (.aload_n 0, 1) := by decide +kernel
theorem dX6_attempt_42 : decode cX6_attempt 42 = .ok (.getfield 72, 3) := by decide +kernel
theorem dX6_attempt_45 : decode cX6_attempt 45 = .ok (.goto 4, 3) := by decide +kernel
theorem dX6_attempt_48 : decode cX6_attempt 48 = .ok (.iconst 0, 1) := by decide +kernel
theorem dX6_attempt_49 : decode cX6_attempt 49 = .ok (.istore_n 2, 1) := by decide +kernel
theorem dX6_attempt_50 : decode cX6_attempt 50 = .ok (.aload_n 0, 1) := by decide +kernel
theorem dX6_attempt_51 : decode cX6_attempt 51 = .ok (.dup, 1) := by decide +kernel
theorem dX6_attempt_52 : decode cX6_attempt 52 = .ok (.getfield 154, 3) := by decide +kernel
theorem dX6_attempt_55 : decode cX6_attempt 55 = .ok (.iload_n 2, 1) := by decide +kernel
theorem dX6_attempt_56 : decode cX6_attempt 56 = .ok (.iadd, 1) := by decide +kernel
theorem dX6_attempt_57 : decode cX6_attempt 57 = .ok (.putfield 154, 3) := by decide +kernel
theorem dX6_attempt_60 : decode cX6_attempt 60 = .ok (.iload_n 2, 1) := by decide +kernel
theorem dX6_attempt_61 : decode cX6_attempt 61 = .ok (.ireturn, 1) := by decide +kernel
theorem dX6_count_0 : decode cX6_count 0 = .ok (.iconst 0, 1) := by decide +kernel
theorem dX6_count_1 : decode cX6_count 1 = .ok (.istore_n 2, 1) := by decide +kernel
theorem dX6_count_2 : decode cX6_count 2 = .ok (.iload_n 1, 1) := by decide +kernel
theorem dX6_count_3 : decode cX6_count 3 = .ok (.tableswitch 105 0 5 #[37, 42, 47, 52, 87, 92], 37) := by decide +kernel
theorem dX6_count_40 : decode cX6_count 40 = .ok (.aload_n 0, 1) := by decide +kernel
theorem dX6_count_41 : decode cX6_count 41 = .ok (.getfield 7, 3) := by decide +kernel
theorem dX6_count_44 : decode cX6_count 44 = .ok (.ireturn, 1) := by decide +kernel
theorem dX6_count_45 : decode cX6_count 45 = .ok (.aload_n 0, 1) := by decide +kernel
theorem dX6_count_46 : decode cX6_count 46 = .ok (.getfield 88, 3) := by decide +kernel
theorem dX6_count_49 : decode cX6_count 49 = .ok (.ireturn, 1) := by decide +kernel
theorem dX6_count_50 : decode cX6_count 50 = .ok (.aload_n 0, 1) := by decide +kernel
theorem dX6_count_51 : decode cX6_count 51 = .ok (.getfield 81, 3) := by decide +kernel
theorem dX6_count_54 : decode cX6_count 54 = .ok (.ireturn, 1) := by decide +kernel
theorem dX6_count_55 : decode cX6_count 55 = .ok (.iconst 0, 1) := by decide +kernel
theorem dX6_count_56 : decode cX6_count 56 = .ok (.istore_n 3, 1) := by decide +kernel
theorem dX6_count_57 : decode cX6_count 57 = .ok (.iload_n 3, 1) := by decide +kernel
theorem dX6_count_58 : decode cX6_count 58 = .ok (.aload_n 0, 1) := by decide +kernel
theorem dX6_count_59 : decode cX6_count 59 = .ok (.getfield 81, 3) := by decide +kernel
theorem dX6_count_62 : decode cX6_count 62 = .ok (.if_icmp .ge 26, 3) := by decide +kernel
theorem dX6_count_65 : decode cX6_count 65 = .ok (.iload_n 2, 1) := by decide +kernel
theorem dX6_count_66 : decode cX6_count 66 = .ok (.aload_n 0, 1) := by decide +kernel
theorem dX6_count_67 : decode cX6_count 67 = .ok (.getfield 32, 3) := by decide +kernel
theorem dX6_count_70 : decode cX6_count 70 = .ok (.iload_n 3, 1) := by decide +kernel
theorem dX6_count_71 : decode cX6_count 71 = .ok (.baload, 1) := by decide +kernel
theorem dX6_count_72 : decode cX6_count 72 = .ok (.ifCond .eq 7, 3) := by decide +kernel
theorem dX6_count_75 : decode cX6_count 75 = .ok (.iconst 1, 1) := by decide +kernel
theorem dX6_count_76 : decode cX6_count 76 = .ok (.goto 4, 3) := by decide +kernel
theorem dX6_count_79 : decode cX6_count 79 = .ok (.iconst 0, 1) := by decide +kernel
theorem dX6_count_80 : decode cX6_count 80 = .ok (.iadd, 1) := by decide +kernel
theorem dX6_count_81 : decode cX6_count 81 = .ok (.istore_n 2, 1) := by decide +kernel
theorem dX6_count_82 : decode cX6_count 82 = .ok (.iinc 3 1, 3) := by decide +kernel
theorem dX6_count_85 : decode cX6_count 85 = .ok (.goto (-28), 3) := by decide +kernel
theorem dX6_count_88 : decode cX6_count 88 = .ok (.iload_n 2, 1) := by decide +kernel
theorem dX6_count_89 : decode cX6_count 89 = .ok (.ireturn, 1) := by decide +kernel
theorem dX6_count_90 : decode cX6_count 90 = .ok (.aload_n 0, 1) := by decide +kernel
theorem dX6_count_91 : decode cX6_count 91 = .ok (.getfield 154, 3) := by decide +kernel
theorem dX6_count_94 : decode cX6_count 94 = .ok (.ireturn, 1) := by decide +kernel
theorem dX6_count_95 : decode cX6_count 95 = .ok (.aload_n 0, 1) := by decide +kernel
theorem dX6_count_96 : decode cX6_count 96 = .ok (.getfield 95, 3) := by decide +kernel
theorem dX6_count_99 : decode cX6_count 99 = .ok (.ifCond .eq 7, 3) := by decide +kernel
theorem dX6_count_102 : decode cX6_count 102 = .ok (.iconst 1, 1) := by decide +kernel
theorem dX6_count_103 : decode cX6_count 103 = .ok (.goto 4, 3) := by decide +kernel
theorem dX6_count_106 : decode cX6_count 106 = .ok (.iconst 0, 1) := by decide +kernel
theorem dX6_count_107 : decode cX6_count 107 = .ok (.ireturn, 1) := by decide +kernel
theorem dX6_count_108 : decode cX6_count 108 = .ok (.bipush (-3), 2) := by decide +kernel
theorem dX6_count_110 : decode cX6_count 110 = .ok (.ireturn, 1) := by decide +kernel
theorem dJ7_fill_53178_0 : decode cJ7_fill_53178 0 = .ok (.iconst 0, 1) := by decide +kernel
theorem dJ7_fill_53178_1 : decode cJ7_fill_53178 1 = .ok (.istore_n 2, 1) := by decide +kernel
theorem dJ7_fill_53178_2 : decode cJ7_fill_53178 2 = .ok (.aload_n 0, 1) := by decide +kernel
theorem dJ7_fill_53178_3 : decode cJ7_fill_53178 3 = .ok (.arraylength, 1) := by decide +kernel
theorem dJ7_fill_53178_4 : decode cJ7_fill_53178 4 = .ok (.istore_n 3, 1) := by decide +kernel
theorem dJ7_fill_53178_5 : decode cJ7_fill_53178 5 = .ok (.iload_n 2, 1) := by decide +kernel
theorem dJ7_fill_53178_6 : decode cJ7_fill_53178 6 = .ok (.iload_n 3, 1) := by decide +kernel
theorem dJ7_fill_53178_7 : decode cJ7_fill_53178 7 = .ok (.if_icmp .ge 13, 3) := by decide +kernel
theorem dJ7_fill_53178_10 : decode cJ7_fill_53178 10 = .ok (.aload_n 0, 1) := by decide +kernel
theorem dJ7_fill_53178_11 : decode cJ7_fill_53178 11 = .ok (.iload_n 2, 1) := by decide +kernel
theorem dJ7_fill_53178_12 : decode cJ7_fill_53178 12 = .ok (.iload_n 1, 1) := by decide +kernel
theorem dJ7_fill_53178_13 : decode cJ7_fill_53178 13 = .ok (.iastore, 1) := by decide +kernel
theorem dJ7_fill_53178_14 : decode cJ7_fill_53178 14 = .ok (.iinc 2 1, 3) := by decide +kernel
theorem dJ7_fill_53178_17 : decode cJ7_fill_53178 17 = .ok (.goto (-12), 3) := by decide +kernel
theorem dJ7_fill_53178_20 : decode cJ7_fill_53178 20 = .ok (.return_, 1) := by decide +kernel
theorem dL_law_0 : decode cL_law 0 = .ok (.new 7, 3) := by decide +kernel
theorem dL_law_3 : decode cL_law 3 = .ok (.dup, 1) := by decide +kernel
theorem dL_law_4 : decode cL_law 4 = .ok (.invokespecial 9, 3) := by decide +kernel
theorem dL_law_7 : decode cL_law 7 = .ok (.astore_n 1, 1) := by decide +kernel
theorem dL_law_8 : decode cL_law 8 = .ok (.new 10, 3) := by decide +kernel
theorem dL_law_11 : decode cL_law 11 = .ok (.dup, 1) := by decide +kernel
theorem dL_law_12 : decode cL_law 12 = .ok (.invokespecial 12, 3) := by decide +kernel
theorem dL_law_15 : decode cL_law 15 = .ok (.astore_n 2, 1) := by decide +kernel
theorem dL_law_16 : decode cL_law 16 = .ok (.iconst 0, 1) := by decide +kernel
theorem dL_law_17 : decode cL_law 17 = .ok (.istore_n 3, 1) := by decide +kernel
theorem dL_law_18 : decode cL_law 18 = .ok (.iload_n 3, 1) := by decide +kernel
theorem dL_law_19 : decode cL_law 19 = .ok (.aload_n 0, 1) := by decide +kernel
theorem dL_law_20 : decode cL_law 20 = .ok (.arraylength, 1) := by decide +kernel
theorem dL_law_21 : decode cL_law 21 = .ok (.bipush 6, 2) := by decide +kernel
theorem dL_law_23 : decode cL_law 23 = .ok (.isub, 1) := by decide +kernel
theorem dL_law_24 : decode cL_law 24 = .ok (.if_icmp .gt 572, 3) := by decide +kernel
theorem dL_law_27 : decode cL_law 27 = .ok (.aload_n 0, 1) := by decide +kernel
theorem dL_law_28 : decode cL_law 28 = .ok (.iload_n 3, 1) := by decide +kernel
theorem dL_law_29 : decode cL_law 29 = .ok (.iaload, 1) := by decide +kernel
theorem dL_law_30 : decode cL_law 30 = .ok (.bipush 31, 2) := by decide +kernel
theorem dL_law_32 : decode cL_law 32 = .ok (.iand, 1) := by decide +kernel
theorem dL_law_33 : decode cL_law 33 = .ok (.tableswitch 557 0 17 #[87, 110, 143, 206, 255, 278, 291, 304, 317, 340, 363, 386, 419, 442, 455, 488, 521, 534], 87) := by decide +kernel
theorem dL_law_120 : decode cL_law 120 = .ok (.aload_n 1, 1) := by decide +kernel
theorem dL_law_121 : decode cL_law 121 = .ok (.aload_n 0, 1) := by decide +kernel
theorem dL_law_122 : decode cL_law 122 = .ok (.iload_n 3, 1) := by decide +kernel
theorem dL_law_123 : decode cL_law 123 = .ok (.iconst 1, 1) := by decide +kernel
theorem dL_law_124 : decode cL_law 124 = .ok (.iadd, 1) := by decide +kernel
theorem dL_law_125 : decode cL_law 125 = .ok (.iaload, 1) := by decide +kernel
theorem dL_law_126 : decode cL_law 126 = .ok (.invokevirtual 13, 3) := by decide +kernel
theorem dL_law_129 : decode cL_law 129 = .ok (.aload_n 2, 1) := by decide +kernel
theorem dL_law_130 : decode cL_law 130 = .ok (.aload_n 0, 1) := by decide +kernel
theorem dL_law_131 : decode cL_law 131 = .ok (.iload_n 3, 1) := by decide +kernel
theorem dL_law_132 : decode cL_law 132 = .ok (.iconst 1, 1) := by decide +kernel
theorem dL_law_133 : decode cL_law 133 = .ok (.iadd, 1) := by decide +kernel
theorem dL_law_134 : decode cL_law 134 = .ok (.iaload, 1) := by decide +kernel
theorem dL_law_135 : decode cL_law 135 = .ok (.invokevirtual 17, 3) := by decide +kernel
theorem dL_law_138 : decode cL_law 138 = .ok (.if_icmp .eq 452, 3) := by decide +kernel
theorem dL_law_141 : decode cL_law 141 = .ok (.iconst 0, 1) := by decide +kernel
theorem dL_law_142 : decode cL_law 142 = .ok (.ireturn, 1) := by decide +kernel
theorem dL_law_143 : decode cL_law 143 = .ok (.aload_n 1, 1) := by decide +kernel
theorem dL_law_144 : decode cL_law 144 = .ok (.aload_n 0, 1) := by decide +kernel
theorem dL_law_145 : decode cL_law 145 = .ok (.iload_n 3, 1) := by decide +kernel
theorem dL_law_146 : decode cL_law 146 = .ok (.iconst 1, 1) := by decide +kernel
theorem dL_law_147 : decode cL_law 147 = .ok (.iadd, 1) := by decide +kernel
theorem dL_law_148 : decode cL_law 148 = .ok (.iaload, 1) := by decide +kernel
theorem dL_law_149 : decode cL_law 149 = .ok (.aload_n 0, 1) := by decide +kernel
theorem dL_law_150 : decode cL_law 150 = .ok (.iload_n 3, 1) := by decide +kernel
theorem dL_law_151 : decode cL_law 151 = .ok (.iconst 2, 1) := by decide +kernel
theorem dL_law_152 : decode cL_law 152 = .ok (.iadd, 1) := by decide +kernel
theorem dL_law_153 : decode cL_law 153 = .ok (.iaload, 1) := by decide +kernel
theorem dL_law_154 : decode cL_law 154 = .ok (.invokevirtual 18, 3) := by decide +kernel
theorem dL_law_157 : decode cL_law 157 = .ok (.aload_n 2, 1) := by decide +kernel
theorem dL_law_158 : decode cL_law 158 = .ok (.aload_n 0, 1) := by decide +kernel
theorem dL_law_159 : decode cL_law 159 = .ok (.iload_n 3, 1) := by decide +kernel
theorem dL_law_160 : decode cL_law 160 = .ok (.iconst 1, 1) := by decide +kernel
theorem dL_law_161 : decode cL_law 161 = .ok (.iadd, 1) := by decide +kernel
theorem dL_law_162 : decode cL_law 162 = .ok (.iaload, 1) := by decide +kernel
theorem dL_law_163 : decode cL_law 163 = .ok (.aload_n 0, 1) := by decide +kernel
theorem dL_law_164 : decode cL_law 164 = .ok (.iload_n 3, 1) := by decide +kernel
theorem dL_law_165 : decode cL_law 165 = .ok (.iconst 2, 1) := by decide +kernel
theorem dL_law_166 : decode cL_law 166 = .ok (.iadd, 1) := by decide +kernel
theorem dL_law_167 : decode cL_law 167 = .ok (.iaload, 1) := by decide +kernel
theorem dL_law_168 : decode cL_law 168 = .ok (.invokevirtual 22, 3) := by decide +kernel
theorem dL_law_171 : decode cL_law 171 = .ok (.if_icmp .eq 419, 3) := by decide +kernel
theorem dL_law_174 : decode cL_law 174 = .ok (.iconst 0, 1) := by decide +kernel
theorem dL_law_175 : decode cL_law 175 = .ok (.ireturn, 1) := by decide +kernel
theorem dL_law_176 : decode cL_law 176 = .ok (.aload_n 1, 1) := by decide +kernel
theorem dL_law_177 : decode cL_law 177 = .ok (.aload_n 0, 1) := by decide +kernel
theorem dL_law_178 : decode cL_law 178 = .ok (.iload_n 3, 1) := by decide +kernel
theorem dL_law_179 : decode cL_law 179 = .ok (.iconst 1, 1) := by decide +kernel
theorem dL_law_180 : decode cL_law 180 = .ok (.iadd, 1) := by decide +kernel
theorem dL_law_181 : decode cL_law 181 = .ok (.iaload, 1) := by decide +kernel
theorem dL_law_182 : decode cL_law 182 = .ok (.aload_n 0, 1) := by decide +kernel
theorem dL_law_183 : decode cL_law 183 = .ok (.iload_n 3, 1) := by decide +kernel
theorem dL_law_184 : decode cL_law 184 = .ok (.iconst 2, 1) := by decide +kernel
theorem dL_law_185 : decode cL_law 185 = .ok (.iadd, 1) := by decide +kernel
theorem dL_law_186 : decode cL_law 186 = .ok (.iaload, 1) := by decide +kernel
theorem dL_law_187 : decode cL_law 187 = .ok (.aload_n 0, 1) := by decide +kernel
theorem dL_law_188 : decode cL_law 188 = .ok (.iload_n 3, 1) := by decide +kernel
theorem dL_law_189 : decode cL_law 189 = .ok (.iconst 3, 1) := by decide +kernel
theorem dL_law_190 : decode cL_law 190 = .ok (.iadd, 1) := by decide +kernel
theorem dL_law_191 : decode cL_law 191 = .ok (.iaload, 1) := by decide +kernel
theorem dL_law_192 : decode cL_law 192 = .ok (.aload_n 0, 1) := by decide +kernel
theorem dL_law_193 : decode cL_law 193 = .ok (.iload_n 3, 1) := by decide +kernel
theorem dL_law_194 : decode cL_law 194 = .ok (.iconst 4, 1) := by decide +kernel
theorem dL_law_195 : decode cL_law 195 = .ok (.iadd, 1) := by decide +kernel
theorem dL_law_196 : decode cL_law 196 = .ok (.iaload, 1) := by decide +kernel
theorem dL_law_197 : decode cL_law 197 = .ok (.aload_n 0, 1) := by decide +kernel
theorem dL_law_198 : decode cL_law 198 = .ok (.iload_n 3, 1) := by decide +kernel
theorem dL_law_199 : decode cL_law 199 = .ok (.iconst 5, 1) := by decide +kernel
theorem dL_law_200 : decode cL_law 200 = .ok (.iadd, 1) := by decide +kernel
theorem dL_law_201 : decode cL_law 201 = .ok (.iaload, 1) := by decide +kernel
theorem dL_law_202 : decode cL_law 202 = .ok (.invokevirtual 23, 3) := by decide +kernel
theorem dL_law_205 : decode cL_law 205 = .ok (.aload_n 2, 1) := by decide +kernel
theorem dL_law_206 : decode cL_law 206 = .ok (.aload_n 0, 1) := by decide +kernel
theorem dL_law_207 : decode cL_law 207 = .ok (.iload_n 3, 1) := by decide +kernel
theorem dL_law_208 : decode cL_law 208 = .ok (.iconst 1, 1) := by decide +kernel
theorem dL_law_209 : decode cL_law 209 = .ok (.iadd, 1) := by decide +kernel
theorem dL_law_210 : decode cL_law 210 = .ok (.iaload, 1) := by decide +kernel
theorem dL_law_211 : decode cL_law 211 = .ok (.aload_n 0, 1) := by decide +kernel
theorem dL_law_212 : decode cL_law 212 = .ok (.iload_n 3, 1) := by decide +kernel
theorem dL_law_213 : decode cL_law 213 = .ok (.iconst 2, 1) := by decide +kernel
theorem dL_law_214 : decode cL_law 214 = .ok (.iadd, 1) := by decide +kernel
theorem dL_law_215 : decode cL_law 215 = .ok (.iaload, 1) := by decide +kernel
theorem dL_law_216 : decode cL_law 216 = .ok (.aload_n 0, 1) := by decide +kernel
theorem dL_law_217 : decode cL_law 217 = .ok (.iload_n 3, 1) := by decide +kernel
theorem dL_law_218 : decode cL_law 218 = .ok (.iconst 3, 1) := by decide +kernel
theorem dL_law_219 : decode cL_law 219 = .ok (.iadd, 1) := by decide +kernel
theorem dL_law_220 : decode cL_law 220 = .ok (.iaload, 1) := by decide +kernel
theorem dL_law_221 : decode cL_law 221 = .ok (.aload_n 0, 1) := by decide +kernel
theorem dL_law_222 : decode cL_law 222 = .ok (.iload_n 3, 1) := by decide +kernel
theorem dL_law_223 : decode cL_law 223 = .ok (.iconst 4, 1) := by decide +kernel
theorem dL_law_224 : decode cL_law 224 = .ok (.iadd, 1) := by decide +kernel
theorem dL_law_225 : decode cL_law 225 = .ok (.iaload, 1) := by decide +kernel
theorem dL_law_226 : decode cL_law 226 = .ok (.aload_n 0, 1) := by decide +kernel
theorem dL_law_227 : decode cL_law 227 = .ok (.iload_n 3, 1) := by decide +kernel
theorem dL_law_228 : decode cL_law 228 = .ok (.iconst 5, 1) := by decide +kernel
theorem dL_law_229 : decode cL_law 229 = .ok (.iadd, 1) := by decide +kernel
theorem dL_law_230 : decode cL_law 230 = .ok (.iaload, 1) := by decide +kernel
theorem dL_law_231 : decode cL_law 231 = .ok (.invokevirtual 27, 3) := by decide +kernel
theorem dL_law_234 : decode cL_law 234 = .ok (.if_icmp .eq 356, 3) := by decide +kernel
theorem dL_law_237 : decode cL_law 237 = .ok (.iconst 0, 1) := by decide +kernel
theorem dL_law_238 : decode cL_law 238 = .ok (.ireturn, 1) := by decide +kernel
theorem dL_law_239 : decode cL_law 239 = .ok (.aload_n 1, 1) := by decide +kernel
theorem dL_law_240 : decode cL_law 240 = .ok (.aload_n 0, 1) := by decide +kernel
theorem dL_law_241 : decode cL_law 241 = .ok (.iload_n 3, 1) := by decide +kernel
theorem dL_law_242 : decode cL_law 242 = .ok (.iconst 1, 1) := by decide +kernel
theorem dL_law_243 : decode cL_law 243 = .ok (.iadd, 1) := by decide +kernel
theorem dL_law_244 : decode cL_law 244 = .ok (.iaload, 1) := by decide +kernel
theorem dL_law_245 : decode cL_law 245 = .ok (.aload_n 0, 1) := by decide +kernel
theorem dL_law_246 : decode cL_law 246 = .ok (.iload_n 3, 1) := by decide +kernel
theorem dL_law_247 : decode cL_law 247 = .ok (.iconst 2, 1) := by decide +kernel
theorem dL_law_248 : decode cL_law 248 = .ok (.iadd, 1) := by decide +kernel
theorem dL_law_249 : decode cL_law 249 = .ok (.iaload, 1) := by decide +kernel
theorem dL_law_250 : decode cL_law 250 = .ok (.ifCond .eq 7, 3) := by decide +kernel
theorem dL_law_253 : decode cL_law 253 = .ok (.iconst 1, 1) := by decide +kernel
theorem dL_law_254 : decode cL_law 254 = .ok (.goto 4, 3) := by decide +kernel
theorem dL_law_257 : decode cL_law 257 = .ok (.iconst 0, 1) := by decide +kernel
theorem dL_law_258 : decode cL_law 258 = .ok (.invokevirtual 28, 3) := by decide +kernel
theorem dL_law_261 : decode cL_law 261 = .ok (.aload_n 2, 1) := by decide +kernel
theorem dL_law_262 : decode cL_law 262 = .ok (.aload_n 0, 1) := by decide +kernel
theorem dL_law_263 : decode cL_law 263 = .ok (.iload_n 3, 1) := by decide +kernel
theorem dL_law_264 : decode cL_law 264 = .ok (.iconst 1, 1) := by decide +kernel
theorem dL_law_265 : decode cL_law 265 = .ok (.iadd, 1) := by decide +kernel
theorem dL_law_266 : decode cL_law 266 = .ok (.iaload, 1) := by decide +kernel
theorem dL_law_267 : decode cL_law 267 = .ok (.aload_n 0, 1) := by decide +kernel
theorem dL_law_268 : decode cL_law 268 = .ok (.iload_n 3, 1) := by decide +kernel
theorem dL_law_269 : decode cL_law 269 = .ok (.iconst 2, 1) := by decide +kernel
theorem dL_law_270 : decode cL_law 270 = .ok (.iadd, 1) := by decide +kernel
theorem dL_law_271 : decode cL_law 271 = .ok (.iaload, 1) := by decide +kernel
theorem dL_law_272 : decode cL_law 272 = .ok (.ifCond .eq 7, 3) := by decide +kernel
theorem dL_law_275 : decode cL_law 275 = .ok (.iconst 1, 1) := by decide +kernel
theorem dL_law_276 : decode cL_law 276 = .ok (.goto 4, 3) := by decide +kernel
theorem dL_law_279 : decode cL_law 279 = .ok (.iconst 0, 1) := by decide +kernel
theorem dL_law_280 : decode cL_law 280 = .ok (.invokevirtual 32, 3) := by decide +kernel
theorem dL_law_283 : decode cL_law 283 = .ok (.if_icmp .eq 307, 3) := by decide +kernel
theorem dL_law_286 : decode cL_law 286 = .ok (.iconst 0, 1) := by decide +kernel
theorem dL_law_287 : decode cL_law 287 = .ok (.ireturn, 1) := by decide +kernel
theorem dL_law_288 : decode cL_law 288 = .ok (.aload_n 1, 1) := by decide +kernel
theorem dL_law_289 : decode cL_law 289 = .ok (.aload_n 0, 1) := by decide +kernel
theorem dL_law_290 : decode cL_law 290 = .ok (.iload_n 3, 1) := by decide +kernel
theorem dL_law_291 : decode cL_law 291 = .ok (.iconst 1, 1) := by decide +kernel
theorem dL_law_292 : decode cL_law 292 = .ok (.iadd, 1) := by decide +kernel
theorem dL_law_293 : decode cL_law 293 = .ok (.iaload, 1) := by decide +kernel
theorem dL_law_294 : decode cL_law 294 = .ok (.invokevirtual 33, 3) := by decide +kernel
theorem dL_law_297 : decode cL_law 297 = .ok (.aload_n 2, 1) := by decide +kernel
theorem dL_law_298 : decode cL_law 298 = .ok (.aload_n 0, 1) := by decide +kernel
theorem dL_law_299 : decode cL_law 299 = .ok (.iload_n 3, 1) := by decide +kernel
theorem dL_law_300 : decode cL_law 300 = .ok (.iconst 1, 1) := by decide +kernel
theorem dL_law_301 : decode cL_law 301 = .ok (.iadd, 1) := by decide +kernel
theorem dL_law_302 : decode cL_law 302 = .ok (.iaload, 1) := by decide +kernel
theorem dL_law_303 : decode cL_law 303 = .ok (.invokevirtual 36, 3) := by decide +kernel
theorem dL_law_306 : decode cL_law 306 = .ok (.if_icmp .eq 284, 3) := by decide +kernel
theorem dL_law_309 : decode cL_law 309 = .ok (.iconst 0, 1) := by decide +kernel
theorem dL_law_310 : decode cL_law 310 = .ok (.ireturn, 1) := by decide +kernel
theorem dL_law_311 : decode cL_law 311 = .ok (.aload_n 1, 1) := by decide +kernel
theorem dL_law_312 : decode cL_law 312 = .ok (.invokevirtual 37, 3) := by decide +kernel
theorem dL_law_315 : decode cL_law 315 = .ok (.aload_n 2, 1) := by decide +kernel
theorem dL_law_316 : decode cL_law 316 = .ok (.invokevirtual 41, 3) := by decide +kernel
theorem dL_law_319 : decode cL_law 319 = .ok (.if_icmp .eq 271, 3) := by decide +kernel
theorem dL_law_322 : decode cL_law 322 = .ok (.iconst 0, 1) := by decide +kernel
theorem dL_law_323 : decode cL_law 323 = .ok (.ireturn, 1) := by decide +kernel
theorem dL_law_324 : decode cL_law 324 = .ok (.aload_n 1, 1) := by decide +kernel
theorem dL_law_325 : decode cL_law 325 = .ok (.invokevirtual 42, 3) := by decide +kernel
theorem dL_law_328 : decode cL_law 328 = .ok (.aload_n 2, 1) := by decide +kernel
theorem dL_law_329 : decode cL_law 329 = .ok (.invokevirtual 45, 3) := by decide +kernel
theorem dL_law_332 : decode cL_law 332 = .ok (.if_icmp .eq 258, 3) := by decide +kernel
theorem dL_law_335 : decode cL_law 335 = .ok (.iconst 0, 1) := by decide +kernel
theorem dL_law_336 : decode cL_law 336 = .ok (.ireturn, 1) := by decide +kernel
theorem dL_law_337 : decode cL_law 337 = .ok (.aload_n 1, 1) := by decide +kernel
theorem dL_law_338 : decode cL_law 338 = .ok (.invokevirtual 46, 3) := by decide +kernel
theorem dL_law_341 : decode cL_law 341 = .ok (.aload_n 2, 1) := by decide +kernel
theorem dL_law_342 : decode cL_law 342 = .ok (.invokevirtual 49, 3) := by decide +kernel
theorem dL_law_345 : decode cL_law 345 = .ok (.if_icmp .eq 245, 3) := by decide +kernel
theorem dL_law_348 : decode cL_law 348 = .ok (.iconst 0, 1) := by decide +kernel
theorem dL_law_349 : decode cL_law 349 = .ok (.ireturn, 1) := by decide +kernel
theorem dL_law_350 : decode cL_law 350 = .ok (.aload_n 1, 1) := by decide +kernel
theorem dL_law_351 : decode cL_law 351 = .ok (.aload_n 0, 1) := by decide +kernel
theorem dL_law_352 : decode cL_law 352 = .ok (.iload_n 3, 1) := by decide +kernel
theorem dL_law_353 : decode cL_law 353 = .ok (.iconst 1, 1) := by decide +kernel
theorem dL_law_354 : decode cL_law 354 = .ok (.iadd, 1) := by decide +kernel
theorem dL_law_355 : decode cL_law 355 = .ok (.iaload, 1) := by decide +kernel
theorem dL_law_356 : decode cL_law 356 = .ok (.invokevirtual 50, 3) := by decide +kernel
theorem dL_law_359 : decode cL_law 359 = .ok (.aload_n 2, 1) := by decide +kernel
theorem dL_law_360 : decode cL_law 360 = .ok (.aload_n 0, 1) := by decide +kernel
theorem dL_law_361 : decode cL_law 361 = .ok (.iload_n 3, 1) := by decide +kernel
theorem dL_law_362 : decode cL_law 362 = .ok (.iconst 1, 1) := by decide +kernel
theorem dL_law_363 : decode cL_law 363 = .ok (.iadd, 1) := by decide +kernel
theorem dL_law_364 : decode cL_law 364 = .ok (.iaload, 1) := by decide +kernel
theorem dL_law_365 : decode cL_law 365 = .ok (.invokevirtual 53, 3) := by decide +kernel
theorem dL_law_368 : decode cL_law 368 = .ok (.if_icmp .eq 222, 3) := by decide +kernel
theorem dL_law_371 : decode cL_law 371 = .ok (.iconst 0, 1) := by decide +kernel
theorem dL_law_372 : decode cL_law 372 = .ok (.ireturn, 1) := by decide +kernel
theorem dL_law_373 : decode cL_law 373 = .ok (.aload_n 1, 1) := by decide +kernel
theorem dL_law_374 : decode cL_law 374 = .ok (.aload_n 0, 1) := by decide +kernel
theorem dL_law_375 : decode cL_law 375 = .ok (.iload_n 3, 1) := by decide +kernel
theorem dL_law_376 : decode cL_law 376 = .ok (.iconst 1, 1) := by decide +kernel
theorem dL_law_377 : decode cL_law 377 = .ok (.iadd, 1) := by decide +kernel
theorem dL_law_378 : decode cL_law 378 = .ok (.iaload, 1) := by decide +kernel
theorem dL_law_379 : decode cL_law 379 = .ok (.invokevirtual 54, 3) := by decide +kernel
theorem dL_law_382 : decode cL_law 382 = .ok (.aload_n 2, 1) := by decide +kernel
theorem dL_law_383 : decode cL_law 383 = .ok (.aload_n 0, 1) := by decide +kernel
theorem dL_law_384 : decode cL_law 384 = .ok (.iload_n 3, 1) := by decide +kernel
theorem dL_law_385 : decode cL_law 385 = .ok (.iconst 1, 1) := by decide +kernel
theorem dL_law_386 : decode cL_law 386 = .ok (.iadd, 1) := by decide +kernel
theorem dL_law_387 : decode cL_law 387 = .ok (.iaload, 1) := by decide +kernel
theorem dL_law_388 : decode cL_law 388 = .ok (.invokevirtual 57, 3) := by decide +kernel
theorem dL_law_391 : decode cL_law 391 = .ok (.if_icmp .eq 199, 3) := by decide +kernel
theorem dL_law_394 : decode cL_law 394 = .ok (.iconst 0, 1) := by decide +kernel
theorem dL_law_395 : decode cL_law 395 = .ok (.ireturn, 1) := by decide +kernel
theorem dL_law_396 : decode cL_law 396 = .ok (.aload_n 1, 1) := by decide +kernel
theorem dL_law_397 : decode cL_law 397 = .ok (.aload_n 0, 1) := by decide +kernel
theorem dL_law_398 : decode cL_law 398 = .ok (.iload_n 3, 1) := by decide +kernel
theorem dL_law_399 : decode cL_law 399 = .ok (.iconst 1, 1) := by decide +kernel
theorem dL_law_400 : decode cL_law 400 = .ok (.iadd, 1) := by decide +kernel
theorem dL_law_401 : decode cL_law 401 = .ok (.iaload, 1) := by decide +kernel
theorem dL_law_402 : decode cL_law 402 = .ok (.invokevirtual 58, 3) := by decide +kernel
theorem dL_law_405 : decode cL_law 405 = .ok (.aload_n 2, 1) := by decide +kernel
theorem dL_law_406 : decode cL_law 406 = .ok (.aload_n 0, 1) := by decide +kernel
theorem dL_law_407 : decode cL_law 407 = .ok (.iload_n 3, 1) := by decide +kernel
theorem dL_law_408 : decode cL_law 408 = .ok (.iconst 1, 1) := by decide +kernel
theorem dL_law_409 : decode cL_law 409 = .ok (.iadd, 1) := by decide +kernel
theorem dL_law_410 : decode cL_law 410 = .ok (.iaload, 1) := by decide +kernel
theorem dL_law_411 : decode cL_law 411 = .ok (.invokevirtual 61, 3) := by decide +kernel
theorem dL_law_414 : decode cL_law 414 = .ok (.if_icmp .eq 176, 3) := by decide +kernel
theorem dL_law_417 : decode cL_law 417 = .ok (.iconst 0, 1) := by decide +kernel
theorem dL_law_418 : decode cL_law 418 = .ok (.ireturn, 1) := by decide +kernel
theorem dL_law_419 : decode cL_law 419 = .ok (.aload_n 1, 1) := by decide +kernel
theorem dL_law_420 : decode cL_law 420 = .ok (.aload_n 0, 1) := by decide +kernel
theorem dL_law_421 : decode cL_law 421 = .ok (.iload_n 3, 1) := by decide +kernel
theorem dL_law_422 : decode cL_law 422 = .ok (.iconst 1, 1) := by decide +kernel
theorem dL_law_423 : decode cL_law 423 = .ok (.iadd, 1) := by decide +kernel
theorem dL_law_424 : decode cL_law 424 = .ok (.iaload, 1) := by decide +kernel
theorem dL_law_425 : decode cL_law 425 = .ok (.aload_n 0, 1) := by decide +kernel
theorem dL_law_426 : decode cL_law 426 = .ok (.iload_n 3, 1) := by decide +kernel
theorem dL_law_427 : decode cL_law 427 = .ok (.iconst 2, 1) := by decide +kernel
theorem dL_law_428 : decode cL_law 428 = .ok (.iadd, 1) := by decide +kernel
theorem dL_law_429 : decode cL_law 429 = .ok (.iaload, 1) := by decide +kernel
theorem dL_law_430 : decode cL_law 430 = .ok (.invokevirtual 62, 3) := by decide +kernel
theorem dL_law_433 : decode cL_law 433 = .ok (.aload_n 2, 1) := by decide +kernel
theorem dL_law_434 : decode cL_law 434 = .ok (.aload_n 0, 1) := by decide +kernel
theorem dL_law_435 : decode cL_law 435 = .ok (.iload_n 3, 1) := by decide +kernel
theorem dL_law_436 : decode cL_law 436 = .ok (.iconst 1, 1) := by decide +kernel
theorem dL_law_437 : decode cL_law 437 = .ok (.iadd, 1) := by decide +kernel
theorem dL_law_438 : decode cL_law 438 = .ok (.iaload, 1) := by decide +kernel
theorem dL_law_439 : decode cL_law 439 = .ok (.aload_n 0, 1) := by decide +kernel
theorem dL_law_440 : decode cL_law 440 = .ok (.iload_n 3, 1) := by decide +kernel
theorem dL_law_441 : decode cL_law 441 = .ok (.iconst 2, 1) := by decide +kernel
theorem dL_law_442 : decode cL_law 442 = .ok (.iadd, 1) := by decide +kernel
theorem dL_law_443 : decode cL_law 443 = .ok (.iaload, 1) := by decide +kernel
theorem dL_law_444 : decode cL_law 444 = .ok (.invokevirtual 65, 3) := by decide +kernel
theorem dL_law_447 : decode cL_law 447 = .ok (.if_icmp .eq 143, 3) := by decide +kernel
theorem dL_law_450 : decode cL_law 450 = .ok (.iconst 0, 1) := by decide +kernel
theorem dL_law_451 : decode cL_law 451 = .ok (.ireturn, 1) := by decide +kernel
theorem dL_law_452 : decode cL_law 452 = .ok (.aload_n 1, 1) := by decide +kernel
theorem dL_law_453 : decode cL_law 453 = .ok (.aload_n 0, 1) := by decide +kernel
theorem dL_law_454 : decode cL_law 454 = .ok (.iload_n 3, 1) := by decide +kernel
theorem dL_law_455 : decode cL_law 455 = .ok (.iconst 1, 1) := by decide +kernel
theorem dL_law_456 : decode cL_law 456 = .ok (.iadd, 1) := by decide +kernel
theorem dL_law_457 : decode cL_law 457 = .ok (.iaload, 1) := by decide +kernel
theorem dL_law_458 : decode cL_law 458 = .ok (.invokevirtual 66, 3) := by decide +kernel
theorem dL_law_461 : decode cL_law 461 = .ok (.aload_n 2, 1) := by decide +kernel
theorem dL_law_462 : decode cL_law 462 = .ok (.aload_n 0, 1) := by decide +kernel
theorem dL_law_463 : decode cL_law 463 = .ok (.iload_n 3, 1) := by decide +kernel
theorem dL_law_464 : decode cL_law 464 = .ok (.iconst 1, 1) := by decide +kernel
theorem dL_law_465 : decode cL_law 465 = .ok (.iadd, 1) := by decide +kernel
theorem dL_law_466 : decode cL_law 466 = .ok (.iaload, 1) := by decide +kernel
theorem dL_law_467 : decode cL_law 467 = .ok (.invokevirtual 69, 3) := by decide +kernel
theorem dL_law_470 : decode cL_law 470 = .ok (.if_icmp .eq 120, 3) := by decide +kernel
theorem dL_law_473 : decode cL_law 473 = .ok (.iconst 0, 1) := by decide +kernel
theorem dL_law_474 : decode cL_law 474 = .ok (.ireturn, 1) := by decide +kernel
theorem dL_law_475 : decode cL_law 475 = .ok (.aload_n 1, 1) := by decide +kernel
theorem dL_law_476 : decode cL_law 476 = .ok (.invokevirtual 70, 3) := by decide +kernel
theorem dL_law_479 : decode cL_law 479 = .ok (.aload_n 2, 1) := by decide +kernel
theorem dL_law_480 : decode cL_law 480 = .ok (.invokevirtual 73, 3) := by decide +kernel
theorem dL_law_483 : decode cL_law 483 = .ok (.if_icmp .eq 107, 3) := by decide +kernel
theorem dL_law_486 : decode cL_law 486 = .ok (.iconst 0, 1) := by decide +kernel
theorem dL_law_487 : decode cL_law 487 = .ok (.ireturn, 1) := by decide +kernel
theorem dL_law_488 : decode cL_law 488 = .ok (.aload_n 1, 1) := by decide +kernel
theorem dL_law_489 : decode cL_law 489 = .ok (.aload_n 0, 1) := by decide +kernel
theorem dL_law_490 : decode cL_law 490 = .ok (.iload_n 3, 1) := by decide +kernel
theorem dL_law_491 : decode cL_law 491 = .ok (.iconst 1, 1) := by decide +kernel
theorem dL_law_492 : decode cL_law 492 = .ok (.iadd, 1) := by decide +kernel
theorem dL_law_493 : decode cL_law 493 = .ok (.iaload, 1) := by decide +kernel
theorem dL_law_494 : decode cL_law 494 = .ok (.aload_n 0, 1) := by decide +kernel
theorem dL_law_495 : decode cL_law 495 = .ok (.iload_n 3, 1) := by decide +kernel
theorem dL_law_496 : decode cL_law 496 = .ok (.iconst 2, 1) := by decide +kernel
theorem dL_law_497 : decode cL_law 497 = .ok (.iadd, 1) := by decide +kernel
theorem dL_law_498 : decode cL_law 498 = .ok (.iaload, 1) := by decide +kernel
theorem dL_law_499 : decode cL_law 499 = .ok (.invokevirtual 74, 3) := by decide +kernel
theorem dL_law_502 : decode cL_law 502 = .ok (.aload_n 2, 1) := by decide +kernel
theorem dL_law_503 : decode cL_law 503 = .ok (.aload_n 0, 1) := by decide +kernel
theorem dL_law_504 : decode cL_law 504 = .ok (.iload_n 3, 1) := by decide +kernel
theorem dL_law_505 : decode cL_law 505 = .ok (.iconst 1, 1) := by decide +kernel
theorem dL_law_506 : decode cL_law 506 = .ok (.iadd, 1) := by decide +kernel
theorem dL_law_507 : decode cL_law 507 = .ok (.iaload, 1) := by decide +kernel
theorem dL_law_508 : decode cL_law 508 = .ok (.aload_n 0, 1) := by decide +kernel
theorem dL_law_509 : decode cL_law 509 = .ok (.iload_n 3, 1) := by decide +kernel
theorem dL_law_510 : decode cL_law 510 = .ok (.iconst 2, 1) := by decide +kernel
theorem dL_law_511 : decode cL_law 511 = .ok (.iadd, 1) := by decide +kernel
theorem dL_law_512 : decode cL_law 512 = .ok (.iaload, 1) := by decide +kernel
theorem dL_law_513 : decode cL_law 513 = .ok (.invokevirtual 77, 3) := by decide +kernel
theorem dL_law_516 : decode cL_law 516 = .ok (.if_icmp .eq 74, 3) := by decide +kernel
theorem dL_law_519 : decode cL_law 519 = .ok (.iconst 0, 1) := by decide +kernel
theorem dL_law_520 : decode cL_law 520 = .ok (.ireturn, 1) := by decide +kernel
theorem dL_law_521 : decode cL_law 521 = .ok (.aload_n 1, 1) := by decide +kernel
theorem dL_law_522 : decode cL_law 522 = .ok (.aload_n 0, 1) := by decide +kernel
theorem dL_law_523 : decode cL_law 523 = .ok (.iload_n 3, 1) := by decide +kernel
theorem dL_law_524 : decode cL_law 524 = .ok (.iconst 1, 1) := by decide +kernel
theorem dL_law_525 : decode cL_law 525 = .ok (.iadd, 1) := by decide +kernel
theorem dL_law_526 : decode cL_law 526 = .ok (.iaload, 1) := by decide +kernel
theorem dL_law_527 : decode cL_law 527 = .ok (.aload_n 0, 1) := by decide +kernel
theorem dL_law_528 : decode cL_law 528 = .ok (.iload_n 3, 1) := by decide +kernel
theorem dL_law_529 : decode cL_law 529 = .ok (.iconst 2, 1) := by decide +kernel
theorem dL_law_530 : decode cL_law 530 = .ok (.iadd, 1) := by decide +kernel
theorem dL_law_531 : decode cL_law 531 = .ok (.iaload, 1) := by decide +kernel
theorem dL_law_532 : decode cL_law 532 = .ok (.invokevirtual 78, 3) := by decide +kernel
theorem dL_law_535 : decode cL_law 535 = .ok (.aload_n 2, 1) := by decide +kernel
theorem dL_law_536 : decode cL_law 536 = .ok (.aload_n 0, 1) := by decide +kernel
theorem dL_law_537 : decode cL_law 537 = .ok (.iload_n 3, 1) := by decide +kernel
theorem dL_law_538 : decode cL_law 538 = .ok (.iconst 1, 1) := by decide +kernel
theorem dL_law_539 : decode cL_law 539 = .ok (.iadd, 1) := by decide +kernel
theorem dL_law_540 : decode cL_law 540 = .ok (.iaload, 1) := by decide +kernel
theorem dL_law_541 : decode cL_law 541 = .ok (.aload_n 0, 1) := by decide +kernel
theorem dL_law_542 : decode cL_law 542 = .ok (.iload_n 3, 1) := by decide +kernel
theorem dL_law_543 : decode cL_law 543 = .ok (.iconst 2, 1) := by decide +kernel
theorem dL_law_544 : decode cL_law 544 = .ok (.iadd, 1) := by decide +kernel
theorem dL_law_545 : decode cL_law 545 = .ok (.iaload, 1) := by decide +kernel
theorem dL_law_546 : decode cL_law 546 = .ok (.invokevirtual 81, 3) := by decide +kernel
theorem dL_law_549 : decode cL_law 549 = .ok (.if_icmp .eq 41, 3) := by decide +kernel
theorem dL_law_552 : decode cL_law 552 = .ok (.iconst 0, 1) := by decide +kernel
theorem dL_law_553 : decode cL_law 553 = .ok (.ireturn, 1) := by decide +kernel
theorem dL_law_554 : decode cL_law 554 = .ok (.aload_n 1, 1) := by decide +kernel
theorem dL_law_555 : decode cL_law 555 = .ok (.invokevirtual 82, 3) := by decide +kernel
theorem dL_law_558 : decode cL_law 558 = .ok (.aload_n 2, 1) := by decide +kernel
theorem dL_law_559 : decode cL_law 559 = .ok (.invokevirtual 85, 3) := by decide +kernel
theorem dL_law_562 : decode cL_law 562 = .ok (.if_icmp .eq 28, 3) := by decide +kernel
theorem dL_law_565 : decode cL_law 565 = .ok (.iconst 0, 1) := by decide +kernel
theorem dL_law_566 : decode cL_law 566 = .ok (.ireturn, 1) := by decide +kernel
theorem dL_law_567 : decode cL_law 567 = .ok (.aload_n 1, 1) := by decide +kernel
theorem dL_law_568 : decode cL_law 568 = .ok (.aload_n 0, 1) := by decide +kernel
theorem dL_law_569 : decode cL_law 569 = .ok (.iload_n 3, 1) := by decide +kernel
theorem dL_law_570 : decode cL_law 570 = .ok (.iconst 1, 1) := by decide +kernel
theorem dL_law_571 : decode cL_law 571 = .ok (.iadd, 1) := by decide +kernel
theorem dL_law_572 : decode cL_law 572 = .ok (.iaload, 1) := by decide +kernel
theorem dL_law_573 : decode cL_law 573 = .ok (.invokevirtual 86, 3) := by decide +kernel
theorem dL_law_576 : decode cL_law 576 = .ok (.aload_n 2, 1) := by decide +kernel
theorem dL_law_577 : decode cL_law 577 = .ok (.aload_n 0, 1) := by decide +kernel
theorem dL_law_578 : decode cL_law 578 = .ok (.iload_n 3, 1) := by decide +kernel
theorem dL_law_579 : decode cL_law 579 = .ok (.iconst 1, 1) := by decide +kernel
theorem dL_law_580 : decode cL_law 580 = .ok (.iadd, 1) := by decide +kernel
theorem dL_law_581 : decode cL_law 581 = .ok (.iaload, 1) := by decide +kernel
theorem dL_law_582 : decode cL_law 582 = .ok (.invokevirtual 89, 3) := by decide +kernel
theorem dL_law_585 : decode cL_law 585 = .ok (.if_icmp .eq 5, 3) := by decide +kernel
theorem dL_law_588 : decode cL_law 588 = .ok (.iconst 0, 1) := by decide +kernel
theorem dL_law_589 : decode cL_law 589 = .ok (.ireturn, 1) := by decide +kernel
theorem dL_law_590 : decode cL_law 590 = .ok (.iinc 3 6, 3) := by decide +kernel
theorem dL_law_593 : decode cL_law 593 = .ok (.goto (-575), 3) := by decide +kernel
theorem dL_law_596 : decode cL_law 596 = .ok (.iconst 1, 1) := by decide +kernel
theorem dL_law_597 : decode cL_law 597 = .ok (.ireturn, 1) := by decide +kernel
end
section
/-! THE SMALL LOGIC: a machine over whole numbers. A value is a number or a reference to a cell by its place; a cell is an object, a row of numbers or a row of references; numbers lie in one memory g : place → offset → number. -/
abbrev vx_V : Type := Int ⊕ Option Nat
abbrev vx_M : Type := Nat → Int → Int
abbrev vx_H : Type := (Nat × List (Option (Option Nat))) ⊕ ((Bool × Nat) ⊕ List (Option Nat))
abbrev vx_Me : Type := MethodName × ByteArray × Nat × Option FieldType
abbrev vx_Cs : Type := ClassId × ClassId × ClassId
abbrev vx_P : Type := Option Int → List vx_H → vx_M → Prop
def vx_in (z : Int) : Prop := -2147483648 ≤ z ∧ z ≤ 2147483647
def vx_v (ad : Nat → Nat) : vx_V → Value
  | .inl z => .int (Int32.ofInt z)
  | .inr r => va_rf (r.map ad)
def vx_f (ad : Nat → Nat) (g : vx_M) (k j : Nat) : Option (Option Nat) → Value
  | none => .int (Int32.ofInt (g k j))
  | some r => va_rf (r.map ad)
def vx_fs (ad : Nat → Nat) (g : vx_M) (k : Nat) (fs : List (Option (Option Nat))) : List Value := fs.mapIdx (fun j f => vx_f ad g k j f)
def vx_e (cs : vx_Cs) (ad : Nat → Nat) (g : vx_M) (k : Nat) : vx_H → va_E
  | .inl (ci, fs) => .inr (ci, vx_fs ad g k fs)
  | .inr (.inl (b, n)) => .inl (if b = true then cs.2.1 else cs.1, n, .inl (fun j : Nat => Int32.ofInt (g k j)))
  | .inr (.inr rs) => .inl (cs.2.2, rs.length, .inr (.inr (.inr (.inr (fun j : Nat => (rs.getD j none).map ad)))))
def vx_w (cs : vx_Cs) (ad : Nat → Nat) (sh : List vx_H) (g : vx_M) : va_W := sh.mapIdx (fun k h => (ad k, vx_e cs ad g k h))
def vx_t (cs : vx_Cs) : List (ClassId × FieldType) := [(cs.1, .int), (cs.2.1, .boolean), (cs.2.2, .array .int)]
def vx_l (ad : Nat → Nat) (L : List (Option vx_V)) : List (Nat × Value) := (List.range L.length).filterMap (fun i => (L[i]?).join.map (fun v => (i, vx_v ad v)))
def vx_gR (g : vx_M) : Prop := ∀ k j, vx_in (g k j)
def vx_sR (st : List vx_V) : Prop := ∀ z, Sum.inl z ∈ st → vx_in z
def vx_LR (L : List (Option vx_V)) : Prop := ∀ z, some (Sum.inl z) ∈ L → vx_in z
/-- the memory with one number written -/
def vx_u (g : vx_M) (k : Nat) (j v : Int) : vx_M := fun a b => if a = k then (if b = j then v else g a b) else g a b
/-- the memory with a stretch copied -/
def vx_cp (g : vx_M) (k0 k1 : Nat) (sp dp n : Int) : vx_M := fun a b => if a = k1 then (if dp ≤ b ∧ b < dp + n then g k0 (sp + (b - dp)) else g a b) else g a b
/-- the memory with noughts from a place on -/
def vx_z (g : vx_M) (k : Nat) : vx_M := fun a b => if k ≤ a then 0 else g a b
theorem vx_toInt {z : Int} (h : vx_in z) : (Int32.ofInt z).toInt = z := Int32.toInt_ofInt_of_le (by unfold vx_in at h; omega) (by unfold vx_in at h; omega)
theorem vx_lt {x y : Int} (hx : vx_in x) (hy : vx_in y) : Int32.ofInt x < Int32.ofInt y ↔ x < y := by rw [Int32.lt_iff_toInt_lt, vx_toInt hx, vx_toInt hy]
theorem vx_le {x y : Int} (hx : vx_in x) (hy : vx_in y) : Int32.ofInt x ≤ Int32.ofInt y ↔ x ≤ y := by rw [Int32.le_iff_toInt_le, vx_toInt hx, vx_toInt hy]
theorem vx_eq {x y : Int} (hx : vx_in x) (hy : vx_in y) : Int32.ofInt x = Int32.ofInt y ↔ x = y := ⟨fun h => by rw [← vx_toInt hx, h, vx_toInt hy], fun h => by rw [h]⟩
theorem vx_in0 : vx_in 0 := by unfold vx_in; omega
theorem vx_nat {z : Int} (h : vx_in z) : (Int32.ofInt z).toNatClampNeg = z.toNat := by
  show (Int32.ofInt z).toInt.toNat = z.toNat
  rw [vx_toInt h]
theorem vx_vp {z : Int} {n : Nat} (h : vx_in z) (h0 : 0 ≤ z) (h1 : z < n) : vp_in (Int32.ofInt z) n := by
  rw [vp_in_iff, vx_toInt h]; exact ⟨h0, h1⟩
theorem vx_divE {x y : Int} (hx : vx_in x) (hy : vx_in y) (h0 : 0 ≤ x) (h1 : 0 < y) : Int32.ofInt (x / y) = Int32.ofInt x / Int32.ofInt y := by
  unfold vx_in at hx hy
  rw [← Int.tdiv_eq_ediv_of_nonneg h0]
  exact Int32.ofInt_tdiv hx.1 hx.2 hy.1 hy.2
theorem vx_remE {x y : Int} (hx : vx_in x) (hy : vx_in y) (h0 : 0 ≤ x) (h1 : 0 < y) : Int32.ofInt (x % y) = Int32.ofInt x - Int32.ofInt x / Int32.ofInt y * Int32.ofInt y := by
  rw [← vx_divE hx hy h0 h1, ← Int32.ofInt_mul, ← Int32.ofInt_sub, Int.emod_def, Int.mul_comm]
theorem vx_cat (ad : Nat → Nat) (v : vx_V) : (vx_v ad v).category = 1 := by
  rcases v with z | r
  · rfl
  · cases r <;> rfl
theorem vx_l_mem {ad : Nat → Nat} {L : List (Option vx_V)} {q : Nat × Value} : q ∈ vx_l ad L ↔ ∃ v, L[q.1]? = some (some v) ∧ q.2 = vx_v ad v := by
  unfold vx_l
  rw [List.mem_filterMap]
  constructor
  · rintro ⟨i, -, h⟩
    cases hL : L[i]? with
    | none => rw [hL] at h; cases h
    | some o =>
      rw [hL] at h
      cases o with
      | none => cases h
      | some v => cases h; exact ⟨v, hL, rfl⟩
  · rintro ⟨v, h1, h2⟩
    refine ⟨q.1, List.mem_range.mpr (List.getElem?_eq_some_iff.mp h1).1, ?_⟩
    rw [h1]
    obtain ⟨a, b⟩ := q
    cases h2
    rfl
theorem vx_at {ls : Array Slot} {nL : Nat} {ad : Nat → Nat} {L : List (Option vx_V)} {i : Nat} {v : vx_V} (h : lv_has ls nL (vx_l ad L)) (hv : L[i]? = some (some v)) : ls[i]? = some (.val (vx_v ad v)) := h.2.2 (i, vx_v ad v) (vx_l_mem.mpr ⟨v, hv, rfl⟩)
theorem vx_st {ls : Array Slot} {nL : Nat} {ad : Nat → Nat} {L L' : List (Option vx_V)} {i : Nat} {v : vx_V} (hL' : L.set i (some v) = L') (h : lv_has ls nL ((i, vx_v ad v) :: (vx_l ad L).filter (fun q => !(q.1 == i) && !(q.1 + 1 == i && q.2.category == 2)))) : lv_has ls nL (vx_l ad L') := by
  subst hL'
  refine ⟨h.1, h.2.1, fun q hq => ?_⟩
  obtain ⟨w, h1, h2⟩ := vx_l_mem.mp hq
  by_cases hi : q.1 = i
  · have hlt : i < L.length := by
      have := (List.getElem?_eq_some_iff.mp h1).1
      rw [List.length_set] at this
      omega
    rw [hi, List.getElem?_set_self hlt] at h1
    cases h1
    have := h.2.2 (i, vx_v ad v) List.mem_cons_self
    rw [hi, h2]
    exact this
  · rw [List.getElem?_set_ne (Ne.symm hi)] at h1
    refine h.2.2 q (List.mem_cons_of_mem _ (List.mem_filter.mpr ⟨vx_l_mem.mpr ⟨w, h1, h2⟩, ?_⟩))
    have hc : q.2.category = 1 := by rw [h2]; exact vx_cat ad w
    simp [hi, hc]
theorem vx_w_get {cs : vx_Cs} {ad : Nat → Nat} {sh : List vx_H} {g : vx_M} {k : Nat} {h : vx_H} (e : sh[k]? = some h) : (vx_w cs ad sh g)[k]? = some (ad k, vx_e cs ad g k h) := by
  unfold vx_w
  rw [List.getElem?_mapIdx, e]
  rfl
theorem vx_e_congr {cs : vx_Cs} {ad : Nat → Nat} {g g' : vx_M} {k : Nat} (h : vx_H) (e : ∀ b, g' k b = g k b) : vx_e cs ad g' k h = vx_e cs ad g k h := by
  have e2 : g' k = g k := funext e
  rcases h with ⟨ci, fs⟩ | ⟨b, n⟩ | rs
  · simp only [vx_e, vx_fs]
    congr 3
    funext j f
    cases f <;> simp only [vx_f, e]
  · simp only [vx_e, e]
  · rfl
theorem vx_w_set {cs : vx_Cs} {ad : Nat → Nat} {sh : List vx_H} {g g' : vx_M} {k : Nat} {h : vx_H} {e' : va_E} (e : sh[k]? = some h) (h2 : ∀ a b, a ≠ k → g' a b = g a b) (h3 : vx_e cs ad g' k h = e') : (vx_w cs ad sh g).set k (ad k, e') = vx_w cs ad sh g' := by
  apply List.ext_getElem?
  intro i
  have hlt : k < sh.length := (List.getElem?_eq_some_iff.mp e).1
  by_cases hi : i = k
  · subst hi
    rw [List.getElem?_set_self (by unfold vx_w; rw [List.length_mapIdx]; exact hlt), vx_w_get e, h3]
  · rw [List.getElem?_set_ne (Ne.symm hi)]
    unfold vx_w
    rw [List.getElem?_mapIdx, List.getElem?_mapIdx]
    cases sh[i]? with
    | none => rfl
    | some x =>
      show some (ad i, vx_e cs ad g i x) = some (ad i, vx_e cs ad g' i x)
      rw [vx_e_congr (g := g) (g' := g') x (fun b => h2 i b hi)]
theorem vx_w_shape {cs : vx_Cs} {ad : Nat → Nat} {sh : List vx_H} {g : vx_M} {k : Nat} {h h' : vx_H} {e' : va_E} (e : sh[k]? = some h) (h3 : vx_e cs ad g k h' = e') : (vx_w cs ad sh g).set k (ad k, e') = vx_w cs ad (sh.set k h') g := by
  apply List.ext_getElem?
  intro i
  have hlt : k < sh.length := (List.getElem?_eq_some_iff.mp e).1
  by_cases hi : i = k
  · subst hi
    rw [List.getElem?_set_self (by unfold vx_w; rw [List.length_mapIdx]; exact hlt), vx_w_get (List.getElem?_set_self hlt), h3]
  · rw [List.getElem?_set_ne (Ne.symm hi)]
    unfold vx_w
    rw [List.getElem?_mapIdx, List.getElem?_mapIdx, List.getElem?_set_ne (Ne.symm hi)]
theorem vx_fs_get {ad : Nat → Nat} {g : vx_M} {k j : Nat} {fs : List (Option (Option Nat))} {f : Option (Option Nat)} (h : fs[j]? = some f) : (vx_fs ad g k fs)[j]? = some (vx_f ad g k j f) := by
  unfold vx_fs
  rw [List.getElem?_mapIdx, h]
  rfl
theorem vx_fs_put {ad : Nat → Nat} {g : vx_M} {k j : Nat} {fs : List (Option (Option Nat))} {v : Int} (h : fs[j]? = some none) : vx_fs ad (vx_u g k j v) k fs = (vx_fs ad g k fs).set j (.int (Int32.ofInt v)) := by
  apply List.ext_getElem?
  intro i
  have hlt : j < fs.length := (List.getElem?_eq_some_iff.mp h).1
  by_cases hi : i = j
  · subst hi
    rw [List.getElem?_set_self (by unfold vx_fs; rw [List.length_mapIdx]; exact hlt), vx_fs_get h]
    simp [vx_f, vx_u]
  · rw [List.getElem?_set_ne (Ne.symm hi)]
    unfold vx_fs
    rw [List.getElem?_mapIdx, List.getElem?_mapIdx]
    cases fs[i]? with
    | none => rfl
    | some x =>
      have hne : ¬ ((i : Int) = (j : Int)) := by omega
      cases x <;> simp [vx_f, vx_u, hne]
theorem vx_fs_ref {ad : Nat → Nat} {g : vx_M} {k j : Nat} {fs : List (Option (Option Nat))} {r : Option Nat} {f : Option (Option Nat)} (h : fs[j]? = some f) : vx_fs ad g k (fs.set j (some r)) = (vx_fs ad g k fs).set j (va_rf (r.map ad)) := by
  apply List.ext_getElem?
  intro i
  have hlt : j < fs.length := (List.getElem?_eq_some_iff.mp h).1
  by_cases hi : i = j
  · subst hi
    rw [List.getElem?_set_self (by unfold vx_fs; rw [List.length_mapIdx]; exact hlt), vx_fs_get (List.getElem?_set_self hlt)]
    rfl
  · rw [List.getElem?_set_ne (Ne.symm hi)]
    unfold vx_fs
    rw [List.getElem?_mapIdx, List.getElem?_mapIdx, List.getElem?_set_ne (Ne.symm hi)]
theorem vx_arr_put {g : vx_M} {k : Nat} {z v : Int} (h0 : 0 ≤ z) : upd (fun j : Nat => Int32.ofInt (g k j)) z.toNat (Int32.ofInt v) = fun j : Nat => Int32.ofInt (vx_u g k z v k j) := by
  funext j
  by_cases hj : j = z.toNat
  · subst hj
    have e : ((z.toNat : Nat) : Int) = z := Int.toNat_of_nonneg h0
    simp [pk_us, vx_u, e]
  · rw [pk_un hj]
    have e : ¬ ((j : Int) = z) := by omega
    simp [vx_u, e]
theorem vx_gR_u {g : vx_M} {k : Nat} {j v : Int} (h : vx_gR g) (hv : vx_in v) : vx_gR (vx_u g k j v) := by
  intro a b
  unfold vx_u
  split
  · split
    · exact hv
    · exact h a b
  · exact h a b
theorem vx_gR_cp {g : vx_M} {k0 k1 : Nat} {sp dp n : Int} (h : vx_gR g) : vx_gR (vx_cp g k0 k1 sp dp n) := by
  intro a b
  unfold vx_cp
  split
  · split
    · exact h _ _
    · exact h a b
  · exact h a b
theorem vx_gR_z {g : vx_M} {k : Nat} (h : vx_gR g) : vx_gR (vx_z g k) := by
  intro a b
  unfold vx_z
  split
  · exact vx_in0
  · exact h a b
theorem vx_sR_i {st : List vx_V} {z : Int} (h : vx_in z) (hs : vx_sR st) : vx_sR (.inl z :: st) := by
  intro w hw
  rcases List.mem_cons.mp hw with h1 | h1
  · cases h1; exact h
  · exact hs w h1
theorem vx_sR_r {st : List vx_V} {r : Option Nat} (hs : vx_sR st) : vx_sR (.inr r :: st) := by
  intro w hw
  rcases List.mem_cons.mp hw with h1 | h1
  · cases h1
  · exact hs w h1
theorem vx_sR_t {st : List vx_V} {v : vx_V} (hs : vx_sR (v :: st)) : vx_sR st := fun w hw => hs w (List.mem_cons_of_mem _ hw)
theorem vx_sR_h {st : List vx_V} {z : Int} (hs : vx_sR (.inl z :: st)) : vx_in z := hs z List.mem_cons_self
theorem vx_sR_c {st : List vx_V} {v : vx_V} (hv : ∀ z, v = .inl z → vx_in z) (hs : vx_sR st) : vx_sR (v :: st) := by
  intro w hw
  rcases List.mem_cons.mp hw with h1 | h1
  · exact hv w h1.symm
  · exact hs w h1
theorem vx_LR_at {L : List (Option vx_V)} {i : Nat} {z : Int} (h : vx_LR L) (hv : L[i]? = some (some (.inl z))) : vx_in z := h z (List.mem_of_getElem? hv)
theorem vx_LR_set {L L' : List (Option vx_V)} {i : Nat} {v : vx_V} (e : L.set i (some v) = L') (h : vx_LR L) (hv : ∀ z, v = .inl z → vx_in z) : vx_LR L' := by
  subst e
  intro z hz
  rcases List.mem_or_eq_of_mem_set hz with h1 | h1
  · exact h z h1
  · exact hv z (Option.some.inj h1).symm
/-- the tables' words that a call may carry on -/
def vx_tb : List Cond := lw_tbl.filter goodWord
theorem vx_tb_in {w : Cond} (i : Nat) (h : lw_tbl[i]? = some w) (hg : goodWord w = true) : w ∈ vx_tb := List.mem_filter.mpr ⟨List.mem_of_getElem? h, hg⟩
/-- the two words that calls don't carry on by themselves -/
def vx_N (U : State) : Prop := va_Nw (.methodLinkNest "PeopleTower" 18 yX1_init "PeopleTower") U ∧ (Cond.arrayOver (.array .int)).before #[] U = true
theorem vx_N.same {u U : State} (h : u.vm = U.vm) (hz : vx_N u) : vx_N U := ⟨va_Nw.same rfl h hz.1, by
  have h2 := hz.2
  unfold Cond.before Cond.holds at h2 ⊢
  simp only [Cond.value] at h2 ⊢
  rw [← h]
  exact h2⟩
theorem vx_N.warm {s U : State} (h : s.WarmedH U.vm) (hz : vx_N s) : vx_N U := ⟨va_Nw.warmM h hz.1, by
  have e := Cond.arrayOver_setVmC (args := #[]) h.alike (.array .int)
  have h2 := hz.2
  rw [← e] at h2
  exact h2⟩
/-! the judgement -/
/-- what stands through a whole method -/
def vx_C (M : vx_Me) (Na : Nat → Prop) (P : vx_P) (p : Program) (s : State) (m : MethodId) (args : Array Value) (meth : Method) (c : Code) (D : va_G) (cs : vx_Cs) (ad0 : Nat → Nat) (A : Nat → Prop) (Qc : Array Value → State → Outcome → State → Prop) : Prop :=
  p.tables.exec = Jvm.exec ∧ c.code = M.2.1 ∧ meth.sig.returnType = M.2.2.2 ∧ c.maxLocals = M.2.2.1 ∧ s.vm.findClass M.1.cls = some m.cls ∧ (∀ w ∈ vx_tb, w.before args s = true) ∧ meth.locks = false ∧ meth.name = M.1.name ∧ (va_K D vwCl (vx_t cs) s ∧ vx_N s) ∧ (∀ q, s.heap.size ≤ q → A q) ∧
  (∀ (r : Option Int) (sh : List vx_H) (g : vx_M) (ad : Nat → Nat) (t : State), P r sh g → vx_gR g → (∀ z, r = some z → vx_in z) → (∀ k, Na k → ad k = ad0 k) → va_P D vwCl (vx_w cs ad sh g) t.heap → va_K D vwCl (vx_t cs) t → va_D A (vx_w cs ad sh g) → va_F A s t → Qc args s (.returned (r.map fun z => Value.int (Int32.ofInt z))) t)
/-- what stands at an instruction -/
def vx_D (M : vx_Me) (Na : Nat → Prop) (s : State) (D : va_G) (cs : vx_Cs) (ad0 : Nat → Nat) (A : Nat → Prop) (sh : List vx_H) (g : vx_M) (L : List (Option vx_V)) (st : List vx_V) (H : Heap) (locs : List Loc) (ad : Nat → Nat) (ls : Array Slot) : Prop :=
  va_P D vwCl (vx_w cs ad sh g) H ∧ va_D A (vx_w cs ad sh g) ∧ va_S A s.heap H locs ∧ lv_has ls M.2.2.1 (vx_l ad L) ∧ vx_LR L ∧ vx_sR st ∧ vx_gR g ∧ (∀ k, Na k → ad k = ad0 k)
/-- from this instruction the method M comes to its end, with P -/
def vJ (l : Launch) (M : vx_Me) (R : Room) (Na : Nat → Prop) (P : vx_P) (mc ms kc ks : Nat) (sh : List vx_H) (g : vx_M) (pc : Nat) (L : List (Option vx_V)) (st : List vx_V) : Prop :=
  ∀ (p : Program) (e : Env) (s : State) (m : MethodId) (args : Array Value) (below : List Frame) (meth : Method) (c : Code) (D : va_G) (cs : vx_Cs) (ad0 : Nat → Nat) (A : Nat → Prop) (Qc : Array Value → State → Outcome → State → Prop), vx_C M Na P p s m args meth c D cs ad0 A Qc →
  ∀ (H : Heap) (locs : List Loc) (ad : Nat → Nat) (ls : Array Slot), vx_D M Na s D cs ad0 A sh g L st H locs ad ls →
  W p l e R s m args below meth c H locs kc ks (MQ below Qc args s mc ms A) (F0 m pc ls (st.map (vx_v ad)))
/-- a method's contract: numbers as answers -/
def vx_Ci (l : Launch) (M : vx_Me) (R : Room) (Na : Nat → Prop) (mc ms : Nat) (av : List vx_V) (sh : List vx_H) (g : vx_M) (P : vx_P) : Prop :=
  vx_gR g → vx_sR av → ∀ (D : va_G) (cs : vx_Cs) (ad : Nat → Nat) (sz : Nat), Met l M.1 (Cond.code M.1 M.2.1 M.2.2.1 M.2.2.2 :: vx_tb) R
    (va_Pc (av.map (vx_v ad)) (fun U => U.heap.size = sz ∧ va_P D vwCl (vx_w cs ad sh g) U.heap ∧ (va_K D vwCl (vx_t cs) U ∧ vx_N U) ∧ va_D (fun _ => True) (vx_w cs ad sh g)))
    (va_Qi (fun (r : Int32) (u : Int × List vx_H × vx_M × (Nat → Nat)) => r = Int32.ofInt u.1 ∧ vx_in u.1 ∧ P (some u.1) u.2.1 u.2.2.1 ∧ vx_gR u.2.2.1 ∧ ∀ k, Na k → u.2.2.2 k = ad k)
      (fun (u : Int × List vx_H × vx_M × (Nat → Nat)) t => va_P D vwCl (vx_w cs u.2.2.2 u.2.1 u.2.2.1) t.heap ∧ va_K D vwCl (vx_t cs) t ∧ va_D (va_A (vx_w cs ad sh g) sz) (vx_w cs u.2.2.2 u.2.1 u.2.2.1)) (va_A (vx_w cs ad sh g) sz)) mc ms (va_A (vx_w cs ad sh g) sz)
/-- a method's contract: no answer -/
def vx_Cv (l : Launch) (M : vx_Me) (R : Room) (Na : Nat → Prop) (mc ms : Nat) (av : List vx_V) (sh : List vx_H) (g : vx_M) (P : vx_P) : Prop :=
  vx_gR g → vx_sR av → ∀ (D : va_G) (cs : vx_Cs) (ad : Nat → Nat) (sz : Nat), Met l M.1 (Cond.code M.1 M.2.1 M.2.2.1 M.2.2.2 :: vx_tb) R
    (va_Pc (av.map (vx_v ad)) (fun U => U.heap.size = sz ∧ va_P D vwCl (vx_w cs ad sh g) U.heap ∧ (va_K D vwCl (vx_t cs) U ∧ vx_N U) ∧ va_D (fun _ => True) (vx_w cs ad sh g)))
    (va_Qv (fun (u : List vx_H × vx_M × (Nat → Nat)) => P none u.1 u.2.1 ∧ vx_gR u.2.1 ∧ ∀ k, Na k → u.2.2 k = ad k)
      (fun (u : List vx_H × vx_M × (Nat → Nat)) t => va_P D vwCl (vx_w cs u.2.2 u.1 u.2.1) t.heap ∧ va_K D vwCl (vx_t cs) t ∧ va_D (va_A (vx_w cs ad sh g) sz) (vx_w cs u.2.2 u.1 u.2.1)) (va_A (vx_w cs ad sh g) sz)) mc ms (va_A (vx_w cs ad sh g) sz)
theorem vx_args (ad : Nat → Nat) : ∀ (av : List vx_V) (n i : Nat) (v : vx_V), av[i]? = some v → (n + i, vx_v ad v) ∈ lv_args n (av.map (vx_v ad))
  | [], n, i, v, h => by simp at h
  | a :: av, n, i, v, h => by
    have hc : (vx_v ad a).category = 1 := vx_cat ad a
    cases i with
    | zero =>
      rw [List.getElem?_cons_zero] at h
      cases h
      simp [lv_args]
    | succ i =>
      rw [List.getElem?_cons_succ] at h
      have h1 := vx_args ad av (n + 1) i v h
      rw [show n + (i + 1) = n + 1 + i by omega]
      simp only [List.map_cons, lv_args, hc]
      exact List.mem_cons_of_mem _ h1
theorem vx_sl (ad : Nat → Nat) : ∀ (av : List vx_V), (lg_sl (av.map (vx_v ad))).length = av.length
  | [] => rfl
  | a :: av => by
    have h1 := vx_sl ad av
    have hc : (vx_v ad a).category = 1 := vx_cat ad a
    unfold lg_sl at h1 ⊢
    rw [List.map_cons, List.flatMap_cons, List.length_append, h1, List.length_cons]
    simp [hc]
    omega
theorem vx_entry {ad : Nat → Nat} {av : List vx_V} {nL : Nat} {L : List (Option vx_V)} {ls : Array Slot} (hL : av.map some ++ List.replicate (nL - av.length) none = L) (h : lv_has ls nL (lv_args 0 (av.map (vx_v ad)))) : lv_has ls nL (vx_l ad L) := by
  subst hL
  refine ⟨h.1, h.2.1, fun q hq => ?_⟩
  obtain ⟨v, h1, h2⟩ := vx_l_mem.mp hq
  by_cases hi : q.1 < av.length
  · rw [List.getElem?_append_left (by rw [List.length_map]; exact hi), List.getElem?_map] at h1
    cases ha : av[q.1]? with
    | none => rw [ha] at h1; cases h1
    | some a =>
      rw [ha] at h1
      cases h1
      have := vx_args ad av 0 q.1 v ha
      rw [Nat.zero_add] at this
      rw [h2]
      exact h.2.2 (q.1, vx_v ad v) this
  · rw [List.getElem?_append_right (by rw [List.length_map]; omega)] at h1
    have := List.mem_of_getElem? h1
    have := (List.mem_replicate.mp this).2
    cases this
theorem vx_entryR {av : List vx_V} {nL : Nat} {L : List (Option vx_V)} (hL : av.map some ++ List.replicate (nL - av.length) none = L) (h : vx_sR av) : vx_LR L := by
  subst hL
  intro z hz
  rcases List.mem_append.mp hz with h1 | h1
  · obtain ⟨a, ha, hb⟩ := List.mem_map.mp h1
    cases hb
    exact h z ha
  · have := (List.mem_replicate.mp h1).2
    cases this
set_option maxHeartbeats 4000000 in
theorem vx_Ci.of {l : Launch} {M : vx_Me} {R : Room} {Na : Nat → Prop} {mc ms : Nat} {av : List vx_V} {sh : List vx_H} {g : vx_M} {P : vx_P} (L : List (Option vx_V)) (hy : plainName M.1.cls = true) (hlen : av.length ≤ M.2.2.1) (hL : av.map some ++ List.replicate (M.2.2.1 - av.length) none = L)
    (hP0 : ∀ sh' g', ¬ P none sh' g') (h : vJ l M R Na P mc ms 0 0 sh g 0 L []) : vx_Ci l M R Na mc ms av sh g P := by
  intro hg hs D cs ad sz
  refine Met.ofW (cc := M.2.1) (maxL := M.2.2.1) (ret := M.2.2.2) hy rfl ?_
  intro p e s m args below meth c s₁ B hml hv
  obtain ⟨rfl, hsz, hP, hK, hD0⟩ := hv
  have hts := atoms_spec (ws := Cond.code M.1 M.2.1 M.2.2.1 M.2.2.2 :: vx_tb) B.pre
  subst hsz
  have hD := hD0.self (sz := s.heap.size)
  have hl := lv_entry (av.map (vx_v ad)) (n := M.2.2.1) (by rw [vx_sl]; exact hlen)
  rw [lg_entry_eq]
  generalize (lg_sl (av.map (vx_v ad)) ++ List.replicate (M.2.2.1 - (lg_sl (av.map (vx_v ad))).length) Slot.unset).toArray = ls at hl ⊢
  refine h p e s m _ below meth c D cs ad (va_A (vx_w cs ad sh g) s.heap.size) _ ⟨B.exec, B.bytes, B.returns, hml, findClass_of_methodNamed B.named, fun w hw => hts w (List.mem_cons_of_mem _ hw), B.notSynchronized, (name_of_methodNamed B.named B.method).1, hK, fun q hq => Or.inr hq, ?_⟩ s.heap [] ad ls ⟨hP, hD, va_S.rf, vx_entry hL hl, vx_entryR hL hs, (fun _ h => by cases h), hg, fun _ _ => rfl⟩
  intro r sh' g' ad' t hp hgR hr hna hP1 hK1 hD1 hF
  cases r with
  | none => exact absurd hp (hP0 _ _)
  | some z => exact ⟨⟨Int32.ofInt z, (z, sh', g', ad'), rfl, ⟨rfl, hr z rfl, hp, hgR, hna⟩, hP1, hK1, hD1⟩, hF⟩
set_option maxHeartbeats 4000000 in
theorem vx_Cv.of {l : Launch} {M : vx_Me} {R : Room} {Na : Nat → Prop} {mc ms : Nat} {av : List vx_V} {sh : List vx_H} {g : vx_M} {P : vx_P} (L : List (Option vx_V)) (hy : plainName M.1.cls = true) (hlen : av.length ≤ M.2.2.1) (hL : av.map some ++ List.replicate (M.2.2.1 - av.length) none = L)
    (hP0 : ∀ z sh' g', ¬ P (some z) sh' g') (h : vJ l M R Na P mc ms 0 0 sh g 0 L []) : vx_Cv l M R Na mc ms av sh g P := by
  intro hg hs D cs ad sz
  refine Met.ofW (cc := M.2.1) (maxL := M.2.2.1) (ret := M.2.2.2) hy rfl ?_
  intro p e s m args below meth c s₁ B hml hv
  obtain ⟨rfl, hsz, hP, hK, hD0⟩ := hv
  have hts := atoms_spec (ws := Cond.code M.1 M.2.1 M.2.2.1 M.2.2.2 :: vx_tb) B.pre
  subst hsz
  have hD := hD0.self (sz := s.heap.size)
  have hl := lv_entry (av.map (vx_v ad)) (n := M.2.2.1) (by rw [vx_sl]; exact hlen)
  rw [lg_entry_eq]
  generalize (lg_sl (av.map (vx_v ad)) ++ List.replicate (M.2.2.1 - (lg_sl (av.map (vx_v ad))).length) Slot.unset).toArray = ls at hl ⊢
  refine h p e s m _ below meth c D cs ad (va_A (vx_w cs ad sh g) s.heap.size) _ ⟨B.exec, B.bytes, B.returns, hml, findClass_of_methodNamed B.named, fun w hw => hts w (List.mem_cons_of_mem _ hw), B.notSynchronized, (name_of_methodNamed B.named B.method).1, hK, fun q hq => Or.inr hq, ?_⟩ s.heap [] ad ls ⟨hP, hD, va_S.rf, vx_entry hL hl, vx_entryR hL hs, (fun _ h => by cases h), hg, fun _ _ => rfl⟩
  intro r sh' g' ad' t hp hgR hr hna hP1 hK1 hD1 hF
  cases r with
  | some z => exact absurd hp (hP0 _ _ _)
  | none => exact ⟨⟨(sh', g', ad'), rfl, ⟨hp, hgR, hna⟩, hP1, hK1, hD1⟩, hF⟩
end
section
section VXR
variable {l : Launch} {M : vx_Me} {R : Room} {Na : Nat → Prop} {P : vx_P} {mc ms kc ks : Nat} {sh : List vx_H} {g : vx_M} {pc : Nat} {L : List (Option vx_V)} {st : List vx_V}
theorem vr_iconst (pc' : Nat) {n : Int} (hd : decode M.2.1 pc = .ok (.iconst n, 1)) (hpc : pc + 1 = pc') (hn : vx_in n) (kk : vJ l M R Na P mc ms kc ks sh g pc' L (.inl n :: st)) : vJ l M R Na P mc ms kc ks sh g pc L st := by
  intro p e s m args below meth c D cs ad0 A Qc hC H locs ad ls hX
  obtain ⟨hx, hb, hr, hml, hown, hts, hlk, hnm, ⟨hK, hKN⟩, hA, hQ⟩ := id hC
  obtain ⟨hP, hD, hS, hl, hL, hs, hg, ha⟩ := id hX
  subst hpc
  refine lv_iconst (v := Int32.ofInt n) hx hb hd rfl ?_
  exact kk p e s m args below meth c D cs ad0 A Qc hC H locs ad ls ⟨hP, hD, hS, hl, hL, vx_sR_i hn hs, hg, ha⟩
theorem vr_bipush (pc' : Nat) {n : Int} (hd : decode M.2.1 pc = .ok (.bipush n, 2)) (hpc : pc + 2 = pc') (hv : (Int8.ofInt n).toInt32 = Int32.ofInt n) (hn : vx_in n) (kk : vJ l M R Na P mc ms kc ks sh g pc' L (.inl n :: st)) : vJ l M R Na P mc ms kc ks sh g pc L st := by
  intro p e s m args below meth c D cs ad0 A Qc hC H locs ad ls hX
  obtain ⟨hx, hb, hr, hml, hown, hts, hlk, hnm, ⟨hK, hKN⟩, hA, hQ⟩ := id hC
  obtain ⟨hP, hD, hS, hl, hL, hs, hg, ha⟩ := id hX
  subst hpc
  refine lv_bipush (v := Int32.ofInt n) hx hb hd hv ?_
  exact kk p e s m args below meth c D cs ad0 A Qc hC H locs ad ls ⟨hP, hD, hS, hl, hL, vx_sR_i hn hs, hg, ha⟩
theorem vr_sipush (pc' : Nat) {n : Int} (hd : decode M.2.1 pc = .ok (.sipush n, 3)) (hpc : pc + 3 = pc') (hv : (Int16.ofInt n).toInt32 = Int32.ofInt n) (hn : vx_in n) (kk : vJ l M R Na P mc ms kc ks sh g pc' L (.inl n :: st)) : vJ l M R Na P mc ms kc ks sh g pc L st := by
  intro p e s m args below meth c D cs ad0 A Qc hC H locs ad ls hX
  obtain ⟨hx, hb, hr, hml, hown, hts, hlk, hnm, ⟨hK, hKN⟩, hA, hQ⟩ := id hC
  obtain ⟨hP, hD, hS, hl, hL, hs, hg, ha⟩ := id hX
  subst hpc
  refine lv_sipush (v := Int32.ofInt n) hx hb hd hv ?_
  exact kk p e s m args below meth c D cs ad0 A Qc hC H locs ad ls ⟨hP, hD, hS, hl, hL, vx_sR_i hn hs, hg, ha⟩
theorem vr_ldc (pc' : Nat) (n : Int) {idx : Nat} (hd : decode M.2.1 pc = .ok (.ldc idx, 2)) (hpc : pc + 2 = pc') (hc : Cond.constant M.1.cls idx (Int32.ofInt n) ∈ vx_tb) (hn : vx_in n) (kk : vJ l M R Na P mc ms kc ks sh g pc' L (.inl n :: st)) : vJ l M R Na P mc ms kc ks sh g pc L st := by
  intro p e s m args below meth c D cs ad0 A Qc hC H locs ad ls hX
  obtain ⟨hx, hb, hr, hml, hown, hts, hlk, hnm, ⟨hK, hKN⟩, hA, hQ⟩ := id hC
  obtain ⟨hP, hD, hS, hl, hL, hs, hg, ha⟩ := id hX
  subst hpc
  refine lv_ldc (v := Int32.ofInt n) hx hb hown (hts _ hc) hd ?_
  exact kk p e s m args below meth c D cs ad0 A Qc hC H locs ad ls ⟨hP, hD, hS, hl, hL, vx_sR_i hn hs, hg, ha⟩
theorem vr_iload_n (pc' : Nat) {k : Fin 4} {i : Nat} {x : Int} (hd : decode M.2.1 pc = .ok (.iload_n k, 1)) (hpc : pc + 1 = pc') (hi : (k : Nat) = i) (hv : L[i]? = some (some (.inl x))) (kk : vJ l M R Na P mc ms kc ks sh g pc' L (.inl x :: st)) : vJ l M R Na P mc ms kc ks sh g pc L st := by
  intro p e s m args below meth c D cs ad0 A Qc hC H locs ad ls hX
  obtain ⟨hx, hb, hr, hml, hown, hts, hlk, hnm, ⟨hK, hKN⟩, hA, hQ⟩ := id hC
  obtain ⟨hP, hD, hS, hl, hL, hs, hg, ha⟩ := id hX
  subst hpc
  refine lv_iload_n hx hb hd hi (vx_at hl hv) ?_
  exact kk p e s m args below meth c D cs ad0 A Qc hC H locs ad ls ⟨hP, hD, hS, hl, hL, vx_sR_i (vx_LR_at hL hv) hs, hg, ha⟩
theorem vr_iload (pc' : Nat) {i : Nat} {x : Int} (hd : decode M.2.1 pc = .ok (.iload i, 2)) (hpc : pc + 2 = pc') (hv : L[i]? = some (some (.inl x))) (kk : vJ l M R Na P mc ms kc ks sh g pc' L (.inl x :: st)) : vJ l M R Na P mc ms kc ks sh g pc L st := by
  intro p e s m args below meth c D cs ad0 A Qc hC H locs ad ls hX
  obtain ⟨hx, hb, hr, hml, hown, hts, hlk, hnm, ⟨hK, hKN⟩, hA, hQ⟩ := id hC
  obtain ⟨hP, hD, hS, hl, hL, hs, hg, ha⟩ := id hX
  subst hpc
  refine lv_iload hx hb hd (vx_at hl hv) ?_
  exact kk p e s m args below meth c D cs ad0 A Qc hC H locs ad ls ⟨hP, hD, hS, hl, hL, vx_sR_i (vx_LR_at hL hv) hs, hg, ha⟩
theorem vr_aload_n (pc' : Nat) {k : Fin 4} {i : Nat} {x : Nat} (hd : decode M.2.1 pc = .ok (.aload_n k, 1)) (hpc : pc + 1 = pc') (hi : (k : Nat) = i) (hv : L[i]? = some (some (.inr (some x)))) (kk : vJ l M R Na P mc ms kc ks sh g pc' L (.inr (some x) :: st)) : vJ l M R Na P mc ms kc ks sh g pc L st := by
  intro p e s m args below meth c D cs ad0 A Qc hC H locs ad ls hX
  obtain ⟨hx, hb, hr, hml, hown, hts, hlk, hnm, ⟨hK, hKN⟩, hA, hQ⟩ := id hC
  obtain ⟨hP, hD, hS, hl, hL, hs, hg, ha⟩ := id hX
  subst hpc
  refine lv_aload_n hx hb hd hi (vx_at hl hv) ?_
  exact kk p e s m args below meth c D cs ad0 A Qc hC H locs ad ls ⟨hP, hD, hS, hl, hL, vx_sR_r hs, hg, ha⟩
theorem vr_aload (pc' : Nat) {i : Nat} {x : Nat} (hd : decode M.2.1 pc = .ok (.aload i, 2)) (hpc : pc + 2 = pc') (hv : L[i]? = some (some (.inr (some x)))) (kk : vJ l M R Na P mc ms kc ks sh g pc' L (.inr (some x) :: st)) : vJ l M R Na P mc ms kc ks sh g pc L st := by
  intro p e s m args below meth c D cs ad0 A Qc hC H locs ad ls hX
  obtain ⟨hx, hb, hr, hml, hown, hts, hlk, hnm, ⟨hK, hKN⟩, hA, hQ⟩ := id hC
  obtain ⟨hP, hD, hS, hl, hL, hs, hg, ha⟩ := id hX
  subst hpc
  refine lv_aload hx hb hd (vx_at hl hv) ?_
  exact kk p e s m args below meth c D cs ad0 A Qc hC H locs ad ls ⟨hP, hD, hS, hl, hL, vx_sR_r hs, hg, ha⟩
theorem vr_istore_n (pc' : Nat) (L' : List (Option vx_V)) {k : Fin 4} {i : Nat} {x : Int} (hd : decode M.2.1 pc = .ok (.istore_n k, 1)) (hpc : pc + 1 = pc') (hi : (k : Nat) = i) (hn : i < M.2.2.1) (hL' : L.set i (some (.inl x)) = L') (kk : vJ l M R Na P mc ms kc ks sh g pc' L' st) : vJ l M R Na P mc ms kc ks sh g pc L ((.inl x) :: st) := by
  intro p e s m args below meth c D cs ad0 A Qc hC H locs ad ls hX
  obtain ⟨hx, hb, hr, hml, hown, hts, hlk, hnm, ⟨hK, hKN⟩, hA, hQ⟩ := id hC
  obtain ⟨hP, hD, hS, hl, hL, hs, hg, ha⟩ := id hX
  subst hpc
  refine lv_istore_n hx hb hd hi hl hn rfl (fun ls hl2 => ?_)
  exact kk p e s m args below meth c D cs ad0 A Qc hC H locs ad ls ⟨hP, hD, hS, vx_st hL' hl2, vx_LR_set hL' hL (fun z hz => by cases hz; exact vx_sR_h hs), vx_sR_t hs, hg, ha⟩
theorem vr_istore (pc' : Nat) (L' : List (Option vx_V)) {i : Nat} {x : Int} (hd : decode M.2.1 pc = .ok (.istore i, 2)) (hpc : pc + 2 = pc') (hn : i < M.2.2.1) (hL' : L.set i (some (.inl x)) = L') (kk : vJ l M R Na P mc ms kc ks sh g pc' L' st) : vJ l M R Na P mc ms kc ks sh g pc L ((.inl x) :: st) := by
  intro p e s m args below meth c D cs ad0 A Qc hC H locs ad ls hX
  obtain ⟨hx, hb, hr, hml, hown, hts, hlk, hnm, ⟨hK, hKN⟩, hA, hQ⟩ := id hC
  obtain ⟨hP, hD, hS, hl, hL, hs, hg, ha⟩ := id hX
  subst hpc
  refine lv_istore hx hb hd hl hn rfl (fun ls hl2 => ?_)
  exact kk p e s m args below meth c D cs ad0 A Qc hC H locs ad ls ⟨hP, hD, hS, vx_st hL' hl2, vx_LR_set hL' hL (fun z hz => by cases hz; exact vx_sR_h hs), vx_sR_t hs, hg, ha⟩
theorem vr_astore_n (pc' : Nat) (L' : List (Option vx_V)) {k : Fin 4} {i : Nat} {x : Nat} (hd : decode M.2.1 pc = .ok (.astore_n k, 1)) (hpc : pc + 1 = pc') (hi : (k : Nat) = i) (hn : i < M.2.2.1) (hL' : L.set i (some (.inr (some x))) = L') (kk : vJ l M R Na P mc ms kc ks sh g pc' L' st) : vJ l M R Na P mc ms kc ks sh g pc L ((.inr (some x)) :: st) := by
  intro p e s m args below meth c D cs ad0 A Qc hC H locs ad ls hX
  obtain ⟨hx, hb, hr, hml, hown, hts, hlk, hnm, ⟨hK, hKN⟩, hA, hQ⟩ := id hC
  obtain ⟨hP, hD, hS, hl, hL, hs, hg, ha⟩ := id hX
  subst hpc
  refine lv_astore_n hx hb hd hi hl hn rfl (fun ls hl2 => ?_)
  exact kk p e s m args below meth c D cs ad0 A Qc hC H locs ad ls ⟨hP, hD, hS, vx_st hL' hl2, vx_LR_set hL' hL (fun z hz => by cases hz), vx_sR_t hs, hg, ha⟩
theorem vr_astore (pc' : Nat) (L' : List (Option vx_V)) {i : Nat} {x : Nat} (hd : decode M.2.1 pc = .ok (.astore i, 2)) (hpc : pc + 2 = pc') (hn : i < M.2.2.1) (hL' : L.set i (some (.inr (some x))) = L') (kk : vJ l M R Na P mc ms kc ks sh g pc' L' st) : vJ l M R Na P mc ms kc ks sh g pc L ((.inr (some x)) :: st) := by
  intro p e s m args below meth c D cs ad0 A Qc hC H locs ad ls hX
  obtain ⟨hx, hb, hr, hml, hown, hts, hlk, hnm, ⟨hK, hKN⟩, hA, hQ⟩ := id hC
  obtain ⟨hP, hD, hS, hl, hL, hs, hg, ha⟩ := id hX
  subst hpc
  refine lv_astore hx hb hd hl hn rfl (fun ls hl2 => ?_)
  exact kk p e s m args below meth c D cs ad0 A Qc hC H locs ad ls ⟨hP, hD, hS, vx_st hL' hl2, vx_LR_set hL' hL (fun z hz => by cases hz), vx_sR_t hs, hg, ha⟩
theorem vr_iinc (pc' : Nat) (L' : List (Option vx_V)) {i : Nat} {n x : Int} (hd : decode M.2.1 pc = .ok (.iinc i n, 3)) (hpc : pc + 3 = pc') (hv : L[i]? = some (some (.inl x))) (hin : vx_in (x + n)) (hn : i < M.2.2.1) (hL' : L.set i (some (.inl (x + n))) = L') (kk : vJ l M R Na P mc ms kc ks sh g pc' L' st) : vJ l M R Na P mc ms kc ks sh g pc L st := by
  intro p e s m args below meth c D cs ad0 A Qc hC H locs ad ls hX
  obtain ⟨hx, hb, hr, hml, hown, hts, hlk, hnm, ⟨hK, hKN⟩, hA, hQ⟩ := id hC
  obtain ⟨hP, hD, hS, hl, hL, hs, hg, ha⟩ := id hX
  subst hpc
  obtain ⟨k, hk⟩ := List.getElem?_of_mem (vx_l_mem (ad := ad) (q := (i, vx_v ad (.inl x))).mpr ⟨_, hv, rfl⟩)
  refine lv_iinc (v := Int32.ofInt (x + n)) hx hb hd hl hk (Int32.ofInt_add x n).symm hn rfl (fun ls hl2 => ?_)
  exact kk p e s m args below meth c D cs ad0 A Qc hC H locs ad ls ⟨hP, hD, hS, vx_st (v := .inl (x + n)) hL' hl2, vx_LR_set hL' hL (fun z hz => by cases hz; exact hin), hs, hg, ha⟩
theorem vr_dup (pc' : Nat) {v : vx_V} (hd : decode M.2.1 pc = .ok (.dup, 1)) (hpc : pc + 1 = pc') (kk : vJ l M R Na P mc ms kc ks sh g pc' L (v :: v :: st)) : vJ l M R Na P mc ms kc ks sh g pc L (v :: st) := by
  intro p e s m args below meth c D cs ad0 A Qc hC H locs ad ls hX
  obtain ⟨hx, hb, hr, hml, hown, hts, hlk, hnm, ⟨hK, hKN⟩, hA, hQ⟩ := id hC
  obtain ⟨hP, hD, hS, hl, hL, hs, hg, ha⟩ := id hX
  subst hpc
  refine lv_dup hx hb hd (vx_cat ad v) ?_
  exact kk p e s m args below meth c D cs ad0 A Qc hC H locs ad ls ⟨hP, hD, hS, hl, hL, vx_sR_c (fun z hz => hs z (hz ▸ List.mem_cons_self)) hs, hg, ha⟩
theorem vr_pop (pc' : Nat) {v : vx_V} (hd : decode M.2.1 pc = .ok (.pop, 1)) (hpc : pc + 1 = pc') (kk : vJ l M R Na P mc ms kc ks sh g pc' L st) : vJ l M R Na P mc ms kc ks sh g pc L (v :: st) := by
  intro p e s m args below meth c D cs ad0 A Qc hC H locs ad ls hX
  obtain ⟨hx, hb, hr, hml, hown, hts, hlk, hnm, ⟨hK, hKN⟩, hA, hQ⟩ := id hC
  obtain ⟨hP, hD, hS, hl, hL, hs, hg, ha⟩ := id hX
  subst hpc
  refine lv_pop hx hb hd (vx_cat ad v) ?_
  exact kk p e s m args below meth c D cs ad0 A Qc hC H locs ad ls ⟨hP, hD, hS, hl, hL, vx_sR_t hs, hg, ha⟩
theorem vr_dup2 (pc' : Nat) {v u : vx_V} (hd : decode M.2.1 pc = .ok (.dup2, 1)) (hpc : pc + 1 = pc') (kk : vJ l M R Na P mc ms kc ks sh g pc' L (v :: u :: v :: u :: st)) : vJ l M R Na P mc ms kc ks sh g pc L (v :: u :: st) := by
  intro p e s m args below meth c D cs ad0 A Qc hC H locs ad ls hX
  obtain ⟨hx, hb, hr, hml, hown, hts, hlk, hnm, ⟨hK, hKN⟩, hA, hQ⟩ := id hC
  obtain ⟨hP, hD, hS, hl, hL, hs, hg, ha⟩ := id hX
  subst hpc
  refine lv_dup2_11 hx hb hd (vx_cat ad v) (vx_cat ad u) ?_
  exact kk p e s m args below meth c D cs ad0 A Qc hC H locs ad ls ⟨hP, hD, hS, hl, hL, vx_sR_c (fun z hz => hs z (hz ▸ List.mem_cons_self)) (vx_sR_c (fun z hz => vx_sR_t hs z (hz ▸ List.mem_cons_self)) hs), hg, ha⟩
theorem vr_dup_x1 (pc' : Nat) {v u : vx_V} (hd : decode M.2.1 pc = .ok (.dup_x1, 1)) (hpc : pc + 1 = pc') (kk : vJ l M R Na P mc ms kc ks sh g pc' L (v :: u :: v :: st)) : vJ l M R Na P mc ms kc ks sh g pc L (v :: u :: st) := by
  intro p e s m args below meth c D cs ad0 A Qc hC H locs ad ls hX
  obtain ⟨hx, hb, hr, hml, hown, hts, hlk, hnm, ⟨hK, hKN⟩, hA, hQ⟩ := id hC
  obtain ⟨hP, hD, hS, hl, hL, hs, hg, ha⟩ := id hX
  subst hpc
  refine lv_dup_x1 hx hb hd (vx_cat ad v) (vx_cat ad u) ?_
  exact kk p e s m args below meth c D cs ad0 A Qc hC H locs ad ls ⟨hP, hD, hS, hl, hL, vx_sR_c (fun z hz => hs z (hz ▸ List.mem_cons_self)) (vx_sR_c (fun z hz => vx_sR_t hs z (hz ▸ List.mem_cons_self)) (vx_sR_c (fun z hz => hs z (hz ▸ List.mem_cons_self)) (vx_sR_t (vx_sR_t hs)))), hg, ha⟩
theorem vr_iadd (pc' : Nat) {x y : Int} (hd : decode M.2.1 pc = .ok (.iadd, 1)) (hpc : pc + 1 = pc') (hin : vx_in (x + y)) (kk : vJ l M R Na P mc ms kc ks sh g pc' L (.inl (x + y) :: st)) : vJ l M R Na P mc ms kc ks sh g pc L (.inl y :: .inl x :: st) := by
  intro p e s m args below meth c D cs ad0 A Qc hC H locs ad ls hX
  obtain ⟨hx, hb, hr, hml, hown, hts, hlk, hnm, ⟨hK, hKN⟩, hA, hQ⟩ := id hC
  obtain ⟨hP, hD, hS, hl, hL, hs, hg, ha⟩ := id hX
  subst hpc
  refine lv_iadd hx hb hd ?_
  rw [← Int32.ofInt_add]
  exact kk p e s m args below meth c D cs ad0 A Qc hC H locs ad ls ⟨hP, hD, hS, hl, hL, vx_sR_i hin (vx_sR_t (vx_sR_t hs)), hg, ha⟩
theorem vr_isub (pc' : Nat) {x y : Int} (hd : decode M.2.1 pc = .ok (.isub, 1)) (hpc : pc + 1 = pc') (hin : vx_in (x - y)) (kk : vJ l M R Na P mc ms kc ks sh g pc' L (.inl (x - y) :: st)) : vJ l M R Na P mc ms kc ks sh g pc L (.inl y :: .inl x :: st) := by
  intro p e s m args below meth c D cs ad0 A Qc hC H locs ad ls hX
  obtain ⟨hx, hb, hr, hml, hown, hts, hlk, hnm, ⟨hK, hKN⟩, hA, hQ⟩ := id hC
  obtain ⟨hP, hD, hS, hl, hL, hs, hg, ha⟩ := id hX
  subst hpc
  refine lv_isub hx hb hd ?_
  rw [← Int32.ofInt_sub]
  exact kk p e s m args below meth c D cs ad0 A Qc hC H locs ad ls ⟨hP, hD, hS, hl, hL, vx_sR_i hin (vx_sR_t (vx_sR_t hs)), hg, ha⟩
theorem vr_imul (pc' : Nat) {x y : Int} (hd : decode M.2.1 pc = .ok (.imul, 1)) (hpc : pc + 1 = pc') (hin : vx_in (x * y)) (kk : vJ l M R Na P mc ms kc ks sh g pc' L (.inl (x * y) :: st)) : vJ l M R Na P mc ms kc ks sh g pc L (.inl y :: .inl x :: st) := by
  intro p e s m args below meth c D cs ad0 A Qc hC H locs ad ls hX
  obtain ⟨hx, hb, hr, hml, hown, hts, hlk, hnm, ⟨hK, hKN⟩, hA, hQ⟩ := id hC
  obtain ⟨hP, hD, hS, hl, hL, hs, hg, ha⟩ := id hX
  subst hpc
  refine lv_imul hx hb hd ?_
  rw [← Int32.ofInt_mul]
  exact kk p e s m args below meth c D cs ad0 A Qc hC H locs ad ls ⟨hP, hD, hS, hl, hL, vx_sR_i hin (vx_sR_t (vx_sR_t hs)), hg, ha⟩
theorem vx_emod_le {x y : Int} (h0 : 0 ≤ x) (h1 : 0 < y) : x % y ≤ x := by
  have h := Int.emod_def x y
  have h2 : 0 ≤ y * (x / y) := Int.mul_nonneg (by omega) (Int.ediv_nonneg h0 (by omega))
  omega
theorem vr_idiv (pc' : Nat) {x y : Int} (hd : decode M.2.1 pc = .ok (.idiv, 1)) (hpc : pc + 1 = pc') (h0 : 0 ≤ x) (h1 : 0 < y) (kk : vJ l M R Na P mc ms kc ks sh g pc' L (.inl (x / y) :: st)) : vJ l M R Na P mc ms kc ks sh g pc L (.inl y :: .inl x :: st) := by
  intro p e s m args below meth c D cs ad0 A Qc hC H locs ad ls hX
  obtain ⟨hx, hb, hr, hml, hown, hts, hlk, hnm, ⟨hK, hKN⟩, hA, hQ⟩ := id hC
  obtain ⟨hP, hD, hS, hl, hL, hs, hg, ha⟩ := id hX
  subst hpc
  have hy := vx_sR_h hs
  have hxx := vx_sR_h (vx_sR_t hs)
  have hin : vx_in (x / y) := by
    have q0 : 0 ≤ x / y := Int.ediv_nonneg h0 (by omega)
    have q1 : x / y ≤ x := by first | exact Int.ediv_le_self y h0 | exact vx_emod_le h0 h1
    unfold vx_in at hxx ⊢
    omega
  refine lv_idiv hx hb hd (fun h => ?_) ?_
  · have := (vx_eq hy vx_in0).mp h
    omega
  rw [← vx_divE hxx hy h0 h1]
  exact kk p e s m args below meth c D cs ad0 A Qc hC H locs ad ls ⟨hP, hD, hS, hl, hL, vx_sR_i hin (vx_sR_t (vx_sR_t hs)), hg, ha⟩
theorem vr_irem (pc' : Nat) {x y : Int} (hd : decode M.2.1 pc = .ok (.irem, 1)) (hpc : pc + 1 = pc') (h0 : 0 ≤ x) (h1 : 0 < y) (kk : vJ l M R Na P mc ms kc ks sh g pc' L (.inl (x % y) :: st)) : vJ l M R Na P mc ms kc ks sh g pc L (.inl y :: .inl x :: st) := by
  intro p e s m args below meth c D cs ad0 A Qc hC H locs ad ls hX
  obtain ⟨hx, hb, hr, hml, hown, hts, hlk, hnm, ⟨hK, hKN⟩, hA, hQ⟩ := id hC
  obtain ⟨hP, hD, hS, hl, hL, hs, hg, ha⟩ := id hX
  subst hpc
  have hy := vx_sR_h hs
  have hxx := vx_sR_h (vx_sR_t hs)
  have hin : vx_in (x % y) := by
    have q0 : 0 ≤ x % y := Int.emod_nonneg x (by omega)
    have q1 : x % y ≤ x := by first | exact Int.ediv_le_self y h0 | exact vx_emod_le h0 h1
    unfold vx_in at hxx ⊢
    omega
  refine lv_irem hx hb hd (fun h => ?_) ?_
  · have := (vx_eq hy vx_in0).mp h
    omega
  rw [← vx_remE hxx hy h0 h1]
  exact kk p e s m args below meth c D cs ad0 A Qc hC H locs ad ls ⟨hP, hD, hS, hl, hL, vx_sR_i hin (vx_sR_t (vx_sR_t hs)), hg, ha⟩
theorem vr_if_eq (tgt pc' : Nat) {x : Int} {off : Int} (hd : decode M.2.1 pc = .ok (.ifCond .eq off, 3)) (ht : (pc : Int) + off = (tgt : Int)) (hpc : pc + 3 = pc') (kt : x = 0 → vJ l M R Na P mc ms kc ks sh g tgt L st) (kf : ¬ x = 0 → vJ l M R Na P mc ms kc ks sh g pc' L st) : vJ l M R Na P mc ms kc ks sh g pc L (.inl x :: st) := by
  intro p e s m args below meth c D cs ad0 A Qc hC H locs ad ls hX
  obtain ⟨hx, hb, hr, hml, hown, hts, hlk, hnm, ⟨hK, hKN⟩, hA, hQ⟩ := id hC
  obtain ⟨hP, hD, hS, hl, hL, hs, hg, ha⟩ := id hX
  subst hpc
  have hxx := vx_sR_h hs
  refine lv_if_eq hx hb hd ht (fun h => ?_) (fun h => ?_)
  · exact kt ((vx_eq hxx vx_in0).mp h) p e s m args below meth c D cs ad0 A Qc hC H locs ad ls ⟨hP, hD, hS, hl, hL, vx_sR_t hs, hg, ha⟩
  · exact kf ((not_congr (vx_eq hxx vx_in0)).mp h) p e s m args below meth c D cs ad0 A Qc hC H locs ad ls ⟨hP, hD, hS, hl, hL, vx_sR_t hs, hg, ha⟩
theorem vr_icmp_eq (tgt pc' : Nat) {x y : Int} {off : Int} (hd : decode M.2.1 pc = .ok (.if_icmp .eq off, 3)) (ht : (pc : Int) + off = (tgt : Int)) (hpc : pc + 3 = pc') (kt : x = y → vJ l M R Na P mc ms kc ks sh g tgt L st) (kf : ¬ x = y → vJ l M R Na P mc ms kc ks sh g pc' L st) : vJ l M R Na P mc ms kc ks sh g pc L (.inl y :: .inl x :: st) := by
  intro p e s m args below meth c D cs ad0 A Qc hC H locs ad ls hX
  obtain ⟨hx, hb, hr, hml, hown, hts, hlk, hnm, ⟨hK, hKN⟩, hA, hQ⟩ := id hC
  obtain ⟨hP, hD, hS, hl, hL, hs, hg, ha⟩ := id hX
  subst hpc
  have hy := vx_sR_h hs
  have hxx := vx_sR_h (vx_sR_t hs)
  refine lv_icmp_eq hx hb hd ht (fun h => ?_) (fun h => ?_)
  · exact kt ((vx_eq hxx hy).mp h) p e s m args below meth c D cs ad0 A Qc hC H locs ad ls ⟨hP, hD, hS, hl, hL, vx_sR_t (vx_sR_t hs), hg, ha⟩
  · exact kf ((not_congr (vx_eq hxx hy)).mp h) p e s m args below meth c D cs ad0 A Qc hC H locs ad ls ⟨hP, hD, hS, hl, hL, vx_sR_t (vx_sR_t hs), hg, ha⟩
theorem vr_if_ne (tgt pc' : Nat) {x : Int} {off : Int} (hd : decode M.2.1 pc = .ok (.ifCond .ne off, 3)) (ht : (pc : Int) + off = (tgt : Int)) (hpc : pc + 3 = pc') (kt : ¬ x = 0 → vJ l M R Na P mc ms kc ks sh g tgt L st) (kf : x = 0 → vJ l M R Na P mc ms kc ks sh g pc' L st) : vJ l M R Na P mc ms kc ks sh g pc L (.inl x :: st) := by
  intro p e s m args below meth c D cs ad0 A Qc hC H locs ad ls hX
  obtain ⟨hx, hb, hr, hml, hown, hts, hlk, hnm, ⟨hK, hKN⟩, hA, hQ⟩ := id hC
  obtain ⟨hP, hD, hS, hl, hL, hs, hg, ha⟩ := id hX
  subst hpc
  have hxx := vx_sR_h hs
  refine lv_if_ne hx hb hd ht (fun h => ?_) (fun h => ?_)
  · exact kt ((not_congr (vx_eq hxx vx_in0)).mp h) p e s m args below meth c D cs ad0 A Qc hC H locs ad ls ⟨hP, hD, hS, hl, hL, vx_sR_t hs, hg, ha⟩
  · exact kf ((vx_eq hxx vx_in0).mp h) p e s m args below meth c D cs ad0 A Qc hC H locs ad ls ⟨hP, hD, hS, hl, hL, vx_sR_t hs, hg, ha⟩
theorem vr_icmp_ne (tgt pc' : Nat) {x y : Int} {off : Int} (hd : decode M.2.1 pc = .ok (.if_icmp .ne off, 3)) (ht : (pc : Int) + off = (tgt : Int)) (hpc : pc + 3 = pc') (kt : ¬ x = y → vJ l M R Na P mc ms kc ks sh g tgt L st) (kf : x = y → vJ l M R Na P mc ms kc ks sh g pc' L st) : vJ l M R Na P mc ms kc ks sh g pc L (.inl y :: .inl x :: st) := by
  intro p e s m args below meth c D cs ad0 A Qc hC H locs ad ls hX
  obtain ⟨hx, hb, hr, hml, hown, hts, hlk, hnm, ⟨hK, hKN⟩, hA, hQ⟩ := id hC
  obtain ⟨hP, hD, hS, hl, hL, hs, hg, ha⟩ := id hX
  subst hpc
  have hy := vx_sR_h hs
  have hxx := vx_sR_h (vx_sR_t hs)
  refine lv_icmp_ne hx hb hd ht (fun h => ?_) (fun h => ?_)
  · exact kt ((not_congr (vx_eq hxx hy)).mp h) p e s m args below meth c D cs ad0 A Qc hC H locs ad ls ⟨hP, hD, hS, hl, hL, vx_sR_t (vx_sR_t hs), hg, ha⟩
  · exact kf ((vx_eq hxx hy).mp h) p e s m args below meth c D cs ad0 A Qc hC H locs ad ls ⟨hP, hD, hS, hl, hL, vx_sR_t (vx_sR_t hs), hg, ha⟩
theorem vr_if_lt (tgt pc' : Nat) {x : Int} {off : Int} (hd : decode M.2.1 pc = .ok (.ifCond .lt off, 3)) (ht : (pc : Int) + off = (tgt : Int)) (hpc : pc + 3 = pc') (kt : x < 0 → vJ l M R Na P mc ms kc ks sh g tgt L st) (kf : ¬ x < 0 → vJ l M R Na P mc ms kc ks sh g pc' L st) : vJ l M R Na P mc ms kc ks sh g pc L (.inl x :: st) := by
  intro p e s m args below meth c D cs ad0 A Qc hC H locs ad ls hX
  obtain ⟨hx, hb, hr, hml, hown, hts, hlk, hnm, ⟨hK, hKN⟩, hA, hQ⟩ := id hC
  obtain ⟨hP, hD, hS, hl, hL, hs, hg, ha⟩ := id hX
  subst hpc
  have hxx := vx_sR_h hs
  refine lv_if_lt hx hb hd ht (fun h => ?_) (fun h => ?_)
  · exact kt ((vx_lt hxx vx_in0).mp h) p e s m args below meth c D cs ad0 A Qc hC H locs ad ls ⟨hP, hD, hS, hl, hL, vx_sR_t hs, hg, ha⟩
  · exact kf ((not_congr (vx_lt hxx vx_in0)).mp h) p e s m args below meth c D cs ad0 A Qc hC H locs ad ls ⟨hP, hD, hS, hl, hL, vx_sR_t hs, hg, ha⟩
theorem vr_icmp_lt (tgt pc' : Nat) {x y : Int} {off : Int} (hd : decode M.2.1 pc = .ok (.if_icmp .lt off, 3)) (ht : (pc : Int) + off = (tgt : Int)) (hpc : pc + 3 = pc') (kt : x < y → vJ l M R Na P mc ms kc ks sh g tgt L st) (kf : ¬ x < y → vJ l M R Na P mc ms kc ks sh g pc' L st) : vJ l M R Na P mc ms kc ks sh g pc L (.inl y :: .inl x :: st) := by
  intro p e s m args below meth c D cs ad0 A Qc hC H locs ad ls hX
  obtain ⟨hx, hb, hr, hml, hown, hts, hlk, hnm, ⟨hK, hKN⟩, hA, hQ⟩ := id hC
  obtain ⟨hP, hD, hS, hl, hL, hs, hg, ha⟩ := id hX
  subst hpc
  have hy := vx_sR_h hs
  have hxx := vx_sR_h (vx_sR_t hs)
  refine lv_icmp_lt hx hb hd ht (fun h => ?_) (fun h => ?_)
  · exact kt ((vx_lt hxx hy).mp h) p e s m args below meth c D cs ad0 A Qc hC H locs ad ls ⟨hP, hD, hS, hl, hL, vx_sR_t (vx_sR_t hs), hg, ha⟩
  · exact kf ((not_congr (vx_lt hxx hy)).mp h) p e s m args below meth c D cs ad0 A Qc hC H locs ad ls ⟨hP, hD, hS, hl, hL, vx_sR_t (vx_sR_t hs), hg, ha⟩
theorem vr_if_ge (tgt pc' : Nat) {x : Int} {off : Int} (hd : decode M.2.1 pc = .ok (.ifCond .ge off, 3)) (ht : (pc : Int) + off = (tgt : Int)) (hpc : pc + 3 = pc') (kt : 0 ≤ x → vJ l M R Na P mc ms kc ks sh g tgt L st) (kf : ¬ 0 ≤ x → vJ l M R Na P mc ms kc ks sh g pc' L st) : vJ l M R Na P mc ms kc ks sh g pc L (.inl x :: st) := by
  intro p e s m args below meth c D cs ad0 A Qc hC H locs ad ls hX
  obtain ⟨hx, hb, hr, hml, hown, hts, hlk, hnm, ⟨hK, hKN⟩, hA, hQ⟩ := id hC
  obtain ⟨hP, hD, hS, hl, hL, hs, hg, ha⟩ := id hX
  subst hpc
  have hxx := vx_sR_h hs
  refine lv_if_ge hx hb hd ht (fun h => ?_) (fun h => ?_)
  · exact kt ((vx_le vx_in0 hxx).mp h) p e s m args below meth c D cs ad0 A Qc hC H locs ad ls ⟨hP, hD, hS, hl, hL, vx_sR_t hs, hg, ha⟩
  · exact kf ((not_congr (vx_le vx_in0 hxx)).mp h) p e s m args below meth c D cs ad0 A Qc hC H locs ad ls ⟨hP, hD, hS, hl, hL, vx_sR_t hs, hg, ha⟩
theorem vr_icmp_ge (tgt pc' : Nat) {x y : Int} {off : Int} (hd : decode M.2.1 pc = .ok (.if_icmp .ge off, 3)) (ht : (pc : Int) + off = (tgt : Int)) (hpc : pc + 3 = pc') (kt : y ≤ x → vJ l M R Na P mc ms kc ks sh g tgt L st) (kf : ¬ y ≤ x → vJ l M R Na P mc ms kc ks sh g pc' L st) : vJ l M R Na P mc ms kc ks sh g pc L (.inl y :: .inl x :: st) := by
  intro p e s m args below meth c D cs ad0 A Qc hC H locs ad ls hX
  obtain ⟨hx, hb, hr, hml, hown, hts, hlk, hnm, ⟨hK, hKN⟩, hA, hQ⟩ := id hC
  obtain ⟨hP, hD, hS, hl, hL, hs, hg, ha⟩ := id hX
  subst hpc
  have hy := vx_sR_h hs
  have hxx := vx_sR_h (vx_sR_t hs)
  refine lv_icmp_ge hx hb hd ht (fun h => ?_) (fun h => ?_)
  · exact kt ((vx_le hy hxx).mp h) p e s m args below meth c D cs ad0 A Qc hC H locs ad ls ⟨hP, hD, hS, hl, hL, vx_sR_t (vx_sR_t hs), hg, ha⟩
  · exact kf ((not_congr (vx_le hy hxx)).mp h) p e s m args below meth c D cs ad0 A Qc hC H locs ad ls ⟨hP, hD, hS, hl, hL, vx_sR_t (vx_sR_t hs), hg, ha⟩
theorem vr_if_gt (tgt pc' : Nat) {x : Int} {off : Int} (hd : decode M.2.1 pc = .ok (.ifCond .gt off, 3)) (ht : (pc : Int) + off = (tgt : Int)) (hpc : pc + 3 = pc') (kt : 0 < x → vJ l M R Na P mc ms kc ks sh g tgt L st) (kf : ¬ 0 < x → vJ l M R Na P mc ms kc ks sh g pc' L st) : vJ l M R Na P mc ms kc ks sh g pc L (.inl x :: st) := by
  intro p e s m args below meth c D cs ad0 A Qc hC H locs ad ls hX
  obtain ⟨hx, hb, hr, hml, hown, hts, hlk, hnm, ⟨hK, hKN⟩, hA, hQ⟩ := id hC
  obtain ⟨hP, hD, hS, hl, hL, hs, hg, ha⟩ := id hX
  subst hpc
  have hxx := vx_sR_h hs
  refine lv_if_gt hx hb hd ht (fun h => ?_) (fun h => ?_)
  · exact kt ((vx_lt vx_in0 hxx).mp h) p e s m args below meth c D cs ad0 A Qc hC H locs ad ls ⟨hP, hD, hS, hl, hL, vx_sR_t hs, hg, ha⟩
  · exact kf ((not_congr (vx_lt vx_in0 hxx)).mp h) p e s m args below meth c D cs ad0 A Qc hC H locs ad ls ⟨hP, hD, hS, hl, hL, vx_sR_t hs, hg, ha⟩
theorem vr_icmp_gt (tgt pc' : Nat) {x y : Int} {off : Int} (hd : decode M.2.1 pc = .ok (.if_icmp .gt off, 3)) (ht : (pc : Int) + off = (tgt : Int)) (hpc : pc + 3 = pc') (kt : y < x → vJ l M R Na P mc ms kc ks sh g tgt L st) (kf : ¬ y < x → vJ l M R Na P mc ms kc ks sh g pc' L st) : vJ l M R Na P mc ms kc ks sh g pc L (.inl y :: .inl x :: st) := by
  intro p e s m args below meth c D cs ad0 A Qc hC H locs ad ls hX
  obtain ⟨hx, hb, hr, hml, hown, hts, hlk, hnm, ⟨hK, hKN⟩, hA, hQ⟩ := id hC
  obtain ⟨hP, hD, hS, hl, hL, hs, hg, ha⟩ := id hX
  subst hpc
  have hy := vx_sR_h hs
  have hxx := vx_sR_h (vx_sR_t hs)
  refine lv_icmp_gt hx hb hd ht (fun h => ?_) (fun h => ?_)
  · exact kt ((vx_lt hy hxx).mp h) p e s m args below meth c D cs ad0 A Qc hC H locs ad ls ⟨hP, hD, hS, hl, hL, vx_sR_t (vx_sR_t hs), hg, ha⟩
  · exact kf ((not_congr (vx_lt hy hxx)).mp h) p e s m args below meth c D cs ad0 A Qc hC H locs ad ls ⟨hP, hD, hS, hl, hL, vx_sR_t (vx_sR_t hs), hg, ha⟩
theorem vr_if_le (tgt pc' : Nat) {x : Int} {off : Int} (hd : decode M.2.1 pc = .ok (.ifCond .le off, 3)) (ht : (pc : Int) + off = (tgt : Int)) (hpc : pc + 3 = pc') (kt : x ≤ 0 → vJ l M R Na P mc ms kc ks sh g tgt L st) (kf : ¬ x ≤ 0 → vJ l M R Na P mc ms kc ks sh g pc' L st) : vJ l M R Na P mc ms kc ks sh g pc L (.inl x :: st) := by
  intro p e s m args below meth c D cs ad0 A Qc hC H locs ad ls hX
  obtain ⟨hx, hb, hr, hml, hown, hts, hlk, hnm, ⟨hK, hKN⟩, hA, hQ⟩ := id hC
  obtain ⟨hP, hD, hS, hl, hL, hs, hg, ha⟩ := id hX
  subst hpc
  have hxx := vx_sR_h hs
  refine lv_if_le hx hb hd ht (fun h => ?_) (fun h => ?_)
  · exact kt ((vx_le hxx vx_in0).mp h) p e s m args below meth c D cs ad0 A Qc hC H locs ad ls ⟨hP, hD, hS, hl, hL, vx_sR_t hs, hg, ha⟩
  · exact kf ((not_congr (vx_le hxx vx_in0)).mp h) p e s m args below meth c D cs ad0 A Qc hC H locs ad ls ⟨hP, hD, hS, hl, hL, vx_sR_t hs, hg, ha⟩
theorem vr_icmp_le (tgt pc' : Nat) {x y : Int} {off : Int} (hd : decode M.2.1 pc = .ok (.if_icmp .le off, 3)) (ht : (pc : Int) + off = (tgt : Int)) (hpc : pc + 3 = pc') (kt : x ≤ y → vJ l M R Na P mc ms kc ks sh g tgt L st) (kf : ¬ x ≤ y → vJ l M R Na P mc ms kc ks sh g pc' L st) : vJ l M R Na P mc ms kc ks sh g pc L (.inl y :: .inl x :: st) := by
  intro p e s m args below meth c D cs ad0 A Qc hC H locs ad ls hX
  obtain ⟨hx, hb, hr, hml, hown, hts, hlk, hnm, ⟨hK, hKN⟩, hA, hQ⟩ := id hC
  obtain ⟨hP, hD, hS, hl, hL, hs, hg, ha⟩ := id hX
  subst hpc
  have hy := vx_sR_h hs
  have hxx := vx_sR_h (vx_sR_t hs)
  refine lv_icmp_le hx hb hd ht (fun h => ?_) (fun h => ?_)
  · exact kt ((vx_le hxx hy).mp h) p e s m args below meth c D cs ad0 A Qc hC H locs ad ls ⟨hP, hD, hS, hl, hL, vx_sR_t (vx_sR_t hs), hg, ha⟩
  · exact kf ((not_congr (vx_le hxx hy)).mp h) p e s m args below meth c D cs ad0 A Qc hC H locs ad ls ⟨hP, hD, hS, hl, hL, vx_sR_t (vx_sR_t hs), hg, ha⟩
theorem vr_goto (tgt : Nat) {off : Int} (hd : decode M.2.1 pc = .ok (.goto off, 3)) (ht : (pc : Int) + off = (tgt : Int)) (kk : vJ l M R Na P mc ms kc ks sh g tgt L st) : vJ l M R Na P mc ms kc ks sh g pc L st := by
  intro p e s m args below meth c D cs ad0 A Qc hC H locs ad ls hX
  obtain ⟨hx, hb, hr, hml, hown, hts, hlk, hnm, ⟨hK, hKN⟩, hA, hQ⟩ := id hC
  obtain ⟨hP, hD, hS, hl, hL, hs, hg, ha⟩ := id hX
  refine lv_goto hx hb hd ht ?_
  exact kk p e s m args below meth c D cs ad0 A Qc hC H locs ad ls hX
theorem vr_tabOut (tgt : Nat) {x dflt lo hi : Int} {offs : Array Int} {len : Nat} (hd : decode M.2.1 pc = .ok (.tableswitch dflt lo hi offs, len)) (h : x < lo ∨ hi < x) (ht : (pc : Int) + dflt = (tgt : Int)) (kk : vJ l M R Na P mc ms kc ks sh g tgt L st) : vJ l M R Na P mc ms kc ks sh g pc L (.inl x :: st) := by
  intro p e s m args below meth c D cs ad0 A Qc hC H locs ad ls hX
  obtain ⟨hx, hb, hr, hml, hown, hts, hlk, hnm, ⟨hK, hKN⟩, hA, hQ⟩ := id hC
  obtain ⟨hP, hD, hS, hl, hL, hs, hg, ha⟩ := id hX
  have hxx := vx_sR_h hs
  refine lv_tableOut hx hb hd (by rw [vx_toInt hxx]; exact h) ht ?_
  exact kk p e s m args below meth c D cs ad0 A Qc hC H locs ad ls ⟨hP, hD, hS, hl, hL, vx_sR_t hs, hg, ha⟩
theorem vr_tabIn (tgt : Nat) {x dflt lo hi off : Int} {offs : Array Int} {len : Nat} (hd : decode M.2.1 pc = .ok (.tableswitch dflt lo hi offs, len)) (h1 : ¬ x < lo) (h2 : ¬ hi < x) (ho : offs[(x - lo).toNat]? = some off) (ht : (pc : Int) + off = (tgt : Int)) (kk : vJ l M R Na P mc ms kc ks sh g tgt L st) : vJ l M R Na P mc ms kc ks sh g pc L (.inl x :: st) := by
  intro p e s m args below meth c D cs ad0 A Qc hC H locs ad ls hX
  obtain ⟨hx, hb, hr, hml, hown, hts, hlk, hnm, ⟨hK, hKN⟩, hA, hQ⟩ := id hC
  obtain ⟨hP, hD, hS, hl, hL, hs, hg, ha⟩ := id hX
  have hxx := vx_sR_h hs
  refine lv_tableIn hx hb hd (by rw [vx_toInt hxx]; exact h1) (by rw [vx_toInt hxx]; exact h2) (by rw [vx_toInt hxx]; exact ho) ht ?_
  exact kk p e s m args below meth c D cs ad0 A Qc hC H locs ad ls ⟨hP, hD, hS, hl, hL, vx_sR_t hs, hg, ha⟩
end VXR
/-- the facts of a class -/
def vx_cl (ci : Nat) (C : String) (T : u_T) (N : Nat) (ty : Nat → FieldType) : Prop := vwCl[ci]? = some (C, T, N) ∧ (∀ w ∈ u_ws C T N, w ∈ vx_tb) ∧ (∀ k, k < N → parseFieldDescriptor (T k).2.2.1 = some (ty k)) ∧ (∀ a, a < N → ∀ b, b < N → a ≠ b → (T a).2.1 ≠ (T b).2.1)
def vx_fl (own : String) (idx : Nat) (T : u_T) (k : Nat) : Prop := Cond.fieldLink own idx (T k).1 (T k).2.1 (T k).2.2.1 ∈ vx_tb
theorem vx_nbool {v : Int} (h : v = 0 ∨ v = 1) : narrow .boolean (.int (Int32.ofInt v)) = .int (Int32.ofInt v) ∧ fits .boolean (.int (Int32.ofInt v)) = true := by
  rcases h with rfl | rfl
  · exact ⟨by decide, by decide⟩
  · exact ⟨by decide, by decide⟩
theorem vx_nbool2 {v : Int} (h : v = 0 ∨ v = 1) : vp_nar .boolean (Int32.ofInt v) = Int32.ofInt v := by
  rcases h with rfl | rfl
  · decide
  · decide
section VXF
variable {l : Launch} {M : vx_Me} {R : Room} {Na : Nat → Prop} {P : vx_P} {mc ms kc ks : Nat} {sh : List vx_H} {g : vx_M} {pc : Nat} {L : List (Option vx_V)} {st : List vx_V}
theorem vr_geti (pc' : Nat) (jz : Int) {ci : Nat} {C : String} {T : u_T} {N : Nat} {ty : Nat → FieldType} {idx : Nat} {fs : List (Option (Option Nat))} {k : Nat} (j : Nat) (hcl : vx_cl ci C T N ty) (hfl : vx_fl M.1.cls idx T j) (hj : j < N) (hjz : (j : Int) = jz) (hd : decode M.2.1 pc = .ok (.getfield idx, 3)) (hpc : pc + 3 = pc') (he : sh[k]? = some (.inl (ci, fs))) (hf : fs[j]? = some none) (kk : vJ l M R Na P mc ms kc ks sh g pc' L (.inl (g k jz) :: st)) : vJ l M R Na P mc ms kc ks sh g pc L (.inr (some k) :: st) := by
  intro p e s m args below meth c D cs ad0 A Qc hC H locs ad ls hX
  obtain ⟨hx, hb, hr, hml, hown, hts, hlk, hnm, ⟨hK, hKN⟩, hA, hQ⟩ := id hC
  obtain ⟨hP, hD, hS, hl, hL, hs, hg, ha⟩ := id hX
  subst hpc
  subst hjz
  refine va_get hx hb hts hcl.2.1 hown hK hP k (vx_w_get he) hcl.1 j hj (hts _ hfl) (fun _ h => h) (vx_fs_get hf) hd ?_
  exact kk p e s m args below meth c D cs ad0 A Qc hC H locs ad ls ⟨hP, hD, hS, hl, hL, vx_sR_i (hg k j) (vx_sR_t hs), hg, ha⟩
theorem vr_getr (pc' : Nat) {ci : Nat} {C : String} {T : u_T} {N : Nat} {ty : Nat → FieldType} {idx : Nat} {fs : List (Option (Option Nat))} {k : Nat} (j : Nat) (hcl : vx_cl ci C T N ty) (hfl : vx_fl M.1.cls idx T j) (hj : j < N) {r : Nat} (hd : decode M.2.1 pc = .ok (.getfield idx, 3)) (hpc : pc + 3 = pc') (he : sh[k]? = some (.inl (ci, fs))) (hf : fs[j]? = some (some (some r))) (kk : vJ l M R Na P mc ms kc ks sh g pc' L (.inr (some r) :: st)) : vJ l M R Na P mc ms kc ks sh g pc L (.inr (some k) :: st) := by
  intro p e s m args below meth c D cs ad0 A Qc hC H locs ad ls hX
  obtain ⟨hx, hb, hr, hml, hown, hts, hlk, hnm, ⟨hK, hKN⟩, hA, hQ⟩ := id hC
  obtain ⟨hP, hD, hS, hl, hL, hs, hg, ha⟩ := id hX
  subst hpc
  refine va_get hx hb hts hcl.2.1 hown hK hP k (vx_w_get he) hcl.1 j hj (hts _ hfl) (fun _ h => h) (vx_fs_get hf) hd ?_
  exact kk p e s m args below meth c D cs ad0 A Qc hC H locs ad ls ⟨hP, hD, hS, hl, hL, vx_sR_r (vx_sR_t hs), hg, ha⟩
theorem vr_puti (pc' : Nat) (jz : Int) {ci : Nat} {C : String} {T : u_T} {N : Nat} {ty : Nat → FieldType} {idx : Nat} {fs : List (Option (Option Nat))} {k : Nat} (j : Nat) (hcl : vx_cl ci C T N ty) (hfl : vx_fl M.1.cls idx T j) (hj : j < N) (hjz : (j : Int) = jz) {v : Int} (hty : ty j = .int) (hfin : (T j).2.2.2 = false) (hd : decode M.2.1 pc = .ok (.putfield idx, 3)) (hpc : pc + 3 = pc') (he : sh[k]? = some (.inl (ci, fs))) (hf : fs[j]? = some none) (kk : vJ l M R Na P mc ms kc ks sh (vx_u g k jz v) pc' L st) : vJ l M R Na P mc ms kc ks sh g pc L (.inl v :: .inr (some k) :: st) := by
  intro p e s m args below meth c D cs ad0 A Qc hC H locs ad ls hX
  obtain ⟨hx, hb, hr, hml, hown, hts, hlk, hnm, ⟨hK, hKN⟩, hA, hQ⟩ := id hC
  obtain ⟨hP, hD, hS, hl, hL, hs, hg, ha⟩ := id hX
  subst hpc
  subst hjz
  have hlt : j < (vx_fs ad g k fs).length := by unfold vx_fs; rw [List.length_mapIdx]; exact (List.getElem?_eq_some_iff.mp hf).1
  refine va_put hx hb hts hcl.2.1 ty hcl.2.2.1 hcl.2.2.2 hown hK hP hD hS k (vx_w_get he) hcl.1 j hj (hts _ hfl) (fun _ h => h) hfin (ty := .int) (by rw [hcl.2.2.1 j hj, hty]) (vp_nar_int _) rfl hlt hd (fun H1 locs1 hP1 hD1 hS1 => ?_)
  rw [vx_w_set (g' := vx_u g k j v) he (fun a b h => by simp [vx_u, h]) (by show Sum.inr (ci, vx_fs ad (vx_u g k j v) k fs) = _; rw [vx_fs_put hf]; rfl)] at hP1 hD1
  exact kk p e s m args below meth c D cs ad0 A Qc hC H1 locs1 ad ls ⟨hP1, hD1, hS1, hl, hL, vx_sR_t (vx_sR_t hs), vx_gR_u hg (vx_sR_h hs), ha⟩
theorem vr_putz (pc' : Nat) (jz : Int) {ci : Nat} {C : String} {T : u_T} {N : Nat} {ty : Nat → FieldType} {idx : Nat} {fs : List (Option (Option Nat))} {k : Nat} (j : Nat) (hcl : vx_cl ci C T N ty) (hfl : vx_fl M.1.cls idx T j) (hj : j < N) (hjz : (j : Int) = jz) {v : Int} (hty : ty j = .boolean) (hfin : (T j).2.2.2 = false) (hv : v = 0 ∨ v = 1) (hd : decode M.2.1 pc = .ok (.putfield idx, 3)) (hpc : pc + 3 = pc') (he : sh[k]? = some (.inl (ci, fs))) (hf : fs[j]? = some none) (kk : vJ l M R Na P mc ms kc ks sh (vx_u g k jz v) pc' L st) : vJ l M R Na P mc ms kc ks sh g pc L (.inl v :: .inr (some k) :: st) := by
  intro p e s m args below meth c D cs ad0 A Qc hC H locs ad ls hX
  obtain ⟨hx, hb, hr, hml, hown, hts, hlk, hnm, ⟨hK, hKN⟩, hA, hQ⟩ := id hC
  obtain ⟨hP, hD, hS, hl, hL, hs, hg, ha⟩ := id hX
  subst hpc
  subst hjz
  have hlt : j < (vx_fs ad g k fs).length := by unfold vx_fs; rw [List.length_mapIdx]; exact (List.getElem?_eq_some_iff.mp hf).1
  refine va_put hx hb hts hcl.2.1 ty hcl.2.2.1 hcl.2.2.2 hown hK hP hD hS k (vx_w_get he) hcl.1 j hj (hts _ hfl) (fun _ h => h) hfin (ty := .boolean) (by rw [hcl.2.2.1 j hj, hty]) (vx_nbool hv).1 (vx_nbool hv).2 hlt hd (fun H1 locs1 hP1 hD1 hS1 => ?_)
  rw [vx_w_set (g' := vx_u g k j v) he (fun a b h => by simp [vx_u, h]) (by show Sum.inr (ci, vx_fs ad (vx_u g k j v) k fs) = _; rw [vx_fs_put hf]; rfl)] at hP1 hD1
  exact kk p e s m args below meth c D cs ad0 A Qc hC H1 locs1 ad ls ⟨hP1, hD1, hS1, hl, hL, vx_sR_t (vx_sR_t hs), vx_gR_u hg (vx_sR_h hs), ha⟩
theorem vr_putr (pc' : Nat) (sh' : List vx_H) {ci : Nat} {C : String} {T : u_T} {N : Nat} {ty : Nat → FieldType} {idx : Nat} {fs : List (Option (Option Nat))} {k : Nat} (j : Nat) (hcl : vx_cl ci C T N ty) (hfl : vx_fl M.1.cls idx T j) (hj : j < N) {r : Nat} {f : Option (Option Nat)} (hnr : narrow (ty j) (.ref 0) = .ref 0 ∧ ∀ a : Nat, narrow (ty j) (.ref a) = .ref a ∧ fits (ty j) (.ref a) = true) (hfin : (T j).2.2.2 = true) (hini : M.1.name = "<init>") (hdcl : (T j).1 = M.1.cls) (hd : decode M.2.1 pc = .ok (.putfield idx, 3)) (hpc : pc + 3 = pc') (he : sh[k]? = some (.inl (ci, fs))) (hf : fs[j]? = some f) (hsh : sh.set k (.inl (ci, fs.set j (some (some r)))) = sh') (kk : vJ l M R Na P mc ms kc ks sh' g pc' L st) : vJ l M R Na P mc ms kc ks sh g pc L (.inr (some r) :: .inr (some k) :: st) := by
  intro p e s m args below meth c D cs ad0 A Qc hC H locs ad ls hX
  obtain ⟨hx, hb, hr, hml, hown, hts, hlk, hnm, ⟨hK, hKN⟩, hA, hQ⟩ := id hC
  obtain ⟨hP, hD, hS, hl, hL, hs, hg, ha⟩ := id hX
  subst hpc
  have hlt : j < (vx_fs ad g k fs).length := by unfold vx_fs; rw [List.length_mapIdx]; exact (List.getElem?_eq_some_iff.mp hf).1
  refine va_putF hx hb hts hcl.2.1 ty hcl.2.2.1 hcl.2.2.2 hown hK hP hD hS k (vx_w_get he) hcl.1 j hj (hts _ hfl) (fun _ h => h) hfin (hnm.trans hini) hdcl (ty := ty j) (hcl.2.2.1 j hj) (hnr.2 _).1 (hnr.2 _).2 hlt hd (fun H1 locs1 hP1 hD1 hS1 => ?_)
  rw [vx_w_shape (h' := .inl (ci, fs.set j (some (some r)))) he (by show Sum.inr _ = _; rw [vx_fs_ref hf]; rfl), hsh] at hP1 hD1
  exact kk p e s m args below meth c D cs ad0 A Qc hC H1 locs1 ad ls ⟨hP1, hD1, hS1, hl, hL, vx_sR_t (vx_sR_t hs), hg, ha⟩
theorem vr_iald (pc' : Nat) {k n : Nat} {z : Int} (hd : decode M.2.1 pc = .ok (.iaload, 1)) (hpc : pc + 1 = pc') (he : sh[k]? = some (.inr (.inl (false, n)))) (h0 : 0 ≤ z) (h1 : z < n) (kk : vJ l M R Na P mc ms kc ks sh g pc' L (.inl (g k z) :: st)) : vJ l M R Na P mc ms kc ks sh g pc L (.inl z :: .inr (some k) :: st) := by
  intro p e s m args below meth c D cs ad0 A Qc hC H locs ad ls hX
  obtain ⟨hx, hb, hr, hml, hown, hts, hlk, hnm, ⟨hK, hKN⟩, hA, hQ⟩ := id hC
  obtain ⟨hP, hD, hS, hl, hL, hs, hg, ha⟩ := id hX
  subst hpc
  have hz := vx_sR_h hs
  refine va_iald hx hb hK hP k 0 (vx_w_get he) rfl (vx_vp hz h0 h1) hd ?_
  rw [vx_nat hz, Int.toNat_of_nonneg h0]
  exact kk p e s m args below meth c D cs ad0 A Qc hC H locs ad ls ⟨hP, hD, hS, hl, hL, vx_sR_i (hg k z) (vx_sR_t (vx_sR_t hs)), hg, ha⟩
theorem vr_zald (pc' : Nat) {k n : Nat} {z : Int} (hd : decode M.2.1 pc = .ok (.baload, 1)) (hpc : pc + 1 = pc') (he : sh[k]? = some (.inr (.inl (true, n)))) (h0 : 0 ≤ z) (h1 : z < n) (kk : vJ l M R Na P mc ms kc ks sh g pc' L (.inl (g k z) :: st)) : vJ l M R Na P mc ms kc ks sh g pc L (.inl z :: .inr (some k) :: st) := by
  intro p e s m args below meth c D cs ad0 A Qc hC H locs ad ls hX
  obtain ⟨hx, hb, hr, hml, hown, hts, hlk, hnm, ⟨hK, hKN⟩, hA, hQ⟩ := id hC
  obtain ⟨hP, hD, hS, hl, hL, hs, hg, ha⟩ := id hX
  subst hpc
  have hz := vx_sR_h hs
  refine va_zald hx hb hK hP k 1 (vx_w_get he) rfl (vx_vp hz h0 h1) hd ?_
  rw [vx_nat hz, Int.toNat_of_nonneg h0]
  exact kk p e s m args below meth c D cs ad0 A Qc hC H locs ad ls ⟨hP, hD, hS, hl, hL, vx_sR_i (hg k z) (vx_sR_t (vx_sR_t hs)), hg, ha⟩
theorem vr_iast (pc' : Nat) {k n : Nat} {z v : Int} (hd : decode M.2.1 pc = .ok (.iastore, 1)) (hpc : pc + 1 = pc') (he : sh[k]? = some (.inr (.inl (false, n)))) (h0 : 0 ≤ z) (h1 : z < n) (kk : vJ l M R Na P mc ms kc ks sh (vx_u g k z v) pc' L st) : vJ l M R Na P mc ms kc ks sh g pc L (.inl v :: .inl z :: .inr (some k) :: st) := by
  intro p e s m args below meth c D cs ad0 A Qc hC H locs ad ls hX
  obtain ⟨hx, hb, hr, hml, hown, hts, hlk, hnm, ⟨hK, hKN⟩, hA, hQ⟩ := id hC
  obtain ⟨hP, hD, hS, hl, hL, hs, hg, ha⟩ := id hX
  subst hpc
  have hv := vx_sR_h hs
  have hz := vx_sR_h (vx_sR_t hs)
  refine va_iast hx hb hK hP hD hS k 0 (vx_w_get he) rfl (vx_vp hz h0 h1) hd (fun H1 locs1 hP1 hD1 hS1 => ?_)
  rw [vx_nat hz, vx_arr_put h0] at hP1 hD1
  have e2 := vx_w_set (cs := cs) (ad := ad) (g := g) (g' := vx_u g k z v) he (fun a b h => by simp [vx_u, h]) rfl
  have hP1 : va_P D vwCl (vx_w cs ad sh (vx_u g k z v)) H1 := by rw [← e2]; exact hP1
  have hD1 : va_D A (vx_w cs ad sh (vx_u g k z v)) := by rw [← e2]; exact hD1
  exact kk p e s m args below meth c D cs ad0 A Qc hC H1 locs1 ad ls ⟨hP1, hD1, hS1, hl, hL, vx_sR_t (vx_sR_t (vx_sR_t hs)), vx_gR_u hg hv, ha⟩
theorem vr_zast (pc' : Nat) {k n : Nat} {z v : Int} (hd : decode M.2.1 pc = .ok (.bastore, 1)) (hpc : pc + 1 = pc') (he : sh[k]? = some (.inr (.inl (true, n)))) (h0 : 0 ≤ z) (h1 : z < n) (hb01 : v = 0 ∨ v = 1) (kk : vJ l M R Na P mc ms kc ks sh (vx_u g k z v) pc' L st) : vJ l M R Na P mc ms kc ks sh g pc L (.inl v :: .inl z :: .inr (some k) :: st) := by
  intro p e s m args below meth c D cs ad0 A Qc hC H locs ad ls hX
  obtain ⟨hx, hb, hr, hml, hown, hts, hlk, hnm, ⟨hK, hKN⟩, hA, hQ⟩ := id hC
  obtain ⟨hP, hD, hS, hl, hL, hs, hg, ha⟩ := id hX
  subst hpc
  have hv := vx_sR_h hs
  have hz := vx_sR_h (vx_sR_t hs)
  refine va_zast hx hb hK hP hD hS k 1 (vx_w_get he) rfl (vx_vp hz h0 h1) hd (fun H1 locs1 hP1 hD1 hS1 => ?_)
  rw [vx_nat hz, vx_nbool2 hb01, vx_arr_put h0] at hP1 hD1
  have e2 := vx_w_set (cs := cs) (ad := ad) (g := g) (g' := vx_u g k z v) he (fun a b h => by simp [vx_u, h]) rfl
  have hP1 : va_P D vwCl (vx_w cs ad sh (vx_u g k z v)) H1 := by rw [← e2]; exact hP1
  have hD1 : va_D A (vx_w cs ad sh (vx_u g k z v)) := by rw [← e2]; exact hD1
  exact kk p e s m args below meth c D cs ad0 A Qc hC H1 locs1 ad ls ⟨hP1, hD1, hS1, hl, hL, vx_sR_t (vx_sR_t (vx_sR_t hs)), vx_gR_u hg hv, ha⟩
theorem vr_aald (pc' : Nat) (r : Nat) {k : Nat} {rs : List (Option Nat)} {z : Int} (hd : decode M.2.1 pc = .ok (.aaload, 1)) (hpc : pc + 1 = pc') (he : sh[k]? = some (.inr (.inr rs))) (h0 : 0 ≤ z) (hr1 : rs[z.toNat]? = some (some r)) (kk : vJ l M R Na P mc ms kc ks sh g pc' L (.inr (some r) :: st)) : vJ l M R Na P mc ms kc ks sh g pc L (.inl z :: .inr (some k) :: st) := by
  intro p e s m args below meth c D cs ad0 A Qc hC H locs ad ls hX
  obtain ⟨hx, hb, hr, hml, hown, hts, hlk, hnm, ⟨hK, hKN⟩, hA, hQ⟩ := id hC
  obtain ⟨hP, hD, hS, hl, hL, hs, hg, ha⟩ := id hX
  subst hpc
  have hz := vx_sR_h hs
  have hlt : z.toNat < rs.length := (List.getElem?_eq_some_iff.mp hr1).1
  have hin : vp_in (Int32.ofInt z) rs.length := vx_vp hz h0 (by omega)
  have hgd : rs.getD z.toNat none = some r := by rw [List.getD_eq_getElem?_getD, hr1]; rfl
  have hW : W p l e R s m args below meth c H locs kc ks (MQ below Qc args s mc ms A) (F0 m (pc + 1) ls (va_rf ((rs.getD (Int32.ofInt z).toNatClampNeg none).map ad) :: st.map (vx_v ad))) := by
    rw [vx_nat hz, hgd]
    exact kk p e s m args below meth c D cs ad0 A Qc hC H locs ad ls ⟨hP, hD, hS, hl, hL, vx_sR_r (vx_sR_t (vx_sR_t hs)), hg, ha⟩
  refine W.aald (v := va_rf ((rs.getD (Int32.ofInt z).toNatClampNeg none).map ad)) (ty := .array .int) hx hb (hP k _ (vx_w_get he)) ((hK.2 2 _ rfl).1 rs.length (fun j => va_rf ((rs.getD j none).map ad))) rfl (fun q => by cases q) (by show ¬ (_ ∨ (arrV _ _ _).slots.size ≤ _); rw [arrV_size]; exact hin) (by show (arrV _ _ _).slots[_]? = _; rw [arrV_read _ _ (by rw [vx_nat hz]; exact hlt)]) rfl rfl hd hW
theorem vr_alen (pc' : Nat) {b : Bool} {k n : Nat} (hd : decode M.2.1 pc = .ok (.arraylength, 1)) (hpc : pc + 1 = pc') (he : sh[k]? = some (.inr (.inl (b, n)))) (hn : vx_in n) (kk : vJ l M R Na P mc ms kc ks sh g pc' L (.inl (n : Int) :: st)) : vJ l M R Na P mc ms kc ks sh g pc L (.inr (some k) :: st) := by
  intro p e s m args below meth c D cs ad0 A Qc hC H locs ad ls hX
  obtain ⟨hx, hb, hr, hml, hown, hts, hlk, hnm, ⟨hK, hKN⟩, hA, hQ⟩ := id hC
  obtain ⟨hP, hD, hS, hl, hL, hs, hg, ha⟩ := id hX
  subst hpc
  cases b with
  | false =>
    refine va_alen (ty := .int) hx hb hK hP k 0 (vx_w_get he) rfl (v := Int32.ofInt (n : Int)) rfl hd ?_
    exact kk p e s m args below meth c D cs ad0 A Qc hC H locs ad ls ⟨hP, hD, hS, hl, hL, vx_sR_i hn (vx_sR_t hs), hg, ha⟩
  | true =>
    refine va_alen (ty := .boolean) hx hb hK hP k 1 (vx_w_get he) rfl (v := Int32.ofInt (n : Int)) rfl hd ?_
    exact kk p e s m args below meth c D cs ad0 A Qc hC H locs ad ls ⟨hP, hD, hS, hl, hL, vx_sR_i hn (vx_sR_t hs), hg, ha⟩
theorem vr_iret {r : Int} (hrt : M.2.2.2 = some .int) (hc : kc ≤ mc) (hk : ks ≤ ms) (hd : decode M.2.1 pc = .ok (.ireturn, 1)) (kk : P (some r) sh g) : vJ l M R Na P mc ms kc ks sh g pc L [.inl r] := by
  intro p e s m args below meth c D cs ad0 A Qc hC H locs ad ls hX
  obtain ⟨hx, hb, hr, hml, hown, hts, hlk, hnm, ⟨hK, hKN⟩, hA, hQ⟩ := id hC
  obtain ⟨hP, hD, hS, hl, hL, hs, hg, ha⟩ := id hX
  refine W.widen hc hk ?_
  exact W.iret (v := Int32.ofInt r) hx hb (hr.trans hrt) (fun t ht hW => hQ (some r) sh g ad t kk hg (fun z hz => by cases hz; exact vx_sR_h hs) ha (by rw [ht]; exact hP) (va_K.moved hW.alike hK) hD (hS.F ht)) hS.2.2 hd hlk
theorem vr_zret {r : Int} (hrt : M.2.2.2 = some .boolean) (hc : kc ≤ mc) (hk : ks ≤ ms) (hd : decode M.2.1 pc = .ok (.ireturn, 1)) (h01 : r = 0 ∨ r = 1) (kk : P (some r) sh g) : vJ l M R Na P mc ms kc ks sh g pc L [.inl r] := by
  intro p e s m args below meth c D cs ad0 A Qc hC H locs ad ls hX
  obtain ⟨hx, hb, hr, hml, hown, hts, hlk, hnm, ⟨hK, hKN⟩, hA, hQ⟩ := id hC
  obtain ⟨hP, hD, hS, hl, hL, hs, hg, ha⟩ := id hX
  refine W.widen hc hk ?_
  exact W.zret (v := Int32.ofInt r) hx hb (hr.trans hrt) (vx_nbool h01).1 (fun t ht hW => hQ (some r) sh g ad t kk hg (fun z hz => by cases hz; exact vx_sR_h hs) ha (by rw [ht]; exact hP) (va_K.moved hW.alike hK) hD (hS.F ht)) hS.2.2 hd hlk
theorem vr_vret (hrt : M.2.2.2 = none) (hc : kc ≤ mc) (hk : ks ≤ ms) (hd : decode M.2.1 pc = .ok (.return_, 1)) (kk : P none sh g) : vJ l M R Na P mc ms kc ks sh g pc L [] := by
  intro p e s m args below meth c D cs ad0 A Qc hC H locs ad ls hX
  obtain ⟨hx, hb, hr, hml, hown, hts, hlk, hnm, ⟨hK, hKN⟩, hA, hQ⟩ := id hC
  obtain ⟨hP, hD, hS, hl, hL, hs, hg, ha⟩ := id hX
  refine W.widen hc hk ?_
  exact W.vret hx hb (hr.trans hrt) (fun t ht hW => hQ none sh g ad t kk hg (fun z hz => by cases hz) ha (by rw [ht]; exact hP) (va_K.moved hW.alike hK) hD (hS.F ht)) hS.2.2 hd hlk
theorem vr_forget (L' : List (Option vx_V)) (h : ∀ (i : Nat) (v : vx_V), L'[i]? = some (some v) → L[i]? = some (some v)) (kk : vJ l M R Na P mc ms kc ks sh g pc L' st) : vJ l M R Na P mc ms kc ks sh g pc L st := by
  intro p e s m args below meth c D cs ad0 A Qc hC H locs ad ls hX
  obtain ⟨hx, hb, hr, hml, hown, hts, hlk, hnm, ⟨hK, hKN⟩, hA, hQ⟩ := id hC
  obtain ⟨hP, hD, hS, hl, hL, hs, hg, ha⟩ := id hX
  exact kk p e s m args below meth c D cs ad0 A Qc hC H locs ad ls ⟨hP, hD, hS, ⟨hl.1, hl.2.1, fun q hq => by
    obtain ⟨v, h1, h2⟩ := vx_l_mem.mp hq
    rw [h2]
    exact vx_at hl (h _ _ h1)⟩, (fun z hz => by
    obtain ⟨i, hi⟩ := List.getElem?_of_mem hz
    exact hL z (List.mem_of_getElem? (h i _ hi))), hs, hg, ha⟩
end VXF
def vx_sub : List (Option vx_V) → List (Option vx_V) → Prop
  | [], _ => True
  | none :: a, _ :: b => vx_sub a b
  | some v :: a, w :: b => w = some v ∧ vx_sub a b
  | _ :: _, [] => False
theorem vx_sub.get : ∀ (a b : List (Option vx_V)), vx_sub a b → ∀ (i : Nat) (v : vx_V), a[i]? = some (some v) → b[i]? = some (some v)
  | [], _, _, i, v, h => by simp at h
  | none :: a, [], h, _, _, _ => h.elim
  | some v :: a, [], h, _, _, _ => h.elim
  | none :: a, w :: b, h, i, v, hi => by
    cases i with
    | zero => simp at hi
    | succ i => exact vx_sub.get a b h i v hi
  | some u :: a, w :: b, h, i, v, hi => by
    cases i with
    | zero =>
      rw [List.getElem?_cons_zero] at hi ⊢
      rw [h.1]
      exact hi
    | succ i => exact vx_sub.get a b h.2 i v hi
end
section
theorem lw_good : ∀ w ∈ vx_tb, goodWord w = true := fun w hw => (List.mem_filter.mp hw).2
theorem vx_good1 {w : Cond} (h : w ∈ vx_tb) : w ∈ vx_tb ∧ ((w.onTables && w.keeps) = true ∨ ∃ ty, w = .arrayClass ty) := ⟨h, good_of_word (lw_good w h)⟩
theorem vx_good {M2 : vx_Me} (hc : Cond.code M2.1 M2.2.1 M2.2.2.1 M2.2.2.2 ∈ vx_tb) : GoodIn vx_tb (Cond.code M2.1 M2.2.1 M2.2.2.1 M2.2.2.2 :: vx_tb) := fun w hw => by
  rcases List.mem_cons.mp hw with rfl | h
  · exact vx_good1 hc
  · exact vx_good1 h
def vx_mv (own : String) (idx : Nat) (M2 : vx_Me) : Prop := Cond.methodLink own idx M2.1 ∈ vx_tb ∧ Cond.instanceMethod M2.1 ∈ vx_tb ∧ Cond.selects M2.1.cls M2.1 M2.1 ∈ vx_tb ∧ Cond.initialized M2.1.cls ∈ vx_tb ∧ Cond.code M2.1 M2.2.1 M2.2.2.1 M2.2.2.2 ∈ vx_tb
def vx_ms (own : String) (idx : Nat) (M2 : vx_Me) : Prop := Cond.methodLink own idx M2.1 ∈ vx_tb ∧ Cond.static M2.1 ∈ vx_tb ∧ Cond.initialized M2.1.cls ∈ vx_tb ∧ Cond.code M2.1 M2.2.1 M2.2.2.1 M2.2.2.2 ∈ vx_tb
def vx_mi (own : String) (idx : Nat) (M2 : vx_Me) : Prop := Cond.methodLink own idx M2.1 ∈ vx_tb ∧ Cond.instanceMethod M2.1 ∈ vx_tb ∧ Cond.initialized M2.1.cls ∈ vx_tb ∧ Cond.code M2.1 M2.2.1 M2.2.2.1 M2.2.2.2 ∈ vx_tb
def vx_mn (own : String) (idx : Nat) (M2 : vx_Me) (host : String) : Prop := (∀ U : State, vx_N U → va_Nw (.methodLinkNest own idx M2.1 host) U) ∧ Cond.instanceMethod M2.1 ∈ vx_tb ∧ Cond.initialized M2.1.cls ∈ vx_tb ∧ Cond.code M2.1 M2.2.1 M2.2.2.1 M2.2.2.2 ∈ vx_tb
def vx_dn (M2 : vx_Me) (n : Nat) : Prop := M2.1.cls ≠ "java/lang/invoke/MethodHandle" ∧ M2.1.cls ≠ "java/lang/invoke/VarHandle" ∧ (parseMethodDescriptor M2.1.desc).map (fun d => d.parameters.length) = some n
theorem vx_goodV {own : String} {idx : Nat} {M2 : vx_Me} (h : vx_mv own idx M2) : GoodIn vx_tb (wsV own idx M2.1.cls M2.1 (Cond.code M2.1 M2.2.1 M2.2.2.1 M2.2.2.2 :: vx_tb)) := fun w hw => by
  obtain ⟨h1, h2, h3, h4, h5⟩ := h
  rcases List.mem_append.mp hw with q | q
  · simp only [List.mem_cons, List.not_mem_nil, or_false] at q
    rcases q with rfl | rfl | rfl | rfl
    · exact vx_good1 h1
    · exact vx_good1 h2
    · exact vx_good1 h3
    · exact vx_good1 h4
  · exact vx_good h5 w q
theorem vx_goodS {own : String} {idx : Nat} {M2 : vx_Me} (h : vx_ms own idx M2) : GoodIn vx_tb (va_wsS own idx M2.1 (Cond.code M2.1 M2.2.1 M2.2.2.1 M2.2.2.2 :: vx_tb)) := fun w hw => by
  obtain ⟨h1, h2, h3, h5⟩ := h
  rcases List.mem_append.mp hw with q | q
  · simp only [List.mem_cons, List.not_mem_nil, or_false] at q
    rcases q with rfl | rfl | rfl
    · exact vx_good1 h1
    · exact vx_good1 h2
    · exact vx_good1 h3
  · exact vx_good h5 w q
theorem vx_v_ad {ad ad' : Nat → Nat} {v : vx_V} (h : ∀ k, v = .inr (some k) → ad' k = ad k) : vx_v ad' v = vx_v ad v := by
  rcases v with z | r
  · rfl
  · cases r with
    | none => rfl
    | some k =>
      show va_rf (some (ad' k)) = va_rf (some (ad k))
      rw [h k rfl]
theorem vx_st_ad {ad ad' : Nat → Nat} {st : List vx_V} (h : ∀ k, Sum.inr (some k) ∈ st → ad' k = ad k) : st.map (vx_v ad') = st.map (vx_v ad) := List.map_congr_left (fun v hv => vx_v_ad (fun k hk => h k (hk ▸ hv)))
theorem vx_l_ad {ad ad' : Nat → Nat} {L : List (Option vx_V)} {ls : Array Slot} {n : Nat} (h : ∀ k, some (Sum.inr (some k)) ∈ L → ad' k = ad k) (hl : lv_has ls n (vx_l ad L)) : lv_has ls n (vx_l ad' L) := by
  refine ⟨hl.1, hl.2.1, fun q hq => ?_⟩
  obtain ⟨v, h1, h2⟩ := vx_l_mem.mp hq
  rw [h2, vx_v_ad (ad := ad) (fun k hk => h k (by rw [hk] at h1; exact List.mem_of_getElem? h1))]
  exact vx_at hl h1
theorem vx_sum {ad : Nat → Nat} : ∀ (st : List vx_V), ((st.map (vx_v ad)).map fun v => v.category).sum = st.length
  | [] => rfl
  | v :: st => by
    have h := vx_sum (ad := ad) st
    simp only [List.map_cons, List.sum_cons, List.length_cons, vx_cat]
    omega
theorem vx_sR_app {a b : List vx_V} (h : vx_sR (a ++ b)) : vx_sR a ∧ vx_sR b := ⟨fun z hz => h z (List.mem_append_left _ hz), fun z hz => h z (List.mem_append_right _ hz)⟩
theorem vx_sR_rev {a : List vx_V} (h : vx_sR a.reverse) : vx_sR a := fun z hz => h z (List.mem_reverse.mpr hz)
section VXC
variable {l : Launch} {M : vx_Me} {R : Room} {Na : Nat → Prop} {P : vx_P} {mc ms kc ks : Nat} {sh : List vx_H} {g : vx_M} {pc : Nat} {L : List (Option vx_V)} {st : List vx_V}
variable {M2 : vx_Me} {R2 : Room} {Na2 : Nat → Prop} {mc2 ms2 idx n ci : Nat} {P2 : vx_P} {T : u_T} {N : Nat} {fs : List (Option (Option Nat))}
set_option maxHeartbeats 4000000 in
theorem vr_callVi (pc' : Nat) (av : List vx_V) (k0 : Nat) (rest : List vx_V) (hd : decode M.2.1 pc = .ok (.invokevirtual idx, 3)) (hpc : pc + 3 = pc') (hw : vx_mv M.1.cls idx M2) (hdn : vx_dn M2 n) (hn : av.length = n) (hst : av.reverse ++ .inr (some k0) :: rest = st) (he : sh[k0]? = some (.inl (ci, fs))) (hc : vwCl[ci]? = some (M2.1.cls, T, N)) (hrest : rest.length ≤ 8) (hR : R2.frames + 1 ≤ R.frames ∧ 8 + (M2.2.2.1 + 11) + R2.locals ≤ R.locals) (hrc : R2.cells = mc2 ∧ R2.slots = ms2) (hf : kc + mc2 ≤ R.cells ∧ ks + ms2 ≤ R.slots) (hNa : ∀ k, Na k → Na2 k) (hrf : ∀ k, (some (Sum.inr (some k)) ∈ L ∨ Sum.inr (some k) ∈ rest) → Na2 k) (hM : vx_Ci l M2 R2 Na2 mc2 ms2 (.inr (some k0) :: av) sh g P2) (kk : ∀ (r : Int) (sh' : List vx_H) (g' : vx_M), P2 (some r) sh' g' → vx_in r → vx_gR g' → vJ l M R Na P mc ms (kc + mc2) (ks + ms2) sh' g' pc' L (.inl r :: rest)) : vJ l M R Na P mc ms kc ks sh g pc L st := by
  intro p e s m args below meth c D cs ad0 A Qc hC H locs ad ls hX
  obtain ⟨hx, hb, hr, hml, hown, hts, hlk, hnm, ⟨hK, hKN⟩, hA, hQ⟩ := id hC
  obtain ⟨hP, hD, hS, hl, hL, hs, hg, ha⟩ := id hX
  subst hpc
  subst hst
  have hsa := vx_sR_app hs
  have hM1 := hM hg (vx_sR_r (vx_sR_rev hsa.1)) D cs ad H.size
  have hsr : vx_sR rest := vx_sR_t hsa.2
  have hstk : (av.reverse ++ .inr (some k0) :: rest).map (vx_v ad) = (av.map (vx_v ad)).reverse ++ Value.ref (ad k0) :: rest.map (vx_v ad) := by rw [List.map_append, List.map_reverse]; rfl
  have hFc : ∀ q, va_A (vx_w cs ad sh g) H.size q → A q := fun q h => by
    rcases h with ⟨k, e9, h⟩ | h
    · exact hD.2 k (q, e9) h
    · exact hA q (Nat.le_trans hS.1 h)
  have hbl : FrameBlind (va_Pc ((.inr (some k0) :: av).map (vx_v ad)) (fun U => U.heap.size = H.size ∧ va_P D vwCl (vx_w cs ad sh g) U.heap ∧ (va_K D vwCl (vx_t cs) U ∧ vx_N U) ∧ va_D (fun _ => True) (vx_w cs ad sh g))) := fun a U g9 mk q => by
    obtain ⟨q0, q1, qP, qK, qD⟩ := q
    exact ⟨q0, q1, qP, ⟨va_K.moved (u := U) (U := U.calling g9 mk a) (Vm.Alike.refl U.vm) qK.1, vx_N.same rfl qK.2⟩, qD⟩
  refine va_calli (va_runV (As := av.map (vx_v ad)) (rest := rest.map (vx_v ad)) ⟨hx, hb, hml, hown, hts⟩ hM1 (cwV n hts (vx_goodV hw) rfl hrc.1 hrc.2 ⟨rfl, hdn⟩ hR) ⟨hbl, va_recv hK hP hc (vx_w_get he), fun U hU hW => ⟨rfl, by rw [hU], by rw [hU]; exact hP, ⟨va_K.moved hW.alike hK, hKN.warm hW⟩, hD.weaken (fun _ _ _ _ => trivial)⟩⟩ rfl (by rw [List.length_map]; exact hn) hl.1 hstk (lv_room (by rw [vx_sum]; exact hrest)) hd hf) hS (fun q _ h => hFc q h) hFc (fun r u t H1 locs1 ht hvm hw1 hB hz1 hk1 hS1 => ?_)
  obtain ⟨z, sh', g', ad'⟩ := u
  obtain ⟨hr1, hz, hp2, hg2, hna⟩ := hw1
  obtain ⟨hP1, hK1, hD1⟩ := hB
  rw [ht] at hP1
  dsimp only at hr1 hz hp2 hg2 hna hP1 hD1
  rw [hr1, show (Value.int (Int32.ofInt z) :: rest.map (vx_v ad)) = ((.inl z :: rest).map (vx_v ad')) by rw [List.map_cons, vx_st_ad (ad := ad) (ad' := ad') (fun k hk => hna k (hrf k (Or.inr hk)))]; rfl]
  exact kk z sh' g' hp2 hz hg2 p e s m args below meth c D cs ad0 A Qc hC H1 locs1 ad' ls ⟨hP1, hD1.weaken (fun _ _ _ h => hFc _ h), hS1, vx_l_ad (fun k hk => hna k (hrf k (Or.inl hk))) hl, hL, vx_sR_i hz hsr, hg2, fun k hk => (hna k (hNa k hk)).trans (ha k hk)⟩
set_option maxHeartbeats 4000000 in
theorem vr_callVv (pc' : Nat) (av : List vx_V) (k0 : Nat) (rest : List vx_V) (hd : decode M.2.1 pc = .ok (.invokevirtual idx, 3)) (hpc : pc + 3 = pc') (hw : vx_mv M.1.cls idx M2) (hdn : vx_dn M2 n) (hn : av.length = n) (hst : av.reverse ++ .inr (some k0) :: rest = st) (he : sh[k0]? = some (.inl (ci, fs))) (hc : vwCl[ci]? = some (M2.1.cls, T, N)) (hrest : rest.length ≤ 8) (hR : R2.frames + 1 ≤ R.frames ∧ 8 + (M2.2.2.1 + 11) + R2.locals ≤ R.locals) (hrc : R2.cells = mc2 ∧ R2.slots = ms2) (hf : kc + mc2 ≤ R.cells ∧ ks + ms2 ≤ R.slots) (hNa : ∀ k, Na k → Na2 k) (hrf : ∀ k, (some (Sum.inr (some k)) ∈ L ∨ Sum.inr (some k) ∈ rest) → Na2 k) (hM : vx_Cv l M2 R2 Na2 mc2 ms2 (.inr (some k0) :: av) sh g P2) (kk : ∀ (sh' : List vx_H) (g' : vx_M), P2 none sh' g' → vx_gR g' → vJ l M R Na P mc ms (kc + mc2) (ks + ms2) sh' g' pc' L rest) : vJ l M R Na P mc ms kc ks sh g pc L st := by
  intro p e s m args below meth c D cs ad0 A Qc hC H locs ad ls hX
  obtain ⟨hx, hb, hr, hml, hown, hts, hlk, hnm, ⟨hK, hKN⟩, hA, hQ⟩ := id hC
  obtain ⟨hP, hD, hS, hl, hL, hs, hg, ha⟩ := id hX
  subst hpc
  subst hst
  have hsa := vx_sR_app hs
  have hM1 := hM hg (vx_sR_r (vx_sR_rev hsa.1)) D cs ad H.size
  have hsr : vx_sR rest := vx_sR_t hsa.2
  have hstk : (av.reverse ++ .inr (some k0) :: rest).map (vx_v ad) = (av.map (vx_v ad)).reverse ++ Value.ref (ad k0) :: rest.map (vx_v ad) := by rw [List.map_append, List.map_reverse]; rfl
  have hFc : ∀ q, va_A (vx_w cs ad sh g) H.size q → A q := fun q h => by
    rcases h with ⟨k, e9, h⟩ | h
    · exact hD.2 k (q, e9) h
    · exact hA q (Nat.le_trans hS.1 h)
  have hbl : FrameBlind (va_Pc ((.inr (some k0) :: av).map (vx_v ad)) (fun U => U.heap.size = H.size ∧ va_P D vwCl (vx_w cs ad sh g) U.heap ∧ (va_K D vwCl (vx_t cs) U ∧ vx_N U) ∧ va_D (fun _ => True) (vx_w cs ad sh g))) := fun a U g9 mk q => by
    obtain ⟨q0, q1, qP, qK, qD⟩ := q
    exact ⟨q0, q1, qP, ⟨va_K.moved (u := U) (U := U.calling g9 mk a) (Vm.Alike.refl U.vm) qK.1, vx_N.same rfl qK.2⟩, qD⟩
  refine va_callv (va_runV (As := av.map (vx_v ad)) (rest := rest.map (vx_v ad)) ⟨hx, hb, hml, hown, hts⟩ hM1 (cwV n hts (vx_goodV hw) rfl hrc.1 hrc.2 ⟨rfl, hdn⟩ hR) ⟨hbl, va_recv hK hP hc (vx_w_get he), fun U hU hW => ⟨rfl, by rw [hU], by rw [hU]; exact hP, ⟨va_K.moved hW.alike hK, hKN.warm hW⟩, hD.weaken (fun _ _ _ _ => trivial)⟩⟩ rfl (by rw [List.length_map]; exact hn) hl.1 hstk (lv_room (by rw [vx_sum]; exact hrest)) hd hf) hS (fun q _ h => hFc q h) hFc (fun u t H1 locs1 ht hvm hw1 hB hz1 hk1 hS1 => ?_)
  obtain ⟨sh', g', ad'⟩ := u
  obtain ⟨hp2, hg2, hna⟩ := hw1
  obtain ⟨hP1, hK1, hD1⟩ := hB
  rw [ht] at hP1
  dsimp only at hp2 hg2 hna hP1 hD1
  rw [← vx_st_ad (ad := ad) (ad' := ad') (fun k hk => hna k (hrf k (Or.inr hk)))]
  exact kk sh' g' hp2 hg2 p e s m args below meth c D cs ad0 A Qc hC H1 locs1 ad' ls ⟨hP1, hD1.weaken (fun _ _ _ h => hFc _ h), hS1, vx_l_ad (fun k hk => hna k (hrf k (Or.inl hk))) hl, hL, hsr, hg2, fun k hk => (hna k (hNa k hk)).trans (ha k hk)⟩
set_option maxHeartbeats 4000000 in
theorem vr_callSi (pc' : Nat) (av : List vx_V) (rest : List vx_V) (hd : decode M.2.1 pc = .ok (.invokestatic idx, 3)) (hpc : pc + 3 = pc') (hw : vx_ms M.1.cls idx M2) (hdn : vx_dn M2 n) (hn : av.length = n) (hst : av.reverse ++ rest = st) (hrest : rest.length ≤ 8) (hR : R2.frames + 1 ≤ R.frames ∧ 8 + (M2.2.2.1 + 11) + R2.locals ≤ R.locals) (hrc : R2.cells = mc2 ∧ R2.slots = ms2) (hf : kc + mc2 ≤ R.cells ∧ ks + ms2 ≤ R.slots) (hNa : ∀ k, Na k → Na2 k) (hrf : ∀ k, (some (Sum.inr (some k)) ∈ L ∨ Sum.inr (some k) ∈ rest) → Na2 k) (hM : vx_Ci l M2 R2 Na2 mc2 ms2 av sh g P2) (kk : ∀ (r : Int) (sh' : List vx_H) (g' : vx_M), P2 (some r) sh' g' → vx_in r → vx_gR g' → vJ l M R Na P mc ms (kc + mc2) (ks + ms2) sh' g' pc' L (.inl r :: rest)) : vJ l M R Na P mc ms kc ks sh g pc L st := by
  intro p e s m args below meth c D cs ad0 A Qc hC H locs ad ls hX
  obtain ⟨hx, hb, hr, hml, hown, hts, hlk, hnm, ⟨hK, hKN⟩, hA, hQ⟩ := id hC
  obtain ⟨hP, hD, hS, hl, hL, hs, hg, ha⟩ := id hX
  subst hpc
  subst hst
  have hsa := vx_sR_app hs
  have hM1 := hM hg (vx_sR_rev hsa.1) D cs ad H.size
  have hsr : vx_sR rest := hsa.2
  have hstk : (av.reverse ++ rest).map (vx_v ad) = (av.map (vx_v ad)).reverse ++ rest.map (vx_v ad) := by rw [List.map_append, List.map_reverse]
  have hFc : ∀ q, va_A (vx_w cs ad sh g) H.size q → A q := fun q h => by
    rcases h with ⟨k, e9, h⟩ | h
    · exact hD.2 k (q, e9) h
    · exact hA q (Nat.le_trans hS.1 h)
  have hbl : FrameBlind (va_Pc (av.map (vx_v ad)) (fun U => U.heap.size = H.size ∧ va_P D vwCl (vx_w cs ad sh g) U.heap ∧ (va_K D vwCl (vx_t cs) U ∧ vx_N U) ∧ va_D (fun _ => True) (vx_w cs ad sh g))) := fun a U g9 mk q => by
    obtain ⟨q0, q1, qP, qK, qD⟩ := q
    exact ⟨q0, q1, qP, ⟨va_K.moved (u := U) (U := U.calling g9 mk a) (Vm.Alike.refl U.vm) qK.1, vx_N.same rfl qK.2⟩, qD⟩
  refine va_calli (va_runS (As := av.map (vx_v ad)) (rest := rest.map (vx_v ad)) ⟨hx, hb, hml, hown, hts⟩ hM1 (va_cwS n hts (vx_goodS hw) rfl hrc.1 hrc.2 hdn hR) ⟨hbl, fun U hU hW => ⟨rfl, by rw [hU], by rw [hU]; exact hP, ⟨va_K.moved hW.alike hK, hKN.warm hW⟩, hD.weaken (fun _ _ _ _ => trivial)⟩⟩ rfl (by rw [List.length_map]; exact hn) hl.1 hstk (lv_room (by rw [vx_sum]; exact hrest)) hd hf) hS (fun q _ h => hFc q h) hFc (fun r u t H1 locs1 ht hvm hw1 hB hz1 hk1 hS1 => ?_)
  obtain ⟨z, sh', g', ad'⟩ := u
  obtain ⟨hr1, hz, hp2, hg2, hna⟩ := hw1
  obtain ⟨hP1, hK1, hD1⟩ := hB
  rw [ht] at hP1
  dsimp only at hr1 hz hp2 hg2 hna hP1 hD1
  rw [hr1, show (Value.int (Int32.ofInt z) :: rest.map (vx_v ad)) = ((.inl z :: rest).map (vx_v ad')) by rw [List.map_cons, vx_st_ad (ad := ad) (ad' := ad') (fun k hk => hna k (hrf k (Or.inr hk)))]; rfl]
  exact kk z sh' g' hp2 hz hg2 p e s m args below meth c D cs ad0 A Qc hC H1 locs1 ad' ls ⟨hP1, hD1.weaken (fun _ _ _ h => hFc _ h), hS1, vx_l_ad (fun k hk => hna k (hrf k (Or.inl hk))) hl, hL, vx_sR_i hz hsr, hg2, fun k hk => (hna k (hNa k hk)).trans (ha k hk)⟩
set_option maxHeartbeats 4000000 in
theorem vr_callSv (pc' : Nat) (av : List vx_V) (rest : List vx_V) (hd : decode M.2.1 pc = .ok (.invokestatic idx, 3)) (hpc : pc + 3 = pc') (hw : vx_ms M.1.cls idx M2) (hdn : vx_dn M2 n) (hn : av.length = n) (hst : av.reverse ++ rest = st) (hrest : rest.length ≤ 8) (hR : R2.frames + 1 ≤ R.frames ∧ 8 + (M2.2.2.1 + 11) + R2.locals ≤ R.locals) (hrc : R2.cells = mc2 ∧ R2.slots = ms2) (hf : kc + mc2 ≤ R.cells ∧ ks + ms2 ≤ R.slots) (hNa : ∀ k, Na k → Na2 k) (hrf : ∀ k, (some (Sum.inr (some k)) ∈ L ∨ Sum.inr (some k) ∈ rest) → Na2 k) (hM : vx_Cv l M2 R2 Na2 mc2 ms2 av sh g P2) (kk : ∀ (sh' : List vx_H) (g' : vx_M), P2 none sh' g' → vx_gR g' → vJ l M R Na P mc ms (kc + mc2) (ks + ms2) sh' g' pc' L rest) : vJ l M R Na P mc ms kc ks sh g pc L st := by
  intro p e s m args below meth c D cs ad0 A Qc hC H locs ad ls hX
  obtain ⟨hx, hb, hr, hml, hown, hts, hlk, hnm, ⟨hK, hKN⟩, hA, hQ⟩ := id hC
  obtain ⟨hP, hD, hS, hl, hL, hs, hg, ha⟩ := id hX
  subst hpc
  subst hst
  have hsa := vx_sR_app hs
  have hM1 := hM hg (vx_sR_rev hsa.1) D cs ad H.size
  have hsr : vx_sR rest := hsa.2
  have hstk : (av.reverse ++ rest).map (vx_v ad) = (av.map (vx_v ad)).reverse ++ rest.map (vx_v ad) := by rw [List.map_append, List.map_reverse]
  have hFc : ∀ q, va_A (vx_w cs ad sh g) H.size q → A q := fun q h => by
    rcases h with ⟨k, e9, h⟩ | h
    · exact hD.2 k (q, e9) h
    · exact hA q (Nat.le_trans hS.1 h)
  have hbl : FrameBlind (va_Pc (av.map (vx_v ad)) (fun U => U.heap.size = H.size ∧ va_P D vwCl (vx_w cs ad sh g) U.heap ∧ (va_K D vwCl (vx_t cs) U ∧ vx_N U) ∧ va_D (fun _ => True) (vx_w cs ad sh g))) := fun a U g9 mk q => by
    obtain ⟨q0, q1, qP, qK, qD⟩ := q
    exact ⟨q0, q1, qP, ⟨va_K.moved (u := U) (U := U.calling g9 mk a) (Vm.Alike.refl U.vm) qK.1, vx_N.same rfl qK.2⟩, qD⟩
  refine va_callv (va_runS (As := av.map (vx_v ad)) (rest := rest.map (vx_v ad)) ⟨hx, hb, hml, hown, hts⟩ hM1 (va_cwS n hts (vx_goodS hw) rfl hrc.1 hrc.2 hdn hR) ⟨hbl, fun U hU hW => ⟨rfl, by rw [hU], by rw [hU]; exact hP, ⟨va_K.moved hW.alike hK, hKN.warm hW⟩, hD.weaken (fun _ _ _ _ => trivial)⟩⟩ rfl (by rw [List.length_map]; exact hn) hl.1 hstk (lv_room (by rw [vx_sum]; exact hrest)) hd hf) hS (fun q _ h => hFc q h) hFc (fun u t H1 locs1 ht hvm hw1 hB hz1 hk1 hS1 => ?_)
  obtain ⟨sh', g', ad'⟩ := u
  obtain ⟨hp2, hg2, hna⟩ := hw1
  obtain ⟨hP1, hK1, hD1⟩ := hB
  rw [ht] at hP1
  dsimp only at hp2 hg2 hna hP1 hD1
  rw [← vx_st_ad (ad := ad) (ad' := ad') (fun k hk => hna k (hrf k (Or.inr hk)))]
  exact kk sh' g' hp2 hg2 p e s m args below meth c D cs ad0 A Qc hC H1 locs1 ad' ls ⟨hP1, hD1.weaken (fun _ _ _ h => hFc _ h), hS1, vx_l_ad (fun k hk => hna k (hrf k (Or.inl hk))) hl, hL, hsr, hg2, fun k hk => (hna k (hNa k hk)).trans (ha k hk)⟩
set_option maxHeartbeats 4000000 in
theorem vr_callIv (pc' : Nat) (av : List vx_V) (k0 : Nat) (rest : List vx_V) (hd : decode M.2.1 pc = .ok (.invokespecial idx, 3)) (hpc : pc + 3 = pc') (hw : vx_mi M.1.cls idx M2) (hdn : vx_dn M2 n) (hn : av.length = n) (hst : av.reverse ++ .inr (some k0) :: rest = st) (hini : M2.1.name = "<init>") (hret : M2.2.2.2 = none) (hrest : rest.length ≤ 8) (hR : R2.frames + 1 ≤ R.frames ∧ 8 + (M2.2.2.1 + 11) + R2.locals ≤ R.locals) (hrc : R2.cells = mc2 ∧ R2.slots = ms2) (hf : kc + mc2 ≤ R.cells ∧ ks + ms2 ≤ R.slots) (hNa : ∀ k, Na k → Na2 k) (hrf : ∀ k, (some (Sum.inr (some k)) ∈ L ∨ Sum.inr (some k) ∈ rest) → Na2 k) (hM : vx_Cv l M2 R2 Na2 mc2 ms2 (.inr (some k0) :: av) sh g P2) (kk : ∀ (sh' : List vx_H) (g' : vx_M), P2 none sh' g' → vx_gR g' → vJ l M R Na P mc ms (kc + mc2) (ks + ms2) sh' g' pc' L rest) : vJ l M R Na P mc ms kc ks sh g pc L st := by
  intro p e s m args below meth c D cs ad0 A Qc hC H locs ad ls hX
  obtain ⟨hx, hb, hr, hml, hown, hts, hlk, hnm, ⟨hK, hKN⟩, hA, hQ⟩ := id hC
  obtain ⟨hP, hD, hS, hl, hL, hs, hg, ha⟩ := id hX
  subst hpc
  subst hst
  have hsa := vx_sR_app hs
  have hM1 := hM hg (vx_sR_r (vx_sR_rev hsa.1)) D cs ad H.size
  have hsr : vx_sR rest := vx_sR_t hsa.2
  have hstk : (av.reverse ++ .inr (some k0) :: rest).map (vx_v ad) = (av.map (vx_v ad)).reverse ++ Value.ref (ad k0) :: rest.map (vx_v ad) := by rw [List.map_append, List.map_reverse]; rfl
  have hFc : ∀ q, va_A (vx_w cs ad sh g) H.size q → A q := fun q h => by
    rcases h with ⟨k, e9, h⟩ | h
    · exact hD.2 k (q, e9) h
    · exact hA q (Nat.le_trans hS.1 h)
  have hbl : FrameBlind (va_Pc ((.inr (some k0) :: av).map (vx_v ad)) (fun U => U.heap.size = H.size ∧ va_P D vwCl (vx_w cs ad sh g) U.heap ∧ (va_K D vwCl (vx_t cs) U ∧ vx_N U) ∧ va_D (fun _ => True) (vx_w cs ad sh g))) := fun a U g9 mk q => by
    obtain ⟨q0, q1, qP, qK, qD⟩ := q
    exact ⟨q0, q1, qP, ⟨va_K.moved (u := U) (U := U.calling g9 mk a) (Vm.Alike.refl U.vm) qK.1, vx_N.same rfl qK.2⟩, qD⟩
  refine va_callv (va_runI (As := av.map (vx_v ad)) (rest := rest.map (vx_v ad)) ⟨hx, hb, hml, hown, hts⟩ hM1 (cwI n hts (vx_good hw.2.2.2) (by rw [hret]) hrc.1 hrc.2 (hts _ hw.2.2.1) (hts _ hw.1) (hts _ hw.2.1) hini hdn hR) ⟨hbl, fun U hU hW => ⟨rfl, by rw [hU], by rw [hU]; exact hP, ⟨va_K.moved hW.alike hK, hKN.warm hW⟩, hD.weaken (fun _ _ _ _ => trivial)⟩⟩ rfl (by rw [List.length_map]; exact hn) hl.1 hstk (lv_room (by rw [vx_sum]; exact hrest)) hd hf) hS (fun q _ h => hFc q h) hFc (fun u t H1 locs1 ht hvm hw1 hB hz1 hk1 hS1 => ?_)
  obtain ⟨sh', g', ad'⟩ := u
  obtain ⟨hp2, hg2, hna⟩ := hw1
  obtain ⟨hP1, hK1, hD1⟩ := hB
  rw [ht] at hP1
  dsimp only at hp2 hg2 hna hP1 hD1
  rw [← vx_st_ad (ad := ad) (ad' := ad') (fun k hk => hna k (hrf k (Or.inr hk)))]
  exact kk sh' g' hp2 hg2 p e s m args below meth c D cs ad0 A Qc hC H1 locs1 ad' ls ⟨hP1, hD1.weaken (fun _ _ _ h => hFc _ h), hS1, vx_l_ad (fun k hk => hna k (hrf k (Or.inl hk))) hl, hL, hsr, hg2, fun k hk => (hna k (hNa k hk)).trans (ha k hk)⟩
set_option maxHeartbeats 4000000 in
theorem vr_callNv (pc' : Nat) (av : List vx_V) (k0 : Nat) (rest : List vx_V) {host : String} (hd : decode M.2.1 pc = .ok (.invokespecial idx, 3)) (hpc : pc + 3 = pc') (hw : vx_mn M.1.cls idx M2 host) (hdn : vx_dn M2 n) (hn : av.length = n) (hst : av.reverse ++ .inr (some k0) :: rest = st) (hini : M2.1.name = "<init>") (hret : M2.2.2.2 = none) (hrest : rest.length ≤ 8) (hR : R2.frames + 1 ≤ R.frames ∧ 8 + (M2.2.2.1 + 11) + R2.locals ≤ R.locals) (hrc : R2.cells = mc2 ∧ R2.slots = ms2) (hf : kc + mc2 ≤ R.cells ∧ ks + ms2 ≤ R.slots) (hNa : ∀ k, Na k → Na2 k) (hrf : ∀ k, (some (Sum.inr (some k)) ∈ L ∨ Sum.inr (some k) ∈ rest) → Na2 k) (hM : vx_Cv l M2 R2 Na2 mc2 ms2 (.inr (some k0) :: av) sh g P2) (kk : ∀ (sh' : List vx_H) (g' : vx_M), P2 none sh' g' → vx_gR g' → vJ l M R Na P mc ms (kc + mc2) (ks + ms2) sh' g' pc' L rest) : vJ l M R Na P mc ms kc ks sh g pc L st := by
  intro p e s m args below meth c D cs ad0 A Qc hC H locs ad ls hX
  obtain ⟨hx, hb, hr, hml, hown, hts, hlk, hnm, ⟨hK, hKN⟩, hA, hQ⟩ := id hC
  obtain ⟨hP, hD, hS, hl, hL, hs, hg, ha⟩ := id hX
  subst hpc
  subst hst
  have hsa := vx_sR_app hs
  have hM1 := hM hg (vx_sR_r (vx_sR_rev hsa.1)) D cs ad H.size
  have hsr : vx_sR rest := vx_sR_t hsa.2
  have hstk : (av.reverse ++ .inr (some k0) :: rest).map (vx_v ad) = (av.map (vx_v ad)).reverse ++ Value.ref (ad k0) :: rest.map (vx_v ad) := by rw [List.map_append, List.map_reverse]; rfl
  have hFc : ∀ q, va_A (vx_w cs ad sh g) H.size q → A q := fun q h => by
    rcases h with ⟨k, e9, h⟩ | h
    · exact hD.2 k (q, e9) h
    · exact hA q (Nat.le_trans hS.1 h)
  have hbl : FrameBlind (va_Pc ((.inr (some k0) :: av).map (vx_v ad)) (fun U => U.heap.size = H.size ∧ va_P D vwCl (vx_w cs ad sh g) U.heap ∧ (va_K D vwCl (vx_t cs) U ∧ vx_N U) ∧ va_D (fun _ => True) (vx_w cs ad sh g))) := fun a U g9 mk q => by
    obtain ⟨q0, q1, qP, qK, qD⟩ := q
    exact ⟨q0, q1, qP, ⟨va_K.moved (u := U) (U := U.calling g9 mk a) (Vm.Alike.refl U.vm) qK.1, vx_N.same rfl qK.2⟩, qD⟩
  refine va_callv (va_runIN (As := av.map (vx_v ad)) (rest := rest.map (vx_v ad)) ⟨hx, hb, hml, hown, hts⟩ hM1 ⟨va_cnB n hts (vx_good hw.2.2.2) (by rw [hret]) hrc.1 hrc.2 (hw.1 s hKN) (hts _ hw.2.2.1) hdn hR, hini, hts _ hw.2.1⟩ ⟨hbl, fun U hU hW => ⟨rfl, by rw [hU], by rw [hU]; exact hP, ⟨va_K.moved hW.alike hK, hKN.warm hW⟩, hD.weaken (fun _ _ _ _ => trivial)⟩⟩ rfl (by rw [List.length_map]; exact hn) hl.1 hstk (lv_room (by rw [vx_sum]; exact hrest)) hd hf) hS (fun q _ h => hFc q h) hFc (fun u t H1 locs1 ht hvm hw1 hB hz1 hk1 hS1 => ?_)
  obtain ⟨sh', g', ad'⟩ := u
  obtain ⟨hp2, hg2, hna⟩ := hw1
  obtain ⟨hP1, hK1, hD1⟩ := hB
  rw [ht] at hP1
  dsimp only at hp2 hg2 hna hP1 hD1
  rw [← vx_st_ad (ad := ad) (ad' := ad') (fun k hk => hna k (hrf k (Or.inr hk)))]
  exact kk sh' g' hp2 hg2 p e s m args below meth c D cs ad0 A Qc hC H1 locs1 ad' ls ⟨hP1, hD1.weaken (fun _ _ _ h => hFc _ h), hS1, vx_l_ad (fun k hk => hna k (hrf k (Or.inl hk))) hl, hL, hsr, hg2, fun k hk => (hna k (hNa k hk)).trans (ha k hk)⟩
end VXC
section VXM
variable {l : Launch} {M : vx_Me} {R : Room} {Na : Nat → Prop} {P : vx_P} {mc ms kc ks : Nat} {sh : List vx_H} {g : vx_M} {pc : Nat} {L : List (Option vx_V)} {st : List vx_V}
theorem vr_mmin (pc' : Nat) {idx : Nat} {x y : Int} (hd : decode M.2.1 pc = .ok (.invokestatic idx, 3)) (hpc : pc + 3 = pc') (hlink : Cond.methodLink M.1.cls idx Lib.Math.min.name ∈ vx_tb) (hstat : Cond.static Lib.Math.min.name ∈ vx_tb) (hini : Cond.initialized "java/lang/Math" ∈ vx_tb) (hcode : Cond.code Lib.Math.min.name Lib.Math.min.code 2 (some .int) ∈ vx_tb) (hfr : 1 ≤ R.frames) (hlo : st.length + 13 ≤ R.locals) (hcs : kc ≤ R.cells ∧ ks ≤ R.slots) (kk : vJ l M R Na P mc ms kc ks sh g pc' L (.inl (min x y) :: st)) : vJ l M R Na P mc ms kc ks sh g pc L (.inl y :: .inl x :: st) := by
  intro p e s m args below meth c D cs ad0 A Qc hC H locs ad ls hX
  obtain ⟨hx, hb, hr, hml, hown, hts, hlk, hnm, ⟨hK, hKN⟩, hA, hQ⟩ := id hC
  obtain ⟨hP, hD, hS, hl, hL, hs, hg, ha⟩ := id hX
  subst hpc
  have hy := vx_sR_h hs
  have hxx := vx_sR_h (vx_sR_t hs)
  have e9 : (if Int32.ofInt y < Int32.ofInt x then Int32.ofInt y else Int32.ofInt x) = Int32.ofInt (min x y) := by
    by_cases h : y < x
    · rw [if_pos ((vx_lt hy hxx).mpr h), show min x y = y by omega]
    · rw [if_neg (fun q => h ((vx_lt hy hxx).mp q)), show min x y = x by omega]
  refine va_mmin hx hb (hml.trans hl.1.symm) hown (hts _ hlink) (hts _ hstat) (hts _ hini) (hts _ hcode) hfr (by rw [vx_sum]; exact hlo) hcs.1 hcs.2 hd ?_
  rw [e9]
  have hin : vx_in (min x y) := by unfold vx_in at hxx hy ⊢; omega
  exact kk p e s m args below meth c D cs ad0 A Qc hC H locs ad ls ⟨hP, hD, hS, hl, hL, vx_sR_i hin (vx_sR_t (vx_sR_t hs)), hg, ha⟩
theorem vr_mmax (pc' : Nat) {idx : Nat} {x y : Int} (hd : decode M.2.1 pc = .ok (.invokestatic idx, 3)) (hpc : pc + 3 = pc') (hlink : Cond.methodLink M.1.cls idx Lib.Math.max.name ∈ vx_tb) (hstat : Cond.static Lib.Math.max.name ∈ vx_tb) (hini : Cond.initialized "java/lang/Math" ∈ vx_tb) (hcode : Cond.code Lib.Math.max.name Lib.Math.max.code 2 (some .int) ∈ vx_tb) (hfr : 1 ≤ R.frames) (hlo : st.length + 13 ≤ R.locals) (hcs : kc ≤ R.cells ∧ ks ≤ R.slots) (kk : vJ l M R Na P mc ms kc ks sh g pc' L (.inl (max x y) :: st)) : vJ l M R Na P mc ms kc ks sh g pc L (.inl y :: .inl x :: st) := by
  intro p e s m args below meth c D cs ad0 A Qc hC H locs ad ls hX
  obtain ⟨hx, hb, hr, hml, hown, hts, hlk, hnm, ⟨hK, hKN⟩, hA, hQ⟩ := id hC
  obtain ⟨hP, hD, hS, hl, hL, hs, hg, ha⟩ := id hX
  subst hpc
  have hy := vx_sR_h hs
  have hxx := vx_sR_h (vx_sR_t hs)
  have e9 : (if Int32.ofInt x < Int32.ofInt y then Int32.ofInt y else Int32.ofInt x) = Int32.ofInt (max x y) := by
    by_cases h : x < y
    · rw [if_pos ((vx_lt hxx hy).mpr h), show max x y = y by omega]
    · rw [if_neg (fun q => h ((vx_lt hxx hy).mp q)), show max x y = x by omega]
  refine va_mmax hx hb (hml.trans hl.1.symm) hown (hts _ hlink) (hts _ hstat) (hts _ hini) (hts _ hcode) hfr (by rw [vx_sum]; exact hlo) hcs.1 hcs.2 hd ?_
  rw [e9]
  have hin : vx_in (max x y) := by unfold vx_in at hxx hy ⊢; omega
  exact kk p e s m args below meth c D cs ad0 A Qc hC H locs ad ls ⟨hP, hD, hS, hl, hL, vx_sR_i hin (vx_sR_t (vx_sR_t hs)), hg, ha⟩
theorem vr_acopy (pc' : Nat) {idx k0 k1 n0 n1 : Nat} {sp dp n : Int} (hd : decode M.2.1 pc = .ok (.invokestatic idx, 3)) (hpc : pc + 3 = pc') (hlink : Cond.methodLink M.1.cls idx arraycopyName ∈ vx_tb) (hnat : Cond.native arraycopyName ∈ vx_tb) (hstat : Cond.static arraycopyName ∈ vx_tb) (hini : Cond.initialized "java/lang/System" ∈ vx_tb) (he0 : sh[k0]? = some (.inr (.inl (false, n0)))) (he1 : sh[k1]? = some (.inr (.inl (false, n1)))) (h1 : 0 ≤ sp) (h2 : 0 ≤ dp) (h3 : 0 ≤ n) (h4 : sp + n ≤ n0) (h5 : dp + n ≤ n1) (hfr : 1 ≤ R.frames) (hlo : st.length + (nativeFrameWords "java/lang/System" "arraycopy" 5 + 11) ≤ R.locals) (kk : vJ l M R Na P mc ms kc ks sh (vx_cp g k0 k1 sp dp n) pc' L st) : vJ l M R Na P mc ms kc ks sh g pc L (.inl n :: .inl dp :: .inr (some k1) :: .inl sp :: .inr (some k0) :: st) := by
  intro p e s m args below meth c D cs ad0 A Qc hC H locs ad ls hX
  obtain ⟨hx, hb, hr, hml, hown, hts, hlk, hnm, ⟨hK, hKN⟩, hA, hQ⟩ := id hC
  obtain ⟨hP, hD, hS, hl, hL, hs, hg, ha⟩ := id hX
  subst hpc
  have qn := vx_sR_h hs
  have qd := vx_sR_h (vx_sR_t hs)
  have qs := vx_sR_h (vx_sR_t (vx_sR_t (vx_sR_t hs)))
  have hng : ∀ z : Int, vx_in z → 0 ≤ z → ¬ Int32.ofInt z < 0 := fun z hz h q => by
    have := (vx_lt hz vx_in0).mp q
    omega
  refine va_copyi hx hb (hml.trans hl.1.symm) hown (hts _ hlink) (hts _ hnat) (hts _ hstat) (hts _ hini) hK hP hD hS k0 k1 0 0 (ty := .int) (vx_w_get he0) (vx_w_get he1) rfl rfl rfl (hng sp qs h1) (hng dp qd h2) (hng n qn h3) (by rw [vx_nat qs, vx_nat qn]; omega) (by rw [vx_nat qd, vx_nat qn]; omega) (fun i _ => rfl) hfr (by rw [vx_sum]; exact hlo) hd (fun H1 locs1 hP1 hD1 hS1 => ?_)
  rw [vx_nat qs, vx_nat qd, vx_nat qn] at hP1 hD1
  have ef : (va_cpy (fun j : Nat => Int32.ofInt (g k0 j)) (fun j : Nat => Int32.ofInt (g k1 j)) sp.toNat dp.toNat n.toNat) = (fun j : Nat => Int32.ofInt (vx_cp g k0 k1 sp dp n k1 j)) := by
    funext j
    unfold va_cpy vx_cp
    rw [if_pos rfl]
    by_cases hj : dp.toNat ≤ j ∧ j < dp.toNat + n.toNat
    · rw [if_pos hj, if_pos (by omega)]
      have e3 : ((sp.toNat + (j - dp.toNat) : Nat) : Int) = sp + ((j : Int) - dp) := by omega
      rw [← e3]
    · rw [if_neg hj, if_neg (by omega)]
  have e2 := vx_w_set (cs := cs) (ad := ad) (g := g) (g' := vx_cp g k0 k1 sp dp n) he1 (fun a b h => by simp [vx_cp, h]) rfl
  have hP1 : va_P D vwCl (vx_w cs ad sh (vx_cp g k0 k1 sp dp n)) H1 := by
    rw [ef] at hP1
    rw [← e2]; exact hP1
  have hD1 : va_D A (vx_w cs ad sh (vx_cp g k0 k1 sp dp n)) := by
    rw [ef] at hD1
    rw [← e2]; exact hD1
  exact kk p e s m args below meth c D cs ad0 A Qc hC H1 locs1 ad ls ⟨hP1, hD1, hS1, hl, hL, vx_sR_t (vx_sR_t (vx_sR_t (vx_sR_t (vx_sR_t hs)))), vx_gR_cp hg, ha⟩
theorem vr_obj (pc' : Nat) {idx k : Nat} (hd : decode M.2.1 pc = .ok (.invokespecial idx, 3)) (hpc : pc + 3 = pc') (hlink : Cond.methodLink M.1.cls idx Lib.objectInit ∈ vx_tb) (hinst : Cond.instanceMethod Lib.objectInit ∈ vx_tb) (hcode : Cond.code Lib.objectInit ⟨#[0xb1]⟩ 1 none ∈ vx_tb) (hfr : 1 ≤ R.frames) (hlo : st.length + 12 ≤ R.locals) (kk : vJ l M R Na P mc ms kc ks sh g pc' L st) : vJ l M R Na P mc ms kc ks sh g pc L (.inr (some k) :: st) := by
  intro p e s m args below meth c D cs ad0 A Qc hC H locs ad ls hX
  obtain ⟨hx, hb, hr, hml, hown, hts, hlk, hnm, ⟨hK, hKN⟩, hA, hQ⟩ := id hC
  obtain ⟨hP, hD, hS, hl, hL, hs, hg, ha⟩ := id hX
  subst hpc
  refine W.objInit (a := ad k) (rest := st.map (vx_v ad)) hx hb hown (hts _ hlink) (hts _ hinst) (hts _ hcode) rfl (hl.1.trans hml.symm) rfl hd hfr (by rw [vx_sum]; show 2 * 0 + _ + 12 ≤ _; omega) ?_
  exact kk p e s m args below meth c D cs ad0 A Qc hC H locs ad ls ⟨hP, hD, hS, hl, hL, vx_sR_t hs, hg, ha⟩
end VXM
end
section
theorem vx_N.use {A : Array Value} {U : State} (h : vx_N U) : (Cond.arrayOver (.array .int)).before A U = true := h.2
/-! making cells -/
def vx_rh (n : Nat) : vx_H → Bool
  | .inl (_, fs) => fs.all (fun f => match f with | some (some k) => decide (k < n) | _ => true)
  | .inr (.inl _) => true
  | .inr (.inr rs) => rs.all (fun f => match f with | some k => decide (k < n) | _ => true)
def vx_rv (n : Nat) : vx_V → Bool
  | .inr (some k) => decide (k < n)
  | _ => true
def vx_rl (n : Nat) : Option vx_V → Bool
  | some v => vx_rv n v
  | none => true
/-- every reference is to a cell that is there -/
def vx_rok (sh : List vx_H) (L : List (Option vx_V)) (st : List vx_V) : Bool := sh.all (vx_rh sh.length) && L.all (vx_rl sh.length) && st.all (vx_rv sh.length)
theorem vx_e_ad {cs : vx_Cs} {ad ad' : Nat → Nat} {g g' : vx_M} {n k : Nat} {x : vx_H} (h : vx_rh n x = true) (hk : k < n) (ha : ∀ i, i < n → ad' i = ad i) (hg : ∀ a b, a < n → g' a b = g a b) : vx_e cs ad' g' k x = vx_e cs ad g k x := by
  rw [vx_e_congr (g := g) (g' := g') x (fun b => hg k b hk)]
  rcases x with ⟨ci, fs⟩ | ⟨b, m⟩ | rs
  · simp only [vx_e, vx_fs]
    congr 2
    apply List.ext_getElem?
    intro i
    rw [List.getElem?_mapIdx, List.getElem?_mapIdx]
    cases hi : fs[i]? with
    | none => rfl
    | some f =>
      have h1 := List.all_eq_true.mp h f (List.mem_of_getElem? hi)
      cases f with
      | none => rfl
      | some r =>
        cases r with
        | none => rfl
        | some q =>
          have hq : q < n := of_decide_eq_true h1
          show some (va_rf (some (ad' q))) = some (va_rf (some (ad q)))
          rw [ha q hq]
  · rfl
  · simp only [vx_e]
    congr 7
    funext j
    rw [List.getD_eq_getElem?_getD]
    cases hi : rs[j]? with
    | none => rfl
    | some f =>
      have h1 := List.all_eq_true.mp h f (List.mem_of_getElem? hi)
      cases f with
      | none => rfl
      | some q =>
        have hq : q < n := of_decide_eq_true h1
        show some (ad' q) = some (ad q)
        rw [ha q hq]
theorem vx_w_app {cs : vx_Cs} {ad ad' : Nat → Nat} {g g' : vx_M} {sh hs : List vx_H} (h : sh.all (vx_rh sh.length) = true) (ha : ∀ i, i < sh.length → ad' i = ad i) (hg : ∀ a b, a < sh.length → g' a b = g a b) : vx_w cs ad' (sh ++ hs) g' = vx_w cs ad sh g ++ hs.mapIdx (fun i x => (ad' (sh.length + i), vx_e cs ad' g' (sh.length + i) x)) := by
  apply List.ext_getElem?
  intro i
  by_cases hi : i < sh.length
  · rw [List.getElem?_append_left (by unfold vx_w; rw [List.length_mapIdx]; exact hi)]
    unfold vx_w
    rw [List.getElem?_mapIdx, List.getElem?_mapIdx, List.getElem?_append_left hi]
    cases hx : sh[i]? with
    | none => rfl
    | some x =>
      show some (ad' i, vx_e cs ad' g' i x) = some (ad i, vx_e cs ad g i x)
      rw [ha i hi, vx_e_ad (List.all_eq_true.mp h x (List.mem_of_getElem? hx)) hi ha hg]
  · rw [List.getElem?_append_right (by unfold vx_w; rw [List.length_mapIdx]; omega)]
    unfold vx_w
    rw [List.length_mapIdx, List.getElem?_mapIdx, List.getElem?_mapIdx, List.getElem?_append_right (by omega)]
    cases hs[i - sh.length]? with
    | none => rfl
    | some x =>
      show some (ad' i, vx_e cs ad' g' i x) = some (ad' (sh.length + (i - sh.length)), vx_e cs ad' g' (sh.length + (i - sh.length)) x)
      rw [show sh.length + (i - sh.length) = i by omega]
theorem vx_rok_L {sh : List vx_H} {L : List (Option vx_V)} {st : List vx_V} (h : vx_rok sh L st = true) : ∀ k, some (Sum.inr (some k)) ∈ L → k < sh.length := fun k hk => by
  unfold vx_rok at h
  simp only [Bool.and_eq_true] at h
  exact of_decide_eq_true (List.all_eq_true.mp h.1.2 _ hk)
theorem vx_rok_st {sh : List vx_H} {L : List (Option vx_V)} {st : List vx_V} (h : vx_rok sh L st = true) : ∀ k, Sum.inr (some k) ∈ st → k < sh.length := fun k hk => by
  unfold vx_rok at h
  simp only [Bool.and_eq_true] at h
  exact of_decide_eq_true (List.all_eq_true.mp h.2 _ hk)
theorem vx_rok_sh {sh : List vx_H} {L : List (Option vx_V)} {st : List vx_V} (h : vx_rok sh L st = true) : sh.all (vx_rh sh.length) = true := by
  unfold vx_rok at h
  simp only [Bool.and_eq_true] at h
  exact h.1.1
section VXA
variable {l : Launch} {M : vx_Me} {R : Room} {Na : Nat → Prop} {P : vx_P} {mc ms kc ks : Nat} {sh : List vx_H} {g : vx_M} {pc : Nat} {L : List (Option vx_V)} {st : List vx_V}
set_option maxHeartbeats 4000000 in
theorem vr_new (pc' : Nat) (sh' : List vx_H) (k' : Nat) (fs0 : List (Option (Option Nat))) {ci : Nat} {C : String} {T : u_T} {N : Nat} {ty : Nat → FieldType} {idx : Nat} (hcl : vx_cl ci C T N ty) (hlk9 : Cond.classLink M.1.cls idx C ∈ vx_tb) (hin9 : Cond.instantiable C N ∈ vx_tb) (hini : Cond.initialized C ∈ vx_tb) (hd : decode M.2.1 pc = .ok (.new idx, 3)) (hpc : pc + 3 = pc') (hfs : ∀ j, j < N → (fs0[j]? = some none ∧ defaultValue (ty j) = .int 0) ∨ (fs0[j]? = some (some none) ∧ defaultValue (ty j) = .null)) (hf : kc + 1 ≤ R.cells ∧ ks + N ≤ R.slots) (hnr : ∀ (i x : Nat), fs0[i]? ≠ some (some (some x))) (hNa : ∀ k, Na k → k < sh.length) (hok : vx_rok sh L st = true) (hsh : sh ++ [.inl (ci, fs0)] = sh') (hk' : sh.length = k') (kk : vJ l M R Na P mc ms (kc + 1) (ks + N) sh' (vx_z g k') pc' L (.inr (some k') :: st)) : vJ l M R Na P mc ms kc ks sh g pc L st := by
  intro p e s m args below meth c D cs ad0 A Qc hC H locs ad ls hX
  obtain ⟨hx, hb, hr, hml, hown, hts, hlk, hnm, ⟨hK, hKN⟩, hA, hQ⟩ := id hC
  obtain ⟨hP, hD, hS, hl, hL, hs, hg, ha⟩ := id hX
  subst hpc
  subst hsh
  subst hk'
  refine va_new (fs := vx_fs (fun k => k) (vx_z g sh.length) sh.length fs0) hx hb hts hcl.2.1 ty hcl.2.2.1 hown (hts _ hlk9) (hts _ hin9) (hts _ hini) hK hP hD hS hA hcl.1 (fun j hj => ?_) hf.1 hf.2 hd (fun q H1 hP2 hD2 hS1 => ?_)
  · unfold vp_V
    rcases hfs j hj with ⟨h1, h2⟩ | ⟨h1, h2⟩
    · rw [List.getD_eq_getElem?_getD, vx_fs_get h1, h2]
      show Value.int 0 = Value.int (Int32.ofInt (vx_z g sh.length sh.length j))
      rw [show vx_z g sh.length sh.length j = 0 from if_pos (Nat.le_refl _)]
      rfl
    · rw [List.getD_eq_getElem?_getD, vx_fs_get h1, h2]
      rfl
  have hok1 : ∀ i, i < sh.length → (fun k => if k < sh.length then ad k else q) i = ad i := fun i hi => if_pos hi
  have hz1 : ∀ a b, a < sh.length → vx_z g sh.length a b = g a b := fun a b h => if_neg (by omega)
  have efs : vx_fs (fun k => k) (vx_z g sh.length) sh.length fs0 = vx_fs (fun k => if k < sh.length then ad k else q) (vx_z g sh.length) (sh.length + 0) fs0 := by
    apply List.ext_getElem?
    intro i
    unfold vx_fs
    rw [List.getElem?_mapIdx, List.getElem?_mapIdx]
    cases hi : fs0[i]? with
    | none => rfl
    | some f =>
      cases f with
      | none => rfl
      | some r =>
        cases r with
        | none => rfl
        | some x => exact absurd hi (hnr i x)
  rw [efs] at hP2 hD2
  have ew := vx_w_app (cs := cs) (ad := ad) (ad' := (fun k => if k < sh.length then ad k else q)) (g := g) (g' := vx_z g sh.length) (hs := [.inl (ci, fs0)]) (vx_rok_sh hok) hok1 hz1
  have eq1 : (fun k => if k < sh.length then ad k else q) (sh.length + 0) = q := if_neg (by omega)
  rw [← vx_st_ad (ad := ad) (ad' := (fun k => if k < sh.length then ad k else q)) (fun k hk => hok1 k (vx_rok_st hok k hk))]
  have hrf : (Value.ref q :: st.map (vx_v (fun k => if k < sh.length then ad k else q))) = ((.inr (some sh.length) :: st).map (vx_v (fun k => if k < sh.length then ad k else q))) := by
    show _ = va_rf (some ((fun k => if k < sh.length then ad k else q) sh.length)) :: _
    rw [show (fun k => if k < sh.length then ad k else q) sh.length = q from if_neg (by omega)]
    rfl
  rw [hrf]
  have hP1 : va_P D vwCl (vx_w cs (fun k => if k < sh.length then ad k else q) (sh ++ [.inl (ci, fs0)]) (vx_z g sh.length)) H1 := by
    rw [ew]
    show va_P D vwCl (_ ++ [((fun k => if k < sh.length then ad k else q) (sh.length + 0), vx_e cs (fun k => if k < sh.length then ad k else q) (vx_z g sh.length) (sh.length + 0) (.inl (ci, fs0)))]) H1
    rw [eq1]; exact hP2
  have hD1 : va_D A (vx_w cs (fun k => if k < sh.length then ad k else q) (sh ++ [.inl (ci, fs0)]) (vx_z g sh.length)) := by
    rw [ew]
    show va_D A (_ ++ [((fun k => if k < sh.length then ad k else q) (sh.length + 0), vx_e cs (fun k => if k < sh.length then ad k else q) (vx_z g sh.length) (sh.length + 0) (.inl (ci, fs0)))])
    rw [eq1]; exact hD2
  exact kk p e s m args below meth c D cs ad0 A Qc hC H1 locs (fun k => if k < sh.length then ad k else q) ls ⟨hP1, hD1, hS1, vx_l_ad (fun k hk => hok1 k (vx_rok_L hok k hk)) hl, hL, vx_sR_r hs, vx_gR_z hg, fun k hk => (hok1 k (hNa k hk)).trans (ha k hk)⟩
set_option maxHeartbeats 4000000 in
theorem vr_newi (pc' : Nat) (sh' : List vx_H) (k' : Nat) {n : Int} {N' : Nat} (harr : Cond.arrayClass .int ∈ vx_tb) (hn : n = (N' : Int)) (hsm : N' ≤ 1000) (hd : decode M.2.1 pc = .ok (.newarray .int, 2)) (hpc : pc + 2 = pc') (hf : kc + 1 ≤ R.cells ∧ ks + N' ≤ R.slots) (hNa : ∀ k, Na k → k < sh.length) (hok : vx_rok sh L st = true) (hsh : sh ++ [.inr (.inl (false, N'))] = sh') (hk' : sh.length = k') (kk : vJ l M R Na P mc ms (kc + 1) (ks + N') sh' (vx_z g k') pc' L (.inr (some k') :: st)) : vJ l M R Na P mc ms kc ks sh g pc L (.inl n :: st) := by
  intro p e s m args below meth c D cs ad0 A Qc hC H locs ad ls hX
  obtain ⟨hx, hb, hr, hml, hown, hts, hlk, hnm, ⟨hK, hKN⟩, hA, hQ⟩ := id hC
  obtain ⟨hP, hD, hS, hl, hL, hs, hg, ha⟩ := id hX
  subst hpc
  subst hsh
  subst hk'
  subst hn
  have hin : vx_in (N' : Int) := vx_sR_h hs
  refine va_newa (atype := .int) (a0 := (N', .inl (fun _ => (0 : Int32)))) (N' := N') hx hb (hts _ harr) rfl hK hP hD hS hA (fun _ => rfl) (fun h => by have := (vx_lt hin vx_in0).mp h; omega) (by rw [vx_nat hin]; rfl) (by show N' * 4 ≤ 536870912; omega) hf.1 hf.2 hd (fun q cA H1 hK2 hP2 hD2 hS1 => ?_)
  have ecA : cA = cs.1 := by
    have h1 := (hK.2 0 _ rfl).2
    have h2 := (hK2.2 3 (cA, .int) rfl).2
    exact Option.some.inj (h2.symm.trans h1)
  subst ecA
  have hok1 : ∀ i, i < sh.length → (fun k => if k < sh.length then ad k else q) i = ad i := fun i hi => if_pos hi
  have hz1 : ∀ a b, a < sh.length → vx_z g sh.length a b = g a b := fun a b h => if_neg (by omega)
  have efs : (Sum.inl (cs.1, (N', .inl (fun _ => (0 : Int32)))) : va_E) = vx_e cs (fun k => if k < sh.length then ad k else q) (vx_z g sh.length) (sh.length + 0) (.inr (.inl (false, N'))) := by
    show _ = Sum.inl (cs.1, N', Sum.inl (fun j : Nat => Int32.ofInt (vx_z g sh.length (sh.length + 0) j)))
    rw [show (fun j : Nat => Int32.ofInt (vx_z g sh.length (sh.length + 0) j)) = fun _ => (0 : Int32) from funext fun j => by rw [show vx_z g sh.length (sh.length + 0) j = 0 from if_pos (Nat.le_refl _)]; rfl]
  rw [efs] at hP2 hD2
  have ew := vx_w_app (cs := cs) (ad := ad) (ad' := (fun k => if k < sh.length then ad k else q)) (g := g) (g' := vx_z g sh.length) (hs := [.inr (.inl (false, N'))]) (vx_rok_sh hok) hok1 hz1
  have eq1 : (fun k => if k < sh.length then ad k else q) (sh.length + 0) = q := if_neg (by omega)
  rw [← vx_st_ad (ad := ad) (ad' := (fun k => if k < sh.length then ad k else q)) (fun k hk => hok1 k (vx_rok_st hok k hk))]
  have hrf : (Value.ref q :: st.map (vx_v (fun k => if k < sh.length then ad k else q))) = ((.inr (some sh.length) :: st).map (vx_v (fun k => if k < sh.length then ad k else q))) := by
    show _ = va_rf (some ((fun k => if k < sh.length then ad k else q) sh.length)) :: _
    rw [show (fun k => if k < sh.length then ad k else q) sh.length = q from if_neg (by omega)]
    rfl
  rw [hrf]
  have hP1 : va_P D vwCl (vx_w cs (fun k => if k < sh.length then ad k else q) (sh ++ [.inr (.inl (false, N'))]) (vx_z g sh.length)) H1 := by
    rw [ew]
    show va_P D vwCl (_ ++ [((fun k => if k < sh.length then ad k else q) (sh.length + 0), vx_e cs (fun k => if k < sh.length then ad k else q) (vx_z g sh.length) (sh.length + 0) (.inr (.inl (false, N'))))]) H1
    rw [eq1]; exact hP2
  have hD1 : va_D A (vx_w cs (fun k => if k < sh.length then ad k else q) (sh ++ [.inr (.inl (false, N'))]) (vx_z g sh.length)) := by
    rw [ew]
    show va_D A (_ ++ [((fun k => if k < sh.length then ad k else q) (sh.length + 0), vx_e cs (fun k => if k < sh.length then ad k else q) (vx_z g sh.length) (sh.length + 0) (.inr (.inl (false, N'))))])
    rw [eq1]; exact hD2
  exact kk p e s m args below meth c D cs ad0 A Qc hC H1 locs (fun k => if k < sh.length then ad k else q) ls ⟨hP1, hD1, hS1, vx_l_ad (fun k hk => hok1 k (vx_rok_L hok k hk)) hl, hL, vx_sR_r (vx_sR_t hs), vx_gR_z hg, fun k hk => (hok1 k (hNa k hk)).trans (ha k hk)⟩
set_option maxHeartbeats 4000000 in
theorem vr_newz (pc' : Nat) (sh' : List vx_H) (k' : Nat) {n : Int} {N' : Nat} (harr : Cond.arrayClass .boolean ∈ vx_tb) (hn : n = (N' : Int)) (hsm : N' ≤ 1000) (hd : decode M.2.1 pc = .ok (.newarray .boolean, 2)) (hpc : pc + 2 = pc') (hf : kc + 1 ≤ R.cells ∧ ks + N' ≤ R.slots) (hNa : ∀ k, Na k → k < sh.length) (hok : vx_rok sh L st = true) (hsh : sh ++ [.inr (.inl (true, N'))] = sh') (hk' : sh.length = k') (kk : vJ l M R Na P mc ms (kc + 1) (ks + N') sh' (vx_z g k') pc' L (.inr (some k') :: st)) : vJ l M R Na P mc ms kc ks sh g pc L (.inl n :: st) := by
  intro p e s m args below meth c D cs ad0 A Qc hC H locs ad ls hX
  obtain ⟨hx, hb, hr, hml, hown, hts, hlk, hnm, ⟨hK, hKN⟩, hA, hQ⟩ := id hC
  obtain ⟨hP, hD, hS, hl, hL, hs, hg, ha⟩ := id hX
  subst hpc
  subst hsh
  subst hk'
  subst hn
  have hin : vx_in (N' : Int) := vx_sR_h hs
  refine va_newa (atype := .boolean) (a0 := (N', .inl (fun _ => (0 : Int32)))) (N' := N') hx hb (hts _ harr) rfl hK hP hD hS hA (fun _ => rfl) (fun h => by have := (vx_lt hin vx_in0).mp h; omega) (by rw [vx_nat hin]; rfl) (by show N' * 1 ≤ 536870912; omega) hf.1 hf.2 hd (fun q cA H1 hK2 hP2 hD2 hS1 => ?_)
  have ecA : cA = cs.2.1 := by
    have h1 := (hK.2 1 _ rfl).2
    have h2 := (hK2.2 3 (cA, .boolean) rfl).2
    exact Option.some.inj (h2.symm.trans h1)
  subst ecA
  have hok1 : ∀ i, i < sh.length → (fun k => if k < sh.length then ad k else q) i = ad i := fun i hi => if_pos hi
  have hz1 : ∀ a b, a < sh.length → vx_z g sh.length a b = g a b := fun a b h => if_neg (by omega)
  have efs : (Sum.inl (cs.2.1, (N', .inl (fun _ => (0 : Int32)))) : va_E) = vx_e cs (fun k => if k < sh.length then ad k else q) (vx_z g sh.length) (sh.length + 0) (.inr (.inl (true, N'))) := by
    show _ = Sum.inl (cs.2.1, N', Sum.inl (fun j : Nat => Int32.ofInt (vx_z g sh.length (sh.length + 0) j)))
    rw [show (fun j : Nat => Int32.ofInt (vx_z g sh.length (sh.length + 0) j)) = fun _ => (0 : Int32) from funext fun j => by rw [show vx_z g sh.length (sh.length + 0) j = 0 from if_pos (Nat.le_refl _)]; rfl]
  rw [efs] at hP2 hD2
  have ew := vx_w_app (cs := cs) (ad := ad) (ad' := (fun k => if k < sh.length then ad k else q)) (g := g) (g' := vx_z g sh.length) (hs := [.inr (.inl (true, N'))]) (vx_rok_sh hok) hok1 hz1
  have eq1 : (fun k => if k < sh.length then ad k else q) (sh.length + 0) = q := if_neg (by omega)
  rw [← vx_st_ad (ad := ad) (ad' := (fun k => if k < sh.length then ad k else q)) (fun k hk => hok1 k (vx_rok_st hok k hk))]
  have hrf : (Value.ref q :: st.map (vx_v (fun k => if k < sh.length then ad k else q))) = ((.inr (some sh.length) :: st).map (vx_v (fun k => if k < sh.length then ad k else q))) := by
    show _ = va_rf (some ((fun k => if k < sh.length then ad k else q) sh.length)) :: _
    rw [show (fun k => if k < sh.length then ad k else q) sh.length = q from if_neg (by omega)]
    rfl
  rw [hrf]
  have hP1 : va_P D vwCl (vx_w cs (fun k => if k < sh.length then ad k else q) (sh ++ [.inr (.inl (true, N'))]) (vx_z g sh.length)) H1 := by
    rw [ew]
    show va_P D vwCl (_ ++ [((fun k => if k < sh.length then ad k else q) (sh.length + 0), vx_e cs (fun k => if k < sh.length then ad k else q) (vx_z g sh.length) (sh.length + 0) (.inr (.inl (true, N'))))]) H1
    rw [eq1]; exact hP2
  have hD1 : va_D A (vx_w cs (fun k => if k < sh.length then ad k else q) (sh ++ [.inr (.inl (true, N'))]) (vx_z g sh.length)) := by
    rw [ew]
    show va_D A (_ ++ [((fun k => if k < sh.length then ad k else q) (sh.length + 0), vx_e cs (fun k => if k < sh.length then ad k else q) (vx_z g sh.length) (sh.length + 0) (.inr (.inl (true, N'))))])
    rw [eq1]; exact hD2
  exact kk p e s m args below meth c D cs ad0 A Qc hC H1 locs (fun k => if k < sh.length then ad k else q) ls ⟨hP1, hD1, hS1, vx_l_ad (fun k hk => hok1 k (vx_rok_L hok k hk)) hl, hL, vx_sR_r (vx_sR_t hs), vx_gR_z hg, fun k hk => (hok1 k (hNa k hk)).trans (ha k hk)⟩
end VXA
section VXG
variable {l : Launch} {M : vx_Me} {R : Room} {Na : Nat → Prop} {P : vx_P} {mc ms kc ks : Nat} {sh : List vx_H} {g : vx_M} {pc : Nat} {L : List (Option vx_V)} {st : List vx_V}
set_option maxHeartbeats 4000000 in
theorem vr_mna (pc' : Nat) (sh' : List vx_H) (k' : Nat) {n k : Int} {N' K' idx : Nat} (hclk : Cond.classLink M.1.cls idx "[[I" ∈ vx_tb) (harr : Cond.arrayClass .int ∈ vx_tb) (hn : n = (N' : Int)) (hk : k = (K' : Int)) (hsm : N' ≤ 1000 ∧ K' ≤ 1000) (hd : decode M.2.1 pc = .ok (.multianewarray idx 2, 4)) (hpc : pc + 4 = pc') (hf : kc + (1 + N') ≤ R.cells ∧ ks + (N' + N' * K') ≤ R.slots) (hNa : ∀ k, Na k → k < sh.length) (hok : vx_rok sh L st = true) (hsh : sh ++ (.inr (.inr ((List.range N').map (fun i => some (sh.length + 1 + i)))) :: List.replicate N' (.inr (.inl (false, K')))) = sh') (hk' : sh.length = k') (kk : vJ l M R Na P mc ms (kc + 1 + N') (ks + N' + N' * K') sh' (vx_z g k') pc' L (.inr (some k') :: st)) : vJ l M R Na P mc ms kc ks sh g pc L (.inl k :: .inl n :: st) := by
  intro p e s m args below meth c D cs ad0 A Qc hC H locs ad ls hX
  obtain ⟨hx, hb, hr, hml, hown, hts, hlk, hnm, ⟨hK, hKN⟩, hA, hQ⟩ := id hC
  obtain ⟨hP, hD, hS, hl, hL, hs, hg, ha⟩ := id hX
  subst hpc
  subst hsh
  subst hk'
  subst hn
  subst hk
  have hink : vx_in (K' : Int) := vx_sR_h hs
  have hinn : vx_in (N' : Int) := vx_sR_h (vx_sR_t hs)
  have hXP : va_P D vwCl (vx_w cs ad sh g ++ va_pl [] (fun _ => .inr (0, []))) H := by
    rw [show va_pl [] (fun _ => (.inr (0, []) : va_E)) = [] from rfl, List.append_nil]; exact hP
  have hXD : va_D A (vx_w cs ad sh g ++ va_pl [] (fun _ => .inr (0, []))) := by
    rw [show va_pl [] (fun _ => (.inr (0, []) : va_E)) = [] from rfl, List.append_nil]; exact hD
  refine va_mna (ty := .int) (cy := cs.1) (z := (K', .inl (fun _ => (0 : Int32)))) (N' := N') (K' := K') hx hb hown (hts _ hclk) (vx_N.use hKN) (hts _ harr) (hK.2 0 _ rfl).2 hK hXP hXD hS hA (fun h => by have := (vx_lt hinn vx_in0).mp h; omega) (fun h => by have := (vx_lt hink vx_in0).mp h; omega) (by rw [vx_nat hinn]; rfl) (by rw [vx_nat hink]; rfl) (by omega) (by show K' * 4 ≤ 536870912; omega) (by omega) rfl rfl hf.1 hf.2 (fun c9 => by rw [vp_cell_i]; exact (arrV_new _ _ _).symm.symm) hd (fun q r cA H1 hinj _ hK2 hP2 hD2 hS1 => ?_)
  have ecA : cA = cs.2.2 := by
    have h1 := (hK.2 2 _ rfl).2
    have h2 := (hK2.2 3 (cA, .array .int) rfl).2
    exact Option.some.inj (h2.symm.trans h1)
  subst ecA
  have hok1 : ∀ i, i < sh.length → (fun k => if k < sh.length then ad k else if k = sh.length then q else r (k - sh.length - 1)) i = ad i := fun i hi => if_pos hi
  have hz1 : ∀ a b, a < sh.length → vx_z g sh.length a b = g a b := fun a b h => if_neg (by omega)
  have hq1 : (fun k => if k < sh.length then ad k else if k = sh.length then q else r (k - sh.length - 1)) sh.length = q := by simp
  have hr1 : ∀ i, (fun k => if k < sh.length then ad k else if k = sh.length then q else r (k - sh.length - 1)) (sh.length + 1 + i) = r i := fun i => by
    show (if sh.length + 1 + i < sh.length then _ else _) = _
    rw [if_neg (by omega), if_neg (by omega), show sh.length + 1 + i - sh.length - 1 = i by omega]
  have ew := vx_w_app (cs := cs) (ad := ad) (ad' := (fun k => if k < sh.length then ad k else if k = sh.length then q else r (k - sh.length - 1))) (g := g) (g' := vx_z g sh.length) (hs := (.inr (.inr ((List.range N').map (fun i => some (sh.length + 1 + i)))) :: List.replicate N' (.inr (.inl (false, K'))))) (vx_rok_sh hok) hok1 hz1
  have e1 : vx_w cs ad sh g ++ [(q, .inl (cs.2.2, N', .inr (.inr (.inr (.inr (fun i => if i < N' then some (r i) else none))))))] ++ va_pl ([] ++ (List.range N').map r) (vr_up (fun _ => .inr (0, [])) ((List.range N').map r) (.inl (cs.1, (K', .inl (fun _ => (0 : Int32)))))) = vx_w cs (fun k => if k < sh.length then ad k else if k = sh.length then q else r (k - sh.length - 1)) (sh ++ (.inr (.inr ((List.range N').map (fun i => some (sh.length + 1 + i)))) :: List.replicate N' (.inr (.inl (false, K'))))) (vx_z g sh.length) := by
    rw [ew, List.append_assoc]
    congr 1
    rw [List.mapIdx_cons]
    show _ :: _ = _
    congr 1
    · show (q, _) = ((fun k => if k < sh.length then ad k else if k = sh.length then q else r (k - sh.length - 1)) sh.length, _)
      rw [hq1]
      congr 1
      simp only [vx_e, List.length_map, List.length_range]
      congr 7
      funext i
      by_cases hi : i < N'
      · rw [if_pos hi, List.getD_eq_getElem?_getD, List.getElem?_map, List.getElem?_range hi]
        show some (r i) = some ((fun k => if k < sh.length then ad k else if k = sh.length then q else r (k - sh.length - 1)) (sh.length + 1 + i))
        rw [hr1 i]
      · rw [if_neg hi, List.getD_eq_getElem?_getD, List.getElem?_eq_none (by simp; omega)]
        rfl
    · apply List.ext_getElem?
      intro i
      unfold va_pl
      rw [List.nil_append, List.map_map]
      show (List.map _ (List.range N'))[i]? = _
      rw [List.getElem?_map, List.getElem?_mapIdx]
      by_cases hi : i < N'
      · rw [List.getElem?_range hi, List.getElem?_replicate, if_pos hi]
        show some (r i, vr_up _ _ _ (r i)) = some ((fun k => if k < sh.length then ad k else if k = sh.length then q else r (k - sh.length - 1)) (sh.length + (i + 1)), _)
        rw [vr_up_in (List.mem_map.mpr ⟨i, List.mem_range.mpr hi, rfl⟩), show sh.length + (i + 1) = sh.length + 1 + i by omega, hr1 i]
        show some (r i, Sum.inl (cs.1, K', Sum.inl fun _ => (0 : Int32))) = some (r i, Sum.inl (cs.1, K', Sum.inl (fun j : Nat => Int32.ofInt (vx_z g sh.length (sh.length + 1 + i) j))))
        rw [show (fun j : Nat => Int32.ofInt (vx_z g sh.length (sh.length + 1 + i) j)) = fun _ => (0 : Int32) from funext fun j => by rw [show vx_z g sh.length (sh.length + 1 + i) j = 0 from if_pos (by omega)]; rfl]
      · rw [List.getElem?_eq_none (by simp; omega), List.getElem?_eq_none (by simp; omega)]
        rfl
  rw [e1] at hP2 hD2
  rw [← vx_st_ad (ad := ad) (ad' := (fun k => if k < sh.length then ad k else if k = sh.length then q else r (k - sh.length - 1))) (fun k hk => hok1 k (vx_rok_st hok k hk))]
  have hrf : (Value.ref q :: st.map (vx_v (fun k => if k < sh.length then ad k else if k = sh.length then q else r (k - sh.length - 1)))) = ((.inr (some sh.length) :: st).map (vx_v (fun k => if k < sh.length then ad k else if k = sh.length then q else r (k - sh.length - 1)))) := by
    show _ = va_rf (some ((fun k => if k < sh.length then ad k else if k = sh.length then q else r (k - sh.length - 1)) sh.length)) :: _
    rw [hq1]
    rfl
  rw [hrf]
  exact kk p e s m args below meth c D cs ad0 A Qc hC H1 locs (fun k => if k < sh.length then ad k else if k = sh.length then q else r (k - sh.length - 1)) ls ⟨hP2, hD2, hS1, vx_l_ad (fun k hk => hok1 k (vx_rok_L hok k hk)) hl, hL, vx_sR_r (vx_sR_t (vx_sR_t hs)), vx_gR_z hg, fun k hk => (hok1 k (hNa k hk)).trans (ha k hk)⟩
end VXG
end
section
def vx_rm (d a b : Nat) : Room := { frames := d, cells := a, slots := b, locals := 40 * d }
theorem vx_rmR {d a b a' b' n : Nat} (h : n ≤ 21) : (vx_rm d a b).frames + 1 ≤ (vx_rm (d + 1) a' b').frames ∧ 8 + (n + 11) + (vx_rm d a b).locals ≤ (vx_rm (d + 1) a' b').locals := by
  constructor
  · show d + 1 ≤ d + 1
    omega
  · show 8 + (n + 11) + 40 * d ≤ 40 * (d + 1)
    omega
theorem cl_X0 : vx_cl 0 RX0 TX0 7 tyX0 := ⟨rfl, by decide +kernel, tyX0_ok, nmX0⟩
theorem cl_X1 : vx_cl 1 RX1 TX1 7 tyX1 := ⟨rfl, by decide +kernel, tyX1_ok, nmX1⟩
theorem cl_X2 : vx_cl 2 RX2 TX2 3 tyX2 := ⟨rfl, by decide +kernel, tyX2_ok, nmX2⟩
theorem cl_X3 : vx_cl 3 RX3 TX3 13 tyX3 := ⟨rfl, by decide +kernel, tyX3_ok, nmX3⟩
theorem cl_X4 : vx_cl 4 RX4 TX4 6 tyX4 := ⟨rfl, by decide +kernel, tyX4_ok, nmX4⟩
theorem cl_X5 : vx_cl 5 RX5 TX5 10 tyX5 := ⟨rfl, by decide +kernel, tyX5_ok, nmX5⟩
theorem cl_X6 : vx_cl 6 RX6 TX6 32 tyX6 := ⟨rfl, by decide +kernel, tyX6_ok, nmX6⟩
theorem pn_X0 : plainName RX0 = true := by decide +kernel
theorem pn_X1 : plainName RX1 = true := by decide +kernel
theorem pn_X2 : plainName RX2 = true := by decide +kernel
theorem pn_X3 : plainName RX3 = true := by decide +kernel
theorem pn_X4 : plainName RX4 = true := by decide +kernel
theorem pn_X5 : plainName RX5 = true := by decide +kernel
theorem pn_X6 : plainName RX6 = true := by decide +kernel
theorem pn_J7 : plainName RJ7 = true := by decide +kernel
theorem fl_X4_9 : vx_fl RX4 9 TX4 0 := vx_tb_in 73 (by decide +kernel) rfl
theorem fl_X5_90 : vx_fl RX5 90 TX4 0 := vx_tb_in 74 (by decide +kernel) rfl
theorem fl_X2_76 : vx_fl RX2 76 TX4 0 := vx_tb_in 75 (by decide +kernel) rfl
theorem fl_X4_15 : vx_fl RX4 15 TX4 1 := vx_tb_in 76 (by decide +kernel) rfl
theorem fl_X2_70 : vx_fl RX2 70 TX4 1 := vx_tb_in 77 (by decide +kernel) rfl
theorem fl_X3_88 : vx_fl RX3 88 TX4 1 := vx_tb_in 78 (by decide +kernel) rfl
theorem fl_X4_18 : vx_fl RX4 18 TX4 2 := vx_tb_in 79 (by decide +kernel) rfl
theorem fl_X0_56 : vx_fl RX0 56 TX4 2 := vx_tb_in 80 (by decide +kernel) rfl
theorem fl_X2_48 : vx_fl RX2 48 TX4 2 := vx_tb_in 81 (by decide +kernel) rfl
theorem fl_X3_85 : vx_fl RX3 85 TX4 2 := vx_tb_in 82 (by decide +kernel) rfl
theorem fl_X4_23 : vx_fl RX4 23 TX4 3 := vx_tb_in 83 (by decide +kernel) rfl
theorem fl_X2_36 : vx_fl RX2 36 TX4 3 := vx_tb_in 84 (by decide +kernel) rfl
theorem fl_X3_131 : vx_fl RX3 131 TX4 3 := vx_tb_in 85 (by decide +kernel) rfl
theorem fl_X4_26 : vx_fl RX4 26 TX4 4 := vx_tb_in 86 (by decide +kernel) rfl
theorem fl_X5_93 : vx_fl RX5 93 TX4 4 := vx_tb_in 87 (by decide +kernel) rfl
theorem fl_X2_63 : vx_fl RX2 63 TX4 4 := vx_tb_in 88 (by decide +kernel) rfl
theorem fl_X4_30 : vx_fl RX4 30 TX4 5 := vx_tb_in 89 (by decide +kernel) rfl
theorem fl_X0_37 : vx_fl RX0 37 TX4 5 := vx_tb_in 90 (by decide +kernel) rfl
theorem fl_X5_87 : vx_fl RX5 87 TX4 5 := vx_tb_in 91 (by decide +kernel) rfl
theorem fl_X2_45 : vx_fl RX2 45 TX4 5 := vx_tb_in 92 (by decide +kernel) rfl
theorem fl_X3_76 : vx_fl RX3 76 TX4 5 := vx_tb_in 93 (by decide +kernel) rfl
theorem fl_X1_9 : vx_fl RX1 9 TX1 0 := vx_tb_in 114 (by decide +kernel) rfl
theorem fl_X2_73 : vx_fl RX2 73 TX1 0 := vx_tb_in 115 (by decide +kernel) rfl
theorem fl_X3_102 : vx_fl RX3 102 TX1 0 := vx_tb_in 116 (by decide +kernel) rfl
theorem fl_X1_15 : vx_fl RX1 15 TX1 1 := vx_tb_in 117 (by decide +kernel) rfl
theorem fl_X2_42 : vx_fl RX2 42 TX1 1 := vx_tb_in 118 (by decide +kernel) rfl
theorem fl_X3_125 : vx_fl RX3 125 TX1 1 := vx_tb_in 119 (by decide +kernel) rfl
theorem fl_X1_18 : vx_fl RX1 18 TX1 2 := vx_tb_in 120 (by decide +kernel) rfl
theorem fl_X2_33 : vx_fl RX2 33 TX1 2 := vx_tb_in 121 (by decide +kernel) rfl
theorem fl_X1_21 : vx_fl RX1 21 TX1 3 := vx_tb_in 122 (by decide +kernel) rfl
theorem fl_X2_29 : vx_fl RX2 29 TX1 3 := vx_tb_in 123 (by decide +kernel) rfl
theorem fl_X1_24 : vx_fl RX1 24 TX1 4 := vx_tb_in 124 (by decide +kernel) rfl
theorem fl_X0_68 : vx_fl RX0 68 TX1 4 := vx_tb_in 125 (by decide +kernel) rfl
theorem fl_X1_27 : vx_fl RX1 27 TX1 5 := vx_tb_in 126 (by decide +kernel) rfl
theorem fl_X2_23 : vx_fl RX2 23 TX1 5 := vx_tb_in 127 (by decide +kernel) rfl
theorem fl_X5_103 : vx_fl RX5 103 TX1 5 := vx_tb_in 128 (by decide +kernel) rfl
theorem fl_X1_31 : vx_fl RX1 31 TX1 6 := vx_tb_in 129 (by decide +kernel) rfl
theorem fl_X5_100 : vx_fl RX5 100 TX1 6 := vx_tb_in 130 (by decide +kernel) rfl
theorem fl_X3_91 : vx_fl RX3 91 TX1 6 := vx_tb_in 131 (by decide +kernel) rfl
theorem fl_X2_15 : vx_fl RX2 15 TX2 0 := vx_tb_in 154 (by decide +kernel) rfl
theorem fl_X2_19 : vx_fl RX2 19 TX2 1 := vx_tb_in 155 (by decide +kernel) rfl
theorem fl_X2_9 : vx_fl RX2 9 TX2 2 := vx_tb_in 156 (by decide +kernel) rfl
theorem fl_X5_107 : vx_fl RX5 107 TX2 2 := vx_tb_in 157 (by decide +kernel) rfl
theorem fl_X3_114 : vx_fl RX3 114 TX2 2 := vx_tb_in 158 (by decide +kernel) rfl
theorem fl_X3_47 : vx_fl RX3 47 TX3 0 := vx_tb_in 173 (by decide +kernel) rfl
theorem fl_X3_51 : vx_fl RX3 51 TX3 1 := vx_tb_in 174 (by decide +kernel) rfl
theorem fl_X3_55 : vx_fl RX3 55 TX3 2 := vx_tb_in 175 (by decide +kernel) rfl
theorem fl_X3_9 : vx_fl RX3 9 TX3 3 := vx_tb_in 176 (by decide +kernel) rfl
theorem fl_X3_17 : vx_fl RX3 17 TX3 4 := vx_tb_in 177 (by decide +kernel) rfl
theorem fl_X3_20 : vx_fl RX3 20 TX3 5 := vx_tb_in 178 (by decide +kernel) rfl
theorem fl_X3_23 : vx_fl RX3 23 TX3 6 := vx_tb_in 179 (by decide +kernel) rfl
theorem fl_X3_27 : vx_fl RX3 27 TX3 7 := vx_tb_in 180 (by decide +kernel) rfl
theorem fl_X3_30 : vx_fl RX3 30 TX3 8 := vx_tb_in 181 (by decide +kernel) rfl
theorem fl_X5_128 : vx_fl RX5 128 TX3 8 := vx_tb_in 182 (by decide +kernel) rfl
theorem fl_X3_33 : vx_fl RX3 33 TX3 9 := vx_tb_in 183 (by decide +kernel) rfl
theorem fl_X3_37 : vx_fl RX3 37 TX3 10 := vx_tb_in 184 (by decide +kernel) rfl
theorem fl_X3_41 : vx_fl RX3 41 TX3 11 := vx_tb_in 185 (by decide +kernel) rfl
theorem fl_X3_44 : vx_fl RX3 44 TX3 12 := vx_tb_in 186 (by decide +kernel) rfl
theorem fl_X0_25 : vx_fl RX0 25 TX0 0 := vx_tb_in 220 (by decide +kernel) rfl
theorem fl_X0_29 : vx_fl RX0 29 TX0 1 := vx_tb_in 221 (by decide +kernel) rfl
theorem fl_X0_33 : vx_fl RX0 33 TX0 2 := vx_tb_in 222 (by decide +kernel) rfl
theorem fl_X0_9 : vx_fl RX0 9 TX0 3 := vx_tb_in 223 (by decide +kernel) rfl
theorem fl_X0_15 : vx_fl RX0 15 TX0 4 := vx_tb_in 224 (by decide +kernel) rfl
theorem fl_X5_164 : vx_fl RX5 164 TX0 4 := vx_tb_in 225 (by decide +kernel) rfl
theorem fl_X0_18 : vx_fl RX0 18 TX0 5 := vx_tb_in 226 (by decide +kernel) rfl
theorem fl_X5_155 : vx_fl RX5 155 TX0 5 := vx_tb_in 227 (by decide +kernel) rfl
theorem fl_X0_22 : vx_fl RX0 22 TX0 6 := vx_tb_in 228 (by decide +kernel) rfl
theorem fl_X5_161 : vx_fl RX5 161 TX0 6 := vx_tb_in 229 (by decide +kernel) rfl
theorem fl_X5_10 : vx_fl RX5 10 TX5 0 := vx_tb_in 246 (by decide +kernel) rfl
theorem fl_X5_19 : vx_fl RX5 19 TX5 1 := vx_tb_in 247 (by decide +kernel) rfl
theorem fl_X5_28 : vx_fl RX5 28 TX5 2 := vx_tb_in 248 (by decide +kernel) rfl
theorem fl_X5_37 : vx_fl RX5 37 TX5 3 := vx_tb_in 249 (by decide +kernel) rfl
theorem fl_X5_44 : vx_fl RX5 44 TX5 4 := vx_tb_in 250 (by decide +kernel) rfl
theorem fl_X5_48 : vx_fl RX5 48 TX5 5 := vx_tb_in 251 (by decide +kernel) rfl
theorem fl_X5_52 : vx_fl RX5 52 TX5 6 := vx_tb_in 252 (by decide +kernel) rfl
theorem fl_X5_56 : vx_fl RX5 56 TX5 7 := vx_tb_in 253 (by decide +kernel) rfl
theorem fl_X5_60 : vx_fl RX5 60 TX5 8 := vx_tb_in 254 (by decide +kernel) rfl
theorem fl_X5_63 : vx_fl RX5 63 TX5 9 := vx_tb_in 255 (by decide +kernel) rfl
theorem fl_X6_7 : vx_fl RX6 7 TX6 0 := vx_tb_in 487 (by decide +kernel) rfl
theorem fl_X6_13 : vx_fl RX6 13 TX6 1 := vx_tb_in 488 (by decide +kernel) rfl
theorem fl_X6_81 : vx_fl RX6 81 TX6 2 := vx_tb_in 489 (by decide +kernel) rfl
theorem fl_X6_17 : vx_fl RX6 17 TX6 3 := vx_tb_in 490 (by decide +kernel) rfl
theorem fl_X6_20 : vx_fl RX6 20 TX6 4 := vx_tb_in 491 (by decide +kernel) rfl
theorem fl_X6_23 : vx_fl RX6 23 TX6 5 := vx_tb_in 492 (by decide +kernel) rfl
theorem fl_X6_26 : vx_fl RX6 26 TX6 6 := vx_tb_in 493 (by decide +kernel) rfl
theorem fl_X6_29 : vx_fl RX6 29 TX6 7 := vx_tb_in 494 (by decide +kernel) rfl
theorem fl_X6_32 : vx_fl RX6 32 TX6 8 := vx_tb_in 495 (by decide +kernel) rfl
theorem fl_X6_36 : vx_fl RX6 36 TX6 9 := vx_tb_in 496 (by decide +kernel) rfl
theorem fl_X6_88 : vx_fl RX6 88 TX6 10 := vx_tb_in 497 (by decide +kernel) rfl
theorem fl_X6_39 : vx_fl RX6 39 TX6 11 := vx_tb_in 498 (by decide +kernel) rfl
theorem fl_X6_42 : vx_fl RX6 42 TX6 12 := vx_tb_in 499 (by decide +kernel) rfl
theorem fl_X6_45 : vx_fl RX6 45 TX6 13 := vx_tb_in 500 (by decide +kernel) rfl
theorem fl_X6_95 : vx_fl RX6 95 TX6 14 := vx_tb_in 501 (by decide +kernel) rfl
theorem fl_X6_48 : vx_fl RX6 48 TX6 15 := vx_tb_in 502 (by decide +kernel) rfl
theorem fl_X6_51 : vx_fl RX6 51 TX6 16 := vx_tb_in 503 (by decide +kernel) rfl
theorem fl_X6_54 : vx_fl RX6 54 TX6 17 := vx_tb_in 504 (by decide +kernel) rfl
theorem fl_X6_114 : vx_fl RX6 114 TX6 18 := vx_tb_in 505 (by decide +kernel) rfl
theorem fl_X6_117 : vx_fl RX6 117 TX6 19 := vx_tb_in 506 (by decide +kernel) rfl
theorem fl_X6_57 : vx_fl RX6 57 TX6 20 := vx_tb_in 507 (by decide +kernel) rfl
theorem fl_X6_120 : vx_fl RX6 120 TX6 21 := vx_tb_in 508 (by decide +kernel) rfl
theorem fl_X6_126 : vx_fl RX6 126 TX6 22 := vx_tb_in 509 (by decide +kernel) rfl
theorem fl_X6_60 : vx_fl RX6 60 TX6 23 := vx_tb_in 510 (by decide +kernel) rfl
theorem fl_X6_63 : vx_fl RX6 63 TX6 24 := vx_tb_in 511 (by decide +kernel) rfl
theorem fl_X6_66 : vx_fl RX6 66 TX6 25 := vx_tb_in 512 (by decide +kernel) rfl
theorem fl_X6_69 : vx_fl RX6 69 TX6 26 := vx_tb_in 513 (by decide +kernel) rfl
theorem fl_X6_145 : vx_fl RX6 145 TX6 27 := vx_tb_in 514 (by decide +kernel) rfl
theorem fl_X6_148 : vx_fl RX6 148 TX6 28 := vx_tb_in 515 (by decide +kernel) rfl
theorem fl_X6_72 : vx_fl RX6 72 TX6 29 := vx_tb_in 516 (by decide +kernel) rfl
theorem fl_X6_75 : vx_fl RX6 75 TX6 30 := vx_tb_in 517 (by decide +kernel) rfl
theorem fl_X6_154 : vx_fl RX6 154 TX6 31 := vx_tb_in 518 (by decide +kernel) rfl
abbrev mX0_init : vx_Me := (yX0_init, cX0_init, 4, none)
theorem dn_X0_init : vx_dn mX0_init 3 := ⟨by decide +kernel, by decide +kernel, by decide +kernel⟩
theorem cd_X0_init : Cond.code mX0_init.1 mX0_init.2.1 mX0_init.2.2.1 mX0_init.2.2.2 ∈ vx_tb := vx_tb_in 218 (by decide +kernel) rfl
abbrev mX0_crowned : vx_Me := (yX0_crowned, cX0_crowned, 3, (some .int))
theorem dn_X0_crowned : vx_dn mX0_crowned 0 := ⟨by decide +kernel, by decide +kernel, by decide +kernel⟩
theorem cd_X0_crowned : Cond.code mX0_crowned.1 mX0_crowned.2.1 mX0_crowned.2.2.1 mX0_crowned.2.2.2 ∈ vx_tb := vx_tb_in 448 (by decide +kernel) rfl
abbrev mX0_run : vx_Me := (yX0_run, cX0_run, 5, none)
theorem dn_X0_run : vx_dn mX0_run 2 := ⟨by decide +kernel, by decide +kernel, by decide +kernel⟩
theorem cd_X0_run : Cond.code mX0_run.1 mX0_run.2.1 mX0_run.2.2.1 mX0_run.2.2.2 ∈ vx_tb := vx_tb_in 430 (by decide +kernel) rfl
abbrev mX0_ticksFor : vx_Me := (yX0_ticksFor, cX0_ticksFor, 2, (some .int))
theorem dn_X0_ticksFor : vx_dn mX0_ticksFor 1 := ⟨by decide +kernel, by decide +kernel, by decide +kernel⟩
theorem cd_X0_ticksFor : Cond.code mX0_ticksFor.1 mX0_ticksFor.2.1 mX0_ticksFor.2.2.1 mX0_ticksFor.2.2.2 ∈ vx_tb := vx_tb_in 435 (by decide +kernel) rfl
abbrev mX0_pass : vx_Me := (yX0_pass, cX0_pass, 8, (some .int))
theorem dn_X0_pass : vx_dn mX0_pass 5 := ⟨by decide +kernel, by decide +kernel, by decide +kernel⟩
theorem cd_X0_pass : Cond.code mX0_pass.1 mX0_pass.2.1 mX0_pass.2.2.1 mX0_pass.2.2.2 ∈ vx_tb := vx_tb_in 439 (by decide +kernel) rfl
abbrev mX0_tire : vx_Me := (yX0_tire, cX0_tire, 4, none)
theorem dn_X0_tire : vx_dn mX0_tire 2 := ⟨by decide +kernel, by decide +kernel, by decide +kernel⟩
theorem cd_X0_tire : Cond.code mX0_tire.1 mX0_tire.2.1 mX0_tire.2.2.1 mX0_tire.2.2.2 ∈ vx_tb := vx_tb_in 444 (by decide +kernel) rfl
abbrev mX1_init : vx_Me := (yX1_init, cX1_init, 1, none)
theorem dn_X1_init : vx_dn mX1_init 0 := ⟨by decide +kernel, by decide +kernel, by decide +kernel⟩
theorem cd_X1_init : Cond.code mX1_init.1 mX1_init.2.1 mX1_init.2.2.1 mX1_init.2.2.2 ∈ vx_tb := vx_tb_in 112 (by decide +kernel) rfl
abbrev mX1_add : vx_Me := (yX1_add, cX1_add, 6, (some .int))
theorem dn_X1_add : vx_dn mX1_add 5 := ⟨by decide +kernel, by decide +kernel, by decide +kernel⟩
theorem cd_X1_add : Cond.code mX1_add.1 mX1_add.2.1 mX1_add.2.2.1 mX1_add.2.2.2 ∈ vx_tb := vx_tb_in 304 (by decide +kernel) rfl
abbrev mX1_countOut : vx_Me := (yX1_countOut, cX1_countOut, 3, (some .int))
theorem dn_X1_countOut : vx_dn mX1_countOut 0 := ⟨by decide +kernel, by decide +kernel, by decide +kernel⟩
theorem cd_X1_countOut : Cond.code mX1_countOut.1 mX1_countOut.2.1 mX1_countOut.2.2.1 mX1_countOut.2.2.2 ∈ vx_tb := vx_tb_in 476 (by decide +kernel) rfl
abbrev mX2_init : vx_Me := (yX2_init, cX2_init, 3, none)
theorem dn_X2_init : vx_dn mX2_init 2 := ⟨by decide +kernel, by decide +kernel, by decide +kernel⟩
theorem cd_X2_init : Cond.code mX2_init.1 mX2_init.2.1 mX2_init.2.2.1 mX2_init.2.2.2 ∈ vx_tb := vx_tb_in 152 (by decide +kernel) rfl
abbrev mX2_goesTo : vx_Me := (yX2_goesTo, cX2_goesTo, 3, (some .boolean))
theorem dn_X2_goesTo : vx_dn mX2_goesTo 2 := ⟨by decide +kernel, by decide +kernel, by decide +kernel⟩
theorem cd_X2_goesTo : Cond.code mX2_goesTo.1 mX2_goesTo.2.1 mX2_goesTo.2.2.1 mX2_goesTo.2.2.2 ∈ vx_tb := vx_tb_in 340 (by decide +kernel) rfl
abbrev mX2_mostLoad : vx_Me := (yX2_mostLoad, cX2_mostLoad, 2, (some .int))
theorem dn_X2_mostLoad : vx_dn mX2_mostLoad 1 := ⟨by decide +kernel, by decide +kernel, by decide +kernel⟩
theorem cd_X2_mostLoad : Cond.code mX2_mostLoad.1 mX2_mostLoad.2.1 mX2_mostLoad.2.2.1 mX2_mostLoad.2.2.2 ∈ vx_tb := vx_tb_in 352 (by decide +kernel) rfl
abbrev mX2_loadOn : vx_Me := (yX2_loadOn, cX2_loadOn, 6, (some .int))
theorem dn_X2_loadOn : vx_dn mX2_loadOn 3 := ⟨by decide +kernel, by decide +kernel, by decide +kernel⟩
theorem cd_X2_loadOn : Cond.code mX2_loadOn.1 mX2_loadOn.2.1 mX2_loadOn.2.2.1 mX2_loadOn.2.2.2 ∈ vx_tb := vx_tb_in 401 (by decide +kernel) rfl
abbrev mX2_admit : vx_Me := (yX2_admit, cX2_admit, 4, (some .boolean))
theorem dn_X2_admit : vx_dn mX2_admit 1 := ⟨by decide +kernel, by decide +kernel, by decide +kernel⟩
theorem cd_X2_admit : Cond.code mX2_admit.1 mX2_admit.2.1 mX2_admit.2.2.1 mX2_admit.2.2.2 ∈ vx_tb := vx_tb_in 413 (by decide +kernel) rfl
abbrev mX2_spread : vx_Me := (yX2_spread, cX2_spread, 8, (some .int))
theorem dn_X2_spread : vx_dn mX2_spread 2 := ⟨by decide +kernel, by decide +kernel, by decide +kernel⟩
theorem cd_X2_spread : Cond.code mX2_spread.1 mX2_spread.2.1 mX2_spread.2.2.1 mX2_spread.2.2.2 ∈ vx_tb := vx_tb_in 420 (by decide +kernel) rfl
abbrev mX3_init : vx_Me := (yX3_init, cX3_init, 4, none)
theorem dn_X3_init : vx_dn mX3_init 3 := ⟨by decide +kernel, by decide +kernel, by decide +kernel⟩
theorem cd_X3_init : Cond.code mX3_init.1 mX3_init.2.1 mX3_init.2.2.1 mX3_init.2.2.2 ∈ vx_tb := vx_tb_in 170 (by decide +kernel) rfl
abbrev mX3_countFitting : vx_Me := (yX3_countFitting, cX3_countFitting, 1, (some .int))
theorem dn_X3_countFitting : vx_dn mX3_countFitting 0 := ⟨by decide +kernel, by decide +kernel, by decide +kernel⟩
theorem cd_X3_countFitting : Cond.code mX3_countFitting.1 mX3_countFitting.2.1 mX3_countFitting.2.2.1 mX3_countFitting.2.2.2 ∈ vx_tb := vx_tb_in 320 (by decide +kernel) rfl
abbrev mX3_seekLevel : vx_Me := (yX3_seekLevel, cX3_seekLevel, 1, (some .boolean))
theorem dn_X3_seekLevel : vx_dn mX3_seekLevel 0 := ⟨by decide +kernel, by decide +kernel, by decide +kernel⟩
theorem cd_X3_seekLevel : Cond.code mX3_seekLevel.1 mX3_seekLevel.2.1 mX3_seekLevel.2.2.1 mX3_seekLevel.2.2.2 ∈ vx_tb := vx_tb_in 364 (by decide +kernel) rfl
abbrev mX3_seekClose : vx_Me := (yX3_seekClose, cX3_seekClose, 2, (some .boolean))
theorem dn_X3_seekClose : vx_dn mX3_seekClose 1 := ⟨by decide +kernel, by decide +kernel, by decide +kernel⟩
theorem cd_X3_seekClose : Cond.code mX3_seekClose.1 mX3_seekClose.2.1 mX3_seekClose.2.2.1 mX3_seekClose.2.2.2 ∈ vx_tb := vx_tb_in 376 (by decide +kernel) rfl
abbrev mX3_uneven : vx_Me := (yX3_uneven, cX3_uneven, 1, (some .int))
theorem dn_X3_uneven : vx_dn mX3_uneven 0 := ⟨by decide +kernel, by decide +kernel, by decide +kernel⟩
theorem cd_X3_uneven : Cond.code mX3_uneven.1 mX3_uneven.2.1 mX3_uneven.2.2.1 mX3_uneven.2.2.2 ∈ vx_tb := vx_tb_in 368 (by decide +kernel) rfl
abbrev mX3_moves : vx_Me := (yX3_moves, cX3_moves, 1, (some .int))
theorem dn_X3_moves : vx_dn mX3_moves 0 := ⟨by decide +kernel, by decide +kernel, by decide +kernel⟩
theorem cd_X3_moves : Cond.code mX3_moves.1 mX3_moves.2.1 mX3_moves.2.2.1 mX3_moves.2.2.2 ∈ vx_tb := vx_tb_in 380 (by decide +kernel) rfl
abbrev mX3_start : vx_Me := (yX3_start, cX3_start, 3, none)
theorem dn_X3_start : vx_dn mX3_start 2 := ⟨by decide +kernel, by decide +kernel, by decide +kernel⟩
theorem cd_X3_start : Cond.code mX3_start.1 mX3_start.2.1 mX3_start.2.2.1 mX3_start.2.2.2 ∈ vx_tb := vx_tb_in 324 (by decide +kernel) rfl
abbrev mX3_walk : vx_Me := (yX3_walk, cX3_walk, 13, none)
theorem dn_X3_walk : vx_dn mX3_walk 4 := ⟨by decide +kernel, by decide +kernel, by decide +kernel⟩
theorem cd_X3_walk : Cond.code mX3_walk.1 mX3_walk.2.1 mX3_walk.2.2.1 mX3_walk.2.2.2 ∈ vx_tb := vx_tb_in 329 (by decide +kernel) rfl
abbrev mX3_goOnWith : vx_Me := (yX3_goOnWith, cX3_goOnWith, 6, none)
theorem dn_X3_goOnWith : vx_dn mX3_goOnWith 5 := ⟨by decide +kernel, by decide +kernel, by decide +kernel⟩
theorem cd_X3_goOnWith : Cond.code mX3_goOnWith.1 mX3_goOnWith.2.1 mX3_goOnWith.2.2.1 mX3_goOnWith.2.2.2 ∈ vx_tb := vx_tb_in 348 (by decide +kernel) rfl
abbrev mX3_bearsAlso : vx_Me := (yX3_bearsAlso, cX3_bearsAlso, 7, (some .boolean))
theorem dn_X3_bearsAlso : vx_dn mX3_bearsAlso 2 := ⟨by decide +kernel, by decide +kernel, by decide +kernel⟩
theorem cd_X3_bearsAlso : Cond.code mX3_bearsAlso.1 mX3_bearsAlso.2.1 mX3_bearsAlso.2.2.1 mX3_bearsAlso.2.2.2 ∈ vx_tb := vx_tb_in 356 (by decide +kernel) rfl
abbrev mX3_arrive : vx_Me := (yX3_arrive, cX3_arrive, 2, none)
theorem dn_X3_arrive : vx_dn mX3_arrive 1 := ⟨by decide +kernel, by decide +kernel, by decide +kernel⟩
theorem cd_X3_arrive : Cond.code mX3_arrive.1 mX3_arrive.2.1 mX3_arrive.2.2.1 mX3_arrive.2.2.2 ∈ vx_tb := vx_tb_in 333 (by decide +kernel) rfl
abbrev mX4_init : vx_Me := (yX4_init, cX4_init, 1, none)
theorem dn_X4_init : vx_dn mX4_init 0 := ⟨by decide +kernel, by decide +kernel, by decide +kernel⟩
theorem cd_X4_init : Cond.code mX4_init.1 mX4_init.2.1 mX4_init.2.2.1 mX4_init.2.2.2 ∈ vx_tb := vx_tb_in 51 (by decide +kernel) rfl
abbrev mX4_placesUpTo : vx_Me := (yX4_placesUpTo, cX4_placesUpTo, 4, (some .int))
theorem dn_X4_placesUpTo : vx_dn mX4_placesUpTo 1 := ⟨by decide +kernel, by decide +kernel, by decide +kernel⟩
theorem cd_X4_placesUpTo : Cond.code mX4_placesUpTo.1 mX4_placesUpTo.2.1 mX4_placesUpTo.2.2.1 mX4_placesUpTo.2.2.2 ∈ vx_tb := vx_tb_in 287 (by decide +kernel) rfl
abbrev mX4_build : vx_Me := (yX4_build, cX4_build, 4, none)
theorem dn_X4_build : vx_dn mX4_build 1 := ⟨by decide +kernel, by decide +kernel, by decide +kernel⟩
theorem cd_X4_build : Cond.code mX4_build.1 mX4_build.2.1 mX4_build.2.2.1 mX4_build.2.2.2 ∈ vx_tb := vx_tb_in 58 (by decide +kernel) rfl
abbrev mX4_shareOut : vx_Me := (yX4_shareOut, cX4_shareOut, 6, none)
theorem dn_X4_shareOut : vx_dn mX4_shareOut 3 := ⟨by decide +kernel, by decide +kernel, by decide +kernel⟩
theorem cd_X4_shareOut : Cond.code mX4_shareOut.1 mX4_shareOut.2.1 mX4_shareOut.2.2.1 mX4_shareOut.2.2.2 ∈ vx_tb := vx_tb_in 65 (by decide +kernel) rfl
abbrev mX4_restHalfOn : vx_Me := (yX4_restHalfOn, cX4_restHalfOn, 4, none)
theorem dn_X4_restHalfOn : vx_dn mX4_restHalfOn 2 := ⟨by decide +kernel, by decide +kernel, by decide +kernel⟩
theorem cd_X4_restHalfOn : Cond.code mX4_restHalfOn.1 mX4_restHalfOn.2.1 mX4_restHalfOn.2.2.1 mX4_restHalfOn.2.2.2 ∈ vx_tb := vx_tb_in 72 (by decide +kernel) rfl
abbrev mX5_init : vx_Me := (yX5_init, cX5_init, 1, none)
theorem dn_X5_init : vx_dn mX5_init 0 := ⟨by decide +kernel, by decide +kernel, by decide +kernel⟩
theorem cd_X5_init : Cond.code mX5_init.1 mX5_init.2.1 mX5_init.2.2.1 mX5_init.2.2.2 ∈ vx_tb := vx_tb_in 43 (by decide +kernel) rfl
abbrev mX5_storeys : vx_Me := (yX5_storeys, cX5_storeys, 2, (some .int))
theorem dn_X5_storeys : vx_dn mX5_storeys 1 := ⟨by decide +kernel, by decide +kernel, by decide +kernel⟩
theorem cd_X5_storeys : Cond.code mX5_storeys.1 mX5_storeys.2.1 mX5_storeys.2.2.1 mX5_storeys.2.2.2 ∈ vx_tb := vx_tb_in 280 (by decide +kernel) rfl
abbrev mX5_width : vx_Me := (yX5_width, cX5_width, 4, (some .int))
theorem dn_X5_width : vx_dn mX5_width 2 := ⟨by decide +kernel, by decide +kernel, by decide +kernel⟩
theorem cd_X5_width : Cond.code mX5_width.1 mX5_width.2.1 mX5_width.2.2.1 mX5_width.2.2.2 ∈ vx_tb := vx_tb_in 296 (by decide +kernel) rfl
abbrev mX5_person : vx_Me := (yX5_person, cX5_person, 6, (some .int))
theorem dn_X5_person : vx_dn mX5_person 5 := ⟨by decide +kernel, by decide +kernel, by decide +kernel⟩
theorem cd_X5_person : Cond.code mX5_person.1 mX5_person.2.1 mX5_person.2.2.1 mX5_person.2.2.2 ∈ vx_tb := vx_tb_in 300 (by decide +kernel) rfl
abbrev mX5_out : vx_Me := (yX5_out, cX5_out, 4, (some .int))
theorem dn_X5_out : vx_dn mX5_out 2 := ⟨by decide +kernel, by decide +kernel, by decide +kernel⟩
theorem cd_X5_out : Cond.code mX5_out.1 mX5_out.2.1 mX5_out.2.2.1 mX5_out.2.2.2 ∈ vx_tb := vx_tb_in 308 (by decide +kernel) rfl
abbrev mX5_play : vx_Me := (yX5_play, cX5_play, 3, (some .int))
theorem dn_X5_play : vx_dn mX5_play 1 := ⟨by decide +kernel, by decide +kernel, by decide +kernel⟩
theorem cd_X5_play : Cond.code mX5_play.1 mX5_play.2.1 mX5_play.2.2.1 mX5_play.2.2.2 ∈ vx_tb := vx_tb_in 312 (by decide +kernel) rfl
abbrev mX5_fits : vx_Me := (yX5_fits, cX5_fits, 1, (some .int))
theorem dn_X5_fits : vx_dn mX5_fits 0 := ⟨by decide +kernel, by decide +kernel, by decide +kernel⟩
theorem cd_X5_fits : Cond.code mX5_fits.1 mX5_fits.2.1 mX5_fits.2.2.1 mX5_fits.2.2.2 ∈ vx_tb := vx_tb_in 316 (by decide +kernel) rfl
abbrev mX5_level : vx_Me := (yX5_level, cX5_level, 1, (some .int))
theorem dn_X5_level : vx_dn mX5_level 0 := ⟨by decide +kernel, by decide +kernel, by decide +kernel⟩
theorem cd_X5_level : Cond.code mX5_level.1 mX5_level.2.1 mX5_level.2.2.1 mX5_level.2.2.2 ∈ vx_tb := vx_tb_in 360 (by decide +kernel) rfl
abbrev mX5_close : vx_Me := (yX5_close, cX5_close, 1, (some .int))
theorem dn_X5_close : vx_dn mX5_close 0 := ⟨by decide +kernel, by decide +kernel, by decide +kernel⟩
theorem cd_X5_close : Cond.code mX5_close.1 mX5_close.2.1 mX5_close.2.2.1 mX5_close.2.2.2 ∈ vx_tb := vx_tb_in 372 (by decide +kernel) rfl
abbrev mX5_take : vx_Me := (yX5_take, cX5_take, 3, (some .int))
theorem dn_X5_take : vx_dn mX5_take 1 := ⟨by decide +kernel, by decide +kernel, by decide +kernel⟩
theorem cd_X5_take : Cond.code mX5_take.1 mX5_take.2.1 mX5_take.2.2.1 mX5_take.2.2.2 ∈ vx_tb := vx_tb_in 384 (by decide +kernel) rfl
abbrev mX5_at : vx_Me := (yX5_at, cX5_at, 2, (some .int))
theorem dn_X5_at : vx_dn mX5_at 1 := ⟨by decide +kernel, by decide +kernel, by decide +kernel⟩
theorem cd_X5_at : Cond.code mX5_at.1 mX5_at.2.1 mX5_at.2.2.1 mX5_at.2.2.2 ∈ vx_tb := vx_tb_in 389 (by decide +kernel) rfl
abbrev mX5_load : vx_Me := (yX5_load, cX5_load, 2, (some .int))
theorem dn_X5_load : vx_dn mX5_load 1 := ⟨by decide +kernel, by decide +kernel, by decide +kernel⟩
theorem cd_X5_load : Cond.code mX5_load.1 mX5_load.2.1 mX5_load.2.2.1 mX5_load.2.2.2 ∈ vx_tb := vx_tb_in 397 (by decide +kernel) rfl
abbrev mX5_swap : vx_Me := (yX5_swap, cX5_swap, 3, (some .int))
theorem dn_X5_swap : vx_dn mX5_swap 2 := ⟨by decide +kernel, by decide +kernel, by decide +kernel⟩
theorem cd_X5_swap : Cond.code mX5_swap.1 mX5_swap.2.1 mX5_swap.2.2.1 mX5_swap.2.2.2 ∈ vx_tb := vx_tb_in 405 (by decide +kernel) rfl
abbrev mX5_tick : vx_Me := (yX5_tick, cX5_tick, 3, (some .int))
theorem dn_X5_tick : vx_dn mX5_tick 1 := ⟨by decide +kernel, by decide +kernel, by decide +kernel⟩
theorem cd_X5_tick : Cond.code mX5_tick.1 mX5_tick.2.1 mX5_tick.2.2.1 mX5_tick.2.2.2 ∈ vx_tb := vx_tb_in 426 (by decide +kernel) rfl
abbrev mX5_weak : vx_Me := (yX5_weak, cX5_weak, 1, (some .int))
theorem dn_X5_weak : vx_dn mX5_weak 0 := ⟨by decide +kernel, by decide +kernel, by decide +kernel⟩
theorem cd_X5_weak : Cond.code mX5_weak.1 mX5_weak.2.1 mX5_weak.2.2.1 mX5_weak.2.2.2 ∈ vx_tb := vx_tb_in 452 (by decide +kernel) rfl
abbrev mX5_effort : vx_Me := (yX5_effort, cX5_effort, 3, (some .int))
theorem dn_X5_effort : vx_dn mX5_effort 2 := ⟨by decide +kernel, by decide +kernel, by decide +kernel⟩
theorem cd_X5_effort : Cond.code mX5_effort.1 mX5_effort.2.1 mX5_effort.2.2.1 mX5_effort.2.2.2 ∈ vx_tb := vx_tb_in 456 (by decide +kernel) rfl
abbrev mX5_worths : vx_Me := (yX5_worths, cX5_worths, 3, (some .int))
theorem dn_X5_worths : vx_dn mX5_worths 2 := ⟨by decide +kernel, by decide +kernel, by decide +kernel⟩
theorem cd_X5_worths : Cond.code mX5_worths.1 mX5_worths.2.1 mX5_worths.2.2.1 mX5_worths.2.2.2 ∈ vx_tb := vx_tb_in 460 (by decide +kernel) rfl
abbrev mX5_attempt : vx_Me := (yX5_attempt, cX5_attempt, 2, (some .int))
theorem dn_X5_attempt : vx_dn mX5_attempt 0 := ⟨by decide +kernel, by decide +kernel, by decide +kernel⟩
theorem cd_X5_attempt : Cond.code mX5_attempt.1 mX5_attempt.2.1 mX5_attempt.2.2.1 mX5_attempt.2.2.2 ∈ vx_tb := vx_tb_in 464 (by decide +kernel) rfl
abbrev mX5_count : vx_Me := (yX5_count, cX5_count, 2, (some .int))
theorem dn_X5_count : vx_dn mX5_count 1 := ⟨by decide +kernel, by decide +kernel, by decide +kernel⟩
theorem cd_X5_count : Cond.code mX5_count.1 mX5_count.2.1 mX5_count.2.2.1 mX5_count.2.2.2 ∈ vx_tb := vx_tb_in 472 (by decide +kernel) rfl
abbrev mX5_within : vx_Me := (yX5_within, cX5_within, 3, (some .boolean))
theorem dn_X5_within : vx_dn mX5_within 3 := ⟨by decide +kernel, by decide +kernel, by decide +kernel⟩
theorem cd_X5_within : Cond.code mX5_within.1 mX5_within.2.1 mX5_within.2.2.1 mX5_within.2.2.2 ∈ vx_tb := vx_tb_in 283 (by decide +kernel) rfl
abbrev mX5_isPlace : vx_Me := (yX5_isPlace, cX5_isPlace, 2, (some .boolean))
theorem dn_X5_isPlace : vx_dn mX5_isPlace 1 := ⟨by decide +kernel, by decide +kernel, by decide +kernel⟩
theorem cd_X5_isPlace : Cond.code mX5_isPlace.1 mX5_isPlace.2.1 mX5_isPlace.2.2.1 mX5_isPlace.2.2.2 ∈ vx_tb := vx_tb_in 393 (by decide +kernel) rfl
abbrev mX5_endPlacing : vx_Me := (yX5_endPlacing, cX5_endPlacing, 1, none)
theorem dn_X5_endPlacing : vx_dn mX5_endPlacing 0 := ⟨by decide +kernel, by decide +kernel, by decide +kernel⟩
theorem cd_X5_endPlacing : Cond.code mX5_endPlacing.1 mX5_endPlacing.2.1 mX5_endPlacing.2.2.1 mX5_endPlacing.2.2.2 ∈ vx_tb := vx_tb_in 292 (by decide +kernel) rfl
abbrev mX5_exchange : vx_Me := (yX5_exchange, cX5_exchange, 4, none)
theorem dn_X5_exchange : vx_dn mX5_exchange 2 := ⟨by decide +kernel, by decide +kernel, by decide +kernel⟩
theorem cd_X5_exchange : Cond.code mX5_exchange.1 mX5_exchange.2.1 mX5_exchange.2.2.1 mX5_exchange.2.2.2 ∈ vx_tb := vx_tb_in 409 (by decide +kernel) rfl
abbrev mX5_pointsOfTry : vx_Me := (yX5_pointsOfTry, cX5_pointsOfTry, 1, (some .int))
theorem dn_X5_pointsOfTry : vx_dn mX5_pointsOfTry 0 := ⟨by decide +kernel, by decide +kernel, by decide +kernel⟩
theorem cd_X5_pointsOfTry : Cond.code mX5_pointsOfTry.1 mX5_pointsOfTry.2.1 mX5_pointsOfTry.2.2.1 mX5_pointsOfTry.2.2.2 ∈ vx_tb := vx_tb_in 468 (by decide +kernel) rfl
abbrev mX6_init : vx_Me := (yX6_init, cX6_init, 1, none)
theorem dn_X6_init : vx_dn mX6_init 0 := ⟨by decide +kernel, by decide +kernel, by decide +kernel⟩
theorem cd_X6_init : Cond.code mX6_init.1 mX6_init.2.1 mX6_init.2.2.1 mX6_init.2.2.2 ∈ vx_tb := vx_tb_in 481 (by decide +kernel) rfl
abbrev mX6_in : vx_Me := (yX6_in, cX6_in, 3, (some .boolean))
theorem dn_X6_in : vx_dn mX6_in 3 := ⟨by decide +kernel, by decide +kernel, by decide +kernel⟩
theorem cd_X6_in : Cond.code mX6_in.1 mX6_in.2.1 mX6_in.2.2.1 mX6_in.2.2.2 ∈ vx_tb := vx_tb_in 590 (by decide +kernel) rfl
abbrev mX6_isPerson : vx_Me := (yX6_isPerson, cX6_isPerson, 2, (some .boolean))
theorem dn_X6_isPerson : vx_dn mX6_isPerson 1 := ⟨by decide +kernel, by decide +kernel, by decide +kernel⟩
theorem cd_X6_isPerson : Cond.code mX6_isPerson.1 mX6_isPerson.2.1 mX6_isPerson.2.2.1 mX6_isPerson.2.2.2 ∈ vx_tb := vx_tb_in 610 (by decide +kernel) rfl
abbrev mX6_isPlace : vx_Me := (yX6_isPlace, cX6_isPlace, 2, (some .boolean))
theorem dn_X6_isPlace : vx_dn mX6_isPlace 1 := ⟨by decide +kernel, by decide +kernel, by decide +kernel⟩
theorem cd_X6_isPlace : Cond.code mX6_isPlace.1 mX6_isPlace.2.1 mX6_isPlace.2.2.1 mX6_isPlace.2.2.2 ∈ vx_tb := vx_tb_in 662 (by decide +kernel) rfl
abbrev mX6_findPlaces : vx_Me := (yX6_findPlaces, cX6_findPlaces, 5, none)
theorem dn_X6_findPlaces : vx_dn mX6_findPlaces 0 := ⟨by decide +kernel, by decide +kernel, by decide +kernel⟩
theorem cd_X6_findPlaces : Cond.code mX6_findPlaces.1 mX6_findPlaces.2.1 mX6_findPlaces.2.2.1 mX6_findPlaces.2.2.2 ∈ vx_tb := vx_tb_in 486 (by decide +kernel) rfl
abbrev mX6_sum : vx_Me := (yX6_sum, cX6_sum, 4, (some .int))
theorem dn_X6_sum : vx_dn mX6_sum 1 := ⟨by decide +kernel, by decide +kernel, by decide +kernel⟩
theorem cd_X6_sum : Cond.code mX6_sum.1 mX6_sum.2.1 mX6_sum.2.2.1 mX6_sum.2.2.2 ∈ vx_tb := vx_tb_in 594 (by decide +kernel) rfl
abbrev mX6_storeys : vx_Me := (yX6_storeys, cX6_storeys, 2, (some .int))
theorem dn_X6_storeys : vx_dn mX6_storeys 1 := ⟨by decide +kernel, by decide +kernel, by decide +kernel⟩
theorem cd_X6_storeys : Cond.code mX6_storeys.1 mX6_storeys.2.1 mX6_storeys.2.2.1 mX6_storeys.2.2.2 ∈ vx_tb := vx_tb_in 587 (by decide +kernel) rfl
abbrev mX6_width : vx_Me := (yX6_width, cX6_width, 4, (some .int))
theorem dn_X6_width : vx_dn mX6_width 2 := ⟨by decide +kernel, by decide +kernel, by decide +kernel⟩
theorem cd_X6_width : Cond.code mX6_width.1 mX6_width.2.1 mX6_width.2.2.1 mX6_width.2.2.2 ∈ vx_tb := vx_tb_in 598 (by decide +kernel) rfl
abbrev mX6_person : vx_Me := (yX6_person, cX6_person, 6, (some .int))
theorem dn_X6_person : vx_dn mX6_person 5 := ⟨by decide +kernel, by decide +kernel, by decide +kernel⟩
theorem cd_X6_person : Cond.code mX6_person.1 mX6_person.2.1 mX6_person.2.2.1 mX6_person.2.2.2 ∈ vx_tb := vx_tb_in 602 (by decide +kernel) rfl
abbrev mX6_out : vx_Me := (yX6_out, cX6_out, 4, (some .int))
theorem dn_X6_out : vx_dn mX6_out 2 := ⟨by decide +kernel, by decide +kernel, by decide +kernel⟩
theorem cd_X6_out : Cond.code mX6_out.1 mX6_out.2.1 mX6_out.2.2.1 mX6_out.2.2.2 ∈ vx_tb := vx_tb_in 606 (by decide +kernel) rfl
abbrev mX6_play : vx_Me := (yX6_play, cX6_play, 3, (some .int))
theorem dn_X6_play : vx_dn mX6_play 1 := ⟨by decide +kernel, by decide +kernel, by decide +kernel⟩
theorem cd_X6_play : Cond.code mX6_play.1 mX6_play.2.1 mX6_play.2.2.1 mX6_play.2.2.2 ∈ vx_tb := vx_tb_in 614 (by decide +kernel) rfl
abbrev mX6_findLoads : vx_Me := (yX6_findLoads, cX6_findLoads, 4, none)
theorem dn_X6_findLoads : vx_dn mX6_findLoads 1 := ⟨by decide +kernel, by decide +kernel, by decide +kernel⟩
theorem cd_X6_findLoads : Cond.code mX6_findLoads.1 mX6_findLoads.2.1 mX6_findLoads.2.2.1 mX6_findLoads.2.2.2 ∈ vx_tb := vx_tb_in 630 (by decide +kernel) rfl
abbrev mX6_uneven : vx_Me := (yX6_uneven, cX6_uneven, 6, (some .int))
theorem dn_X6_uneven : vx_dn mX6_uneven 0 := ⟨by decide +kernel, by decide +kernel, by decide +kernel⟩
theorem cd_X6_uneven : Cond.code mX6_uneven.1 mX6_uneven.2.1 mX6_uneven.2.2.1 mX6_uneven.2.2.2 ∈ vx_tb := vx_tb_in 634 (by decide +kernel) rfl
abbrev mX6_fitsSo : vx_Me := (yX6_fitsSo, cX6_fitsSo, 2, (some .int))
theorem dn_X6_fitsSo : vx_dn mX6_fitsSo 0 := ⟨by decide +kernel, by decide +kernel, by decide +kernel⟩
theorem cd_X6_fitsSo : Cond.code mX6_fitsSo.1 mX6_fitsSo.2.1 mX6_fitsSo.2.2.1 mX6_fitsSo.2.2.2 ∈ vx_tb := vx_tb_in 626 (by decide +kernel) rfl
abbrev mX6_isAhead : vx_Me := (yX6_isAhead, cX6_isAhead, 4, (some .boolean))
theorem dn_X6_isAhead : vx_dn mX6_isAhead 1 := ⟨by decide +kernel, by decide +kernel, by decide +kernel⟩
theorem cd_X6_isAhead : Cond.code mX6_isAhead.1 mX6_isAhead.2.1 mX6_isAhead.2.2.1 mX6_isAhead.2.2.2 ∈ vx_tb := vx_tb_in 642 (by decide +kernel) rfl
abbrev mX6_hasNext : vx_Me := (yX6_hasNext, cX6_hasNext, 3, (some .boolean))
theorem dn_X6_hasNext : vx_dn mX6_hasNext 0 := ⟨by decide +kernel, by decide +kernel, by decide +kernel⟩
theorem cd_X6_hasNext : Cond.code mX6_hasNext.1 mX6_hasNext.2.1 mX6_hasNext.2.2.1 mX6_hasNext.2.2.2 ∈ vx_tb := vx_tb_in 638 (by decide +kernel) rfl
abbrev mX6_findPlacings : vx_Me := (yX6_findPlacings, cX6_findPlacings, 7, none)
theorem dn_X6_findPlacings : vx_dn mX6_findPlacings 0 := ⟨by decide +kernel, by decide +kernel, by decide +kernel⟩
theorem cd_X6_findPlacings : Cond.code mX6_findPlacings.1 mX6_findPlacings.2.1 mX6_findPlacings.2.2.1 mX6_findPlacings.2.2.2 ∈ vx_tb := vx_tb_in 622 (by decide +kernel) rfl
abbrev mX6_fits : vx_Me := (yX6_fits, cX6_fits, 1, (some .int))
theorem dn_X6_fits : vx_dn mX6_fits 0 := ⟨by decide +kernel, by decide +kernel, by decide +kernel⟩
theorem cd_X6_fits : Cond.code mX6_fits.1 mX6_fits.2.1 mX6_fits.2.2.1 mX6_fits.2.2.2 ∈ vx_tb := vx_tb_in 618 (by decide +kernel) rfl
abbrev mX6_level : vx_Me := (yX6_level, cX6_level, 1, (some .int))
theorem dn_X6_level : vx_dn mX6_level 0 := ⟨by decide +kernel, by decide +kernel, by decide +kernel⟩
theorem cd_X6_level : Cond.code mX6_level.1 mX6_level.2.1 mX6_level.2.2.1 mX6_level.2.2.2 ∈ vx_tb := vx_tb_in 646 (by decide +kernel) rfl
abbrev mX6_close : vx_Me := (yX6_close, cX6_close, 1, (some .int))
theorem dn_X6_close : vx_dn mX6_close 0 := ⟨by decide +kernel, by decide +kernel, by decide +kernel⟩
theorem cd_X6_close : Cond.code mX6_close.1 mX6_close.2.1 mX6_close.2.2.1 mX6_close.2.2.2 ∈ vx_tb := vx_tb_in 650 (by decide +kernel) rfl
abbrev mX6_take : vx_Me := (yX6_take, cX6_take, 3, (some .int))
theorem dn_X6_take : vx_dn mX6_take 1 := ⟨by decide +kernel, by decide +kernel, by decide +kernel⟩
theorem cd_X6_take : Cond.code mX6_take.1 mX6_take.2.1 mX6_take.2.2.1 mX6_take.2.2.2 ∈ vx_tb := vx_tb_in 654 (by decide +kernel) rfl
abbrev mX6_at : vx_Me := (yX6_at, cX6_at, 2, (some .int))
theorem dn_X6_at : vx_dn mX6_at 1 := ⟨by decide +kernel, by decide +kernel, by decide +kernel⟩
theorem cd_X6_at : Cond.code mX6_at.1 mX6_at.2.1 mX6_at.2.2.1 mX6_at.2.2.2 ∈ vx_tb := vx_tb_in 658 (by decide +kernel) rfl
abbrev mX6_useHand : vx_Me := (yX6_useHand, cX6_useHand, 2, none)
theorem dn_X6_useHand : vx_dn mX6_useHand 0 := ⟨by decide +kernel, by decide +kernel, by decide +kernel⟩
theorem cd_X6_useHand : Cond.code mX6_useHand.1 mX6_useHand.2.1 mX6_useHand.2.2.1 mX6_useHand.2.2.2 ∈ vx_tb := vx_tb_in 670 (by decide +kernel) rfl
abbrev mX6_load : vx_Me := (yX6_load, cX6_load, 2, (some .int))
theorem dn_X6_load : vx_dn mX6_load 1 := ⟨by decide +kernel, by decide +kernel, by decide +kernel⟩
theorem cd_X6_load : Cond.code mX6_load.1 mX6_load.2.1 mX6_load.2.2.1 mX6_load.2.2.2 ∈ vx_tb := vx_tb_in 666 (by decide +kernel) rfl
abbrev mX6_swap : vx_Me := (yX6_swap, cX6_swap, 5, (some .int))
theorem dn_X6_swap : vx_dn mX6_swap 2 := ⟨by decide +kernel, by decide +kernel, by decide +kernel⟩
theorem cd_X6_swap : Cond.code mX6_swap.1 mX6_swap.2.1 mX6_swap.2.2.1 mX6_swap.2.2.2 ∈ vx_tb := vx_tb_in 674 (by decide +kernel) rfl
abbrev mX6_findTimes : vx_Me := (yX6_findTimes, cX6_findTimes, 4, (some .int))
theorem dn_X6_findTimes : vx_dn mX6_findTimes 0 := ⟨by decide +kernel, by decide +kernel, by decide +kernel⟩
theorem cd_X6_findTimes : Cond.code mX6_findTimes.1 mX6_findTimes.2.1 mX6_findTimes.2.2.1 mX6_findTimes.2.2.2 ∈ vx_tb := vx_tb_in 686 (by decide +kernel) rfl
abbrev mX6_climb : vx_Me := (yX6_climb, cX6_climb, 6, (some .int))
theorem dn_X6_climb : vx_dn mX6_climb 1 := ⟨by decide +kernel, by decide +kernel, by decide +kernel⟩
theorem cd_X6_climb : Cond.code mX6_climb.1 mX6_climb.2.1 mX6_climb.2.2.1 mX6_climb.2.2.2 ∈ vx_tb := vx_tb_in 682 (by decide +kernel) rfl
abbrev mX6_tick : vx_Me := (yX6_tick, cX6_tick, 3, (some .int))
theorem dn_X6_tick : vx_dn mX6_tick 1 := ⟨by decide +kernel, by decide +kernel, by decide +kernel⟩
theorem cd_X6_tick : Cond.code mX6_tick.1 mX6_tick.2.1 mX6_tick.2.2.1 mX6_tick.2.2.2 ∈ vx_tb := vx_tb_in 678 (by decide +kernel) rfl
abbrev mX6_weak : vx_Me := (yX6_weak, cX6_weak, 1, (some .int))
theorem dn_X6_weak : vx_dn mX6_weak 0 := ⟨by decide +kernel, by decide +kernel, by decide +kernel⟩
theorem cd_X6_weak : Cond.code mX6_weak.1 mX6_weak.2.1 mX6_weak.2.2.1 mX6_weak.2.2.2 ∈ vx_tb := vx_tb_in 690 (by decide +kernel) rfl
abbrev mX6_effort : vx_Me := (yX6_effort, cX6_effort, 3, (some .int))
theorem dn_X6_effort : vx_dn mX6_effort 2 := ⟨by decide +kernel, by decide +kernel, by decide +kernel⟩
theorem cd_X6_effort : Cond.code mX6_effort.1 mX6_effort.2.1 mX6_effort.2.2.1 mX6_effort.2.2.2 ∈ vx_tb := vx_tb_in 694 (by decide +kernel) rfl
abbrev mX6_worths : vx_Me := (yX6_worths, cX6_worths, 3, (some .int))
theorem dn_X6_worths : vx_dn mX6_worths 2 := ⟨by decide +kernel, by decide +kernel, by decide +kernel⟩
theorem cd_X6_worths : Cond.code mX6_worths.1 mX6_worths.2.1 mX6_worths.2.2.1 mX6_worths.2.2.2 ∈ vx_tb := vx_tb_in 698 (by decide +kernel) rfl
abbrev mX6_attempt : vx_Me := (yX6_attempt, cX6_attempt, 3, (some .int))
theorem dn_X6_attempt : vx_dn mX6_attempt 0 := ⟨by decide +kernel, by decide +kernel, by decide +kernel⟩
theorem cd_X6_attempt : Cond.code mX6_attempt.1 mX6_attempt.2.1 mX6_attempt.2.2.1 mX6_attempt.2.2.2 ∈ vx_tb := vx_tb_in 702 (by decide +kernel) rfl
abbrev mX6_count : vx_Me := (yX6_count, cX6_count, 4, (some .int))
theorem dn_X6_count : vx_dn mX6_count 1 := ⟨by decide +kernel, by decide +kernel, by decide +kernel⟩
theorem cd_X6_count : Cond.code mX6_count.1 mX6_count.2.1 mX6_count.2.2.1 mX6_count.2.2.2 ∈ vx_tb := vx_tb_in 706 (by decide +kernel) rfl
abbrev mJ7_fill_53178 : vx_Me := (yJ7_fill_53178, cJ7_fill_53178, 4, none)
theorem dn_J7_fill_53178 : vx_dn mJ7_fill_53178 2 := ⟨by decide +kernel, by decide +kernel, by decide +kernel⟩
theorem cd_J7_fill_53178 : Cond.code mJ7_fill_53178.1 mJ7_fill_53178.2.1 mJ7_fill_53178.2.2.1 mJ7_fill_53178.2.2.2 ∈ vx_tb := vx_tb_in 68 (by decide +kernel) rfl
theorem mc_X0_3 : Cond.methodLink RX0 3 Lib.objectInit ∈ vx_tb := vx_tb_in 219 (by decide +kernel) rfl
theorem mc_X0_42 : vx_mv RX0 42 mX0_ticksFor := ⟨vx_tb_in 432 (by decide +kernel) rfl, vx_tb_in 434 (by decide +kernel) rfl, vx_tb_in 11 (by decide +kernel) rfl, vx_tb_in 36 (by decide +kernel) rfl, cd_X0_ticksFor⟩
theorem mc_X0_46 : vx_ms RX0 46 mJ7_fill_53178 := ⟨vx_tb_in 431 (by decide +kernel) rfl, vx_tb_in 67 (by decide +kernel) rfl, vx_tb_in 32 (by decide +kernel) rfl, cd_J7_fill_53178⟩
theorem mc_X0_52 : vx_mv RX0 52 mX0_pass := ⟨vx_tb_in 436 (by decide +kernel) rfl, vx_tb_in 438 (by decide +kernel) rfl, vx_tb_in 12 (by decide +kernel) rfl, vx_tb_in 36 (by decide +kernel) rfl, cd_X0_pass⟩
theorem mc_X0_59 : vx_mv RX0 59 mX2_loadOn := ⟨vx_tb_in 440 (by decide +kernel) rfl, vx_tb_in 399 (by decide +kernel) rfl, vx_tb_in 400 (by decide +kernel) rfl, vx_tb_in 34 (by decide +kernel) rfl, cd_X2_loadOn⟩
theorem mc_X0_65 : vx_mv RX0 65 mX0_tire := ⟨vx_tb_in 441 (by decide +kernel) rfl, vx_tb_in 443 (by decide +kernel) rfl, vx_tb_in 13 (by decide +kernel) rfl, vx_tb_in 36 (by decide +kernel) rfl, cd_X0_tire⟩
theorem mc_X1_3 : Cond.methodLink RX1 3 Lib.objectInit ∈ vx_tb := vx_tb_in 113 (by decide +kernel) rfl
theorem mc_X2_3 : Cond.methodLink RX2 3 Lib.objectInit ∈ vx_tb := vx_tb_in 153 (by decide +kernel) rfl
theorem mc_X2_51 : vx_mv RX2 51 mX2_goesTo := ⟨vx_tb_in 414 (by decide +kernel) rfl, vx_tb_in 338 (by decide +kernel) rfl, vx_tb_in 339 (by decide +kernel) rfl, vx_tb_in 34 (by decide +kernel) rfl, cd_X2_goesTo⟩
theorem mc_X2_55 : vx_mv RX2 55 mX2_loadOn := ⟨vx_tb_in 415 (by decide +kernel) rfl, vx_tb_in 399 (by decide +kernel) rfl, vx_tb_in 400 (by decide +kernel) rfl, vx_tb_in 34 (by decide +kernel) rfl, cd_X2_loadOn⟩
theorem mc_X2_59 : vx_mv RX2 59 mX2_mostLoad := ⟨vx_tb_in 416 (by decide +kernel) rfl, vx_tb_in 350 (by decide +kernel) rfl, vx_tb_in 351 (by decide +kernel) rfl, vx_tb_in 34 (by decide +kernel) rfl, cd_X2_mostLoad⟩
theorem mc_X2_66 : vx_mv RX2 66 mX2_spread := ⟨vx_tb_in 417 (by decide +kernel) rfl, vx_tb_in 419 (by decide +kernel) rfl, vx_tb_in 10 (by decide +kernel) rfl, vx_tb_in 34 (by decide +kernel) rfl, cd_X2_spread⟩
theorem mc_X2_79 : Cond.methodLink RX2 79 Lib.Math.min.name ∈ vx_tb := vx_tb_in 421 (by decide +kernel) rfl
theorem mc_X2_85 : Cond.methodLink RX2 85 Lib.Math.max.name ∈ vx_tb := vx_tb_in 422 (by decide +kernel) rfl
theorem mc_X3_3 : Cond.methodLink RX3 3 Lib.objectInit ∈ vx_tb := vx_tb_in 171 (by decide +kernel) rfl
theorem mc_X3_59 : vx_mv RX3 59 mX3_start := ⟨vx_tb_in 321 (by decide +kernel) rfl, vx_tb_in 323 (by decide +kernel) rfl, vx_tb_in 3 (by decide +kernel) rfl, vx_tb_in 35 (by decide +kernel) rfl, cd_X3_start⟩
theorem mc_X3_63 : Cond.methodLink RX3 63 arraycopyName ∈ vx_tb := vx_tb_in 334 (by decide +kernel) rfl
theorem mc_X3_72 : vx_mv RX3 72 mX3_walk := ⟨vx_tb_in 326 (by decide +kernel) rfl, vx_tb_in 328 (by decide +kernel) rfl, vx_tb_in 4 (by decide +kernel) rfl, vx_tb_in 35 (by decide +kernel) rfl, cd_X3_walk⟩
theorem mc_X3_81 : vx_mv RX3 81 mX3_arrive := ⟨vx_tb_in 330 (by decide +kernel) rfl, vx_tb_in 332 (by decide +kernel) rfl, vx_tb_in 5 (by decide +kernel) rfl, vx_tb_in 35 (by decide +kernel) rfl, cd_X3_arrive⟩
theorem mc_X3_96 : vx_mv RX3 96 mX2_goesTo := ⟨vx_tb_in 337 (by decide +kernel) rfl, vx_tb_in 338 (by decide +kernel) rfl, vx_tb_in 339 (by decide +kernel) rfl, vx_tb_in 34 (by decide +kernel) rfl, cd_X2_goesTo⟩
theorem mc_X3_105 : Cond.methodLink RX3 105 Lib.Math.min.name ∈ vx_tb := vx_tb_in 341 (by decide +kernel) rfl
theorem mc_X3_111 : Cond.methodLink RX3 111 Lib.Math.max.name ∈ vx_tb := vx_tb_in 342 (by decide +kernel) rfl
theorem mc_X3_117 : vx_mv RX3 117 mX3_goOnWith := ⟨vx_tb_in 345 (by decide +kernel) rfl, vx_tb_in 347 (by decide +kernel) rfl, vx_tb_in 6 (by decide +kernel) rfl, vx_tb_in 35 (by decide +kernel) rfl, cd_X3_goOnWith⟩
theorem mc_X3_121 : vx_mv RX3 121 mX2_mostLoad := ⟨vx_tb_in 349 (by decide +kernel) rfl, vx_tb_in 350 (by decide +kernel) rfl, vx_tb_in 351 (by decide +kernel) rfl, vx_tb_in 34 (by decide +kernel) rfl, cd_X2_mostLoad⟩
theorem mc_X3_128 : vx_mv RX3 128 mX3_bearsAlso := ⟨vx_tb_in 353 (by decide +kernel) rfl, vx_tb_in 355 (by decide +kernel) rfl, vx_tb_in 7 (by decide +kernel) rfl, vx_tb_in 35 (by decide +kernel) rfl, cd_X3_bearsAlso⟩
theorem mc_X4_3 : Cond.methodLink RX4 3 Lib.objectInit ∈ vx_tb := vx_tb_in 52 (by decide +kernel) rfl
theorem mc_X4_33 : vx_mv RX4 33 mX4_build := ⟨vx_tb_in 55 (by decide +kernel) rfl, vx_tb_in 56 (by decide +kernel) rfl, vx_tb_in 57 (by decide +kernel) rfl, vx_tb_in 30 (by decide +kernel) rfl, cd_X4_build⟩
theorem mc_X4_37 : Cond.methodLink RX4 37 Lib.Math.min.name ∈ vx_tb := vx_tb_in 59 (by decide +kernel) rfl
theorem mc_X4_43 : vx_mv RX4 43 mX4_shareOut := ⟨vx_tb_in 62 (by decide +kernel) rfl, vx_tb_in 64 (by decide +kernel) rfl, vx_tb_in 0 (by decide +kernel) rfl, vx_tb_in 30 (by decide +kernel) rfl, cd_X4_shareOut⟩
theorem mc_X4_47 : vx_ms RX4 47 mJ7_fill_53178 := ⟨vx_tb_in 66 (by decide +kernel) rfl, vx_tb_in 67 (by decide +kernel) rfl, vx_tb_in 32 (by decide +kernel) rfl, cd_J7_fill_53178⟩
theorem mc_X4_53 : vx_mv RX4 53 mX4_restHalfOn := ⟨vx_tb_in 69 (by decide +kernel) rfl, vx_tb_in 71 (by decide +kernel) rfl, vx_tb_in 1 (by decide +kernel) rfl, vx_tb_in 30 (by decide +kernel) rfl, cd_X4_restHalfOn⟩
theorem mc_X5_1 : Cond.methodLink RX5 1 Lib.objectInit ∈ vx_tb := vx_tb_in 44 (by decide +kernel) rfl
theorem mc_X5_9 : vx_mi RX5 9 mX4_init := ⟨vx_tb_in 49 (by decide +kernel) rfl, vx_tb_in 50 (by decide +kernel) rfl, vx_tb_in 30 (by decide +kernel) rfl, cd_X4_init⟩
theorem mc_X5_18 : vx_mn RX5 18 mX1_init "PeopleTower" := ⟨fun _ h => h.1, vx_tb_in 111 (by decide +kernel) rfl, vx_tb_in 33 (by decide +kernel) rfl, cd_X1_init⟩
theorem mc_X5_25 : vx_mi RX5 25 mX2_init := ⟨vx_tb_in 150 (by decide +kernel) rfl, vx_tb_in 151 (by decide +kernel) rfl, vx_tb_in 34 (by decide +kernel) rfl, cd_X2_init⟩
theorem mc_X5_34 : vx_mi RX5 34 mX3_init := ⟨vx_tb_in 168 (by decide +kernel) rfl, vx_tb_in 169 (by decide +kernel) rfl, vx_tb_in 35 (by decide +kernel) rfl, cd_X3_init⟩
theorem mc_X5_43 : vx_mi RX5 43 mX0_init := ⟨vx_tb_in 216 (by decide +kernel) rfl, vx_tb_in 217 (by decide +kernel) rfl, vx_tb_in 36 (by decide +kernel) rfl, cd_X0_init⟩
theorem mc_X5_66 : vx_ms RX5 66 mJ7_fill_53178 := ⟨vx_tb_in 245 (by decide +kernel) rfl, vx_tb_in 67 (by decide +kernel) rfl, vx_tb_in 32 (by decide +kernel) rfl, cd_J7_fill_53178⟩
theorem mc_X5_72 : vx_ms RX5 72 mX5_within := ⟨vx_tb_in 281 (by decide +kernel) rfl, vx_tb_in 282 (by decide +kernel) rfl, vx_tb_in 29 (by decide +kernel) rfl, cd_X5_within⟩
theorem mc_X5_76 : vx_mv RX5 76 mX4_placesUpTo := ⟨vx_tb_in 284 (by decide +kernel) rfl, vx_tb_in 285 (by decide +kernel) rfl, vx_tb_in 286 (by decide +kernel) rfl, vx_tb_in 30 (by decide +kernel) rfl, cd_X4_placesUpTo⟩
theorem mc_X5_80 : vx_mv RX5 80 mX4_build := ⟨vx_tb_in 288 (by decide +kernel) rfl, vx_tb_in 56 (by decide +kernel) rfl, vx_tb_in 57 (by decide +kernel) rfl, vx_tb_in 30 (by decide +kernel) rfl, cd_X4_build⟩
theorem mc_X5_84 : vx_mv RX5 84 mX5_endPlacing := ⟨vx_tb_in 289 (by decide +kernel) rfl, vx_tb_in 291 (by decide +kernel) rfl, vx_tb_in 2 (by decide +kernel) rfl, vx_tb_in 29 (by decide +kernel) rfl, cd_X5_endPlacing⟩
theorem mc_X5_96 : vx_mv RX5 96 mX1_add := ⟨vx_tb_in 301 (by decide +kernel) rfl, vx_tb_in 302 (by decide +kernel) rfl, vx_tb_in 303 (by decide +kernel) rfl, vx_tb_in 33 (by decide +kernel) rfl, cd_X1_add⟩
theorem mc_X5_110 : vx_mv RX5 110 mX3_countFitting := ⟨vx_tb_in 317 (by decide +kernel) rfl, vx_tb_in 318 (by decide +kernel) rfl, vx_tb_in 319 (by decide +kernel) rfl, vx_tb_in 35 (by decide +kernel) rfl, cd_X3_countFitting⟩
theorem mc_X5_114 : vx_mv RX5 114 mX3_seekLevel := ⟨vx_tb_in 361 (by decide +kernel) rfl, vx_tb_in 362 (by decide +kernel) rfl, vx_tb_in 363 (by decide +kernel) rfl, vx_tb_in 35 (by decide +kernel) rfl, cd_X3_seekLevel⟩
theorem mc_X5_118 : vx_mv RX5 118 mX3_uneven := ⟨vx_tb_in 365 (by decide +kernel) rfl, vx_tb_in 366 (by decide +kernel) rfl, vx_tb_in 367 (by decide +kernel) rfl, vx_tb_in 35 (by decide +kernel) rfl, cd_X3_uneven⟩
theorem mc_X5_121 : vx_mv RX5 121 mX3_seekClose := ⟨vx_tb_in 373 (by decide +kernel) rfl, vx_tb_in 374 (by decide +kernel) rfl, vx_tb_in 375 (by decide +kernel) rfl, vx_tb_in 35 (by decide +kernel) rfl, cd_X3_seekClose⟩
theorem mc_X5_125 : vx_mv RX5 125 mX3_moves := ⟨vx_tb_in 377 (by decide +kernel) rfl, vx_tb_in 378 (by decide +kernel) rfl, vx_tb_in 379 (by decide +kernel) rfl, vx_tb_in 35 (by decide +kernel) rfl, cd_X3_moves⟩
theorem mc_X5_131 : Cond.methodLink RX5 131 arraycopyName ∈ vx_tb := vx_tb_in 385 (by decide +kernel) rfl
theorem mc_X5_137 : vx_mv RX5 137 mX5_isPlace := ⟨vx_tb_in 390 (by decide +kernel) rfl, vx_tb_in 392 (by decide +kernel) rfl, vx_tb_in 8 (by decide +kernel) rfl, vx_tb_in 29 (by decide +kernel) rfl, cd_X5_isPlace⟩
theorem mc_X5_141 : vx_mv RX5 141 mX2_loadOn := ⟨vx_tb_in 398 (by decide +kernel) rfl, vx_tb_in 399 (by decide +kernel) rfl, vx_tb_in 400 (by decide +kernel) rfl, vx_tb_in 34 (by decide +kernel) rfl, cd_X2_loadOn⟩
theorem mc_X5_145 : vx_mv RX5 145 mX5_exchange := ⟨vx_tb_in 406 (by decide +kernel) rfl, vx_tb_in 408 (by decide +kernel) rfl, vx_tb_in 9 (by decide +kernel) rfl, vx_tb_in 29 (by decide +kernel) rfl, cd_X5_exchange⟩
theorem mc_X5_149 : vx_mv RX5 149 mX2_admit := ⟨vx_tb_in 410 (by decide +kernel) rfl, vx_tb_in 411 (by decide +kernel) rfl, vx_tb_in 412 (by decide +kernel) rfl, vx_tb_in 34 (by decide +kernel) rfl, cd_X2_admit⟩
theorem mc_X5_152 : vx_mv RX5 152 mX0_run := ⟨vx_tb_in 427 (by decide +kernel) rfl, vx_tb_in 428 (by decide +kernel) rfl, vx_tb_in 429 (by decide +kernel) rfl, vx_tb_in 36 (by decide +kernel) rfl, cd_X0_run⟩
theorem mc_X5_158 : vx_mv RX5 158 mX0_crowned := ⟨vx_tb_in 445 (by decide +kernel) rfl, vx_tb_in 446 (by decide +kernel) rfl, vx_tb_in 447 (by decide +kernel) rfl, vx_tb_in 36 (by decide +kernel) rfl, cd_X0_crowned⟩
theorem mc_X5_167 : vx_mv RX5 167 mX5_pointsOfTry := ⟨vx_tb_in 465 (by decide +kernel) rfl, vx_tb_in 467 (by decide +kernel) rfl, vx_tb_in 14 (by decide +kernel) rfl, vx_tb_in 29 (by decide +kernel) rfl, cd_X5_pointsOfTry⟩
theorem mc_X5_170 : vx_mv RX5 170 mX1_countOut := ⟨vx_tb_in 473 (by decide +kernel) rfl, vx_tb_in 474 (by decide +kernel) rfl, vx_tb_in 475 (by decide +kernel) rfl, vx_tb_in 33 (by decide +kernel) rfl, cd_X1_countOut⟩
theorem mc_X6_1 : Cond.methodLink RX6 1 Lib.objectInit ∈ vx_tb := vx_tb_in 482 (by decide +kernel) rfl
theorem mc_X6_78 : vx_mv RX6 78 mX6_findPlaces := ⟨vx_tb_in 483 (by decide +kernel) rfl, vx_tb_in 485 (by decide +kernel) rfl, vx_tb_in 15 (by decide +kernel) rfl, vx_tb_in 37 (by decide +kernel) rfl, cd_X6_findPlaces⟩
theorem mc_X6_84 : vx_ms RX6 84 mX6_in := ⟨vx_tb_in 588 (by decide +kernel) rfl, vx_tb_in 589 (by decide +kernel) rfl, vx_tb_in 37 (by decide +kernel) rfl, cd_X6_in⟩
theorem mc_X6_91 : vx_mv RX6 91 mX6_sum := ⟨vx_tb_in 591 (by decide +kernel) rfl, vx_tb_in 593 (by decide +kernel) rfl, vx_tb_in 16 (by decide +kernel) rfl, vx_tb_in 37 (by decide +kernel) rfl, cd_X6_sum⟩
theorem mc_X6_99 : vx_mv RX6 99 mX6_isPerson := ⟨vx_tb_in 607 (by decide +kernel) rfl, vx_tb_in 609 (by decide +kernel) rfl, vx_tb_in 17 (by decide +kernel) rfl, vx_tb_in 37 (by decide +kernel) rfl, cd_X6_isPerson⟩
theorem mc_X6_103 : vx_mv RX6 103 mX6_findLoads := ⟨vx_tb_in 627 (by decide +kernel) rfl, vx_tb_in 629 (by decide +kernel) rfl, vx_tb_in 20 (by decide +kernel) rfl, vx_tb_in 37 (by decide +kernel) rfl, cd_X6_findLoads⟩
theorem mc_X6_107 : vx_mv RX6 107 mX6_uneven := ⟨vx_tb_in 631 (by decide +kernel) rfl, vx_tb_in 633 (by decide +kernel) rfl, vx_tb_in 21 (by decide +kernel) rfl, vx_tb_in 37 (by decide +kernel) rfl, cd_X6_uneven⟩
theorem mc_X6_111 : vx_mv RX6 111 mX6_isAhead := ⟨vx_tb_in 639 (by decide +kernel) rfl, vx_tb_in 641 (by decide +kernel) rfl, vx_tb_in 23 (by decide +kernel) rfl, vx_tb_in 37 (by decide +kernel) rfl, cd_X6_isAhead⟩
theorem mc_X6_123 : vx_mv RX6 123 mX6_fitsSo := ⟨vx_tb_in 623 (by decide +kernel) rfl, vx_tb_in 625 (by decide +kernel) rfl, vx_tb_in 19 (by decide +kernel) rfl, vx_tb_in 37 (by decide +kernel) rfl, cd_X6_fitsSo⟩
theorem mc_X6_129 : vx_mv RX6 129 mX6_hasNext := ⟨vx_tb_in 635 (by decide +kernel) rfl, vx_tb_in 637 (by decide +kernel) rfl, vx_tb_in 22 (by decide +kernel) rfl, vx_tb_in 37 (by decide +kernel) rfl, cd_X6_hasNext⟩
theorem mc_X6_133 : vx_mv RX6 133 mX6_findPlacings := ⟨vx_tb_in 619 (by decide +kernel) rfl, vx_tb_in 621 (by decide +kernel) rfl, vx_tb_in 18 (by decide +kernel) rfl, vx_tb_in 37 (by decide +kernel) rfl, cd_X6_findPlacings⟩
theorem mc_X6_136 : vx_mv RX6 136 mX6_isPlace := ⟨vx_tb_in 659 (by decide +kernel) rfl, vx_tb_in 661 (by decide +kernel) rfl, vx_tb_in 24 (by decide +kernel) rfl, vx_tb_in 37 (by decide +kernel) rfl, cd_X6_isPlace⟩
theorem mc_X6_139 : vx_mv RX6 139 mX6_useHand := ⟨vx_tb_in 667 (by decide +kernel) rfl, vx_tb_in 669 (by decide +kernel) rfl, vx_tb_in 25 (by decide +kernel) rfl, vx_tb_in 37 (by decide +kernel) rfl, cd_X6_useHand⟩
theorem mc_X6_142 : vx_mv RX6 142 mX6_findTimes := ⟨vx_tb_in 683 (by decide +kernel) rfl, vx_tb_in 685 (by decide +kernel) rfl, vx_tb_in 27 (by decide +kernel) rfl, vx_tb_in 37 (by decide +kernel) rfl, cd_X6_findTimes⟩
theorem mc_X6_151 : vx_mv RX6 151 mX6_climb := ⟨vx_tb_in 679 (by decide +kernel) rfl, vx_tb_in 681 (by decide +kernel) rfl, vx_tb_in 26 (by decide +kernel) rfl, vx_tb_in 37 (by decide +kernel) rfl, cd_X6_climb⟩
theorem mc_L_9 : vx_mi RL 9 mX5_init := ⟨vx_tb_in 41 (by decide +kernel) rfl, vx_tb_in 42 (by decide +kernel) rfl, vx_tb_in 29 (by decide +kernel) rfl, cd_X5_init⟩
theorem mc_L_12 : vx_mi RL 12 mX6_init := ⟨vx_tb_in 479 (by decide +kernel) rfl, vx_tb_in 480 (by decide +kernel) rfl, vx_tb_in 37 (by decide +kernel) rfl, cd_X6_init⟩
theorem mc_L_13 : vx_mv RL 13 mX5_storeys := ⟨vx_tb_in 277 (by decide +kernel) rfl, vx_tb_in 278 (by decide +kernel) rfl, vx_tb_in 279 (by decide +kernel) rfl, vx_tb_in 29 (by decide +kernel) rfl, cd_X5_storeys⟩
theorem mc_L_17 : vx_mv RL 17 mX6_storeys := ⟨vx_tb_in 584 (by decide +kernel) rfl, vx_tb_in 585 (by decide +kernel) rfl, vx_tb_in 586 (by decide +kernel) rfl, vx_tb_in 37 (by decide +kernel) rfl, cd_X6_storeys⟩
theorem mc_L_18 : vx_mv RL 18 mX5_width := ⟨vx_tb_in 293 (by decide +kernel) rfl, vx_tb_in 294 (by decide +kernel) rfl, vx_tb_in 295 (by decide +kernel) rfl, vx_tb_in 29 (by decide +kernel) rfl, cd_X5_width⟩
theorem mc_L_22 : vx_mv RL 22 mX6_width := ⟨vx_tb_in 595 (by decide +kernel) rfl, vx_tb_in 596 (by decide +kernel) rfl, vx_tb_in 597 (by decide +kernel) rfl, vx_tb_in 37 (by decide +kernel) rfl, cd_X6_width⟩
theorem mc_L_23 : vx_mv RL 23 mX5_person := ⟨vx_tb_in 297 (by decide +kernel) rfl, vx_tb_in 298 (by decide +kernel) rfl, vx_tb_in 299 (by decide +kernel) rfl, vx_tb_in 29 (by decide +kernel) rfl, cd_X5_person⟩
theorem mc_L_27 : vx_mv RL 27 mX6_person := ⟨vx_tb_in 599 (by decide +kernel) rfl, vx_tb_in 600 (by decide +kernel) rfl, vx_tb_in 601 (by decide +kernel) rfl, vx_tb_in 37 (by decide +kernel) rfl, cd_X6_person⟩
theorem mc_L_28 : vx_mv RL 28 mX5_out := ⟨vx_tb_in 305 (by decide +kernel) rfl, vx_tb_in 306 (by decide +kernel) rfl, vx_tb_in 307 (by decide +kernel) rfl, vx_tb_in 29 (by decide +kernel) rfl, cd_X5_out⟩
theorem mc_L_32 : vx_mv RL 32 mX6_out := ⟨vx_tb_in 603 (by decide +kernel) rfl, vx_tb_in 604 (by decide +kernel) rfl, vx_tb_in 605 (by decide +kernel) rfl, vx_tb_in 37 (by decide +kernel) rfl, cd_X6_out⟩
theorem mc_L_33 : vx_mv RL 33 mX5_play := ⟨vx_tb_in 309 (by decide +kernel) rfl, vx_tb_in 310 (by decide +kernel) rfl, vx_tb_in 311 (by decide +kernel) rfl, vx_tb_in 29 (by decide +kernel) rfl, cd_X5_play⟩
theorem mc_L_36 : vx_mv RL 36 mX6_play := ⟨vx_tb_in 611 (by decide +kernel) rfl, vx_tb_in 612 (by decide +kernel) rfl, vx_tb_in 613 (by decide +kernel) rfl, vx_tb_in 37 (by decide +kernel) rfl, cd_X6_play⟩
theorem mc_L_37 : vx_mv RL 37 mX5_fits := ⟨vx_tb_in 313 (by decide +kernel) rfl, vx_tb_in 314 (by decide +kernel) rfl, vx_tb_in 315 (by decide +kernel) rfl, vx_tb_in 29 (by decide +kernel) rfl, cd_X5_fits⟩
theorem mc_L_41 : vx_mv RL 41 mX6_fits := ⟨vx_tb_in 615 (by decide +kernel) rfl, vx_tb_in 616 (by decide +kernel) rfl, vx_tb_in 617 (by decide +kernel) rfl, vx_tb_in 37 (by decide +kernel) rfl, cd_X6_fits⟩
theorem mc_L_42 : vx_mv RL 42 mX5_level := ⟨vx_tb_in 357 (by decide +kernel) rfl, vx_tb_in 358 (by decide +kernel) rfl, vx_tb_in 359 (by decide +kernel) rfl, vx_tb_in 29 (by decide +kernel) rfl, cd_X5_level⟩
theorem mc_L_45 : vx_mv RL 45 mX6_level := ⟨vx_tb_in 643 (by decide +kernel) rfl, vx_tb_in 644 (by decide +kernel) rfl, vx_tb_in 645 (by decide +kernel) rfl, vx_tb_in 37 (by decide +kernel) rfl, cd_X6_level⟩
theorem mc_L_46 : vx_mv RL 46 mX5_close := ⟨vx_tb_in 369 (by decide +kernel) rfl, vx_tb_in 370 (by decide +kernel) rfl, vx_tb_in 371 (by decide +kernel) rfl, vx_tb_in 29 (by decide +kernel) rfl, cd_X5_close⟩
theorem mc_L_49 : vx_mv RL 49 mX6_close := ⟨vx_tb_in 647 (by decide +kernel) rfl, vx_tb_in 648 (by decide +kernel) rfl, vx_tb_in 649 (by decide +kernel) rfl, vx_tb_in 37 (by decide +kernel) rfl, cd_X6_close⟩
theorem mc_L_50 : vx_mv RL 50 mX5_take := ⟨vx_tb_in 381 (by decide +kernel) rfl, vx_tb_in 382 (by decide +kernel) rfl, vx_tb_in 383 (by decide +kernel) rfl, vx_tb_in 29 (by decide +kernel) rfl, cd_X5_take⟩
theorem mc_L_53 : vx_mv RL 53 mX6_take := ⟨vx_tb_in 651 (by decide +kernel) rfl, vx_tb_in 652 (by decide +kernel) rfl, vx_tb_in 653 (by decide +kernel) rfl, vx_tb_in 37 (by decide +kernel) rfl, cd_X6_take⟩
theorem mc_L_54 : vx_mv RL 54 mX5_at := ⟨vx_tb_in 386 (by decide +kernel) rfl, vx_tb_in 387 (by decide +kernel) rfl, vx_tb_in 388 (by decide +kernel) rfl, vx_tb_in 29 (by decide +kernel) rfl, cd_X5_at⟩
theorem mc_L_57 : vx_mv RL 57 mX6_at := ⟨vx_tb_in 655 (by decide +kernel) rfl, vx_tb_in 656 (by decide +kernel) rfl, vx_tb_in 657 (by decide +kernel) rfl, vx_tb_in 37 (by decide +kernel) rfl, cd_X6_at⟩
theorem mc_L_58 : vx_mv RL 58 mX5_load := ⟨vx_tb_in 394 (by decide +kernel) rfl, vx_tb_in 395 (by decide +kernel) rfl, vx_tb_in 396 (by decide +kernel) rfl, vx_tb_in 29 (by decide +kernel) rfl, cd_X5_load⟩
theorem mc_L_61 : vx_mv RL 61 mX6_load := ⟨vx_tb_in 663 (by decide +kernel) rfl, vx_tb_in 664 (by decide +kernel) rfl, vx_tb_in 665 (by decide +kernel) rfl, vx_tb_in 37 (by decide +kernel) rfl, cd_X6_load⟩
theorem mc_L_62 : vx_mv RL 62 mX5_swap := ⟨vx_tb_in 402 (by decide +kernel) rfl, vx_tb_in 403 (by decide +kernel) rfl, vx_tb_in 404 (by decide +kernel) rfl, vx_tb_in 29 (by decide +kernel) rfl, cd_X5_swap⟩
theorem mc_L_65 : vx_mv RL 65 mX6_swap := ⟨vx_tb_in 671 (by decide +kernel) rfl, vx_tb_in 672 (by decide +kernel) rfl, vx_tb_in 673 (by decide +kernel) rfl, vx_tb_in 37 (by decide +kernel) rfl, cd_X6_swap⟩
theorem mc_L_66 : vx_mv RL 66 mX5_tick := ⟨vx_tb_in 423 (by decide +kernel) rfl, vx_tb_in 424 (by decide +kernel) rfl, vx_tb_in 425 (by decide +kernel) rfl, vx_tb_in 29 (by decide +kernel) rfl, cd_X5_tick⟩
theorem mc_L_69 : vx_mv RL 69 mX6_tick := ⟨vx_tb_in 675 (by decide +kernel) rfl, vx_tb_in 676 (by decide +kernel) rfl, vx_tb_in 677 (by decide +kernel) rfl, vx_tb_in 37 (by decide +kernel) rfl, cd_X6_tick⟩
theorem mc_L_70 : vx_mv RL 70 mX5_weak := ⟨vx_tb_in 449 (by decide +kernel) rfl, vx_tb_in 450 (by decide +kernel) rfl, vx_tb_in 451 (by decide +kernel) rfl, vx_tb_in 29 (by decide +kernel) rfl, cd_X5_weak⟩
theorem mc_L_73 : vx_mv RL 73 mX6_weak := ⟨vx_tb_in 687 (by decide +kernel) rfl, vx_tb_in 688 (by decide +kernel) rfl, vx_tb_in 689 (by decide +kernel) rfl, vx_tb_in 37 (by decide +kernel) rfl, cd_X6_weak⟩
theorem mc_L_74 : vx_mv RL 74 mX5_effort := ⟨vx_tb_in 453 (by decide +kernel) rfl, vx_tb_in 454 (by decide +kernel) rfl, vx_tb_in 455 (by decide +kernel) rfl, vx_tb_in 29 (by decide +kernel) rfl, cd_X5_effort⟩
theorem mc_L_77 : vx_mv RL 77 mX6_effort := ⟨vx_tb_in 691 (by decide +kernel) rfl, vx_tb_in 692 (by decide +kernel) rfl, vx_tb_in 693 (by decide +kernel) rfl, vx_tb_in 37 (by decide +kernel) rfl, cd_X6_effort⟩
theorem mc_L_78 : vx_mv RL 78 mX5_worths := ⟨vx_tb_in 457 (by decide +kernel) rfl, vx_tb_in 458 (by decide +kernel) rfl, vx_tb_in 459 (by decide +kernel) rfl, vx_tb_in 29 (by decide +kernel) rfl, cd_X5_worths⟩
theorem mc_L_81 : vx_mv RL 81 mX6_worths := ⟨vx_tb_in 695 (by decide +kernel) rfl, vx_tb_in 696 (by decide +kernel) rfl, vx_tb_in 697 (by decide +kernel) rfl, vx_tb_in 37 (by decide +kernel) rfl, cd_X6_worths⟩
theorem mc_L_82 : vx_mv RL 82 mX5_attempt := ⟨vx_tb_in 461 (by decide +kernel) rfl, vx_tb_in 462 (by decide +kernel) rfl, vx_tb_in 463 (by decide +kernel) rfl, vx_tb_in 29 (by decide +kernel) rfl, cd_X5_attempt⟩
theorem mc_L_85 : vx_mv RL 85 mX6_attempt := ⟨vx_tb_in 699 (by decide +kernel) rfl, vx_tb_in 700 (by decide +kernel) rfl, vx_tb_in 701 (by decide +kernel) rfl, vx_tb_in 37 (by decide +kernel) rfl, cd_X6_attempt⟩
theorem mc_L_86 : vx_mv RL 86 mX5_count := ⟨vx_tb_in 469 (by decide +kernel) rfl, vx_tb_in 470 (by decide +kernel) rfl, vx_tb_in 471 (by decide +kernel) rfl, vx_tb_in 29 (by decide +kernel) rfl, cd_X5_count⟩
theorem mc_L_89 : vx_mv RL 89 mX6_count := ⟨vx_tb_in 703 (by decide +kernel) rfl, vx_tb_in 704 (by decide +kernel) rfl, vx_tb_in 705 (by decide +kernel) rfl, vx_tb_in 37 (by decide +kernel) rfl, cd_X6_count⟩
theorem ob_1 : Cond.instanceMethod Lib.objectInit ∈ vx_tb := vx_tb_in 45 (by decide +kernel) rfl
theorem ob_2 : Cond.code Lib.objectInit ⟨#[0xb1]⟩ 1 none ∈ vx_tb := vx_tb_in 46 (by decide +kernel) rfl
theorem ma_min_1 : Cond.static Lib.Math.min.name ∈ vx_tb := vx_tb_in 60 (by decide +kernel) rfl
theorem ma_min_2 : Cond.code Lib.Math.min.name Lib.Math.min.code 2 (some .int) ∈ vx_tb := vx_tb_in 61 (by decide +kernel) rfl
theorem ma_max_1 : Cond.static Lib.Math.max.name ∈ vx_tb := vx_tb_in 343 (by decide +kernel) rfl
theorem ma_max_2 : Cond.code Lib.Math.max.name Lib.Math.max.code 2 (some .int) ∈ vx_tb := vx_tb_in 344 (by decide +kernel) rfl
theorem ma_ini : Cond.initialized "java/lang/Math" ∈ vx_tb := vx_tb_in 31 (by decide +kernel) rfl
theorem ac_1 : Cond.native arraycopyName ∈ vx_tb := vx_tb_in 336 (by decide +kernel) rfl
theorem ac_2 : Cond.static arraycopyName ∈ vx_tb := vx_tb_in 335 (by decide +kernel) rfl
theorem ac_3 : Cond.initialized "java/lang/System" ∈ vx_tb := vx_tb_in 38 (by decide +kernel) rfl
theorem ck_L_7 : Cond.classLink RL 7 "PeopleTower" ∈ vx_tb := vx_tb_in 39 (by decide +kernel) rfl
theorem ck_X5_7 : Cond.classLink RX5 7 "PeopleTower$Tower" ∈ vx_tb := vx_tb_in 47 (by decide +kernel) rfl
theorem ck_X4_21 : Cond.classLink RX4 21 "[[I" ∈ vx_tb := vx_tb_in 53 (by decide +kernel) rfl
theorem ck_X5_16 : Cond.classLink RX5 16 "PeopleTower$People" ∈ vx_tb := vx_tb_in 108 (by decide +kernel) rfl
theorem ck_X5_23 : Cond.classLink RX5 23 "PeopleTower$Rules" ∈ vx_tb := vx_tb_in 148 (by decide +kernel) rfl
theorem ck_X5_32 : Cond.classLink RX5 32 "PeopleTower$Search" ∈ vx_tb := vx_tb_in 166 (by decide +kernel) rfl
theorem ck_X3_15 : Cond.classLink RX3 15 "[[I" ∈ vx_tb := vx_tb_in 172 (by decide +kernel) rfl
theorem ck_X5_41 : Cond.classLink RX5 41 "PeopleTower$Climb" ∈ vx_tb := vx_tb_in 214 (by decide +kernel) rfl
theorem ck_L_10 : Cond.classLink RL 10 "PeopleTowerModel" ∈ vx_tb := vx_tb_in 477 (by decide +kernel) rfl
theorem in_X0 : Cond.instantiable RX0 7 ∈ vx_tb := vx_tb_in 215 (by decide +kernel) rfl
theorem iz_X0 : Cond.initialized RX0 ∈ vx_tb := vx_tb_in 36 (by decide +kernel) rfl
theorem in_X1 : Cond.instantiable RX1 7 ∈ vx_tb := vx_tb_in 109 (by decide +kernel) rfl
theorem iz_X1 : Cond.initialized RX1 ∈ vx_tb := vx_tb_in 33 (by decide +kernel) rfl
theorem in_X2 : Cond.instantiable RX2 3 ∈ vx_tb := vx_tb_in 149 (by decide +kernel) rfl
theorem iz_X2 : Cond.initialized RX2 ∈ vx_tb := vx_tb_in 34 (by decide +kernel) rfl
theorem in_X3 : Cond.instantiable RX3 13 ∈ vx_tb := vx_tb_in 167 (by decide +kernel) rfl
theorem iz_X3 : Cond.initialized RX3 ∈ vx_tb := vx_tb_in 35 (by decide +kernel) rfl
theorem in_X4 : Cond.instantiable RX4 6 ∈ vx_tb := vx_tb_in 48 (by decide +kernel) rfl
theorem iz_X4 : Cond.initialized RX4 ∈ vx_tb := vx_tb_in 30 (by decide +kernel) rfl
theorem in_X5 : Cond.instantiable RX5 10 ∈ vx_tb := vx_tb_in 40 (by decide +kernel) rfl
theorem iz_X5 : Cond.initialized RX5 ∈ vx_tb := vx_tb_in 29 (by decide +kernel) rfl
theorem in_X6 : Cond.instantiable RX6 32 ∈ vx_tb := vx_tb_in 478 (by decide +kernel) rfl
theorem iz_X6 : Cond.initialized RX6 ∈ vx_tb := vx_tb_in 37 (by decide +kernel) rfl
theorem ar_int : Cond.arrayClass .int ∈ vx_tb := vx_tb_in 107 (by decide +kernel) rfl
theorem ar_boolean : Cond.arrayClass .boolean ∈ vx_tb := vx_tb_in 147 (by decide +kernel) rfl
theorem ct_max : Cond.constant RX3 71 (Int32.ofInt 2147483647) ∈ vx_tb := vx_tb_in 325 (by decide +kernel) rfl
end
section
def SH : List vx_H := [.inl (5, [some (some 1), some (some 13), some (some 20), some (some 21), some (some 36), some (some 39), none, none, none, none]), .inl (4, [some (some 2), some (some 3), some (some 4), some (some 5), none, none]), .inr (.inl (false, 4)), .inr (.inl (false, 4)), .inr (.inl (false, 7)), .inr (.inr [some 6, some 7, some 8, some 9, some 10, some 11, some 12]), .inr (.inl (false, 7)), .inr (.inl (false, 7)), .inr (.inl (false, 7)), .inr (.inl (false, 7)), .inr (.inl (false, 7)), .inr (.inl (false, 7)), .inr (.inl (false, 7)), .inl (1, [some (some 14), some (some 15), some (some 16), some (some 17), some (some 18), some (some 19), none]), .inr (.inl (false, 8)), .inr (.inl (false, 8)), .inr (.inl (false, 8)), .inr (.inl (false, 8)), .inr (.inl (false, 8)), .inr (.inl (true, 8)), .inl (2, [some (some 1), some (some 13), none]), .inl (3, [some (some 1), some (some 13), some (some 20), some (some 22), some (some 23), some (some 32), some (some 33), some (some 34), some (some 35), none, none, none, none]), .inr (.inl (false, 7)), .inr (.inr [some 24, some 25, some 26, some 27, some 28, some 29, some 30, some 31]), .inr (.inl (false, 7)), .inr (.inl (false, 7)), .inr (.inl (false, 7)), .inr (.inl (false, 7)), .inr (.inl (false, 7)), .inr (.inl (false, 7)), .inr (.inl (false, 7)), .inr (.inl (false, 7)), .inr (.inl (false, 7)), .inr (.inl (true, 8)), .inr (.inl (false, 7)), .inr (.inl (false, 7)), .inl (0, [some (some 1), some (some 13), some (some 20), some (some 37), some (some 38), none, none]), .inr (.inl (false, 7)), .inr (.inl (false, 7)), .inr (.inl (false, 7)), .inl (6, [none, some (some 41), none, some (some 42), some (some 43), some (some 44), some (some 45), some (some 46), some (some 47), none, none, some (some 48), some (some 49), some (some 50), none, some (some 51), some (some 52), some (some 53), none, none, some (some 54), none, none, some (some 55), some (some 56), some (some 57), some (some 58), none, none, none, none, none]), .inr (.inl (false, 4)), .inr (.inl (false, 8)), .inr (.inl (false, 8)), .inr (.inl (false, 8)), .inr (.inl (false, 8)), .inr (.inl (false, 8)), .inr (.inl (true, 8)), .inr (.inl (false, 12)), .inr (.inl (false, 12)), .inr (.inl (false, 12)), .inr (.inl (false, 12)), .inr (.inl (false, 12)), .inr (.inl (false, 12)), .inr (.inl (false, 12)), .inr (.inl (false, 12)), .inr (.inl (false, 12)), .inr (.inl (false, 12)), .inr (.inl (false, 12))]
theorem s_0 : SH[0]? = some (.inl (5, [some (some 1), some (some 13), some (some 20), some (some 21), some (some 36), some (some 39), none, none, none, none])) := rfl
theorem s_1 : SH[1]? = some (.inl (4, [some (some 2), some (some 3), some (some 4), some (some 5), none, none])) := rfl
theorem s_2 : SH[2]? = some (.inr (.inl (false, 4))) := rfl
theorem s_3 : SH[3]? = some (.inr (.inl (false, 4))) := rfl
theorem s_4 : SH[4]? = some (.inr (.inl (false, 7))) := rfl
theorem s_5 : SH[5]? = some (.inr (.inr [some 6, some 7, some 8, some 9, some 10, some 11, some 12])) := rfl
theorem s_6 : SH[6]? = some (.inr (.inl (false, 7))) := rfl
theorem s_7 : SH[7]? = some (.inr (.inl (false, 7))) := rfl
theorem s_8 : SH[8]? = some (.inr (.inl (false, 7))) := rfl
theorem s_9 : SH[9]? = some (.inr (.inl (false, 7))) := rfl
theorem s_10 : SH[10]? = some (.inr (.inl (false, 7))) := rfl
theorem s_11 : SH[11]? = some (.inr (.inl (false, 7))) := rfl
theorem s_12 : SH[12]? = some (.inr (.inl (false, 7))) := rfl
theorem s_13 : SH[13]? = some (.inl (1, [some (some 14), some (some 15), some (some 16), some (some 17), some (some 18), some (some 19), none])) := rfl
theorem s_14 : SH[14]? = some (.inr (.inl (false, 8))) := rfl
theorem s_15 : SH[15]? = some (.inr (.inl (false, 8))) := rfl
theorem s_16 : SH[16]? = some (.inr (.inl (false, 8))) := rfl
theorem s_17 : SH[17]? = some (.inr (.inl (false, 8))) := rfl
theorem s_18 : SH[18]? = some (.inr (.inl (false, 8))) := rfl
theorem s_19 : SH[19]? = some (.inr (.inl (true, 8))) := rfl
theorem s_20 : SH[20]? = some (.inl (2, [some (some 1), some (some 13), none])) := rfl
theorem s_21 : SH[21]? = some (.inl (3, [some (some 1), some (some 13), some (some 20), some (some 22), some (some 23), some (some 32), some (some 33), some (some 34), some (some 35), none, none, none, none])) := rfl
theorem s_22 : SH[22]? = some (.inr (.inl (false, 7))) := rfl
theorem s_23 : SH[23]? = some (.inr (.inr [some 24, some 25, some 26, some 27, some 28, some 29, some 30, some 31])) := rfl
theorem s_24 : SH[24]? = some (.inr (.inl (false, 7))) := rfl
theorem s_25 : SH[25]? = some (.inr (.inl (false, 7))) := rfl
theorem s_26 : SH[26]? = some (.inr (.inl (false, 7))) := rfl
theorem s_27 : SH[27]? = some (.inr (.inl (false, 7))) := rfl
theorem s_28 : SH[28]? = some (.inr (.inl (false, 7))) := rfl
theorem s_29 : SH[29]? = some (.inr (.inl (false, 7))) := rfl
theorem s_30 : SH[30]? = some (.inr (.inl (false, 7))) := rfl
theorem s_31 : SH[31]? = some (.inr (.inl (false, 7))) := rfl
theorem s_32 : SH[32]? = some (.inr (.inl (false, 7))) := rfl
theorem s_33 : SH[33]? = some (.inr (.inl (true, 8))) := rfl
theorem s_34 : SH[34]? = some (.inr (.inl (false, 7))) := rfl
theorem s_35 : SH[35]? = some (.inr (.inl (false, 7))) := rfl
theorem s_36 : SH[36]? = some (.inl (0, [some (some 1), some (some 13), some (some 20), some (some 37), some (some 38), none, none])) := rfl
theorem s_37 : SH[37]? = some (.inr (.inl (false, 7))) := rfl
theorem s_38 : SH[38]? = some (.inr (.inl (false, 7))) := rfl
theorem s_39 : SH[39]? = some (.inr (.inl (false, 7))) := rfl
theorem s_40 : SH[40]? = some (.inl (6, [none, some (some 41), none, some (some 42), some (some 43), some (some 44), some (some 45), some (some 46), some (some 47), none, none, some (some 48), some (some 49), some (some 50), none, some (some 51), some (some 52), some (some 53), none, none, some (some 54), none, none, some (some 55), some (some 56), some (some 57), some (some 58), none, none, none, none, none])) := rfl
theorem s_41 : SH[41]? = some (.inr (.inl (false, 4))) := rfl
theorem s_42 : SH[42]? = some (.inr (.inl (false, 8))) := rfl
theorem s_43 : SH[43]? = some (.inr (.inl (false, 8))) := rfl
theorem s_44 : SH[44]? = some (.inr (.inl (false, 8))) := rfl
theorem s_45 : SH[45]? = some (.inr (.inl (false, 8))) := rfl
theorem s_46 : SH[46]? = some (.inr (.inl (false, 8))) := rfl
theorem s_47 : SH[47]? = some (.inr (.inl (true, 8))) := rfl
theorem s_48 : SH[48]? = some (.inr (.inl (false, 12))) := rfl
theorem s_49 : SH[49]? = some (.inr (.inl (false, 12))) := rfl
theorem s_50 : SH[50]? = some (.inr (.inl (false, 12))) := rfl
theorem s_51 : SH[51]? = some (.inr (.inl (false, 12))) := rfl
theorem s_52 : SH[52]? = some (.inr (.inl (false, 12))) := rfl
theorem s_53 : SH[53]? = some (.inr (.inl (false, 12))) := rfl
theorem s_54 : SH[54]? = some (.inr (.inl (false, 12))) := rfl
theorem s_55 : SH[55]? = some (.inr (.inl (false, 12))) := rfl
theorem s_56 : SH[56]? = some (.inr (.inl (false, 12))) := rfl
theorem s_57 : SH[57]? = some (.inr (.inl (false, 12))) := rfl
theorem s_58 : SH[58]? = some (.inr (.inl (false, 12))) := rfl
theorem s_sr (j : Nat) (h : j < 7) : SH[6 + j]? = some (.inr (.inl (false, 7))) := by
  match j, h with
  | 0, _ => exact s_6
  | 1, _ => exact s_7
  | 2, _ => exact s_8
  | 3, _ => exact s_9
  | 4, _ => exact s_10
  | 5, _ => exact s_11
  | 6, _ => exact s_12
theorem s_lr (j : Nat) (h : j < 8) : SH[24 + j]? = some (.inr (.inl (false, 7))) := by
  match j, h with
  | 0, _ => exact s_24
  | 1, _ => exact s_25
  | 2, _ => exact s_26
  | 3, _ => exact s_27
  | 4, _ => exact s_28
  | 5, _ => exact s_29
  | 6, _ => exact s_30
  | 7, _ => exact s_31
theorem ra_5 (j : Nat) (h : j < 7) : ([some 6, some 7, some 8, some 9, some 10, some 11, some 12] : List (Option Nat))[j]? = some (some (6 + j)) := by
  match j, h with
  | 0, _ => rfl
  | 1, _ => rfl
  | 2, _ => rfl
  | 3, _ => rfl
  | 4, _ => rfl
  | 5, _ => rfl
  | 6, _ => rfl
theorem ra_23 (j : Nat) (h : j < 8) : ([some 24, some 25, some 26, some 27, some 28, some 29, some 30, some 31] : List (Option Nat))[j]? = some (some (24 + j)) := by
  match j, h with
  | 0, _ => rfl
  | 1, _ => rfl
  | 2, _ => rfl
  | 3, _ => rfl
  | 4, _ => rfl
  | 5, _ => rfl
  | 6, _ => rfl
  | 7, _ => rfl
/-- the tower's own cells are there -/
def vx_TW (sh : List vx_H) : Prop := sh[1]? = some (.inl (4, [some (some 2), some (some 3), some (some 4), some (some 5), none, none])) ∧ sh[2]? = some (.inr (.inl (false, 4))) ∧ sh[3]? = some (.inr (.inl (false, 4))) ∧ sh[4]? = some (.inr (.inl (false, 7))) ∧ sh[5]? = some (.inr (.inr [some 6, some 7, some 8, some 9, some 10, some 11, some 12])) ∧ ∀ j, j < 7 → sh[6 + j]? = some (.inr (.inl (false, 7)))
theorem tw_SH : vx_TW SH := ⟨s_1, s_2, s_3, s_4, s_5, s_sr⟩
abbrev vx_all : Nat → Prop := fun _ => True
def vx_pi (sh : List vx_H) (Q : Int → vx_M → Prop) : vx_P := fun r sh' g' => sh' = sh ∧ ∃ z, r = some z ∧ Q z g'
def vx_pv (sh : List vx_H) (Q : vx_M → Prop) : vx_P := fun r sh' g' => sh' = sh ∧ r = none ∧ Q g'
abbrev vNi (l : Launch) (M : vx_Me) (d : Nat) (av : List vx_V) (sh : List vx_H) (g : vx_M) (Q : Int → vx_M → Prop) : Prop := vx_Ci l M (vx_rm d 0 0) vx_all 0 0 av sh g (vx_pi sh Q)
abbrev vNv (l : Launch) (M : vx_Me) (d : Nat) (av : List vx_V) (sh : List vx_H) (g : vx_M) (Q : vx_M → Prop) : Prop := vx_Cv l M (vx_rm d 0 0) vx_all 0 0 av sh g (vx_pv sh Q)
abbrev vN (l : Launch) (M : vx_Me) (d : Nat) (P : vx_P) (sh : List vx_H) (g : vx_M) (pc : Nat) (L : List (Option vx_V)) (st : List vx_V) : Prop := vJ l M (vx_rm d 0 0) vx_all P 0 0 0 0 sh g pc L st
theorem vNi_of {l : Launch} {M : vx_Me} {d : Nat} {av : List vx_V} {sh : List vx_H} {g : vx_M} {Q : Int → vx_M → Prop} (L : List (Option vx_V)) (hy : plainName M.1.cls = true) (hlen : av.length ≤ M.2.2.1) (hL : av.map some ++ List.replicate (M.2.2.1 - av.length) none = L) (h : vN l M d (vx_pi sh Q) sh g 0 L []) : vNi l M d av sh g Q :=
  vx_Ci.of L hy hlen hL (fun sh' g' q => by obtain ⟨_, z, hz, _⟩ := q; cases hz) h
theorem vNv_of {l : Launch} {M : vx_Me} {d : Nat} {av : List vx_V} {sh : List vx_H} {g : vx_M} {Q : vx_M → Prop} (L : List (Option vx_V)) (hy : plainName M.1.cls = true) (hlen : av.length ≤ M.2.2.1) (hL : av.map some ++ List.replicate (M.2.2.1 - av.length) none = L) (h : vN l M d (vx_pv sh Q) sh g 0 L []) : vNv l M d av sh g Q :=
  vx_Cv.of L hy hlen hL (fun z sh' g' q => by obtain ⟨_, hz, _⟩ := q; cases hz) h
end
section
set_option maxRecDepth 100000 in
theorem tJ7_fill_53178_0 {l : Launch} {d : Nat} {sh : List vx_H} {Q : vx_M → Prop} {kf nf : Nat} (hkf : sh[kf]? = some (.inr (.inl (false, nf)))) (hnf : nf < 1000) (g : vx_M) (v1 : Int) (h : vN l mJ7_fill_53178 d (vx_pv sh Q) sh g 5 [some (.inr (some (kf))), some (.inl v1), some (.inl 0), some (.inl ((nf : Int) : Int))] []) : vN l mJ7_fill_53178 d (vx_pv sh Q) sh g 0 [some (.inr (some (kf))), some (.inl v1), none, none] [] := by
  refine vr_iconst 1 dJ7_fill_53178_0 rfl ⟨by decide, by decide⟩ ?_
  refine vr_istore_n 2 [some (.inr (some (kf))), some (.inl v1), some (.inl 0), none] dJ7_fill_53178_1 rfl rfl (by decide) rfl ?_
  refine vr_aload_n 3 dJ7_fill_53178_2 rfl rfl rfl ?_
  refine vr_alen 4 dJ7_fill_53178_3 rfl hkf ⟨by omega, by omega⟩ ?_
  refine vr_istore_n 5 [some (.inr (some (kf))), some (.inl v1), some (.inl 0), some (.inl ((nf : Int) : Int))] dJ7_fill_53178_4 rfl rfl (by decide) rfl ?_
  exact h
theorem kJ7_fill_53178 {l : Launch} {d : Nat} {sh : List vx_H} {Q : vx_M → Prop} {kf nf : Nat} (hkf : sh[kf]? = some (.inr (.inl (false, nf)))) (hnf : nf < 1000) (g : vx_M) (v1 : Int) (h : vN l mJ7_fill_53178 d (vx_pv sh Q) sh g 5 [some (.inr (some (kf))), some (.inl v1), some (.inl 0), some (.inl ((nf : Int) : Int))] []) : vNv l mJ7_fill_53178 d [.inr (some (kf)), .inl v1] sh g Q := vNv_of [some (.inr (some (kf))), some (.inl v1), none, none] pn_J7 (Nat.le_of_ble_eq_true rfl) rfl (tJ7_fill_53178_0 hkf hnf g v1 h)
set_option maxRecDepth 100000 in
theorem tJ7_fill_53178_5 {l : Launch} {d : Nat} {sh : List vx_H} {Q : vx_M → Prop} {kf nf : Nat} (hkf : sh[kf]? = some (.inr (.inl (false, nf)))) (hnf : nf < 1000) (g : vx_M) (v1 v2 v3 : Int) (h : ((v3 ≤ v2 → Q g) ∧ (¬ v3 ≤ v2 → (0 ≤ v2 ∧ v2 < (nf : Int)) ∧ vx_in (v2 + 1) ∧ vN l mJ7_fill_53178 d (vx_pv sh Q) sh (vx_u g (kf) v2 v1) 5 [some (.inr (some (kf))), some (.inl v1), some (.inl (v2 + 1)), some (.inl v3)] []))) : vN l mJ7_fill_53178 d (vx_pv sh Q) sh g 5 [some (.inr (some (kf))), some (.inl v1), some (.inl v2), some (.inl v3)] [] := by
  refine vr_iload_n 6 dJ7_fill_53178_5 rfl rfl rfl ?_
  refine vr_iload_n 7 dJ7_fill_53178_6 rfl rfl rfl ?_
  refine vr_icmp_ge 20 10 dJ7_fill_53178_7 rfl rfl (fun c => ?_) (fun c => ?_)
  · replace h := h.1 c
    exact vr_vret rfl (Nat.le_refl _) (Nat.le_refl _) dJ7_fill_53178_20 ⟨rfl, rfl, h⟩
  · replace h := h.2 c
    refine vr_aload_n 11 dJ7_fill_53178_10 rfl rfl rfl ?_
    refine vr_iload_n 12 dJ7_fill_53178_11 rfl rfl rfl ?_
    refine vr_iload_n 13 dJ7_fill_53178_12 rfl rfl rfl ?_
    obtain ⟨o1, h⟩ := h
    refine vr_iast 14 dJ7_fill_53178_13 rfl hkf o1.1 o1.2 ?_
    obtain ⟨o2, h⟩ := h
    refine vr_iinc 17 [some (.inr (some (kf))), some (.inl v1), some (.inl (v2 + 1)), some (.inl v3)] dJ7_fill_53178_14 rfl rfl o2 (by decide) rfl ?_
    refine vr_goto 5 dJ7_fill_53178_17 rfl ?_
    exact h
set_option maxRecDepth 100000 in
theorem tX4_placesUpTo_0 {l : Launch} {d : Nat} {sh : List vx_H} {Q : Int → vx_M → Prop} (hT : vx_TW sh) (g : vx_M) (v1 : Int) (h : vN l mX4_placesUpTo d (vx_pi sh Q) sh g 4 [some (.inr (some 1)), some (.inl v1), some (.inl 0), some (.inl 0)] []) : vN l mX4_placesUpTo d (vx_pi sh Q) sh g 0 [some (.inr (some 1)), some (.inl v1), none, none] [] := by
  refine vr_iconst 1 dX4_placesUpTo_0 rfl ⟨by decide, by decide⟩ ?_
  refine vr_istore_n 2 [some (.inr (some 1)), some (.inl v1), some (.inl 0), none] dX4_placesUpTo_1 rfl rfl (by decide) rfl ?_
  refine vr_iconst 3 dX4_placesUpTo_2 rfl ⟨by decide, by decide⟩ ?_
  refine vr_istore_n 4 [some (.inr (some 1)), some (.inl v1), some (.inl 0), some (.inl 0)] dX4_placesUpTo_3 rfl rfl (by decide) rfl ?_
  exact h
theorem kX4_placesUpTo {l : Launch} {d : Nat} {sh : List vx_H} {Q : Int → vx_M → Prop} (hT : vx_TW sh) (g : vx_M) (v1 : Int) (h : vN l mX4_placesUpTo d (vx_pi sh Q) sh g 4 [some (.inr (some 1)), some (.inl v1), some (.inl 0), some (.inl 0)] []) : vNi l mX4_placesUpTo d [.inr (some 1), .inl v1] sh g Q := vNi_of [some (.inr (some 1)), some (.inl v1), none, none] pn_X4 (Nat.le_of_ble_eq_true rfl) rfl (tX4_placesUpTo_0 hT g v1 h)
set_option maxRecDepth 100000 in
theorem tX4_placesUpTo_4 {l : Launch} {d : Nat} {sh : List vx_H} {Q : Int → vx_M → Prop} (hT : vx_TW sh) (g : vx_M) (v1 v2 v3 : Int) (h : ((v1 ≤ v3 → Q v2 g) ∧ (¬ v1 ≤ v3 → ((4 ≤ v3 → Q v2 g) ∧ (¬ 4 ≤ v3 → (0 ≤ v3 ∧ v3 < 4) ∧ vx_in (v2 + (g 2 v3)) ∧ vx_in (v3 + 1) ∧ vN l mX4_placesUpTo d (vx_pi sh Q) sh g 4 [some (.inr (some 1)), some (.inl v1), some (.inl (v2 + (g 2 v3))), some (.inl (v3 + 1))] []))))) : vN l mX4_placesUpTo d (vx_pi sh Q) sh g 4 [some (.inr (some 1)), some (.inl v1), some (.inl v2), some (.inl v3)] [] := by
  refine vr_iload_n 5 dX4_placesUpTo_4 rfl rfl rfl ?_
  refine vr_iload_n 6 dX4_placesUpTo_5 rfl rfl rfl ?_
  refine vr_icmp_ge 29 9 dX4_placesUpTo_6 rfl rfl (fun c => ?_) (fun c => ?_)
  · replace h := h.1 c
    refine vr_iload_n 30 dX4_placesUpTo_29 rfl rfl rfl ?_
    exact vr_iret rfl (Nat.le_refl _) (Nat.le_refl _) dX4_placesUpTo_30 ⟨rfl, _, rfl, h⟩
  · replace h := h.2 c
    refine vr_iload_n 10 dX4_placesUpTo_9 rfl rfl rfl ?_
    refine vr_iconst 11 dX4_placesUpTo_10 rfl ⟨by decide, by decide⟩ ?_
    refine vr_icmp_ge 29 14 dX4_placesUpTo_11 rfl rfl (fun c => ?_) (fun c => ?_)
    · replace h := h.1 c
      refine vr_iload_n 30 dX4_placesUpTo_29 rfl rfl rfl ?_
      exact vr_iret rfl (Nat.le_refl _) (Nat.le_refl _) dX4_placesUpTo_30 ⟨rfl, _, rfl, h⟩
    · replace h := h.2 c
      refine vr_iload_n 15 dX4_placesUpTo_14 rfl rfl rfl ?_
      refine vr_aload_n 16 dX4_placesUpTo_15 rfl rfl rfl ?_
      refine vr_getr 19 0 cl_X4 fl_X4_9 (by decide) dX4_placesUpTo_16 rfl hT.1 rfl ?_
      refine vr_iload_n 20 dX4_placesUpTo_19 rfl rfl rfl ?_
      obtain ⟨o1, h⟩ := h
      refine vr_iald 21 dX4_placesUpTo_20 rfl hT.2.1 o1.1 o1.2 ?_
      obtain ⟨o2, h⟩ := h
      refine vr_iadd 22 dX4_placesUpTo_21 rfl o2 ?_
      refine vr_istore_n 23 [some (.inr (some 1)), some (.inl v1), some (.inl (v2 + (g 2 v3))), some (.inl v3)] dX4_placesUpTo_22 rfl rfl (by decide) rfl ?_
      obtain ⟨o3, h⟩ := h
      refine vr_iinc 26 [some (.inr (some 1)), some (.inl v1), some (.inl (v2 + (g 2 v3))), some (.inl (v3 + 1))] dX4_placesUpTo_23 rfl rfl o3 (by decide) rfl ?_
      refine vr_goto 4 dX4_placesUpTo_26 rfl ?_
      exact h
set_option maxRecDepth 100000 in
theorem tX4_build_0 {l : Launch} {d : Nat} {sh : List vx_H} {Q : vx_M → Prop} (hT : vx_TW sh) (g : vx_M) (v1 : Int) (h : vN l mX4_build (d + 1) (vx_pv sh Q) sh (vx_u (vx_u g 1 4 (min v1 4)) 1 5 0) 16 [some (.inr (some 1)), some (.inl v1), some (.inl 0), none] []) : vN l mX4_build (d + 1) (vx_pv sh Q) sh g 0 [some (.inr (some 1)), some (.inl v1), none, none] [] := by
  refine vr_aload_n 1 dX4_build_0 rfl rfl rfl ?_
  refine vr_iload_n 2 dX4_build_1 rfl rfl rfl ?_
  refine vr_iconst 3 dX4_build_2 rfl ⟨by decide, by decide⟩ ?_
  refine vr_mmin 6 dX4_build_3 rfl mc_X4_37 ma_min_1 ma_ini ma_min_2 (by show 1 ≤ d + 1; omega) (by show _ + 13 ≤ 40 * (d + 1); simp only [List.length_cons, List.length_nil]; omega) ⟨Nat.le_refl _, Nat.le_refl _⟩ ?_
  refine vr_puti 9 4 4 cl_X4 fl_X4_26 (by decide) rfl rfl rfl dX4_build_6 rfl hT.1 rfl ?_
  refine vr_aload_n 10 dX4_build_9 rfl rfl rfl ?_
  refine vr_iconst 11 dX4_build_10 rfl ⟨by decide, by decide⟩ ?_
  refine vr_puti 14 5 5 cl_X4 fl_X4_30 (by decide) rfl rfl rfl dX4_build_11 rfl hT.1 rfl ?_
  refine vr_iconst 15 dX4_build_14 rfl ⟨by decide, by decide⟩ ?_
  refine vr_istore_n 16 [some (.inr (some 1)), some (.inl v1), some (.inl 0), none] dX4_build_15 rfl rfl (by decide) rfl ?_
  exact h
theorem kX4_build {l : Launch} {d : Nat} {sh : List vx_H} {Q : vx_M → Prop} (hT : vx_TW sh) (g : vx_M) (v1 : Int) (h : vN l mX4_build (d + 1) (vx_pv sh Q) sh (vx_u (vx_u g 1 4 (min v1 4)) 1 5 0) 16 [some (.inr (some 1)), some (.inl v1), some (.inl 0), none] []) : vNv l mX4_build (d + 1) [.inr (some 1), .inl v1] sh g Q := vNv_of [some (.inr (some 1)), some (.inl v1), none, none] pn_X4 (Nat.le_of_ble_eq_true rfl) rfl (tX4_build_0 hT g v1 h)
set_option maxRecDepth 100000 in
theorem tX4_build_16 {l : Launch} {d : Nat} {sh : List vx_H} {Q : vx_M → Prop} (hT : vx_TW sh) (g : vx_M) (v1 v2 : Int) (h : (((g 1 4) ≤ v2 → Q g) ∧ (¬ (g 1 4) ≤ v2 → (0 ≤ v2 ∧ v2 < 4) ∧ vN l mX4_build (d + 1) (vx_pv sh Q) sh (vx_u g 3 v2 (g 1 5)) 36 [some (.inr (some 1)), some (.inl v1), some (.inl v2), some (.inl 0)] []))) : vN l mX4_build (d + 1) (vx_pv sh Q) sh g 16 [some (.inr (some 1)), some (.inl v1), some (.inl v2), none] [] := by
  refine vr_iload_n 17 dX4_build_16 rfl rfl rfl ?_
  refine vr_aload_n 18 dX4_build_17 rfl rfl rfl ?_
  refine vr_geti 21 4 4 cl_X4 fl_X4_26 (by decide) rfl dX4_build_18 rfl hT.1 rfl ?_
  refine vr_icmp_ge 97 24 dX4_build_21 rfl rfl (fun c => ?_) (fun c => ?_)
  · replace h := h.1 c
    exact vr_vret rfl (Nat.le_refl _) (Nat.le_refl _) dX4_build_97 ⟨rfl, rfl, h⟩
  · replace h := h.2 c
    refine vr_aload_n 25 dX4_build_24 rfl rfl rfl ?_
    refine vr_getr 28 1 cl_X4 fl_X4_15 (by decide) dX4_build_25 rfl hT.1 rfl ?_
    refine vr_iload_n 29 dX4_build_28 rfl rfl rfl ?_
    refine vr_aload_n 30 dX4_build_29 rfl rfl rfl ?_
    refine vr_geti 33 5 5 cl_X4 fl_X4_30 (by decide) rfl dX4_build_30 rfl hT.1 rfl ?_
    obtain ⟨o1, h⟩ := h
    refine vr_iast 34 dX4_build_33 rfl hT.2.2.1 o1.1 o1.2 ?_
    refine vr_iconst 35 dX4_build_34 rfl ⟨by decide, by decide⟩ ?_
    refine vr_istore_n 36 [some (.inr (some 1)), some (.inl v1), some (.inl v2), some (.inl 0)] dX4_build_35 rfl rfl (by decide) rfl ?_
    exact h
set_option maxRecDepth 100000 in
theorem tX4_build_36 {l : Launch} {d : Nat} {sh : List vx_H} {Q : vx_M → Prop} (hT : vx_TW sh) (g : vx_M) (v1 v2 v3 : Int) (h : (0 ≤ v2 ∧ v2 < 4) ∧ (((g 2 v2) ≤ v3 → vx_in (v2 + 1) ∧ vN l mX4_build (d + 1) (vx_pv sh Q) sh g 16 [some (.inr (some 1)), some (.inl v1), some (.inl (v2 + 1)), none] []) ∧ (¬ (g 2 v2) ≤ v3 → ((7 ≤ (g 1 5) → vx_in (v2 + 1) ∧ vN l mX4_build (d + 1) (vx_pv sh Q) sh g 16 [some (.inr (some 1)), some (.inl v1), some (.inl (v2 + 1)), none] []) ∧ (¬ 7 ≤ (g 1 5) → (0 ≤ g 1 5 ∧ g 1 5 < 7) ∧ (∃ Q5 : vx_M → Prop, vNv l mX4_shareOut d [.inr (some 1), .inl (g 1 5), .inl v2, .inl v3] sh (vx_u g 4 (g 1 5) v2) Q5 ∧ ∀ g5 : vx_M, Q5 g5 → vx_in ((g5 1 5) + 1) ∧ vx_in (v3 + 1) ∧ vN l mX4_build (d + 1) (vx_pv sh Q) sh (vx_u g5 1 5 ((g5 1 5) + 1)) 36 [some (.inr (some 1)), some (.inl v1), some (.inl v2), some (.inl (v3 + 1))] [])))))) : vN l mX4_build (d + 1) (vx_pv sh Q) sh g 36 [some (.inr (some 1)), some (.inl v1), some (.inl v2), some (.inl v3)] [] := by
  refine vr_iload_n 37 dX4_build_36 rfl rfl rfl ?_
  refine vr_aload_n 38 dX4_build_37 rfl rfl rfl ?_
  refine vr_getr 41 0 cl_X4 fl_X4_9 (by decide) dX4_build_38 rfl hT.1 rfl ?_
  refine vr_iload_n 42 dX4_build_41 rfl rfl rfl ?_
  obtain ⟨o1, h⟩ := h
  refine vr_iald 43 dX4_build_42 rfl hT.2.1 o1.1 o1.2 ?_
  refine vr_icmp_ge 91 46 dX4_build_43 rfl rfl (fun c => ?_) (fun c => ?_)
  · replace h := h.1 c
    obtain ⟨o2, h⟩ := h
    refine vr_iinc 94 [some (.inr (some 1)), some (.inl v1), some (.inl (v2 + 1)), some (.inl v3)] dX4_build_91 rfl rfl o2 (by decide) rfl ?_
    refine vr_goto 16 dX4_build_94 rfl ?_
    exact vr_forget [some (.inr (some 1)), some (.inl v1), some (.inl (v2 + 1)), none] (vx_sub.get _ _ ⟨rfl, ⟨rfl, ⟨rfl, trivial⟩⟩⟩) h
  · replace h := h.2 c
    refine vr_aload_n 47 dX4_build_46 rfl rfl rfl ?_
    refine vr_geti 50 5 5 cl_X4 fl_X4_30 (by decide) rfl dX4_build_47 rfl hT.1 rfl ?_
    refine vr_bipush 52 dX4_build_50 rfl (by decide) ⟨by decide, by decide⟩ ?_
    refine vr_icmp_ge 91 55 dX4_build_52 rfl rfl (fun c => ?_) (fun c => ?_)
    · replace h := h.1 c
      obtain ⟨o3, h⟩ := h
      refine vr_iinc 94 [some (.inr (some 1)), some (.inl v1), some (.inl (v2 + 1)), some (.inl v3)] dX4_build_91 rfl rfl o3 (by decide) rfl ?_
      refine vr_goto 16 dX4_build_94 rfl ?_
      exact vr_forget [some (.inr (some 1)), some (.inl v1), some (.inl (v2 + 1)), none] (vx_sub.get _ _ ⟨rfl, ⟨rfl, ⟨rfl, trivial⟩⟩⟩) h
    · replace h := h.2 c
      refine vr_aload_n 56 dX4_build_55 rfl rfl rfl ?_
      refine vr_getr 59 2 cl_X4 fl_X4_18 (by decide) dX4_build_56 rfl hT.1 rfl ?_
      refine vr_aload_n 60 dX4_build_59 rfl rfl rfl ?_
      refine vr_geti 63 5 5 cl_X4 fl_X4_30 (by decide) rfl dX4_build_60 rfl hT.1 rfl ?_
      refine vr_iload_n 64 dX4_build_63 rfl rfl rfl ?_
      obtain ⟨o4, h⟩ := h
      refine vr_iast 65 dX4_build_64 rfl hT.2.2.2.1 o4.1 o4.2 ?_
      refine vr_aload_n 66 dX4_build_65 rfl rfl rfl ?_
      refine vr_aload_n 67 dX4_build_66 rfl rfl rfl ?_
      refine vr_geti 70 5 5 cl_X4 fl_X4_30 (by decide) rfl dX4_build_67 rfl hT.1 rfl ?_
      refine vr_iload_n 71 dX4_build_70 rfl rfl rfl ?_
      refine vr_iload_n 72 dX4_build_71 rfl rfl rfl ?_
      obtain ⟨Q5, hq, h⟩ := h
      refine vr_callVv 75 [.inl (g 1 5), .inl v2, .inl v3] 1 [] dX4_build_72 rfl mc_X4_43 dn_X4_shareOut rfl rfl hT.1 rfl (Nat.le_of_ble_eq_true rfl) (vx_rmR (by decide)) ⟨rfl, rfl⟩ ⟨Nat.le_refl _, Nat.le_refl _⟩ (fun _ _ => trivial) (fun _ _ => trivial) hq (fun sh9 g5 hp _ => ?_)
      obtain ⟨e9, -, hp⟩ := hp
      subst e9
      replace h := h g5 hp
      refine vr_aload_n 76 dX4_build_75 rfl rfl rfl ?_
      refine vr_dup 77 dX4_build_76 rfl ?_
      refine vr_geti 80 5 5 cl_X4 fl_X4_30 (by decide) rfl dX4_build_77 rfl hT.1 rfl ?_
      refine vr_iconst 81 dX4_build_80 rfl ⟨by decide, by decide⟩ ?_
      obtain ⟨o6, h⟩ := h
      refine vr_iadd 82 dX4_build_81 rfl o6 ?_
      refine vr_puti 85 5 5 cl_X4 fl_X4_30 (by decide) rfl rfl rfl dX4_build_82 rfl hT.1 rfl ?_
      obtain ⟨o7, h⟩ := h
      refine vr_iinc 88 [some (.inr (some 1)), some (.inl v1), some (.inl v2), some (.inl (v3 + 1))] dX4_build_85 rfl rfl o7 (by decide) rfl ?_
      refine vr_goto 36 dX4_build_88 rfl ?_
      exact h
set_option maxRecDepth 100000 in
theorem tX4_shareOut_0 {l : Launch} {d : Nat} {sh : List vx_H} {Q : vx_M → Prop} (hT : vx_TW sh) (g : vx_M) (v1 v2 v3 : Int) (h : (0 ≤ v1 ∧ v1 < 7) ∧ (∃ Q2 : vx_M → Prop, vNv l mJ7_fill_53178 d [.inr (some (6 + (v1).toNat)), .inl 0] sh g Q2 ∧ ∀ g2 : vx_M, Q2 g2 → ((v2 < 1 → Q g2) ∧ (¬ v2 < 1 → vx_in (v2 - 1) ∧ (0 ≤ v2 - 1 ∧ v2 - 1 < 4) ∧ ((1 ≤ (g2 2 (v2 - 1)) → vx_in (v2 - 1) ∧ (0 ≤ v2 - 1 ∧ v2 - 1 < 4) ∧ vx_in (v2 - 1) ∧ (0 ≤ v2 - 1 ∧ v2 - 1 < 4) ∧ (0 ≤ v3 ∧ 0 < (g2 2 (v2 - 1))) ∧ vx_in ((g2 3 (v2 - 1)) + (v3 % (g2 2 (v2 - 1)))) ∧ (∃ Q11 : vx_M → Prop, vNv l mX4_restHalfOn d [.inr (some 1), .inr (some (6 + (v1).toNat)), .inl ((g2 3 (v2 - 1)) + (v3 % (g2 2 (v2 - 1))))] sh g2 Q11 ∧ ∀ g11 : vx_M, Q11 g11 → vx_in (v2 - 1) ∧ (0 ≤ v2 - 1 ∧ v2 - 1 < 4) ∧ vx_in (v3 + 1) ∧ (0 ≤ (v3 + 1) ∧ 0 < (g2 2 (v2 - 1))) ∧ vx_in ((g11 3 (v2 - 1)) + ((v3 + 1) % (g2 2 (v2 - 1)))) ∧ (∃ Q17 : vx_M → Prop, vNv l mX4_restHalfOn d [.inr (some 1), .inr (some (6 + (v1).toNat)), .inl ((g11 3 (v2 - 1)) + ((v3 + 1) % (g2 2 (v2 - 1))))] sh g11 Q17 ∧ ∀ g17 : vx_M, Q17 g17 → Q g17))) ∧ (¬ 1 ≤ (g2 2 (v2 - 1)) → Q g2)))))) : vN l mX4_shareOut (d + 1) (vx_pv sh Q) sh g 0 [some (.inr (some 1)), some (.inl v1), some (.inl v2), some (.inl v3), none, none] [] := by
  refine vr_aload_n 1 dX4_shareOut_0 rfl rfl rfl ?_
  refine vr_getr 4 3 cl_X4 fl_X4_23 (by decide) dX4_shareOut_1 rfl hT.1 rfl ?_
  refine vr_iload_n 5 dX4_shareOut_4 rfl rfl rfl ?_
  obtain ⟨o1, h⟩ := h
  refine vr_aald 6 (6 + (v1).toNat) dX4_shareOut_5 rfl hT.2.2.2.2.1 o1.1 (ra_5 _ (by omega)) ?_
  refine vr_astore 8 [some (.inr (some 1)), some (.inl v1), some (.inl v2), some (.inl v3), some (.inr (some (6 + (v1).toNat))), none] dX4_shareOut_6 rfl (by decide) rfl ?_
  refine vr_aload 10 dX4_shareOut_8 rfl rfl ?_
  refine vr_iconst 11 dX4_shareOut_10 rfl ⟨by decide, by decide⟩ ?_
  obtain ⟨Q2, hq, h⟩ := h
  refine vr_callSv 14 [.inr (some (6 + (v1).toNat)), .inl 0] [] dX4_shareOut_11 rfl mc_X4_47 dn_J7_fill_53178 rfl rfl (Nat.le_of_ble_eq_true rfl) (vx_rmR (by decide)) ⟨rfl, rfl⟩ ⟨Nat.le_refl _, Nat.le_refl _⟩ (fun _ _ => trivial) (fun _ _ => trivial) hq (fun sh9 g2 hp _ => ?_)
  obtain ⟨e9, -, hp⟩ := hp
  subst e9
  replace h := h g2 hp
  refine vr_iload_n 15 dX4_shareOut_14 rfl rfl rfl ?_
  refine vr_iconst 16 dX4_shareOut_15 rfl ⟨by decide, by decide⟩ ?_
  refine vr_icmp_lt 31 19 dX4_shareOut_16 rfl rfl (fun c => ?_) (fun c => ?_)
  · replace h := h.1 c
    exact vr_vret rfl (Nat.le_refl _) (Nat.le_refl _) dX4_shareOut_31 ⟨rfl, rfl, h⟩
  · replace h := h.2 c
    refine vr_aload_n 20 dX4_shareOut_19 rfl rfl rfl ?_
    refine vr_getr 23 0 cl_X4 fl_X4_9 (by decide) dX4_shareOut_20 rfl hT.1 rfl ?_
    refine vr_iload_n 24 dX4_shareOut_23 rfl rfl rfl ?_
    refine vr_iconst 25 dX4_shareOut_24 rfl ⟨by decide, by decide⟩ ?_
    obtain ⟨o3, h⟩ := h
    refine vr_isub 26 dX4_shareOut_25 rfl o3 ?_
    obtain ⟨o4, h⟩ := h
    refine vr_iald 27 dX4_shareOut_26 rfl hT.2.1 o4.1 o4.2 ?_
    refine vr_iconst 28 dX4_shareOut_27 rfl ⟨by decide, by decide⟩ ?_
    refine vr_icmp_ge 32 31 dX4_shareOut_28 rfl rfl (fun c => ?_) (fun c => ?_)
    · replace h := h.1 c
      refine vr_aload_n 33 dX4_shareOut_32 rfl rfl rfl ?_
      refine vr_getr 36 0 cl_X4 fl_X4_9 (by decide) dX4_shareOut_33 rfl hT.1 rfl ?_
      refine vr_iload_n 37 dX4_shareOut_36 rfl rfl rfl ?_
      refine vr_iconst 38 dX4_shareOut_37 rfl ⟨by decide, by decide⟩ ?_
      obtain ⟨o5, h⟩ := h
      refine vr_isub 39 dX4_shareOut_38 rfl o5 ?_
      obtain ⟨o6, h⟩ := h
      refine vr_iald 40 dX4_shareOut_39 rfl hT.2.1 o6.1 o6.2 ?_
      refine vr_istore 42 [some (.inr (some 1)), some (.inl v1), some (.inl v2), some (.inl v3), some (.inr (some (6 + (v1).toNat))), some (.inl (g2 2 (v2 - 1)))] dX4_shareOut_40 rfl (by decide) rfl ?_
      refine vr_aload_n 43 dX4_shareOut_42 rfl rfl rfl ?_
      refine vr_aload 45 dX4_shareOut_43 rfl rfl ?_
      refine vr_aload_n 46 dX4_shareOut_45 rfl rfl rfl ?_
      refine vr_getr 49 1 cl_X4 fl_X4_15 (by decide) dX4_shareOut_46 rfl hT.1 rfl ?_
      refine vr_iload_n 50 dX4_shareOut_49 rfl rfl rfl ?_
      refine vr_iconst 51 dX4_shareOut_50 rfl ⟨by decide, by decide⟩ ?_
      obtain ⟨o7, h⟩ := h
      refine vr_isub 52 dX4_shareOut_51 rfl o7 ?_
      obtain ⟨o8, h⟩ := h
      refine vr_iald 53 dX4_shareOut_52 rfl hT.2.2.1 o8.1 o8.2 ?_
      refine vr_iload_n 54 dX4_shareOut_53 rfl rfl rfl ?_
      refine vr_iload 56 dX4_shareOut_54 rfl rfl ?_
      obtain ⟨o9, h⟩ := h
      refine vr_irem 57 dX4_shareOut_56 rfl o9.1 o9.2 ?_
      obtain ⟨o10, h⟩ := h
      refine vr_iadd 58 dX4_shareOut_57 rfl o10 ?_
      obtain ⟨Q11, hq, h⟩ := h
      refine vr_callVv 61 [.inr (some (6 + (v1).toNat)), .inl ((g2 3 (v2 - 1)) + (v3 % (g2 2 (v2 - 1))))] 1 [] dX4_shareOut_58 rfl mc_X4_53 dn_X4_restHalfOn rfl rfl hT.1 rfl (Nat.le_of_ble_eq_true rfl) (vx_rmR (by decide)) ⟨rfl, rfl⟩ ⟨Nat.le_refl _, Nat.le_refl _⟩ (fun _ _ => trivial) (fun _ _ => trivial) hq (fun sh9 g11 hp _ => ?_)
      obtain ⟨e9, -, hp⟩ := hp
      subst e9
      replace h := h g11 hp
      refine vr_aload_n 62 dX4_shareOut_61 rfl rfl rfl ?_
      refine vr_aload 64 dX4_shareOut_62 rfl rfl ?_
      refine vr_aload_n 65 dX4_shareOut_64 rfl rfl rfl ?_
      refine vr_getr 68 1 cl_X4 fl_X4_15 (by decide) dX4_shareOut_65 rfl hT.1 rfl ?_
      refine vr_iload_n 69 dX4_shareOut_68 rfl rfl rfl ?_
      refine vr_iconst 70 dX4_shareOut_69 rfl ⟨by decide, by decide⟩ ?_
      obtain ⟨o12, h⟩ := h
      refine vr_isub 71 dX4_shareOut_70 rfl o12 ?_
      obtain ⟨o13, h⟩ := h
      refine vr_iald 72 dX4_shareOut_71 rfl hT.2.2.1 o13.1 o13.2 ?_
      refine vr_iload_n 73 dX4_shareOut_72 rfl rfl rfl ?_
      refine vr_iconst 74 dX4_shareOut_73 rfl ⟨by decide, by decide⟩ ?_
      obtain ⟨o14, h⟩ := h
      refine vr_iadd 75 dX4_shareOut_74 rfl o14 ?_
      refine vr_iload 77 dX4_shareOut_75 rfl rfl ?_
      obtain ⟨o15, h⟩ := h
      refine vr_irem 78 dX4_shareOut_77 rfl o15.1 o15.2 ?_
      obtain ⟨o16, h⟩ := h
      refine vr_iadd 79 dX4_shareOut_78 rfl o16 ?_
      obtain ⟨Q17, hq, h⟩ := h
      refine vr_callVv 82 [.inr (some (6 + (v1).toNat)), .inl ((g11 3 (v2 - 1)) + ((v3 + 1) % (g2 2 (v2 - 1))))] 1 [] dX4_shareOut_79 rfl mc_X4_53 dn_X4_restHalfOn rfl rfl hT.1 rfl (Nat.le_of_ble_eq_true rfl) (vx_rmR (by decide)) ⟨rfl, rfl⟩ ⟨Nat.le_refl _, Nat.le_refl _⟩ (fun _ _ => trivial) (fun _ _ => trivial) hq (fun sh9 g17 hp _ => ?_)
      obtain ⟨e9, -, hp⟩ := hp
      subst e9
      replace h := h g17 hp
      exact vr_vret rfl (Nat.le_refl _) (Nat.le_refl _) dX4_shareOut_82 ⟨rfl, rfl, h⟩
    · replace h := h.2 c
      exact vr_vret rfl (Nat.le_refl _) (Nat.le_refl _) dX4_shareOut_31 ⟨rfl, rfl, h⟩
theorem kX4_shareOut {l : Launch} {d : Nat} {sh : List vx_H} {Q : vx_M → Prop} (hT : vx_TW sh) (g : vx_M) (v1 v2 v3 : Int) (h : (0 ≤ v1 ∧ v1 < 7) ∧ (∃ Q2 : vx_M → Prop, vNv l mJ7_fill_53178 d [.inr (some (6 + (v1).toNat)), .inl 0] sh g Q2 ∧ ∀ g2 : vx_M, Q2 g2 → ((v2 < 1 → Q g2) ∧ (¬ v2 < 1 → vx_in (v2 - 1) ∧ (0 ≤ v2 - 1 ∧ v2 - 1 < 4) ∧ ((1 ≤ (g2 2 (v2 - 1)) → vx_in (v2 - 1) ∧ (0 ≤ v2 - 1 ∧ v2 - 1 < 4) ∧ vx_in (v2 - 1) ∧ (0 ≤ v2 - 1 ∧ v2 - 1 < 4) ∧ (0 ≤ v3 ∧ 0 < (g2 2 (v2 - 1))) ∧ vx_in ((g2 3 (v2 - 1)) + (v3 % (g2 2 (v2 - 1)))) ∧ (∃ Q11 : vx_M → Prop, vNv l mX4_restHalfOn d [.inr (some 1), .inr (some (6 + (v1).toNat)), .inl ((g2 3 (v2 - 1)) + (v3 % (g2 2 (v2 - 1))))] sh g2 Q11 ∧ ∀ g11 : vx_M, Q11 g11 → vx_in (v2 - 1) ∧ (0 ≤ v2 - 1 ∧ v2 - 1 < 4) ∧ vx_in (v3 + 1) ∧ (0 ≤ (v3 + 1) ∧ 0 < (g2 2 (v2 - 1))) ∧ vx_in ((g11 3 (v2 - 1)) + ((v3 + 1) % (g2 2 (v2 - 1)))) ∧ (∃ Q17 : vx_M → Prop, vNv l mX4_restHalfOn d [.inr (some 1), .inr (some (6 + (v1).toNat)), .inl ((g11 3 (v2 - 1)) + ((v3 + 1) % (g2 2 (v2 - 1))))] sh g11 Q17 ∧ ∀ g17 : vx_M, Q17 g17 → Q g17))) ∧ (¬ 1 ≤ (g2 2 (v2 - 1)) → Q g2)))))) : vNv l mX4_shareOut (d + 1) [.inr (some 1), .inl v1, .inl v2, .inl v3] sh g Q := vNv_of [some (.inr (some 1)), some (.inl v1), some (.inl v2), some (.inl v3), none, none] pn_X4 (Nat.le_of_ble_eq_true rfl) rfl (tX4_shareOut_0 hT g v1 v2 v3 h)
set_option maxRecDepth 100000 in
theorem tX4_restHalfOn_0 {l : Launch} {d : Nat} {sh : List vx_H} {Q : vx_M → Prop} {kr : Nat} (hT : vx_TW sh) (hkr : sh[kr]? = some (.inr (.inl (false, 7)))) (g : vx_M) (v2 : Int) (h : (0 ≤ v2 ∧ v2 < 7) ∧ vx_in ((g (kr) v2) + 4) ∧ (0 ≤ v2 ∧ v2 < 7) ∧ vN l mX4_restHalfOn d (vx_pv sh Q) sh (vx_u g (kr) v2 ((g (kr) v2) + 4)) 9 [some (.inr (some 1)), some (.inr (some (kr))), some (.inl v2), some (.inl 0)] []) : vN l mX4_restHalfOn d (vx_pv sh Q) sh g 0 [some (.inr (some 1)), some (.inr (some (kr))), some (.inl v2), none] [] := by
  refine vr_aload_n 1 dX4_restHalfOn_0 rfl rfl rfl ?_
  refine vr_iload_n 2 dX4_restHalfOn_1 rfl rfl rfl ?_
  refine vr_dup2 3 dX4_restHalfOn_2 rfl ?_
  obtain ⟨o1, h⟩ := h
  refine vr_iald 4 dX4_restHalfOn_3 rfl hkr o1.1 o1.2 ?_
  refine vr_iconst 5 dX4_restHalfOn_4 rfl ⟨by decide, by decide⟩ ?_
  obtain ⟨o2, h⟩ := h
  refine vr_iadd 6 dX4_restHalfOn_5 rfl o2 ?_
  obtain ⟨o3, h⟩ := h
  refine vr_iast 7 dX4_restHalfOn_6 rfl hkr o3.1 o3.2 ?_
  refine vr_iconst 8 dX4_restHalfOn_7 rfl ⟨by decide, by decide⟩ ?_
  refine vr_istore_n 9 [some (.inr (some 1)), some (.inr (some (kr))), some (.inl v2), some (.inl 0)] dX4_restHalfOn_8 rfl rfl (by decide) rfl ?_
  exact h
theorem kX4_restHalfOn {l : Launch} {d : Nat} {sh : List vx_H} {Q : vx_M → Prop} {kr : Nat} (hT : vx_TW sh) (hkr : sh[kr]? = some (.inr (.inl (false, 7)))) (g : vx_M) (v2 : Int) (h : (0 ≤ v2 ∧ v2 < 7) ∧ vx_in ((g (kr) v2) + 4) ∧ (0 ≤ v2 ∧ v2 < 7) ∧ vN l mX4_restHalfOn d (vx_pv sh Q) sh (vx_u g (kr) v2 ((g (kr) v2) + 4)) 9 [some (.inr (some 1)), some (.inr (some (kr))), some (.inl v2), some (.inl 0)] []) : vNv l mX4_restHalfOn d [.inr (some 1), .inr (some (kr)), .inl v2] sh g Q := vNv_of [some (.inr (some 1)), some (.inr (some (kr))), some (.inl v2), none] pn_X4 (Nat.le_of_ble_eq_true rfl) rfl (tX4_restHalfOn_0 hT hkr g v2 h)
set_option maxRecDepth 100000 in
theorem tX4_restHalfOn_9 {l : Launch} {d : Nat} {sh : List vx_H} {Q : vx_M → Prop} {kr : Nat} (hT : vx_TW sh) (hkr : sh[kr]? = some (.inr (.inl (false, 7)))) (g : vx_M) (v2 v3 : Int) (h : ((v2 ≤ v3 → Q g) ∧ (¬ v2 ≤ v3 → (0 ≤ v3 ∧ v3 < 7) ∧ (0 ≤ v2 ∧ v2 < 7) ∧ (0 ≤ v3 ∧ v3 < 7) ∧ (0 ≤ (g (6 + (v2).toNat) v3)) ∧ vx_in ((g (kr) v3) + ((g (6 + (v2).toNat) v3) / 2)) ∧ (0 ≤ v3 ∧ v3 < 7) ∧ vx_in (v3 + 1) ∧ vN l mX4_restHalfOn d (vx_pv sh Q) sh (vx_u g (kr) v3 ((g (kr) v3) + ((g (6 + (v2).toNat) v3) / 2))) 9 [some (.inr (some 1)), some (.inr (some (kr))), some (.inl v2), some (.inl (v3 + 1))] []))) : vN l mX4_restHalfOn d (vx_pv sh Q) sh g 9 [some (.inr (some 1)), some (.inr (some (kr))), some (.inl v2), some (.inl v3)] [] := by
  refine vr_iload_n 10 dX4_restHalfOn_9 rfl rfl rfl ?_
  refine vr_iload_n 11 dX4_restHalfOn_10 rfl rfl rfl ?_
  refine vr_icmp_ge 36 14 dX4_restHalfOn_11 rfl rfl (fun c => ?_) (fun c => ?_)
  · replace h := h.1 c
    exact vr_vret rfl (Nat.le_refl _) (Nat.le_refl _) dX4_restHalfOn_36 ⟨rfl, rfl, h⟩
  · replace h := h.2 c
    refine vr_aload_n 15 dX4_restHalfOn_14 rfl rfl rfl ?_
    refine vr_iload_n 16 dX4_restHalfOn_15 rfl rfl rfl ?_
    refine vr_dup2 17 dX4_restHalfOn_16 rfl ?_
    obtain ⟨o1, h⟩ := h
    refine vr_iald 18 dX4_restHalfOn_17 rfl hkr o1.1 o1.2 ?_
    refine vr_aload_n 19 dX4_restHalfOn_18 rfl rfl rfl ?_
    refine vr_getr 22 3 cl_X4 fl_X4_23 (by decide) dX4_restHalfOn_19 rfl hT.1 rfl ?_
    refine vr_iload_n 23 dX4_restHalfOn_22 rfl rfl rfl ?_
    obtain ⟨o2, h⟩ := h
    refine vr_aald 24 (6 + (v2).toNat) dX4_restHalfOn_23 rfl hT.2.2.2.2.1 o2.1 (ra_5 _ (by omega)) ?_
    refine vr_iload_n 25 dX4_restHalfOn_24 rfl rfl rfl ?_
    obtain ⟨o3, h⟩ := h
    refine vr_iald 26 dX4_restHalfOn_25 rfl (hT.2.2.2.2.2 _ (by omega : (v2).toNat < 7)) o3.1 o3.2 ?_
    refine vr_iconst 27 dX4_restHalfOn_26 rfl ⟨by decide, by decide⟩ ?_
    obtain ⟨o4, h⟩ := h
    refine vr_idiv 28 dX4_restHalfOn_27 rfl o4 (by decide) ?_
    obtain ⟨o5, h⟩ := h
    refine vr_iadd 29 dX4_restHalfOn_28 rfl o5 ?_
    obtain ⟨o6, h⟩ := h
    refine vr_iast 30 dX4_restHalfOn_29 rfl hkr o6.1 o6.2 ?_
    obtain ⟨o7, h⟩ := h
    refine vr_iinc 33 [some (.inr (some 1)), some (.inr (some (kr))), some (.inl v2), some (.inl (v3 + 1))] dX4_restHalfOn_30 rfl rfl o7 (by decide) rfl ?_
    refine vr_goto 9 dX4_restHalfOn_33 rfl ?_
    exact h
end
section
set_option maxRecDepth 100000 in
theorem tX1_add_0 {l : Launch} {d : Nat} {Q : Int → vx_M → Prop} (g : vx_M) (v1 v2 v3 v4 v5 : Int) (h : (((g 13 6) < 8 → (0 ≤ g 13 6 ∧ g 13 6 < 8) ∧ (0 ≤ g 13 6 ∧ g 13 6 < 8) ∧ (0 ≤ g 13 6 ∧ g 13 6 < 8) ∧ (0 ≤ g 13 6 ∧ g 13 6 < 8) ∧ (0 ≤ g 13 6 ∧ g 13 6 < 8) ∧ (0 ≤ g 13 6 ∧ g 13 6 < 8) ∧ vx_in ((g 13 6) + 1) ∧ Q (g 13 6) (vx_u (vx_u (vx_u (vx_u (vx_u (vx_u (vx_u g 14 (g 13 6) v1) 15 (g 13 6) v2) 16 (g 13 6) v3) 17 (g 13 6) v4) 18 (g 13 6) v5) 19 (g 13 6) 0) 13 6 ((g 13 6) + 1))) ∧ (¬ (g 13 6) < 8 → Q (-5) g))) : vN l mX1_add d (vx_pi SH Q) SH g 0 [some (.inr (some 13)), some (.inl v1), some (.inl v2), some (.inl v3), some (.inl v4), some (.inl v5)] [] := by
  refine vr_aload_n 1 dX1_add_0 rfl rfl rfl ?_
  refine vr_geti 4 6 6 cl_X1 fl_X1_31 (by decide) rfl dX1_add_1 rfl s_13 rfl ?_
  refine vr_bipush 6 dX1_add_4 rfl (by decide) ⟨by decide, by decide⟩ ?_
  refine vr_icmp_lt 12 9 dX1_add_6 rfl rfl (fun c => ?_) (fun c => ?_)
  · replace h := h.1 c
    refine vr_aload_n 13 dX1_add_12 rfl rfl rfl ?_
    refine vr_getr 16 0 cl_X1 fl_X1_9 (by decide) dX1_add_13 rfl s_13 rfl ?_
    refine vr_aload_n 17 dX1_add_16 rfl rfl rfl ?_
    refine vr_geti 20 6 6 cl_X1 fl_X1_31 (by decide) rfl dX1_add_17 rfl s_13 rfl ?_
    refine vr_iload_n 21 dX1_add_20 rfl rfl rfl ?_
    obtain ⟨o1, h⟩ := h
    refine vr_iast 22 dX1_add_21 rfl s_14 o1.1 o1.2 ?_
    refine vr_aload_n 23 dX1_add_22 rfl rfl rfl ?_
    refine vr_getr 26 1 cl_X1 fl_X1_15 (by decide) dX1_add_23 rfl s_13 rfl ?_
    refine vr_aload_n 27 dX1_add_26 rfl rfl rfl ?_
    refine vr_geti 30 6 6 cl_X1 fl_X1_31 (by decide) rfl dX1_add_27 rfl s_13 rfl ?_
    refine vr_iload_n 31 dX1_add_30 rfl rfl rfl ?_
    obtain ⟨o2, h⟩ := h
    refine vr_iast 32 dX1_add_31 rfl s_15 o2.1 o2.2 ?_
    refine vr_aload_n 33 dX1_add_32 rfl rfl rfl ?_
    refine vr_getr 36 2 cl_X1 fl_X1_18 (by decide) dX1_add_33 rfl s_13 rfl ?_
    refine vr_aload_n 37 dX1_add_36 rfl rfl rfl ?_
    refine vr_geti 40 6 6 cl_X1 fl_X1_31 (by decide) rfl dX1_add_37 rfl s_13 rfl ?_
    refine vr_iload_n 41 dX1_add_40 rfl rfl rfl ?_
    obtain ⟨o3, h⟩ := h
    refine vr_iast 42 dX1_add_41 rfl s_16 o3.1 o3.2 ?_
    refine vr_aload_n 43 dX1_add_42 rfl rfl rfl ?_
    refine vr_getr 46 3 cl_X1 fl_X1_21 (by decide) dX1_add_43 rfl s_13 rfl ?_
    refine vr_aload_n 47 dX1_add_46 rfl rfl rfl ?_
    refine vr_geti 50 6 6 cl_X1 fl_X1_31 (by decide) rfl dX1_add_47 rfl s_13 rfl ?_
    refine vr_iload 52 dX1_add_50 rfl rfl ?_
    obtain ⟨o4, h⟩ := h
    refine vr_iast 53 dX1_add_52 rfl s_17 o4.1 o4.2 ?_
    refine vr_aload_n 54 dX1_add_53 rfl rfl rfl ?_
    refine vr_getr 57 4 cl_X1 fl_X1_24 (by decide) dX1_add_54 rfl s_13 rfl ?_
    refine vr_aload_n 58 dX1_add_57 rfl rfl rfl ?_
    refine vr_geti 61 6 6 cl_X1 fl_X1_31 (by decide) rfl dX1_add_58 rfl s_13 rfl ?_
    refine vr_iload 63 dX1_add_61 rfl rfl ?_
    obtain ⟨o5, h⟩ := h
    refine vr_iast 64 dX1_add_63 rfl s_18 o5.1 o5.2 ?_
    refine vr_aload_n 65 dX1_add_64 rfl rfl rfl ?_
    refine vr_getr 68 5 cl_X1 fl_X1_27 (by decide) dX1_add_65 rfl s_13 rfl ?_
    refine vr_aload_n 69 dX1_add_68 rfl rfl rfl ?_
    refine vr_geti 72 6 6 cl_X1 fl_X1_31 (by decide) rfl dX1_add_69 rfl s_13 rfl ?_
    refine vr_iconst 73 dX1_add_72 rfl ⟨by decide, by decide⟩ ?_
    obtain ⟨o6, h⟩ := h
    refine vr_zast 74 dX1_add_73 rfl s_19 o6.1 o6.2 (by decide) ?_
    refine vr_aload_n 75 dX1_add_74 rfl rfl rfl ?_
    refine vr_dup 76 dX1_add_75 rfl ?_
    refine vr_geti 79 6 6 cl_X1 fl_X1_31 (by decide) rfl dX1_add_76 rfl s_13 rfl ?_
    refine vr_dup_x1 80 dX1_add_79 rfl ?_
    refine vr_iconst 81 dX1_add_80 rfl ⟨by decide, by decide⟩ ?_
    obtain ⟨o7, h⟩ := h
    refine vr_iadd 82 dX1_add_81 rfl o7 ?_
    refine vr_puti 85 6 6 cl_X1 fl_X1_31 (by decide) rfl rfl rfl dX1_add_82 rfl s_13 rfl ?_
    exact vr_iret rfl (Nat.le_refl _) (Nat.le_refl _) dX1_add_85 ⟨rfl, _, rfl, h⟩
  · replace h := h.2 c
    refine vr_bipush 11 dX1_add_9 rfl (by decide) ⟨by decide, by decide⟩ ?_
    exact vr_iret rfl (Nat.le_refl _) (Nat.le_refl _) dX1_add_11 ⟨rfl, _, rfl, h⟩
theorem kX1_add {l : Launch} {d : Nat} {Q : Int → vx_M → Prop} (g : vx_M) (v1 v2 v3 v4 v5 : Int) (h : (((g 13 6) < 8 → (0 ≤ g 13 6 ∧ g 13 6 < 8) ∧ (0 ≤ g 13 6 ∧ g 13 6 < 8) ∧ (0 ≤ g 13 6 ∧ g 13 6 < 8) ∧ (0 ≤ g 13 6 ∧ g 13 6 < 8) ∧ (0 ≤ g 13 6 ∧ g 13 6 < 8) ∧ (0 ≤ g 13 6 ∧ g 13 6 < 8) ∧ vx_in ((g 13 6) + 1) ∧ Q (g 13 6) (vx_u (vx_u (vx_u (vx_u (vx_u (vx_u (vx_u g 14 (g 13 6) v1) 15 (g 13 6) v2) 16 (g 13 6) v3) 17 (g 13 6) v4) 18 (g 13 6) v5) 19 (g 13 6) 0) 13 6 ((g 13 6) + 1))) ∧ (¬ (g 13 6) < 8 → Q (-5) g))) : vNi l mX1_add d [.inr (some 13), .inl v1, .inl v2, .inl v3, .inl v4, .inl v5] SH g Q := vNi_of [some (.inr (some 13)), some (.inl v1), some (.inl v2), some (.inl v3), some (.inl v4), some (.inl v5)] pn_X1 (Nat.le_of_ble_eq_true rfl) rfl (tX1_add_0 g v1 v2 v3 v4 v5 h)
set_option maxRecDepth 100000 in
theorem tX1_countOut_0 {l : Launch} {d : Nat} {Q : Int → vx_M → Prop} (g : vx_M) (h : vN l mX1_countOut d (vx_pi SH Q) SH g 4 [some (.inr (some 13)), some (.inl 0), some (.inl 0)] []) : vN l mX1_countOut d (vx_pi SH Q) SH g 0 [some (.inr (some 13)), none, none] [] := by
  refine vr_iconst 1 dX1_countOut_0 rfl ⟨by decide, by decide⟩ ?_
  refine vr_istore_n 2 [some (.inr (some 13)), some (.inl 0), none] dX1_countOut_1 rfl rfl (by decide) rfl ?_
  refine vr_iconst 3 dX1_countOut_2 rfl ⟨by decide, by decide⟩ ?_
  refine vr_istore_n 4 [some (.inr (some 13)), some (.inl 0), some (.inl 0)] dX1_countOut_3 rfl rfl (by decide) rfl ?_
  exact h
theorem kX1_countOut {l : Launch} {d : Nat} {Q : Int → vx_M → Prop} (g : vx_M) (h : vN l mX1_countOut d (vx_pi SH Q) SH g 4 [some (.inr (some 13)), some (.inl 0), some (.inl 0)] []) : vNi l mX1_countOut d [.inr (some 13)] SH g Q := vNi_of [some (.inr (some 13)), none, none] pn_X1 (Nat.le_of_ble_eq_true rfl) rfl (tX1_countOut_0 g  h)
set_option maxRecDepth 100000 in
theorem tX1_countOut_4 {l : Launch} {d : Nat} {Q : Int → vx_M → Prop} (g : vx_M) (v1 v2 : Int) (h : (((g 13 6) ≤ v2 → Q v1 g) ∧ (¬ (g 13 6) ≤ v2 → (0 ≤ v2 ∧ v2 < 8) ∧ (((g 19 v2) = 0 → vx_in (v1 + 0) ∧ vx_in (v2 + 1) ∧ vN l mX1_countOut d (vx_pi SH Q) SH g 4 [some (.inr (some 13)), some (.inl (v1 + 0)), some (.inl (v2 + 1))] []) ∧ (¬ (g 19 v2) = 0 → vx_in (v1 + 1) ∧ vx_in (v2 + 1) ∧ vN l mX1_countOut d (vx_pi SH Q) SH g 4 [some (.inr (some 13)), some (.inl (v1 + 1)), some (.inl (v2 + 1))] []))))) : vN l mX1_countOut d (vx_pi SH Q) SH g 4 [some (.inr (some 13)), some (.inl v1), some (.inl v2)] [] := by
  refine vr_iload_n 5 dX1_countOut_4 rfl rfl rfl ?_
  refine vr_aload_n 6 dX1_countOut_5 rfl rfl rfl ?_
  refine vr_geti 9 6 6 cl_X1 fl_X1_31 (by decide) rfl dX1_countOut_6 rfl s_13 rfl ?_
  refine vr_icmp_ge 35 12 dX1_countOut_9 rfl rfl (fun c => ?_) (fun c => ?_)
  · replace h := h.1 c
    refine vr_iload_n 36 dX1_countOut_35 rfl rfl rfl ?_
    exact vr_iret rfl (Nat.le_refl _) (Nat.le_refl _) dX1_countOut_36 ⟨rfl, _, rfl, h⟩
  · replace h := h.2 c
    refine vr_iload_n 13 dX1_countOut_12 rfl rfl rfl ?_
    refine vr_aload_n 14 dX1_countOut_13 rfl rfl rfl ?_
    refine vr_getr 17 5 cl_X1 fl_X1_27 (by decide) dX1_countOut_14 rfl s_13 rfl ?_
    refine vr_iload_n 18 dX1_countOut_17 rfl rfl rfl ?_
    obtain ⟨o1, h⟩ := h
    refine vr_zald 19 dX1_countOut_18 rfl s_19 o1.1 o1.2 ?_
    refine vr_if_eq 26 22 dX1_countOut_19 rfl rfl (fun c => ?_) (fun c => ?_)
    · replace h := h.1 c
      refine vr_iconst 27 dX1_countOut_26 rfl ⟨by decide, by decide⟩ ?_
      obtain ⟨o2, h⟩ := h
      refine vr_iadd 28 dX1_countOut_27 rfl o2 ?_
      refine vr_istore_n 29 [some (.inr (some 13)), some (.inl (v1 + 0)), some (.inl v2)] dX1_countOut_28 rfl rfl (by decide) rfl ?_
      obtain ⟨o3, h⟩ := h
      refine vr_iinc 32 [some (.inr (some 13)), some (.inl (v1 + 0)), some (.inl (v2 + 1))] dX1_countOut_29 rfl rfl o3 (by decide) rfl ?_
      refine vr_goto 4 dX1_countOut_32 rfl ?_
      exact h
    · replace h := h.2 c
      refine vr_iconst 23 dX1_countOut_22 rfl ⟨by decide, by decide⟩ ?_
      refine vr_goto 27 dX1_countOut_23 rfl ?_
      obtain ⟨o4, h⟩ := h
      refine vr_iadd 28 dX1_countOut_27 rfl o4 ?_
      refine vr_istore_n 29 [some (.inr (some 13)), some (.inl (v1 + 1)), some (.inl v2)] dX1_countOut_28 rfl rfl (by decide) rfl ?_
      obtain ⟨o5, h⟩ := h
      refine vr_iinc 32 [some (.inr (some 13)), some (.inl (v1 + 1)), some (.inl (v2 + 1))] dX1_countOut_29 rfl rfl o5 (by decide) rfl ?_
      refine vr_goto 4 dX1_countOut_32 rfl ?_
      exact h
set_option maxRecDepth 100000 in
theorem tX2_goesTo_0 {l : Launch} {d : Nat} {Q : Int → vx_M → Prop} (g : vx_M) (v1 v2 : Int) (h : (0 ≤ v1 ∧ v1 < 8) ∧ ((¬ (g 19 v1) = 0 → Q 0 g) ∧ ((g 19 v1) = 0 → (0 ≤ v1 ∧ v1 < 8) ∧ (((g 17 v1) < v2 → Q 0 g) ∧ (¬ (g 17 v1) < v2 → Q 1 g))))) : vN l mX2_goesTo d (vx_pi SH Q) SH g 0 [some (.inr (some 20)), some (.inl v1), some (.inl v2)] [] := by
  refine vr_aload_n 1 dX2_goesTo_0 rfl rfl rfl ?_
  refine vr_getr 4 1 cl_X2 fl_X2_19 (by decide) dX2_goesTo_1 rfl s_20 rfl ?_
  refine vr_getr 7 5 cl_X1 fl_X2_23 (by decide) dX2_goesTo_4 rfl s_13 rfl ?_
  refine vr_iload_n 8 dX2_goesTo_7 rfl rfl rfl ?_
  obtain ⟨o1, h⟩ := h
  refine vr_zald 9 dX2_goesTo_8 rfl s_19 o1.1 o1.2 ?_
  refine vr_if_ne 29 12 dX2_goesTo_9 rfl rfl (fun c => ?_) (fun c => ?_)
  · replace h := h.1 c
    refine vr_iconst 30 dX2_goesTo_29 rfl ⟨by decide, by decide⟩ ?_
    exact vr_zret rfl (Nat.le_refl _) (Nat.le_refl _) dX2_goesTo_30 (by decide) ⟨rfl, _, rfl, h⟩
  · replace h := h.2 c
    refine vr_iload_n 13 dX2_goesTo_12 rfl rfl rfl ?_
    refine vr_aload_n 14 dX2_goesTo_13 rfl rfl rfl ?_
    refine vr_getr 17 1 cl_X2 fl_X2_19 (by decide) dX2_goesTo_14 rfl s_20 rfl ?_
    refine vr_getr 20 3 cl_X1 fl_X2_29 (by decide) dX2_goesTo_17 rfl s_13 rfl ?_
    refine vr_iload_n 21 dX2_goesTo_20 rfl rfl rfl ?_
    obtain ⟨o2, h⟩ := h
    refine vr_iald 22 dX2_goesTo_21 rfl s_17 o2.1 o2.2 ?_
    refine vr_icmp_gt 29 25 dX2_goesTo_22 rfl rfl (fun c => ?_) (fun c => ?_)
    · replace h := h.1 c
      refine vr_iconst 30 dX2_goesTo_29 rfl ⟨by decide, by decide⟩ ?_
      exact vr_zret rfl (Nat.le_refl _) (Nat.le_refl _) dX2_goesTo_30 (by decide) ⟨rfl, _, rfl, h⟩
    · replace h := h.2 c
      refine vr_iconst 26 dX2_goesTo_25 rfl ⟨by decide, by decide⟩ ?_
      refine vr_goto 30 dX2_goesTo_26 rfl ?_
      exact vr_zret rfl (Nat.le_refl _) (Nat.le_refl _) dX2_goesTo_30 (by decide) ⟨rfl, _, rfl, h⟩
theorem kX2_goesTo {l : Launch} {d : Nat} {Q : Int → vx_M → Prop} (g : vx_M) (v1 v2 : Int) (h : (0 ≤ v1 ∧ v1 < 8) ∧ ((¬ (g 19 v1) = 0 → Q 0 g) ∧ ((g 19 v1) = 0 → (0 ≤ v1 ∧ v1 < 8) ∧ (((g 17 v1) < v2 → Q 0 g) ∧ (¬ (g 17 v1) < v2 → Q 1 g))))) : vNi l mX2_goesTo d [.inr (some 20), .inl v1, .inl v2] SH g Q := vNi_of [some (.inr (some 20)), some (.inl v1), some (.inl v2)] pn_X2 (Nat.le_of_ble_eq_true rfl) rfl (tX2_goesTo_0 g v1 v2 h)
set_option maxRecDepth 100000 in
theorem tX2_mostLoad_0 {l : Launch} {d : Nat} {Q : Int → vx_M → Prop} (g : vx_M) (v1 : Int) (h : (0 ≤ v1 ∧ v1 < 8) ∧ vx_in (8 * (g 16 v1)) ∧ Q (8 * (g 16 v1)) g) : vN l mX2_mostLoad d (vx_pi SH Q) SH g 0 [some (.inr (some 20)), some (.inl v1)] [] := by
  refine vr_bipush 2 dX2_mostLoad_0 rfl (by decide) ⟨by decide, by decide⟩ ?_
  refine vr_aload_n 3 dX2_mostLoad_2 rfl rfl rfl ?_
  refine vr_getr 6 1 cl_X2 fl_X2_19 (by decide) dX2_mostLoad_3 rfl s_20 rfl ?_
  refine vr_getr 9 2 cl_X1 fl_X2_33 (by decide) dX2_mostLoad_6 rfl s_13 rfl ?_
  refine vr_iload_n 10 dX2_mostLoad_9 rfl rfl rfl ?_
  obtain ⟨o1, h⟩ := h
  refine vr_iald 11 dX2_mostLoad_10 rfl s_16 o1.1 o1.2 ?_
  obtain ⟨o2, h⟩ := h
  refine vr_imul 12 dX2_mostLoad_11 rfl o2 ?_
  exact vr_iret rfl (Nat.le_refl _) (Nat.le_refl _) dX2_mostLoad_12 ⟨rfl, _, rfl, h⟩
theorem kX2_mostLoad {l : Launch} {d : Nat} {Q : Int → vx_M → Prop} (g : vx_M) (v1 : Int) (h : (0 ≤ v1 ∧ v1 < 8) ∧ vx_in (8 * (g 16 v1)) ∧ Q (8 * (g 16 v1)) g) : vNi l mX2_mostLoad d [.inr (some 20), .inl v1] SH g Q := vNi_of [some (.inr (some 20)), some (.inl v1)] pn_X2 (Nat.le_of_ble_eq_true rfl) rfl (tX2_mostLoad_0 g v1 h)
set_option maxRecDepth 100000 in
theorem tX2_loadOn_0 {l : Launch} {d : Nat} {Q : Int → vx_M → Prop} (g : vx_M) (v2 v3 : Int) (h : vx_in (v2 + 1) ∧ vN l mX2_loadOn d (vx_pi SH Q) SH g 8 [some (.inr (some 20)), some (.inr (some 39)), some (.inl v2), some (.inl v3), some (.inl 0), some (.inl (v2 + 1))] []) : vN l mX2_loadOn d (vx_pi SH Q) SH g 0 [some (.inr (some 20)), some (.inr (some 39)), some (.inl v2), some (.inl v3), none, none] [] := by
  refine vr_iconst 1 dX2_loadOn_0 rfl ⟨by decide, by decide⟩ ?_
  refine vr_istore 3 [some (.inr (some 20)), some (.inr (some 39)), some (.inl v2), some (.inl v3), some (.inl 0), none] dX2_loadOn_1 rfl (by decide) rfl ?_
  refine vr_iload_n 4 dX2_loadOn_3 rfl rfl rfl ?_
  refine vr_iconst 5 dX2_loadOn_4 rfl ⟨by decide, by decide⟩ ?_
  obtain ⟨o1, h⟩ := h
  refine vr_iadd 6 dX2_loadOn_5 rfl o1 ?_
  refine vr_istore 8 [some (.inr (some 20)), some (.inr (some 39)), some (.inl v2), some (.inl v3), some (.inl 0), some (.inl (v2 + 1))] dX2_loadOn_6 rfl (by decide) rfl ?_
  exact h
theorem kX2_loadOn {l : Launch} {d : Nat} {Q : Int → vx_M → Prop} (g : vx_M) (v2 v3 : Int) (h : vx_in (v2 + 1) ∧ vN l mX2_loadOn d (vx_pi SH Q) SH g 8 [some (.inr (some 20)), some (.inr (some 39)), some (.inl v2), some (.inl v3), some (.inl 0), some (.inl (v2 + 1))] []) : vNi l mX2_loadOn d [.inr (some 20), .inr (some 39), .inl v2, .inl v3] SH g Q := vNi_of [some (.inr (some 20)), some (.inr (some 39)), some (.inl v2), some (.inl v3), none, none] pn_X2 (Nat.le_of_ble_eq_true rfl) rfl (tX2_loadOn_0 g v2 v3 h)
set_option maxRecDepth 100000 in
theorem tX2_loadOn_8 {l : Launch} {d : Nat} {Q : Int → vx_M → Prop} (g : vx_M) (v2 v3 v4 v5 : Int) (h : ((v3 ≤ v5 → Q v4 g) ∧ (¬ v3 ≤ v5 → (0 ≤ v5 ∧ v5 < 7) ∧ (0 ≤ v2 ∧ v2 < 7) ∧ (0 ≤ v5 ∧ v5 < 7) ∧ (0 ≤ g 39 v5 ∧ g 39 v5 < 8) ∧ vx_in ((g (6 + (v5).toNat) v2) * (g 15 (g 39 v5))) ∧ vx_in (v4 + ((g (6 + (v5).toNat) v2) * (g 15 (g 39 v5)))) ∧ vx_in (v5 + 1) ∧ vN l mX2_loadOn d (vx_pi SH Q) SH g 8 [some (.inr (some 20)), some (.inr (some 39)), some (.inl v2), some (.inl v3), some (.inl (v4 + ((g (6 + (v5).toNat) v2) * (g 15 (g 39 v5))))), some (.inl (v5 + 1))] []))) : vN l mX2_loadOn d (vx_pi SH Q) SH g 8 [some (.inr (some 20)), some (.inr (some 39)), some (.inl v2), some (.inl v3), some (.inl v4), some (.inl v5)] [] := by
  refine vr_iload 10 dX2_loadOn_8 rfl rfl ?_
  refine vr_iload_n 11 dX2_loadOn_10 rfl rfl rfl ?_
  refine vr_icmp_ge 50 14 dX2_loadOn_11 rfl rfl (fun c => ?_) (fun c => ?_)
  · replace h := h.1 c
    refine vr_iload 52 dX2_loadOn_50 rfl rfl ?_
    exact vr_iret rfl (Nat.le_refl _) (Nat.le_refl _) dX2_loadOn_52 ⟨rfl, _, rfl, h⟩
  · replace h := h.2 c
    refine vr_iload 16 dX2_loadOn_14 rfl rfl ?_
    refine vr_aload_n 17 dX2_loadOn_16 rfl rfl rfl ?_
    refine vr_getr 20 0 cl_X2 fl_X2_15 (by decide) dX2_loadOn_17 rfl s_20 rfl ?_
    refine vr_getr 23 3 cl_X4 fl_X2_36 (by decide) dX2_loadOn_20 rfl s_1 rfl ?_
    refine vr_iload 25 dX2_loadOn_23 rfl rfl ?_
    obtain ⟨o1, h⟩ := h
    refine vr_aald 26 (6 + (v5).toNat) dX2_loadOn_25 rfl s_5 o1.1 (ra_5 _ (by omega)) ?_
    refine vr_iload_n 27 dX2_loadOn_26 rfl rfl rfl ?_
    obtain ⟨o2, h⟩ := h
    refine vr_iald 28 dX2_loadOn_27 rfl (s_sr _ (by omega : (v5).toNat < 7)) o2.1 o2.2 ?_
    refine vr_aload_n 29 dX2_loadOn_28 rfl rfl rfl ?_
    refine vr_getr 32 1 cl_X2 fl_X2_19 (by decide) dX2_loadOn_29 rfl s_20 rfl ?_
    refine vr_getr 35 1 cl_X1 fl_X2_42 (by decide) dX2_loadOn_32 rfl s_13 rfl ?_
    refine vr_aload_n 36 dX2_loadOn_35 rfl rfl rfl ?_
    refine vr_iload 38 dX2_loadOn_36 rfl rfl ?_
    obtain ⟨o3, h⟩ := h
    refine vr_iald 39 dX2_loadOn_38 rfl s_39 o3.1 o3.2 ?_
    obtain ⟨o4, h⟩ := h
    refine vr_iald 40 dX2_loadOn_39 rfl s_15 o4.1 o4.2 ?_
    obtain ⟨o5, h⟩ := h
    refine vr_imul 41 dX2_loadOn_40 rfl o5 ?_
    obtain ⟨o6, h⟩ := h
    refine vr_iadd 42 dX2_loadOn_41 rfl o6 ?_
    refine vr_istore 44 [some (.inr (some 20)), some (.inr (some 39)), some (.inl v2), some (.inl v3), some (.inl (v4 + ((g (6 + (v5).toNat) v2) * (g 15 (g 39 v5))))), some (.inl v5)] dX2_loadOn_42 rfl (by decide) rfl ?_
    obtain ⟨o7, h⟩ := h
    refine vr_iinc 47 [some (.inr (some 20)), some (.inr (some 39)), some (.inl v2), some (.inl v3), some (.inl (v4 + ((g (6 + (v5).toNat) v2) * (g 15 (g 39 v5))))), some (.inl (v5 + 1))] dX2_loadOn_44 rfl rfl o7 (by decide) rfl ?_
    refine vr_goto 8 dX2_loadOn_47 rfl ?_
    exact h
set_option maxRecDepth 100000 in
theorem tX2_admit_0 {l : Launch} {d : Nat} {Q : Int → vx_M → Prop} (g : vx_M) (h : vN l mX2_admit (d + 1) (vx_pi SH Q) SH g 2 [some (.inr (some 20)), some (.inr (some 39)), some (.inl 0), none] []) : vN l mX2_admit (d + 1) (vx_pi SH Q) SH g 0 [some (.inr (some 20)), some (.inr (some 39)), none, none] [] := by
  refine vr_iconst 1 dX2_admit_0 rfl ⟨by decide, by decide⟩ ?_
  refine vr_istore_n 2 [some (.inr (some 20)), some (.inr (some 39)), some (.inl 0), none] dX2_admit_1 rfl rfl (by decide) rfl ?_
  exact h
theorem kX2_admit {l : Launch} {d : Nat} {Q : Int → vx_M → Prop} (g : vx_M) (h : vN l mX2_admit (d + 1) (vx_pi SH Q) SH g 2 [some (.inr (some 20)), some (.inr (some 39)), some (.inl 0), none] []) : vNi l mX2_admit (d + 1) [.inr (some 20), .inr (some 39)] SH g Q := vNi_of [some (.inr (some 20)), some (.inr (some 39)), none, none] pn_X2 (Nat.le_of_ble_eq_true rfl) rfl (tX2_admit_0 g  h)
set_option maxRecDepth 100000 in
theorem tX2_admit_2 {l : Launch} {d : Nat} {Q : Int → vx_M → Prop} (g : vx_M) (v2 : Int) (h : (((g 1 5) ≤ v2 → vN l mX2_admit (d + 1) (vx_pi SH Q) SH g 65 [some (.inr (some 20)), some (.inr (some 39)), some (.inl 0), none] []) ∧ (¬ (g 1 5) ≤ v2 → (0 ≤ v2 ∧ v2 < 7) ∧ (0 ≤ v2 ∧ v2 < 7) ∧ (∃ Q3 : Int → vx_M → Prop, vNi l mX2_goesTo d [.inr (some 20), .inl (g 39 v2), .inl (g 4 v2)] SH g Q3 ∧ ∀ (r3 : Int) (g3 : vx_M), Q3 r3 g3 → ((r3 = 0 → Q 0 g3) ∧ (¬ r3 = 0 → (∃ Q4 : Int → vx_M → Prop, vNi l mX2_loadOn d [.inr (some 20), .inr (some 39), .inl v2, .inl (g3 1 5)] SH g3 Q4 ∧ ∀ (r4 : Int) (g4 : vx_M), Q4 r4 g4 → (∃ Q5 : Int → vx_M → Prop, vNi l mX2_mostLoad d [.inr (some 20), .inl (g 39 v2)] SH g4 Q5 ∧ ∀ (r5 : Int) (g5 : vx_M), Q5 r5 g5 → ((r4 ≤ r5 → vx_in (v2 + 1) ∧ vN l mX2_admit (d + 1) (vx_pi SH Q) SH g5 2 [some (.inr (some 20)), some (.inr (some 39)), some (.inl (v2 + 1)), none] []) ∧ (¬ r4 ≤ r5 → Q 0 g5)))))))))) : vN l mX2_admit (d + 1) (vx_pi SH Q) SH g 2 [some (.inr (some 20)), some (.inr (some 39)), some (.inl v2), none] [] := by
  refine vr_iload_n 3 dX2_admit_2 rfl rfl rfl ?_
  refine vr_aload_n 4 dX2_admit_3 rfl rfl rfl ?_
  refine vr_getr 7 0 cl_X2 fl_X2_15 (by decide) dX2_admit_4 rfl s_20 rfl ?_
  refine vr_geti 10 5 5 cl_X4 fl_X2_45 (by decide) rfl dX2_admit_7 rfl s_1 rfl ?_
  refine vr_icmp_ge 63 13 dX2_admit_10 rfl rfl (fun c => ?_) (fun c => ?_)
  · replace h := h.1 c
    refine vr_iconst 64 dX2_admit_63 rfl ⟨by decide, by decide⟩ ?_
    refine vr_istore_n 65 [some (.inr (some 20)), some (.inr (some 39)), some (.inl 0), none] dX2_admit_64 rfl rfl (by decide) rfl ?_
    exact h
  · replace h := h.2 c
    refine vr_aload_n 14 dX2_admit_13 rfl rfl rfl ?_
    refine vr_iload_n 15 dX2_admit_14 rfl rfl rfl ?_
    obtain ⟨o1, h⟩ := h
    refine vr_iald 16 dX2_admit_15 rfl s_39 o1.1 o1.2 ?_
    refine vr_istore_n 17 [some (.inr (some 20)), some (.inr (some 39)), some (.inl v2), some (.inl (g 39 v2))] dX2_admit_16 rfl rfl (by decide) rfl ?_
    refine vr_aload_n 18 dX2_admit_17 rfl rfl rfl ?_
    refine vr_iload_n 19 dX2_admit_18 rfl rfl rfl ?_
    refine vr_aload_n 20 dX2_admit_19 rfl rfl rfl ?_
    refine vr_getr 23 0 cl_X2 fl_X2_15 (by decide) dX2_admit_20 rfl s_20 rfl ?_
    refine vr_getr 26 2 cl_X4 fl_X2_48 (by decide) dX2_admit_23 rfl s_1 rfl ?_
    refine vr_iload_n 27 dX2_admit_26 rfl rfl rfl ?_
    obtain ⟨o2, h⟩ := h
    refine vr_iald 28 dX2_admit_27 rfl s_4 o2.1 o2.2 ?_
    obtain ⟨Q3, hq, h⟩ := h
    refine vr_callVi 31 [.inl (g 39 v2), .inl (g 4 v2)] 20 [] dX2_admit_28 rfl mc_X2_51 dn_X2_goesTo rfl rfl s_20 rfl (Nat.le_of_ble_eq_true rfl) (vx_rmR (by decide)) ⟨rfl, rfl⟩ ⟨Nat.le_refl _, Nat.le_refl _⟩ (fun _ _ => trivial) (fun _ _ => trivial) hq (fun r3 sh9 g3 hp _ _ => ?_)
    obtain ⟨e9, z9, e8, hp⟩ := hp
    subst e9
    cases e8
    replace h := h r3 g3 hp
    refine vr_if_eq 55 34 dX2_admit_31 rfl rfl (fun c => ?_) (fun c => ?_)
    · replace h := h.1 c
      refine vr_iconst 56 dX2_admit_55 rfl ⟨by decide, by decide⟩ ?_
      exact vr_zret rfl (Nat.le_refl _) (Nat.le_refl _) dX2_admit_56 (by decide) ⟨rfl, _, rfl, h⟩
    · replace h := h.2 c
      refine vr_aload_n 35 dX2_admit_34 rfl rfl rfl ?_
      refine vr_aload_n 36 dX2_admit_35 rfl rfl rfl ?_
      refine vr_iload_n 37 dX2_admit_36 rfl rfl rfl ?_
      refine vr_aload_n 38 dX2_admit_37 rfl rfl rfl ?_
      refine vr_getr 41 0 cl_X2 fl_X2_15 (by decide) dX2_admit_38 rfl s_20 rfl ?_
      refine vr_geti 44 5 5 cl_X4 fl_X2_45 (by decide) rfl dX2_admit_41 rfl s_1 rfl ?_
      obtain ⟨Q4, hq, h⟩ := h
      refine vr_callVi 47 [.inr (some 39), .inl v2, .inl (g3 1 5)] 20 [] dX2_admit_44 rfl mc_X2_55 dn_X2_loadOn rfl rfl s_20 rfl (Nat.le_of_ble_eq_true rfl) (vx_rmR (by decide)) ⟨rfl, rfl⟩ ⟨Nat.le_refl _, Nat.le_refl _⟩ (fun _ _ => trivial) (fun _ _ => trivial) hq (fun r4 sh9 g4 hp _ _ => ?_)
      obtain ⟨e9, z9, e8, hp⟩ := hp
      subst e9
      cases e8
      replace h := h r4 g4 hp
      refine vr_aload_n 48 dX2_admit_47 rfl rfl rfl ?_
      refine vr_iload_n 49 dX2_admit_48 rfl rfl rfl ?_
      obtain ⟨Q5, hq, h⟩ := h
      refine vr_callVi 52 [.inl (g 39 v2)] 20 [.inl r4] dX2_admit_49 rfl mc_X2_59 dn_X2_mostLoad rfl rfl s_20 rfl (Nat.le_of_ble_eq_true rfl) (vx_rmR (by decide)) ⟨rfl, rfl⟩ ⟨Nat.le_refl _, Nat.le_refl _⟩ (fun _ _ => trivial) (fun _ _ => trivial) hq (fun r5 sh9 g5 hp _ _ => ?_)
      obtain ⟨e9, z9, e8, hp⟩ := hp
      subst e9
      cases e8
      replace h := h r5 g5 hp
      refine vr_icmp_le 57 55 dX2_admit_52 rfl rfl (fun c => ?_) (fun c => ?_)
      · replace h := h.1 c
        obtain ⟨o6, h⟩ := h
        refine vr_iinc 60 [some (.inr (some 20)), some (.inr (some 39)), some (.inl (v2 + 1)), some (.inl (g 39 v2))] dX2_admit_57 rfl rfl o6 (by decide) rfl ?_
        refine vr_goto 2 dX2_admit_60 rfl ?_
        exact vr_forget [some (.inr (some 20)), some (.inr (some 39)), some (.inl (v2 + 1)), none] (vx_sub.get _ _ ⟨rfl, ⟨rfl, ⟨rfl, trivial⟩⟩⟩) h
      · replace h := h.2 c
        refine vr_iconst 56 dX2_admit_55 rfl ⟨by decide, by decide⟩ ?_
        exact vr_zret rfl (Nat.le_refl _) (Nat.le_refl _) dX2_admit_56 (by decide) ⟨rfl, _, rfl, h⟩
set_option maxRecDepth 100000 in
theorem tX2_admit_65 {l : Launch} {d : Nat} {Q : Int → vx_M → Prop} (g : vx_M) (v2 : Int) (h : (((g 1 4) ≤ v2 → Q 1 g) ∧ (¬ (g 1 4) ≤ v2 → (∃ Q1 : Int → vx_M → Prop, vNi l mX2_spread d [.inr (some 20), .inr (some 39), .inl v2] SH g Q1 ∧ ∀ (r1 : Int) (g1 : vx_M), Q1 r1 g1 → ((r1 ≤ (g1 20 2) → vx_in (v2 + 1) ∧ vN l mX2_admit (d + 1) (vx_pi SH Q) SH g1 65 [some (.inr (some 20)), some (.inr (some 39)), some (.inl (v2 + 1)), none] []) ∧ (¬ r1 ≤ (g1 20 2) → Q 0 g1)))))) : vN l mX2_admit (d + 1) (vx_pi SH Q) SH g 65 [some (.inr (some 20)), some (.inr (some 39)), some (.inl v2), none] [] := by
  refine vr_iload_n 66 dX2_admit_65 rfl rfl rfl ?_
  refine vr_aload_n 67 dX2_admit_66 rfl rfl rfl ?_
  refine vr_getr 70 0 cl_X2 fl_X2_15 (by decide) dX2_admit_67 rfl s_20 rfl ?_
  refine vr_geti 73 4 4 cl_X4 fl_X2_63 (by decide) rfl dX2_admit_70 rfl s_1 rfl ?_
  refine vr_icmp_ge 97 76 dX2_admit_73 rfl rfl (fun c => ?_) (fun c => ?_)
  · replace h := h.1 c
    refine vr_iconst 98 dX2_admit_97 rfl ⟨by decide, by decide⟩ ?_
    exact vr_zret rfl (Nat.le_refl _) (Nat.le_refl _) dX2_admit_98 (by decide) ⟨rfl, _, rfl, h⟩
  · replace h := h.2 c
    refine vr_aload_n 77 dX2_admit_76 rfl rfl rfl ?_
    refine vr_aload_n 78 dX2_admit_77 rfl rfl rfl ?_
    refine vr_iload_n 79 dX2_admit_78 rfl rfl rfl ?_
    obtain ⟨Q1, hq, h⟩ := h
    refine vr_callVi 82 [.inr (some 39), .inl v2] 20 [] dX2_admit_79 rfl mc_X2_66 dn_X2_spread rfl rfl s_20 rfl (Nat.le_of_ble_eq_true rfl) (vx_rmR (by decide)) ⟨rfl, rfl⟩ ⟨Nat.le_refl _, Nat.le_refl _⟩ (fun _ _ => trivial) (fun _ _ => trivial) hq (fun r1 sh9 g1 hp _ _ => ?_)
    obtain ⟨e9, z9, e8, hp⟩ := hp
    subst e9
    cases e8
    replace h := h r1 g1 hp
    refine vr_aload_n 83 dX2_admit_82 rfl rfl rfl ?_
    refine vr_geti 86 2 2 cl_X2 fl_X2_9 (by decide) rfl dX2_admit_83 rfl s_20 rfl ?_
    refine vr_icmp_le 91 89 dX2_admit_86 rfl rfl (fun c => ?_) (fun c => ?_)
    · replace h := h.1 c
      obtain ⟨o2, h⟩ := h
      refine vr_iinc 94 [some (.inr (some 20)), some (.inr (some 39)), some (.inl (v2 + 1)), none] dX2_admit_91 rfl rfl o2 (by decide) rfl ?_
      refine vr_goto 65 dX2_admit_94 rfl ?_
      exact h
    · replace h := h.2 c
      refine vr_iconst 90 dX2_admit_89 rfl ⟨by decide, by decide⟩ ?_
      exact vr_zret rfl (Nat.le_refl _) (Nat.le_refl _) dX2_admit_90 (by decide) ⟨rfl, _, rfl, h⟩
set_option maxRecDepth 100000 in
theorem tX2_spread_0 {l : Launch} {d : Nat} {Q : Int → vx_M → Prop} (g : vx_M) (v2 : Int) (h : (0 ≤ v2 ∧ v2 < 4) ∧ (0 ≤ g 3 v2 ∧ g 3 v2 < 7) ∧ (0 ≤ g 39 (g 3 v2) ∧ g 39 (g 3 v2) < 8) ∧ vN l mX2_spread (d + 1) (vx_pi SH Q) SH g 30 [some (.inr (some 20)), some (.inr (some 39)), some (.inl v2), some (.inl (g 3 v2)), some (.inl (g 14 (g 39 (g 3 v2)))), some (.inl (g 14 (g 39 (g 3 v2)))), some (.inl 1), none] []) : vN l mX2_spread (d + 1) (vx_pi SH Q) SH g 0 [some (.inr (some 20)), some (.inr (some 39)), some (.inl v2), none, none, none, none, none] [] := by
  refine vr_aload_n 1 dX2_spread_0 rfl rfl rfl ?_
  refine vr_getr 4 0 cl_X2 fl_X2_15 (by decide) dX2_spread_1 rfl s_20 rfl ?_
  refine vr_getr 7 1 cl_X4 fl_X2_70 (by decide) dX2_spread_4 rfl s_1 rfl ?_
  refine vr_iload_n 8 dX2_spread_7 rfl rfl rfl ?_
  obtain ⟨o1, h⟩ := h
  refine vr_iald 9 dX2_spread_8 rfl s_3 o1.1 o1.2 ?_
  refine vr_istore_n 10 [some (.inr (some 20)), some (.inr (some 39)), some (.inl v2), some (.inl (g 3 v2)), none, none, none, none] dX2_spread_9 rfl rfl (by decide) rfl ?_
  refine vr_aload_n 11 dX2_spread_10 rfl rfl rfl ?_
  refine vr_getr 14 1 cl_X2 fl_X2_19 (by decide) dX2_spread_11 rfl s_20 rfl ?_
  refine vr_getr 17 0 cl_X1 fl_X2_73 (by decide) dX2_spread_14 rfl s_13 rfl ?_
  refine vr_aload_n 18 dX2_spread_17 rfl rfl rfl ?_
  refine vr_iload_n 19 dX2_spread_18 rfl rfl rfl ?_
  obtain ⟨o2, h⟩ := h
  refine vr_iald 20 dX2_spread_19 rfl s_39 o2.1 o2.2 ?_
  obtain ⟨o3, h⟩ := h
  refine vr_iald 21 dX2_spread_20 rfl s_14 o3.1 o3.2 ?_
  refine vr_istore 23 [some (.inr (some 20)), some (.inr (some 39)), some (.inl v2), some (.inl (g 3 v2)), some (.inl (g 14 (g 39 (g 3 v2)))), none, none, none] dX2_spread_21 rfl (by decide) rfl ?_
  refine vr_iload 25 dX2_spread_23 rfl rfl ?_
  refine vr_istore 27 [some (.inr (some 20)), some (.inr (some 39)), some (.inl v2), some (.inl (g 3 v2)), some (.inl (g 14 (g 39 (g 3 v2)))), some (.inl (g 14 (g 39 (g 3 v2)))), none, none] dX2_spread_25 rfl (by decide) rfl ?_
  refine vr_iconst 28 dX2_spread_27 rfl ⟨by decide, by decide⟩ ?_
  refine vr_istore 30 [some (.inr (some 20)), some (.inr (some 39)), some (.inl v2), some (.inl (g 3 v2)), some (.inl (g 14 (g 39 (g 3 v2)))), some (.inl (g 14 (g 39 (g 3 v2)))), some (.inl 1), none] dX2_spread_28 rfl (by decide) rfl ?_
  exact h
theorem kX2_spread {l : Launch} {d : Nat} {Q : Int → vx_M → Prop} (g : vx_M) (v2 : Int) (h : (0 ≤ v2 ∧ v2 < 4) ∧ (0 ≤ g 3 v2 ∧ g 3 v2 < 7) ∧ (0 ≤ g 39 (g 3 v2) ∧ g 39 (g 3 v2) < 8) ∧ vN l mX2_spread (d + 1) (vx_pi SH Q) SH g 30 [some (.inr (some 20)), some (.inr (some 39)), some (.inl v2), some (.inl (g 3 v2)), some (.inl (g 14 (g 39 (g 3 v2)))), some (.inl (g 14 (g 39 (g 3 v2)))), some (.inl 1), none] []) : vNi l mX2_spread (d + 1) [.inr (some 20), .inr (some 39), .inl v2] SH g Q := vNi_of [some (.inr (some 20)), some (.inr (some 39)), some (.inl v2), none, none, none, none, none] pn_X2 (Nat.le_of_ble_eq_true rfl) rfl (tX2_spread_0 g v2 h)
set_option maxRecDepth 100000 in
theorem tX2_spread_30 {l : Launch} {d : Nat} {Q : Int → vx_M → Prop} (g : vx_M) (v2 v3 v4 v5 v6 : Int) (h : (0 ≤ v2 ∧ v2 < 4) ∧ (((g 2 v2) ≤ v6 → vx_in (v5 - v4) ∧ Q (v5 - v4) g) ∧ (¬ (g 2 v2) ≤ v6 → vx_in (v3 + v6) ∧ (0 ≤ v3 + v6 ∧ v3 + v6 < 7) ∧ (0 ≤ g 39 (v3 + v6) ∧ g 39 (v3 + v6) < 8) ∧ vx_in (v6 + 1) ∧ vN l mX2_spread (d + 1) (vx_pi SH Q) SH g 30 [some (.inr (some 20)), some (.inr (some 39)), some (.inl v2), some (.inl v3), some (.inl (min v4 (g 14 (g 39 (v3 + v6))))), some (.inl (max v5 (g 14 (g 39 (v3 + v6))))), some (.inl (v6 + 1)), none] []))) : vN l mX2_spread (d + 1) (vx_pi SH Q) SH g 30 [some (.inr (some 20)), some (.inr (some 39)), some (.inl v2), some (.inl v3), some (.inl v4), some (.inl v5), some (.inl v6), none] [] := by
  refine vr_iload 32 dX2_spread_30 rfl rfl ?_
  refine vr_aload_n 33 dX2_spread_32 rfl rfl rfl ?_
  refine vr_getr 36 0 cl_X2 fl_X2_15 (by decide) dX2_spread_33 rfl s_20 rfl ?_
  refine vr_getr 39 0 cl_X4 fl_X2_76 (by decide) dX2_spread_36 rfl s_1 rfl ?_
  refine vr_iload_n 40 dX2_spread_39 rfl rfl rfl ?_
  obtain ⟨o1, h⟩ := h
  refine vr_iald 41 dX2_spread_40 rfl s_2 o1.1 o1.2 ?_
  refine vr_icmp_ge 84 44 dX2_spread_41 rfl rfl (fun c => ?_) (fun c => ?_)
  · replace h := h.1 c
    refine vr_iload 86 dX2_spread_84 rfl rfl ?_
    refine vr_iload 88 dX2_spread_86 rfl rfl ?_
    obtain ⟨o2, h⟩ := h
    refine vr_isub 89 dX2_spread_88 rfl o2 ?_
    exact vr_iret rfl (Nat.le_refl _) (Nat.le_refl _) dX2_spread_89 ⟨rfl, _, rfl, h⟩
  · replace h := h.2 c
    refine vr_aload_n 45 dX2_spread_44 rfl rfl rfl ?_
    refine vr_getr 48 1 cl_X2 fl_X2_19 (by decide) dX2_spread_45 rfl s_20 rfl ?_
    refine vr_getr 51 0 cl_X1 fl_X2_73 (by decide) dX2_spread_48 rfl s_13 rfl ?_
    refine vr_aload_n 52 dX2_spread_51 rfl rfl rfl ?_
    refine vr_iload_n 53 dX2_spread_52 rfl rfl rfl ?_
    refine vr_iload 55 dX2_spread_53 rfl rfl ?_
    obtain ⟨o3, h⟩ := h
    refine vr_iadd 56 dX2_spread_55 rfl o3 ?_
    obtain ⟨o4, h⟩ := h
    refine vr_iald 57 dX2_spread_56 rfl s_39 o4.1 o4.2 ?_
    obtain ⟨o5, h⟩ := h
    refine vr_iald 58 dX2_spread_57 rfl s_14 o5.1 o5.2 ?_
    refine vr_istore 60 [some (.inr (some 20)), some (.inr (some 39)), some (.inl v2), some (.inl v3), some (.inl v4), some (.inl v5), some (.inl v6), some (.inl (g 14 (g 39 (v3 + v6))))] dX2_spread_58 rfl (by decide) rfl ?_
    refine vr_iload 62 dX2_spread_60 rfl rfl ?_
    refine vr_iload 64 dX2_spread_62 rfl rfl ?_
    refine vr_mmin 67 dX2_spread_64 rfl mc_X2_79 ma_min_1 ma_ini ma_min_2 (by show 1 ≤ d + 1; omega) (by show _ + 13 ≤ 40 * (d + 1); simp only [List.length_cons, List.length_nil]; omega) ⟨Nat.le_refl _, Nat.le_refl _⟩ ?_
    refine vr_istore 69 [some (.inr (some 20)), some (.inr (some 39)), some (.inl v2), some (.inl v3), some (.inl (min v4 (g 14 (g 39 (v3 + v6))))), some (.inl v5), some (.inl v6), some (.inl (g 14 (g 39 (v3 + v6))))] dX2_spread_67 rfl (by decide) rfl ?_
    refine vr_iload 71 dX2_spread_69 rfl rfl ?_
    refine vr_iload 73 dX2_spread_71 rfl rfl ?_
    refine vr_mmax 76 dX2_spread_73 rfl mc_X2_85 ma_max_1 ma_ini ma_max_2 (by show 1 ≤ d + 1; omega) (by show _ + 13 ≤ 40 * (d + 1); simp only [List.length_cons, List.length_nil]; omega) ⟨Nat.le_refl _, Nat.le_refl _⟩ ?_
    refine vr_istore 78 [some (.inr (some 20)), some (.inr (some 39)), some (.inl v2), some (.inl v3), some (.inl (min v4 (g 14 (g 39 (v3 + v6))))), some (.inl (max v5 (g 14 (g 39 (v3 + v6))))), some (.inl v6), some (.inl (g 14 (g 39 (v3 + v6))))] dX2_spread_76 rfl (by decide) rfl ?_
    obtain ⟨o6, h⟩ := h
    refine vr_iinc 81 [some (.inr (some 20)), some (.inr (some 39)), some (.inl v2), some (.inl v3), some (.inl (min v4 (g 14 (g 39 (v3 + v6))))), some (.inl (max v5 (g 14 (g 39 (v3 + v6))))), some (.inl (v6 + 1)), some (.inl (g 14 (g 39 (v3 + v6))))] dX2_spread_78 rfl rfl o6 (by decide) rfl ?_
    refine vr_goto 30 dX2_spread_81 rfl ?_
    exact vr_forget [some (.inr (some 20)), some (.inr (some 39)), some (.inl v2), some (.inl v3), some (.inl (min v4 (g 14 (g 39 (v3 + v6))))), some (.inl (max v5 (g 14 (g 39 (v3 + v6))))), some (.inl (v6 + 1)), none] (vx_sub.get _ _ ⟨rfl, ⟨rfl, ⟨rfl, ⟨rfl, ⟨rfl, ⟨rfl, ⟨rfl, trivial⟩⟩⟩⟩⟩⟩⟩) h
set_option maxRecDepth 100000 in
theorem tX0_crowned_0 {l : Launch} {d : Nat} {Q : Int → vx_M → Prop} (g : vx_M) (h : vN l mX0_crowned (d + 1) (vx_pi SH Q) SH g 4 [some (.inr (some 36)), some (.inl 0), some (.inl 0)] []) : vN l mX0_crowned (d + 1) (vx_pi SH Q) SH g 0 [some (.inr (some 36)), none, none] [] := by
  refine vr_iconst 1 dX0_crowned_0 rfl ⟨by decide, by decide⟩ ?_
  refine vr_istore_n 2 [some (.inr (some 36)), some (.inl 0), none] dX0_crowned_1 rfl rfl (by decide) rfl ?_
  refine vr_iconst 3 dX0_crowned_2 rfl ⟨by decide, by decide⟩ ?_
  refine vr_istore_n 4 [some (.inr (some 36)), some (.inl 0), some (.inl 0)] dX0_crowned_3 rfl rfl (by decide) rfl ?_
  exact h
theorem kX0_crowned {l : Launch} {d : Nat} {Q : Int → vx_M → Prop} (g : vx_M) (h : vN l mX0_crowned (d + 1) (vx_pi SH Q) SH g 4 [some (.inr (some 36)), some (.inl 0), some (.inl 0)] []) : vNi l mX0_crowned (d + 1) [.inr (some 36)] SH g Q := vNi_of [some (.inr (some 36)), none, none] pn_X0 (Nat.le_of_ble_eq_true rfl) rfl (tX0_crowned_0 g  h)
set_option maxRecDepth 100000 in
theorem tX0_crowned_4 {l : Launch} {d : Nat} {Q : Int → vx_M → Prop} (g : vx_M) (v1 v2 : Int) (h : (((g 1 5) ≤ v2 → Q v1 g) ∧ (¬ (g 1 5) ≤ v2 → (∃ Q1 : Int → vx_M → Prop, vNi l mX0_ticksFor d [.inr (some 36), .inl v2] SH g Q1 ∧ ∀ (r1 : Int) (g1 : vx_M), Q1 r1 g1 → vx_in (v1 + r1) ∧ vx_in (v2 + 1) ∧ vN l mX0_crowned (d + 1) (vx_pi SH Q) SH g1 4 [some (.inr (some 36)), some (.inl (v1 + r1)), some (.inl (v2 + 1))] [])))) : vN l mX0_crowned (d + 1) (vx_pi SH Q) SH g 4 [some (.inr (some 36)), some (.inl v1), some (.inl v2)] [] := by
  refine vr_iload_n 5 dX0_crowned_4 rfl rfl rfl ?_
  refine vr_aload_n 6 dX0_crowned_5 rfl rfl rfl ?_
  refine vr_getr 9 0 cl_X0 fl_X0_25 (by decide) dX0_crowned_6 rfl s_36 rfl ?_
  refine vr_geti 12 5 5 cl_X4 fl_X0_37 (by decide) rfl dX0_crowned_9 rfl s_1 rfl ?_
  refine vr_icmp_ge 29 15 dX0_crowned_12 rfl rfl (fun c => ?_) (fun c => ?_)
  · replace h := h.1 c
    refine vr_iload_n 30 dX0_crowned_29 rfl rfl rfl ?_
    exact vr_iret rfl (Nat.le_refl _) (Nat.le_refl _) dX0_crowned_30 ⟨rfl, _, rfl, h⟩
  · replace h := h.2 c
    refine vr_iload_n 16 dX0_crowned_15 rfl rfl rfl ?_
    refine vr_aload_n 17 dX0_crowned_16 rfl rfl rfl ?_
    refine vr_iload_n 18 dX0_crowned_17 rfl rfl rfl ?_
    obtain ⟨Q1, hq, h⟩ := h
    refine vr_callVi 21 [.inl v2] 36 [.inl v1] dX0_crowned_18 rfl mc_X0_42 dn_X0_ticksFor rfl rfl s_36 rfl (Nat.le_of_ble_eq_true rfl) (vx_rmR (by decide)) ⟨rfl, rfl⟩ ⟨Nat.le_refl _, Nat.le_refl _⟩ (fun _ _ => trivial) (fun _ _ => trivial) hq (fun r1 sh9 g1 hp _ _ => ?_)
    obtain ⟨e9, z9, e8, hp⟩ := hp
    subst e9
    cases e8
    replace h := h r1 g1 hp
    obtain ⟨o2, h⟩ := h
    refine vr_iadd 22 dX0_crowned_21 rfl o2 ?_
    refine vr_istore_n 23 [some (.inr (some 36)), some (.inl (v1 + r1)), some (.inl v2)] dX0_crowned_22 rfl rfl (by decide) rfl ?_
    obtain ⟨o3, h⟩ := h
    refine vr_iinc 26 [some (.inr (some 36)), some (.inl (v1 + r1)), some (.inl (v2 + 1))] dX0_crowned_23 rfl rfl o3 (by decide) rfl ?_
    refine vr_goto 4 dX0_crowned_26 rfl ?_
    exact h
set_option maxRecDepth 100000 in
theorem tX0_run_0 {l : Launch} {d : Nat} {Q : vx_M → Prop} (g : vx_M) (v2 : Int) (h : (∃ Q1 : vx_M → Prop, vNv l mJ7_fill_53178 d [.inr (some 38), .inl 0] SH g Q1 ∧ ∀ g1 : vx_M, Q1 g1 → vN l mX0_run (d + 1) (vx_pv SH Q) SH (vx_u (vx_u g1 36 5 (-1)) 36 6 (-1)) 23 [some (.inr (some 36)), some (.inr (some 39)), some (.inl v2), some (.inl 0), some (.inl 0)] [])) : vN l mX0_run (d + 1) (vx_pv SH Q) SH g 0 [some (.inr (some 36)), some (.inr (some 39)), some (.inl v2), none, none] [] := by
  refine vr_aload_n 1 dX0_run_0 rfl rfl rfl ?_
  refine vr_getr 4 4 cl_X0 fl_X0_15 (by decide) dX0_run_1 rfl s_36 rfl ?_
  refine vr_iconst 5 dX0_run_4 rfl ⟨by decide, by decide⟩ ?_
  obtain ⟨Q1, hq, h⟩ := h
  refine vr_callSv 8 [.inr (some 38), .inl 0] [] dX0_run_5 rfl mc_X0_46 dn_J7_fill_53178 rfl rfl (Nat.le_of_ble_eq_true rfl) (vx_rmR (by decide)) ⟨rfl, rfl⟩ ⟨Nat.le_refl _, Nat.le_refl _⟩ (fun _ _ => trivial) (fun _ _ => trivial) hq (fun sh9 g1 hp _ => ?_)
  obtain ⟨e9, -, hp⟩ := hp
  subst e9
  replace h := h g1 hp
  refine vr_aload_n 9 dX0_run_8 rfl rfl rfl ?_
  refine vr_iconst 10 dX0_run_9 rfl ⟨by decide, by decide⟩ ?_
  refine vr_puti 13 5 5 cl_X0 fl_X0_18 (by decide) rfl rfl rfl dX0_run_10 rfl s_36 rfl ?_
  refine vr_aload_n 14 dX0_run_13 rfl rfl rfl ?_
  refine vr_iconst 15 dX0_run_14 rfl ⟨by decide, by decide⟩ ?_
  refine vr_puti 18 6 6 cl_X0 fl_X0_22 (by decide) rfl rfl rfl dX0_run_15 rfl s_36 rfl ?_
  refine vr_iconst 19 dX0_run_18 rfl ⟨by decide, by decide⟩ ?_
  refine vr_istore_n 20 [some (.inr (some 36)), some (.inr (some 39)), some (.inl v2), some (.inl 0), none] dX0_run_19 rfl rfl (by decide) rfl ?_
  refine vr_iconst 21 dX0_run_20 rfl ⟨by decide, by decide⟩ ?_
  refine vr_istore 23 [some (.inr (some 36)), some (.inr (some 39)), some (.inl v2), some (.inl 0), some (.inl 0)] dX0_run_21 rfl (by decide) rfl ?_
  exact h
theorem kX0_run {l : Launch} {d : Nat} {Q : vx_M → Prop} (g : vx_M) (v2 : Int) (h : (∃ Q1 : vx_M → Prop, vNv l mJ7_fill_53178 d [.inr (some 38), .inl 0] SH g Q1 ∧ ∀ g1 : vx_M, Q1 g1 → vN l mX0_run (d + 1) (vx_pv SH Q) SH (vx_u (vx_u g1 36 5 (-1)) 36 6 (-1)) 23 [some (.inr (some 36)), some (.inr (some 39)), some (.inl v2), some (.inl 0), some (.inl 0)] [])) : vNv l mX0_run (d + 1) [.inr (some 36), .inr (some 39), .inl v2] SH g Q := vNv_of [some (.inr (some 36)), some (.inr (some 39)), some (.inl v2), none, none] pn_X0 (Nat.le_of_ble_eq_true rfl) rfl (tX0_run_0 g v2 h)
set_option maxRecDepth 100000 in
theorem tX0_run_23 {l : Launch} {d : Nat} {Q : vx_M → Prop} (g : vx_M) (v2 v3 v4 : Int) (h : (((g 1 5) ≤ v4 → vx_in ((g 1 5) - 1) ∧ vN l mX0_run (d + 1) (vx_pv SH Q) SH g 68 [some (.inr (some 36)), some (.inr (some 39)), some (.inl v2), some (.inl v3), some (.inl ((g 1 5) - 1))] []) ∧ (¬ (g 1 5) ≤ v4 → (∃ Q2 : Int → vx_M → Prop, vNi l mX0_ticksFor d [.inr (some 36), .inl v4] SH g Q2 ∧ ∀ (r2 : Int) (g2 : vx_M), Q2 r2 g2 → (∃ Q3 : Int → vx_M → Prop, vNi l mX0_pass d [.inr (some 36), .inr (some 39), .inl v4, .inl v3, .inl r2, .inl v2] SH g2 Q3 ∧ ∀ (r3 : Int) (g3 : vx_M), Q3 r3 g3 → vx_in (v4 + 1) ∧ vN l mX0_run (d + 1) (vx_pv SH Q) SH g3 23 [some (.inr (some 36)), some (.inr (some 39)), some (.inl v2), some (.inl r3), some (.inl (v4 + 1))] []))))) : vN l mX0_run (d + 1) (vx_pv SH Q) SH g 23 [some (.inr (some 36)), some (.inr (some 39)), some (.inl v2), some (.inl v3), some (.inl v4)] [] := by
  refine vr_iload 25 dX0_run_23 rfl rfl ?_
  refine vr_aload_n 26 dX0_run_25 rfl rfl rfl ?_
  refine vr_getr 29 0 cl_X0 fl_X0_25 (by decide) dX0_run_26 rfl s_36 rfl ?_
  refine vr_geti 32 5 5 cl_X4 fl_X0_37 (by decide) rfl dX0_run_29 rfl s_1 rfl ?_
  refine vr_icmp_ge 57 35 dX0_run_32 rfl rfl (fun c => ?_) (fun c => ?_)
  · replace h := h.1 c
    refine vr_aload_n 58 dX0_run_57 rfl rfl rfl ?_
    refine vr_getr 61 0 cl_X0 fl_X0_25 (by decide) dX0_run_58 rfl s_36 rfl ?_
    refine vr_geti 64 5 5 cl_X4 fl_X0_37 (by decide) rfl dX0_run_61 rfl s_1 rfl ?_
    refine vr_iconst 65 dX0_run_64 rfl ⟨by decide, by decide⟩ ?_
    obtain ⟨o1, h⟩ := h
    refine vr_isub 66 dX0_run_65 rfl o1 ?_
    refine vr_istore 68 [some (.inr (some 36)), some (.inr (some 39)), some (.inl v2), some (.inl v3), some (.inl ((g 1 5) - 1))] dX0_run_66 rfl (by decide) rfl ?_
    exact h
  · replace h := h.2 c
    refine vr_aload_n 36 dX0_run_35 rfl rfl rfl ?_
    refine vr_aload_n 37 dX0_run_36 rfl rfl rfl ?_
    refine vr_iload 39 dX0_run_37 rfl rfl ?_
    refine vr_iload_n 40 dX0_run_39 rfl rfl rfl ?_
    refine vr_aload_n 41 dX0_run_40 rfl rfl rfl ?_
    refine vr_iload 43 dX0_run_41 rfl rfl ?_
    obtain ⟨Q2, hq, h⟩ := h
    refine vr_callVi 46 [.inl v4] 36 [.inl v3, .inl v4, .inr (some 39), .inr (some 36)] dX0_run_43 rfl mc_X0_42 dn_X0_ticksFor rfl rfl s_36 rfl (Nat.le_of_ble_eq_true rfl) (vx_rmR (by decide)) ⟨rfl, rfl⟩ ⟨Nat.le_refl _, Nat.le_refl _⟩ (fun _ _ => trivial) (fun _ _ => trivial) hq (fun r2 sh9 g2 hp _ _ => ?_)
    obtain ⟨e9, z9, e8, hp⟩ := hp
    subst e9
    cases e8
    replace h := h r2 g2 hp
    refine vr_iload_n 47 dX0_run_46 rfl rfl rfl ?_
    obtain ⟨Q3, hq, h⟩ := h
    refine vr_callVi 50 [.inr (some 39), .inl v4, .inl v3, .inl r2, .inl v2] 36 [] dX0_run_47 rfl mc_X0_52 dn_X0_pass rfl rfl s_36 rfl (Nat.le_of_ble_eq_true rfl) (vx_rmR (by decide)) ⟨rfl, rfl⟩ ⟨Nat.le_refl _, Nat.le_refl _⟩ (fun _ _ => trivial) (fun _ _ => trivial) hq (fun r3 sh9 g3 hp _ _ => ?_)
    obtain ⟨e9, z9, e8, hp⟩ := hp
    subst e9
    cases e8
    replace h := h r3 g3 hp
    refine vr_istore_n 51 [some (.inr (some 36)), some (.inr (some 39)), some (.inl v2), some (.inl r3), some (.inl v4)] dX0_run_50 rfl rfl (by decide) rfl ?_
    obtain ⟨o4, h⟩ := h
    refine vr_iinc 54 [some (.inr (some 36)), some (.inr (some 39)), some (.inl v2), some (.inl r3), some (.inl (v4 + 1))] dX0_run_51 rfl rfl o4 (by decide) rfl ?_
    refine vr_goto 23 dX0_run_54 rfl ?_
    exact h
set_option maxRecDepth 100000 in
theorem tX0_run_68 {l : Launch} {d : Nat} {Q : vx_M → Prop} (g : vx_M) (v2 v3 v4 : Int) (h : ((v4 < 0 → Q g) ∧ (¬ v4 < 0 → vx_in (v4 + 1) ∧ (∃ Q2 : Int → vx_M → Prop, vNi l mX0_ticksFor d [.inr (some 36), .inl v4] SH g Q2 ∧ ∀ (r2 : Int) (g2 : vx_M), Q2 r2 g2 → (∃ Q3 : Int → vx_M → Prop, vNi l mX0_pass d [.inr (some 36), .inr (some 39), .inl (v4 + 1), .inl v3, .inl r2, .inl v2] SH g2 Q3 ∧ ∀ (r3 : Int) (g3 : vx_M), Q3 r3 g3 → vx_in (v4 + (-1)) ∧ vN l mX0_run (d + 1) (vx_pv SH Q) SH g3 68 [some (.inr (some 36)), some (.inr (some 39)), some (.inl v2), some (.inl r3), some (.inl (v4 + (-1)))] []))))) : vN l mX0_run (d + 1) (vx_pv SH Q) SH g 68 [some (.inr (some 36)), some (.inr (some 39)), some (.inl v2), some (.inl v3), some (.inl v4)] [] := by
  refine vr_iload 70 dX0_run_68 rfl rfl ?_
  refine vr_if_lt 97 73 dX0_run_70 rfl rfl (fun c => ?_) (fun c => ?_)
  · replace h := h.1 c
    exact vr_vret rfl (Nat.le_refl _) (Nat.le_refl _) dX0_run_97 ⟨rfl, rfl, h⟩
  · replace h := h.2 c
    refine vr_aload_n 74 dX0_run_73 rfl rfl rfl ?_
    refine vr_aload_n 75 dX0_run_74 rfl rfl rfl ?_
    refine vr_iload 77 dX0_run_75 rfl rfl ?_
    refine vr_iconst 78 dX0_run_77 rfl ⟨by decide, by decide⟩ ?_
    obtain ⟨o1, h⟩ := h
    refine vr_iadd 79 dX0_run_78 rfl o1 ?_
    refine vr_iload_n 80 dX0_run_79 rfl rfl rfl ?_
    refine vr_aload_n 81 dX0_run_80 rfl rfl rfl ?_
    refine vr_iload 83 dX0_run_81 rfl rfl ?_
    obtain ⟨Q2, hq, h⟩ := h
    refine vr_callVi 86 [.inl v4] 36 [.inl v3, .inl (v4 + 1), .inr (some 39), .inr (some 36)] dX0_run_83 rfl mc_X0_42 dn_X0_ticksFor rfl rfl s_36 rfl (Nat.le_of_ble_eq_true rfl) (vx_rmR (by decide)) ⟨rfl, rfl⟩ ⟨Nat.le_refl _, Nat.le_refl _⟩ (fun _ _ => trivial) (fun _ _ => trivial) hq (fun r2 sh9 g2 hp _ _ => ?_)
    obtain ⟨e9, z9, e8, hp⟩ := hp
    subst e9
    cases e8
    replace h := h r2 g2 hp
    refine vr_iload_n 87 dX0_run_86 rfl rfl rfl ?_
    obtain ⟨Q3, hq, h⟩ := h
    refine vr_callVi 90 [.inr (some 39), .inl (v4 + 1), .inl v3, .inl r2, .inl v2] 36 [] dX0_run_87 rfl mc_X0_52 dn_X0_pass rfl rfl s_36 rfl (Nat.le_of_ble_eq_true rfl) (vx_rmR (by decide)) ⟨rfl, rfl⟩ ⟨Nat.le_refl _, Nat.le_refl _⟩ (fun _ _ => trivial) (fun _ _ => trivial) hq (fun r3 sh9 g3 hp _ _ => ?_)
    obtain ⟨e9, z9, e8, hp⟩ := hp
    subst e9
    cases e8
    replace h := h r3 g3 hp
    refine vr_istore_n 91 [some (.inr (some 36)), some (.inr (some 39)), some (.inl v2), some (.inl r3), some (.inl v4)] dX0_run_90 rfl rfl (by decide) rfl ?_
    obtain ⟨o4, h⟩ := h
    refine vr_iinc 94 [some (.inr (some 36)), some (.inr (some 39)), some (.inl v2), some (.inl r3), some (.inl (v4 + (-1)))] dX0_run_91 rfl rfl o4 (by decide) rfl ?_
    refine vr_goto 68 dX0_run_94 rfl ?_
    exact h
set_option maxRecDepth 100000 in
theorem tX0_ticksFor_0 {l : Launch} {d : Nat} {Q : Int → vx_M → Prop} (g : vx_M) (v1 : Int) (h : (0 ≤ v1 ∧ v1 < 7) ∧ vx_in (2 + (g 4 v1)) ∧ Q (2 + (g 4 v1)) g) : vN l mX0_ticksFor d (vx_pi SH Q) SH g 0 [some (.inr (some 36)), some (.inl v1)] [] := by
  refine vr_iconst 1 dX0_ticksFor_0 rfl ⟨by decide, by decide⟩ ?_
  refine vr_aload_n 2 dX0_ticksFor_1 rfl rfl rfl ?_
  refine vr_getr 5 0 cl_X0 fl_X0_25 (by decide) dX0_ticksFor_2 rfl s_36 rfl ?_
  refine vr_getr 8 2 cl_X4 fl_X0_56 (by decide) dX0_ticksFor_5 rfl s_1 rfl ?_
  refine vr_iload_n 9 dX0_ticksFor_8 rfl rfl rfl ?_
  obtain ⟨o1, h⟩ := h
  refine vr_iald 10 dX0_ticksFor_9 rfl s_4 o1.1 o1.2 ?_
  obtain ⟨o2, h⟩ := h
  refine vr_iadd 11 dX0_ticksFor_10 rfl o2 ?_
  exact vr_iret rfl (Nat.le_refl _) (Nat.le_refl _) dX0_ticksFor_11 ⟨rfl, _, rfl, h⟩
theorem kX0_ticksFor {l : Launch} {d : Nat} {Q : Int → vx_M → Prop} (g : vx_M) (v1 : Int) (h : (0 ≤ v1 ∧ v1 < 7) ∧ vx_in (2 + (g 4 v1)) ∧ Q (2 + (g 4 v1)) g) : vNi l mX0_ticksFor d [.inr (some 36), .inl v1] SH g Q := vNi_of [some (.inr (some 36)), some (.inl v1)] pn_X0 (Nat.le_of_ble_eq_true rfl) rfl (tX0_ticksFor_0 g v1 h)
set_option maxRecDepth 100000 in
theorem tX0_pass_0 {l : Launch} {d : Nat} {Q : Int → vx_M → Prop} (g : vx_M) (v2 v3 v4 v5 : Int) (h : vN l mX0_pass (d + 1) (vx_pi SH Q) SH g 3 [some (.inr (some 36)), some (.inr (some 39)), some (.inl v2), some (.inl v3), some (.inl v4), some (.inl v5), some (.inl 0), none] []) : vN l mX0_pass (d + 1) (vx_pi SH Q) SH g 0 [some (.inr (some 36)), some (.inr (some 39)), some (.inl v2), some (.inl v3), some (.inl v4), some (.inl v5), none, none] [] := by
  refine vr_iconst 1 dX0_pass_0 rfl ⟨by decide, by decide⟩ ?_
  refine vr_istore 3 [some (.inr (some 36)), some (.inr (some 39)), some (.inl v2), some (.inl v3), some (.inl v4), some (.inl v5), some (.inl 0), none] dX0_pass_1 rfl (by decide) rfl ?_
  exact h
theorem kX0_pass {l : Launch} {d : Nat} {Q : Int → vx_M → Prop} (g : vx_M) (v2 v3 v4 v5 : Int) (h : vN l mX0_pass (d + 1) (vx_pi SH Q) SH g 3 [some (.inr (some 36)), some (.inr (some 39)), some (.inl v2), some (.inl v3), some (.inl v4), some (.inl v5), some (.inl 0), none] []) : vNi l mX0_pass (d + 1) [.inr (some 36), .inr (some 39), .inl v2, .inl v3, .inl v4, .inl v5] SH g Q := vNi_of [some (.inr (some 36)), some (.inr (some 39)), some (.inl v2), some (.inl v3), some (.inl v4), some (.inl v5), none, none] pn_X0 (Nat.le_of_ble_eq_true rfl) rfl (tX0_pass_0 g v2 v3 v4 v5 h)
set_option maxRecDepth 100000 in
theorem tX0_pass_3 {l : Launch} {d : Nat} {Q : Int → vx_M → Prop} (g : vx_M) (v2 v3 v4 v5 v6 : Int) (h : (((g 1 5) ≤ v6 → vx_in (v3 + v4) ∧ vx_in (v3 + 1) ∧ vN l mX0_pass (d + 1) (vx_pi SH Q) SH g 50 [some (.inr (some 36)), some (.inr (some 39)), some (.inl v2), some (.inl v3), some (.inl v4), some (.inl v5), some (.inl (v3 + v4)), some (.inl (v3 + 1))] []) ∧ (¬ (g 1 5) ≤ v6 → (∃ Q3 : Int → vx_M → Prop, vNi l mX2_loadOn d [.inr (some 20), .inr (some 39), .inl v6, .inl v2] SH g Q3 ∧ ∀ (r3 : Int) (g3 : vx_M), Q3 r3 g3 → (0 ≤ v6 ∧ v6 < 7) ∧ vx_in (v6 + 1) ∧ vN l mX0_pass (d + 1) (vx_pi SH Q) SH (vx_u g3 37 v6 r3) 3 [some (.inr (some 36)), some (.inr (some 39)), some (.inl v2), some (.inl v3), some (.inl v4), some (.inl v5), some (.inl (v6 + 1)), none] [])))) : vN l mX0_pass (d + 1) (vx_pi SH Q) SH g 3 [some (.inr (some 36)), some (.inr (some 39)), some (.inl v2), some (.inl v3), some (.inl v4), some (.inl v5), some (.inl v6), none] [] := by
  refine vr_iload 5 dX0_pass_3 rfl rfl ?_
  refine vr_aload_n 6 dX0_pass_5 rfl rfl rfl ?_
  refine vr_getr 9 0 cl_X0 fl_X0_25 (by decide) dX0_pass_6 rfl s_36 rfl ?_
  refine vr_geti 12 5 5 cl_X4 fl_X0_37 (by decide) rfl dX0_pass_9 rfl s_1 rfl ?_
  refine vr_icmp_ge 39 15 dX0_pass_12 rfl rfl (fun c => ?_) (fun c => ?_)
  · replace h := h.1 c
    refine vr_iload_n 40 dX0_pass_39 rfl rfl rfl ?_
    refine vr_iload 42 dX0_pass_40 rfl rfl ?_
    obtain ⟨o1, h⟩ := h
    refine vr_iadd 43 dX0_pass_42 rfl o1 ?_
    refine vr_istore 45 [some (.inr (some 36)), some (.inr (some 39)), some (.inl v2), some (.inl v3), some (.inl v4), some (.inl v5), some (.inl (v3 + v4)), none] dX0_pass_43 rfl (by decide) rfl ?_
    refine vr_iload_n 46 dX0_pass_45 rfl rfl rfl ?_
    refine vr_iconst 47 dX0_pass_46 rfl ⟨by decide, by decide⟩ ?_
    obtain ⟨o2, h⟩ := h
    refine vr_iadd 48 dX0_pass_47 rfl o2 ?_
    refine vr_istore 50 [some (.inr (some 36)), some (.inr (some 39)), some (.inl v2), some (.inl v3), some (.inl v4), some (.inl v5), some (.inl (v3 + v4)), some (.inl (v3 + 1))] dX0_pass_48 rfl (by decide) rfl ?_
    exact h
  · replace h := h.2 c
    refine vr_aload_n 16 dX0_pass_15 rfl rfl rfl ?_
    refine vr_getr 19 3 cl_X0 fl_X0_9 (by decide) dX0_pass_16 rfl s_36 rfl ?_
    refine vr_iload 21 dX0_pass_19 rfl rfl ?_
    refine vr_aload_n 22 dX0_pass_21 rfl rfl rfl ?_
    refine vr_getr 25 2 cl_X0 fl_X0_33 (by decide) dX0_pass_22 rfl s_36 rfl ?_
    refine vr_aload_n 26 dX0_pass_25 rfl rfl rfl ?_
    refine vr_iload 28 dX0_pass_26 rfl rfl ?_
    refine vr_iload_n 29 dX0_pass_28 rfl rfl rfl ?_
    obtain ⟨Q3, hq, h⟩ := h
    refine vr_callVi 32 [.inr (some 39), .inl v6, .inl v2] 20 [.inl v6, .inr (some 37)] dX0_pass_29 rfl mc_X0_59 dn_X2_loadOn rfl rfl s_20 rfl (Nat.le_of_ble_eq_true rfl) (vx_rmR (by decide)) ⟨rfl, rfl⟩ ⟨Nat.le_refl _, Nat.le_refl _⟩ (fun _ _ => trivial) (fun _ _ => trivial) hq (fun r3 sh9 g3 hp _ _ => ?_)
    obtain ⟨e9, z9, e8, hp⟩ := hp
    subst e9
    cases e8
    replace h := h r3 g3 hp
    obtain ⟨o4, h⟩ := h
    refine vr_iast 33 dX0_pass_32 rfl s_37 o4.1 o4.2 ?_
    obtain ⟨o5, h⟩ := h
    refine vr_iinc 36 [some (.inr (some 36)), some (.inr (some 39)), some (.inl v2), some (.inl v3), some (.inl v4), some (.inl v5), some (.inl (v6 + 1)), none] dX0_pass_33 rfl rfl o5 (by decide) rfl ?_
    refine vr_goto 3 dX0_pass_36 rfl ?_
    exact h
set_option maxRecDepth 100000 in
theorem tX0_pass_50 {l : Launch} {d : Nat} {Q : Int → vx_M → Prop} (g : vx_M) (v2 v3 v4 v5 v6 v7 : Int) (h : ((v6 < v7 → Q v6 g) ∧ (¬ v6 < v7 → ((v5 < v7 → Q v6 g) ∧ (¬ v5 < v7 → (∃ Q1 : vx_M → Prop, vNv l mX0_tire d [.inr (some 36), .inr (some 39), .inl v7] SH g Q1 ∧ ∀ g1 : vx_M, Q1 g1 → vx_in (v7 + 1) ∧ vN l mX0_pass (d + 1) (vx_pi SH Q) SH g1 50 [some (.inr (some 36)), some (.inr (some 39)), some (.inl v2), some (.inl v3), some (.inl v4), some (.inl v5), some (.inl v6), some (.inl (v7 + 1))] [])))))) : vN l mX0_pass (d + 1) (vx_pi SH Q) SH g 50 [some (.inr (some 36)), some (.inr (some 39)), some (.inl v2), some (.inl v3), some (.inl v4), some (.inl v5), some (.inl v6), some (.inl v7)] [] := by
  refine vr_iload 52 dX0_pass_50 rfl rfl ?_
  refine vr_iload 54 dX0_pass_52 rfl rfl ?_
  refine vr_icmp_gt 77 57 dX0_pass_54 rfl rfl (fun c => ?_) (fun c => ?_)
  · replace h := h.1 c
    refine vr_iload 79 dX0_pass_77 rfl rfl ?_
    exact vr_iret rfl (Nat.le_refl _) (Nat.le_refl _) dX0_pass_79 ⟨rfl, _, rfl, h⟩
  · replace h := h.2 c
    refine vr_iload 59 dX0_pass_57 rfl rfl ?_
    refine vr_iload 61 dX0_pass_59 rfl rfl ?_
    refine vr_icmp_gt 77 64 dX0_pass_61 rfl rfl (fun c => ?_) (fun c => ?_)
    · replace h := h.1 c
      refine vr_iload 79 dX0_pass_77 rfl rfl ?_
      exact vr_iret rfl (Nat.le_refl _) (Nat.le_refl _) dX0_pass_79 ⟨rfl, _, rfl, h⟩
    · replace h := h.2 c
      refine vr_aload_n 65 dX0_pass_64 rfl rfl rfl ?_
      refine vr_aload_n 66 dX0_pass_65 rfl rfl rfl ?_
      refine vr_iload 68 dX0_pass_66 rfl rfl ?_
      obtain ⟨Q1, hq, h⟩ := h
      refine vr_callVv 71 [.inr (some 39), .inl v7] 36 [] dX0_pass_68 rfl mc_X0_65 dn_X0_tire rfl rfl s_36 rfl (Nat.le_of_ble_eq_true rfl) (vx_rmR (by decide)) ⟨rfl, rfl⟩ ⟨Nat.le_refl _, Nat.le_refl _⟩ (fun _ _ => trivial) (fun _ _ => trivial) hq (fun sh9 g1 hp _ => ?_)
      obtain ⟨e9, -, hp⟩ := hp
      subst e9
      replace h := h g1 hp
      obtain ⟨o2, h⟩ := h
      refine vr_iinc 74 [some (.inr (some 36)), some (.inr (some 39)), some (.inl v2), some (.inl v3), some (.inl v4), some (.inl v5), some (.inl v6), some (.inl (v7 + 1))] dX0_pass_71 rfl rfl o2 (by decide) rfl ?_
      refine vr_goto 50 dX0_pass_74 rfl ?_
      exact h
set_option maxRecDepth 100000 in
theorem tX0_tire_0 {l : Launch} {d : Nat} {Q : vx_M → Prop} (g : vx_M) (v2 : Int) (h : vN l mX0_tire d (vx_pv SH Q) SH g 2 [some (.inr (some 36)), some (.inr (some 39)), some (.inl v2), some (.inl 0)] []) : vN l mX0_tire d (vx_pv SH Q) SH g 0 [some (.inr (some 36)), some (.inr (some 39)), some (.inl v2), none] [] := by
  refine vr_iconst 1 dX0_tire_0 rfl ⟨by decide, by decide⟩ ?_
  refine vr_istore_n 2 [some (.inr (some 36)), some (.inr (some 39)), some (.inl v2), some (.inl 0)] dX0_tire_1 rfl rfl (by decide) rfl ?_
  exact h
theorem kX0_tire {l : Launch} {d : Nat} {Q : vx_M → Prop} (g : vx_M) (v2 : Int) (h : vN l mX0_tire d (vx_pv SH Q) SH g 2 [some (.inr (some 36)), some (.inr (some 39)), some (.inl v2), some (.inl 0)] []) : vNv l mX0_tire d [.inr (some 36), .inr (some 39), .inl v2] SH g Q := vNv_of [some (.inr (some 36)), some (.inr (some 39)), some (.inl v2), none] pn_X0 (Nat.le_of_ble_eq_true rfl) rfl (tX0_tire_0 g v2 h)
set_option maxRecDepth 100000 in
theorem tX0_tire_2 {l : Launch} {d : Nat} {Q : vx_M → Prop} (g : vx_M) (v2 v3 : Int) (h : (((g 1 5) ≤ v3 → Q g) ∧ (¬ (g 1 5) ≤ v3 → (0 ≤ v3 ∧ v3 < 7) ∧ (0 ≤ v3 ∧ v3 < 7) ∧ vx_in ((g 38 v3) + (g 37 v3)) ∧ (0 ≤ v3 ∧ v3 < 7) ∧ ((¬ (g 36 5) = (-1) → vx_in (v3 + 1) ∧ vN l mX0_tire d (vx_pv SH Q) SH (vx_u g 38 v3 ((g 38 v3) + (g 37 v3))) 2 [some (.inr (some 36)), some (.inr (some 39)), some (.inl v2), some (.inl (v3 + 1))] []) ∧ ((g 36 5) = (-1) → (0 ≤ v3 ∧ v3 < 7) ∧ (0 ≤ v3 ∧ v3 < 7) ∧ (0 ≤ g 39 v3 ∧ g 39 v3 < 8) ∧ vx_in (8 * (g 18 (g 39 v3))) ∧ ((((vx_u g 38 v3 ((g 38 v3) + (g 37 v3))) 38 v3) ≤ (8 * (g 18 (g 39 v3))) → vx_in (v3 + 1) ∧ vN l mX0_tire d (vx_pv SH Q) SH (vx_u g 38 v3 ((g 38 v3) + (g 37 v3))) 2 [some (.inr (some 36)), some (.inr (some 39)), some (.inl v2), some (.inl (v3 + 1))] []) ∧ (¬ ((vx_u g 38 v3 ((g 38 v3) + (g 37 v3))) 38 v3) ≤ (8 * (g 18 (g 39 v3))) → vx_in (v3 + 1) ∧ vN l mX0_tire d (vx_pv SH Q) SH (vx_u (vx_u (vx_u g 38 v3 ((g 38 v3) + (g 37 v3))) 36 5 v2) 36 6 v3) 2 [some (.inr (some 36)), some (.inr (some 39)), some (.inl v2), some (.inl (v3 + 1))] []))))))) : vN l mX0_tire d (vx_pv SH Q) SH g 2 [some (.inr (some 36)), some (.inr (some 39)), some (.inl v2), some (.inl v3)] [] := by
  refine vr_iload_n 3 dX0_tire_2 rfl rfl rfl ?_
  refine vr_aload_n 4 dX0_tire_3 rfl rfl rfl ?_
  refine vr_getr 7 0 cl_X0 fl_X0_25 (by decide) dX0_tire_4 rfl s_36 rfl ?_
  refine vr_geti 10 5 5 cl_X4 fl_X0_37 (by decide) rfl dX0_tire_7 rfl s_1 rfl ?_
  refine vr_icmp_ge 75 13 dX0_tire_10 rfl rfl (fun c => ?_) (fun c => ?_)
  · replace h := h.1 c
    exact vr_vret rfl (Nat.le_refl _) (Nat.le_refl _) dX0_tire_75 ⟨rfl, rfl, h⟩
  · replace h := h.2 c
    refine vr_aload_n 14 dX0_tire_13 rfl rfl rfl ?_
    refine vr_getr 17 4 cl_X0 fl_X0_15 (by decide) dX0_tire_14 rfl s_36 rfl ?_
    refine vr_iload_n 18 dX0_tire_17 rfl rfl rfl ?_
    refine vr_dup2 19 dX0_tire_18 rfl ?_
    obtain ⟨o1, h⟩ := h
    refine vr_iald 20 dX0_tire_19 rfl s_38 o1.1 o1.2 ?_
    refine vr_aload_n 21 dX0_tire_20 rfl rfl rfl ?_
    refine vr_getr 24 3 cl_X0 fl_X0_9 (by decide) dX0_tire_21 rfl s_36 rfl ?_
    refine vr_iload_n 25 dX0_tire_24 rfl rfl rfl ?_
    obtain ⟨o2, h⟩ := h
    refine vr_iald 26 dX0_tire_25 rfl s_37 o2.1 o2.2 ?_
    obtain ⟨o3, h⟩ := h
    refine vr_iadd 27 dX0_tire_26 rfl o3 ?_
    obtain ⟨o4, h⟩ := h
    refine vr_iast 28 dX0_tire_27 rfl s_38 o4.1 o4.2 ?_
    refine vr_aload_n 29 dX0_tire_28 rfl rfl rfl ?_
    refine vr_geti 32 5 5 cl_X0 fl_X0_18 (by decide) rfl dX0_tire_29 rfl s_36 rfl ?_
    refine vr_iconst 33 dX0_tire_32 rfl ⟨by decide, by decide⟩ ?_
    refine vr_icmp_ne 69 36 dX0_tire_33 rfl rfl (fun c => ?_) (fun c => ?_)
    · replace h := h.1 c
      obtain ⟨o5, h⟩ := h
      refine vr_iinc 72 [some (.inr (some 36)), some (.inr (some 39)), some (.inl v2), some (.inl (v3 + 1))] dX0_tire_69 rfl rfl o5 (by decide) rfl ?_
      refine vr_goto 2 dX0_tire_72 rfl ?_
      exact h
    · replace h := h.2 c
      refine vr_aload_n 37 dX0_tire_36 rfl rfl rfl ?_
      refine vr_getr 40 4 cl_X0 fl_X0_15 (by decide) dX0_tire_37 rfl s_36 rfl ?_
      refine vr_iload_n 41 dX0_tire_40 rfl rfl rfl ?_
      obtain ⟨o6, h⟩ := h
      refine vr_iald 42 dX0_tire_41 rfl s_38 o6.1 o6.2 ?_
      refine vr_bipush 44 dX0_tire_42 rfl (by decide) ⟨by decide, by decide⟩ ?_
      refine vr_aload_n 45 dX0_tire_44 rfl rfl rfl ?_
      refine vr_getr 48 1 cl_X0 fl_X0_29 (by decide) dX0_tire_45 rfl s_36 rfl ?_
      refine vr_getr 51 4 cl_X1 fl_X0_68 (by decide) dX0_tire_48 rfl s_13 rfl ?_
      refine vr_aload_n 52 dX0_tire_51 rfl rfl rfl ?_
      refine vr_iload_n 53 dX0_tire_52 rfl rfl rfl ?_
      obtain ⟨o7, h⟩ := h
      refine vr_iald 54 dX0_tire_53 rfl s_39 o7.1 o7.2 ?_
      obtain ⟨o8, h⟩ := h
      refine vr_iald 55 dX0_tire_54 rfl s_18 o8.1 o8.2 ?_
      obtain ⟨o9, h⟩ := h
      refine vr_imul 56 dX0_tire_55 rfl o9 ?_
      refine vr_icmp_le 69 59 dX0_tire_56 rfl rfl (fun c => ?_) (fun c => ?_)
      · replace h := h.1 c
        obtain ⟨o10, h⟩ := h
        refine vr_iinc 72 [some (.inr (some 36)), some (.inr (some 39)), some (.inl v2), some (.inl (v3 + 1))] dX0_tire_69 rfl rfl o10 (by decide) rfl ?_
        refine vr_goto 2 dX0_tire_72 rfl ?_
        exact h
      · replace h := h.2 c
        refine vr_aload_n 60 dX0_tire_59 rfl rfl rfl ?_
        refine vr_iload_n 61 dX0_tire_60 rfl rfl rfl ?_
        refine vr_puti 64 5 5 cl_X0 fl_X0_18 (by decide) rfl rfl rfl dX0_tire_61 rfl s_36 rfl ?_
        refine vr_aload_n 65 dX0_tire_64 rfl rfl rfl ?_
        refine vr_iload_n 66 dX0_tire_65 rfl rfl rfl ?_
        refine vr_puti 69 6 6 cl_X0 fl_X0_22 (by decide) rfl rfl rfl dX0_tire_66 rfl s_36 rfl ?_
        obtain ⟨o11, h⟩ := h
        refine vr_iinc 72 [some (.inr (some 36)), some (.inr (some 39)), some (.inl v2), some (.inl (v3 + 1))] dX0_tire_69 rfl rfl o11 (by decide) rfl ?_
        refine vr_goto 2 dX0_tire_72 rfl ?_
        exact h
end
section
set_option maxRecDepth 100000 in
theorem tX3_countFitting_0 {l : Launch} {d : Nat} {Q : Int → vx_M → Prop} (g : vx_M) (h : (∃ Q1 : vx_M → Prop, vNv l mX3_start d [.inr (some 21), .inl 1, .inl 0] SH g Q1 ∧ ∀ g1 : vx_M, Q1 g1 → Q (g1 21 12) g1)) : vN l mX3_countFitting (d + 1) (vx_pi SH Q) SH g 0 [some (.inr (some 21))] [] := by
  refine vr_aload_n 1 dX3_countFitting_0 rfl rfl rfl ?_
  refine vr_iconst 2 dX3_countFitting_1 rfl ⟨by decide, by decide⟩ ?_
  refine vr_iconst 3 dX3_countFitting_2 rfl ⟨by decide, by decide⟩ ?_
  obtain ⟨Q1, hq, h⟩ := h
  refine vr_callVv 6 [.inl 1, .inl 0] 21 [] dX3_countFitting_3 rfl mc_X3_59 dn_X3_start rfl rfl s_21 rfl (Nat.le_of_ble_eq_true rfl) (vx_rmR (by decide)) ⟨rfl, rfl⟩ ⟨Nat.le_refl _, Nat.le_refl _⟩ (fun _ _ => trivial) (fun _ _ => trivial) hq (fun sh9 g1 hp _ => ?_)
  obtain ⟨e9, -, hp⟩ := hp
  subst e9
  replace h := h g1 hp
  refine vr_aload_n 7 dX3_countFitting_6 rfl rfl rfl ?_
  refine vr_geti 10 12 12 cl_X3 fl_X3_44 (by decide) rfl dX3_countFitting_7 rfl s_21 rfl ?_
  exact vr_iret rfl (Nat.le_refl _) (Nat.le_refl _) dX3_countFitting_10 ⟨rfl, _, rfl, h⟩
theorem kX3_countFitting {l : Launch} {d : Nat} {Q : Int → vx_M → Prop} (g : vx_M) (h : (∃ Q1 : vx_M → Prop, vNv l mX3_start d [.inr (some 21), .inl 1, .inl 0] SH g Q1 ∧ ∀ g1 : vx_M, Q1 g1 → Q (g1 21 12) g1)) : vNi l mX3_countFitting (d + 1) [.inr (some 21)] SH g Q := vNi_of [some (.inr (some 21))] pn_X3 (Nat.le_of_ble_eq_true rfl) rfl (tX3_countFitting_0 g  h)
set_option maxRecDepth 100000 in
theorem tX3_seekLevel_0 {l : Launch} {d : Nat} {Q : Int → vx_M → Prop} (g : vx_M) (h : (∃ Q1 : vx_M → Prop, vNv l mX3_start d [.inr (some 21), .inl 0, .inl 0] SH g Q1 ∧ ∀ g1 : vx_M, Q1 g1 → (((g1 21 12) ≤ 0 → Q 0 g1) ∧ (¬ (g1 21 12) ≤ 0 → Q 1 g1)))) : vN l mX3_seekLevel (d + 1) (vx_pi SH Q) SH g 0 [some (.inr (some 21))] [] := by
  refine vr_aload_n 1 dX3_seekLevel_0 rfl rfl rfl ?_
  refine vr_iconst 2 dX3_seekLevel_1 rfl ⟨by decide, by decide⟩ ?_
  refine vr_iconst 3 dX3_seekLevel_2 rfl ⟨by decide, by decide⟩ ?_
  obtain ⟨Q1, hq, h⟩ := h
  refine vr_callVv 6 [.inl 0, .inl 0] 21 [] dX3_seekLevel_3 rfl mc_X3_59 dn_X3_start rfl rfl s_21 rfl (Nat.le_of_ble_eq_true rfl) (vx_rmR (by decide)) ⟨rfl, rfl⟩ ⟨Nat.le_refl _, Nat.le_refl _⟩ (fun _ _ => trivial) (fun _ _ => trivial) hq (fun sh9 g1 hp _ => ?_)
  obtain ⟨e9, -, hp⟩ := hp
  subst e9
  replace h := h g1 hp
  refine vr_aload_n 7 dX3_seekLevel_6 rfl rfl rfl ?_
  refine vr_geti 10 12 12 cl_X3 fl_X3_44 (by decide) rfl dX3_seekLevel_7 rfl s_21 rfl ?_
  refine vr_if_le 17 13 dX3_seekLevel_10 rfl rfl (fun c => ?_) (fun c => ?_)
  · replace h := h.1 c
    refine vr_iconst 18 dX3_seekLevel_17 rfl ⟨by decide, by decide⟩ ?_
    exact vr_zret rfl (Nat.le_refl _) (Nat.le_refl _) dX3_seekLevel_18 (by decide) ⟨rfl, _, rfl, h⟩
  · replace h := h.2 c
    refine vr_iconst 14 dX3_seekLevel_13 rfl ⟨by decide, by decide⟩ ?_
    refine vr_goto 18 dX3_seekLevel_14 rfl ?_
    exact vr_zret rfl (Nat.le_refl _) (Nat.le_refl _) dX3_seekLevel_18 (by decide) ⟨rfl, _, rfl, h⟩
theorem kX3_seekLevel {l : Launch} {d : Nat} {Q : Int → vx_M → Prop} (g : vx_M) (h : (∃ Q1 : vx_M → Prop, vNv l mX3_start d [.inr (some 21), .inl 0, .inl 0] SH g Q1 ∧ ∀ g1 : vx_M, Q1 g1 → (((g1 21 12) ≤ 0 → Q 0 g1) ∧ (¬ (g1 21 12) ≤ 0 → Q 1 g1)))) : vNi l mX3_seekLevel (d + 1) [.inr (some 21)] SH g Q := vNi_of [some (.inr (some 21))] pn_X3 (Nat.le_of_ble_eq_true rfl) rfl (tX3_seekLevel_0 g  h)
set_option maxRecDepth 100000 in
theorem tX3_seekClose_0 {l : Launch} {d : Nat} {Q : Int → vx_M → Prop} (g : vx_M) (h : (∃ Q1 : vx_M → Prop, vNv l mX3_start d [.inr (some 21), .inl 0, .inl 1000] SH (vx_cp g 39 34 0 0 7) Q1 ∧ ∀ g1 : vx_M, Q1 g1 → (((g1 21 12) ≤ 0 → Q 0 g1) ∧ (¬ (g1 21 12) ≤ 0 → Q 1 g1)))) : vN l mX3_seekClose (d + 1) (vx_pi SH Q) SH g 0 [some (.inr (some 21)), some (.inr (some 39))] [] := by
  refine vr_aload_n 1 dX3_seekClose_0 rfl rfl rfl ?_
  refine vr_iconst 2 dX3_seekClose_1 rfl ⟨by decide, by decide⟩ ?_
  refine vr_aload_n 3 dX3_seekClose_2 rfl rfl rfl ?_
  refine vr_getr 6 7 cl_X3 fl_X3_27 (by decide) dX3_seekClose_3 rfl s_21 rfl ?_
  refine vr_iconst 7 dX3_seekClose_6 rfl ⟨by decide, by decide⟩ ?_
  refine vr_bipush 9 dX3_seekClose_7 rfl (by decide) ⟨by decide, by decide⟩ ?_
  refine vr_acopy 12 dX3_seekClose_9 rfl mc_X3_63 ac_1 ac_2 ac_3 s_39 s_34 (by decide) (by decide) (by decide) (by decide) (by decide) (by show 1 ≤ d + 1; omega) (by show _ + (7 + 11) ≤ 40 * (d + 1); simp only [List.length_cons, List.length_nil]; omega) ?_
  refine vr_aload_n 13 dX3_seekClose_12 rfl rfl rfl ?_
  refine vr_iconst 14 dX3_seekClose_13 rfl ⟨by decide, by decide⟩ ?_
  refine vr_sipush 17 dX3_seekClose_14 rfl (by decide) ⟨by decide, by decide⟩ ?_
  obtain ⟨Q1, hq, h⟩ := h
  refine vr_callVv 20 [.inl 0, .inl 1000] 21 [] dX3_seekClose_17 rfl mc_X3_59 dn_X3_start rfl rfl s_21 rfl (Nat.le_of_ble_eq_true rfl) (vx_rmR (by decide)) ⟨rfl, rfl⟩ ⟨Nat.le_refl _, Nat.le_refl _⟩ (fun _ _ => trivial) (fun _ _ => trivial) hq (fun sh9 g1 hp _ => ?_)
  obtain ⟨e9, -, hp⟩ := hp
  subst e9
  replace h := h g1 hp
  refine vr_aload_n 21 dX3_seekClose_20 rfl rfl rfl ?_
  refine vr_geti 24 12 12 cl_X3 fl_X3_44 (by decide) rfl dX3_seekClose_21 rfl s_21 rfl ?_
  refine vr_if_le 31 27 dX3_seekClose_24 rfl rfl (fun c => ?_) (fun c => ?_)
  · replace h := h.1 c
    refine vr_iconst 32 dX3_seekClose_31 rfl ⟨by decide, by decide⟩ ?_
    exact vr_zret rfl (Nat.le_refl _) (Nat.le_refl _) dX3_seekClose_32 (by decide) ⟨rfl, _, rfl, h⟩
  · replace h := h.2 c
    refine vr_iconst 28 dX3_seekClose_27 rfl ⟨by decide, by decide⟩ ?_
    refine vr_goto 32 dX3_seekClose_28 rfl ?_
    exact vr_zret rfl (Nat.le_refl _) (Nat.le_refl _) dX3_seekClose_32 (by decide) ⟨rfl, _, rfl, h⟩
theorem kX3_seekClose {l : Launch} {d : Nat} {Q : Int → vx_M → Prop} (g : vx_M) (h : (∃ Q1 : vx_M → Prop, vNv l mX3_start d [.inr (some 21), .inl 0, .inl 1000] SH (vx_cp g 39 34 0 0 7) Q1 ∧ ∀ g1 : vx_M, Q1 g1 → (((g1 21 12) ≤ 0 → Q 0 g1) ∧ (¬ (g1 21 12) ≤ 0 → Q 1 g1)))) : vNi l mX3_seekClose (d + 1) [.inr (some 21), .inr (some 39)] SH g Q := vNi_of [some (.inr (some 21)), some (.inr (some 39))] pn_X3 (Nat.le_of_ble_eq_true rfl) rfl (tX3_seekClose_0 g  h)
set_option maxRecDepth 100000 in
theorem tX3_uneven_0 {l : Launch} {d : Nat} {Q : Int → vx_M → Prop} (g : vx_M) (h : (0 ≤ (g 21 11)) ∧ Q ((g 21 11) % 1000) g) : vN l mX3_uneven d (vx_pi SH Q) SH g 0 [some (.inr (some 21))] [] := by
  refine vr_aload_n 1 dX3_uneven_0 rfl rfl rfl ?_
  refine vr_geti 4 11 11 cl_X3 fl_X3_41 (by decide) rfl dX3_uneven_1 rfl s_21 rfl ?_
  refine vr_sipush 7 dX3_uneven_4 rfl (by decide) ⟨by decide, by decide⟩ ?_
  obtain ⟨o1, h⟩ := h
  refine vr_irem 8 dX3_uneven_7 rfl o1 (by decide) ?_
  exact vr_iret rfl (Nat.le_refl _) (Nat.le_refl _) dX3_uneven_8 ⟨rfl, _, rfl, h⟩
theorem kX3_uneven {l : Launch} {d : Nat} {Q : Int → vx_M → Prop} (g : vx_M) (h : (0 ≤ (g 21 11)) ∧ Q ((g 21 11) % 1000) g) : vNi l mX3_uneven d [.inr (some 21)] SH g Q := vNi_of [some (.inr (some 21))] pn_X3 (Nat.le_of_ble_eq_true rfl) rfl (tX3_uneven_0 g  h)
set_option maxRecDepth 100000 in
theorem tX3_moves_0 {l : Launch} {d : Nat} {Q : Int → vx_M → Prop} (g : vx_M) (h : (0 ≤ (g 21 11)) ∧ Q ((g 21 11) / 1000) g) : vN l mX3_moves d (vx_pi SH Q) SH g 0 [some (.inr (some 21))] [] := by
  refine vr_aload_n 1 dX3_moves_0 rfl rfl rfl ?_
  refine vr_geti 4 11 11 cl_X3 fl_X3_41 (by decide) rfl dX3_moves_1 rfl s_21 rfl ?_
  refine vr_sipush 7 dX3_moves_4 rfl (by decide) ⟨by decide, by decide⟩ ?_
  obtain ⟨o1, h⟩ := h
  refine vr_idiv 8 dX3_moves_7 rfl o1 (by decide) ?_
  exact vr_iret rfl (Nat.le_refl _) (Nat.le_refl _) dX3_moves_8 ⟨rfl, _, rfl, h⟩
theorem kX3_moves {l : Launch} {d : Nat} {Q : Int → vx_M → Prop} (g : vx_M) (h : (0 ≤ (g 21 11)) ∧ Q ((g 21 11) / 1000) g) : vNi l mX3_moves d [.inr (some 21)] SH g Q := vNi_of [some (.inr (some 21))] pn_X3 (Nat.le_of_ble_eq_true rfl) rfl (tX3_moves_0 g  h)
set_option maxRecDepth 100000 in
theorem tX3_start_0 {l : Launch} {d : Nat} {Q : vx_M → Prop} (g : vx_M) (v1 v2 : Int) (h : (v1 = 0 ∨ v1 = 1) ∧ (∃ Q2 : vx_M → Prop, vNv l mX3_walk d [.inr (some 21), .inl 0, .inl 0, .inl 0, .inl 0] SH (vx_u (vx_u (vx_u (vx_u g 21 9 v1) 21 10 v2) 21 11 2147483647) 21 12 0) Q2 ∧ ∀ g2 : vx_M, Q2 g2 → Q g2)) : vN l mX3_start (d + 1) (vx_pv SH Q) SH g 0 [some (.inr (some 21)), some (.inl v1), some (.inl v2)] [] := by
  refine vr_aload_n 1 dX3_start_0 rfl rfl rfl ?_
  refine vr_iload_n 2 dX3_start_1 rfl rfl rfl ?_
  obtain ⟨o1, h⟩ := h
  refine vr_putz 5 9 9 cl_X3 fl_X3_33 (by decide) rfl rfl rfl o1 dX3_start_2 rfl s_21 rfl ?_
  refine vr_aload_n 6 dX3_start_5 rfl rfl rfl ?_
  refine vr_iload_n 7 dX3_start_6 rfl rfl rfl ?_
  refine vr_puti 10 10 10 cl_X3 fl_X3_37 (by decide) rfl rfl rfl dX3_start_7 rfl s_21 rfl ?_
  refine vr_aload_n 11 dX3_start_10 rfl rfl rfl ?_
  refine vr_ldc 13 2147483647 dX3_start_11 rfl ct_max ⟨by decide, by decide⟩ ?_
  refine vr_puti 16 11 11 cl_X3 fl_X3_41 (by decide) rfl rfl rfl dX3_start_13 rfl s_21 rfl ?_
  refine vr_aload_n 17 dX3_start_16 rfl rfl rfl ?_
  refine vr_iconst 18 dX3_start_17 rfl ⟨by decide, by decide⟩ ?_
  refine vr_puti 21 12 12 cl_X3 fl_X3_44 (by decide) rfl rfl rfl dX3_start_18 rfl s_21 rfl ?_
  refine vr_aload_n 22 dX3_start_21 rfl rfl rfl ?_
  refine vr_iconst 23 dX3_start_22 rfl ⟨by decide, by decide⟩ ?_
  refine vr_iconst 24 dX3_start_23 rfl ⟨by decide, by decide⟩ ?_
  refine vr_iconst 25 dX3_start_24 rfl ⟨by decide, by decide⟩ ?_
  refine vr_iconst 26 dX3_start_25 rfl ⟨by decide, by decide⟩ ?_
  obtain ⟨Q2, hq, h⟩ := h
  refine vr_callVv 29 [.inl 0, .inl 0, .inl 0, .inl 0] 21 [] dX3_start_26 rfl mc_X3_72 dn_X3_walk rfl rfl s_21 rfl (Nat.le_of_ble_eq_true rfl) (vx_rmR (by decide)) ⟨rfl, rfl⟩ ⟨Nat.le_refl _, Nat.le_refl _⟩ (fun _ _ => trivial) (fun _ _ => trivial) hq (fun sh9 g2 hp _ => ?_)
  obtain ⟨e9, -, hp⟩ := hp
  subst e9
  replace h := h g2 hp
  exact vr_vret rfl (Nat.le_refl _) (Nat.le_refl _) dX3_start_29 ⟨rfl, rfl, h⟩
theorem kX3_start {l : Launch} {d : Nat} {Q : vx_M → Prop} (g : vx_M) (v1 v2 : Int) (h : (v1 = 0 ∨ v1 = 1) ∧ (∃ Q2 : vx_M → Prop, vNv l mX3_walk d [.inr (some 21), .inl 0, .inl 0, .inl 0, .inl 0] SH (vx_u (vx_u (vx_u (vx_u g 21 9 v1) 21 10 v2) 21 11 2147483647) 21 12 0) Q2 ∧ ∀ g2 : vx_M, Q2 g2 → Q g2)) : vNv l mX3_start (d + 1) [.inr (some 21), .inl v1, .inl v2] SH g Q := vNv_of [some (.inr (some 21)), some (.inl v1), some (.inl v2)] pn_X3 (Nat.le_of_ble_eq_true rfl) rfl (tX3_start_0 g v1 v2 h)
set_option maxRecDepth 100000 in
theorem tX3_walk_0 {l : Launch} {d : Nat} {Q : vx_M → Prop} (g : vx_M) (v1 v2 v3 v4 : Int) (h : ((v1 < (g 1 5) → (0 ≤ v1 ∧ v1 < 7) ∧ (0 ≤ g 4 v1 ∧ g 4 v1 < 4) ∧ ((¬ v1 = (g 3 (g 4 v1)) → vN l mX3_walk (d + 1) (vx_pv SH Q) SH g 53 [some (.inr (some 21)), some (.inl v1), some (.inl v2), some (.inl v3), some (.inl v4), some (.inl (g 4 v1)), some (.inl 0), some (.inl 0), none, none, none, none, none] []) ∧ (v1 = (g 3 (g 4 v1)) → vN l mX3_walk (d + 1) (vx_pv SH Q) SH g 53 [some (.inr (some 21)), some (.inl v1), some (.inl v2), some (.inl v3), some (.inl v4), some (.inl (g 4 v1)), some (.inl 1), some (.inl 0), none, none, none, none, none] []))) ∧ (¬ v1 < (g 1 5) → (∃ Q3 : vx_M → Prop, vNv l mX3_arrive d [.inr (some 21), .inl v4] SH g Q3 ∧ ∀ g3 : vx_M, Q3 g3 → Q g3)))) : vN l mX3_walk (d + 1) (vx_pv SH Q) SH g 0 [some (.inr (some 21)), some (.inl v1), some (.inl v2), some (.inl v3), some (.inl v4), none, none, none, none, none, none, none, none] [] := by
  refine vr_iload_n 1 dX3_walk_0 rfl rfl rfl ?_
  refine vr_aload_n 2 dX3_walk_1 rfl rfl rfl ?_
  refine vr_getr 5 0 cl_X3 fl_X3_47 (by decide) dX3_walk_2 rfl s_21 rfl ?_
  refine vr_geti 8 5 5 cl_X4 fl_X3_76 (by decide) rfl dX3_walk_5 rfl s_1 rfl ?_
  refine vr_icmp_lt 18 11 dX3_walk_8 rfl rfl (fun c => ?_) (fun c => ?_)
  · replace h := h.1 c
    refine vr_aload_n 19 dX3_walk_18 rfl rfl rfl ?_
    refine vr_getr 22 0 cl_X3 fl_X3_47 (by decide) dX3_walk_19 rfl s_21 rfl ?_
    refine vr_getr 25 2 cl_X4 fl_X3_85 (by decide) dX3_walk_22 rfl s_1 rfl ?_
    refine vr_iload_n 26 dX3_walk_25 rfl rfl rfl ?_
    obtain ⟨o1, h⟩ := h
    refine vr_iald 27 dX3_walk_26 rfl s_4 o1.1 o1.2 ?_
    refine vr_istore 29 [some (.inr (some 21)), some (.inl v1), some (.inl v2), some (.inl v3), some (.inl v4), some (.inl (g 4 v1)), none, none, none, none, none, none, none] dX3_walk_27 rfl (by decide) rfl ?_
    refine vr_iload_n 30 dX3_walk_29 rfl rfl rfl ?_
    refine vr_aload_n 31 dX3_walk_30 rfl rfl rfl ?_
    refine vr_getr 34 0 cl_X3 fl_X3_47 (by decide) dX3_walk_31 rfl s_21 rfl ?_
    refine vr_getr 37 1 cl_X4 fl_X3_88 (by decide) dX3_walk_34 rfl s_1 rfl ?_
    refine vr_iload 39 dX3_walk_37 rfl rfl ?_
    obtain ⟨o2, h⟩ := h
    refine vr_iald 40 dX3_walk_39 rfl s_3 o2.1 o2.2 ?_
    refine vr_icmp_ne 47 43 dX3_walk_40 rfl rfl (fun c => ?_) (fun c => ?_)
    · replace h := h.1 c
      refine vr_iconst 48 dX3_walk_47 rfl ⟨by decide, by decide⟩ ?_
      refine vr_istore 50 [some (.inr (some 21)), some (.inl v1), some (.inl v2), some (.inl v3), some (.inl v4), some (.inl (g 4 v1)), some (.inl 0), none, none, none, none, none, none] dX3_walk_48 rfl (by decide) rfl ?_
      refine vr_iconst 51 dX3_walk_50 rfl ⟨by decide, by decide⟩ ?_
      refine vr_istore 53 [some (.inr (some 21)), some (.inl v1), some (.inl v2), some (.inl v3), some (.inl v4), some (.inl (g 4 v1)), some (.inl 0), some (.inl 0), none, none, none, none, none] dX3_walk_51 rfl (by decide) rfl ?_
      exact h
    · replace h := h.2 c
      refine vr_iconst 44 dX3_walk_43 rfl ⟨by decide, by decide⟩ ?_
      refine vr_goto 48 dX3_walk_44 rfl ?_
      refine vr_istore 50 [some (.inr (some 21)), some (.inl v1), some (.inl v2), some (.inl v3), some (.inl v4), some (.inl (g 4 v1)), some (.inl 1), none, none, none, none, none, none] dX3_walk_48 rfl (by decide) rfl ?_
      refine vr_iconst 51 dX3_walk_50 rfl ⟨by decide, by decide⟩ ?_
      refine vr_istore 53 [some (.inr (some 21)), some (.inl v1), some (.inl v2), some (.inl v3), some (.inl v4), some (.inl (g 4 v1)), some (.inl 1), some (.inl 0), none, none, none, none, none] dX3_walk_51 rfl (by decide) rfl ?_
      exact h
  · replace h := h.2 c
    refine vr_aload_n 12 dX3_walk_11 rfl rfl rfl ?_
    refine vr_iload 14 dX3_walk_12 rfl rfl ?_
    obtain ⟨Q3, hq, h⟩ := h
    refine vr_callVv 17 [.inl v4] 21 [] dX3_walk_14 rfl mc_X3_81 dn_X3_arrive rfl rfl s_21 rfl (Nat.le_of_ble_eq_true rfl) (vx_rmR (by decide)) ⟨rfl, rfl⟩ ⟨Nat.le_refl _, Nat.le_refl _⟩ (fun _ _ => trivial) (fun _ _ => trivial) hq (fun sh9 g3 hp _ => ?_)
    obtain ⟨e9, -, hp⟩ := hp
    subst e9
    replace h := h g3 hp
    exact vr_vret rfl (Nat.le_refl _) (Nat.le_refl _) dX3_walk_17 ⟨rfl, rfl, h⟩
theorem kX3_walk {l : Launch} {d : Nat} {Q : vx_M → Prop} (g : vx_M) (v1 v2 v3 v4 : Int) (h : ((v1 < (g 1 5) → (0 ≤ v1 ∧ v1 < 7) ∧ (0 ≤ g 4 v1 ∧ g 4 v1 < 4) ∧ ((¬ v1 = (g 3 (g 4 v1)) → vN l mX3_walk (d + 1) (vx_pv SH Q) SH g 53 [some (.inr (some 21)), some (.inl v1), some (.inl v2), some (.inl v3), some (.inl v4), some (.inl (g 4 v1)), some (.inl 0), some (.inl 0), none, none, none, none, none] []) ∧ (v1 = (g 3 (g 4 v1)) → vN l mX3_walk (d + 1) (vx_pv SH Q) SH g 53 [some (.inr (some 21)), some (.inl v1), some (.inl v2), some (.inl v3), some (.inl v4), some (.inl (g 4 v1)), some (.inl 1), some (.inl 0), none, none, none, none, none] []))) ∧ (¬ v1 < (g 1 5) → (∃ Q3 : vx_M → Prop, vNv l mX3_arrive d [.inr (some 21), .inl v4] SH g Q3 ∧ ∀ g3 : vx_M, Q3 g3 → Q g3)))) : vNv l mX3_walk (d + 1) [.inr (some 21), .inl v1, .inl v2, .inl v3, .inl v4] SH g Q := vNv_of [some (.inr (some 21)), some (.inl v1), some (.inl v2), some (.inl v3), some (.inl v4), none, none, none, none, none, none, none, none] pn_X3 (Nat.le_of_ble_eq_true rfl) rfl (tX3_walk_0 g v1 v2 v3 v4 h)
set_option maxRecDepth 100000 in
theorem tX3_walk_53 {l : Launch} {d : Nat} {Q : vx_M → Prop} (g : vx_M) (v1 v2 v3 v4 v5 v6 v7 : Int) (h : (((g 13 6) ≤ v7 → Q g) ∧ (¬ (g 13 6) ≤ v7 → (0 ≤ v7 ∧ v7 < 8) ∧ ((¬ (g 33 v7) = 0 → vx_in (v7 + 1) ∧ vN l mX3_walk (d + 1) (vx_pv SH Q) SH g 53 [some (.inr (some 21)), some (.inl v1), some (.inl v2), some (.inl v3), some (.inl v4), some (.inl v5), some (.inl v6), some (.inl (v7 + 1)), none, none, none, none, none] []) ∧ ((g 33 v7) = 0 → (∃ Q3 : Int → vx_M → Prop, vNi l mX2_goesTo d [.inr (some 20), .inl v7, .inl v5] SH g Q3 ∧ ∀ (r3 : Int) (g3 : vx_M), Q3 r3 g3 → ((¬ r3 = 0 → (0 ≤ v7 ∧ v7 < 8) ∧ ((v6 = 0 → vN l mX3_walk (d + 1) (vx_pv SH Q) SH g3 120 [some (.inr (some 21)), some (.inl v1), some (.inl v2), some (.inl v3), some (.inl v4), some (.inl v5), some (.inl v6), some (.inl v7), some (.inl (g3 14 v7)), none, none, none, none] [.inl (min v2 (g3 14 v7))]) ∧ (¬ v6 = 0 → vN l mX3_walk (d + 1) (vx_pv SH Q) SH g3 120 [some (.inr (some 21)), some (.inl v1), some (.inl v2), some (.inl v3), some (.inl v4), some (.inl v5), some (.inl v6), some (.inl v7), some (.inl (g3 14 v7)), none, none, none, none] [.inl (g3 14 v7)]))) ∧ (r3 = 0 → vx_in (v7 + 1) ∧ vN l mX3_walk (d + 1) (vx_pv SH Q) SH g3 53 [some (.inr (some 21)), some (.inl v1), some (.inl v2), some (.inl v3), some (.inl v4), some (.inl v5), some (.inl v6), some (.inl (v7 + 1)), none, none, none, none, none] [])))))))) : vN l mX3_walk (d + 1) (vx_pv SH Q) SH g 53 [some (.inr (some 21)), some (.inl v1), some (.inl v2), some (.inl v3), some (.inl v4), some (.inl v5), some (.inl v6), some (.inl v7), none, none, none, none, none] [] := by
  refine vr_iload 55 dX3_walk_53 rfl rfl ?_
  refine vr_aload_n 56 dX3_walk_55 rfl rfl rfl ?_
  refine vr_getr 59 1 cl_X3 fl_X3_51 (by decide) dX3_walk_56 rfl s_21 rfl ?_
  refine vr_geti 62 6 6 cl_X1 fl_X3_91 (by decide) rfl dX3_walk_59 rfl s_13 rfl ?_
  refine vr_icmp_ge 230 65 dX3_walk_62 rfl rfl (fun c => ?_) (fun c => ?_)
  · replace h := h.1 c
    exact vr_vret rfl (Nat.le_refl _) (Nat.le_refl _) dX3_walk_230 ⟨rfl, rfl, h⟩
  · replace h := h.2 c
    refine vr_aload_n 66 dX3_walk_65 rfl rfl rfl ?_
    refine vr_getr 69 6 cl_X3 fl_X3_23 (by decide) dX3_walk_66 rfl s_21 rfl ?_
    refine vr_iload 71 dX3_walk_69 rfl rfl ?_
    obtain ⟨o1, h⟩ := h
    refine vr_zald 72 dX3_walk_71 rfl s_33 o1.1 o1.2 ?_
    refine vr_if_ne 224 75 dX3_walk_72 rfl rfl (fun c => ?_) (fun c => ?_)
    · replace h := h.1 c
      obtain ⟨o2, h⟩ := h
      refine vr_iinc 227 [some (.inr (some 21)), some (.inl v1), some (.inl v2), some (.inl v3), some (.inl v4), some (.inl v5), some (.inl v6), some (.inl (v7 + 1)), none, none, none, none, none] dX3_walk_224 rfl rfl o2 (by decide) rfl ?_
      refine vr_goto 53 dX3_walk_227 rfl ?_
      exact h
    · replace h := h.2 c
      refine vr_aload_n 76 dX3_walk_75 rfl rfl rfl ?_
      refine vr_getr 79 2 cl_X3 fl_X3_55 (by decide) dX3_walk_76 rfl s_21 rfl ?_
      refine vr_iload 81 dX3_walk_79 rfl rfl ?_
      refine vr_iload 83 dX3_walk_81 rfl rfl ?_
      obtain ⟨Q3, hq, h⟩ := h
      refine vr_callVi 86 [.inl v7, .inl v5] 20 [] dX3_walk_83 rfl mc_X3_96 dn_X2_goesTo rfl rfl s_20 rfl (Nat.le_of_ble_eq_true rfl) (vx_rmR (by decide)) ⟨rfl, rfl⟩ ⟨Nat.le_refl _, Nat.le_refl _⟩ (fun _ _ => trivial) (fun _ _ => trivial) hq (fun r3 sh9 g3 hp _ _ => ?_)
      obtain ⟨e9, z9, e8, hp⟩ := hp
      subst e9
      cases e8
      replace h := h r3 g3 hp
      refine vr_if_ne 92 89 dX3_walk_86 rfl rfl (fun c => ?_) (fun c => ?_)
      · replace h := h.1 c
        refine vr_aload_n 93 dX3_walk_92 rfl rfl rfl ?_
        refine vr_getr 96 1 cl_X3 fl_X3_51 (by decide) dX3_walk_93 rfl s_21 rfl ?_
        refine vr_getr 99 0 cl_X1 fl_X3_102 (by decide) dX3_walk_96 rfl s_13 rfl ?_
        refine vr_iload 101 dX3_walk_99 rfl rfl ?_
        obtain ⟨o4, h⟩ := h
        refine vr_iald 102 dX3_walk_101 rfl s_14 o4.1 o4.2 ?_
        refine vr_istore 104 [some (.inr (some 21)), some (.inl v1), some (.inl v2), some (.inl v3), some (.inl v4), some (.inl v5), some (.inl v6), some (.inl v7), some (.inl (g3 14 v7)), none, none, none, none] dX3_walk_102 rfl (by decide) rfl ?_
        refine vr_iload 106 dX3_walk_104 rfl rfl ?_
        refine vr_if_eq 114 109 dX3_walk_106 rfl rfl (fun c => ?_) (fun c => ?_)
        · replace h := h.1 c
          refine vr_iload_n 115 dX3_walk_114 rfl rfl rfl ?_
          refine vr_iload 117 dX3_walk_115 rfl rfl ?_
          refine vr_mmin 120 dX3_walk_117 rfl mc_X3_105 ma_min_1 ma_ini ma_min_2 (by show 1 ≤ d + 1; omega) (by show _ + 13 ≤ 40 * (d + 1); simp only [List.length_cons, List.length_nil]; omega) ⟨Nat.le_refl _, Nat.le_refl _⟩ ?_
          exact h
        · replace h := h.2 c
          refine vr_iload 111 dX3_walk_109 rfl rfl ?_
          refine vr_goto 120 dX3_walk_111 rfl ?_
          exact h
      · replace h := h.2 c
        refine vr_goto 224 dX3_walk_89 rfl ?_
        obtain ⟨o5, h⟩ := h
        refine vr_iinc 227 [some (.inr (some 21)), some (.inl v1), some (.inl v2), some (.inl v3), some (.inl v4), some (.inl v5), some (.inl v6), some (.inl (v7 + 1)), none, none, none, none, none] dX3_walk_224 rfl rfl o5 (by decide) rfl ?_
        refine vr_goto 53 dX3_walk_227 rfl ?_
        exact h
set_option maxRecDepth 100000 in
theorem tX3_walk_120 {l : Launch} {d : Nat} {Q : vx_M → Prop} (g : vx_M) (v1 v2 v3 v4 v5 v6 v7 v8 w0 : Int) (h : ((v6 = 0 → vN l mX3_walk (d + 1) (vx_pv SH Q) SH g 138 [some (.inr (some 21)), some (.inl v1), some (.inl v2), some (.inl v3), some (.inl v4), some (.inl v5), some (.inl v6), some (.inl v7), some (.inl v8), some (.inl w0), none, none, none] [.inl (max v3 v8)]) ∧ (¬ v6 = 0 → vN l mX3_walk (d + 1) (vx_pv SH Q) SH g 138 [some (.inr (some 21)), some (.inl v1), some (.inl v2), some (.inl v3), some (.inl v4), some (.inl v5), some (.inl v6), some (.inl v7), some (.inl v8), some (.inl w0), none, none, none] [.inl v8]))) : vN l mX3_walk (d + 1) (vx_pv SH Q) SH g 120 [some (.inr (some 21)), some (.inl v1), some (.inl v2), some (.inl v3), some (.inl v4), some (.inl v5), some (.inl v6), some (.inl v7), some (.inl v8), none, none, none, none] [.inl w0] := by
  refine vr_istore 122 [some (.inr (some 21)), some (.inl v1), some (.inl v2), some (.inl v3), some (.inl v4), some (.inl v5), some (.inl v6), some (.inl v7), some (.inl v8), some (.inl w0), none, none, none] dX3_walk_120 rfl (by decide) rfl ?_
  refine vr_iload 124 dX3_walk_122 rfl rfl ?_
  refine vr_if_eq 132 127 dX3_walk_124 rfl rfl (fun c => ?_) (fun c => ?_)
  · replace h := h.1 c
    refine vr_iload_n 133 dX3_walk_132 rfl rfl rfl ?_
    refine vr_iload 135 dX3_walk_133 rfl rfl ?_
    refine vr_mmax 138 dX3_walk_135 rfl mc_X3_111 ma_max_1 ma_ini ma_max_2 (by show 1 ≤ d + 1; omega) (by show _ + 13 ≤ 40 * (d + 1); simp only [List.length_cons, List.length_nil]; omega) ⟨Nat.le_refl _, Nat.le_refl _⟩ ?_
    exact h
  · replace h := h.2 c
    refine vr_iload 129 dX3_walk_127 rfl rfl ?_
    refine vr_goto 138 dX3_walk_129 rfl ?_
    exact h
set_option maxRecDepth 100000 in
theorem tX3_walk_138 {l : Launch} {d : Nat} {Q : vx_M → Prop} (g : vx_M) (v1 v2 v3 v4 v5 v6 v7 v8 v9 w0 : Int) (h : ((v6 = 0 → vx_in (w0 - v9) ∧ vx_in (v3 - v2) ∧ vx_in ((w0 - v9) - (v3 - v2)) ∧ vN l mX3_walk (d + 1) (vx_pv SH Q) SH g 158 [some (.inr (some 21)), some (.inl v1), some (.inl v2), some (.inl v3), some (.inl v4), some (.inl v5), some (.inl v6), some (.inl v7), some (.inl v8), some (.inl v9), some (.inl w0), none, none] [.inl ((w0 - v9) - (v3 - v2))]) ∧ (¬ v6 = 0 → vN l mX3_walk (d + 1) (vx_pv SH Q) SH g 158 [some (.inr (some 21)), some (.inl v1), some (.inl v2), some (.inl v3), some (.inl v4), some (.inl v5), some (.inl v6), some (.inl v7), some (.inl v8), some (.inl v9), some (.inl w0), none, none] [.inl 0]))) : vN l mX3_walk (d + 1) (vx_pv SH Q) SH g 138 [some (.inr (some 21)), some (.inl v1), some (.inl v2), some (.inl v3), some (.inl v4), some (.inl v5), some (.inl v6), some (.inl v7), some (.inl v8), some (.inl v9), none, none, none] [.inl w0] := by
  refine vr_istore 140 [some (.inr (some 21)), some (.inl v1), some (.inl v2), some (.inl v3), some (.inl v4), some (.inl v5), some (.inl v6), some (.inl v7), some (.inl v8), some (.inl v9), some (.inl w0), none, none] dX3_walk_138 rfl (by decide) rfl ?_
  refine vr_iload 142 dX3_walk_140 rfl rfl ?_
  refine vr_if_eq 149 145 dX3_walk_142 rfl rfl (fun c => ?_) (fun c => ?_)
  · replace h := h.1 c
    refine vr_iload 151 dX3_walk_149 rfl rfl ?_
    refine vr_iload 153 dX3_walk_151 rfl rfl ?_
    obtain ⟨o1, h⟩ := h
    refine vr_isub 154 dX3_walk_153 rfl o1 ?_
    refine vr_iload_n 155 dX3_walk_154 rfl rfl rfl ?_
    refine vr_iload_n 156 dX3_walk_155 rfl rfl rfl ?_
    obtain ⟨o2, h⟩ := h
    refine vr_isub 157 dX3_walk_156 rfl o2 ?_
    obtain ⟨o3, h⟩ := h
    refine vr_isub 158 dX3_walk_157 rfl o3 ?_
    exact h
  · replace h := h.2 c
    refine vr_iconst 146 dX3_walk_145 rfl ⟨by decide, by decide⟩ ?_
    refine vr_goto 158 dX3_walk_146 rfl ?_
    exact h
set_option maxRecDepth 100000 in
theorem tX3_walk_158 {l : Launch} {d : Nat} {Q : vx_M → Prop} (g : vx_M) (v1 v2 v3 v4 v5 v6 v7 v8 v9 v10 w0 : Int) (h : vx_in (v4 + w0) ∧ (0 ≤ v1 ∧ v1 < 7) ∧ ((¬ v7 = (g 34 v1) → vN l mX3_walk (d + 1) (vx_pv SH Q) SH g 184 [some (.inr (some 21)), some (.inl v1), some (.inl v2), some (.inl v3), some (.inl v4), some (.inl v5), some (.inl v6), some (.inl v7), some (.inl v8), some (.inl v9), some (.inl v10), some (.inl w0), none] [.inl (g 21 10), .inl (v4 + w0)]) ∧ (v7 = (g 34 v1) → vN l mX3_walk (d + 1) (vx_pv SH Q) SH g 184 [some (.inr (some 21)), some (.inl v1), some (.inl v2), some (.inl v3), some (.inl v4), some (.inl v5), some (.inl v6), some (.inl v7), some (.inl v8), some (.inl v9), some (.inl v10), some (.inl w0), none] [.inl 0, .inl (v4 + w0)]))) : vN l mX3_walk (d + 1) (vx_pv SH Q) SH g 158 [some (.inr (some 21)), some (.inl v1), some (.inl v2), some (.inl v3), some (.inl v4), some (.inl v5), some (.inl v6), some (.inl v7), some (.inl v8), some (.inl v9), some (.inl v10), none, none] [.inl w0] := by
  refine vr_istore 160 [some (.inr (some 21)), some (.inl v1), some (.inl v2), some (.inl v3), some (.inl v4), some (.inl v5), some (.inl v6), some (.inl v7), some (.inl v8), some (.inl v9), some (.inl v10), some (.inl w0), none] dX3_walk_158 rfl (by decide) rfl ?_
  refine vr_iload 162 dX3_walk_160 rfl rfl ?_
  refine vr_iload 164 dX3_walk_162 rfl rfl ?_
  obtain ⟨o1, h⟩ := h
  refine vr_iadd 165 dX3_walk_164 rfl o1 ?_
  refine vr_iload 167 dX3_walk_165 rfl rfl ?_
  refine vr_aload_n 168 dX3_walk_167 rfl rfl rfl ?_
  refine vr_getr 171 7 cl_X3 fl_X3_27 (by decide) dX3_walk_168 rfl s_21 rfl ?_
  refine vr_iload_n 172 dX3_walk_171 rfl rfl rfl ?_
  obtain ⟨o2, h⟩ := h
  refine vr_iald 173 dX3_walk_172 rfl s_34 o2.1 o2.2 ?_
  refine vr_icmp_ne 180 176 dX3_walk_173 rfl rfl (fun c => ?_) (fun c => ?_)
  · replace h := h.1 c
    refine vr_aload_n 181 dX3_walk_180 rfl rfl rfl ?_
    refine vr_geti 184 10 10 cl_X3 fl_X3_37 (by decide) rfl dX3_walk_181 rfl s_21 rfl ?_
    exact h
  · replace h := h.2 c
    refine vr_iconst 177 dX3_walk_176 rfl ⟨by decide, by decide⟩ ?_
    refine vr_goto 184 dX3_walk_177 rfl ?_
    exact h
set_option maxRecDepth 100000 in
theorem tX3_walk_184 {l : Launch} {d : Nat} {Q : vx_M → Prop} (g : vx_M) (v1 v2 v3 v4 v5 v6 v7 v8 v9 v10 v11 w0 w1 : Int) (h : vx_in (w1 + w0) ∧ vx_in (v10 - v9) ∧ (((g 20 2) < (v10 - v9) → vx_in (v7 + 1) ∧ vN l mX3_walk (d + 1) (vx_pv SH Q) SH g 53 [some (.inr (some 21)), some (.inl v1), some (.inl v2), some (.inl v3), some (.inl v4), some (.inl v5), some (.inl v6), some (.inl (v7 + 1)), none, none, none, none, none] []) ∧ (¬ (g 20 2) < (v10 - v9) → (((g 21 11) ≤ (w1 + w0) → vx_in (v7 + 1) ∧ vN l mX3_walk (d + 1) (vx_pv SH Q) SH g 53 [some (.inr (some 21)), some (.inl v1), some (.inl v2), some (.inl v3), some (.inl v4), some (.inl v5), some (.inl v6), some (.inl (v7 + 1)), none, none, none, none, none] []) ∧ (¬ (g 21 11) ≤ (w1 + w0) → (∃ Q5 : vx_M → Prop, vNv l mX3_goOnWith d [.inr (some 21), .inl v7, .inl v1, .inl v9, .inl v10, .inl (w1 + w0)] SH g Q5 ∧ ∀ g5 : vx_M, Q5 g5 → vx_in (v7 + 1) ∧ vN l mX3_walk (d + 1) (vx_pv SH Q) SH g5 53 [some (.inr (some 21)), some (.inl v1), some (.inl v2), some (.inl v3), some (.inl v4), some (.inl v5), some (.inl v6), some (.inl (v7 + 1)), none, none, none, none, none] [])))))) : vN l mX3_walk (d + 1) (vx_pv SH Q) SH g 184 [some (.inr (some 21)), some (.inl v1), some (.inl v2), some (.inl v3), some (.inl v4), some (.inl v5), some (.inl v6), some (.inl v7), some (.inl v8), some (.inl v9), some (.inl v10), some (.inl v11), none] [.inl w0, .inl w1] := by
  obtain ⟨o1, h⟩ := h
  refine vr_iadd 185 dX3_walk_184 rfl o1 ?_
  refine vr_istore 187 [some (.inr (some 21)), some (.inl v1), some (.inl v2), some (.inl v3), some (.inl v4), some (.inl v5), some (.inl v6), some (.inl v7), some (.inl v8), some (.inl v9), some (.inl v10), some (.inl v11), some (.inl (w1 + w0))] dX3_walk_185 rfl (by decide) rfl ?_
  refine vr_iload 189 dX3_walk_187 rfl rfl ?_
  refine vr_iload 191 dX3_walk_189 rfl rfl ?_
  obtain ⟨o2, h⟩ := h
  refine vr_isub 192 dX3_walk_191 rfl o2 ?_
  refine vr_aload_n 193 dX3_walk_192 rfl rfl rfl ?_
  refine vr_getr 196 2 cl_X3 fl_X3_55 (by decide) dX3_walk_193 rfl s_21 rfl ?_
  refine vr_geti 199 2 2 cl_X2 fl_X3_114 (by decide) rfl dX3_walk_196 rfl s_20 rfl ?_
  refine vr_icmp_gt 224 202 dX3_walk_199 rfl rfl (fun c => ?_) (fun c => ?_)
  · replace h := h.1 c
    obtain ⟨o3, h⟩ := h
    refine vr_iinc 227 [some (.inr (some 21)), some (.inl v1), some (.inl v2), some (.inl v3), some (.inl v4), some (.inl v5), some (.inl v6), some (.inl (v7 + 1)), some (.inl v8), some (.inl v9), some (.inl v10), some (.inl v11), some (.inl (w1 + w0))] dX3_walk_224 rfl rfl o3 (by decide) rfl ?_
    refine vr_goto 53 dX3_walk_227 rfl ?_
    exact vr_forget [some (.inr (some 21)), some (.inl v1), some (.inl v2), some (.inl v3), some (.inl v4), some (.inl v5), some (.inl v6), some (.inl (v7 + 1)), none, none, none, none, none] (vx_sub.get _ _ ⟨rfl, ⟨rfl, ⟨rfl, ⟨rfl, ⟨rfl, ⟨rfl, ⟨rfl, ⟨rfl, trivial⟩⟩⟩⟩⟩⟩⟩⟩) h
  · replace h := h.2 c
    refine vr_iload 204 dX3_walk_202 rfl rfl ?_
    refine vr_aload_n 205 dX3_walk_204 rfl rfl rfl ?_
    refine vr_geti 208 11 11 cl_X3 fl_X3_41 (by decide) rfl dX3_walk_205 rfl s_21 rfl ?_
    refine vr_icmp_ge 224 211 dX3_walk_208 rfl rfl (fun c => ?_) (fun c => ?_)
    · replace h := h.1 c
      obtain ⟨o4, h⟩ := h
      refine vr_iinc 227 [some (.inr (some 21)), some (.inl v1), some (.inl v2), some (.inl v3), some (.inl v4), some (.inl v5), some (.inl v6), some (.inl (v7 + 1)), some (.inl v8), some (.inl v9), some (.inl v10), some (.inl v11), some (.inl (w1 + w0))] dX3_walk_224 rfl rfl o4 (by decide) rfl ?_
      refine vr_goto 53 dX3_walk_227 rfl ?_
      exact vr_forget [some (.inr (some 21)), some (.inl v1), some (.inl v2), some (.inl v3), some (.inl v4), some (.inl v5), some (.inl v6), some (.inl (v7 + 1)), none, none, none, none, none] (vx_sub.get _ _ ⟨rfl, ⟨rfl, ⟨rfl, ⟨rfl, ⟨rfl, ⟨rfl, ⟨rfl, ⟨rfl, trivial⟩⟩⟩⟩⟩⟩⟩⟩) h
    · replace h := h.2 c
      refine vr_aload_n 212 dX3_walk_211 rfl rfl rfl ?_
      refine vr_iload 214 dX3_walk_212 rfl rfl ?_
      refine vr_iload_n 215 dX3_walk_214 rfl rfl rfl ?_
      refine vr_iload 217 dX3_walk_215 rfl rfl ?_
      refine vr_iload 219 dX3_walk_217 rfl rfl ?_
      refine vr_iload 221 dX3_walk_219 rfl rfl ?_
      obtain ⟨Q5, hq, h⟩ := h
      refine vr_callVv 224 [.inl v7, .inl v1, .inl v9, .inl v10, .inl (w1 + w0)] 21 [] dX3_walk_221 rfl mc_X3_117 dn_X3_goOnWith rfl rfl s_21 rfl (Nat.le_of_ble_eq_true rfl) (vx_rmR (by decide)) ⟨rfl, rfl⟩ ⟨Nat.le_refl _, Nat.le_refl _⟩ (fun _ _ => trivial) (fun _ _ => trivial) hq (fun sh9 g5 hp _ => ?_)
      obtain ⟨e9, -, hp⟩ := hp
      subst e9
      replace h := h g5 hp
      obtain ⟨o6, h⟩ := h
      refine vr_iinc 227 [some (.inr (some 21)), some (.inl v1), some (.inl v2), some (.inl v3), some (.inl v4), some (.inl v5), some (.inl v6), some (.inl (v7 + 1)), some (.inl v8), some (.inl v9), some (.inl v10), some (.inl v11), some (.inl (w1 + w0))] dX3_walk_224 rfl rfl o6 (by decide) rfl ?_
      refine vr_goto 53 dX3_walk_227 rfl ?_
      exact vr_forget [some (.inr (some 21)), some (.inl v1), some (.inl v2), some (.inl v3), some (.inl v4), some (.inl v5), some (.inl v6), some (.inl (v7 + 1)), none, none, none, none, none] (vx_sub.get _ _ ⟨rfl, ⟨rfl, ⟨rfl, ⟨rfl, ⟨rfl, ⟨rfl, ⟨rfl, ⟨rfl, trivial⟩⟩⟩⟩⟩⟩⟩⟩) h
set_option maxRecDepth 100000 in
theorem tX3_goOnWith_0 {l : Launch} {d : Nat} {Q : vx_M → Prop} (g : vx_M) (v1 v2 v3 v4 v5 : Int) (h : (0 ≤ v2 ∧ v2 < 7) ∧ (∃ Q2 : Int → vx_M → Prop, vNi l mX2_mostLoad d [.inr (some 20), .inl v1] SH (vx_u g 22 v2 v1) Q2 ∧ ∀ (r2 : Int) (g2 : vx_M), Q2 r2 g2 → (0 ≤ v2 ∧ v2 < 7) ∧ (0 ≤ v1 ∧ v1 < 8) ∧ (∃ Q5 : Int → vx_M → Prop, vNi l mX3_bearsAlso d [.inr (some 21), .inl v2, .inl (g2 15 v1)] SH (vx_u g2 32 v2 r2) Q5 ∧ ∀ (r5 : Int) (g5 : vx_M), Q5 r5 g5 → ((r5 = 0 → Q g5) ∧ (¬ r5 = 0 → (0 ≤ v1 ∧ v1 < 8) ∧ vx_in (v2 + 1) ∧ (∃ Q8 : vx_M → Prop, vNv l mX3_walk d [.inr (some 21), .inl (v2 + 1), .inl v3, .inl v4, .inl v5] SH (vx_u g5 33 v1 1) Q8 ∧ ∀ g8 : vx_M, Q8 g8 → (0 ≤ v1 ∧ v1 < 8) ∧ Q (vx_u g8 33 v1 0))))))) : vN l mX3_goOnWith (d + 1) (vx_pv SH Q) SH g 0 [some (.inr (some 21)), some (.inl v1), some (.inl v2), some (.inl v3), some (.inl v4), some (.inl v5)] [] := by
  refine vr_aload_n 1 dX3_goOnWith_0 rfl rfl rfl ?_
  refine vr_getr 4 3 cl_X3 fl_X3_9 (by decide) dX3_goOnWith_1 rfl s_21 rfl ?_
  refine vr_iload_n 5 dX3_goOnWith_4 rfl rfl rfl ?_
  refine vr_iload_n 6 dX3_goOnWith_5 rfl rfl rfl ?_
  obtain ⟨o1, h⟩ := h
  refine vr_iast 7 dX3_goOnWith_6 rfl s_22 o1.1 o1.2 ?_
  refine vr_aload_n 8 dX3_goOnWith_7 rfl rfl rfl ?_
  refine vr_getr 11 5 cl_X3 fl_X3_20 (by decide) dX3_goOnWith_8 rfl s_21 rfl ?_
  refine vr_iload_n 12 dX3_goOnWith_11 rfl rfl rfl ?_
  refine vr_aload_n 13 dX3_goOnWith_12 rfl rfl rfl ?_
  refine vr_getr 16 2 cl_X3 fl_X3_55 (by decide) dX3_goOnWith_13 rfl s_21 rfl ?_
  refine vr_iload_n 17 dX3_goOnWith_16 rfl rfl rfl ?_
  obtain ⟨Q2, hq, h⟩ := h
  refine vr_callVi 20 [.inl v1] 20 [.inl v2, .inr (some 32)] dX3_goOnWith_17 rfl mc_X3_121 dn_X2_mostLoad rfl rfl s_20 rfl (Nat.le_of_ble_eq_true rfl) (vx_rmR (by decide)) ⟨rfl, rfl⟩ ⟨Nat.le_refl _, Nat.le_refl _⟩ (fun _ _ => trivial) (fun _ _ => trivial) hq (fun r2 sh9 g2 hp _ _ => ?_)
  obtain ⟨e9, z9, e8, hp⟩ := hp
  subst e9
  cases e8
  replace h := h r2 g2 hp
  obtain ⟨o3, h⟩ := h
  refine vr_iast 21 dX3_goOnWith_20 rfl s_32 o3.1 o3.2 ?_
  refine vr_aload_n 22 dX3_goOnWith_21 rfl rfl rfl ?_
  refine vr_iload_n 23 dX3_goOnWith_22 rfl rfl rfl ?_
  refine vr_aload_n 24 dX3_goOnWith_23 rfl rfl rfl ?_
  refine vr_getr 27 1 cl_X3 fl_X3_51 (by decide) dX3_goOnWith_24 rfl s_21 rfl ?_
  refine vr_getr 30 1 cl_X1 fl_X3_125 (by decide) dX3_goOnWith_27 rfl s_13 rfl ?_
  refine vr_iload_n 31 dX3_goOnWith_30 rfl rfl rfl ?_
  obtain ⟨o4, h⟩ := h
  refine vr_iald 32 dX3_goOnWith_31 rfl s_15 o4.1 o4.2 ?_
  obtain ⟨Q5, hq, h⟩ := h
  refine vr_callVi 35 [.inl v2, .inl (g2 15 v1)] 21 [] dX3_goOnWith_32 rfl mc_X3_128 dn_X3_bearsAlso rfl rfl s_21 rfl (Nat.le_of_ble_eq_true rfl) (vx_rmR (by decide)) ⟨rfl, rfl⟩ ⟨Nat.le_refl _, Nat.le_refl _⟩ (fun _ _ => trivial) (fun _ _ => trivial) hq (fun r5 sh9 g5 hp _ _ => ?_)
  obtain ⟨e9, z9, e8, hp⟩ := hp
  subst e9
  cases e8
  replace h := h r5 g5 hp
  refine vr_if_eq 64 38 dX3_goOnWith_35 rfl rfl (fun c => ?_) (fun c => ?_)
  · replace h := h.1 c
    exact vr_vret rfl (Nat.le_refl _) (Nat.le_refl _) dX3_goOnWith_64 ⟨rfl, rfl, h⟩
  · replace h := h.2 c
    refine vr_aload_n 39 dX3_goOnWith_38 rfl rfl rfl ?_
    refine vr_getr 42 6 cl_X3 fl_X3_23 (by decide) dX3_goOnWith_39 rfl s_21 rfl ?_
    refine vr_iload_n 43 dX3_goOnWith_42 rfl rfl rfl ?_
    refine vr_iconst 44 dX3_goOnWith_43 rfl ⟨by decide, by decide⟩ ?_
    obtain ⟨o6, h⟩ := h
    refine vr_zast 45 dX3_goOnWith_44 rfl s_33 o6.1 o6.2 (by decide) ?_
    refine vr_aload_n 46 dX3_goOnWith_45 rfl rfl rfl ?_
    refine vr_iload_n 47 dX3_goOnWith_46 rfl rfl rfl ?_
    refine vr_iconst 48 dX3_goOnWith_47 rfl ⟨by decide, by decide⟩ ?_
    obtain ⟨o7, h⟩ := h
    refine vr_iadd 49 dX3_goOnWith_48 rfl o7 ?_
    refine vr_iload_n 50 dX3_goOnWith_49 rfl rfl rfl ?_
    refine vr_iload 52 dX3_goOnWith_50 rfl rfl ?_
    refine vr_iload 54 dX3_goOnWith_52 rfl rfl ?_
    obtain ⟨Q8, hq, h⟩ := h
    refine vr_callVv 57 [.inl (v2 + 1), .inl v3, .inl v4, .inl v5] 21 [] dX3_goOnWith_54 rfl mc_X3_72 dn_X3_walk rfl rfl s_21 rfl (Nat.le_of_ble_eq_true rfl) (vx_rmR (by decide)) ⟨rfl, rfl⟩ ⟨Nat.le_refl _, Nat.le_refl _⟩ (fun _ _ => trivial) (fun _ _ => trivial) hq (fun sh9 g8 hp _ => ?_)
    obtain ⟨e9, -, hp⟩ := hp
    subst e9
    replace h := h g8 hp
    refine vr_aload_n 58 dX3_goOnWith_57 rfl rfl rfl ?_
    refine vr_getr 61 6 cl_X3 fl_X3_23 (by decide) dX3_goOnWith_58 rfl s_21 rfl ?_
    refine vr_iload_n 62 dX3_goOnWith_61 rfl rfl rfl ?_
    refine vr_iconst 63 dX3_goOnWith_62 rfl ⟨by decide, by decide⟩ ?_
    obtain ⟨o9, h⟩ := h
    refine vr_zast 64 dX3_goOnWith_63 rfl s_33 o9.1 o9.2 (by decide) ?_
    exact vr_vret rfl (Nat.le_refl _) (Nat.le_refl _) dX3_goOnWith_64 ⟨rfl, rfl, h⟩
theorem kX3_goOnWith {l : Launch} {d : Nat} {Q : vx_M → Prop} (g : vx_M) (v1 v2 v3 v4 v5 : Int) (h : (0 ≤ v2 ∧ v2 < 7) ∧ (∃ Q2 : Int → vx_M → Prop, vNi l mX2_mostLoad d [.inr (some 20), .inl v1] SH (vx_u g 22 v2 v1) Q2 ∧ ∀ (r2 : Int) (g2 : vx_M), Q2 r2 g2 → (0 ≤ v2 ∧ v2 < 7) ∧ (0 ≤ v1 ∧ v1 < 8) ∧ (∃ Q5 : Int → vx_M → Prop, vNi l mX3_bearsAlso d [.inr (some 21), .inl v2, .inl (g2 15 v1)] SH (vx_u g2 32 v2 r2) Q5 ∧ ∀ (r5 : Int) (g5 : vx_M), Q5 r5 g5 → ((r5 = 0 → Q g5) ∧ (¬ r5 = 0 → (0 ≤ v1 ∧ v1 < 8) ∧ vx_in (v2 + 1) ∧ (∃ Q8 : vx_M → Prop, vNv l mX3_walk d [.inr (some 21), .inl (v2 + 1), .inl v3, .inl v4, .inl v5] SH (vx_u g5 33 v1 1) Q8 ∧ ∀ g8 : vx_M, Q8 g8 → (0 ≤ v1 ∧ v1 < 8) ∧ Q (vx_u g8 33 v1 0))))))) : vNv l mX3_goOnWith (d + 1) [.inr (some 21), .inl v1, .inl v2, .inl v3, .inl v4, .inl v5] SH g Q := vNv_of [some (.inr (some 21)), some (.inl v1), some (.inl v2), some (.inl v3), some (.inl v4), some (.inl v5)] pn_X3 (Nat.le_of_ble_eq_true rfl) rfl (tX3_goOnWith_0 g v1 v2 v3 v4 v5 h)
set_option maxRecDepth 100000 in
theorem tX3_bearsAlso_0 {l : Launch} {d : Nat} {Q : Int → vx_M → Prop} (g : vx_M) (v1 v2 : Int) (h : (0 ≤ v1 ∧ v1 < 7) ∧ (0 ≤ v1 ∧ v1 < 8) ∧ vx_in (v1 + 1) ∧ (0 ≤ v1 + 1 ∧ v1 + 1 < 8) ∧ vN l mX3_bearsAlso d (vx_pi SH Q) SH g 31 [some (.inr (some 21)), some (.inl v1), some (.inl v2), some (.inr (some (6 + (v1).toNat))), some (.inr (some (24 + (v1).toNat))), some (.inr (some (24 + (v1 + 1).toNat))), some (.inl 0)] []) : vN l mX3_bearsAlso d (vx_pi SH Q) SH g 0 [some (.inr (some 21)), some (.inl v1), some (.inl v2), none, none, none, none] [] := by
  refine vr_aload_n 1 dX3_bearsAlso_0 rfl rfl rfl ?_
  refine vr_getr 4 0 cl_X3 fl_X3_47 (by decide) dX3_bearsAlso_1 rfl s_21 rfl ?_
  refine vr_getr 7 3 cl_X4 fl_X3_131 (by decide) dX3_bearsAlso_4 rfl s_1 rfl ?_
  refine vr_iload_n 8 dX3_bearsAlso_7 rfl rfl rfl ?_
  obtain ⟨o1, h⟩ := h
  refine vr_aald 9 (6 + (v1).toNat) dX3_bearsAlso_8 rfl s_5 o1.1 (ra_5 _ (by omega)) ?_
  refine vr_astore_n 10 [some (.inr (some 21)), some (.inl v1), some (.inl v2), some (.inr (some (6 + (v1).toNat))), none, none, none] dX3_bearsAlso_9 rfl rfl (by decide) rfl ?_
  refine vr_aload_n 11 dX3_bearsAlso_10 rfl rfl rfl ?_
  refine vr_getr 14 4 cl_X3 fl_X3_17 (by decide) dX3_bearsAlso_11 rfl s_21 rfl ?_
  refine vr_iload_n 15 dX3_bearsAlso_14 rfl rfl rfl ?_
  obtain ⟨o2, h⟩ := h
  refine vr_aald 16 (24 + (v1).toNat) dX3_bearsAlso_15 rfl s_23 o2.1 (ra_23 _ (by omega)) ?_
  refine vr_astore 18 [some (.inr (some 21)), some (.inl v1), some (.inl v2), some (.inr (some (6 + (v1).toNat))), some (.inr (some (24 + (v1).toNat))), none, none] dX3_bearsAlso_16 rfl (by decide) rfl ?_
  refine vr_aload_n 19 dX3_bearsAlso_18 rfl rfl rfl ?_
  refine vr_getr 22 4 cl_X3 fl_X3_17 (by decide) dX3_bearsAlso_19 rfl s_21 rfl ?_
  refine vr_iload_n 23 dX3_bearsAlso_22 rfl rfl rfl ?_
  refine vr_iconst 24 dX3_bearsAlso_23 rfl ⟨by decide, by decide⟩ ?_
  obtain ⟨o3, h⟩ := h
  refine vr_iadd 25 dX3_bearsAlso_24 rfl o3 ?_
  obtain ⟨o4, h⟩ := h
  refine vr_aald 26 (24 + (v1 + 1).toNat) dX3_bearsAlso_25 rfl s_23 o4.1 (ra_23 _ (by omega)) ?_
  refine vr_astore 28 [some (.inr (some 21)), some (.inl v1), some (.inl v2), some (.inr (some (6 + (v1).toNat))), some (.inr (some (24 + (v1).toNat))), some (.inr (some (24 + (v1 + 1).toNat))), none] dX3_bearsAlso_26 rfl (by decide) rfl ?_
  refine vr_iconst 29 dX3_bearsAlso_28 rfl ⟨by decide, by decide⟩ ?_
  refine vr_istore 31 [some (.inr (some 21)), some (.inl v1), some (.inl v2), some (.inr (some (6 + (v1).toNat))), some (.inr (some (24 + (v1).toNat))), some (.inr (some (24 + (v1 + 1).toNat))), some (.inl 0)] dX3_bearsAlso_29 rfl (by decide) rfl ?_
  exact h
theorem kX3_bearsAlso {l : Launch} {d : Nat} {Q : Int → vx_M → Prop} (g : vx_M) (v1 v2 : Int) (h : (0 ≤ v1 ∧ v1 < 7) ∧ (0 ≤ v1 ∧ v1 < 8) ∧ vx_in (v1 + 1) ∧ (0 ≤ v1 + 1 ∧ v1 + 1 < 8) ∧ vN l mX3_bearsAlso d (vx_pi SH Q) SH g 31 [some (.inr (some 21)), some (.inl v1), some (.inl v2), some (.inr (some (6 + (v1).toNat))), some (.inr (some (24 + (v1).toNat))), some (.inr (some (24 + (v1 + 1).toNat))), some (.inl 0)] []) : vNi l mX3_bearsAlso d [.inr (some 21), .inl v1, .inl v2] SH g Q := vNi_of [some (.inr (some 21)), some (.inl v1), some (.inl v2), none, none, none, none] pn_X3 (Nat.le_of_ble_eq_true rfl) rfl (tX3_bearsAlso_0 g v1 v2 h)
set_option maxRecDepth 100000 in
theorem tX3_bearsAlso_31 {l : Launch} {d : Nat} {Q : Int → vx_M → Prop} (g : vx_M) (v1 v2 v6 : Int) (h : (0 ≤ v1 ∧ v1 < 7) ∧ (0 ≤ v1 ∧ v1 < 8) ∧ (0 ≤ v1 + 1 ∧ v1 + 1 < 8) ∧ ((v1 ≤ v6 → (0 ≤ v1 ∧ v1 < 7) ∧ Q 1 (vx_u g (24 + (v1 + 1).toNat) v1 0)) ∧ (¬ v1 ≤ v6 → (0 ≤ v6 ∧ v6 < 7) ∧ (0 ≤ v6 ∧ v6 < 7) ∧ vx_in ((g (6 + (v1).toNat) v6) * v2) ∧ vx_in ((g (24 + (v1).toNat) v6) + ((g (6 + (v1).toNat) v6) * v2)) ∧ (0 ≤ v6 ∧ v6 < 7) ∧ (0 ≤ v6 ∧ v6 < 7) ∧ (0 ≤ v6 ∧ v6 < 7) ∧ ((((vx_u g (24 + (v1 + 1).toNat) v6 ((g (24 + (v1).toNat) v6) + ((g (6 + (v1).toNat) v6) * v2))) (24 + (v1 + 1).toNat) v6) ≤ ((vx_u g (24 + (v1 + 1).toNat) v6 ((g (24 + (v1).toNat) v6) + ((g (6 + (v1).toNat) v6) * v2))) 32 v6) → vx_in (v6 + 1) ∧ vN l mX3_bearsAlso d (vx_pi SH Q) SH (vx_u g (24 + (v1 + 1).toNat) v6 ((g (24 + (v1).toNat) v6) + ((g (6 + (v1).toNat) v6) * v2))) 31 [some (.inr (some 21)), some (.inl v1), some (.inl v2), some (.inr (some (6 + (v1).toNat))), some (.inr (some (24 + (v1).toNat))), some (.inr (some (24 + (v1 + 1).toNat))), some (.inl (v6 + 1))] []) ∧ (¬ ((vx_u g (24 + (v1 + 1).toNat) v6 ((g (24 + (v1).toNat) v6) + ((g (6 + (v1).toNat) v6) * v2))) (24 + (v1 + 1).toNat) v6) ≤ ((vx_u g (24 + (v1 + 1).toNat) v6 ((g (24 + (v1).toNat) v6) + ((g (6 + (v1).toNat) v6) * v2))) 32 v6) → Q 0 (vx_u g (24 + (v1 + 1).toNat) v6 ((g (24 + (v1).toNat) v6) + ((g (6 + (v1).toNat) v6) * v2)))))))) : vN l mX3_bearsAlso d (vx_pi SH Q) SH g 31 [some (.inr (some 21)), some (.inl v1), some (.inl v2), some (.inr (some (6 + (v1).toNat))), some (.inr (some (24 + (v1).toNat))), some (.inr (some (24 + (v1 + 1).toNat))), some (.inl v6)] [] := by
  obtain ⟨oo0, h⟩ := h
  obtain ⟨oo1, h⟩ := h
  obtain ⟨oo2, h⟩ := h
  refine vr_iload 33 dX3_bearsAlso_31 rfl rfl ?_
  refine vr_iload_n 34 dX3_bearsAlso_33 rfl rfl rfl ?_
  refine vr_icmp_ge 77 37 dX3_bearsAlso_34 rfl rfl (fun c => ?_) (fun c => ?_)
  · replace h := h.1 c
    refine vr_aload 79 dX3_bearsAlso_77 rfl rfl ?_
    refine vr_iload_n 80 dX3_bearsAlso_79 rfl rfl rfl ?_
    refine vr_iconst 81 dX3_bearsAlso_80 rfl ⟨by decide, by decide⟩ ?_
    obtain ⟨o1, h⟩ := h
    refine vr_iast 82 dX3_bearsAlso_81 rfl (s_lr _ (by omega : (v1 + 1).toNat < 8)) o1.1 o1.2 ?_
    refine vr_iconst 83 dX3_bearsAlso_82 rfl ⟨by decide, by decide⟩ ?_
    exact vr_zret rfl (Nat.le_refl _) (Nat.le_refl _) dX3_bearsAlso_83 (by decide) ⟨rfl, _, rfl, h⟩
  · replace h := h.2 c
    refine vr_aload 39 dX3_bearsAlso_37 rfl rfl ?_
    refine vr_iload 41 dX3_bearsAlso_39 rfl rfl ?_
    refine vr_aload 43 dX3_bearsAlso_41 rfl rfl ?_
    refine vr_iload 45 dX3_bearsAlso_43 rfl rfl ?_
    obtain ⟨o2, h⟩ := h
    refine vr_iald 46 dX3_bearsAlso_45 rfl (s_lr _ (by omega : (v1).toNat < 8)) o2.1 o2.2 ?_
    refine vr_aload_n 47 dX3_bearsAlso_46 rfl rfl rfl ?_
    refine vr_iload 49 dX3_bearsAlso_47 rfl rfl ?_
    obtain ⟨o3, h⟩ := h
    refine vr_iald 50 dX3_bearsAlso_49 rfl (s_sr _ (by omega : (v1).toNat < 7)) o3.1 o3.2 ?_
    refine vr_iload_n 51 dX3_bearsAlso_50 rfl rfl rfl ?_
    obtain ⟨o4, h⟩ := h
    refine vr_imul 52 dX3_bearsAlso_51 rfl o4 ?_
    obtain ⟨o5, h⟩ := h
    refine vr_iadd 53 dX3_bearsAlso_52 rfl o5 ?_
    obtain ⟨o6, h⟩ := h
    refine vr_iast 54 dX3_bearsAlso_53 rfl (s_lr _ (by omega : (v1 + 1).toNat < 8)) o6.1 o6.2 ?_
    refine vr_aload 56 dX3_bearsAlso_54 rfl rfl ?_
    refine vr_iload 58 dX3_bearsAlso_56 rfl rfl ?_
    obtain ⟨o7, h⟩ := h
    refine vr_iald 59 dX3_bearsAlso_58 rfl (s_lr _ (by omega : (v1 + 1).toNat < 8)) o7.1 o7.2 ?_
    refine vr_aload_n 60 dX3_bearsAlso_59 rfl rfl rfl ?_
    refine vr_getr 63 5 cl_X3 fl_X3_20 (by decide) dX3_bearsAlso_60 rfl s_21 rfl ?_
    refine vr_iload 65 dX3_bearsAlso_63 rfl rfl ?_
    obtain ⟨o8, h⟩ := h
    refine vr_iald 66 dX3_bearsAlso_65 rfl s_32 o8.1 o8.2 ?_
    refine vr_icmp_le 71 69 dX3_bearsAlso_66 rfl rfl (fun c => ?_) (fun c => ?_)
    · replace h := h.1 c
      obtain ⟨o9, h⟩ := h
      refine vr_iinc 74 [some (.inr (some 21)), some (.inl v1), some (.inl v2), some (.inr (some (6 + (v1).toNat))), some (.inr (some (24 + (v1).toNat))), some (.inr (some (24 + (v1 + 1).toNat))), some (.inl (v6 + 1))] dX3_bearsAlso_71 rfl rfl o9 (by decide) rfl ?_
      refine vr_goto 31 dX3_bearsAlso_74 rfl ?_
      exact h
    · replace h := h.2 c
      refine vr_iconst 70 dX3_bearsAlso_69 rfl ⟨by decide, by decide⟩ ?_
      exact vr_zret rfl (Nat.le_refl _) (Nat.le_refl _) dX3_bearsAlso_70 (by decide) ⟨rfl, _, rfl, h⟩
set_option maxRecDepth 100000 in
theorem tX3_arrive_0 {l : Launch} {d : Nat} {Q : vx_M → Prop} (g : vx_M) (v1 : Int) (h : vx_in ((g 21 12) + 1) ∧ ((¬ (g 21 9) = 0 → Q (vx_u g 21 12 ((g 21 12) + 1))) ∧ ((g 21 9) = 0 → Q (vx_cp (vx_u (vx_u g 21 12 ((g 21 12) + 1)) 21 11 v1) 22 35 0 0 7)))) : vN l mX3_arrive (d + 1) (vx_pv SH Q) SH g 0 [some (.inr (some 21)), some (.inl v1)] [] := by
  refine vr_aload_n 1 dX3_arrive_0 rfl rfl rfl ?_
  refine vr_dup 2 dX3_arrive_1 rfl ?_
  refine vr_geti 5 12 12 cl_X3 fl_X3_44 (by decide) rfl dX3_arrive_2 rfl s_21 rfl ?_
  refine vr_iconst 6 dX3_arrive_5 rfl ⟨by decide, by decide⟩ ?_
  obtain ⟨o1, h⟩ := h
  refine vr_iadd 7 dX3_arrive_6 rfl o1 ?_
  refine vr_puti 10 12 12 cl_X3 fl_X3_44 (by decide) rfl rfl rfl dX3_arrive_7 rfl s_21 rfl ?_
  refine vr_aload_n 11 dX3_arrive_10 rfl rfl rfl ?_
  refine vr_geti 14 9 9 cl_X3 fl_X3_33 (by decide) rfl dX3_arrive_11 rfl s_21 rfl ?_
  refine vr_if_ne 37 17 dX3_arrive_14 rfl rfl (fun c => ?_) (fun c => ?_)
  · replace h := h.1 c
    exact vr_vret rfl (Nat.le_refl _) (Nat.le_refl _) dX3_arrive_37 ⟨rfl, rfl, h⟩
  · replace h := h.2 c
    refine vr_aload_n 18 dX3_arrive_17 rfl rfl rfl ?_
    refine vr_iload_n 19 dX3_arrive_18 rfl rfl rfl ?_
    refine vr_puti 22 11 11 cl_X3 fl_X3_41 (by decide) rfl rfl rfl dX3_arrive_19 rfl s_21 rfl ?_
    refine vr_aload_n 23 dX3_arrive_22 rfl rfl rfl ?_
    refine vr_getr 26 3 cl_X3 fl_X3_9 (by decide) dX3_arrive_23 rfl s_21 rfl ?_
    refine vr_iconst 27 dX3_arrive_26 rfl ⟨by decide, by decide⟩ ?_
    refine vr_aload_n 28 dX3_arrive_27 rfl rfl rfl ?_
    refine vr_getr 31 8 cl_X3 fl_X3_30 (by decide) dX3_arrive_28 rfl s_21 rfl ?_
    refine vr_iconst 32 dX3_arrive_31 rfl ⟨by decide, by decide⟩ ?_
    refine vr_bipush 34 dX3_arrive_32 rfl (by decide) ⟨by decide, by decide⟩ ?_
    refine vr_acopy 37 dX3_arrive_34 rfl mc_X3_63 ac_1 ac_2 ac_3 s_22 s_35 (by decide) (by decide) (by decide) (by decide) (by decide) (by show 1 ≤ d + 1; omega) (by show _ + (7 + 11) ≤ 40 * (d + 1); simp only [List.length_cons, List.length_nil]; omega) ?_
    exact vr_vret rfl (Nat.le_refl _) (Nat.le_refl _) dX3_arrive_37 ⟨rfl, rfl, h⟩
theorem kX3_arrive {l : Launch} {d : Nat} {Q : vx_M → Prop} (g : vx_M) (v1 : Int) (h : vx_in ((g 21 12) + 1) ∧ ((¬ (g 21 9) = 0 → Q (vx_u g 21 12 ((g 21 12) + 1))) ∧ ((g 21 9) = 0 → Q (vx_cp (vx_u (vx_u g 21 12 ((g 21 12) + 1)) 21 11 v1) 22 35 0 0 7)))) : vNv l mX3_arrive (d + 1) [.inr (some 21), .inl v1] SH g Q := vNv_of [some (.inr (some 21)), some (.inl v1)] pn_X3 (Nat.le_of_ble_eq_true rfl) rfl (tX3_arrive_0 g v1 h)
end
section
set_option maxRecDepth 100000 in
theorem tX5_storeys_0 {l : Launch} {d : Nat} {Q : Int → vx_M → Prop} (g : vx_M) (v1 : Int) (h : (∃ Q1 : Int → vx_M → Prop, vNi l mX5_within d [.inl v1, .inl 1, .inl 4] SH g Q1 ∧ ∀ (r1 : Int) (g1 : vx_M), Q1 r1 g1 → ((¬ r1 = 0 → (∃ Q2 : Int → vx_M → Prop, vNi l mX4_placesUpTo d [.inr (some 1), .inl v1] SH g1 Q2 ∧ ∀ (r2 : Int) (g2 : vx_M), Q2 r2 g2 → ((r2 ≤ 7 → (∃ Q3 : vx_M → Prop, vNv l mX4_build d [.inr (some 1), .inl v1] SH g2 Q3 ∧ ∀ g3 : vx_M, Q3 g3 → (∃ Q4 : vx_M → Prop, vNv l mX5_endPlacing d [.inr (some 0)] SH g3 Q4 ∧ ∀ g4 : vx_M, Q4 g4 → Q (g4 1 5) g4))) ∧ (¬ r2 ≤ 7 → Q (-4) g2)))) ∧ (r1 = 0 → Q (-3) g1)))) : vN l mX5_storeys (d + 1) (vx_pi SH Q) SH g 0 [some (.inr (some 0)), some (.inl v1)] [] := by
  refine vr_iload_n 1 dX5_storeys_0 rfl rfl rfl ?_
  refine vr_iconst 2 dX5_storeys_1 rfl ⟨by decide, by decide⟩ ?_
  refine vr_iconst 3 dX5_storeys_2 rfl ⟨by decide, by decide⟩ ?_
  obtain ⟨Q1, hq, h⟩ := h
  refine vr_callSi 6 [.inl v1, .inl 1, .inl 4] [] dX5_storeys_3 rfl mc_X5_72 dn_X5_within rfl rfl (Nat.le_of_ble_eq_true rfl) (vx_rmR (by decide)) ⟨rfl, rfl⟩ ⟨Nat.le_refl _, Nat.le_refl _⟩ (fun _ _ => trivial) (fun _ _ => trivial) hq (fun r1 sh9 g1 hp _ _ => ?_)
  obtain ⟨e9, z9, e8, hp⟩ := hp
  subst e9
  cases e8
  replace h := h r1 g1 hp
  refine vr_if_ne 12 9 dX5_storeys_6 rfl rfl (fun c => ?_) (fun c => ?_)
  · replace h := h.1 c
    refine vr_aload_n 13 dX5_storeys_12 rfl rfl rfl ?_
    refine vr_getr 16 0 cl_X5 fl_X5_10 (by decide) dX5_storeys_13 rfl s_0 rfl ?_
    refine vr_iload_n 17 dX5_storeys_16 rfl rfl rfl ?_
    obtain ⟨Q2, hq, h⟩ := h
    refine vr_callVi 20 [.inl v1] 1 [] dX5_storeys_17 rfl mc_X5_76 dn_X4_placesUpTo rfl rfl s_1 rfl (Nat.le_of_ble_eq_true rfl) (vx_rmR (by decide)) ⟨rfl, rfl⟩ ⟨Nat.le_refl _, Nat.le_refl _⟩ (fun _ _ => trivial) (fun _ _ => trivial) hq (fun r2 sh9 g2 hp _ _ => ?_)
    obtain ⟨e9, z9, e8, hp⟩ := hp
    subst e9
    cases e8
    replace h := h r2 g2 hp
    refine vr_bipush 22 dX5_storeys_20 rfl (by decide) ⟨by decide, by decide⟩ ?_
    refine vr_icmp_le 28 25 dX5_storeys_22 rfl rfl (fun c => ?_) (fun c => ?_)
    · replace h := h.1 c
      refine vr_aload_n 29 dX5_storeys_28 rfl rfl rfl ?_
      refine vr_getr 32 0 cl_X5 fl_X5_10 (by decide) dX5_storeys_29 rfl s_0 rfl ?_
      refine vr_iload_n 33 dX5_storeys_32 rfl rfl rfl ?_
      obtain ⟨Q3, hq, h⟩ := h
      refine vr_callVv 36 [.inl v1] 1 [] dX5_storeys_33 rfl mc_X5_80 dn_X4_build rfl rfl s_1 rfl (Nat.le_of_ble_eq_true rfl) (vx_rmR (by decide)) ⟨rfl, rfl⟩ ⟨Nat.le_refl _, Nat.le_refl _⟩ (fun _ _ => trivial) (fun _ _ => trivial) hq (fun sh9 g3 hp _ => ?_)
      obtain ⟨e9, -, hp⟩ := hp
      subst e9
      replace h := h g3 hp
      refine vr_aload_n 37 dX5_storeys_36 rfl rfl rfl ?_
      obtain ⟨Q4, hq, h⟩ := h
      refine vr_callVv 40 [] 0 [] dX5_storeys_37 rfl mc_X5_84 dn_X5_endPlacing rfl rfl s_0 rfl (Nat.le_of_ble_eq_true rfl) (vx_rmR (by decide)) ⟨rfl, rfl⟩ ⟨Nat.le_refl _, Nat.le_refl _⟩ (fun _ _ => trivial) (fun _ _ => trivial) hq (fun sh9 g4 hp _ => ?_)
      obtain ⟨e9, -, hp⟩ := hp
      subst e9
      replace h := h g4 hp
      refine vr_aload_n 41 dX5_storeys_40 rfl rfl rfl ?_
      refine vr_getr 44 0 cl_X5 fl_X5_10 (by decide) dX5_storeys_41 rfl s_0 rfl ?_
      refine vr_geti 47 5 5 cl_X4 fl_X5_87 (by decide) rfl dX5_storeys_44 rfl s_1 rfl ?_
      exact vr_iret rfl (Nat.le_refl _) (Nat.le_refl _) dX5_storeys_47 ⟨rfl, _, rfl, h⟩
    · replace h := h.2 c
      refine vr_bipush 27 dX5_storeys_25 rfl (by decide) ⟨by decide, by decide⟩ ?_
      exact vr_iret rfl (Nat.le_refl _) (Nat.le_refl _) dX5_storeys_27 ⟨rfl, _, rfl, h⟩
  · replace h := h.2 c
    refine vr_bipush 11 dX5_storeys_9 rfl (by decide) ⟨by decide, by decide⟩ ?_
    exact vr_iret rfl (Nat.le_refl _) (Nat.le_refl _) dX5_storeys_11 ⟨rfl, _, rfl, h⟩
theorem kX5_storeys {l : Launch} {d : Nat} {Q : Int → vx_M → Prop} (g : vx_M) (v1 : Int) (h : (∃ Q1 : Int → vx_M → Prop, vNi l mX5_within d [.inl v1, .inl 1, .inl 4] SH g Q1 ∧ ∀ (r1 : Int) (g1 : vx_M), Q1 r1 g1 → ((¬ r1 = 0 → (∃ Q2 : Int → vx_M → Prop, vNi l mX4_placesUpTo d [.inr (some 1), .inl v1] SH g1 Q2 ∧ ∀ (r2 : Int) (g2 : vx_M), Q2 r2 g2 → ((r2 ≤ 7 → (∃ Q3 : vx_M → Prop, vNv l mX4_build d [.inr (some 1), .inl v1] SH g2 Q3 ∧ ∀ g3 : vx_M, Q3 g3 → (∃ Q4 : vx_M → Prop, vNv l mX5_endPlacing d [.inr (some 0)] SH g3 Q4 ∧ ∀ g4 : vx_M, Q4 g4 → Q (g4 1 5) g4))) ∧ (¬ r2 ≤ 7 → Q (-4) g2)))) ∧ (r1 = 0 → Q (-3) g1)))) : vNi l mX5_storeys (d + 1) [.inr (some 0), .inl v1] SH g Q := vNi_of [some (.inr (some 0)), some (.inl v1)] pn_X5 (Nat.le_of_ble_eq_true rfl) rfl (tX5_storeys_0 g v1 h)
set_option maxRecDepth 100000 in
theorem tX5_width_0 {l : Launch} {d : Nat} {Q : Int → vx_M → Prop} (g : vx_M) (v1 v2 : Int) (h : ((v1 < 0 → Q (-2) g) ∧ (¬ v1 < 0 → ((v1 < 4 → (∃ Q1 : Int → vx_M → Prop, vNi l mX5_within d [.inl v2, .inl 1, .inl 3] SH g Q1 ∧ ∀ (r1 : Int) (g1 : vx_M), Q1 r1 g1 → ((¬ r1 = 0 → (0 ≤ v1 ∧ v1 < 4) ∧ (((g1 1 4) ≤ v1 → vN l mX5_width (d + 1) (vx_pi SH Q) SH g1 64 [some (.inr (some 0)), some (.inl v1), some (.inl v2), some (.inl (g1 2 v1))] []) ∧ (¬ (g1 1 4) ≤ v1 → vx_in ((g1 1 5) - (g1 2 v1)) ∧ vx_in (((g1 1 5) - (g1 2 v1)) + v2) ∧ (((((g1 1 5) - (g1 2 v1)) + v2) ≤ 7 → vN l mX5_width (d + 1) (vx_pi SH Q) SH g1 64 [some (.inr (some 0)), some (.inl v1), some (.inl v2), some (.inl (g1 2 v1))] []) ∧ (¬ (((g1 1 5) - (g1 2 v1)) + v2) ≤ 7 → Q (-4) g1))))) ∧ (r1 = 0 → Q (-3) g1)))) ∧ (¬ v1 < 4 → Q (-2) g))))) : vN l mX5_width (d + 1) (vx_pi SH Q) SH g 0 [some (.inr (some 0)), some (.inl v1), some (.inl v2), none] [] := by
  refine vr_iload_n 1 dX5_width_0 rfl rfl rfl ?_
  refine vr_if_lt 9 4 dX5_width_1 rfl rfl (fun c => ?_) (fun c => ?_)
  · replace h := h.1 c
    refine vr_bipush 11 dX5_width_9 rfl (by decide) ⟨by decide, by decide⟩ ?_
    exact vr_iret rfl (Nat.le_refl _) (Nat.le_refl _) dX5_width_11 ⟨rfl, _, rfl, h⟩
  · replace h := h.2 c
    refine vr_iload_n 5 dX5_width_4 rfl rfl rfl ?_
    refine vr_iconst 6 dX5_width_5 rfl ⟨by decide, by decide⟩ ?_
    refine vr_icmp_lt 12 9 dX5_width_6 rfl rfl (fun c => ?_) (fun c => ?_)
    · replace h := h.1 c
      refine vr_iload_n 13 dX5_width_12 rfl rfl rfl ?_
      refine vr_iconst 14 dX5_width_13 rfl ⟨by decide, by decide⟩ ?_
      refine vr_iconst 15 dX5_width_14 rfl ⟨by decide, by decide⟩ ?_
      obtain ⟨Q1, hq, h⟩ := h
      refine vr_callSi 18 [.inl v2, .inl 1, .inl 3] [] dX5_width_15 rfl mc_X5_72 dn_X5_within rfl rfl (Nat.le_of_ble_eq_true rfl) (vx_rmR (by decide)) ⟨rfl, rfl⟩ ⟨Nat.le_refl _, Nat.le_refl _⟩ (fun _ _ => trivial) (fun _ _ => trivial) hq (fun r1 sh9 g1 hp _ _ => ?_)
      obtain ⟨e9, z9, e8, hp⟩ := hp
      subst e9
      cases e8
      replace h := h r1 g1 hp
      refine vr_if_ne 24 21 dX5_width_18 rfl rfl (fun c => ?_) (fun c => ?_)
      · replace h := h.1 c
        refine vr_aload_n 25 dX5_width_24 rfl rfl rfl ?_
        refine vr_getr 28 0 cl_X5 fl_X5_10 (by decide) dX5_width_25 rfl s_0 rfl ?_
        refine vr_getr 31 0 cl_X4 fl_X5_90 (by decide) dX5_width_28 rfl s_1 rfl ?_
        refine vr_iload_n 32 dX5_width_31 rfl rfl rfl ?_
        obtain ⟨o2, h⟩ := h
        refine vr_iald 33 dX5_width_32 rfl s_2 o2.1 o2.2 ?_
        refine vr_istore_n 34 [some (.inr (some 0)), some (.inl v1), some (.inl v2), some (.inl (g1 2 v1))] dX5_width_33 rfl rfl (by decide) rfl ?_
        refine vr_iload_n 35 dX5_width_34 rfl rfl rfl ?_
        refine vr_aload_n 36 dX5_width_35 rfl rfl rfl ?_
        refine vr_getr 39 0 cl_X5 fl_X5_10 (by decide) dX5_width_36 rfl s_0 rfl ?_
        refine vr_geti 42 4 4 cl_X4 fl_X5_93 (by decide) rfl dX5_width_39 rfl s_1 rfl ?_
        refine vr_icmp_ge 64 45 dX5_width_42 rfl rfl (fun c => ?_) (fun c => ?_)
        · replace h := h.1 c
          exact h
        · replace h := h.2 c
          refine vr_aload_n 46 dX5_width_45 rfl rfl rfl ?_
          refine vr_getr 49 0 cl_X5 fl_X5_10 (by decide) dX5_width_46 rfl s_0 rfl ?_
          refine vr_geti 52 5 5 cl_X4 fl_X5_87 (by decide) rfl dX5_width_49 rfl s_1 rfl ?_
          refine vr_iload_n 53 dX5_width_52 rfl rfl rfl ?_
          obtain ⟨o3, h⟩ := h
          refine vr_isub 54 dX5_width_53 rfl o3 ?_
          refine vr_iload_n 55 dX5_width_54 rfl rfl rfl ?_
          obtain ⟨o4, h⟩ := h
          refine vr_iadd 56 dX5_width_55 rfl o4 ?_
          refine vr_bipush 58 dX5_width_56 rfl (by decide) ⟨by decide, by decide⟩ ?_
          refine vr_icmp_le 64 61 dX5_width_58 rfl rfl (fun c => ?_) (fun c => ?_)
          · replace h := h.1 c
            exact h
          · replace h := h.2 c
            refine vr_bipush 63 dX5_width_61 rfl (by decide) ⟨by decide, by decide⟩ ?_
            exact vr_iret rfl (Nat.le_refl _) (Nat.le_refl _) dX5_width_63 ⟨rfl, _, rfl, h⟩
      · replace h := h.2 c
        refine vr_bipush 23 dX5_width_21 rfl (by decide) ⟨by decide, by decide⟩ ?_
        exact vr_iret rfl (Nat.le_refl _) (Nat.le_refl _) dX5_width_23 ⟨rfl, _, rfl, h⟩
    · replace h := h.2 c
      refine vr_bipush 11 dX5_width_9 rfl (by decide) ⟨by decide, by decide⟩ ?_
      exact vr_iret rfl (Nat.le_refl _) (Nat.le_refl _) dX5_width_11 ⟨rfl, _, rfl, h⟩
theorem kX5_width {l : Launch} {d : Nat} {Q : Int → vx_M → Prop} (g : vx_M) (v1 v2 : Int) (h : ((v1 < 0 → Q (-2) g) ∧ (¬ v1 < 0 → ((v1 < 4 → (∃ Q1 : Int → vx_M → Prop, vNi l mX5_within d [.inl v2, .inl 1, .inl 3] SH g Q1 ∧ ∀ (r1 : Int) (g1 : vx_M), Q1 r1 g1 → ((¬ r1 = 0 → (0 ≤ v1 ∧ v1 < 4) ∧ (((g1 1 4) ≤ v1 → vN l mX5_width (d + 1) (vx_pi SH Q) SH g1 64 [some (.inr (some 0)), some (.inl v1), some (.inl v2), some (.inl (g1 2 v1))] []) ∧ (¬ (g1 1 4) ≤ v1 → vx_in ((g1 1 5) - (g1 2 v1)) ∧ vx_in (((g1 1 5) - (g1 2 v1)) + v2) ∧ (((((g1 1 5) - (g1 2 v1)) + v2) ≤ 7 → vN l mX5_width (d + 1) (vx_pi SH Q) SH g1 64 [some (.inr (some 0)), some (.inl v1), some (.inl v2), some (.inl (g1 2 v1))] []) ∧ (¬ (((g1 1 5) - (g1 2 v1)) + v2) ≤ 7 → Q (-4) g1))))) ∧ (r1 = 0 → Q (-3) g1)))) ∧ (¬ v1 < 4 → Q (-2) g))))) : vNi l mX5_width (d + 1) [.inr (some 0), .inl v1, .inl v2] SH g Q := vNi_of [some (.inr (some 0)), some (.inl v1), some (.inl v2), none] pn_X5 (Nat.le_of_ble_eq_true rfl) rfl (tX5_width_0 g v1 v2 h)
set_option maxRecDepth 100000 in
theorem tX5_width_64 {l : Launch} {d : Nat} {Q : Int → vx_M → Prop} (g : vx_M) (v1 v2 v3 : Int) (h : (0 ≤ v1 ∧ v1 < 4) ∧ (∃ Q2 : vx_M → Prop, vNv l mX4_build d [.inr (some 1), .inl (g 1 4)] SH (vx_u g 2 v1 v2) Q2 ∧ ∀ g2 : vx_M, Q2 g2 → (∃ Q3 : vx_M → Prop, vNv l mX5_endPlacing d [.inr (some 0)] SH g2 Q3 ∧ ∀ g3 : vx_M, Q3 g3 → Q v3 g3))) : vN l mX5_width (d + 1) (vx_pi SH Q) SH g 64 [some (.inr (some 0)), some (.inl v1), some (.inl v2), some (.inl v3)] [] := by
  refine vr_aload_n 65 dX5_width_64 rfl rfl rfl ?_
  refine vr_getr 68 0 cl_X5 fl_X5_10 (by decide) dX5_width_65 rfl s_0 rfl ?_
  refine vr_getr 71 0 cl_X4 fl_X5_90 (by decide) dX5_width_68 rfl s_1 rfl ?_
  refine vr_iload_n 72 dX5_width_71 rfl rfl rfl ?_
  refine vr_iload_n 73 dX5_width_72 rfl rfl rfl ?_
  obtain ⟨o1, h⟩ := h
  refine vr_iast 74 dX5_width_73 rfl s_2 o1.1 o1.2 ?_
  refine vr_aload_n 75 dX5_width_74 rfl rfl rfl ?_
  refine vr_getr 78 0 cl_X5 fl_X5_10 (by decide) dX5_width_75 rfl s_0 rfl ?_
  refine vr_aload_n 79 dX5_width_78 rfl rfl rfl ?_
  refine vr_getr 82 0 cl_X5 fl_X5_10 (by decide) dX5_width_79 rfl s_0 rfl ?_
  refine vr_geti 85 4 4 cl_X4 fl_X5_93 (by decide) rfl dX5_width_82 rfl s_1 rfl ?_
  obtain ⟨Q2, hq, h⟩ := h
  refine vr_callVv 88 [.inl (g 1 4)] 1 [] dX5_width_85 rfl mc_X5_80 dn_X4_build rfl rfl s_1 rfl (Nat.le_of_ble_eq_true rfl) (vx_rmR (by decide)) ⟨rfl, rfl⟩ ⟨Nat.le_refl _, Nat.le_refl _⟩ (fun _ _ => trivial) (fun _ _ => trivial) hq (fun sh9 g2 hp _ => ?_)
  obtain ⟨e9, -, hp⟩ := hp
  subst e9
  replace h := h g2 hp
  refine vr_aload_n 89 dX5_width_88 rfl rfl rfl ?_
  obtain ⟨Q3, hq, h⟩ := h
  refine vr_callVv 92 [] 0 [] dX5_width_89 rfl mc_X5_84 dn_X5_endPlacing rfl rfl s_0 rfl (Nat.le_of_ble_eq_true rfl) (vx_rmR (by decide)) ⟨rfl, rfl⟩ ⟨Nat.le_refl _, Nat.le_refl _⟩ (fun _ _ => trivial) (fun _ _ => trivial) hq (fun sh9 g3 hp _ => ?_)
  obtain ⟨e9, -, hp⟩ := hp
  subst e9
  replace h := h g3 hp
  refine vr_iload_n 93 dX5_width_92 rfl rfl rfl ?_
  exact vr_iret rfl (Nat.le_refl _) (Nat.le_refl _) dX5_width_93 ⟨rfl, _, rfl, h⟩
set_option maxRecDepth 100000 in
theorem tX5_person_0 {l : Launch} {d : Nat} {Q : Int → vx_M → Prop} (g : vx_M) (v1 v2 v3 v4 v5 : Int) (h : (∃ Q1 : Int → vx_M → Prop, vNi l mX5_within d [.inl v1, .inl 100, .inl 200] SH g Q1 ∧ ∀ (r1 : Int) (g1 : vx_M), Q1 r1 g1 → ((r1 = 0 → Q (-3) g1) ∧ (¬ r1 = 0 → (∃ Q2 : Int → vx_M → Prop, vNi l mX5_within d [.inl v2, .inl 20, .inl 120] SH g1 Q2 ∧ ∀ (r2 : Int) (g2 : vx_M), Q2 r2 g2 → ((r2 = 0 → Q (-3) g2) ∧ (¬ r2 = 0 → (∃ Q3 : Int → vx_M → Prop, vNi l mX5_within d [.inl v3, .inl 0, .inl 400] SH g2 Q3 ∧ ∀ (r3 : Int) (g3 : vx_M), Q3 r3 g3 → ((r3 = 0 → Q (-3) g3) ∧ (¬ r3 = 0 → (∃ Q4 : Int → vx_M → Prop, vNi l mX5_within d [.inl v4, .inl 0, .inl 3] SH g3 Q4 ∧ ∀ (r4 : Int) (g4 : vx_M), Q4 r4 g4 → ((r4 = 0 → Q (-3) g4) ∧ (¬ r4 = 0 → (∃ Q5 : Int → vx_M → Prop, vNi l mX5_within d [.inl v5, .inl 0, .inl 20000] SH g4 Q5 ∧ ∀ (r5 : Int) (g5 : vx_M), Q5 r5 g5 → ((¬ r5 = 0 → (∃ Q6 : Int → vx_M → Prop, vNi l mX1_add d [.inr (some 13), .inl v1, .inl v2, .inl v3, .inl v4, .inl v5] SH g5 Q6 ∧ ∀ (r6 : Int) (g6 : vx_M), Q6 r6 g6 → Q r6 g6)) ∧ (r5 = 0 → Q (-3) g5)))))))))))))))) : vN l mX5_person (d + 1) (vx_pi SH Q) SH g 0 [some (.inr (some 0)), some (.inl v1), some (.inl v2), some (.inl v3), some (.inl v4), some (.inl v5)] [] := by
  refine vr_iload_n 1 dX5_person_0 rfl rfl rfl ?_
  refine vr_bipush 3 dX5_person_1 rfl (by decide) ⟨by decide, by decide⟩ ?_
  refine vr_sipush 6 dX5_person_3 rfl (by decide) ⟨by decide, by decide⟩ ?_
  obtain ⟨Q1, hq, h⟩ := h
  refine vr_callSi 9 [.inl v1, .inl 100, .inl 200] [] dX5_person_6 rfl mc_X5_72 dn_X5_within rfl rfl (Nat.le_of_ble_eq_true rfl) (vx_rmR (by decide)) ⟨rfl, rfl⟩ ⟨Nat.le_refl _, Nat.le_refl _⟩ (fun _ _ => trivial) (fun _ _ => trivial) hq (fun r1 sh9 g1 hp _ _ => ?_)
  obtain ⟨e9, z9, e8, hp⟩ := hp
  subst e9
  cases e8
  replace h := h r1 g1 hp
  refine vr_if_eq 56 12 dX5_person_9 rfl rfl (fun c => ?_) (fun c => ?_)
  · replace h := h.1 c
    refine vr_bipush 58 dX5_person_56 rfl (by decide) ⟨by decide, by decide⟩ ?_
    exact vr_iret rfl (Nat.le_refl _) (Nat.le_refl _) dX5_person_58 ⟨rfl, _, rfl, h⟩
  · replace h := h.2 c
    refine vr_iload_n 13 dX5_person_12 rfl rfl rfl ?_
    refine vr_bipush 15 dX5_person_13 rfl (by decide) ⟨by decide, by decide⟩ ?_
    refine vr_bipush 17 dX5_person_15 rfl (by decide) ⟨by decide, by decide⟩ ?_
    obtain ⟨Q2, hq, h⟩ := h
    refine vr_callSi 20 [.inl v2, .inl 20, .inl 120] [] dX5_person_17 rfl mc_X5_72 dn_X5_within rfl rfl (Nat.le_of_ble_eq_true rfl) (vx_rmR (by decide)) ⟨rfl, rfl⟩ ⟨Nat.le_refl _, Nat.le_refl _⟩ (fun _ _ => trivial) (fun _ _ => trivial) hq (fun r2 sh9 g2 hp _ _ => ?_)
    obtain ⟨e9, z9, e8, hp⟩ := hp
    subst e9
    cases e8
    replace h := h r2 g2 hp
    refine vr_if_eq 56 23 dX5_person_20 rfl rfl (fun c => ?_) (fun c => ?_)
    · replace h := h.1 c
      refine vr_bipush 58 dX5_person_56 rfl (by decide) ⟨by decide, by decide⟩ ?_
      exact vr_iret rfl (Nat.le_refl _) (Nat.le_refl _) dX5_person_58 ⟨rfl, _, rfl, h⟩
    · replace h := h.2 c
      refine vr_iload_n 24 dX5_person_23 rfl rfl rfl ?_
      refine vr_iconst 25 dX5_person_24 rfl ⟨by decide, by decide⟩ ?_
      refine vr_sipush 28 dX5_person_25 rfl (by decide) ⟨by decide, by decide⟩ ?_
      obtain ⟨Q3, hq, h⟩ := h
      refine vr_callSi 31 [.inl v3, .inl 0, .inl 400] [] dX5_person_28 rfl mc_X5_72 dn_X5_within rfl rfl (Nat.le_of_ble_eq_true rfl) (vx_rmR (by decide)) ⟨rfl, rfl⟩ ⟨Nat.le_refl _, Nat.le_refl _⟩ (fun _ _ => trivial) (fun _ _ => trivial) hq (fun r3 sh9 g3 hp _ _ => ?_)
      obtain ⟨e9, z9, e8, hp⟩ := hp
      subst e9
      cases e8
      replace h := h r3 g3 hp
      refine vr_if_eq 56 34 dX5_person_31 rfl rfl (fun c => ?_) (fun c => ?_)
      · replace h := h.1 c
        refine vr_bipush 58 dX5_person_56 rfl (by decide) ⟨by decide, by decide⟩ ?_
        exact vr_iret rfl (Nat.le_refl _) (Nat.le_refl _) dX5_person_58 ⟨rfl, _, rfl, h⟩
      · replace h := h.2 c
        refine vr_iload 36 dX5_person_34 rfl rfl ?_
        refine vr_iconst 37 dX5_person_36 rfl ⟨by decide, by decide⟩ ?_
        refine vr_iconst 38 dX5_person_37 rfl ⟨by decide, by decide⟩ ?_
        obtain ⟨Q4, hq, h⟩ := h
        refine vr_callSi 41 [.inl v4, .inl 0, .inl 3] [] dX5_person_38 rfl mc_X5_72 dn_X5_within rfl rfl (Nat.le_of_ble_eq_true rfl) (vx_rmR (by decide)) ⟨rfl, rfl⟩ ⟨Nat.le_refl _, Nat.le_refl _⟩ (fun _ _ => trivial) (fun _ _ => trivial) hq (fun r4 sh9 g4 hp _ _ => ?_)
        obtain ⟨e9, z9, e8, hp⟩ := hp
        subst e9
        cases e8
        replace h := h r4 g4 hp
        refine vr_if_eq 56 44 dX5_person_41 rfl rfl (fun c => ?_) (fun c => ?_)
        · replace h := h.1 c
          refine vr_bipush 58 dX5_person_56 rfl (by decide) ⟨by decide, by decide⟩ ?_
          exact vr_iret rfl (Nat.le_refl _) (Nat.le_refl _) dX5_person_58 ⟨rfl, _, rfl, h⟩
        · replace h := h.2 c
          refine vr_iload 46 dX5_person_44 rfl rfl ?_
          refine vr_iconst 47 dX5_person_46 rfl ⟨by decide, by decide⟩ ?_
          refine vr_sipush 50 dX5_person_47 rfl (by decide) ⟨by decide, by decide⟩ ?_
          obtain ⟨Q5, hq, h⟩ := h
          refine vr_callSi 53 [.inl v5, .inl 0, .inl 20000] [] dX5_person_50 rfl mc_X5_72 dn_X5_within rfl rfl (Nat.le_of_ble_eq_true rfl) (vx_rmR (by decide)) ⟨rfl, rfl⟩ ⟨Nat.le_refl _, Nat.le_refl _⟩ (fun _ _ => trivial) (fun _ _ => trivial) hq (fun r5 sh9 g5 hp _ _ => ?_)
          obtain ⟨e9, z9, e8, hp⟩ := hp
          subst e9
          cases e8
          replace h := h r5 g5 hp
          refine vr_if_ne 59 56 dX5_person_53 rfl rfl (fun c => ?_) (fun c => ?_)
          · replace h := h.1 c
            refine vr_aload_n 60 dX5_person_59 rfl rfl rfl ?_
            refine vr_getr 63 1 cl_X5 fl_X5_19 (by decide) dX5_person_60 rfl s_0 rfl ?_
            refine vr_iload_n 64 dX5_person_63 rfl rfl rfl ?_
            refine vr_iload_n 65 dX5_person_64 rfl rfl rfl ?_
            refine vr_iload_n 66 dX5_person_65 rfl rfl rfl ?_
            refine vr_iload 68 dX5_person_66 rfl rfl ?_
            refine vr_iload 70 dX5_person_68 rfl rfl ?_
            obtain ⟨Q6, hq, h⟩ := h
            refine vr_callVi 73 [.inl v1, .inl v2, .inl v3, .inl v4, .inl v5] 13 [] dX5_person_70 rfl mc_X5_96 dn_X1_add rfl rfl s_13 rfl (Nat.le_of_ble_eq_true rfl) (vx_rmR (by decide)) ⟨rfl, rfl⟩ ⟨Nat.le_refl _, Nat.le_refl _⟩ (fun _ _ => trivial) (fun _ _ => trivial) hq (fun r6 sh9 g6 hp _ _ => ?_)
            obtain ⟨e9, z9, e8, hp⟩ := hp
            subst e9
            cases e8
            replace h := h r6 g6 hp
            exact vr_iret rfl (Nat.le_refl _) (Nat.le_refl _) dX5_person_73 ⟨rfl, _, rfl, h⟩
          · replace h := h.2 c
            refine vr_bipush 58 dX5_person_56 rfl (by decide) ⟨by decide, by decide⟩ ?_
            exact vr_iret rfl (Nat.le_refl _) (Nat.le_refl _) dX5_person_58 ⟨rfl, _, rfl, h⟩
theorem kX5_person {l : Launch} {d : Nat} {Q : Int → vx_M → Prop} (g : vx_M) (v1 v2 v3 v4 v5 : Int) (h : (∃ Q1 : Int → vx_M → Prop, vNi l mX5_within d [.inl v1, .inl 100, .inl 200] SH g Q1 ∧ ∀ (r1 : Int) (g1 : vx_M), Q1 r1 g1 → ((r1 = 0 → Q (-3) g1) ∧ (¬ r1 = 0 → (∃ Q2 : Int → vx_M → Prop, vNi l mX5_within d [.inl v2, .inl 20, .inl 120] SH g1 Q2 ∧ ∀ (r2 : Int) (g2 : vx_M), Q2 r2 g2 → ((r2 = 0 → Q (-3) g2) ∧ (¬ r2 = 0 → (∃ Q3 : Int → vx_M → Prop, vNi l mX5_within d [.inl v3, .inl 0, .inl 400] SH g2 Q3 ∧ ∀ (r3 : Int) (g3 : vx_M), Q3 r3 g3 → ((r3 = 0 → Q (-3) g3) ∧ (¬ r3 = 0 → (∃ Q4 : Int → vx_M → Prop, vNi l mX5_within d [.inl v4, .inl 0, .inl 3] SH g3 Q4 ∧ ∀ (r4 : Int) (g4 : vx_M), Q4 r4 g4 → ((r4 = 0 → Q (-3) g4) ∧ (¬ r4 = 0 → (∃ Q5 : Int → vx_M → Prop, vNi l mX5_within d [.inl v5, .inl 0, .inl 20000] SH g4 Q5 ∧ ∀ (r5 : Int) (g5 : vx_M), Q5 r5 g5 → ((¬ r5 = 0 → (∃ Q6 : Int → vx_M → Prop, vNi l mX1_add d [.inr (some 13), .inl v1, .inl v2, .inl v3, .inl v4, .inl v5] SH g5 Q6 ∧ ∀ (r6 : Int) (g6 : vx_M), Q6 r6 g6 → Q r6 g6)) ∧ (r5 = 0 → Q (-3) g5)))))))))))))))) : vNi l mX5_person (d + 1) [.inr (some 0), .inl v1, .inl v2, .inl v3, .inl v4, .inl v5] SH g Q := vNi_of [some (.inr (some 0)), some (.inl v1), some (.inl v2), some (.inl v3), some (.inl v4), some (.inl v5)] pn_X5 (Nat.le_of_ble_eq_true rfl) rfl (tX5_person_0 g v1 v2 v3 v4 v5 h)
set_option maxRecDepth 100000 in
theorem tX5_out_0 {l : Launch} {d : Nat} {Q : Int → vx_M → Prop} (g : vx_M) (v1 v2 : Int) (h : ((v1 < 0 → Q (-2) g) ∧ (¬ v1 < 0 → ((v1 < (g 13 6) → (0 ≤ v1 ∧ v1 < 8) ∧ (((g 19 v1) = 0 → vN l mX5_out d (vx_pi SH Q) SH g 35 [some (.inr (some 0)), some (.inl v1), some (.inl v2), none] [.inl 0]) ∧ (¬ (g 19 v1) = 0 → vN l mX5_out d (vx_pi SH Q) SH g 35 [some (.inr (some 0)), some (.inl v1), some (.inl v2), none] [.inl 1]))) ∧ (¬ v1 < (g 13 6) → Q (-2) g))))) : vN l mX5_out d (vx_pi SH Q) SH g 0 [some (.inr (some 0)), some (.inl v1), some (.inl v2), none] [] := by
  refine vr_iload_n 1 dX5_out_0 rfl rfl rfl ?_
  refine vr_if_lt 15 4 dX5_out_1 rfl rfl (fun c => ?_) (fun c => ?_)
  · replace h := h.1 c
    refine vr_bipush 17 dX5_out_15 rfl (by decide) ⟨by decide, by decide⟩ ?_
    exact vr_iret rfl (Nat.le_refl _) (Nat.le_refl _) dX5_out_17 ⟨rfl, _, rfl, h⟩
  · replace h := h.2 c
    refine vr_iload_n 5 dX5_out_4 rfl rfl rfl ?_
    refine vr_aload_n 6 dX5_out_5 rfl rfl rfl ?_
    refine vr_getr 9 1 cl_X5 fl_X5_19 (by decide) dX5_out_6 rfl s_0 rfl ?_
    refine vr_geti 12 6 6 cl_X1 fl_X5_100 (by decide) rfl dX5_out_9 rfl s_13 rfl ?_
    refine vr_icmp_lt 18 15 dX5_out_12 rfl rfl (fun c => ?_) (fun c => ?_)
    · replace h := h.1 c
      refine vr_aload_n 19 dX5_out_18 rfl rfl rfl ?_
      refine vr_getr 22 1 cl_X5 fl_X5_19 (by decide) dX5_out_19 rfl s_0 rfl ?_
      refine vr_getr 25 5 cl_X1 fl_X5_103 (by decide) dX5_out_22 rfl s_13 rfl ?_
      refine vr_iload_n 26 dX5_out_25 rfl rfl rfl ?_
      obtain ⟨o1, h⟩ := h
      refine vr_zald 27 dX5_out_26 rfl s_19 o1.1 o1.2 ?_
      refine vr_if_eq 34 30 dX5_out_27 rfl rfl (fun c => ?_) (fun c => ?_)
      · replace h := h.1 c
        refine vr_iconst 35 dX5_out_34 rfl ⟨by decide, by decide⟩ ?_
        exact h
      · replace h := h.2 c
        refine vr_iconst 31 dX5_out_30 rfl ⟨by decide, by decide⟩ ?_
        refine vr_goto 35 dX5_out_31 rfl ?_
        exact h
    · replace h := h.2 c
      refine vr_bipush 17 dX5_out_15 rfl (by decide) ⟨by decide, by decide⟩ ?_
      exact vr_iret rfl (Nat.le_refl _) (Nat.le_refl _) dX5_out_17 ⟨rfl, _, rfl, h⟩
theorem kX5_out {l : Launch} {d : Nat} {Q : Int → vx_M → Prop} (g : vx_M) (v1 v2 : Int) (h : ((v1 < 0 → Q (-2) g) ∧ (¬ v1 < 0 → ((v1 < (g 13 6) → (0 ≤ v1 ∧ v1 < 8) ∧ (((g 19 v1) = 0 → vN l mX5_out d (vx_pi SH Q) SH g 35 [some (.inr (some 0)), some (.inl v1), some (.inl v2), none] [.inl 0]) ∧ (¬ (g 19 v1) = 0 → vN l mX5_out d (vx_pi SH Q) SH g 35 [some (.inr (some 0)), some (.inl v1), some (.inl v2), none] [.inl 1]))) ∧ (¬ v1 < (g 13 6) → Q (-2) g))))) : vNi l mX5_out d [.inr (some 0), .inl v1, .inl v2] SH g Q := vNi_of [some (.inr (some 0)), some (.inl v1), some (.inl v2), none] pn_X5 (Nat.le_of_ble_eq_true rfl) rfl (tX5_out_0 g v1 v2 h)
set_option maxRecDepth 100000 in
theorem tX5_out_35 {l : Launch} {d : Nat} {Q : Int → vx_M → Prop} (g : vx_M) (v1 v2 w0 : Int) (h : (0 ≤ v1 ∧ v1 < 8) ∧ (v2 = 0 ∨ v2 = 1) ∧ Q w0 (vx_u g 19 v1 v2)) : vN l mX5_out d (vx_pi SH Q) SH g 35 [some (.inr (some 0)), some (.inl v1), some (.inl v2), none] [.inl w0] := by
  refine vr_istore_n 36 [some (.inr (some 0)), some (.inl v1), some (.inl v2), some (.inl w0)] dX5_out_35 rfl rfl (by decide) rfl ?_
  refine vr_aload_n 37 dX5_out_36 rfl rfl rfl ?_
  refine vr_getr 40 1 cl_X5 fl_X5_19 (by decide) dX5_out_37 rfl s_0 rfl ?_
  refine vr_getr 43 5 cl_X1 fl_X5_103 (by decide) dX5_out_40 rfl s_13 rfl ?_
  refine vr_iload_n 44 dX5_out_43 rfl rfl rfl ?_
  refine vr_iload_n 45 dX5_out_44 rfl rfl rfl ?_
  obtain ⟨o1, h⟩ := h
  obtain ⟨o2, h⟩ := h
  refine vr_zast 46 dX5_out_45 rfl s_19 o1.1 o1.2 o2 ?_
  refine vr_iload_n 47 dX5_out_46 rfl rfl rfl ?_
  exact vr_iret rfl (Nat.le_refl _) (Nat.le_refl _) dX5_out_47 ⟨rfl, _, rfl, h⟩
set_option maxRecDepth 100000 in
theorem tX5_play_0 {l : Launch} {d : Nat} {Q : Int → vx_M → Prop} (g : vx_M) (v1 : Int) (h : (∃ Q1 : Int → vx_M → Prop, vNi l mX5_within d [.inl v1, .inl 0, .inl 50] SH g Q1 ∧ ∀ (r1 : Int) (g1 : vx_M), Q1 r1 g1 → ((¬ r1 = 0 → Q (g1 20 2) (vx_u g1 20 2 v1)) ∧ (r1 = 0 → Q (-3) g1)))) : vN l mX5_play (d + 1) (vx_pi SH Q) SH g 0 [some (.inr (some 0)), some (.inl v1), none] [] := by
  refine vr_iload_n 1 dX5_play_0 rfl rfl rfl ?_
  refine vr_iconst 2 dX5_play_1 rfl ⟨by decide, by decide⟩ ?_
  refine vr_bipush 4 dX5_play_2 rfl (by decide) ⟨by decide, by decide⟩ ?_
  obtain ⟨Q1, hq, h⟩ := h
  refine vr_callSi 7 [.inl v1, .inl 0, .inl 50] [] dX5_play_4 rfl mc_X5_72 dn_X5_within rfl rfl (Nat.le_of_ble_eq_true rfl) (vx_rmR (by decide)) ⟨rfl, rfl⟩ ⟨Nat.le_refl _, Nat.le_refl _⟩ (fun _ _ => trivial) (fun _ _ => trivial) hq (fun r1 sh9 g1 hp _ _ => ?_)
  obtain ⟨e9, z9, e8, hp⟩ := hp
  subst e9
  cases e8
  replace h := h r1 g1 hp
  refine vr_if_ne 13 10 dX5_play_7 rfl rfl (fun c => ?_) (fun c => ?_)
  · replace h := h.1 c
    refine vr_aload_n 14 dX5_play_13 rfl rfl rfl ?_
    refine vr_getr 17 2 cl_X5 fl_X5_28 (by decide) dX5_play_14 rfl s_0 rfl ?_
    refine vr_geti 20 2 2 cl_X2 fl_X5_107 (by decide) rfl dX5_play_17 rfl s_20 rfl ?_
    refine vr_istore_n 21 [some (.inr (some 0)), some (.inl v1), some (.inl (g1 20 2))] dX5_play_20 rfl rfl (by decide) rfl ?_
    refine vr_aload_n 22 dX5_play_21 rfl rfl rfl ?_
    refine vr_getr 25 2 cl_X5 fl_X5_28 (by decide) dX5_play_22 rfl s_0 rfl ?_
    refine vr_iload_n 26 dX5_play_25 rfl rfl rfl ?_
    refine vr_puti 29 2 2 cl_X2 fl_X5_107 (by decide) rfl rfl rfl dX5_play_26 rfl s_20 rfl ?_
    refine vr_iload_n 30 dX5_play_29 rfl rfl rfl ?_
    exact vr_iret rfl (Nat.le_refl _) (Nat.le_refl _) dX5_play_30 ⟨rfl, _, rfl, h⟩
  · replace h := h.2 c
    refine vr_bipush 12 dX5_play_10 rfl (by decide) ⟨by decide, by decide⟩ ?_
    exact vr_iret rfl (Nat.le_refl _) (Nat.le_refl _) dX5_play_12 ⟨rfl, _, rfl, h⟩
theorem kX5_play {l : Launch} {d : Nat} {Q : Int → vx_M → Prop} (g : vx_M) (v1 : Int) (h : (∃ Q1 : Int → vx_M → Prop, vNi l mX5_within d [.inl v1, .inl 0, .inl 50] SH g Q1 ∧ ∀ (r1 : Int) (g1 : vx_M), Q1 r1 g1 → ((¬ r1 = 0 → Q (g1 20 2) (vx_u g1 20 2 v1)) ∧ (r1 = 0 → Q (-3) g1)))) : vNi l mX5_play (d + 1) [.inr (some 0), .inl v1] SH g Q := vNi_of [some (.inr (some 0)), some (.inl v1), none] pn_X5 (Nat.le_of_ble_eq_true rfl) rfl (tX5_play_0 g v1 h)
set_option maxRecDepth 100000 in
theorem tX5_fits_0 {l : Launch} {d : Nat} {Q : Int → vx_M → Prop} (g : vx_M) (h : (∃ Q1 : Int → vx_M → Prop, vNi l mX3_countFitting d [.inr (some 21)] SH g Q1 ∧ ∀ (r1 : Int) (g1 : vx_M), Q1 r1 g1 → Q r1 g1)) : vN l mX5_fits (d + 1) (vx_pi SH Q) SH g 0 [some (.inr (some 0))] [] := by
  refine vr_aload_n 1 dX5_fits_0 rfl rfl rfl ?_
  refine vr_getr 4 3 cl_X5 fl_X5_37 (by decide) dX5_fits_1 rfl s_0 rfl ?_
  obtain ⟨Q1, hq, h⟩ := h
  refine vr_callVi 7 [] 21 [] dX5_fits_4 rfl mc_X5_110 dn_X3_countFitting rfl rfl s_21 rfl (Nat.le_of_ble_eq_true rfl) (vx_rmR (by decide)) ⟨rfl, rfl⟩ ⟨Nat.le_refl _, Nat.le_refl _⟩ (fun _ _ => trivial) (fun _ _ => trivial) hq (fun r1 sh9 g1 hp _ _ => ?_)
  obtain ⟨e9, z9, e8, hp⟩ := hp
  subst e9
  cases e8
  replace h := h r1 g1 hp
  exact vr_iret rfl (Nat.le_refl _) (Nat.le_refl _) dX5_fits_7 ⟨rfl, _, rfl, h⟩
theorem kX5_fits {l : Launch} {d : Nat} {Q : Int → vx_M → Prop} (g : vx_M) (h : (∃ Q1 : Int → vx_M → Prop, vNi l mX3_countFitting d [.inr (some 21)] SH g Q1 ∧ ∀ (r1 : Int) (g1 : vx_M), Q1 r1 g1 → Q r1 g1)) : vNi l mX5_fits (d + 1) [.inr (some 0)] SH g Q := vNi_of [some (.inr (some 0))] pn_X5 (Nat.le_of_ble_eq_true rfl) rfl (tX5_fits_0 g  h)
set_option maxRecDepth 100000 in
theorem tX5_level_0 {l : Launch} {d : Nat} {Q : Int → vx_M → Prop} (g : vx_M) (h : (∃ Q1 : Int → vx_M → Prop, vNi l mX3_seekLevel d [.inr (some 21)] SH g Q1 ∧ ∀ (r1 : Int) (g1 : vx_M), Q1 r1 g1 → ((r1 = 0 → Q (-1) g1) ∧ (¬ r1 = 0 → (∃ Q2 : Int → vx_M → Prop, vNi l mX3_uneven d [.inr (some 21)] SH g1 Q2 ∧ ∀ (r2 : Int) (g2 : vx_M), Q2 r2 g2 → Q r2 g2))))) : vN l mX5_level (d + 1) (vx_pi SH Q) SH g 0 [some (.inr (some 0))] [] := by
  refine vr_aload_n 1 dX5_level_0 rfl rfl rfl ?_
  refine vr_getr 4 3 cl_X5 fl_X5_37 (by decide) dX5_level_1 rfl s_0 rfl ?_
  obtain ⟨Q1, hq, h⟩ := h
  refine vr_callVi 7 [] 21 [] dX5_level_4 rfl mc_X5_114 dn_X3_seekLevel rfl rfl s_21 rfl (Nat.le_of_ble_eq_true rfl) (vx_rmR (by decide)) ⟨rfl, rfl⟩ ⟨Nat.le_refl _, Nat.le_refl _⟩ (fun _ _ => trivial) (fun _ _ => trivial) hq (fun r1 sh9 g1 hp _ _ => ?_)
  obtain ⟨e9, z9, e8, hp⟩ := hp
  subst e9
  cases e8
  replace h := h r1 g1 hp
  refine vr_if_eq 20 10 dX5_level_7 rfl rfl (fun c => ?_) (fun c => ?_)
  · replace h := h.1 c
    refine vr_iconst 21 dX5_level_20 rfl ⟨by decide, by decide⟩ ?_
    exact vr_iret rfl (Nat.le_refl _) (Nat.le_refl _) dX5_level_21 ⟨rfl, _, rfl, h⟩
  · replace h := h.2 c
    refine vr_aload_n 11 dX5_level_10 rfl rfl rfl ?_
    refine vr_getr 14 3 cl_X5 fl_X5_37 (by decide) dX5_level_11 rfl s_0 rfl ?_
    obtain ⟨Q2, hq, h⟩ := h
    refine vr_callVi 17 [] 21 [] dX5_level_14 rfl mc_X5_118 dn_X3_uneven rfl rfl s_21 rfl (Nat.le_of_ble_eq_true rfl) (vx_rmR (by decide)) ⟨rfl, rfl⟩ ⟨Nat.le_refl _, Nat.le_refl _⟩ (fun _ _ => trivial) (fun _ _ => trivial) hq (fun r2 sh9 g2 hp _ _ => ?_)
    obtain ⟨e9, z9, e8, hp⟩ := hp
    subst e9
    cases e8
    replace h := h r2 g2 hp
    refine vr_goto 21 dX5_level_17 rfl ?_
    exact vr_iret rfl (Nat.le_refl _) (Nat.le_refl _) dX5_level_21 ⟨rfl, _, rfl, h⟩
theorem kX5_level {l : Launch} {d : Nat} {Q : Int → vx_M → Prop} (g : vx_M) (h : (∃ Q1 : Int → vx_M → Prop, vNi l mX3_seekLevel d [.inr (some 21)] SH g Q1 ∧ ∀ (r1 : Int) (g1 : vx_M), Q1 r1 g1 → ((r1 = 0 → Q (-1) g1) ∧ (¬ r1 = 0 → (∃ Q2 : Int → vx_M → Prop, vNi l mX3_uneven d [.inr (some 21)] SH g1 Q2 ∧ ∀ (r2 : Int) (g2 : vx_M), Q2 r2 g2 → Q r2 g2))))) : vNi l mX5_level (d + 1) [.inr (some 0)] SH g Q := vNi_of [some (.inr (some 0))] pn_X5 (Nat.le_of_ble_eq_true rfl) rfl (tX5_level_0 g  h)
set_option maxRecDepth 100000 in
theorem tX5_close_0 {l : Launch} {d : Nat} {Q : Int → vx_M → Prop} (g : vx_M) (h : (∃ Q1 : Int → vx_M → Prop, vNi l mX3_seekClose d [.inr (some 21), .inr (some 39)] SH g Q1 ∧ ∀ (r1 : Int) (g1 : vx_M), Q1 r1 g1 → ((r1 = 0 → Q (-1) g1) ∧ (¬ r1 = 0 → (∃ Q2 : Int → vx_M → Prop, vNi l mX3_moves d [.inr (some 21)] SH g1 Q2 ∧ ∀ (r2 : Int) (g2 : vx_M), Q2 r2 g2 → Q r2 g2))))) : vN l mX5_close (d + 1) (vx_pi SH Q) SH g 0 [some (.inr (some 0))] [] := by
  refine vr_aload_n 1 dX5_close_0 rfl rfl rfl ?_
  refine vr_getr 4 3 cl_X5 fl_X5_37 (by decide) dX5_close_1 rfl s_0 rfl ?_
  refine vr_aload_n 5 dX5_close_4 rfl rfl rfl ?_
  refine vr_getr 8 5 cl_X5 fl_X5_48 (by decide) dX5_close_5 rfl s_0 rfl ?_
  obtain ⟨Q1, hq, h⟩ := h
  refine vr_callVi 11 [.inr (some 39)] 21 [] dX5_close_8 rfl mc_X5_121 dn_X3_seekClose rfl rfl s_21 rfl (Nat.le_of_ble_eq_true rfl) (vx_rmR (by decide)) ⟨rfl, rfl⟩ ⟨Nat.le_refl _, Nat.le_refl _⟩ (fun _ _ => trivial) (fun _ _ => trivial) hq (fun r1 sh9 g1 hp _ _ => ?_)
  obtain ⟨e9, z9, e8, hp⟩ := hp
  subst e9
  cases e8
  replace h := h r1 g1 hp
  refine vr_if_eq 24 14 dX5_close_11 rfl rfl (fun c => ?_) (fun c => ?_)
  · replace h := h.1 c
    refine vr_iconst 25 dX5_close_24 rfl ⟨by decide, by decide⟩ ?_
    exact vr_iret rfl (Nat.le_refl _) (Nat.le_refl _) dX5_close_25 ⟨rfl, _, rfl, h⟩
  · replace h := h.2 c
    refine vr_aload_n 15 dX5_close_14 rfl rfl rfl ?_
    refine vr_getr 18 3 cl_X5 fl_X5_37 (by decide) dX5_close_15 rfl s_0 rfl ?_
    obtain ⟨Q2, hq, h⟩ := h
    refine vr_callVi 21 [] 21 [] dX5_close_18 rfl mc_X5_125 dn_X3_moves rfl rfl s_21 rfl (Nat.le_of_ble_eq_true rfl) (vx_rmR (by decide)) ⟨rfl, rfl⟩ ⟨Nat.le_refl _, Nat.le_refl _⟩ (fun _ _ => trivial) (fun _ _ => trivial) hq (fun r2 sh9 g2 hp _ _ => ?_)
    obtain ⟨e9, z9, e8, hp⟩ := hp
    subst e9
    cases e8
    replace h := h r2 g2 hp
    refine vr_goto 25 dX5_close_21 rfl ?_
    exact vr_iret rfl (Nat.le_refl _) (Nat.le_refl _) dX5_close_25 ⟨rfl, _, rfl, h⟩
theorem kX5_close {l : Launch} {d : Nat} {Q : Int → vx_M → Prop} (g : vx_M) (h : (∃ Q1 : Int → vx_M → Prop, vNi l mX3_seekClose d [.inr (some 21), .inr (some 39)] SH g Q1 ∧ ∀ (r1 : Int) (g1 : vx_M), Q1 r1 g1 → ((r1 = 0 → Q (-1) g1) ∧ (¬ r1 = 0 → (∃ Q2 : Int → vx_M → Prop, vNi l mX3_moves d [.inr (some 21)] SH g1 Q2 ∧ ∀ (r2 : Int) (g2 : vx_M), Q2 r2 g2 → Q r2 g2))))) : vNi l mX5_close (d + 1) [.inr (some 0)] SH g Q := vNi_of [some (.inr (some 0))] pn_X5 (Nat.le_of_ble_eq_true rfl) rfl (tX5_close_0 g  h)
set_option maxRecDepth 100000 in
theorem tX5_take_0 {l : Launch} {d : Nat} {Q : Int → vx_M → Prop} (g : vx_M) (v1 : Int) (h : (∃ Q1 : Int → vx_M → Prop, vNi l mX5_within d [.inl v1, .inl 0, .inl 1] SH g Q1 ∧ ∀ (r1 : Int) (g1 : vx_M), Q1 r1 g1 → ((¬ r1 = 0 → ((¬ v1 = 0 → (∃ Q2 : Int → vx_M → Prop, vNi l mX3_seekClose d [.inr (some 21), .inr (some 39)] SH g1 Q2 ∧ ∀ (r2 : Int) (g2 : vx_M), Q2 r2 g2 → vN l mX5_take (d + 1) (vx_pi SH Q) SH g2 37 [some (.inr (some 0)), some (.inl v1), none] [.inl r2])) ∧ (v1 = 0 → (∃ Q3 : Int → vx_M → Prop, vNi l mX3_seekLevel d [.inr (some 21)] SH g1 Q3 ∧ ∀ (r3 : Int) (g3 : vx_M), Q3 r3 g3 → vN l mX5_take (d + 1) (vx_pi SH Q) SH g3 37 [some (.inr (some 0)), some (.inl v1), none] [.inl r3])))) ∧ (r1 = 0 → Q (-3) g1)))) : vN l mX5_take (d + 1) (vx_pi SH Q) SH g 0 [some (.inr (some 0)), some (.inl v1), none] [] := by
  refine vr_iload_n 1 dX5_take_0 rfl rfl rfl ?_
  refine vr_iconst 2 dX5_take_1 rfl ⟨by decide, by decide⟩ ?_
  refine vr_iconst 3 dX5_take_2 rfl ⟨by decide, by decide⟩ ?_
  obtain ⟨Q1, hq, h⟩ := h
  refine vr_callSi 6 [.inl v1, .inl 0, .inl 1] [] dX5_take_3 rfl mc_X5_72 dn_X5_within rfl rfl (Nat.le_of_ble_eq_true rfl) (vx_rmR (by decide)) ⟨rfl, rfl⟩ ⟨Nat.le_refl _, Nat.le_refl _⟩ (fun _ _ => trivial) (fun _ _ => trivial) hq (fun r1 sh9 g1 hp _ _ => ?_)
  obtain ⟨e9, z9, e8, hp⟩ := hp
  subst e9
  cases e8
  replace h := h r1 g1 hp
  refine vr_if_ne 12 9 dX5_take_6 rfl rfl (fun c => ?_) (fun c => ?_)
  · replace h := h.1 c
    refine vr_iload_n 13 dX5_take_12 rfl rfl rfl ?_
    refine vr_if_ne 26 16 dX5_take_13 rfl rfl (fun c => ?_) (fun c => ?_)
    · replace h := h.1 c
      refine vr_aload_n 27 dX5_take_26 rfl rfl rfl ?_
      refine vr_getr 30 3 cl_X5 fl_X5_37 (by decide) dX5_take_27 rfl s_0 rfl ?_
      refine vr_aload_n 31 dX5_take_30 rfl rfl rfl ?_
      refine vr_getr 34 5 cl_X5 fl_X5_48 (by decide) dX5_take_31 rfl s_0 rfl ?_
      obtain ⟨Q2, hq, h⟩ := h
      refine vr_callVi 37 [.inr (some 39)] 21 [] dX5_take_34 rfl mc_X5_121 dn_X3_seekClose rfl rfl s_21 rfl (Nat.le_of_ble_eq_true rfl) (vx_rmR (by decide)) ⟨rfl, rfl⟩ ⟨Nat.le_refl _, Nat.le_refl _⟩ (fun _ _ => trivial) (fun _ _ => trivial) hq (fun r2 sh9 g2 hp _ _ => ?_)
      obtain ⟨e9, z9, e8, hp⟩ := hp
      subst e9
      cases e8
      replace h := h r2 g2 hp
      exact h
    · replace h := h.2 c
      refine vr_aload_n 17 dX5_take_16 rfl rfl rfl ?_
      refine vr_getr 20 3 cl_X5 fl_X5_37 (by decide) dX5_take_17 rfl s_0 rfl ?_
      obtain ⟨Q3, hq, h⟩ := h
      refine vr_callVi 23 [] 21 [] dX5_take_20 rfl mc_X5_114 dn_X3_seekLevel rfl rfl s_21 rfl (Nat.le_of_ble_eq_true rfl) (vx_rmR (by decide)) ⟨rfl, rfl⟩ ⟨Nat.le_refl _, Nat.le_refl _⟩ (fun _ _ => trivial) (fun _ _ => trivial) hq (fun r3 sh9 g3 hp _ _ => ?_)
      obtain ⟨e9, z9, e8, hp⟩ := hp
      subst e9
      cases e8
      replace h := h r3 g3 hp
      refine vr_goto 37 dX5_take_23 rfl ?_
      exact h
  · replace h := h.2 c
    refine vr_bipush 11 dX5_take_9 rfl (by decide) ⟨by decide, by decide⟩ ?_
    exact vr_iret rfl (Nat.le_refl _) (Nat.le_refl _) dX5_take_11 ⟨rfl, _, rfl, h⟩
theorem kX5_take {l : Launch} {d : Nat} {Q : Int → vx_M → Prop} (g : vx_M) (v1 : Int) (h : (∃ Q1 : Int → vx_M → Prop, vNi l mX5_within d [.inl v1, .inl 0, .inl 1] SH g Q1 ∧ ∀ (r1 : Int) (g1 : vx_M), Q1 r1 g1 → ((¬ r1 = 0 → ((¬ v1 = 0 → (∃ Q2 : Int → vx_M → Prop, vNi l mX3_seekClose d [.inr (some 21), .inr (some 39)] SH g1 Q2 ∧ ∀ (r2 : Int) (g2 : vx_M), Q2 r2 g2 → vN l mX5_take (d + 1) (vx_pi SH Q) SH g2 37 [some (.inr (some 0)), some (.inl v1), none] [.inl r2])) ∧ (v1 = 0 → (∃ Q3 : Int → vx_M → Prop, vNi l mX3_seekLevel d [.inr (some 21)] SH g1 Q3 ∧ ∀ (r3 : Int) (g3 : vx_M), Q3 r3 g3 → vN l mX5_take (d + 1) (vx_pi SH Q) SH g3 37 [some (.inr (some 0)), some (.inl v1), none] [.inl r3])))) ∧ (r1 = 0 → Q (-3) g1)))) : vNi l mX5_take (d + 1) [.inr (some 0), .inl v1] SH g Q := vNi_of [some (.inr (some 0)), some (.inl v1), none] pn_X5 (Nat.le_of_ble_eq_true rfl) rfl (tX5_take_0 g v1 h)
set_option maxRecDepth 100000 in
theorem tX5_take_37 {l : Launch} {d : Nat} {Q : Int → vx_M → Prop} (g : vx_M) (v1 w0 : Int) (h : ((¬ w0 = 0 → (0 ≤ g 1 5 ∧ g 1 5 ≤ 7) ∧ (∃ Q2 : Int → vx_M → Prop, vNi l mX3_uneven d [.inr (some 21)] SH (vx_u (vx_cp g 35 39 0 0 (g 1 5)) 0 6 1) Q2 ∧ ∀ (r2 : Int) (g2 : vx_M), Q2 r2 g2 → Q r2 g2)) ∧ (w0 = 0 → Q (-4) g))) : vN l mX5_take (d + 1) (vx_pi SH Q) SH g 37 [some (.inr (some 0)), some (.inl v1), none] [.inl w0] := by
  refine vr_istore_n 38 [some (.inr (some 0)), some (.inl v1), some (.inl w0)] dX5_take_37 rfl rfl (by decide) rfl ?_
  refine vr_iload_n 39 dX5_take_38 rfl rfl rfl ?_
  refine vr_if_ne 45 42 dX5_take_39 rfl rfl (fun c => ?_) (fun c => ?_)
  · replace h := h.1 c
    refine vr_aload_n 46 dX5_take_45 rfl rfl rfl ?_
    refine vr_getr 49 3 cl_X5 fl_X5_37 (by decide) dX5_take_46 rfl s_0 rfl ?_
    refine vr_getr 52 8 cl_X3 fl_X5_128 (by decide) dX5_take_49 rfl s_21 rfl ?_
    refine vr_iconst 53 dX5_take_52 rfl ⟨by decide, by decide⟩ ?_
    refine vr_aload_n 54 dX5_take_53 rfl rfl rfl ?_
    refine vr_getr 57 5 cl_X5 fl_X5_48 (by decide) dX5_take_54 rfl s_0 rfl ?_
    refine vr_iconst 58 dX5_take_57 rfl ⟨by decide, by decide⟩ ?_
    refine vr_aload_n 59 dX5_take_58 rfl rfl rfl ?_
    refine vr_getr 62 0 cl_X5 fl_X5_10 (by decide) dX5_take_59 rfl s_0 rfl ?_
    refine vr_geti 65 5 5 cl_X4 fl_X5_87 (by decide) rfl dX5_take_62 rfl s_1 rfl ?_
    obtain ⟨o1, h⟩ := h
    refine vr_acopy 68 dX5_take_65 rfl mc_X5_131 ac_1 ac_2 ac_3 s_35 s_39 (by decide) (by decide) o1.1 (by omega) (by omega) (by show 1 ≤ d + 1; omega) (by show _ + (7 + 11) ≤ 40 * (d + 1); simp only [List.length_cons, List.length_nil]; omega) ?_
    refine vr_aload_n 69 dX5_take_68 rfl rfl rfl ?_
    refine vr_iconst 70 dX5_take_69 rfl ⟨by decide, by decide⟩ ?_
    refine vr_putz 73 6 6 cl_X5 fl_X5_52 (by decide) rfl rfl rfl (by decide) dX5_take_70 rfl s_0 rfl ?_
    refine vr_aload_n 74 dX5_take_73 rfl rfl rfl ?_
    refine vr_getr 77 3 cl_X5 fl_X5_37 (by decide) dX5_take_74 rfl s_0 rfl ?_
    obtain ⟨Q2, hq, h⟩ := h
    refine vr_callVi 80 [] 21 [] dX5_take_77 rfl mc_X5_118 dn_X3_uneven rfl rfl s_21 rfl (Nat.le_of_ble_eq_true rfl) (vx_rmR (by decide)) ⟨rfl, rfl⟩ ⟨Nat.le_refl _, Nat.le_refl _⟩ (fun _ _ => trivial) (fun _ _ => trivial) hq (fun r2 sh9 g2 hp _ _ => ?_)
    obtain ⟨e9, z9, e8, hp⟩ := hp
    subst e9
    cases e8
    replace h := h r2 g2 hp
    exact vr_iret rfl (Nat.le_refl _) (Nat.le_refl _) dX5_take_80 ⟨rfl, _, rfl, h⟩
  · replace h := h.2 c
    refine vr_bipush 44 dX5_take_42 rfl (by decide) ⟨by decide, by decide⟩ ?_
    exact vr_iret rfl (Nat.le_refl _) (Nat.le_refl _) dX5_take_44 ⟨rfl, _, rfl, h⟩
set_option maxRecDepth 100000 in
theorem tX5_at_0 {l : Launch} {d : Nat} {Q : Int → vx_M → Prop} (g : vx_M) (v1 : Int) (h : (∃ Q1 : Int → vx_M → Prop, vNi l mX5_isPlace d [.inr (some 0), .inl v1] SH g Q1 ∧ ∀ (r1 : Int) (g1 : vx_M), Q1 r1 g1 → ((¬ r1 = 0 → (((g1 0 6) = 0 → Q (-4) g1) ∧ (¬ (g1 0 6) = 0 → (0 ≤ v1 ∧ v1 < 7) ∧ Q (g1 39 v1) g1))) ∧ (r1 = 0 → Q (-2) g1)))) : vN l mX5_at (d + 1) (vx_pi SH Q) SH g 0 [some (.inr (some 0)), some (.inl v1)] [] := by
  refine vr_aload_n 1 dX5_at_0 rfl rfl rfl ?_
  refine vr_iload_n 2 dX5_at_1 rfl rfl rfl ?_
  obtain ⟨Q1, hq, h⟩ := h
  refine vr_callVi 5 [.inl v1] 0 [] dX5_at_2 rfl mc_X5_137 dn_X5_isPlace rfl rfl s_0 rfl (Nat.le_of_ble_eq_true rfl) (vx_rmR (by decide)) ⟨rfl, rfl⟩ ⟨Nat.le_refl _, Nat.le_refl _⟩ (fun _ _ => trivial) (fun _ _ => trivial) hq (fun r1 sh9 g1 hp _ _ => ?_)
  obtain ⟨e9, z9, e8, hp⟩ := hp
  subst e9
  cases e8
  replace h := h r1 g1 hp
  refine vr_if_ne 11 8 dX5_at_5 rfl rfl (fun c => ?_) (fun c => ?_)
  · replace h := h.1 c
    refine vr_aload_n 12 dX5_at_11 rfl rfl rfl ?_
    refine vr_geti 15 6 6 cl_X5 fl_X5_52 (by decide) rfl dX5_at_12 rfl s_0 rfl ?_
    refine vr_if_eq 27 18 dX5_at_15 rfl rfl (fun c => ?_) (fun c => ?_)
    · replace h := h.1 c
      refine vr_bipush 29 dX5_at_27 rfl (by decide) ⟨by decide, by decide⟩ ?_
      exact vr_iret rfl (Nat.le_refl _) (Nat.le_refl _) dX5_at_29 ⟨rfl, _, rfl, h⟩
    · replace h := h.2 c
      refine vr_aload_n 19 dX5_at_18 rfl rfl rfl ?_
      refine vr_getr 22 5 cl_X5 fl_X5_48 (by decide) dX5_at_19 rfl s_0 rfl ?_
      refine vr_iload_n 23 dX5_at_22 rfl rfl rfl ?_
      obtain ⟨o2, h⟩ := h
      refine vr_iald 24 dX5_at_23 rfl s_39 o2.1 o2.2 ?_
      refine vr_goto 29 dX5_at_24 rfl ?_
      exact vr_iret rfl (Nat.le_refl _) (Nat.le_refl _) dX5_at_29 ⟨rfl, _, rfl, h⟩
  · replace h := h.2 c
    refine vr_bipush 10 dX5_at_8 rfl (by decide) ⟨by decide, by decide⟩ ?_
    exact vr_iret rfl (Nat.le_refl _) (Nat.le_refl _) dX5_at_10 ⟨rfl, _, rfl, h⟩
theorem kX5_at {l : Launch} {d : Nat} {Q : Int → vx_M → Prop} (g : vx_M) (v1 : Int) (h : (∃ Q1 : Int → vx_M → Prop, vNi l mX5_isPlace d [.inr (some 0), .inl v1] SH g Q1 ∧ ∀ (r1 : Int) (g1 : vx_M), Q1 r1 g1 → ((¬ r1 = 0 → (((g1 0 6) = 0 → Q (-4) g1) ∧ (¬ (g1 0 6) = 0 → (0 ≤ v1 ∧ v1 < 7) ∧ Q (g1 39 v1) g1))) ∧ (r1 = 0 → Q (-2) g1)))) : vNi l mX5_at (d + 1) [.inr (some 0), .inl v1] SH g Q := vNi_of [some (.inr (some 0)), some (.inl v1)] pn_X5 (Nat.le_of_ble_eq_true rfl) rfl (tX5_at_0 g v1 h)
set_option maxRecDepth 100000 in
theorem tX5_load_0 {l : Launch} {d : Nat} {Q : Int → vx_M → Prop} (g : vx_M) (v1 : Int) (h : (∃ Q1 : Int → vx_M → Prop, vNi l mX5_isPlace d [.inr (some 0), .inl v1] SH g Q1 ∧ ∀ (r1 : Int) (g1 : vx_M), Q1 r1 g1 → ((¬ r1 = 0 → (((g1 0 6) = 0 → Q (-4) g1) ∧ (¬ (g1 0 6) = 0 → (∃ Q2 : Int → vx_M → Prop, vNi l mX2_loadOn d [.inr (some 20), .inr (some 39), .inl v1, .inl (g1 1 5)] SH g1 Q2 ∧ ∀ (r2 : Int) (g2 : vx_M), Q2 r2 g2 → Q r2 g2)))) ∧ (r1 = 0 → Q (-2) g1)))) : vN l mX5_load (d + 1) (vx_pi SH Q) SH g 0 [some (.inr (some 0)), some (.inl v1)] [] := by
  refine vr_aload_n 1 dX5_load_0 rfl rfl rfl ?_
  refine vr_iload_n 2 dX5_load_1 rfl rfl rfl ?_
  obtain ⟨Q1, hq, h⟩ := h
  refine vr_callVi 5 [.inl v1] 0 [] dX5_load_2 rfl mc_X5_137 dn_X5_isPlace rfl rfl s_0 rfl (Nat.le_of_ble_eq_true rfl) (vx_rmR (by decide)) ⟨rfl, rfl⟩ ⟨Nat.le_refl _, Nat.le_refl _⟩ (fun _ _ => trivial) (fun _ _ => trivial) hq (fun r1 sh9 g1 hp _ _ => ?_)
  obtain ⟨e9, z9, e8, hp⟩ := hp
  subst e9
  cases e8
  replace h := h r1 g1 hp
  refine vr_if_ne 11 8 dX5_load_5 rfl rfl (fun c => ?_) (fun c => ?_)
  · replace h := h.1 c
    refine vr_aload_n 12 dX5_load_11 rfl rfl rfl ?_
    refine vr_geti 15 6 6 cl_X5 fl_X5_52 (by decide) rfl dX5_load_12 rfl s_0 rfl ?_
    refine vr_if_eq 40 18 dX5_load_15 rfl rfl (fun c => ?_) (fun c => ?_)
    · replace h := h.1 c
      refine vr_bipush 42 dX5_load_40 rfl (by decide) ⟨by decide, by decide⟩ ?_
      exact vr_iret rfl (Nat.le_refl _) (Nat.le_refl _) dX5_load_42 ⟨rfl, _, rfl, h⟩
    · replace h := h.2 c
      refine vr_aload_n 19 dX5_load_18 rfl rfl rfl ?_
      refine vr_getr 22 2 cl_X5 fl_X5_28 (by decide) dX5_load_19 rfl s_0 rfl ?_
      refine vr_aload_n 23 dX5_load_22 rfl rfl rfl ?_
      refine vr_getr 26 5 cl_X5 fl_X5_48 (by decide) dX5_load_23 rfl s_0 rfl ?_
      refine vr_iload_n 27 dX5_load_26 rfl rfl rfl ?_
      refine vr_aload_n 28 dX5_load_27 rfl rfl rfl ?_
      refine vr_getr 31 0 cl_X5 fl_X5_10 (by decide) dX5_load_28 rfl s_0 rfl ?_
      refine vr_geti 34 5 5 cl_X4 fl_X5_87 (by decide) rfl dX5_load_31 rfl s_1 rfl ?_
      obtain ⟨Q2, hq, h⟩ := h
      refine vr_callVi 37 [.inr (some 39), .inl v1, .inl (g1 1 5)] 20 [] dX5_load_34 rfl mc_X5_141 dn_X2_loadOn rfl rfl s_20 rfl (Nat.le_of_ble_eq_true rfl) (vx_rmR (by decide)) ⟨rfl, rfl⟩ ⟨Nat.le_refl _, Nat.le_refl _⟩ (fun _ _ => trivial) (fun _ _ => trivial) hq (fun r2 sh9 g2 hp _ _ => ?_)
      obtain ⟨e9, z9, e8, hp⟩ := hp
      subst e9
      cases e8
      replace h := h r2 g2 hp
      refine vr_goto 42 dX5_load_37 rfl ?_
      exact vr_iret rfl (Nat.le_refl _) (Nat.le_refl _) dX5_load_42 ⟨rfl, _, rfl, h⟩
  · replace h := h.2 c
    refine vr_bipush 10 dX5_load_8 rfl (by decide) ⟨by decide, by decide⟩ ?_
    exact vr_iret rfl (Nat.le_refl _) (Nat.le_refl _) dX5_load_10 ⟨rfl, _, rfl, h⟩
theorem kX5_load {l : Launch} {d : Nat} {Q : Int → vx_M → Prop} (g : vx_M) (v1 : Int) (h : (∃ Q1 : Int → vx_M → Prop, vNi l mX5_isPlace d [.inr (some 0), .inl v1] SH g Q1 ∧ ∀ (r1 : Int) (g1 : vx_M), Q1 r1 g1 → ((¬ r1 = 0 → (((g1 0 6) = 0 → Q (-4) g1) ∧ (¬ (g1 0 6) = 0 → (∃ Q2 : Int → vx_M → Prop, vNi l mX2_loadOn d [.inr (some 20), .inr (some 39), .inl v1, .inl (g1 1 5)] SH g1 Q2 ∧ ∀ (r2 : Int) (g2 : vx_M), Q2 r2 g2 → Q r2 g2)))) ∧ (r1 = 0 → Q (-2) g1)))) : vNi l mX5_load (d + 1) [.inr (some 0), .inl v1] SH g Q := vNi_of [some (.inr (some 0)), some (.inl v1)] pn_X5 (Nat.le_of_ble_eq_true rfl) rfl (tX5_load_0 g v1 h)
set_option maxRecDepth 100000 in
theorem tX5_swap_0 {l : Launch} {d : Nat} {Q : Int → vx_M → Prop} (g : vx_M) (v1 v2 : Int) (h : (∃ Q1 : Int → vx_M → Prop, vNi l mX5_isPlace d [.inr (some 0), .inl v1] SH g Q1 ∧ ∀ (r1 : Int) (g1 : vx_M), Q1 r1 g1 → ((r1 = 0 → Q (-2) g1) ∧ (¬ r1 = 0 → (∃ Q2 : Int → vx_M → Prop, vNi l mX5_isPlace d [.inr (some 0), .inl v2] SH g1 Q2 ∧ ∀ (r2 : Int) (g2 : vx_M), Q2 r2 g2 → ((¬ r2 = 0 → ((¬ (g2 0 6) = 0 → (∃ Q3 : vx_M → Prop, vNv l mX5_exchange d [.inr (some 0), .inl v1, .inl v2] SH g2 Q3 ∧ ∀ g3 : vx_M, Q3 g3 → (∃ Q4 : Int → vx_M → Prop, vNi l mX2_admit d [.inr (some 20), .inr (some 39)] SH g3 Q4 ∧ ∀ (r4 : Int) (g4 : vx_M), Q4 r4 g4 → ((¬ r4 = 0 → Q 1 g4) ∧ (r4 = 0 → (∃ Q5 : vx_M → Prop, vNv l mX5_exchange d [.inr (some 0), .inl v1, .inl v2] SH g4 Q5 ∧ ∀ g5 : vx_M, Q5 g5 → Q (-4) g5)))))) ∧ ((g2 0 6) = 0 → Q (-4) g2))) ∧ (r2 = 0 → Q (-2) g2))))))) : vN l mX5_swap (d + 1) (vx_pi SH Q) SH g 0 [some (.inr (some 0)), some (.inl v1), some (.inl v2)] [] := by
  refine vr_aload_n 1 dX5_swap_0 rfl rfl rfl ?_
  refine vr_iload_n 2 dX5_swap_1 rfl rfl rfl ?_
  obtain ⟨Q1, hq, h⟩ := h
  refine vr_callVi 5 [.inl v1] 0 [] dX5_swap_2 rfl mc_X5_137 dn_X5_isPlace rfl rfl s_0 rfl (Nat.le_of_ble_eq_true rfl) (vx_rmR (by decide)) ⟨rfl, rfl⟩ ⟨Nat.le_refl _, Nat.le_refl _⟩ (fun _ _ => trivial) (fun _ _ => trivial) hq (fun r1 sh9 g1 hp _ _ => ?_)
  obtain ⟨e9, z9, e8, hp⟩ := hp
  subst e9
  cases e8
  replace h := h r1 g1 hp
  refine vr_if_eq 16 8 dX5_swap_5 rfl rfl (fun c => ?_) (fun c => ?_)
  · replace h := h.1 c
    refine vr_bipush 18 dX5_swap_16 rfl (by decide) ⟨by decide, by decide⟩ ?_
    exact vr_iret rfl (Nat.le_refl _) (Nat.le_refl _) dX5_swap_18 ⟨rfl, _, rfl, h⟩
  · replace h := h.2 c
    refine vr_aload_n 9 dX5_swap_8 rfl rfl rfl ?_
    refine vr_iload_n 10 dX5_swap_9 rfl rfl rfl ?_
    obtain ⟨Q2, hq, h⟩ := h
    refine vr_callVi 13 [.inl v2] 0 [] dX5_swap_10 rfl mc_X5_137 dn_X5_isPlace rfl rfl s_0 rfl (Nat.le_of_ble_eq_true rfl) (vx_rmR (by decide)) ⟨rfl, rfl⟩ ⟨Nat.le_refl _, Nat.le_refl _⟩ (fun _ _ => trivial) (fun _ _ => trivial) hq (fun r2 sh9 g2 hp _ _ => ?_)
    obtain ⟨e9, z9, e8, hp⟩ := hp
    subst e9
    cases e8
    replace h := h r2 g2 hp
    refine vr_if_ne 19 16 dX5_swap_13 rfl rfl (fun c => ?_) (fun c => ?_)
    · replace h := h.1 c
      refine vr_aload_n 20 dX5_swap_19 rfl rfl rfl ?_
      refine vr_geti 23 6 6 cl_X5 fl_X5_52 (by decide) rfl dX5_swap_20 rfl s_0 rfl ?_
      refine vr_if_ne 29 26 dX5_swap_23 rfl rfl (fun c => ?_) (fun c => ?_)
      · replace h := h.1 c
        refine vr_aload_n 30 dX5_swap_29 rfl rfl rfl ?_
        refine vr_iload_n 31 dX5_swap_30 rfl rfl rfl ?_
        refine vr_iload_n 32 dX5_swap_31 rfl rfl rfl ?_
        obtain ⟨Q3, hq, h⟩ := h
        refine vr_callVv 35 [.inl v1, .inl v2] 0 [] dX5_swap_32 rfl mc_X5_145 dn_X5_exchange rfl rfl s_0 rfl (Nat.le_of_ble_eq_true rfl) (vx_rmR (by decide)) ⟨rfl, rfl⟩ ⟨Nat.le_refl _, Nat.le_refl _⟩ (fun _ _ => trivial) (fun _ _ => trivial) hq (fun sh9 g3 hp _ => ?_)
        obtain ⟨e9, -, hp⟩ := hp
        subst e9
        replace h := h g3 hp
        refine vr_aload_n 36 dX5_swap_35 rfl rfl rfl ?_
        refine vr_getr 39 2 cl_X5 fl_X5_28 (by decide) dX5_swap_36 rfl s_0 rfl ?_
        refine vr_aload_n 40 dX5_swap_39 rfl rfl rfl ?_
        refine vr_getr 43 5 cl_X5 fl_X5_48 (by decide) dX5_swap_40 rfl s_0 rfl ?_
        obtain ⟨Q4, hq, h⟩ := h
        refine vr_callVi 46 [.inr (some 39)] 20 [] dX5_swap_43 rfl mc_X5_149 dn_X2_admit rfl rfl s_20 rfl (Nat.le_of_ble_eq_true rfl) (vx_rmR (by decide)) ⟨rfl, rfl⟩ ⟨Nat.le_refl _, Nat.le_refl _⟩ (fun _ _ => trivial) (fun _ _ => trivial) hq (fun r4 sh9 g4 hp _ _ => ?_)
        obtain ⟨e9, z9, e8, hp⟩ := hp
        subst e9
        cases e8
        replace h := h r4 g4 hp
        refine vr_if_ne 58 49 dX5_swap_46 rfl rfl (fun c => ?_) (fun c => ?_)
        · replace h := h.1 c
          refine vr_iconst 59 dX5_swap_58 rfl ⟨by decide, by decide⟩ ?_
          exact vr_iret rfl (Nat.le_refl _) (Nat.le_refl _) dX5_swap_59 ⟨rfl, _, rfl, h⟩
        · replace h := h.2 c
          refine vr_aload_n 50 dX5_swap_49 rfl rfl rfl ?_
          refine vr_iload_n 51 dX5_swap_50 rfl rfl rfl ?_
          refine vr_iload_n 52 dX5_swap_51 rfl rfl rfl ?_
          obtain ⟨Q5, hq, h⟩ := h
          refine vr_callVv 55 [.inl v1, .inl v2] 0 [] dX5_swap_52 rfl mc_X5_145 dn_X5_exchange rfl rfl s_0 rfl (Nat.le_of_ble_eq_true rfl) (vx_rmR (by decide)) ⟨rfl, rfl⟩ ⟨Nat.le_refl _, Nat.le_refl _⟩ (fun _ _ => trivial) (fun _ _ => trivial) hq (fun sh9 g5 hp _ => ?_)
          obtain ⟨e9, -, hp⟩ := hp
          subst e9
          replace h := h g5 hp
          refine vr_bipush 57 dX5_swap_55 rfl (by decide) ⟨by decide, by decide⟩ ?_
          exact vr_iret rfl (Nat.le_refl _) (Nat.le_refl _) dX5_swap_57 ⟨rfl, _, rfl, h⟩
      · replace h := h.2 c
        refine vr_bipush 28 dX5_swap_26 rfl (by decide) ⟨by decide, by decide⟩ ?_
        exact vr_iret rfl (Nat.le_refl _) (Nat.le_refl _) dX5_swap_28 ⟨rfl, _, rfl, h⟩
    · replace h := h.2 c
      refine vr_bipush 18 dX5_swap_16 rfl (by decide) ⟨by decide, by decide⟩ ?_
      exact vr_iret rfl (Nat.le_refl _) (Nat.le_refl _) dX5_swap_18 ⟨rfl, _, rfl, h⟩
theorem kX5_swap {l : Launch} {d : Nat} {Q : Int → vx_M → Prop} (g : vx_M) (v1 v2 : Int) (h : (∃ Q1 : Int → vx_M → Prop, vNi l mX5_isPlace d [.inr (some 0), .inl v1] SH g Q1 ∧ ∀ (r1 : Int) (g1 : vx_M), Q1 r1 g1 → ((r1 = 0 → Q (-2) g1) ∧ (¬ r1 = 0 → (∃ Q2 : Int → vx_M → Prop, vNi l mX5_isPlace d [.inr (some 0), .inl v2] SH g1 Q2 ∧ ∀ (r2 : Int) (g2 : vx_M), Q2 r2 g2 → ((¬ r2 = 0 → ((¬ (g2 0 6) = 0 → (∃ Q3 : vx_M → Prop, vNv l mX5_exchange d [.inr (some 0), .inl v1, .inl v2] SH g2 Q3 ∧ ∀ g3 : vx_M, Q3 g3 → (∃ Q4 : Int → vx_M → Prop, vNi l mX2_admit d [.inr (some 20), .inr (some 39)] SH g3 Q4 ∧ ∀ (r4 : Int) (g4 : vx_M), Q4 r4 g4 → ((¬ r4 = 0 → Q 1 g4) ∧ (r4 = 0 → (∃ Q5 : vx_M → Prop, vNv l mX5_exchange d [.inr (some 0), .inl v1, .inl v2] SH g4 Q5 ∧ ∀ g5 : vx_M, Q5 g5 → Q (-4) g5)))))) ∧ ((g2 0 6) = 0 → Q (-4) g2))) ∧ (r2 = 0 → Q (-2) g2))))))) : vNi l mX5_swap (d + 1) [.inr (some 0), .inl v1, .inl v2] SH g Q := vNi_of [some (.inr (some 0)), some (.inl v1), some (.inl v2)] pn_X5 (Nat.le_of_ble_eq_true rfl) rfl (tX5_swap_0 g v1 v2 h)
set_option maxRecDepth 100000 in
theorem tX5_tick_0 {l : Launch} {d : Nat} {Q : Int → vx_M → Prop} (g : vx_M) (v1 : Int) (h : (∃ Q1 : Int → vx_M → Prop, vNi l mX5_within d [.inl v1, .inl 0, .inl 2] SH g Q1 ∧ ∀ (r1 : Int) (g1 : vx_M), Q1 r1 g1 → ((¬ r1 = 0 → ((¬ (g1 0 6) = 0 → ((¬ v1 = 2 → (∃ Q2 : Int → vx_M → Prop, vNi l mX0_crowned d [.inr (some 36)] SH g1 Q2 ∧ ∀ (r2 : Int) (g2 : vx_M), Q2 r2 g2 → ((¬ v1 = 0 → vx_in (2 * r2) ∧ Q (2 * r2) g2) ∧ (v1 = 0 → Q r2 g2)))) ∧ (v1 = 2 → (∃ Q4 : vx_M → Prop, vNv l mX0_run d [.inr (some 36), .inr (some 39), .inl 200] SH g1 Q4 ∧ ∀ g4 : vx_M, Q4 g4 → Q (g4 36 5) g4)))) ∧ ((g1 0 6) = 0 → Q (-4) g1))) ∧ (r1 = 0 → Q (-3) g1)))) : vN l mX5_tick (d + 1) (vx_pi SH Q) SH g 0 [some (.inr (some 0)), some (.inl v1), none] [] := by
  refine vr_iload_n 1 dX5_tick_0 rfl rfl rfl ?_
  refine vr_iconst 2 dX5_tick_1 rfl ⟨by decide, by decide⟩ ?_
  refine vr_iconst 3 dX5_tick_2 rfl ⟨by decide, by decide⟩ ?_
  obtain ⟨Q1, hq, h⟩ := h
  refine vr_callSi 6 [.inl v1, .inl 0, .inl 2] [] dX5_tick_3 rfl mc_X5_72 dn_X5_within rfl rfl (Nat.le_of_ble_eq_true rfl) (vx_rmR (by decide)) ⟨rfl, rfl⟩ ⟨Nat.le_refl _, Nat.le_refl _⟩ (fun _ _ => trivial) (fun _ _ => trivial) hq (fun r1 sh9 g1 hp _ _ => ?_)
  obtain ⟨e9, z9, e8, hp⟩ := hp
  subst e9
  cases e8
  replace h := h r1 g1 hp
  refine vr_if_ne 12 9 dX5_tick_6 rfl rfl (fun c => ?_) (fun c => ?_)
  · replace h := h.1 c
    refine vr_aload_n 13 dX5_tick_12 rfl rfl rfl ?_
    refine vr_geti 16 6 6 cl_X5 fl_X5_52 (by decide) rfl dX5_tick_13 rfl s_0 rfl ?_
    refine vr_if_ne 22 19 dX5_tick_16 rfl rfl (fun c => ?_) (fun c => ?_)
    · replace h := h.1 c
      refine vr_iload_n 23 dX5_tick_22 rfl rfl rfl ?_
      refine vr_iconst 24 dX5_tick_23 rfl ⟨by decide, by decide⟩ ?_
      refine vr_icmp_ne 49 27 dX5_tick_24 rfl rfl (fun c => ?_) (fun c => ?_)
      · replace h := h.1 c
        refine vr_aload_n 50 dX5_tick_49 rfl rfl rfl ?_
        refine vr_getr 53 4 cl_X5 fl_X5_44 (by decide) dX5_tick_50 rfl s_0 rfl ?_
        obtain ⟨Q2, hq, h⟩ := h
        refine vr_callVi 56 [] 36 [] dX5_tick_53 rfl mc_X5_158 dn_X0_crowned rfl rfl s_36 rfl (Nat.le_of_ble_eq_true rfl) (vx_rmR (by decide)) ⟨rfl, rfl⟩ ⟨Nat.le_refl _, Nat.le_refl _⟩ (fun _ _ => trivial) (fun _ _ => trivial) hq (fun r2 sh9 g2 hp _ _ => ?_)
        obtain ⟨e9, z9, e8, hp⟩ := hp
        subst e9
        cases e8
        replace h := h r2 g2 hp
        refine vr_istore_n 57 [some (.inr (some 0)), some (.inl v1), some (.inl r2)] dX5_tick_56 rfl rfl (by decide) rfl ?_
        refine vr_iload_n 58 dX5_tick_57 rfl rfl rfl ?_
        refine vr_if_ne 65 61 dX5_tick_58 rfl rfl (fun c => ?_) (fun c => ?_)
        · replace h := h.1 c
          refine vr_iconst 66 dX5_tick_65 rfl ⟨by decide, by decide⟩ ?_
          refine vr_iload_n 67 dX5_tick_66 rfl rfl rfl ?_
          obtain ⟨o3, h⟩ := h
          refine vr_imul 68 dX5_tick_67 rfl o3 ?_
          exact vr_iret rfl (Nat.le_refl _) (Nat.le_refl _) dX5_tick_68 ⟨rfl, _, rfl, h⟩
        · replace h := h.2 c
          refine vr_iload_n 62 dX5_tick_61 rfl rfl rfl ?_
          refine vr_goto 68 dX5_tick_62 rfl ?_
          exact vr_iret rfl (Nat.le_refl _) (Nat.le_refl _) dX5_tick_68 ⟨rfl, _, rfl, h⟩
      · replace h := h.2 c
        refine vr_aload_n 28 dX5_tick_27 rfl rfl rfl ?_
        refine vr_getr 31 4 cl_X5 fl_X5_44 (by decide) dX5_tick_28 rfl s_0 rfl ?_
        refine vr_aload_n 32 dX5_tick_31 rfl rfl rfl ?_
        refine vr_getr 35 5 cl_X5 fl_X5_48 (by decide) dX5_tick_32 rfl s_0 rfl ?_
        refine vr_sipush 38 dX5_tick_35 rfl (by decide) ⟨by decide, by decide⟩ ?_
        obtain ⟨Q4, hq, h⟩ := h
        refine vr_callVv 41 [.inr (some 39), .inl 200] 36 [] dX5_tick_38 rfl mc_X5_152 dn_X0_run rfl rfl s_36 rfl (Nat.le_of_ble_eq_true rfl) (vx_rmR (by decide)) ⟨rfl, rfl⟩ ⟨Nat.le_refl _, Nat.le_refl _⟩ (fun _ _ => trivial) (fun _ _ => trivial) hq (fun sh9 g4 hp _ => ?_)
        obtain ⟨e9, -, hp⟩ := hp
        subst e9
        replace h := h g4 hp
        refine vr_aload_n 42 dX5_tick_41 rfl rfl rfl ?_
        refine vr_getr 45 4 cl_X5 fl_X5_44 (by decide) dX5_tick_42 rfl s_0 rfl ?_
        refine vr_geti 48 5 5 cl_X0 fl_X5_155 (by decide) rfl dX5_tick_45 rfl s_36 rfl ?_
        exact vr_iret rfl (Nat.le_refl _) (Nat.le_refl _) dX5_tick_48 ⟨rfl, _, rfl, h⟩
    · replace h := h.2 c
      refine vr_bipush 21 dX5_tick_19 rfl (by decide) ⟨by decide, by decide⟩ ?_
      exact vr_iret rfl (Nat.le_refl _) (Nat.le_refl _) dX5_tick_21 ⟨rfl, _, rfl, h⟩
  · replace h := h.2 c
    refine vr_bipush 11 dX5_tick_9 rfl (by decide) ⟨by decide, by decide⟩ ?_
    exact vr_iret rfl (Nat.le_refl _) (Nat.le_refl _) dX5_tick_11 ⟨rfl, _, rfl, h⟩
theorem kX5_tick {l : Launch} {d : Nat} {Q : Int → vx_M → Prop} (g : vx_M) (v1 : Int) (h : (∃ Q1 : Int → vx_M → Prop, vNi l mX5_within d [.inl v1, .inl 0, .inl 2] SH g Q1 ∧ ∀ (r1 : Int) (g1 : vx_M), Q1 r1 g1 → ((¬ r1 = 0 → ((¬ (g1 0 6) = 0 → ((¬ v1 = 2 → (∃ Q2 : Int → vx_M → Prop, vNi l mX0_crowned d [.inr (some 36)] SH g1 Q2 ∧ ∀ (r2 : Int) (g2 : vx_M), Q2 r2 g2 → ((¬ v1 = 0 → vx_in (2 * r2) ∧ Q (2 * r2) g2) ∧ (v1 = 0 → Q r2 g2)))) ∧ (v1 = 2 → (∃ Q4 : vx_M → Prop, vNv l mX0_run d [.inr (some 36), .inr (some 39), .inl 200] SH g1 Q4 ∧ ∀ g4 : vx_M, Q4 g4 → Q (g4 36 5) g4)))) ∧ ((g1 0 6) = 0 → Q (-4) g1))) ∧ (r1 = 0 → Q (-3) g1)))) : vNi l mX5_tick (d + 1) [.inr (some 0), .inl v1] SH g Q := vNi_of [some (.inr (some 0)), some (.inl v1), none] pn_X5 (Nat.le_of_ble_eq_true rfl) rfl (tX5_tick_0 g v1 h)
set_option maxRecDepth 100000 in
theorem tX5_weak_0 {l : Launch} {d : Nat} {Q : Int → vx_M → Prop} (g : vx_M) (h : ((¬ (g 0 6) = 0 → (∃ Q1 : vx_M → Prop, vNv l mX0_run d [.inr (some 36), .inr (some 39), .inl 200] SH g Q1 ∧ ∀ g1 : vx_M, Q1 g1 → Q (g1 36 6) g1)) ∧ ((g 0 6) = 0 → Q (-4) g))) : vN l mX5_weak (d + 1) (vx_pi SH Q) SH g 0 [some (.inr (some 0))] [] := by
  refine vr_aload_n 1 dX5_weak_0 rfl rfl rfl ?_
  refine vr_geti 4 6 6 cl_X5 fl_X5_52 (by decide) rfl dX5_weak_1 rfl s_0 rfl ?_
  refine vr_if_ne 10 7 dX5_weak_4 rfl rfl (fun c => ?_) (fun c => ?_)
  · replace h := h.1 c
    refine vr_aload_n 11 dX5_weak_10 rfl rfl rfl ?_
    refine vr_getr 14 4 cl_X5 fl_X5_44 (by decide) dX5_weak_11 rfl s_0 rfl ?_
    refine vr_aload_n 15 dX5_weak_14 rfl rfl rfl ?_
    refine vr_getr 18 5 cl_X5 fl_X5_48 (by decide) dX5_weak_15 rfl s_0 rfl ?_
    refine vr_sipush 21 dX5_weak_18 rfl (by decide) ⟨by decide, by decide⟩ ?_
    obtain ⟨Q1, hq, h⟩ := h
    refine vr_callVv 24 [.inr (some 39), .inl 200] 36 [] dX5_weak_21 rfl mc_X5_152 dn_X0_run rfl rfl s_36 rfl (Nat.le_of_ble_eq_true rfl) (vx_rmR (by decide)) ⟨rfl, rfl⟩ ⟨Nat.le_refl _, Nat.le_refl _⟩ (fun _ _ => trivial) (fun _ _ => trivial) hq (fun sh9 g1 hp _ => ?_)
    obtain ⟨e9, -, hp⟩ := hp
    subst e9
    replace h := h g1 hp
    refine vr_aload_n 25 dX5_weak_24 rfl rfl rfl ?_
    refine vr_getr 28 4 cl_X5 fl_X5_44 (by decide) dX5_weak_25 rfl s_0 rfl ?_
    refine vr_geti 31 6 6 cl_X0 fl_X5_161 (by decide) rfl dX5_weak_28 rfl s_36 rfl ?_
    exact vr_iret rfl (Nat.le_refl _) (Nat.le_refl _) dX5_weak_31 ⟨rfl, _, rfl, h⟩
  · replace h := h.2 c
    refine vr_bipush 9 dX5_weak_7 rfl (by decide) ⟨by decide, by decide⟩ ?_
    exact vr_iret rfl (Nat.le_refl _) (Nat.le_refl _) dX5_weak_9 ⟨rfl, _, rfl, h⟩
theorem kX5_weak {l : Launch} {d : Nat} {Q : Int → vx_M → Prop} (g : vx_M) (h : ((¬ (g 0 6) = 0 → (∃ Q1 : vx_M → Prop, vNv l mX0_run d [.inr (some 36), .inr (some 39), .inl 200] SH g Q1 ∧ ∀ g1 : vx_M, Q1 g1 → Q (g1 36 6) g1)) ∧ ((g 0 6) = 0 → Q (-4) g))) : vNi l mX5_weak (d + 1) [.inr (some 0)] SH g Q := vNi_of [some (.inr (some 0))] pn_X5 (Nat.le_of_ble_eq_true rfl) rfl (tX5_weak_0 g  h)
set_option maxRecDepth 100000 in
theorem tX5_effort_0 {l : Launch} {d : Nat} {Q : Int → vx_M → Prop} (g : vx_M) (v1 v2 : Int) (h : (∃ Q1 : Int → vx_M → Prop, vNi l mX5_isPlace d [.inr (some 0), .inl v1] SH g Q1 ∧ ∀ (r1 : Int) (g1 : vx_M), Q1 r1 g1 → ((¬ r1 = 0 → (∃ Q2 : Int → vx_M → Prop, vNi l mX5_within d [.inl v2, .inl 0, .inl 200] SH g1 Q2 ∧ ∀ (r2 : Int) (g2 : vx_M), Q2 r2 g2 → ((¬ r2 = 0 → ((¬ (g2 0 6) = 0 → (∃ Q3 : vx_M → Prop, vNv l mX0_run d [.inr (some 36), .inr (some 39), .inl v2] SH g2 Q3 ∧ ∀ g3 : vx_M, Q3 g3 → (0 ≤ v1 ∧ v1 < 7) ∧ Q (g3 38 v1) g3)) ∧ ((g2 0 6) = 0 → Q (-4) g2))) ∧ (r2 = 0 → Q (-3) g2)))) ∧ (r1 = 0 → Q (-2) g1)))) : vN l mX5_effort (d + 1) (vx_pi SH Q) SH g 0 [some (.inr (some 0)), some (.inl v1), some (.inl v2)] [] := by
  refine vr_aload_n 1 dX5_effort_0 rfl rfl rfl ?_
  refine vr_iload_n 2 dX5_effort_1 rfl rfl rfl ?_
  obtain ⟨Q1, hq, h⟩ := h
  refine vr_callVi 5 [.inl v1] 0 [] dX5_effort_2 rfl mc_X5_137 dn_X5_isPlace rfl rfl s_0 rfl (Nat.le_of_ble_eq_true rfl) (vx_rmR (by decide)) ⟨rfl, rfl⟩ ⟨Nat.le_refl _, Nat.le_refl _⟩ (fun _ _ => trivial) (fun _ _ => trivial) hq (fun r1 sh9 g1 hp _ _ => ?_)
  obtain ⟨e9, z9, e8, hp⟩ := hp
  subst e9
  cases e8
  replace h := h r1 g1 hp
  refine vr_if_ne 11 8 dX5_effort_5 rfl rfl (fun c => ?_) (fun c => ?_)
  · replace h := h.1 c
    refine vr_iload_n 12 dX5_effort_11 rfl rfl rfl ?_
    refine vr_iconst 13 dX5_effort_12 rfl ⟨by decide, by decide⟩ ?_
    refine vr_sipush 16 dX5_effort_13 rfl (by decide) ⟨by decide, by decide⟩ ?_
    obtain ⟨Q2, hq, h⟩ := h
    refine vr_callSi 19 [.inl v2, .inl 0, .inl 200] [] dX5_effort_16 rfl mc_X5_72 dn_X5_within rfl rfl (Nat.le_of_ble_eq_true rfl) (vx_rmR (by decide)) ⟨rfl, rfl⟩ ⟨Nat.le_refl _, Nat.le_refl _⟩ (fun _ _ => trivial) (fun _ _ => trivial) hq (fun r2 sh9 g2 hp _ _ => ?_)
    obtain ⟨e9, z9, e8, hp⟩ := hp
    subst e9
    cases e8
    replace h := h r2 g2 hp
    refine vr_if_ne 25 22 dX5_effort_19 rfl rfl (fun c => ?_) (fun c => ?_)
    · replace h := h.1 c
      refine vr_aload_n 26 dX5_effort_25 rfl rfl rfl ?_
      refine vr_geti 29 6 6 cl_X5 fl_X5_52 (by decide) rfl dX5_effort_26 rfl s_0 rfl ?_
      refine vr_if_ne 35 32 dX5_effort_29 rfl rfl (fun c => ?_) (fun c => ?_)
      · replace h := h.1 c
        refine vr_aload_n 36 dX5_effort_35 rfl rfl rfl ?_
        refine vr_getr 39 4 cl_X5 fl_X5_44 (by decide) dX5_effort_36 rfl s_0 rfl ?_
        refine vr_aload_n 40 dX5_effort_39 rfl rfl rfl ?_
        refine vr_getr 43 5 cl_X5 fl_X5_48 (by decide) dX5_effort_40 rfl s_0 rfl ?_
        refine vr_iload_n 44 dX5_effort_43 rfl rfl rfl ?_
        obtain ⟨Q3, hq, h⟩ := h
        refine vr_callVv 47 [.inr (some 39), .inl v2] 36 [] dX5_effort_44 rfl mc_X5_152 dn_X0_run rfl rfl s_36 rfl (Nat.le_of_ble_eq_true rfl) (vx_rmR (by decide)) ⟨rfl, rfl⟩ ⟨Nat.le_refl _, Nat.le_refl _⟩ (fun _ _ => trivial) (fun _ _ => trivial) hq (fun sh9 g3 hp _ => ?_)
        obtain ⟨e9, -, hp⟩ := hp
        subst e9
        replace h := h g3 hp
        refine vr_aload_n 48 dX5_effort_47 rfl rfl rfl ?_
        refine vr_getr 51 4 cl_X5 fl_X5_44 (by decide) dX5_effort_48 rfl s_0 rfl ?_
        refine vr_getr 54 4 cl_X0 fl_X5_164 (by decide) dX5_effort_51 rfl s_36 rfl ?_
        refine vr_iload_n 55 dX5_effort_54 rfl rfl rfl ?_
        obtain ⟨o4, h⟩ := h
        refine vr_iald 56 dX5_effort_55 rfl s_38 o4.1 o4.2 ?_
        exact vr_iret rfl (Nat.le_refl _) (Nat.le_refl _) dX5_effort_56 ⟨rfl, _, rfl, h⟩
      · replace h := h.2 c
        refine vr_bipush 34 dX5_effort_32 rfl (by decide) ⟨by decide, by decide⟩ ?_
        exact vr_iret rfl (Nat.le_refl _) (Nat.le_refl _) dX5_effort_34 ⟨rfl, _, rfl, h⟩
    · replace h := h.2 c
      refine vr_bipush 24 dX5_effort_22 rfl (by decide) ⟨by decide, by decide⟩ ?_
      exact vr_iret rfl (Nat.le_refl _) (Nat.le_refl _) dX5_effort_24 ⟨rfl, _, rfl, h⟩
  · replace h := h.2 c
    refine vr_bipush 10 dX5_effort_8 rfl (by decide) ⟨by decide, by decide⟩ ?_
    exact vr_iret rfl (Nat.le_refl _) (Nat.le_refl _) dX5_effort_10 ⟨rfl, _, rfl, h⟩
theorem kX5_effort {l : Launch} {d : Nat} {Q : Int → vx_M → Prop} (g : vx_M) (v1 v2 : Int) (h : (∃ Q1 : Int → vx_M → Prop, vNi l mX5_isPlace d [.inr (some 0), .inl v1] SH g Q1 ∧ ∀ (r1 : Int) (g1 : vx_M), Q1 r1 g1 → ((¬ r1 = 0 → (∃ Q2 : Int → vx_M → Prop, vNi l mX5_within d [.inl v2, .inl 0, .inl 200] SH g1 Q2 ∧ ∀ (r2 : Int) (g2 : vx_M), Q2 r2 g2 → ((¬ r2 = 0 → ((¬ (g2 0 6) = 0 → (∃ Q3 : vx_M → Prop, vNv l mX0_run d [.inr (some 36), .inr (some 39), .inl v2] SH g2 Q3 ∧ ∀ g3 : vx_M, Q3 g3 → (0 ≤ v1 ∧ v1 < 7) ∧ Q (g3 38 v1) g3)) ∧ ((g2 0 6) = 0 → Q (-4) g2))) ∧ (r2 = 0 → Q (-3) g2)))) ∧ (r1 = 0 → Q (-2) g1)))) : vNi l mX5_effort (d + 1) [.inr (some 0), .inl v1, .inl v2] SH g Q := vNi_of [some (.inr (some 0)), some (.inl v1), some (.inl v2)] pn_X5 (Nat.le_of_ble_eq_true rfl) rfl (tX5_effort_0 g v1 v2 h)
set_option maxRecDepth 100000 in
theorem tX5_worths_0 {l : Launch} {d : Nat} {Q : Int → vx_M → Prop} (g : vx_M) (v1 v2 : Int) (h : (∃ Q1 : Int → vx_M → Prop, vNi l mX5_within d [.inl v1, .inl 0, .inl 1000] SH g Q1 ∧ ∀ (r1 : Int) (g1 : vx_M), Q1 r1 g1 → ((r1 = 0 → Q (-3) g1) ∧ (¬ r1 = 0 → (∃ Q2 : Int → vx_M → Prop, vNi l mX5_within d [.inl v2, .inl 0, .inl 1000] SH g1 Q2 ∧ ∀ (r2 : Int) (g2 : vx_M), Q2 r2 g2 → ((¬ r2 = 0 → Q 1 (vx_u (vx_u g2 0 7 v1) 0 8 v2)) ∧ (r2 = 0 → Q (-3) g2))))))) : vN l mX5_worths (d + 1) (vx_pi SH Q) SH g 0 [some (.inr (some 0)), some (.inl v1), some (.inl v2)] [] := by
  refine vr_iload_n 1 dX5_worths_0 rfl rfl rfl ?_
  refine vr_iconst 2 dX5_worths_1 rfl ⟨by decide, by decide⟩ ?_
  refine vr_sipush 5 dX5_worths_2 rfl (by decide) ⟨by decide, by decide⟩ ?_
  obtain ⟨Q1, hq, h⟩ := h
  refine vr_callSi 8 [.inl v1, .inl 0, .inl 1000] [] dX5_worths_5 rfl mc_X5_72 dn_X5_within rfl rfl (Nat.le_of_ble_eq_true rfl) (vx_rmR (by decide)) ⟨rfl, rfl⟩ ⟨Nat.le_refl _, Nat.le_refl _⟩ (fun _ _ => trivial) (fun _ _ => trivial) hq (fun r1 sh9 g1 hp _ _ => ?_)
  obtain ⟨e9, z9, e8, hp⟩ := hp
  subst e9
  cases e8
  replace h := h r1 g1 hp
  refine vr_if_eq 22 11 dX5_worths_8 rfl rfl (fun c => ?_) (fun c => ?_)
  · replace h := h.1 c
    refine vr_bipush 24 dX5_worths_22 rfl (by decide) ⟨by decide, by decide⟩ ?_
    exact vr_iret rfl (Nat.le_refl _) (Nat.le_refl _) dX5_worths_24 ⟨rfl, _, rfl, h⟩
  · replace h := h.2 c
    refine vr_iload_n 12 dX5_worths_11 rfl rfl rfl ?_
    refine vr_iconst 13 dX5_worths_12 rfl ⟨by decide, by decide⟩ ?_
    refine vr_sipush 16 dX5_worths_13 rfl (by decide) ⟨by decide, by decide⟩ ?_
    obtain ⟨Q2, hq, h⟩ := h
    refine vr_callSi 19 [.inl v2, .inl 0, .inl 1000] [] dX5_worths_16 rfl mc_X5_72 dn_X5_within rfl rfl (Nat.le_of_ble_eq_true rfl) (vx_rmR (by decide)) ⟨rfl, rfl⟩ ⟨Nat.le_refl _, Nat.le_refl _⟩ (fun _ _ => trivial) (fun _ _ => trivial) hq (fun r2 sh9 g2 hp _ _ => ?_)
    obtain ⟨e9, z9, e8, hp⟩ := hp
    subst e9
    cases e8
    replace h := h r2 g2 hp
    refine vr_if_ne 25 22 dX5_worths_19 rfl rfl (fun c => ?_) (fun c => ?_)
    · replace h := h.1 c
      refine vr_aload_n 26 dX5_worths_25 rfl rfl rfl ?_
      refine vr_iload_n 27 dX5_worths_26 rfl rfl rfl ?_
      refine vr_puti 30 7 7 cl_X5 fl_X5_56 (by decide) rfl rfl rfl dX5_worths_27 rfl s_0 rfl ?_
      refine vr_aload_n 31 dX5_worths_30 rfl rfl rfl ?_
      refine vr_iload_n 32 dX5_worths_31 rfl rfl rfl ?_
      refine vr_puti 35 8 8 cl_X5 fl_X5_60 (by decide) rfl rfl rfl dX5_worths_32 rfl s_0 rfl ?_
      refine vr_iconst 36 dX5_worths_35 rfl ⟨by decide, by decide⟩ ?_
      exact vr_iret rfl (Nat.le_refl _) (Nat.le_refl _) dX5_worths_36 ⟨rfl, _, rfl, h⟩
    · replace h := h.2 c
      refine vr_bipush 24 dX5_worths_22 rfl (by decide) ⟨by decide, by decide⟩ ?_
      exact vr_iret rfl (Nat.le_refl _) (Nat.le_refl _) dX5_worths_24 ⟨rfl, _, rfl, h⟩
theorem kX5_worths {l : Launch} {d : Nat} {Q : Int → vx_M → Prop} (g : vx_M) (v1 v2 : Int) (h : (∃ Q1 : Int → vx_M → Prop, vNi l mX5_within d [.inl v1, .inl 0, .inl 1000] SH g Q1 ∧ ∀ (r1 : Int) (g1 : vx_M), Q1 r1 g1 → ((r1 = 0 → Q (-3) g1) ∧ (¬ r1 = 0 → (∃ Q2 : Int → vx_M → Prop, vNi l mX5_within d [.inl v2, .inl 0, .inl 1000] SH g1 Q2 ∧ ∀ (r2 : Int) (g2 : vx_M), Q2 r2 g2 → ((¬ r2 = 0 → Q 1 (vx_u (vx_u g2 0 7 v1) 0 8 v2)) ∧ (r2 = 0 → Q (-3) g2))))))) : vNi l mX5_worths (d + 1) [.inr (some 0), .inl v1, .inl v2] SH g Q := vNi_of [some (.inr (some 0)), some (.inl v1), some (.inl v2)] pn_X5 (Nat.le_of_ble_eq_true rfl) rfl (tX5_worths_0 g v1 v2 h)
set_option maxRecDepth 100000 in
theorem tX5_attempt_0 {l : Launch} {d : Nat} {Q : Int → vx_M → Prop} (g : vx_M) (h : ((¬ (g 0 6) = 0 → (∃ Q1 : Int → vx_M → Prop, vNi l mX5_pointsOfTry d [.inr (some 0)] SH g Q1 ∧ ∀ (r1 : Int) (g1 : vx_M), Q1 r1 g1 → vx_in ((g1 0 9) + r1) ∧ Q r1 (vx_u g1 0 9 ((g1 0 9) + r1)))) ∧ ((g 0 6) = 0 → Q (-4) g))) : vN l mX5_attempt (d + 1) (vx_pi SH Q) SH g 0 [some (.inr (some 0)), none] [] := by
  refine vr_aload_n 1 dX5_attempt_0 rfl rfl rfl ?_
  refine vr_geti 4 6 6 cl_X5 fl_X5_52 (by decide) rfl dX5_attempt_1 rfl s_0 rfl ?_
  refine vr_if_ne 10 7 dX5_attempt_4 rfl rfl (fun c => ?_) (fun c => ?_)
  · replace h := h.1 c
    refine vr_aload_n 11 dX5_attempt_10 rfl rfl rfl ?_
    obtain ⟨Q1, hq, h⟩ := h
    refine vr_callVi 14 [] 0 [] dX5_attempt_11 rfl mc_X5_167 dn_X5_pointsOfTry rfl rfl s_0 rfl (Nat.le_of_ble_eq_true rfl) (vx_rmR (by decide)) ⟨rfl, rfl⟩ ⟨Nat.le_refl _, Nat.le_refl _⟩ (fun _ _ => trivial) (fun _ _ => trivial) hq (fun r1 sh9 g1 hp _ _ => ?_)
    obtain ⟨e9, z9, e8, hp⟩ := hp
    subst e9
    cases e8
    replace h := h r1 g1 hp
    refine vr_istore_n 15 [some (.inr (some 0)), some (.inl r1)] dX5_attempt_14 rfl rfl (by decide) rfl ?_
    refine vr_aload_n 16 dX5_attempt_15 rfl rfl rfl ?_
    refine vr_dup 17 dX5_attempt_16 rfl ?_
    refine vr_geti 20 9 9 cl_X5 fl_X5_63 (by decide) rfl dX5_attempt_17 rfl s_0 rfl ?_
    refine vr_iload_n 21 dX5_attempt_20 rfl rfl rfl ?_
    obtain ⟨o2, h⟩ := h
    refine vr_iadd 22 dX5_attempt_21 rfl o2 ?_
    refine vr_puti 25 9 9 cl_X5 fl_X5_63 (by decide) rfl rfl rfl dX5_attempt_22 rfl s_0 rfl ?_
    refine vr_iload_n 26 dX5_attempt_25 rfl rfl rfl ?_
    exact vr_iret rfl (Nat.le_refl _) (Nat.le_refl _) dX5_attempt_26 ⟨rfl, _, rfl, h⟩
  · replace h := h.2 c
    refine vr_bipush 9 dX5_attempt_7 rfl (by decide) ⟨by decide, by decide⟩ ?_
    exact vr_iret rfl (Nat.le_refl _) (Nat.le_refl _) dX5_attempt_9 ⟨rfl, _, rfl, h⟩
theorem kX5_attempt {l : Launch} {d : Nat} {Q : Int → vx_M → Prop} (g : vx_M) (h : ((¬ (g 0 6) = 0 → (∃ Q1 : Int → vx_M → Prop, vNi l mX5_pointsOfTry d [.inr (some 0)] SH g Q1 ∧ ∀ (r1 : Int) (g1 : vx_M), Q1 r1 g1 → vx_in ((g1 0 9) + r1) ∧ Q r1 (vx_u g1 0 9 ((g1 0 9) + r1)))) ∧ ((g 0 6) = 0 → Q (-4) g))) : vNi l mX5_attempt (d + 1) [.inr (some 0)] SH g Q := vNi_of [some (.inr (some 0)), none] pn_X5 (Nat.le_of_ble_eq_true rfl) rfl (tX5_attempt_0 g  h)
set_option maxRecDepth 100000 in
theorem tX5_count_0 {l : Launch} {d : Nat} {Q : Int → vx_M → Prop} (g : vx_M) (v1 : Int) (h : (((v1 < 0 ∨ 5 < v1) → Q (-3) g) ∧ (v1 = 0 → Q (g 1 4) g) ∧ (v1 = 1 → Q (g 1 5) g) ∧ (v1 = 2 → Q (g 13 6) g) ∧ (v1 = 3 → (∃ Q1 : Int → vx_M → Prop, vNi l mX1_countOut d [.inr (some 13)] SH g Q1 ∧ ∀ (r1 : Int) (g1 : vx_M), Q1 r1 g1 → Q r1 g1)) ∧ (v1 = 4 → Q (g 0 9) g) ∧ (v1 = 5 → (((g 0 6) = 0 → Q 0 g) ∧ (¬ (g 0 6) = 0 → Q 1 g))))) : vN l mX5_count (d + 1) (vx_pi SH Q) SH g 0 [some (.inr (some 0)), some (.inl v1)] [] := by
  refine vr_iload_n 1 dX5_count_0 rfl rfl rfl ?_
  by_cases q : v1 < 0 ∨ 5 < v1
  · replace h := h.1 q
    refine vr_tabOut 90 dX5_count_1 q rfl ?_
    refine vr_bipush 92 dX5_count_90 rfl (by decide) ⟨by decide, by decide⟩ ?_
    exact vr_iret rfl (Nat.le_refl _) (Nat.le_refl _) dX5_count_92 ⟨rfl, _, rfl, h⟩
  · replace h := h.2
    by_cases q0 : v1 = 0
    · replace h := h.1 q0
      refine vr_tabIn 40 dX5_count_1 (by omega) (by omega) (by rw [q0]; rfl) rfl ?_
      refine vr_aload_n 41 dX5_count_40 rfl rfl rfl ?_
      refine vr_getr 44 0 cl_X5 fl_X5_10 (by decide) dX5_count_41 rfl s_0 rfl ?_
      refine vr_geti 47 4 4 cl_X4 fl_X5_93 (by decide) rfl dX5_count_44 rfl s_1 rfl ?_
      exact vr_iret rfl (Nat.le_refl _) (Nat.le_refl _) dX5_count_47 ⟨rfl, _, rfl, h⟩
    replace h := h.2
    by_cases q1 : v1 = 1
    · replace h := h.1 q1
      refine vr_tabIn 48 dX5_count_1 (by omega) (by omega) (by rw [q1]; rfl) rfl ?_
      refine vr_aload_n 49 dX5_count_48 rfl rfl rfl ?_
      refine vr_getr 52 0 cl_X5 fl_X5_10 (by decide) dX5_count_49 rfl s_0 rfl ?_
      refine vr_geti 55 5 5 cl_X4 fl_X5_87 (by decide) rfl dX5_count_52 rfl s_1 rfl ?_
      exact vr_iret rfl (Nat.le_refl _) (Nat.le_refl _) dX5_count_55 ⟨rfl, _, rfl, h⟩
    replace h := h.2
    by_cases q2 : v1 = 2
    · replace h := h.1 q2
      refine vr_tabIn 56 dX5_count_1 (by omega) (by omega) (by rw [q2]; rfl) rfl ?_
      refine vr_aload_n 57 dX5_count_56 rfl rfl rfl ?_
      refine vr_getr 60 1 cl_X5 fl_X5_19 (by decide) dX5_count_57 rfl s_0 rfl ?_
      refine vr_geti 63 6 6 cl_X1 fl_X5_100 (by decide) rfl dX5_count_60 rfl s_13 rfl ?_
      exact vr_iret rfl (Nat.le_refl _) (Nat.le_refl _) dX5_count_63 ⟨rfl, _, rfl, h⟩
    replace h := h.2
    by_cases q3 : v1 = 3
    · replace h := h.1 q3
      refine vr_tabIn 64 dX5_count_1 (by omega) (by omega) (by rw [q3]; rfl) rfl ?_
      refine vr_aload_n 65 dX5_count_64 rfl rfl rfl ?_
      refine vr_getr 68 1 cl_X5 fl_X5_19 (by decide) dX5_count_65 rfl s_0 rfl ?_
      obtain ⟨Q1, hq, h⟩ := h
      refine vr_callVi 71 [] 13 [] dX5_count_68 rfl mc_X5_170 dn_X1_countOut rfl rfl s_13 rfl (Nat.le_of_ble_eq_true rfl) (vx_rmR (by decide)) ⟨rfl, rfl⟩ ⟨Nat.le_refl _, Nat.le_refl _⟩ (fun _ _ => trivial) (fun _ _ => trivial) hq (fun r1 sh9 g1 hp _ _ => ?_)
      obtain ⟨e9, z9, e8, hp⟩ := hp
      subst e9
      cases e8
      replace h := h r1 g1 hp
      exact vr_iret rfl (Nat.le_refl _) (Nat.le_refl _) dX5_count_71 ⟨rfl, _, rfl, h⟩
    replace h := h.2
    by_cases q4 : v1 = 4
    · replace h := h.1 q4
      refine vr_tabIn 72 dX5_count_1 (by omega) (by omega) (by rw [q4]; rfl) rfl ?_
      refine vr_aload_n 73 dX5_count_72 rfl rfl rfl ?_
      refine vr_geti 76 9 9 cl_X5 fl_X5_63 (by decide) rfl dX5_count_73 rfl s_0 rfl ?_
      exact vr_iret rfl (Nat.le_refl _) (Nat.le_refl _) dX5_count_76 ⟨rfl, _, rfl, h⟩
    replace h := h.2
    by_cases q5 : v1 = 5
    · replace h := h q5
      refine vr_tabIn 77 dX5_count_1 (by omega) (by omega) (by rw [q5]; rfl) rfl ?_
      refine vr_aload_n 78 dX5_count_77 rfl rfl rfl ?_
      refine vr_geti 81 6 6 cl_X5 fl_X5_52 (by decide) rfl dX5_count_78 rfl s_0 rfl ?_
      refine vr_if_eq 88 84 dX5_count_81 rfl rfl (fun c => ?_) (fun c => ?_)
      · replace h := h.1 c
        refine vr_iconst 89 dX5_count_88 rfl ⟨by decide, by decide⟩ ?_
        exact vr_iret rfl (Nat.le_refl _) (Nat.le_refl _) dX5_count_89 ⟨rfl, _, rfl, h⟩
      · replace h := h.2 c
        refine vr_iconst 85 dX5_count_84 rfl ⟨by decide, by decide⟩ ?_
        refine vr_goto 89 dX5_count_85 rfl ?_
        exact vr_iret rfl (Nat.le_refl _) (Nat.le_refl _) dX5_count_89 ⟨rfl, _, rfl, h⟩
    omega
theorem kX5_count {l : Launch} {d : Nat} {Q : Int → vx_M → Prop} (g : vx_M) (v1 : Int) (h : (((v1 < 0 ∨ 5 < v1) → Q (-3) g) ∧ (v1 = 0 → Q (g 1 4) g) ∧ (v1 = 1 → Q (g 1 5) g) ∧ (v1 = 2 → Q (g 13 6) g) ∧ (v1 = 3 → (∃ Q1 : Int → vx_M → Prop, vNi l mX1_countOut d [.inr (some 13)] SH g Q1 ∧ ∀ (r1 : Int) (g1 : vx_M), Q1 r1 g1 → Q r1 g1)) ∧ (v1 = 4 → Q (g 0 9) g) ∧ (v1 = 5 → (((g 0 6) = 0 → Q 0 g) ∧ (¬ (g 0 6) = 0 → Q 1 g))))) : vNi l mX5_count (d + 1) [.inr (some 0), .inl v1] SH g Q := vNi_of [some (.inr (some 0)), some (.inl v1)] pn_X5 (Nat.le_of_ble_eq_true rfl) rfl (tX5_count_0 g v1 h)
set_option maxRecDepth 100000 in
theorem tX5_within_0 {l : Launch} {d : Nat} {Q : Int → vx_M → Prop} (g : vx_M) (v0 v1 v2 : Int) (h : ((v0 < v1 → Q 0 g) ∧ (¬ v0 < v1 → ((v2 < v0 → Q 0 g) ∧ (¬ v2 < v0 → Q 1 g))))) : vN l mX5_within d (vx_pi SH Q) SH g 0 [some (.inl v0), some (.inl v1), some (.inl v2)] [] := by
  refine vr_iload_n 1 dX5_within_0 rfl rfl rfl ?_
  refine vr_iload_n 2 dX5_within_1 rfl rfl rfl ?_
  refine vr_icmp_lt 14 5 dX5_within_2 rfl rfl (fun c => ?_) (fun c => ?_)
  · replace h := h.1 c
    refine vr_iconst 15 dX5_within_14 rfl ⟨by decide, by decide⟩ ?_
    exact vr_zret rfl (Nat.le_refl _) (Nat.le_refl _) dX5_within_15 (by decide) ⟨rfl, _, rfl, h⟩
  · replace h := h.2 c
    refine vr_iload_n 6 dX5_within_5 rfl rfl rfl ?_
    refine vr_iload_n 7 dX5_within_6 rfl rfl rfl ?_
    refine vr_icmp_gt 14 10 dX5_within_7 rfl rfl (fun c => ?_) (fun c => ?_)
    · replace h := h.1 c
      refine vr_iconst 15 dX5_within_14 rfl ⟨by decide, by decide⟩ ?_
      exact vr_zret rfl (Nat.le_refl _) (Nat.le_refl _) dX5_within_15 (by decide) ⟨rfl, _, rfl, h⟩
    · replace h := h.2 c
      refine vr_iconst 11 dX5_within_10 rfl ⟨by decide, by decide⟩ ?_
      refine vr_goto 15 dX5_within_11 rfl ?_
      exact vr_zret rfl (Nat.le_refl _) (Nat.le_refl _) dX5_within_15 (by decide) ⟨rfl, _, rfl, h⟩
theorem kX5_within {l : Launch} {d : Nat} {Q : Int → vx_M → Prop} (g : vx_M) (v0 v1 v2 : Int) (h : ((v0 < v1 → Q 0 g) ∧ (¬ v0 < v1 → ((v2 < v0 → Q 0 g) ∧ (¬ v2 < v0 → Q 1 g))))) : vNi l mX5_within d [.inl v0, .inl v1, .inl v2] SH g Q := vNi_of [some (.inl v0), some (.inl v1), some (.inl v2)] pn_X5 (Nat.le_of_ble_eq_true rfl) rfl (tX5_within_0 g v0 v1 v2 h)
set_option maxRecDepth 100000 in
theorem tX5_isPlace_0 {l : Launch} {d : Nat} {Q : Int → vx_M → Prop} (g : vx_M) (v1 : Int) (h : ((v1 < 0 → Q 0 g) ∧ (¬ v1 < 0 → (((g 1 5) ≤ v1 → Q 0 g) ∧ (¬ (g 1 5) ≤ v1 → Q 1 g))))) : vN l mX5_isPlace d (vx_pi SH Q) SH g 0 [some (.inr (some 0)), some (.inl v1)] [] := by
  refine vr_iload_n 1 dX5_isPlace_0 rfl rfl rfl ?_
  refine vr_if_lt 19 4 dX5_isPlace_1 rfl rfl (fun c => ?_) (fun c => ?_)
  · replace h := h.1 c
    refine vr_iconst 20 dX5_isPlace_19 rfl ⟨by decide, by decide⟩ ?_
    exact vr_zret rfl (Nat.le_refl _) (Nat.le_refl _) dX5_isPlace_20 (by decide) ⟨rfl, _, rfl, h⟩
  · replace h := h.2 c
    refine vr_iload_n 5 dX5_isPlace_4 rfl rfl rfl ?_
    refine vr_aload_n 6 dX5_isPlace_5 rfl rfl rfl ?_
    refine vr_getr 9 0 cl_X5 fl_X5_10 (by decide) dX5_isPlace_6 rfl s_0 rfl ?_
    refine vr_geti 12 5 5 cl_X4 fl_X5_87 (by decide) rfl dX5_isPlace_9 rfl s_1 rfl ?_
    refine vr_icmp_ge 19 15 dX5_isPlace_12 rfl rfl (fun c => ?_) (fun c => ?_)
    · replace h := h.1 c
      refine vr_iconst 20 dX5_isPlace_19 rfl ⟨by decide, by decide⟩ ?_
      exact vr_zret rfl (Nat.le_refl _) (Nat.le_refl _) dX5_isPlace_20 (by decide) ⟨rfl, _, rfl, h⟩
    · replace h := h.2 c
      refine vr_iconst 16 dX5_isPlace_15 rfl ⟨by decide, by decide⟩ ?_
      refine vr_goto 20 dX5_isPlace_16 rfl ?_
      exact vr_zret rfl (Nat.le_refl _) (Nat.le_refl _) dX5_isPlace_20 (by decide) ⟨rfl, _, rfl, h⟩
theorem kX5_isPlace {l : Launch} {d : Nat} {Q : Int → vx_M → Prop} (g : vx_M) (v1 : Int) (h : ((v1 < 0 → Q 0 g) ∧ (¬ v1 < 0 → (((g 1 5) ≤ v1 → Q 0 g) ∧ (¬ (g 1 5) ≤ v1 → Q 1 g))))) : vNi l mX5_isPlace d [.inr (some 0), .inl v1] SH g Q := vNi_of [some (.inr (some 0)), some (.inl v1)] pn_X5 (Nat.le_of_ble_eq_true rfl) rfl (tX5_isPlace_0 g v1 h)
set_option maxRecDepth 100000 in
theorem tX5_endPlacing_0 {l : Launch} {d : Nat} {Q : vx_M → Prop} (g : vx_M) (h : (∃ Q1 : vx_M → Prop, vNv l mJ7_fill_53178 d [.inr (some 39), .inl (-1)] SH g Q1 ∧ ∀ g1 : vx_M, Q1 g1 → Q (vx_u g1 0 6 0))) : vN l mX5_endPlacing (d + 1) (vx_pv SH Q) SH g 0 [some (.inr (some 0))] [] := by
  refine vr_aload_n 1 dX5_endPlacing_0 rfl rfl rfl ?_
  refine vr_getr 4 5 cl_X5 fl_X5_48 (by decide) dX5_endPlacing_1 rfl s_0 rfl ?_
  refine vr_iconst 5 dX5_endPlacing_4 rfl ⟨by decide, by decide⟩ ?_
  obtain ⟨Q1, hq, h⟩ := h
  refine vr_callSv 8 [.inr (some 39), .inl (-1)] [] dX5_endPlacing_5 rfl mc_X5_66 dn_J7_fill_53178 rfl rfl (Nat.le_of_ble_eq_true rfl) (vx_rmR (by decide)) ⟨rfl, rfl⟩ ⟨Nat.le_refl _, Nat.le_refl _⟩ (fun _ _ => trivial) (fun _ _ => trivial) hq (fun sh9 g1 hp _ => ?_)
  obtain ⟨e9, -, hp⟩ := hp
  subst e9
  replace h := h g1 hp
  refine vr_aload_n 9 dX5_endPlacing_8 rfl rfl rfl ?_
  refine vr_iconst 10 dX5_endPlacing_9 rfl ⟨by decide, by decide⟩ ?_
  refine vr_putz 13 6 6 cl_X5 fl_X5_52 (by decide) rfl rfl rfl (by decide) dX5_endPlacing_10 rfl s_0 rfl ?_
  exact vr_vret rfl (Nat.le_refl _) (Nat.le_refl _) dX5_endPlacing_13 ⟨rfl, rfl, h⟩
theorem kX5_endPlacing {l : Launch} {d : Nat} {Q : vx_M → Prop} (g : vx_M) (h : (∃ Q1 : vx_M → Prop, vNv l mJ7_fill_53178 d [.inr (some 39), .inl (-1)] SH g Q1 ∧ ∀ g1 : vx_M, Q1 g1 → Q (vx_u g1 0 6 0))) : vNv l mX5_endPlacing (d + 1) [.inr (some 0)] SH g Q := vNv_of [some (.inr (some 0))] pn_X5 (Nat.le_of_ble_eq_true rfl) rfl (tX5_endPlacing_0 g  h)
set_option maxRecDepth 100000 in
theorem tX5_exchange_0 {l : Launch} {d : Nat} {Q : vx_M → Prop} (g : vx_M) (v1 v2 : Int) (h : (0 ≤ v1 ∧ v1 < 7) ∧ (0 ≤ v2 ∧ v2 < 7) ∧ (0 ≤ v1 ∧ v1 < 7) ∧ (0 ≤ v2 ∧ v2 < 7) ∧ Q (vx_u (vx_u g 39 v1 (g 39 v2)) 39 v2 (g 39 v1))) : vN l mX5_exchange d (vx_pv SH Q) SH g 0 [some (.inr (some 0)), some (.inl v1), some (.inl v2), none] [] := by
  refine vr_aload_n 1 dX5_exchange_0 rfl rfl rfl ?_
  refine vr_getr 4 5 cl_X5 fl_X5_48 (by decide) dX5_exchange_1 rfl s_0 rfl ?_
  refine vr_iload_n 5 dX5_exchange_4 rfl rfl rfl ?_
  obtain ⟨o1, h⟩ := h
  refine vr_iald 6 dX5_exchange_5 rfl s_39 o1.1 o1.2 ?_
  refine vr_istore_n 7 [some (.inr (some 0)), some (.inl v1), some (.inl v2), some (.inl (g 39 v1))] dX5_exchange_6 rfl rfl (by decide) rfl ?_
  refine vr_aload_n 8 dX5_exchange_7 rfl rfl rfl ?_
  refine vr_getr 11 5 cl_X5 fl_X5_48 (by decide) dX5_exchange_8 rfl s_0 rfl ?_
  refine vr_iload_n 12 dX5_exchange_11 rfl rfl rfl ?_
  refine vr_aload_n 13 dX5_exchange_12 rfl rfl rfl ?_
  refine vr_getr 16 5 cl_X5 fl_X5_48 (by decide) dX5_exchange_13 rfl s_0 rfl ?_
  refine vr_iload_n 17 dX5_exchange_16 rfl rfl rfl ?_
  obtain ⟨o2, h⟩ := h
  refine vr_iald 18 dX5_exchange_17 rfl s_39 o2.1 o2.2 ?_
  obtain ⟨o3, h⟩ := h
  refine vr_iast 19 dX5_exchange_18 rfl s_39 o3.1 o3.2 ?_
  refine vr_aload_n 20 dX5_exchange_19 rfl rfl rfl ?_
  refine vr_getr 23 5 cl_X5 fl_X5_48 (by decide) dX5_exchange_20 rfl s_0 rfl ?_
  refine vr_iload_n 24 dX5_exchange_23 rfl rfl rfl ?_
  refine vr_iload_n 25 dX5_exchange_24 rfl rfl rfl ?_
  obtain ⟨o4, h⟩ := h
  refine vr_iast 26 dX5_exchange_25 rfl s_39 o4.1 o4.2 ?_
  exact vr_vret rfl (Nat.le_refl _) (Nat.le_refl _) dX5_exchange_26 ⟨rfl, rfl, h⟩
theorem kX5_exchange {l : Launch} {d : Nat} {Q : vx_M → Prop} (g : vx_M) (v1 v2 : Int) (h : (0 ≤ v1 ∧ v1 < 7) ∧ (0 ≤ v2 ∧ v2 < 7) ∧ (0 ≤ v1 ∧ v1 < 7) ∧ (0 ≤ v2 ∧ v2 < 7) ∧ Q (vx_u (vx_u g 39 v1 (g 39 v2)) 39 v2 (g 39 v1))) : vNv l mX5_exchange d [.inr (some 0), .inl v1, .inl v2] SH g Q := vNv_of [some (.inr (some 0)), some (.inl v1), some (.inl v2), none] pn_X5 (Nat.le_of_ble_eq_true rfl) rfl (tX5_exchange_0 g v1 v2 h)
set_option maxRecDepth 100000 in
theorem tX5_pointsOfTry_0 {l : Launch} {d : Nat} {Q : Int → vx_M → Prop} (g : vx_M) (h : (∃ Q1 : vx_M → Prop, vNv l mX0_run d [.inr (some 36), .inr (some 39), .inl 200] SH g Q1 ∧ ∀ g1 : vx_M, Q1 g1 → ((¬ (g1 36 5) = (-1) → (∃ Q2 : Int → vx_M → Prop, vNi l mX0_crowned d [.inr (some 36)] SH g1 Q2 ∧ ∀ (r2 : Int) (g2 : vx_M), Q2 r2 g2 → (((g1 36 5) ≤ r2 → Q 0 g2) ∧ (¬ (g1 36 5) ≤ r2 → Q (g2 0 7) g2)))) ∧ ((g1 36 5) = (-1) → Q (g1 0 8) g1)))) : vN l mX5_pointsOfTry (d + 1) (vx_pi SH Q) SH g 0 [some (.inr (some 0))] [] := by
  refine vr_aload_n 1 dX5_pointsOfTry_0 rfl rfl rfl ?_
  refine vr_getr 4 4 cl_X5 fl_X5_44 (by decide) dX5_pointsOfTry_1 rfl s_0 rfl ?_
  refine vr_aload_n 5 dX5_pointsOfTry_4 rfl rfl rfl ?_
  refine vr_getr 8 5 cl_X5 fl_X5_48 (by decide) dX5_pointsOfTry_5 rfl s_0 rfl ?_
  refine vr_sipush 11 dX5_pointsOfTry_8 rfl (by decide) ⟨by decide, by decide⟩ ?_
  obtain ⟨Q1, hq, h⟩ := h
  refine vr_callVv 14 [.inr (some 39), .inl 200] 36 [] dX5_pointsOfTry_11 rfl mc_X5_152 dn_X0_run rfl rfl s_36 rfl (Nat.le_of_ble_eq_true rfl) (vx_rmR (by decide)) ⟨rfl, rfl⟩ ⟨Nat.le_refl _, Nat.le_refl _⟩ (fun _ _ => trivial) (fun _ _ => trivial) hq (fun sh9 g1 hp _ => ?_)
  obtain ⟨e9, -, hp⟩ := hp
  subst e9
  replace h := h g1 hp
  refine vr_aload_n 15 dX5_pointsOfTry_14 rfl rfl rfl ?_
  refine vr_getr 18 4 cl_X5 fl_X5_44 (by decide) dX5_pointsOfTry_15 rfl s_0 rfl ?_
  refine vr_geti 21 5 5 cl_X0 fl_X5_155 (by decide) rfl dX5_pointsOfTry_18 rfl s_36 rfl ?_
  refine vr_iconst 22 dX5_pointsOfTry_21 rfl ⟨by decide, by decide⟩ ?_
  refine vr_icmp_ne 30 25 dX5_pointsOfTry_22 rfl rfl (fun c => ?_) (fun c => ?_)
  · replace h := h.1 c
    refine vr_aload_n 31 dX5_pointsOfTry_30 rfl rfl rfl ?_
    refine vr_getr 34 4 cl_X5 fl_X5_44 (by decide) dX5_pointsOfTry_31 rfl s_0 rfl ?_
    refine vr_geti 37 5 5 cl_X0 fl_X5_155 (by decide) rfl dX5_pointsOfTry_34 rfl s_36 rfl ?_
    refine vr_aload_n 38 dX5_pointsOfTry_37 rfl rfl rfl ?_
    refine vr_getr 41 4 cl_X5 fl_X5_44 (by decide) dX5_pointsOfTry_38 rfl s_0 rfl ?_
    obtain ⟨Q2, hq, h⟩ := h
    refine vr_callVi 44 [] 36 [.inl (g1 36 5)] dX5_pointsOfTry_41 rfl mc_X5_158 dn_X0_crowned rfl rfl s_36 rfl (Nat.le_of_ble_eq_true rfl) (vx_rmR (by decide)) ⟨rfl, rfl⟩ ⟨Nat.le_refl _, Nat.le_refl _⟩ (fun _ _ => trivial) (fun _ _ => trivial) hq (fun r2 sh9 g2 hp _ _ => ?_)
    obtain ⟨e9, z9, e8, hp⟩ := hp
    subst e9
    cases e8
    replace h := h r2 g2 hp
    refine vr_icmp_le 54 47 dX5_pointsOfTry_44 rfl rfl (fun c => ?_) (fun c => ?_)
    · replace h := h.1 c
      refine vr_iconst 55 dX5_pointsOfTry_54 rfl ⟨by decide, by decide⟩ ?_
      exact vr_iret rfl (Nat.le_refl _) (Nat.le_refl _) dX5_pointsOfTry_55 ⟨rfl, _, rfl, h⟩
    · replace h := h.2 c
      refine vr_aload_n 48 dX5_pointsOfTry_47 rfl rfl rfl ?_
      refine vr_geti 51 7 7 cl_X5 fl_X5_56 (by decide) rfl dX5_pointsOfTry_48 rfl s_0 rfl ?_
      refine vr_goto 55 dX5_pointsOfTry_51 rfl ?_
      exact vr_iret rfl (Nat.le_refl _) (Nat.le_refl _) dX5_pointsOfTry_55 ⟨rfl, _, rfl, h⟩
  · replace h := h.2 c
    refine vr_aload_n 26 dX5_pointsOfTry_25 rfl rfl rfl ?_
    refine vr_geti 29 8 8 cl_X5 fl_X5_60 (by decide) rfl dX5_pointsOfTry_26 rfl s_0 rfl ?_
    exact vr_iret rfl (Nat.le_refl _) (Nat.le_refl _) dX5_pointsOfTry_29 ⟨rfl, _, rfl, h⟩
theorem kX5_pointsOfTry {l : Launch} {d : Nat} {Q : Int → vx_M → Prop} (g : vx_M) (h : (∃ Q1 : vx_M → Prop, vNv l mX0_run d [.inr (some 36), .inr (some 39), .inl 200] SH g Q1 ∧ ∀ g1 : vx_M, Q1 g1 → ((¬ (g1 36 5) = (-1) → (∃ Q2 : Int → vx_M → Prop, vNi l mX0_crowned d [.inr (some 36)] SH g1 Q2 ∧ ∀ (r2 : Int) (g2 : vx_M), Q2 r2 g2 → (((g1 36 5) ≤ r2 → Q 0 g2) ∧ (¬ (g1 36 5) ≤ r2 → Q (g2 0 7) g2)))) ∧ ((g1 36 5) = (-1) → Q (g1 0 8) g1)))) : vNi l mX5_pointsOfTry (d + 1) [.inr (some 0)] SH g Q := vNi_of [some (.inr (some 0))] pn_X5 (Nat.le_of_ble_eq_true rfl) rfl (tX5_pointsOfTry_0 g  h)
end
section
set_option maxRecDepth 100000 in
theorem tX6_in_0 {l : Launch} {d : Nat} {Q : Int → vx_M → Prop} (g : vx_M) (v0 v1 v2 : Int) (h : ((v0 < v1 → Q 0 g) ∧ (¬ v0 < v1 → ((v2 < v0 → Q 0 g) ∧ (¬ v2 < v0 → Q 1 g))))) : vN l mX6_in d (vx_pi SH Q) SH g 0 [some (.inl v0), some (.inl v1), some (.inl v2)] [] := by
  refine vr_iload_n 1 dX6_in_0 rfl rfl rfl ?_
  refine vr_iload_n 2 dX6_in_1 rfl rfl rfl ?_
  refine vr_icmp_lt 14 5 dX6_in_2 rfl rfl (fun c => ?_) (fun c => ?_)
  · replace h := h.1 c
    refine vr_iconst 15 dX6_in_14 rfl ⟨by decide, by decide⟩ ?_
    exact vr_zret rfl (Nat.le_refl _) (Nat.le_refl _) dX6_in_15 (by decide) ⟨rfl, _, rfl, h⟩
  · replace h := h.2 c
    refine vr_iload_n 6 dX6_in_5 rfl rfl rfl ?_
    refine vr_iload_n 7 dX6_in_6 rfl rfl rfl ?_
    refine vr_icmp_gt 14 10 dX6_in_7 rfl rfl (fun c => ?_) (fun c => ?_)
    · replace h := h.1 c
      refine vr_iconst 15 dX6_in_14 rfl ⟨by decide, by decide⟩ ?_
      exact vr_zret rfl (Nat.le_refl _) (Nat.le_refl _) dX6_in_15 (by decide) ⟨rfl, _, rfl, h⟩
    · replace h := h.2 c
      refine vr_iconst 11 dX6_in_10 rfl ⟨by decide, by decide⟩ ?_
      refine vr_goto 15 dX6_in_11 rfl ?_
      exact vr_zret rfl (Nat.le_refl _) (Nat.le_refl _) dX6_in_15 (by decide) ⟨rfl, _, rfl, h⟩
theorem kX6_in {l : Launch} {d : Nat} {Q : Int → vx_M → Prop} (g : vx_M) (v0 v1 v2 : Int) (h : ((v0 < v1 → Q 0 g) ∧ (¬ v0 < v1 → ((v2 < v0 → Q 0 g) ∧ (¬ v2 < v0 → Q 1 g))))) : vNi l mX6_in d [.inl v0, .inl v1, .inl v2] SH g Q := vNi_of [some (.inl v0), some (.inl v1), some (.inl v2)] pn_X6 (Nat.le_of_ble_eq_true rfl) rfl (tX6_in_0 g v0 v1 v2 h)
set_option maxRecDepth 100000 in
theorem tX6_isPerson_0 {l : Launch} {d : Nat} {Q : Int → vx_M → Prop} (g : vx_M) (v1 : Int) (h : vx_in ((g 40 2) - 1) ∧ (∃ Q2 : Int → vx_M → Prop, vNi l mX6_in d [.inl v1, .inl 0, .inl ((g 40 2) - 1)] SH g Q2 ∧ ∀ (r2 : Int) (g2 : vx_M), Q2 r2 g2 → (r2 = 0 ∨ r2 = 1) ∧ Q r2 g2)) : vN l mX6_isPerson (d + 1) (vx_pi SH Q) SH g 0 [some (.inr (some 40)), some (.inl v1)] [] := by
  refine vr_iload_n 1 dX6_isPerson_0 rfl rfl rfl ?_
  refine vr_iconst 2 dX6_isPerson_1 rfl ⟨by decide, by decide⟩ ?_
  refine vr_aload_n 3 dX6_isPerson_2 rfl rfl rfl ?_
  refine vr_geti 6 2 2 cl_X6 fl_X6_81 (by decide) rfl dX6_isPerson_3 rfl s_40 rfl ?_
  refine vr_iconst 7 dX6_isPerson_6 rfl ⟨by decide, by decide⟩ ?_
  obtain ⟨o1, h⟩ := h
  refine vr_isub 8 dX6_isPerson_7 rfl o1 ?_
  obtain ⟨Q2, hq, h⟩ := h
  refine vr_callSi 11 [.inl v1, .inl 0, .inl ((g 40 2) - 1)] [] dX6_isPerson_8 rfl mc_X6_84 dn_X6_in rfl rfl (Nat.le_of_ble_eq_true rfl) (vx_rmR (by decide)) ⟨rfl, rfl⟩ ⟨Nat.le_refl _, Nat.le_refl _⟩ (fun _ _ => trivial) (fun _ _ => trivial) hq (fun r2 sh9 g2 hp _ _ => ?_)
  obtain ⟨e9, z9, e8, hp⟩ := hp
  subst e9
  cases e8
  replace h := h r2 g2 hp
  exact vr_zret rfl (Nat.le_refl _) (Nat.le_refl _) dX6_isPerson_11 h.1 ⟨rfl, _, rfl, h.2⟩
theorem kX6_isPerson {l : Launch} {d : Nat} {Q : Int → vx_M → Prop} (g : vx_M) (v1 : Int) (h : vx_in ((g 40 2) - 1) ∧ (∃ Q2 : Int → vx_M → Prop, vNi l mX6_in d [.inl v1, .inl 0, .inl ((g 40 2) - 1)] SH g Q2 ∧ ∀ (r2 : Int) (g2 : vx_M), Q2 r2 g2 → (r2 = 0 ∨ r2 = 1) ∧ Q r2 g2)) : vNi l mX6_isPerson (d + 1) [.inr (some 40), .inl v1] SH g Q := vNi_of [some (.inr (some 40)), some (.inl v1)] pn_X6 (Nat.le_of_ble_eq_true rfl) rfl (tX6_isPerson_0 g v1 h)
set_option maxRecDepth 100000 in
theorem tX6_isPlace_0 {l : Launch} {d : Nat} {Q : Int → vx_M → Prop} (g : vx_M) (v1 : Int) (h : vx_in ((g 40 10) - 1) ∧ (∃ Q2 : Int → vx_M → Prop, vNi l mX6_in d [.inl v1, .inl 0, .inl ((g 40 10) - 1)] SH g Q2 ∧ ∀ (r2 : Int) (g2 : vx_M), Q2 r2 g2 → (r2 = 0 ∨ r2 = 1) ∧ Q r2 g2)) : vN l mX6_isPlace (d + 1) (vx_pi SH Q) SH g 0 [some (.inr (some 40)), some (.inl v1)] [] := by
  refine vr_iload_n 1 dX6_isPlace_0 rfl rfl rfl ?_
  refine vr_iconst 2 dX6_isPlace_1 rfl ⟨by decide, by decide⟩ ?_
  refine vr_aload_n 3 dX6_isPlace_2 rfl rfl rfl ?_
  refine vr_geti 6 10 10 cl_X6 fl_X6_88 (by decide) rfl dX6_isPlace_3 rfl s_40 rfl ?_
  refine vr_iconst 7 dX6_isPlace_6 rfl ⟨by decide, by decide⟩ ?_
  obtain ⟨o1, h⟩ := h
  refine vr_isub 8 dX6_isPlace_7 rfl o1 ?_
  obtain ⟨Q2, hq, h⟩ := h
  refine vr_callSi 11 [.inl v1, .inl 0, .inl ((g 40 10) - 1)] [] dX6_isPlace_8 rfl mc_X6_84 dn_X6_in rfl rfl (Nat.le_of_ble_eq_true rfl) (vx_rmR (by decide)) ⟨rfl, rfl⟩ ⟨Nat.le_refl _, Nat.le_refl _⟩ (fun _ _ => trivial) (fun _ _ => trivial) hq (fun r2 sh9 g2 hp _ _ => ?_)
  obtain ⟨e9, z9, e8, hp⟩ := hp
  subst e9
  cases e8
  replace h := h r2 g2 hp
  exact vr_zret rfl (Nat.le_refl _) (Nat.le_refl _) dX6_isPlace_11 h.1 ⟨rfl, _, rfl, h.2⟩
theorem kX6_isPlace {l : Launch} {d : Nat} {Q : Int → vx_M → Prop} (g : vx_M) (v1 : Int) (h : vx_in ((g 40 10) - 1) ∧ (∃ Q2 : Int → vx_M → Prop, vNi l mX6_in d [.inl v1, .inl 0, .inl ((g 40 10) - 1)] SH g Q2 ∧ ∀ (r2 : Int) (g2 : vx_M), Q2 r2 g2 → (r2 = 0 ∨ r2 = 1) ∧ Q r2 g2)) : vNi l mX6_isPlace (d + 1) [.inr (some 40), .inl v1] SH g Q := vNi_of [some (.inr (some 40)), some (.inl v1)] pn_X6 (Nat.le_of_ble_eq_true rfl) rfl (tX6_isPlace_0 g v1 h)
set_option maxRecDepth 100000 in
theorem tX6_findPlaces_0 {l : Launch} {d : Nat} {Q : vx_M → Prop} (g : vx_M) (h : vN l mX6_findPlaces d (vx_pv SH Q) SH (vx_u g 40 10 0) 9 [some (.inr (some 40)), some (.inl 0), some (.inl 0), none, none] []) : vN l mX6_findPlaces d (vx_pv SH Q) SH g 0 [some (.inr (some 40)), none, none, none, none] [] := by
  refine vr_aload_n 1 dX6_findPlaces_0 rfl rfl rfl ?_
  refine vr_iconst 2 dX6_findPlaces_1 rfl ⟨by decide, by decide⟩ ?_
  refine vr_puti 5 10 10 cl_X6 fl_X6_88 (by decide) rfl rfl rfl dX6_findPlaces_2 rfl s_40 rfl ?_
  refine vr_iconst 6 dX6_findPlaces_5 rfl ⟨by decide, by decide⟩ ?_
  refine vr_istore_n 7 [some (.inr (some 40)), some (.inl 0), none, none, none] dX6_findPlaces_6 rfl rfl (by decide) rfl ?_
  refine vr_iconst 8 dX6_findPlaces_7 rfl ⟨by decide, by decide⟩ ?_
  refine vr_istore_n 9 [some (.inr (some 40)), some (.inl 0), some (.inl 0), none, none] dX6_findPlaces_8 rfl rfl (by decide) rfl ?_
  exact h
theorem kX6_findPlaces {l : Launch} {d : Nat} {Q : vx_M → Prop} (g : vx_M) (h : vN l mX6_findPlaces d (vx_pv SH Q) SH (vx_u g 40 10 0) 9 [some (.inr (some 40)), some (.inl 0), some (.inl 0), none, none] []) : vNv l mX6_findPlaces d [.inr (some 40)] SH g Q := vNv_of [some (.inr (some 40)), none, none, none, none] pn_X6 (Nat.le_of_ble_eq_true rfl) rfl (tX6_findPlaces_0 g  h)
set_option maxRecDepth 100000 in
theorem tX6_findPlaces_9 {l : Launch} {d : Nat} {Q : vx_M → Prop} (g : vx_M) (v1 v2 : Int) (h : (((g 40 0) ≤ v2 → Q g) ∧ (¬ (g 40 0) ≤ v2 → vN l mX6_findPlaces d (vx_pv SH Q) SH g 27 [some (.inr (some 40)), some (.inl (g 40 10)), some (.inl v2), some (.inl v1), some (.inl 0)] []))) : vN l mX6_findPlaces d (vx_pv SH Q) SH g 9 [some (.inr (some 40)), some (.inl v1), some (.inl v2), none, none] [] := by
  refine vr_iload_n 10 dX6_findPlaces_9 rfl rfl rfl ?_
  refine vr_aload_n 11 dX6_findPlaces_10 rfl rfl rfl ?_
  refine vr_geti 14 0 0 cl_X6 fl_X6_7 (by decide) rfl dX6_findPlaces_11 rfl s_40 rfl ?_
  refine vr_icmp_ge 132 17 dX6_findPlaces_14 rfl rfl (fun c => ?_) (fun c => ?_)
  · replace h := h.1 c
    exact vr_vret rfl (Nat.le_refl _) (Nat.le_refl _) dX6_findPlaces_132 ⟨rfl, rfl, h⟩
  · replace h := h.2 c
    refine vr_iload_n 18 dX6_findPlaces_17 rfl rfl rfl ?_
    refine vr_istore_n 19 [some (.inr (some 40)), some (.inl v1), some (.inl v2), some (.inl v1), none] dX6_findPlaces_18 rfl rfl (by decide) rfl ?_
    refine vr_aload_n 20 dX6_findPlaces_19 rfl rfl rfl ?_
    refine vr_geti 23 10 10 cl_X6 fl_X6_88 (by decide) rfl dX6_findPlaces_20 rfl s_40 rfl ?_
    refine vr_istore_n 24 [some (.inr (some 40)), some (.inl (g 40 10)), some (.inl v2), some (.inl v1), none] dX6_findPlaces_23 rfl rfl (by decide) rfl ?_
    refine vr_iconst 25 dX6_findPlaces_24 rfl ⟨by decide, by decide⟩ ?_
    refine vr_istore 27 [some (.inr (some 40)), some (.inl (g 40 10)), some (.inl v2), some (.inl v1), some (.inl 0)] dX6_findPlaces_25 rfl (by decide) rfl ?_
    exact h
set_option maxRecDepth 100000 in
theorem tX6_findPlaces_27 {l : Launch} {d : Nat} {Q : vx_M → Prop} (g : vx_M) (v1 v2 v3 v4 : Int) (h : (0 ≤ v2 ∧ v2 < 4) ∧ (((g 41 v2) ≤ v4 → vx_in (v2 + 1) ∧ vN l mX6_findPlaces d (vx_pv SH Q) SH g 9 [some (.inr (some 40)), some (.inl v1), some (.inl (v2 + 1)), none, none] []) ∧ (¬ (g 41 v2) ≤ v4 → (0 ≤ g 40 10 ∧ g 40 10 < 12) ∧ ((¬ v2 = 0 → vx_in (v2 - 1) ∧ (0 ≤ v2 - 1 ∧ v2 - 1 < 4) ∧ (0 ≤ v4 ∧ 0 < (g 41 (v2 - 1))) ∧ vx_in (v3 + (v4 % (g 41 (v2 - 1)))) ∧ vN l mX6_findPlaces d (vx_pv SH Q) SH (vx_u g 48 (g 40 10) v2) 77 [some (.inr (some 40)), some (.inl v1), some (.inl v2), some (.inl v3), some (.inl v4)] [.inl (v3 + (v4 % (g 41 (v2 - 1)))), .inl (g 40 10), .inr (some 49)]) ∧ (v2 = 0 → vN l mX6_findPlaces d (vx_pv SH Q) SH (vx_u g 48 (g 40 10) v2) 77 [some (.inr (some 40)), some (.inl v1), some (.inl v2), some (.inl v3), some (.inl v4)] [.inl (-1), .inl (g 40 10), .inr (some 49)]))))) : vN l mX6_findPlaces d (vx_pv SH Q) SH g 27 [some (.inr (some 40)), some (.inl v1), some (.inl v2), some (.inl v3), some (.inl v4)] [] := by
  refine vr_iload 29 dX6_findPlaces_27 rfl rfl ?_
  refine vr_aload_n 30 dX6_findPlaces_29 rfl rfl rfl ?_
  refine vr_getr 33 1 cl_X6 fl_X6_13 (by decide) dX6_findPlaces_30 rfl s_40 rfl ?_
  refine vr_iload_n 34 dX6_findPlaces_33 rfl rfl rfl ?_
  obtain ⟨o1, h⟩ := h
  refine vr_iald 35 dX6_findPlaces_34 rfl s_41 o1.1 o1.2 ?_
  refine vr_icmp_ge 126 38 dX6_findPlaces_35 rfl rfl (fun c => ?_) (fun c => ?_)
  · replace h := h.1 c
    obtain ⟨o2, h⟩ := h
    refine vr_iinc 129 [some (.inr (some 40)), some (.inl v1), some (.inl (v2 + 1)), some (.inl v3), some (.inl v4)] dX6_findPlaces_126 rfl rfl o2 (by decide) rfl ?_
    refine vr_goto 9 dX6_findPlaces_129 rfl ?_
    exact vr_forget [some (.inr (some 40)), some (.inl v1), some (.inl (v2 + 1)), none, none] (vx_sub.get _ _ ⟨rfl, ⟨rfl, ⟨rfl, trivial⟩⟩⟩) h
  · replace h := h.2 c
    refine vr_aload_n 39 dX6_findPlaces_38 rfl rfl rfl ?_
    refine vr_getr 42 11 cl_X6 fl_X6_39 (by decide) dX6_findPlaces_39 rfl s_40 rfl ?_
    refine vr_aload_n 43 dX6_findPlaces_42 rfl rfl rfl ?_
    refine vr_geti 46 10 10 cl_X6 fl_X6_88 (by decide) rfl dX6_findPlaces_43 rfl s_40 rfl ?_
    refine vr_iload_n 47 dX6_findPlaces_46 rfl rfl rfl ?_
    obtain ⟨o3, h⟩ := h
    refine vr_iast 48 dX6_findPlaces_47 rfl s_48 o3.1 o3.2 ?_
    refine vr_aload_n 49 dX6_findPlaces_48 rfl rfl rfl ?_
    refine vr_getr 52 12 cl_X6 fl_X6_42 (by decide) dX6_findPlaces_49 rfl s_40 rfl ?_
    refine vr_aload_n 53 dX6_findPlaces_52 rfl rfl rfl ?_
    refine vr_geti 56 10 10 cl_X6 fl_X6_88 (by decide) rfl dX6_findPlaces_53 rfl s_40 rfl ?_
    refine vr_iload_n 57 dX6_findPlaces_56 rfl rfl rfl ?_
    refine vr_if_ne 64 60 dX6_findPlaces_57 rfl rfl (fun c => ?_) (fun c => ?_)
    · replace h := h.1 c
      refine vr_iload_n 65 dX6_findPlaces_64 rfl rfl rfl ?_
      refine vr_iload 67 dX6_findPlaces_65 rfl rfl ?_
      refine vr_aload_n 68 dX6_findPlaces_67 rfl rfl rfl ?_
      refine vr_getr 71 1 cl_X6 fl_X6_13 (by decide) dX6_findPlaces_68 rfl s_40 rfl ?_
      refine vr_iload_n 72 dX6_findPlaces_71 rfl rfl rfl ?_
      refine vr_iconst 73 dX6_findPlaces_72 rfl ⟨by decide, by decide⟩ ?_
      obtain ⟨o4, h⟩ := h
      refine vr_isub 74 dX6_findPlaces_73 rfl o4 ?_
      obtain ⟨o5, h⟩ := h
      refine vr_iald 75 dX6_findPlaces_74 rfl s_41 o5.1 o5.2 ?_
      obtain ⟨o6, h⟩ := h
      refine vr_irem 76 dX6_findPlaces_75 rfl o6.1 o6.2 ?_
      obtain ⟨o7, h⟩ := h
      refine vr_iadd 77 dX6_findPlaces_76 rfl o7 ?_
      exact h
    · replace h := h.2 c
      refine vr_iconst 61 dX6_findPlaces_60 rfl ⟨by decide, by decide⟩ ?_
      refine vr_goto 77 dX6_findPlaces_61 rfl ?_
      exact h
set_option maxRecDepth 100000 in
theorem tX6_findPlaces_77 {l : Launch} {d : Nat} {Q : vx_M → Prop} (g : vx_M) (v1 v2 v3 v4 w0 w1 : Int) (h : (0 ≤ w1 ∧ w1 < 12) ∧ ((¬ v2 = 0 → vx_in (v4 + 1) ∧ vx_in (v2 - 1) ∧ (0 ≤ v2 - 1 ∧ v2 - 1 < 4) ∧ (0 ≤ (v4 + 1) ∧ 0 < (g 41 (v2 - 1))) ∧ vx_in (v3 + ((v4 + 1) % (g 41 (v2 - 1)))) ∧ vN l mX6_findPlaces d (vx_pv SH Q) SH (vx_u g 49 w1 w0) 109 [some (.inr (some 40)), some (.inl v1), some (.inl v2), some (.inl v3), some (.inl v4)] [.inl (v3 + ((v4 + 1) % (g 41 (v2 - 1)))), .inl (g 40 10), .inr (some 50)]) ∧ (v2 = 0 → vN l mX6_findPlaces d (vx_pv SH Q) SH (vx_u g 49 w1 w0) 109 [some (.inr (some 40)), some (.inl v1), some (.inl v2), some (.inl v3), some (.inl v4)] [.inl (-1), .inl (g 40 10), .inr (some 50)]))) : vN l mX6_findPlaces d (vx_pv SH Q) SH g 77 [some (.inr (some 40)), some (.inl v1), some (.inl v2), some (.inl v3), some (.inl v4)] [.inl w0, .inl w1, .inr (some 49)] := by
  obtain ⟨o1, h⟩ := h
  refine vr_iast 78 dX6_findPlaces_77 rfl s_49 o1.1 o1.2 ?_
  refine vr_aload_n 79 dX6_findPlaces_78 rfl rfl rfl ?_
  refine vr_getr 82 13 cl_X6 fl_X6_45 (by decide) dX6_findPlaces_79 rfl s_40 rfl ?_
  refine vr_aload_n 83 dX6_findPlaces_82 rfl rfl rfl ?_
  refine vr_geti 86 10 10 cl_X6 fl_X6_88 (by decide) rfl dX6_findPlaces_83 rfl s_40 rfl ?_
  refine vr_iload_n 87 dX6_findPlaces_86 rfl rfl rfl ?_
  refine vr_if_ne 94 90 dX6_findPlaces_87 rfl rfl (fun c => ?_) (fun c => ?_)
  · replace h := h.1 c
    refine vr_iload_n 95 dX6_findPlaces_94 rfl rfl rfl ?_
    refine vr_iload 97 dX6_findPlaces_95 rfl rfl ?_
    refine vr_iconst 98 dX6_findPlaces_97 rfl ⟨by decide, by decide⟩ ?_
    obtain ⟨o2, h⟩ := h
    refine vr_iadd 99 dX6_findPlaces_98 rfl o2 ?_
    refine vr_aload_n 100 dX6_findPlaces_99 rfl rfl rfl ?_
    refine vr_getr 103 1 cl_X6 fl_X6_13 (by decide) dX6_findPlaces_100 rfl s_40 rfl ?_
    refine vr_iload_n 104 dX6_findPlaces_103 rfl rfl rfl ?_
    refine vr_iconst 105 dX6_findPlaces_104 rfl ⟨by decide, by decide⟩ ?_
    obtain ⟨o3, h⟩ := h
    refine vr_isub 106 dX6_findPlaces_105 rfl o3 ?_
    obtain ⟨o4, h⟩ := h
    refine vr_iald 107 dX6_findPlaces_106 rfl s_41 o4.1 o4.2 ?_
    obtain ⟨o5, h⟩ := h
    refine vr_irem 108 dX6_findPlaces_107 rfl o5.1 o5.2 ?_
    obtain ⟨o6, h⟩ := h
    refine vr_iadd 109 dX6_findPlaces_108 rfl o6 ?_
    exact h
  · replace h := h.2 c
    refine vr_iconst 91 dX6_findPlaces_90 rfl ⟨by decide, by decide⟩ ?_
    refine vr_goto 109 dX6_findPlaces_91 rfl ?_
    exact h
set_option maxRecDepth 100000 in
theorem tX6_findPlaces_109 {l : Launch} {d : Nat} {Q : vx_M → Prop} (g : vx_M) (v1 v2 v3 v4 w0 w1 : Int) (h : (0 ≤ w1 ∧ w1 < 12) ∧ vx_in ((g 40 10) + 1) ∧ vx_in (v4 + 1) ∧ vN l mX6_findPlaces d (vx_pv SH Q) SH (vx_u (vx_u g 50 w1 w0) 40 10 ((g 40 10) + 1)) 27 [some (.inr (some 40)), some (.inl v1), some (.inl v2), some (.inl v3), some (.inl (v4 + 1))] []) : vN l mX6_findPlaces d (vx_pv SH Q) SH g 109 [some (.inr (some 40)), some (.inl v1), some (.inl v2), some (.inl v3), some (.inl v4)] [.inl w0, .inl w1, .inr (some 50)] := by
  obtain ⟨o1, h⟩ := h
  refine vr_iast 110 dX6_findPlaces_109 rfl s_50 o1.1 o1.2 ?_
  refine vr_aload_n 111 dX6_findPlaces_110 rfl rfl rfl ?_
  refine vr_dup 112 dX6_findPlaces_111 rfl ?_
  refine vr_geti 115 10 10 cl_X6 fl_X6_88 (by decide) rfl dX6_findPlaces_112 rfl s_40 rfl ?_
  refine vr_iconst 116 dX6_findPlaces_115 rfl ⟨by decide, by decide⟩ ?_
  obtain ⟨o2, h⟩ := h
  refine vr_iadd 117 dX6_findPlaces_116 rfl o2 ?_
  refine vr_puti 120 10 10 cl_X6 fl_X6_88 (by decide) rfl rfl rfl dX6_findPlaces_117 rfl s_40 rfl ?_
  obtain ⟨o3, h⟩ := h
  refine vr_iinc 123 [some (.inr (some 40)), some (.inl v1), some (.inl v2), some (.inl v3), some (.inl (v4 + 1))] dX6_findPlaces_120 rfl rfl o3 (by decide) rfl ?_
  refine vr_goto 27 dX6_findPlaces_123 rfl ?_
  exact h
set_option maxRecDepth 100000 in
theorem tX6_sum_0 {l : Launch} {d : Nat} {Q : Int → vx_M → Prop} (g : vx_M) (v1 : Int) (h : vN l mX6_sum d (vx_pi SH Q) SH g 4 [some (.inr (some 40)), some (.inl v1), some (.inl 0), some (.inl 0)] []) : vN l mX6_sum d (vx_pi SH Q) SH g 0 [some (.inr (some 40)), some (.inl v1), none, none] [] := by
  refine vr_iconst 1 dX6_sum_0 rfl ⟨by decide, by decide⟩ ?_
  refine vr_istore_n 2 [some (.inr (some 40)), some (.inl v1), some (.inl 0), none] dX6_sum_1 rfl rfl (by decide) rfl ?_
  refine vr_iconst 3 dX6_sum_2 rfl ⟨by decide, by decide⟩ ?_
  refine vr_istore_n 4 [some (.inr (some 40)), some (.inl v1), some (.inl 0), some (.inl 0)] dX6_sum_3 rfl rfl (by decide) rfl ?_
  exact h
theorem kX6_sum {l : Launch} {d : Nat} {Q : Int → vx_M → Prop} (g : vx_M) (v1 : Int) (h : vN l mX6_sum d (vx_pi SH Q) SH g 4 [some (.inr (some 40)), some (.inl v1), some (.inl 0), some (.inl 0)] []) : vNi l mX6_sum d [.inr (some 40), .inl v1] SH g Q := vNi_of [some (.inr (some 40)), some (.inl v1), none, none] pn_X6 (Nat.le_of_ble_eq_true rfl) rfl (tX6_sum_0 g v1 h)
set_option maxRecDepth 100000 in
theorem tX6_sum_4 {l : Launch} {d : Nat} {Q : Int → vx_M → Prop} (g : vx_M) (v1 v2 v3 : Int) (h : ((v1 ≤ v3 → Q v2 g) ∧ (¬ v1 ≤ v3 → (0 ≤ v3 ∧ v3 < 4) ∧ vx_in (v2 + (g 41 v3)) ∧ vx_in (v3 + 1) ∧ vN l mX6_sum d (vx_pi SH Q) SH g 4 [some (.inr (some 40)), some (.inl v1), some (.inl (v2 + (g 41 v3))), some (.inl (v3 + 1))] []))) : vN l mX6_sum d (vx_pi SH Q) SH g 4 [some (.inr (some 40)), some (.inl v1), some (.inl v2), some (.inl v3)] [] := by
  refine vr_iload_n 5 dX6_sum_4 rfl rfl rfl ?_
  refine vr_iload_n 6 dX6_sum_5 rfl rfl rfl ?_
  refine vr_icmp_ge 24 9 dX6_sum_6 rfl rfl (fun c => ?_) (fun c => ?_)
  · replace h := h.1 c
    refine vr_iload_n 25 dX6_sum_24 rfl rfl rfl ?_
    exact vr_iret rfl (Nat.le_refl _) (Nat.le_refl _) dX6_sum_25 ⟨rfl, _, rfl, h⟩
  · replace h := h.2 c
    refine vr_iload_n 10 dX6_sum_9 rfl rfl rfl ?_
    refine vr_aload_n 11 dX6_sum_10 rfl rfl rfl ?_
    refine vr_getr 14 1 cl_X6 fl_X6_13 (by decide) dX6_sum_11 rfl s_40 rfl ?_
    refine vr_iload_n 15 dX6_sum_14 rfl rfl rfl ?_
    obtain ⟨o1, h⟩ := h
    refine vr_iald 16 dX6_sum_15 rfl s_41 o1.1 o1.2 ?_
    obtain ⟨o2, h⟩ := h
    refine vr_iadd 17 dX6_sum_16 rfl o2 ?_
    refine vr_istore_n 18 [some (.inr (some 40)), some (.inl v1), some (.inl (v2 + (g 41 v3))), some (.inl v3)] dX6_sum_17 rfl rfl (by decide) rfl ?_
    obtain ⟨o3, h⟩ := h
    refine vr_iinc 21 [some (.inr (some 40)), some (.inl v1), some (.inl (v2 + (g 41 v3))), some (.inl (v3 + 1))] dX6_sum_18 rfl rfl o3 (by decide) rfl ?_
    refine vr_goto 4 dX6_sum_21 rfl ?_
    exact h
set_option maxRecDepth 100000 in
theorem tX6_storeys_0 {l : Launch} {d : Nat} {Q : Int → vx_M → Prop} (g : vx_M) (v1 : Int) (h : (∃ Q1 : Int → vx_M → Prop, vNi l mX6_in d [.inl v1, .inl 1, .inl 4] SH g Q1 ∧ ∀ (r1 : Int) (g1 : vx_M), Q1 r1 g1 → ((¬ r1 = 0 → (∃ Q2 : Int → vx_M → Prop, vNi l mX6_sum d [.inr (some 40), .inl v1] SH g1 Q2 ∧ ∀ (r2 : Int) (g2 : vx_M), Q2 r2 g2 → ((r2 ≤ 7 → (∃ Q3 : vx_M → Prop, vNv l mX6_findPlaces d [.inr (some 40)] SH (vx_u (vx_u g2 40 0 v1) 40 14 0) Q3 ∧ ∀ g3 : vx_M, Q3 g3 → Q (g3 40 10) g3)) ∧ (¬ r2 ≤ 7 → Q (-4) g2)))) ∧ (r1 = 0 → Q (-3) g1)))) : vN l mX6_storeys (d + 1) (vx_pi SH Q) SH g 0 [some (.inr (some 40)), some (.inl v1)] [] := by
  refine vr_iload_n 1 dX6_storeys_0 rfl rfl rfl ?_
  refine vr_iconst 2 dX6_storeys_1 rfl ⟨by decide, by decide⟩ ?_
  refine vr_iconst 3 dX6_storeys_2 rfl ⟨by decide, by decide⟩ ?_
  obtain ⟨Q1, hq, h⟩ := h
  refine vr_callSi 6 [.inl v1, .inl 1, .inl 4] [] dX6_storeys_3 rfl mc_X6_84 dn_X6_in rfl rfl (Nat.le_of_ble_eq_true rfl) (vx_rmR (by decide)) ⟨rfl, rfl⟩ ⟨Nat.le_refl _, Nat.le_refl _⟩ (fun _ _ => trivial) (fun _ _ => trivial) hq (fun r1 sh9 g1 hp _ _ => ?_)
  obtain ⟨e9, z9, e8, hp⟩ := hp
  subst e9
  cases e8
  replace h := h r1 g1 hp
  refine vr_if_ne 12 9 dX6_storeys_6 rfl rfl (fun c => ?_) (fun c => ?_)
  · replace h := h.1 c
    refine vr_aload_n 13 dX6_storeys_12 rfl rfl rfl ?_
    refine vr_iload_n 14 dX6_storeys_13 rfl rfl rfl ?_
    obtain ⟨Q2, hq, h⟩ := h
    refine vr_callVi 17 [.inl v1] 40 [] dX6_storeys_14 rfl mc_X6_91 dn_X6_sum rfl rfl s_40 rfl (Nat.le_of_ble_eq_true rfl) (vx_rmR (by decide)) ⟨rfl, rfl⟩ ⟨Nat.le_refl _, Nat.le_refl _⟩ (fun _ _ => trivial) (fun _ _ => trivial) hq (fun r2 sh9 g2 hp _ _ => ?_)
    obtain ⟨e9, z9, e8, hp⟩ := hp
    subst e9
    cases e8
    replace h := h r2 g2 hp
    refine vr_bipush 19 dX6_storeys_17 rfl (by decide) ⟨by decide, by decide⟩ ?_
    refine vr_icmp_le 25 22 dX6_storeys_19 rfl rfl (fun c => ?_) (fun c => ?_)
    · replace h := h.1 c
      refine vr_aload_n 26 dX6_storeys_25 rfl rfl rfl ?_
      refine vr_iload_n 27 dX6_storeys_26 rfl rfl rfl ?_
      refine vr_puti 30 0 0 cl_X6 fl_X6_7 (by decide) rfl rfl rfl dX6_storeys_27 rfl s_40 rfl ?_
      refine vr_aload_n 31 dX6_storeys_30 rfl rfl rfl ?_
      refine vr_iconst 32 dX6_storeys_31 rfl ⟨by decide, by decide⟩ ?_
      refine vr_putz 35 14 14 cl_X6 fl_X6_95 (by decide) rfl rfl rfl (by decide) dX6_storeys_32 rfl s_40 rfl ?_
      refine vr_aload_n 36 dX6_storeys_35 rfl rfl rfl ?_
      obtain ⟨Q3, hq, h⟩ := h
      refine vr_callVv 39 [] 40 [] dX6_storeys_36 rfl mc_X6_78 dn_X6_findPlaces rfl rfl s_40 rfl (Nat.le_of_ble_eq_true rfl) (vx_rmR (by decide)) ⟨rfl, rfl⟩ ⟨Nat.le_refl _, Nat.le_refl _⟩ (fun _ _ => trivial) (fun _ _ => trivial) hq (fun sh9 g3 hp _ => ?_)
      obtain ⟨e9, -, hp⟩ := hp
      subst e9
      replace h := h g3 hp
      refine vr_aload_n 40 dX6_storeys_39 rfl rfl rfl ?_
      refine vr_geti 43 10 10 cl_X6 fl_X6_88 (by decide) rfl dX6_storeys_40 rfl s_40 rfl ?_
      exact vr_iret rfl (Nat.le_refl _) (Nat.le_refl _) dX6_storeys_43 ⟨rfl, _, rfl, h⟩
    · replace h := h.2 c
      refine vr_bipush 24 dX6_storeys_22 rfl (by decide) ⟨by decide, by decide⟩ ?_
      exact vr_iret rfl (Nat.le_refl _) (Nat.le_refl _) dX6_storeys_24 ⟨rfl, _, rfl, h⟩
  · replace h := h.2 c
    refine vr_bipush 11 dX6_storeys_9 rfl (by decide) ⟨by decide, by decide⟩ ?_
    exact vr_iret rfl (Nat.le_refl _) (Nat.le_refl _) dX6_storeys_11 ⟨rfl, _, rfl, h⟩
theorem kX6_storeys {l : Launch} {d : Nat} {Q : Int → vx_M → Prop} (g : vx_M) (v1 : Int) (h : (∃ Q1 : Int → vx_M → Prop, vNi l mX6_in d [.inl v1, .inl 1, .inl 4] SH g Q1 ∧ ∀ (r1 : Int) (g1 : vx_M), Q1 r1 g1 → ((¬ r1 = 0 → (∃ Q2 : Int → vx_M → Prop, vNi l mX6_sum d [.inr (some 40), .inl v1] SH g1 Q2 ∧ ∀ (r2 : Int) (g2 : vx_M), Q2 r2 g2 → ((r2 ≤ 7 → (∃ Q3 : vx_M → Prop, vNv l mX6_findPlaces d [.inr (some 40)] SH (vx_u (vx_u g2 40 0 v1) 40 14 0) Q3 ∧ ∀ g3 : vx_M, Q3 g3 → Q (g3 40 10) g3)) ∧ (¬ r2 ≤ 7 → Q (-4) g2)))) ∧ (r1 = 0 → Q (-3) g1)))) : vNi l mX6_storeys (d + 1) [.inr (some 40), .inl v1] SH g Q := vNi_of [some (.inr (some 40)), some (.inl v1)] pn_X6 (Nat.le_of_ble_eq_true rfl) rfl (tX6_storeys_0 g v1 h)
set_option maxRecDepth 100000 in
theorem tX6_width_0 {l : Launch} {d : Nat} {Q : Int → vx_M → Prop} (g : vx_M) (v1 v2 : Int) (h : (∃ Q1 : Int → vx_M → Prop, vNi l mX6_in d [.inl v1, .inl 0, .inl 3] SH g Q1 ∧ ∀ (r1 : Int) (g1 : vx_M), Q1 r1 g1 → ((¬ r1 = 0 → (∃ Q2 : Int → vx_M → Prop, vNi l mX6_in d [.inl v2, .inl 1, .inl 3] SH g1 Q2 ∧ ∀ (r2 : Int) (g2 : vx_M), Q2 r2 g2 → ((¬ r2 = 0 → (0 ≤ v1 ∧ v1 < 4) ∧ (((g2 40 0) ≤ v1 → vN l mX6_width (d + 1) (vx_pi SH Q) SH g2 59 [some (.inr (some 40)), some (.inl v1), some (.inl v2), some (.inl (g2 41 v1))] []) ∧ (¬ (g2 40 0) ≤ v1 → (∃ Q4 : Int → vx_M → Prop, vNi l mX6_sum d [.inr (some 40), .inl (g2 40 0)] SH g2 Q4 ∧ ∀ (r4 : Int) (g4 : vx_M), Q4 r4 g4 → vx_in (r4 - (g2 41 v1)) ∧ vx_in ((r4 - (g2 41 v1)) + v2) ∧ ((((r4 - (g2 41 v1)) + v2) ≤ 7 → vN l mX6_width (d + 1) (vx_pi SH Q) SH g4 59 [some (.inr (some 40)), some (.inl v1), some (.inl v2), some (.inl (g2 41 v1))] []) ∧ (¬ ((r4 - (g2 41 v1)) + v2) ≤ 7 → Q (-4) g4)))))) ∧ (r2 = 0 → Q (-3) g2)))) ∧ (r1 = 0 → Q (-2) g1)))) : vN l mX6_width (d + 1) (vx_pi SH Q) SH g 0 [some (.inr (some 40)), some (.inl v1), some (.inl v2), none] [] := by
  refine vr_iload_n 1 dX6_width_0 rfl rfl rfl ?_
  refine vr_iconst 2 dX6_width_1 rfl ⟨by decide, by decide⟩ ?_
  refine vr_iconst 3 dX6_width_2 rfl ⟨by decide, by decide⟩ ?_
  obtain ⟨Q1, hq, h⟩ := h
  refine vr_callSi 6 [.inl v1, .inl 0, .inl 3] [] dX6_width_3 rfl mc_X6_84 dn_X6_in rfl rfl (Nat.le_of_ble_eq_true rfl) (vx_rmR (by decide)) ⟨rfl, rfl⟩ ⟨Nat.le_refl _, Nat.le_refl _⟩ (fun _ _ => trivial) (fun _ _ => trivial) hq (fun r1 sh9 g1 hp _ _ => ?_)
  obtain ⟨e9, z9, e8, hp⟩ := hp
  subst e9
  cases e8
  replace h := h r1 g1 hp
  refine vr_if_ne 12 9 dX6_width_6 rfl rfl (fun c => ?_) (fun c => ?_)
  · replace h := h.1 c
    refine vr_iload_n 13 dX6_width_12 rfl rfl rfl ?_
    refine vr_iconst 14 dX6_width_13 rfl ⟨by decide, by decide⟩ ?_
    refine vr_iconst 15 dX6_width_14 rfl ⟨by decide, by decide⟩ ?_
    obtain ⟨Q2, hq, h⟩ := h
    refine vr_callSi 18 [.inl v2, .inl 1, .inl 3] [] dX6_width_15 rfl mc_X6_84 dn_X6_in rfl rfl (Nat.le_of_ble_eq_true rfl) (vx_rmR (by decide)) ⟨rfl, rfl⟩ ⟨Nat.le_refl _, Nat.le_refl _⟩ (fun _ _ => trivial) (fun _ _ => trivial) hq (fun r2 sh9 g2 hp _ _ => ?_)
    obtain ⟨e9, z9, e8, hp⟩ := hp
    subst e9
    cases e8
    replace h := h r2 g2 hp
    refine vr_if_ne 24 21 dX6_width_18 rfl rfl (fun c => ?_) (fun c => ?_)
    · replace h := h.1 c
      refine vr_aload_n 25 dX6_width_24 rfl rfl rfl ?_
      refine vr_getr 28 1 cl_X6 fl_X6_13 (by decide) dX6_width_25 rfl s_40 rfl ?_
      refine vr_iload_n 29 dX6_width_28 rfl rfl rfl ?_
      obtain ⟨o3, h⟩ := h
      refine vr_iald 30 dX6_width_29 rfl s_41 o3.1 o3.2 ?_
      refine vr_istore_n 31 [some (.inr (some 40)), some (.inl v1), some (.inl v2), some (.inl (g2 41 v1))] dX6_width_30 rfl rfl (by decide) rfl ?_
      refine vr_iload_n 32 dX6_width_31 rfl rfl rfl ?_
      refine vr_aload_n 33 dX6_width_32 rfl rfl rfl ?_
      refine vr_geti 36 0 0 cl_X6 fl_X6_7 (by decide) rfl dX6_width_33 rfl s_40 rfl ?_
      refine vr_icmp_ge 59 39 dX6_width_36 rfl rfl (fun c => ?_) (fun c => ?_)
      · replace h := h.1 c
        exact h
      · replace h := h.2 c
        refine vr_aload_n 40 dX6_width_39 rfl rfl rfl ?_
        refine vr_aload_n 41 dX6_width_40 rfl rfl rfl ?_
        refine vr_geti 44 0 0 cl_X6 fl_X6_7 (by decide) rfl dX6_width_41 rfl s_40 rfl ?_
        obtain ⟨Q4, hq, h⟩ := h
        refine vr_callVi 47 [.inl (g2 40 0)] 40 [] dX6_width_44 rfl mc_X6_91 dn_X6_sum rfl rfl s_40 rfl (Nat.le_of_ble_eq_true rfl) (vx_rmR (by decide)) ⟨rfl, rfl⟩ ⟨Nat.le_refl _, Nat.le_refl _⟩ (fun _ _ => trivial) (fun _ _ => trivial) hq (fun r4 sh9 g4 hp _ _ => ?_)
        obtain ⟨e9, z9, e8, hp⟩ := hp
        subst e9
        cases e8
        replace h := h r4 g4 hp
        refine vr_iload_n 48 dX6_width_47 rfl rfl rfl ?_
        obtain ⟨o5, h⟩ := h
        refine vr_isub 49 dX6_width_48 rfl o5 ?_
        refine vr_iload_n 50 dX6_width_49 rfl rfl rfl ?_
        obtain ⟨o6, h⟩ := h
        refine vr_iadd 51 dX6_width_50 rfl o6 ?_
        refine vr_bipush 53 dX6_width_51 rfl (by decide) ⟨by decide, by decide⟩ ?_
        refine vr_icmp_le 59 56 dX6_width_53 rfl rfl (fun c => ?_) (fun c => ?_)
        · replace h := h.1 c
          exact h
        · replace h := h.2 c
          refine vr_bipush 58 dX6_width_56 rfl (by decide) ⟨by decide, by decide⟩ ?_
          exact vr_iret rfl (Nat.le_refl _) (Nat.le_refl _) dX6_width_58 ⟨rfl, _, rfl, h⟩
    · replace h := h.2 c
      refine vr_bipush 23 dX6_width_21 rfl (by decide) ⟨by decide, by decide⟩ ?_
      exact vr_iret rfl (Nat.le_refl _) (Nat.le_refl _) dX6_width_23 ⟨rfl, _, rfl, h⟩
  · replace h := h.2 c
    refine vr_bipush 11 dX6_width_9 rfl (by decide) ⟨by decide, by decide⟩ ?_
    exact vr_iret rfl (Nat.le_refl _) (Nat.le_refl _) dX6_width_11 ⟨rfl, _, rfl, h⟩
theorem kX6_width {l : Launch} {d : Nat} {Q : Int → vx_M → Prop} (g : vx_M) (v1 v2 : Int) (h : (∃ Q1 : Int → vx_M → Prop, vNi l mX6_in d [.inl v1, .inl 0, .inl 3] SH g Q1 ∧ ∀ (r1 : Int) (g1 : vx_M), Q1 r1 g1 → ((¬ r1 = 0 → (∃ Q2 : Int → vx_M → Prop, vNi l mX6_in d [.inl v2, .inl 1, .inl 3] SH g1 Q2 ∧ ∀ (r2 : Int) (g2 : vx_M), Q2 r2 g2 → ((¬ r2 = 0 → (0 ≤ v1 ∧ v1 < 4) ∧ (((g2 40 0) ≤ v1 → vN l mX6_width (d + 1) (vx_pi SH Q) SH g2 59 [some (.inr (some 40)), some (.inl v1), some (.inl v2), some (.inl (g2 41 v1))] []) ∧ (¬ (g2 40 0) ≤ v1 → (∃ Q4 : Int → vx_M → Prop, vNi l mX6_sum d [.inr (some 40), .inl (g2 40 0)] SH g2 Q4 ∧ ∀ (r4 : Int) (g4 : vx_M), Q4 r4 g4 → vx_in (r4 - (g2 41 v1)) ∧ vx_in ((r4 - (g2 41 v1)) + v2) ∧ ((((r4 - (g2 41 v1)) + v2) ≤ 7 → vN l mX6_width (d + 1) (vx_pi SH Q) SH g4 59 [some (.inr (some 40)), some (.inl v1), some (.inl v2), some (.inl (g2 41 v1))] []) ∧ (¬ ((r4 - (g2 41 v1)) + v2) ≤ 7 → Q (-4) g4)))))) ∧ (r2 = 0 → Q (-3) g2)))) ∧ (r1 = 0 → Q (-2) g1)))) : vNi l mX6_width (d + 1) [.inr (some 40), .inl v1, .inl v2] SH g Q := vNi_of [some (.inr (some 40)), some (.inl v1), some (.inl v2), none] pn_X6 (Nat.le_of_ble_eq_true rfl) rfl (tX6_width_0 g v1 v2 h)
set_option maxRecDepth 100000 in
theorem tX6_width_59 {l : Launch} {d : Nat} {Q : Int → vx_M → Prop} (g : vx_M) (v1 v2 v3 : Int) (h : (0 ≤ v1 ∧ v1 < 4) ∧ (∃ Q2 : vx_M → Prop, vNv l mX6_findPlaces d [.inr (some 40)] SH (vx_u (vx_u g 41 v1 v2) 40 14 0) Q2 ∧ ∀ g2 : vx_M, Q2 g2 → Q v3 g2)) : vN l mX6_width (d + 1) (vx_pi SH Q) SH g 59 [some (.inr (some 40)), some (.inl v1), some (.inl v2), some (.inl v3)] [] := by
  refine vr_aload_n 60 dX6_width_59 rfl rfl rfl ?_
  refine vr_getr 63 1 cl_X6 fl_X6_13 (by decide) dX6_width_60 rfl s_40 rfl ?_
  refine vr_iload_n 64 dX6_width_63 rfl rfl rfl ?_
  refine vr_iload_n 65 dX6_width_64 rfl rfl rfl ?_
  obtain ⟨o1, h⟩ := h
  refine vr_iast 66 dX6_width_65 rfl s_41 o1.1 o1.2 ?_
  refine vr_aload_n 67 dX6_width_66 rfl rfl rfl ?_
  refine vr_iconst 68 dX6_width_67 rfl ⟨by decide, by decide⟩ ?_
  refine vr_putz 71 14 14 cl_X6 fl_X6_95 (by decide) rfl rfl rfl (by decide) dX6_width_68 rfl s_40 rfl ?_
  refine vr_aload_n 72 dX6_width_71 rfl rfl rfl ?_
  obtain ⟨Q2, hq, h⟩ := h
  refine vr_callVv 75 [] 40 [] dX6_width_72 rfl mc_X6_78 dn_X6_findPlaces rfl rfl s_40 rfl (Nat.le_of_ble_eq_true rfl) (vx_rmR (by decide)) ⟨rfl, rfl⟩ ⟨Nat.le_refl _, Nat.le_refl _⟩ (fun _ _ => trivial) (fun _ _ => trivial) hq (fun sh9 g2 hp _ => ?_)
  obtain ⟨e9, -, hp⟩ := hp
  subst e9
  replace h := h g2 hp
  refine vr_iload_n 76 dX6_width_75 rfl rfl rfl ?_
  exact vr_iret rfl (Nat.le_refl _) (Nat.le_refl _) dX6_width_76 ⟨rfl, _, rfl, h⟩
set_option maxRecDepth 100000 in
theorem tX6_person_0 {l : Launch} {d : Nat} {Q : Int → vx_M → Prop} (g : vx_M) (v1 v2 v3 v4 v5 : Int) (h : (∃ Q1 : Int → vx_M → Prop, vNi l mX6_in d [.inl v1, .inl 100, .inl 200] SH g Q1 ∧ ∀ (r1 : Int) (g1 : vx_M), Q1 r1 g1 → ((r1 = 0 → Q (-3) g1) ∧ (¬ r1 = 0 → (∃ Q2 : Int → vx_M → Prop, vNi l mX6_in d [.inl v2, .inl 20, .inl 120] SH g1 Q2 ∧ ∀ (r2 : Int) (g2 : vx_M), Q2 r2 g2 → ((r2 = 0 → Q (-3) g2) ∧ (¬ r2 = 0 → (∃ Q3 : Int → vx_M → Prop, vNi l mX6_in d [.inl v3, .inl 0, .inl 400] SH g2 Q3 ∧ ∀ (r3 : Int) (g3 : vx_M), Q3 r3 g3 → ((r3 = 0 → Q (-3) g3) ∧ (¬ r3 = 0 → (∃ Q4 : Int → vx_M → Prop, vNi l mX6_in d [.inl v4, .inl 0, .inl 3] SH g3 Q4 ∧ ∀ (r4 : Int) (g4 : vx_M), Q4 r4 g4 → ((r4 = 0 → Q (-3) g4) ∧ (¬ r4 = 0 → (∃ Q5 : Int → vx_M → Prop, vNi l mX6_in d [.inl v5, .inl 0, .inl 20000] SH g4 Q5 ∧ ∀ (r5 : Int) (g5 : vx_M), Q5 r5 g5 → ((¬ r5 = 0 → ((¬ (g5 40 2) = 8 → (0 ≤ g5 40 2 ∧ g5 40 2 < 8) ∧ (0 ≤ g5 40 2 ∧ g5 40 2 < 8) ∧ (0 ≤ g5 40 2 ∧ g5 40 2 < 8) ∧ (0 ≤ g5 40 2 ∧ g5 40 2 < 8) ∧ (0 ≤ g5 40 2 ∧ g5 40 2 < 8) ∧ vx_in ((g5 40 2) + 1) ∧ vx_in (((vx_u (vx_u (vx_u (vx_u (vx_u (vx_u g5 42 (g5 40 2) v1) 43 (g5 40 2) v2) 44 (g5 40 2) v3) 45 (g5 40 2) v4) 46 (g5 40 2) v5) 40 2 ((g5 40 2) + 1)) 40 2) - 1) ∧ Q (((vx_u (vx_u (vx_u (vx_u (vx_u (vx_u g5 42 (g5 40 2) v1) 43 (g5 40 2) v2) 44 (g5 40 2) v3) 45 (g5 40 2) v4) 46 (g5 40 2) v5) 40 2 ((g5 40 2) + 1)) 40 2) - 1) (vx_u (vx_u (vx_u (vx_u (vx_u (vx_u g5 42 (g5 40 2) v1) 43 (g5 40 2) v2) 44 (g5 40 2) v3) 45 (g5 40 2) v4) 46 (g5 40 2) v5) 40 2 ((g5 40 2) + 1))) ∧ ((g5 40 2) = 8 → Q (-5) g5))) ∧ (r5 = 0 → Q (-3) g5)))))))))))))))) : vN l mX6_person (d + 1) (vx_pi SH Q) SH g 0 [some (.inr (some 40)), some (.inl v1), some (.inl v2), some (.inl v3), some (.inl v4), some (.inl v5)] [] := by
  refine vr_iload_n 1 dX6_person_0 rfl rfl rfl ?_
  refine vr_bipush 3 dX6_person_1 rfl (by decide) ⟨by decide, by decide⟩ ?_
  refine vr_sipush 6 dX6_person_3 rfl (by decide) ⟨by decide, by decide⟩ ?_
  obtain ⟨Q1, hq, h⟩ := h
  refine vr_callSi 9 [.inl v1, .inl 100, .inl 200] [] dX6_person_6 rfl mc_X6_84 dn_X6_in rfl rfl (Nat.le_of_ble_eq_true rfl) (vx_rmR (by decide)) ⟨rfl, rfl⟩ ⟨Nat.le_refl _, Nat.le_refl _⟩ (fun _ _ => trivial) (fun _ _ => trivial) hq (fun r1 sh9 g1 hp _ _ => ?_)
  obtain ⟨e9, z9, e8, hp⟩ := hp
  subst e9
  cases e8
  replace h := h r1 g1 hp
  refine vr_if_eq 56 12 dX6_person_9 rfl rfl (fun c => ?_) (fun c => ?_)
  · replace h := h.1 c
    refine vr_bipush 58 dX6_person_56 rfl (by decide) ⟨by decide, by decide⟩ ?_
    exact vr_iret rfl (Nat.le_refl _) (Nat.le_refl _) dX6_person_58 ⟨rfl, _, rfl, h⟩
  · replace h := h.2 c
    refine vr_iload_n 13 dX6_person_12 rfl rfl rfl ?_
    refine vr_bipush 15 dX6_person_13 rfl (by decide) ⟨by decide, by decide⟩ ?_
    refine vr_bipush 17 dX6_person_15 rfl (by decide) ⟨by decide, by decide⟩ ?_
    obtain ⟨Q2, hq, h⟩ := h
    refine vr_callSi 20 [.inl v2, .inl 20, .inl 120] [] dX6_person_17 rfl mc_X6_84 dn_X6_in rfl rfl (Nat.le_of_ble_eq_true rfl) (vx_rmR (by decide)) ⟨rfl, rfl⟩ ⟨Nat.le_refl _, Nat.le_refl _⟩ (fun _ _ => trivial) (fun _ _ => trivial) hq (fun r2 sh9 g2 hp _ _ => ?_)
    obtain ⟨e9, z9, e8, hp⟩ := hp
    subst e9
    cases e8
    replace h := h r2 g2 hp
    refine vr_if_eq 56 23 dX6_person_20 rfl rfl (fun c => ?_) (fun c => ?_)
    · replace h := h.1 c
      refine vr_bipush 58 dX6_person_56 rfl (by decide) ⟨by decide, by decide⟩ ?_
      exact vr_iret rfl (Nat.le_refl _) (Nat.le_refl _) dX6_person_58 ⟨rfl, _, rfl, h⟩
    · replace h := h.2 c
      refine vr_iload_n 24 dX6_person_23 rfl rfl rfl ?_
      refine vr_iconst 25 dX6_person_24 rfl ⟨by decide, by decide⟩ ?_
      refine vr_sipush 28 dX6_person_25 rfl (by decide) ⟨by decide, by decide⟩ ?_
      obtain ⟨Q3, hq, h⟩ := h
      refine vr_callSi 31 [.inl v3, .inl 0, .inl 400] [] dX6_person_28 rfl mc_X6_84 dn_X6_in rfl rfl (Nat.le_of_ble_eq_true rfl) (vx_rmR (by decide)) ⟨rfl, rfl⟩ ⟨Nat.le_refl _, Nat.le_refl _⟩ (fun _ _ => trivial) (fun _ _ => trivial) hq (fun r3 sh9 g3 hp _ _ => ?_)
      obtain ⟨e9, z9, e8, hp⟩ := hp
      subst e9
      cases e8
      replace h := h r3 g3 hp
      refine vr_if_eq 56 34 dX6_person_31 rfl rfl (fun c => ?_) (fun c => ?_)
      · replace h := h.1 c
        refine vr_bipush 58 dX6_person_56 rfl (by decide) ⟨by decide, by decide⟩ ?_
        exact vr_iret rfl (Nat.le_refl _) (Nat.le_refl _) dX6_person_58 ⟨rfl, _, rfl, h⟩
      · replace h := h.2 c
        refine vr_iload 36 dX6_person_34 rfl rfl ?_
        refine vr_iconst 37 dX6_person_36 rfl ⟨by decide, by decide⟩ ?_
        refine vr_iconst 38 dX6_person_37 rfl ⟨by decide, by decide⟩ ?_
        obtain ⟨Q4, hq, h⟩ := h
        refine vr_callSi 41 [.inl v4, .inl 0, .inl 3] [] dX6_person_38 rfl mc_X6_84 dn_X6_in rfl rfl (Nat.le_of_ble_eq_true rfl) (vx_rmR (by decide)) ⟨rfl, rfl⟩ ⟨Nat.le_refl _, Nat.le_refl _⟩ (fun _ _ => trivial) (fun _ _ => trivial) hq (fun r4 sh9 g4 hp _ _ => ?_)
        obtain ⟨e9, z9, e8, hp⟩ := hp
        subst e9
        cases e8
        replace h := h r4 g4 hp
        refine vr_if_eq 56 44 dX6_person_41 rfl rfl (fun c => ?_) (fun c => ?_)
        · replace h := h.1 c
          refine vr_bipush 58 dX6_person_56 rfl (by decide) ⟨by decide, by decide⟩ ?_
          exact vr_iret rfl (Nat.le_refl _) (Nat.le_refl _) dX6_person_58 ⟨rfl, _, rfl, h⟩
        · replace h := h.2 c
          refine vr_iload 46 dX6_person_44 rfl rfl ?_
          refine vr_iconst 47 dX6_person_46 rfl ⟨by decide, by decide⟩ ?_
          refine vr_sipush 50 dX6_person_47 rfl (by decide) ⟨by decide, by decide⟩ ?_
          obtain ⟨Q5, hq, h⟩ := h
          refine vr_callSi 53 [.inl v5, .inl 0, .inl 20000] [] dX6_person_50 rfl mc_X6_84 dn_X6_in rfl rfl (Nat.le_of_ble_eq_true rfl) (vx_rmR (by decide)) ⟨rfl, rfl⟩ ⟨Nat.le_refl _, Nat.le_refl _⟩ (fun _ _ => trivial) (fun _ _ => trivial) hq (fun r5 sh9 g5 hp _ _ => ?_)
          obtain ⟨e9, z9, e8, hp⟩ := hp
          subst e9
          cases e8
          replace h := h r5 g5 hp
          refine vr_if_ne 59 56 dX6_person_53 rfl rfl (fun c => ?_) (fun c => ?_)
          · replace h := h.1 c
            refine vr_aload_n 60 dX6_person_59 rfl rfl rfl ?_
            refine vr_geti 63 2 2 cl_X6 fl_X6_81 (by decide) rfl dX6_person_60 rfl s_40 rfl ?_
            refine vr_bipush 65 dX6_person_63 rfl (by decide) ⟨by decide, by decide⟩ ?_
            refine vr_icmp_ne 71 68 dX6_person_65 rfl rfl (fun c => ?_) (fun c => ?_)
            · replace h := h.1 c
              refine vr_aload_n 72 dX6_person_71 rfl rfl rfl ?_
              refine vr_getr 75 3 cl_X6 fl_X6_17 (by decide) dX6_person_72 rfl s_40 rfl ?_
              refine vr_aload_n 76 dX6_person_75 rfl rfl rfl ?_
              refine vr_geti 79 2 2 cl_X6 fl_X6_81 (by decide) rfl dX6_person_76 rfl s_40 rfl ?_
              refine vr_iload_n 80 dX6_person_79 rfl rfl rfl ?_
              obtain ⟨o6, h⟩ := h
              refine vr_iast 81 dX6_person_80 rfl s_42 o6.1 o6.2 ?_
              refine vr_aload_n 82 dX6_person_81 rfl rfl rfl ?_
              refine vr_getr 85 4 cl_X6 fl_X6_20 (by decide) dX6_person_82 rfl s_40 rfl ?_
              refine vr_aload_n 86 dX6_person_85 rfl rfl rfl ?_
              refine vr_geti 89 2 2 cl_X6 fl_X6_81 (by decide) rfl dX6_person_86 rfl s_40 rfl ?_
              refine vr_iload_n 90 dX6_person_89 rfl rfl rfl ?_
              obtain ⟨o7, h⟩ := h
              refine vr_iast 91 dX6_person_90 rfl s_43 o7.1 o7.2 ?_
              refine vr_aload_n 92 dX6_person_91 rfl rfl rfl ?_
              refine vr_getr 95 5 cl_X6 fl_X6_23 (by decide) dX6_person_92 rfl s_40 rfl ?_
              refine vr_aload_n 96 dX6_person_95 rfl rfl rfl ?_
              refine vr_geti 99 2 2 cl_X6 fl_X6_81 (by decide) rfl dX6_person_96 rfl s_40 rfl ?_
              refine vr_iload_n 100 dX6_person_99 rfl rfl rfl ?_
              obtain ⟨o8, h⟩ := h
              refine vr_iast 101 dX6_person_100 rfl s_44 o8.1 o8.2 ?_
              refine vr_aload_n 102 dX6_person_101 rfl rfl rfl ?_
              refine vr_getr 105 6 cl_X6 fl_X6_26 (by decide) dX6_person_102 rfl s_40 rfl ?_
              refine vr_aload_n 106 dX6_person_105 rfl rfl rfl ?_
              refine vr_geti 109 2 2 cl_X6 fl_X6_81 (by decide) rfl dX6_person_106 rfl s_40 rfl ?_
              refine vr_iload 111 dX6_person_109 rfl rfl ?_
              obtain ⟨o9, h⟩ := h
              refine vr_iast 112 dX6_person_111 rfl s_45 o9.1 o9.2 ?_
              refine vr_aload_n 113 dX6_person_112 rfl rfl rfl ?_
              refine vr_getr 116 7 cl_X6 fl_X6_29 (by decide) dX6_person_113 rfl s_40 rfl ?_
              refine vr_aload_n 117 dX6_person_116 rfl rfl rfl ?_
              refine vr_geti 120 2 2 cl_X6 fl_X6_81 (by decide) rfl dX6_person_117 rfl s_40 rfl ?_
              refine vr_iload 122 dX6_person_120 rfl rfl ?_
              obtain ⟨o10, h⟩ := h
              refine vr_iast 123 dX6_person_122 rfl s_46 o10.1 o10.2 ?_
              refine vr_aload_n 124 dX6_person_123 rfl rfl rfl ?_
              refine vr_dup 125 dX6_person_124 rfl ?_
              refine vr_geti 128 2 2 cl_X6 fl_X6_81 (by decide) rfl dX6_person_125 rfl s_40 rfl ?_
              refine vr_iconst 129 dX6_person_128 rfl ⟨by decide, by decide⟩ ?_
              obtain ⟨o11, h⟩ := h
              refine vr_iadd 130 dX6_person_129 rfl o11 ?_
              refine vr_puti 133 2 2 cl_X6 fl_X6_81 (by decide) rfl rfl rfl dX6_person_130 rfl s_40 rfl ?_
              refine vr_aload_n 134 dX6_person_133 rfl rfl rfl ?_
              refine vr_geti 137 2 2 cl_X6 fl_X6_81 (by decide) rfl dX6_person_134 rfl s_40 rfl ?_
              refine vr_iconst 138 dX6_person_137 rfl ⟨by decide, by decide⟩ ?_
              obtain ⟨o12, h⟩ := h
              refine vr_isub 139 dX6_person_138 rfl o12 ?_
              exact vr_iret rfl (Nat.le_refl _) (Nat.le_refl _) dX6_person_139 ⟨rfl, _, rfl, h⟩
            · replace h := h.2 c
              refine vr_bipush 70 dX6_person_68 rfl (by decide) ⟨by decide, by decide⟩ ?_
              exact vr_iret rfl (Nat.le_refl _) (Nat.le_refl _) dX6_person_70 ⟨rfl, _, rfl, h⟩
          · replace h := h.2 c
            refine vr_bipush 58 dX6_person_56 rfl (by decide) ⟨by decide, by decide⟩ ?_
            exact vr_iret rfl (Nat.le_refl _) (Nat.le_refl _) dX6_person_58 ⟨rfl, _, rfl, h⟩
theorem kX6_person {l : Launch} {d : Nat} {Q : Int → vx_M → Prop} (g : vx_M) (v1 v2 v3 v4 v5 : Int) (h : (∃ Q1 : Int → vx_M → Prop, vNi l mX6_in d [.inl v1, .inl 100, .inl 200] SH g Q1 ∧ ∀ (r1 : Int) (g1 : vx_M), Q1 r1 g1 → ((r1 = 0 → Q (-3) g1) ∧ (¬ r1 = 0 → (∃ Q2 : Int → vx_M → Prop, vNi l mX6_in d [.inl v2, .inl 20, .inl 120] SH g1 Q2 ∧ ∀ (r2 : Int) (g2 : vx_M), Q2 r2 g2 → ((r2 = 0 → Q (-3) g2) ∧ (¬ r2 = 0 → (∃ Q3 : Int → vx_M → Prop, vNi l mX6_in d [.inl v3, .inl 0, .inl 400] SH g2 Q3 ∧ ∀ (r3 : Int) (g3 : vx_M), Q3 r3 g3 → ((r3 = 0 → Q (-3) g3) ∧ (¬ r3 = 0 → (∃ Q4 : Int → vx_M → Prop, vNi l mX6_in d [.inl v4, .inl 0, .inl 3] SH g3 Q4 ∧ ∀ (r4 : Int) (g4 : vx_M), Q4 r4 g4 → ((r4 = 0 → Q (-3) g4) ∧ (¬ r4 = 0 → (∃ Q5 : Int → vx_M → Prop, vNi l mX6_in d [.inl v5, .inl 0, .inl 20000] SH g4 Q5 ∧ ∀ (r5 : Int) (g5 : vx_M), Q5 r5 g5 → ((¬ r5 = 0 → ((¬ (g5 40 2) = 8 → (0 ≤ g5 40 2 ∧ g5 40 2 < 8) ∧ (0 ≤ g5 40 2 ∧ g5 40 2 < 8) ∧ (0 ≤ g5 40 2 ∧ g5 40 2 < 8) ∧ (0 ≤ g5 40 2 ∧ g5 40 2 < 8) ∧ (0 ≤ g5 40 2 ∧ g5 40 2 < 8) ∧ vx_in ((g5 40 2) + 1) ∧ vx_in (((vx_u (vx_u (vx_u (vx_u (vx_u (vx_u g5 42 (g5 40 2) v1) 43 (g5 40 2) v2) 44 (g5 40 2) v3) 45 (g5 40 2) v4) 46 (g5 40 2) v5) 40 2 ((g5 40 2) + 1)) 40 2) - 1) ∧ Q (((vx_u (vx_u (vx_u (vx_u (vx_u (vx_u g5 42 (g5 40 2) v1) 43 (g5 40 2) v2) 44 (g5 40 2) v3) 45 (g5 40 2) v4) 46 (g5 40 2) v5) 40 2 ((g5 40 2) + 1)) 40 2) - 1) (vx_u (vx_u (vx_u (vx_u (vx_u (vx_u g5 42 (g5 40 2) v1) 43 (g5 40 2) v2) 44 (g5 40 2) v3) 45 (g5 40 2) v4) 46 (g5 40 2) v5) 40 2 ((g5 40 2) + 1))) ∧ ((g5 40 2) = 8 → Q (-5) g5))) ∧ (r5 = 0 → Q (-3) g5)))))))))))))))) : vNi l mX6_person (d + 1) [.inr (some 40), .inl v1, .inl v2, .inl v3, .inl v4, .inl v5] SH g Q := vNi_of [some (.inr (some 40)), some (.inl v1), some (.inl v2), some (.inl v3), some (.inl v4), some (.inl v5)] pn_X6 (Nat.le_of_ble_eq_true rfl) rfl (tX6_person_0 g v1 v2 v3 v4 v5 h)
set_option maxRecDepth 100000 in
theorem tX6_out_0 {l : Launch} {d : Nat} {Q : Int → vx_M → Prop} (g : vx_M) (v1 v2 : Int) (h : (∃ Q1 : Int → vx_M → Prop, vNi l mX6_isPerson d [.inr (some 40), .inl v1] SH g Q1 ∧ ∀ (r1 : Int) (g1 : vx_M), Q1 r1 g1 → ((¬ r1 = 0 → (0 ≤ v1 ∧ v1 < 8) ∧ (0 ≤ v1 ∧ v1 < 8) ∧ (v2 = 0 ∨ v2 = 1) ∧ (((g1 47 v1) = 0 → Q 0 (vx_u g1 47 v1 v2)) ∧ (¬ (g1 47 v1) = 0 → Q 1 (vx_u g1 47 v1 v2)))) ∧ (r1 = 0 → Q (-2) g1)))) : vN l mX6_out (d + 1) (vx_pi SH Q) SH g 0 [some (.inr (some 40)), some (.inl v1), some (.inl v2), none] [] := by
  refine vr_aload_n 1 dX6_out_0 rfl rfl rfl ?_
  refine vr_iload_n 2 dX6_out_1 rfl rfl rfl ?_
  obtain ⟨Q1, hq, h⟩ := h
  refine vr_callVi 5 [.inl v1] 40 [] dX6_out_2 rfl mc_X6_99 dn_X6_isPerson rfl rfl s_40 rfl (Nat.le_of_ble_eq_true rfl) (vx_rmR (by decide)) ⟨rfl, rfl⟩ ⟨Nat.le_refl _, Nat.le_refl _⟩ (fun _ _ => trivial) (fun _ _ => trivial) hq (fun r1 sh9 g1 hp _ _ => ?_)
  obtain ⟨e9, z9, e8, hp⟩ := hp
  subst e9
  cases e8
  replace h := h r1 g1 hp
  refine vr_if_ne 11 8 dX6_out_5 rfl rfl (fun c => ?_) (fun c => ?_)
  · replace h := h.1 c
    refine vr_aload_n 12 dX6_out_11 rfl rfl rfl ?_
    refine vr_getr 15 8 cl_X6 fl_X6_32 (by decide) dX6_out_12 rfl s_40 rfl ?_
    refine vr_iload_n 16 dX6_out_15 rfl rfl rfl ?_
    obtain ⟨o2, h⟩ := h
    refine vr_zald 17 dX6_out_16 rfl s_47 o2.1 o2.2 ?_
    refine vr_istore_n 18 [some (.inr (some 40)), some (.inl v1), some (.inl v2), some (.inl (g1 47 v1))] dX6_out_17 rfl rfl (by decide) rfl ?_
    refine vr_aload_n 19 dX6_out_18 rfl rfl rfl ?_
    refine vr_getr 22 8 cl_X6 fl_X6_32 (by decide) dX6_out_19 rfl s_40 rfl ?_
    refine vr_iload_n 23 dX6_out_22 rfl rfl rfl ?_
    refine vr_iload_n 24 dX6_out_23 rfl rfl rfl ?_
    obtain ⟨o3, h⟩ := h
    obtain ⟨o4, h⟩ := h
    refine vr_zast 25 dX6_out_24 rfl s_47 o3.1 o3.2 o4 ?_
    refine vr_iload_n 26 dX6_out_25 rfl rfl rfl ?_
    refine vr_if_eq 33 29 dX6_out_26 rfl rfl (fun c => ?_) (fun c => ?_)
    · replace h := h.1 c
      refine vr_iconst 34 dX6_out_33 rfl ⟨by decide, by decide⟩ ?_
      exact vr_iret rfl (Nat.le_refl _) (Nat.le_refl _) dX6_out_34 ⟨rfl, _, rfl, h⟩
    · replace h := h.2 c
      refine vr_iconst 30 dX6_out_29 rfl ⟨by decide, by decide⟩ ?_
      refine vr_goto 34 dX6_out_30 rfl ?_
      exact vr_iret rfl (Nat.le_refl _) (Nat.le_refl _) dX6_out_34 ⟨rfl, _, rfl, h⟩
  · replace h := h.2 c
    refine vr_bipush 10 dX6_out_8 rfl (by decide) ⟨by decide, by decide⟩ ?_
    exact vr_iret rfl (Nat.le_refl _) (Nat.le_refl _) dX6_out_10 ⟨rfl, _, rfl, h⟩
theorem kX6_out {l : Launch} {d : Nat} {Q : Int → vx_M → Prop} (g : vx_M) (v1 v2 : Int) (h : (∃ Q1 : Int → vx_M → Prop, vNi l mX6_isPerson d [.inr (some 40), .inl v1] SH g Q1 ∧ ∀ (r1 : Int) (g1 : vx_M), Q1 r1 g1 → ((¬ r1 = 0 → (0 ≤ v1 ∧ v1 < 8) ∧ (0 ≤ v1 ∧ v1 < 8) ∧ (v2 = 0 ∨ v2 = 1) ∧ (((g1 47 v1) = 0 → Q 0 (vx_u g1 47 v1 v2)) ∧ (¬ (g1 47 v1) = 0 → Q 1 (vx_u g1 47 v1 v2)))) ∧ (r1 = 0 → Q (-2) g1)))) : vNi l mX6_out (d + 1) [.inr (some 40), .inl v1, .inl v2] SH g Q := vNi_of [some (.inr (some 40)), some (.inl v1), some (.inl v2), none] pn_X6 (Nat.le_of_ble_eq_true rfl) rfl (tX6_out_0 g v1 v2 h)
set_option maxRecDepth 100000 in
theorem tX6_play_0 {l : Launch} {d : Nat} {Q : Int → vx_M → Prop} (g : vx_M) (v1 : Int) (h : (∃ Q1 : Int → vx_M → Prop, vNi l mX6_in d [.inl v1, .inl 0, .inl 50] SH g Q1 ∧ ∀ (r1 : Int) (g1 : vx_M), Q1 r1 g1 → ((¬ r1 = 0 → Q (g1 40 9) (vx_u g1 40 9 v1)) ∧ (r1 = 0 → Q (-3) g1)))) : vN l mX6_play (d + 1) (vx_pi SH Q) SH g 0 [some (.inr (some 40)), some (.inl v1), none] [] := by
  refine vr_iload_n 1 dX6_play_0 rfl rfl rfl ?_
  refine vr_iconst 2 dX6_play_1 rfl ⟨by decide, by decide⟩ ?_
  refine vr_bipush 4 dX6_play_2 rfl (by decide) ⟨by decide, by decide⟩ ?_
  obtain ⟨Q1, hq, h⟩ := h
  refine vr_callSi 7 [.inl v1, .inl 0, .inl 50] [] dX6_play_4 rfl mc_X6_84 dn_X6_in rfl rfl (Nat.le_of_ble_eq_true rfl) (vx_rmR (by decide)) ⟨rfl, rfl⟩ ⟨Nat.le_refl _, Nat.le_refl _⟩ (fun _ _ => trivial) (fun _ _ => trivial) hq (fun r1 sh9 g1 hp _ _ => ?_)
  obtain ⟨e9, z9, e8, hp⟩ := hp
  subst e9
  cases e8
  replace h := h r1 g1 hp
  refine vr_if_ne 13 10 dX6_play_7 rfl rfl (fun c => ?_) (fun c => ?_)
  · replace h := h.1 c
    refine vr_aload_n 14 dX6_play_13 rfl rfl rfl ?_
    refine vr_geti 17 9 9 cl_X6 fl_X6_36 (by decide) rfl dX6_play_14 rfl s_40 rfl ?_
    refine vr_istore_n 18 [some (.inr (some 40)), some (.inl v1), some (.inl (g1 40 9))] dX6_play_17 rfl rfl (by decide) rfl ?_
    refine vr_aload_n 19 dX6_play_18 rfl rfl rfl ?_
    refine vr_iload_n 20 dX6_play_19 rfl rfl rfl ?_
    refine vr_puti 23 9 9 cl_X6 fl_X6_36 (by decide) rfl rfl rfl dX6_play_20 rfl s_40 rfl ?_
    refine vr_iload_n 24 dX6_play_23 rfl rfl rfl ?_
    exact vr_iret rfl (Nat.le_refl _) (Nat.le_refl _) dX6_play_24 ⟨rfl, _, rfl, h⟩
  · replace h := h.2 c
    refine vr_bipush 12 dX6_play_10 rfl (by decide) ⟨by decide, by decide⟩ ?_
    exact vr_iret rfl (Nat.le_refl _) (Nat.le_refl _) dX6_play_12 ⟨rfl, _, rfl, h⟩
theorem kX6_play {l : Launch} {d : Nat} {Q : Int → vx_M → Prop} (g : vx_M) (v1 : Int) (h : (∃ Q1 : Int → vx_M → Prop, vNi l mX6_in d [.inl v1, .inl 0, .inl 50] SH g Q1 ∧ ∀ (r1 : Int) (g1 : vx_M), Q1 r1 g1 → ((¬ r1 = 0 → Q (g1 40 9) (vx_u g1 40 9 v1)) ∧ (r1 = 0 → Q (-3) g1)))) : vNi l mX6_play (d + 1) [.inr (some 40), .inl v1] SH g Q := vNi_of [some (.inr (some 40)), some (.inl v1), none] pn_X6 (Nat.le_of_ble_eq_true rfl) rfl (tX6_play_0 g v1 h)
set_option maxRecDepth 100000 in
theorem tX6_findLoads_0 {l : Launch} {d : Nat} {Q : vx_M → Prop} (g : vx_M) (v1 : Int) (h : vN l mX6_findLoads d (vx_pv SH Q) SH g 2 [some (.inr (some 40)), some (.inl v1), some (.inl 0), none] []) : vN l mX6_findLoads d (vx_pv SH Q) SH g 0 [some (.inr (some 40)), some (.inl v1), none, none] [] := by
  refine vr_iconst 1 dX6_findLoads_0 rfl ⟨by decide, by decide⟩ ?_
  refine vr_istore_n 2 [some (.inr (some 40)), some (.inl v1), some (.inl 0), none] dX6_findLoads_1 rfl rfl (by decide) rfl ?_
  exact h
theorem kX6_findLoads {l : Launch} {d : Nat} {Q : vx_M → Prop} (g : vx_M) (v1 : Int) (h : vN l mX6_findLoads d (vx_pv SH Q) SH g 2 [some (.inr (some 40)), some (.inl v1), some (.inl 0), none] []) : vNv l mX6_findLoads d [.inr (some 40), .inl v1] SH g Q := vNv_of [some (.inr (some 40)), some (.inl v1), none, none] pn_X6 (Nat.le_of_ble_eq_true rfl) rfl (tX6_findLoads_0 g v1 h)
set_option maxRecDepth 100000 in
theorem tX6_findLoads_2 {l : Launch} {d : Nat} {Q : vx_M → Prop} (g : vx_M) (v1 v2 : Int) (h : (((g 40 10) ≤ v2 → vN l mX6_findLoads d (vx_pv SH Q) SH g 25 [some (.inr (some 40)), some (.inl v1), some (.inl v1), none] []) ∧ (¬ (g 40 10) ≤ v2 → (0 ≤ v2 ∧ v2 < 12) ∧ vx_in (v2 + 1) ∧ vN l mX6_findLoads d (vx_pv SH Q) SH (vx_u g 53 v2 0) 2 [some (.inr (some 40)), some (.inl v1), some (.inl (v2 + 1)), none] []))) : vN l mX6_findLoads d (vx_pv SH Q) SH g 2 [some (.inr (some 40)), some (.inl v1), some (.inl v2), none] [] := by
  refine vr_iload_n 3 dX6_findLoads_2 rfl rfl rfl ?_
  refine vr_aload_n 4 dX6_findLoads_3 rfl rfl rfl ?_
  refine vr_geti 7 10 10 cl_X6 fl_X6_88 (by decide) rfl dX6_findLoads_4 rfl s_40 rfl ?_
  refine vr_icmp_ge 23 10 dX6_findLoads_7 rfl rfl (fun c => ?_) (fun c => ?_)
  · replace h := h.1 c
    refine vr_iload_n 24 dX6_findLoads_23 rfl rfl rfl ?_
    refine vr_istore_n 25 [some (.inr (some 40)), some (.inl v1), some (.inl v1), none] dX6_findLoads_24 rfl rfl (by decide) rfl ?_
    exact h
  · replace h := h.2 c
    refine vr_aload_n 11 dX6_findLoads_10 rfl rfl rfl ?_
    refine vr_getr 14 17 cl_X6 fl_X6_54 (by decide) dX6_findLoads_11 rfl s_40 rfl ?_
    refine vr_iload_n 15 dX6_findLoads_14 rfl rfl rfl ?_
    refine vr_iconst 16 dX6_findLoads_15 rfl ⟨by decide, by decide⟩ ?_
    obtain ⟨o1, h⟩ := h
    refine vr_iast 17 dX6_findLoads_16 rfl s_53 o1.1 o1.2 ?_
    obtain ⟨o2, h⟩ := h
    refine vr_iinc 20 [some (.inr (some 40)), some (.inl v1), some (.inl (v2 + 1)), none] dX6_findLoads_17 rfl rfl o2 (by decide) rfl ?_
    refine vr_goto 2 dX6_findLoads_20 rfl ?_
    exact h
set_option maxRecDepth 100000 in
theorem tX6_findLoads_25 {l : Launch} {d : Nat} {Q : vx_M → Prop} (g : vx_M) (v1 v2 : Int) (h : ((v2 < 0 → Q g) ∧ (¬ v2 < 0 → (0 ≤ v2 ∧ v2 < 12) ∧ (((g 49 v2) = (-1) → vx_in (v2 + (-1)) ∧ vN l mX6_findLoads d (vx_pv SH Q) SH g 25 [some (.inr (some 40)), some (.inl v1), some (.inl (v2 + (-1))), none] []) ∧ (¬ (g 49 v2) = (-1) → (0 ≤ v2 ∧ v2 < 12) ∧ (0 ≤ g 52 v2 ∧ g 52 v2 < 8) ∧ vx_in (8 * (g 43 (g 52 v2))) ∧ (0 ≤ v2 ∧ v2 < 12) ∧ vx_in ((8 * (g 43 (g 52 v2))) + (g 53 v2)) ∧ (0 ≤ ((8 * (g 43 (g 52 v2))) + (g 53 v2))) ∧ (0 ≤ v2 ∧ v2 < 12) ∧ (0 ≤ g 49 v2 ∧ g 49 v2 < 12) ∧ vx_in ((g 53 (g 49 v2)) + (((8 * (g 43 (g 52 v2))) + (g 53 v2)) / 2)) ∧ (0 ≤ g 49 v2 ∧ g 49 v2 < 12) ∧ (0 ≤ v2 ∧ v2 < 12) ∧ (0 ≤ g 50 v2 ∧ g 50 v2 < 12) ∧ vx_in (((vx_u g 53 (g 49 v2) ((g 53 (g 49 v2)) + (((8 * (g 43 (g 52 v2))) + (g 53 v2)) / 2))) 53 (g 50 v2)) + (((8 * (g 43 (g 52 v2))) + (g 53 v2)) / 2)) ∧ (0 ≤ g 50 v2 ∧ g 50 v2 < 12) ∧ vx_in (v2 + (-1)) ∧ vN l mX6_findLoads d (vx_pv SH Q) SH (vx_u (vx_u g 53 (g 49 v2) ((g 53 (g 49 v2)) + (((8 * (g 43 (g 52 v2))) + (g 53 v2)) / 2))) 53 (g 50 v2) (((vx_u g 53 (g 49 v2) ((g 53 (g 49 v2)) + (((8 * (g 43 (g 52 v2))) + (g 53 v2)) / 2))) 53 (g 50 v2)) + (((8 * (g 43 (g 52 v2))) + (g 53 v2)) / 2))) 25 [some (.inr (some 40)), some (.inl v1), some (.inl (v2 + (-1))), none] []))))) : vN l mX6_findLoads d (vx_pv SH Q) SH g 25 [some (.inr (some 40)), some (.inl v1), some (.inl v2), none] [] := by
  refine vr_iload_n 26 dX6_findLoads_25 rfl rfl rfl ?_
  refine vr_if_lt 99 29 dX6_findLoads_26 rfl rfl (fun c => ?_) (fun c => ?_)
  · replace h := h.1 c
    exact vr_vret rfl (Nat.le_refl _) (Nat.le_refl _) dX6_findLoads_99 ⟨rfl, rfl, h⟩
  · replace h := h.2 c
    refine vr_aload_n 30 dX6_findLoads_29 rfl rfl rfl ?_
    refine vr_getr 33 12 cl_X6 fl_X6_42 (by decide) dX6_findLoads_30 rfl s_40 rfl ?_
    refine vr_iload_n 34 dX6_findLoads_33 rfl rfl rfl ?_
    obtain ⟨o1, h⟩ := h
    refine vr_iald 35 dX6_findLoads_34 rfl s_49 o1.1 o1.2 ?_
    refine vr_iconst 36 dX6_findLoads_35 rfl ⟨by decide, by decide⟩ ?_
    refine vr_icmp_eq 93 39 dX6_findLoads_36 rfl rfl (fun c => ?_) (fun c => ?_)
    · replace h := h.1 c
      obtain ⟨o2, h⟩ := h
      refine vr_iinc 96 [some (.inr (some 40)), some (.inl v1), some (.inl (v2 + (-1))), none] dX6_findLoads_93 rfl rfl o2 (by decide) rfl ?_
      refine vr_goto 25 dX6_findLoads_96 rfl ?_
      exact h
    · replace h := h.2 c
      refine vr_bipush 41 dX6_findLoads_39 rfl (by decide) ⟨by decide, by decide⟩ ?_
      refine vr_aload_n 42 dX6_findLoads_41 rfl rfl rfl ?_
      refine vr_getr 45 4 cl_X6 fl_X6_20 (by decide) dX6_findLoads_42 rfl s_40 rfl ?_
      refine vr_aload_n 46 dX6_findLoads_45 rfl rfl rfl ?_
      refine vr_getr 49 16 cl_X6 fl_X6_51 (by decide) dX6_findLoads_46 rfl s_40 rfl ?_
      refine vr_iload_n 50 dX6_findLoads_49 rfl rfl rfl ?_
      obtain ⟨o3, h⟩ := h
      refine vr_iald 51 dX6_findLoads_50 rfl s_52 o3.1 o3.2 ?_
      obtain ⟨o4, h⟩ := h
      refine vr_iald 52 dX6_findLoads_51 rfl s_43 o4.1 o4.2 ?_
      obtain ⟨o5, h⟩ := h
      refine vr_imul 53 dX6_findLoads_52 rfl o5 ?_
      refine vr_aload_n 54 dX6_findLoads_53 rfl rfl rfl ?_
      refine vr_getr 57 17 cl_X6 fl_X6_54 (by decide) dX6_findLoads_54 rfl s_40 rfl ?_
      refine vr_iload_n 58 dX6_findLoads_57 rfl rfl rfl ?_
      obtain ⟨o6, h⟩ := h
      refine vr_iald 59 dX6_findLoads_58 rfl s_53 o6.1 o6.2 ?_
      obtain ⟨o7, h⟩ := h
      refine vr_iadd 60 dX6_findLoads_59 rfl o7 ?_
      refine vr_iconst 61 dX6_findLoads_60 rfl ⟨by decide, by decide⟩ ?_
      obtain ⟨o8, h⟩ := h
      refine vr_idiv 62 dX6_findLoads_61 rfl o8 (by decide) ?_
      refine vr_istore_n 63 [some (.inr (some 40)), some (.inl v1), some (.inl v2), some (.inl (((8 * (g 43 (g 52 v2))) + (g 53 v2)) / 2))] dX6_findLoads_62 rfl rfl (by decide) rfl ?_
      refine vr_aload_n 64 dX6_findLoads_63 rfl rfl rfl ?_
      refine vr_getr 67 17 cl_X6 fl_X6_54 (by decide) dX6_findLoads_64 rfl s_40 rfl ?_
      refine vr_aload_n 68 dX6_findLoads_67 rfl rfl rfl ?_
      refine vr_getr 71 12 cl_X6 fl_X6_42 (by decide) dX6_findLoads_68 rfl s_40 rfl ?_
      refine vr_iload_n 72 dX6_findLoads_71 rfl rfl rfl ?_
      obtain ⟨o9, h⟩ := h
      refine vr_iald 73 dX6_findLoads_72 rfl s_49 o9.1 o9.2 ?_
      refine vr_dup2 74 dX6_findLoads_73 rfl ?_
      obtain ⟨o10, h⟩ := h
      refine vr_iald 75 dX6_findLoads_74 rfl s_53 o10.1 o10.2 ?_
      refine vr_iload_n 76 dX6_findLoads_75 rfl rfl rfl ?_
      obtain ⟨o11, h⟩ := h
      refine vr_iadd 77 dX6_findLoads_76 rfl o11 ?_
      obtain ⟨o12, h⟩ := h
      refine vr_iast 78 dX6_findLoads_77 rfl s_53 o12.1 o12.2 ?_
      refine vr_aload_n 79 dX6_findLoads_78 rfl rfl rfl ?_
      refine vr_getr 82 17 cl_X6 fl_X6_54 (by decide) dX6_findLoads_79 rfl s_40 rfl ?_
      refine vr_aload_n 83 dX6_findLoads_82 rfl rfl rfl ?_
      refine vr_getr 86 13 cl_X6 fl_X6_45 (by decide) dX6_findLoads_83 rfl s_40 rfl ?_
      refine vr_iload_n 87 dX6_findLoads_86 rfl rfl rfl ?_
      obtain ⟨o13, h⟩ := h
      refine vr_iald 88 dX6_findLoads_87 rfl s_50 o13.1 o13.2 ?_
      refine vr_dup2 89 dX6_findLoads_88 rfl ?_
      obtain ⟨o14, h⟩ := h
      refine vr_iald 90 dX6_findLoads_89 rfl s_53 o14.1 o14.2 ?_
      refine vr_iload_n 91 dX6_findLoads_90 rfl rfl rfl ?_
      obtain ⟨o15, h⟩ := h
      refine vr_iadd 92 dX6_findLoads_91 rfl o15 ?_
      obtain ⟨o16, h⟩ := h
      refine vr_iast 93 dX6_findLoads_92 rfl s_53 o16.1 o16.2 ?_
      obtain ⟨o17, h⟩ := h
      refine vr_iinc 96 [some (.inr (some 40)), some (.inl v1), some (.inl (v2 + (-1))), some (.inl (((8 * (g 43 (g 52 v2))) + (g 53 v2)) / 2))] dX6_findLoads_93 rfl rfl o17 (by decide) rfl ?_
      refine vr_goto 25 dX6_findLoads_96 rfl ?_
      exact vr_forget [some (.inr (some 40)), some (.inl v1), some (.inl (v2 + (-1))), none] (vx_sub.get _ _ ⟨rfl, ⟨rfl, ⟨rfl, trivial⟩⟩⟩) h
set_option maxRecDepth 100000 in
theorem tX6_uneven_0 {l : Launch} {d : Nat} {Q : Int → vx_M → Prop} (g : vx_M) (h : vN l mX6_uneven d (vx_pi SH Q) SH g 4 [some (.inr (some 40)), some (.inl 0), some (.inl 0), none, none, none] []) : vN l mX6_uneven d (vx_pi SH Q) SH g 0 [some (.inr (some 40)), none, none, none, none, none] [] := by
  refine vr_iconst 1 dX6_uneven_0 rfl ⟨by decide, by decide⟩ ?_
  refine vr_istore_n 2 [some (.inr (some 40)), some (.inl 0), none, none, none, none] dX6_uneven_1 rfl rfl (by decide) rfl ?_
  refine vr_iconst 3 dX6_uneven_2 rfl ⟨by decide, by decide⟩ ?_
  refine vr_istore_n 4 [some (.inr (some 40)), some (.inl 0), some (.inl 0), none, none, none] dX6_uneven_3 rfl rfl (by decide) rfl ?_
  exact h
theorem kX6_uneven {l : Launch} {d : Nat} {Q : Int → vx_M → Prop} (g : vx_M) (h : vN l mX6_uneven d (vx_pi SH Q) SH g 4 [some (.inr (some 40)), some (.inl 0), some (.inl 0), none, none, none] []) : vNi l mX6_uneven d [.inr (some 40)] SH g Q := vNi_of [some (.inr (some 40)), none, none, none, none, none] pn_X6 (Nat.le_of_ble_eq_true rfl) rfl (tX6_uneven_0 g  h)
set_option maxRecDepth 100000 in
theorem tX6_uneven_4 {l : Launch} {d : Nat} {Q : Int → vx_M → Prop} (g : vx_M) (v1 v2 : Int) (h : (((g 40 0) ≤ v2 → Q v1 g) ∧ (¬ (g 40 0) ≤ v2 → vN l mX6_uneven d (vx_pi SH Q) SH g 22 [some (.inr (some 40)), some (.inl v1), some (.inl v2), some (.inl 1000), some (.inl 0), some (.inl 0)] []))) : vN l mX6_uneven d (vx_pi SH Q) SH g 4 [some (.inr (some 40)), some (.inl v1), some (.inl v2), none, none, none] [] := by
  refine vr_iload_n 5 dX6_uneven_4 rfl rfl rfl ?_
  refine vr_aload_n 6 dX6_uneven_5 rfl rfl rfl ?_
  refine vr_geti 9 0 0 cl_X6 fl_X6_7 (by decide) rfl dX6_uneven_6 rfl s_40 rfl ?_
  refine vr_icmp_ge 143 12 dX6_uneven_9 rfl rfl (fun c => ?_) (fun c => ?_)
  · replace h := h.1 c
    refine vr_iload_n 144 dX6_uneven_143 rfl rfl rfl ?_
    exact vr_iret rfl (Nat.le_refl _) (Nat.le_refl _) dX6_uneven_144 ⟨rfl, _, rfl, h⟩
  · replace h := h.2 c
    refine vr_sipush 15 dX6_uneven_12 rfl (by decide) ⟨by decide, by decide⟩ ?_
    refine vr_istore_n 16 [some (.inr (some 40)), some (.inl v1), some (.inl v2), some (.inl 1000), none, none] dX6_uneven_15 rfl rfl (by decide) rfl ?_
    refine vr_iconst 17 dX6_uneven_16 rfl ⟨by decide, by decide⟩ ?_
    refine vr_istore 19 [some (.inr (some 40)), some (.inl v1), some (.inl v2), some (.inl 1000), some (.inl 0), none] dX6_uneven_17 rfl (by decide) rfl ?_
    refine vr_iconst 20 dX6_uneven_19 rfl ⟨by decide, by decide⟩ ?_
    refine vr_istore 22 [some (.inr (some 40)), some (.inl v1), some (.inl v2), some (.inl 1000), some (.inl 0), some (.inl 0)] dX6_uneven_20 rfl (by decide) rfl ?_
    exact h
set_option maxRecDepth 100000 in
theorem tX6_uneven_22 {l : Launch} {d : Nat} {Q : Int → vx_M → Prop} (g : vx_M) (v1 v2 v3 v4 v5 : Int) (h : (((g 40 10) ≤ v5 → vx_in (v4 - v3) ∧ (((v4 - v3) ≤ (g 40 9) → vx_in (v4 - v3) ∧ vx_in (v1 + (v4 - v3)) ∧ vx_in (v2 + 1) ∧ vN l mX6_uneven d (vx_pi SH Q) SH g 4 [some (.inr (some 40)), some (.inl (v1 + (v4 - v3))), some (.inl (v2 + 1)), none, none, none] []) ∧ (¬ (v4 - v3) ≤ (g 40 9) → Q (-1) g))) ∧ (¬ (g 40 10) ≤ v5 → (0 ≤ v5 ∧ v5 < 12) ∧ ((¬ (g 48 v5) = v2 → vx_in (v5 + 1) ∧ vN l mX6_uneven d (vx_pi SH Q) SH g 22 [some (.inr (some 40)), some (.inl v1), some (.inl v2), some (.inl v3), some (.inl v4), some (.inl (v5 + 1))] []) ∧ ((g 48 v5) = v2 → (0 ≤ v5 ∧ v5 < 12) ∧ (0 ≤ g 52 v5 ∧ g 52 v5 < 8) ∧ ((v3 ≤ (g 42 (g 52 v5)) → vN l mX6_uneven d (vx_pi SH Q) SH g 74 [some (.inr (some 40)), some (.inl v1), some (.inl v2), some (.inl v3), some (.inl v4), some (.inl v5)] [.inl v3]) ∧ (¬ v3 ≤ (g 42 (g 52 v5)) → (0 ≤ v5 ∧ v5 < 12) ∧ (0 ≤ g 52 v5 ∧ g 52 v5 < 8) ∧ vN l mX6_uneven d (vx_pi SH Q) SH g 74 [some (.inr (some 40)), some (.inl v1), some (.inl v2), some (.inl v3), some (.inl v4), some (.inl v5)] [.inl (g 42 (g 52 v5))]))))))) : vN l mX6_uneven d (vx_pi SH Q) SH g 22 [some (.inr (some 40)), some (.inl v1), some (.inl v2), some (.inl v3), some (.inl v4), some (.inl v5)] [] := by
  refine vr_iload 24 dX6_uneven_22 rfl rfl ?_
  refine vr_aload_n 25 dX6_uneven_24 rfl rfl rfl ?_
  refine vr_geti 28 10 10 cl_X6 fl_X6_88 (by decide) rfl dX6_uneven_25 rfl s_40 rfl ?_
  refine vr_icmp_ge 117 31 dX6_uneven_28 rfl rfl (fun c => ?_) (fun c => ?_)
  · replace h := h.1 c
    refine vr_iload 119 dX6_uneven_117 rfl rfl ?_
    refine vr_iload_n 120 dX6_uneven_119 rfl rfl rfl ?_
    obtain ⟨o1, h⟩ := h
    refine vr_isub 121 dX6_uneven_120 rfl o1 ?_
    refine vr_aload_n 122 dX6_uneven_121 rfl rfl rfl ?_
    refine vr_geti 125 9 9 cl_X6 fl_X6_36 (by decide) rfl dX6_uneven_122 rfl s_40 rfl ?_
    refine vr_icmp_le 130 128 dX6_uneven_125 rfl rfl (fun c => ?_) (fun c => ?_)
    · replace h := h.1 c
      refine vr_iload_n 131 dX6_uneven_130 rfl rfl rfl ?_
      refine vr_iload 133 dX6_uneven_131 rfl rfl ?_
      refine vr_iload_n 134 dX6_uneven_133 rfl rfl rfl ?_
      obtain ⟨o2, h⟩ := h
      refine vr_isub 135 dX6_uneven_134 rfl o2 ?_
      obtain ⟨o3, h⟩ := h
      refine vr_iadd 136 dX6_uneven_135 rfl o3 ?_
      refine vr_istore_n 137 [some (.inr (some 40)), some (.inl (v1 + (v4 - v3))), some (.inl v2), some (.inl v3), some (.inl v4), some (.inl v5)] dX6_uneven_136 rfl rfl (by decide) rfl ?_
      obtain ⟨o4, h⟩ := h
      refine vr_iinc 140 [some (.inr (some 40)), some (.inl (v1 + (v4 - v3))), some (.inl (v2 + 1)), some (.inl v3), some (.inl v4), some (.inl v5)] dX6_uneven_137 rfl rfl o4 (by decide) rfl ?_
      refine vr_goto 4 dX6_uneven_140 rfl ?_
      exact vr_forget [some (.inr (some 40)), some (.inl (v1 + (v4 - v3))), some (.inl (v2 + 1)), none, none, none] (vx_sub.get _ _ ⟨rfl, ⟨rfl, ⟨rfl, trivial⟩⟩⟩) h
    · replace h := h.2 c
      refine vr_iconst 129 dX6_uneven_128 rfl ⟨by decide, by decide⟩ ?_
      exact vr_iret rfl (Nat.le_refl _) (Nat.le_refl _) dX6_uneven_129 ⟨rfl, _, rfl, h⟩
  · replace h := h.2 c
    refine vr_aload_n 32 dX6_uneven_31 rfl rfl rfl ?_
    refine vr_getr 35 11 cl_X6 fl_X6_39 (by decide) dX6_uneven_32 rfl s_40 rfl ?_
    refine vr_iload 37 dX6_uneven_35 rfl rfl ?_
    obtain ⟨o5, h⟩ := h
    refine vr_iald 38 dX6_uneven_37 rfl s_48 o5.1 o5.2 ?_
    refine vr_iload_n 39 dX6_uneven_38 rfl rfl rfl ?_
    refine vr_icmp_ne 111 42 dX6_uneven_39 rfl rfl (fun c => ?_) (fun c => ?_)
    · replace h := h.1 c
      obtain ⟨o6, h⟩ := h
      refine vr_iinc 114 [some (.inr (some 40)), some (.inl v1), some (.inl v2), some (.inl v3), some (.inl v4), some (.inl (v5 + 1))] dX6_uneven_111 rfl rfl o6 (by decide) rfl ?_
      refine vr_goto 22 dX6_uneven_114 rfl ?_
      exact h
    · replace h := h.2 c
      refine vr_aload_n 43 dX6_uneven_42 rfl rfl rfl ?_
      refine vr_getr 46 3 cl_X6 fl_X6_17 (by decide) dX6_uneven_43 rfl s_40 rfl ?_
      refine vr_aload_n 47 dX6_uneven_46 rfl rfl rfl ?_
      refine vr_getr 50 16 cl_X6 fl_X6_51 (by decide) dX6_uneven_47 rfl s_40 rfl ?_
      refine vr_iload 52 dX6_uneven_50 rfl rfl ?_
      obtain ⟨o7, h⟩ := h
      refine vr_iald 53 dX6_uneven_52 rfl s_52 o7.1 o7.2 ?_
      obtain ⟨o8, h⟩ := h
      refine vr_iald 54 dX6_uneven_53 rfl s_42 o8.1 o8.2 ?_
      refine vr_iload_n 55 dX6_uneven_54 rfl rfl rfl ?_
      refine vr_icmp_ge 73 58 dX6_uneven_55 rfl rfl (fun c => ?_) (fun c => ?_)
      · replace h := h.1 c
        refine vr_iload_n 74 dX6_uneven_73 rfl rfl rfl ?_
        exact h
      · replace h := h.2 c
        refine vr_aload_n 59 dX6_uneven_58 rfl rfl rfl ?_
        refine vr_getr 62 3 cl_X6 fl_X6_17 (by decide) dX6_uneven_59 rfl s_40 rfl ?_
        refine vr_aload_n 63 dX6_uneven_62 rfl rfl rfl ?_
        refine vr_getr 66 16 cl_X6 fl_X6_51 (by decide) dX6_uneven_63 rfl s_40 rfl ?_
        refine vr_iload 68 dX6_uneven_66 rfl rfl ?_
        obtain ⟨o9, h⟩ := h
        refine vr_iald 69 dX6_uneven_68 rfl s_52 o9.1 o9.2 ?_
        obtain ⟨o10, h⟩ := h
        refine vr_iald 70 dX6_uneven_69 rfl s_42 o10.1 o10.2 ?_
        refine vr_goto 74 dX6_uneven_70 rfl ?_
        exact h
set_option maxRecDepth 100000 in
theorem tX6_uneven_74 {l : Launch} {d : Nat} {Q : Int → vx_M → Prop} (g : vx_M) (v1 v2 v3 v4 v5 w0 : Int) (h : (0 ≤ v5 ∧ v5 < 12) ∧ (0 ≤ g 52 v5 ∧ g 52 v5 < 8) ∧ (((g 42 (g 52 v5)) ≤ v4 → vx_in (v5 + 1) ∧ vN l mX6_uneven d (vx_pi SH Q) SH g 22 [some (.inr (some 40)), some (.inl v1), some (.inl v2), some (.inl w0), some (.inl v4), some (.inl (v5 + 1))] []) ∧ (¬ (g 42 (g 52 v5)) ≤ v4 → (0 ≤ v5 ∧ v5 < 12) ∧ (0 ≤ g 52 v5 ∧ g 52 v5 < 8) ∧ vx_in (v5 + 1) ∧ vN l mX6_uneven d (vx_pi SH Q) SH g 22 [some (.inr (some 40)), some (.inl v1), some (.inl v2), some (.inl w0), some (.inl (g 42 (g 52 v5))), some (.inl (v5 + 1))] []))) : vN l mX6_uneven d (vx_pi SH Q) SH g 74 [some (.inr (some 40)), some (.inl v1), some (.inl v2), some (.inl v3), some (.inl v4), some (.inl v5)] [.inl w0] := by
  refine vr_istore_n 75 [some (.inr (some 40)), some (.inl v1), some (.inl v2), some (.inl w0), some (.inl v4), some (.inl v5)] dX6_uneven_74 rfl rfl (by decide) rfl ?_
  refine vr_aload_n 76 dX6_uneven_75 rfl rfl rfl ?_
  refine vr_getr 79 3 cl_X6 fl_X6_17 (by decide) dX6_uneven_76 rfl s_40 rfl ?_
  refine vr_aload_n 80 dX6_uneven_79 rfl rfl rfl ?_
  refine vr_getr 83 16 cl_X6 fl_X6_51 (by decide) dX6_uneven_80 rfl s_40 rfl ?_
  refine vr_iload 85 dX6_uneven_83 rfl rfl ?_
  obtain ⟨o1, h⟩ := h
  refine vr_iald 86 dX6_uneven_85 rfl s_52 o1.1 o1.2 ?_
  obtain ⟨o2, h⟩ := h
  refine vr_iald 87 dX6_uneven_86 rfl s_42 o2.1 o2.2 ?_
  refine vr_iload 89 dX6_uneven_87 rfl rfl ?_
  refine vr_icmp_le 107 92 dX6_uneven_89 rfl rfl (fun c => ?_) (fun c => ?_)
  · replace h := h.1 c
    refine vr_iload 109 dX6_uneven_107 rfl rfl ?_
    refine vr_istore 111 [some (.inr (some 40)), some (.inl v1), some (.inl v2), some (.inl w0), some (.inl v4), some (.inl v5)] dX6_uneven_109 rfl (by decide) rfl ?_
    obtain ⟨o3, h⟩ := h
    refine vr_iinc 114 [some (.inr (some 40)), some (.inl v1), some (.inl v2), some (.inl w0), some (.inl v4), some (.inl (v5 + 1))] dX6_uneven_111 rfl rfl o3 (by decide) rfl ?_
    refine vr_goto 22 dX6_uneven_114 rfl ?_
    exact h
  · replace h := h.2 c
    refine vr_aload_n 93 dX6_uneven_92 rfl rfl rfl ?_
    refine vr_getr 96 3 cl_X6 fl_X6_17 (by decide) dX6_uneven_93 rfl s_40 rfl ?_
    refine vr_aload_n 97 dX6_uneven_96 rfl rfl rfl ?_
    refine vr_getr 100 16 cl_X6 fl_X6_51 (by decide) dX6_uneven_97 rfl s_40 rfl ?_
    refine vr_iload 102 dX6_uneven_100 rfl rfl ?_
    obtain ⟨o4, h⟩ := h
    refine vr_iald 103 dX6_uneven_102 rfl s_52 o4.1 o4.2 ?_
    obtain ⟨o5, h⟩ := h
    refine vr_iald 104 dX6_uneven_103 rfl s_42 o5.1 o5.2 ?_
    refine vr_goto 109 dX6_uneven_104 rfl ?_
    refine vr_istore 111 [some (.inr (some 40)), some (.inl v1), some (.inl v2), some (.inl w0), some (.inl (g 42 (g 52 v5))), some (.inl v5)] dX6_uneven_109 rfl (by decide) rfl ?_
    obtain ⟨o6, h⟩ := h
    refine vr_iinc 114 [some (.inr (some 40)), some (.inl v1), some (.inl v2), some (.inl w0), some (.inl (g 42 (g 52 v5))), some (.inl (v5 + 1))] dX6_uneven_111 rfl rfl o6 (by decide) rfl ?_
    refine vr_goto 22 dX6_uneven_114 rfl ?_
    exact h
set_option maxRecDepth 100000 in
theorem tX6_fitsSo_0 {l : Launch} {d : Nat} {Q : Int → vx_M → Prop} (g : vx_M) (h : vN l mX6_fitsSo (d + 1) (vx_pi SH Q) SH g 2 [some (.inr (some 40)), some (.inl 0)] []) : vN l mX6_fitsSo (d + 1) (vx_pi SH Q) SH g 0 [some (.inr (some 40)), none] [] := by
  refine vr_iconst 1 dX6_fitsSo_0 rfl ⟨by decide, by decide⟩ ?_
  refine vr_istore_n 2 [some (.inr (some 40)), some (.inl 0)] dX6_fitsSo_1 rfl rfl (by decide) rfl ?_
  exact h
theorem kX6_fitsSo {l : Launch} {d : Nat} {Q : Int → vx_M → Prop} (g : vx_M) (h : vN l mX6_fitsSo (d + 1) (vx_pi SH Q) SH g 2 [some (.inr (some 40)), some (.inl 0)] []) : vNi l mX6_fitsSo (d + 1) [.inr (some 40)] SH g Q := vNi_of [some (.inr (some 40)), none] pn_X6 (Nat.le_of_ble_eq_true rfl) rfl (tX6_fitsSo_0 g  h)
set_option maxRecDepth 100000 in
theorem tX6_fitsSo_2 {l : Launch} {d : Nat} {Q : Int → vx_M → Prop} (g : vx_M) (v1 : Int) (h : (((g 40 10) ≤ v1 → vx_in ((g 40 10) - 1) ∧ (∃ Q2 : vx_M → Prop, vNv l mX6_findLoads d [.inr (some 40), .inl ((g 40 10) - 1)] SH g Q2 ∧ ∀ g2 : vx_M, Q2 g2 → vN l mX6_fitsSo (d + 1) (vx_pi SH Q) SH g2 64 [some (.inr (some 40)), some (.inl 0)] [])) ∧ (¬ (g 40 10) ≤ v1 → (0 ≤ v1 ∧ v1 < 12) ∧ (0 ≤ g 52 v1 ∧ g 52 v1 < 8) ∧ ((¬ (g 47 (g 52 v1)) = 0 → Q (-1) g) ∧ ((g 47 (g 52 v1)) = 0 → (0 ≤ v1 ∧ v1 < 12) ∧ (0 ≤ v1 ∧ v1 < 12) ∧ (0 ≤ g 52 v1 ∧ g 52 v1 < 8) ∧ (((g 48 v1) ≤ (g 45 (g 52 v1)) → vx_in (v1 + 1) ∧ vN l mX6_fitsSo (d + 1) (vx_pi SH Q) SH g 2 [some (.inr (some 40)), some (.inl (v1 + 1))] []) ∧ (¬ (g 48 v1) ≤ (g 45 (g 52 v1)) → Q (-1) g))))))) : vN l mX6_fitsSo (d + 1) (vx_pi SH Q) SH g 2 [some (.inr (some 40)), some (.inl v1)] [] := by
  refine vr_iload_n 3 dX6_fitsSo_2 rfl rfl rfl ?_
  refine vr_aload_n 4 dX6_fitsSo_3 rfl rfl rfl ?_
  refine vr_geti 7 10 10 cl_X6 fl_X6_88 (by decide) rfl dX6_fitsSo_4 rfl s_40 rfl ?_
  refine vr_icmp_ge 52 10 dX6_fitsSo_7 rfl rfl (fun c => ?_) (fun c => ?_)
  · replace h := h.1 c
    refine vr_aload_n 53 dX6_fitsSo_52 rfl rfl rfl ?_
    refine vr_aload_n 54 dX6_fitsSo_53 rfl rfl rfl ?_
    refine vr_geti 57 10 10 cl_X6 fl_X6_88 (by decide) rfl dX6_fitsSo_54 rfl s_40 rfl ?_
    refine vr_iconst 58 dX6_fitsSo_57 rfl ⟨by decide, by decide⟩ ?_
    obtain ⟨o1, h⟩ := h
    refine vr_isub 59 dX6_fitsSo_58 rfl o1 ?_
    obtain ⟨Q2, hq, h⟩ := h
    refine vr_callVv 62 [.inl ((g 40 10) - 1)] 40 [] dX6_fitsSo_59 rfl mc_X6_103 dn_X6_findLoads rfl rfl s_40 rfl (Nat.le_of_ble_eq_true rfl) (vx_rmR (by decide)) ⟨rfl, rfl⟩ ⟨Nat.le_refl _, Nat.le_refl _⟩ (fun _ _ => trivial) (fun _ _ => trivial) hq (fun sh9 g2 hp _ => ?_)
    obtain ⟨e9, -, hp⟩ := hp
    subst e9
    replace h := h g2 hp
    refine vr_iconst 63 dX6_fitsSo_62 rfl ⟨by decide, by decide⟩ ?_
    refine vr_istore_n 64 [some (.inr (some 40)), some (.inl 0)] dX6_fitsSo_63 rfl rfl (by decide) rfl ?_
    exact h
  · replace h := h.2 c
    refine vr_aload_n 11 dX6_fitsSo_10 rfl rfl rfl ?_
    refine vr_getr 14 8 cl_X6 fl_X6_32 (by decide) dX6_fitsSo_11 rfl s_40 rfl ?_
    refine vr_aload_n 15 dX6_fitsSo_14 rfl rfl rfl ?_
    refine vr_getr 18 16 cl_X6 fl_X6_51 (by decide) dX6_fitsSo_15 rfl s_40 rfl ?_
    refine vr_iload_n 19 dX6_fitsSo_18 rfl rfl rfl ?_
    obtain ⟨o3, h⟩ := h
    refine vr_iald 20 dX6_fitsSo_19 rfl s_52 o3.1 o3.2 ?_
    obtain ⟨o4, h⟩ := h
    refine vr_zald 21 dX6_fitsSo_20 rfl s_47 o4.1 o4.2 ?_
    refine vr_if_ne 44 24 dX6_fitsSo_21 rfl rfl (fun c => ?_) (fun c => ?_)
    · replace h := h.1 c
      refine vr_iconst 45 dX6_fitsSo_44 rfl ⟨by decide, by decide⟩ ?_
      exact vr_iret rfl (Nat.le_refl _) (Nat.le_refl _) dX6_fitsSo_45 ⟨rfl, _, rfl, h⟩
    · replace h := h.2 c
      refine vr_aload_n 25 dX6_fitsSo_24 rfl rfl rfl ?_
      refine vr_getr 28 11 cl_X6 fl_X6_39 (by decide) dX6_fitsSo_25 rfl s_40 rfl ?_
      refine vr_iload_n 29 dX6_fitsSo_28 rfl rfl rfl ?_
      obtain ⟨o5, h⟩ := h
      refine vr_iald 30 dX6_fitsSo_29 rfl s_48 o5.1 o5.2 ?_
      refine vr_aload_n 31 dX6_fitsSo_30 rfl rfl rfl ?_
      refine vr_getr 34 6 cl_X6 fl_X6_26 (by decide) dX6_fitsSo_31 rfl s_40 rfl ?_
      refine vr_aload_n 35 dX6_fitsSo_34 rfl rfl rfl ?_
      refine vr_getr 38 16 cl_X6 fl_X6_51 (by decide) dX6_fitsSo_35 rfl s_40 rfl ?_
      refine vr_iload_n 39 dX6_fitsSo_38 rfl rfl rfl ?_
      obtain ⟨o6, h⟩ := h
      refine vr_iald 40 dX6_fitsSo_39 rfl s_52 o6.1 o6.2 ?_
      obtain ⟨o7, h⟩ := h
      refine vr_iald 41 dX6_fitsSo_40 rfl s_45 o7.1 o7.2 ?_
      refine vr_icmp_le 46 44 dX6_fitsSo_41 rfl rfl (fun c => ?_) (fun c => ?_)
      · replace h := h.1 c
        obtain ⟨o8, h⟩ := h
        refine vr_iinc 49 [some (.inr (some 40)), some (.inl (v1 + 1))] dX6_fitsSo_46 rfl rfl o8 (by decide) rfl ?_
        refine vr_goto 2 dX6_fitsSo_49 rfl ?_
        exact h
      · replace h := h.2 c
        refine vr_iconst 45 dX6_fitsSo_44 rfl ⟨by decide, by decide⟩ ?_
        exact vr_iret rfl (Nat.le_refl _) (Nat.le_refl _) dX6_fitsSo_45 ⟨rfl, _, rfl, h⟩
set_option maxRecDepth 100000 in
theorem tX6_fitsSo_64 {l : Launch} {d : Nat} {Q : Int → vx_M → Prop} (g : vx_M) (v1 : Int) (h : (((g 40 10) ≤ v1 → (∃ Q1 : Int → vx_M → Prop, vNi l mX6_uneven d [.inr (some 40)] SH g Q1 ∧ ∀ (r1 : Int) (g1 : vx_M), Q1 r1 g1 → Q r1 g1)) ∧ (¬ (g 40 10) ≤ v1 → (0 ≤ v1 ∧ v1 < 12) ∧ (0 ≤ v1 ∧ v1 < 12) ∧ (0 ≤ g 52 v1 ∧ g 52 v1 < 8) ∧ vx_in (8 * (g 44 (g 52 v1))) ∧ (((g 53 v1) ≤ (8 * (g 44 (g 52 v1))) → vx_in (v1 + 1) ∧ vN l mX6_fitsSo (d + 1) (vx_pi SH Q) SH g 64 [some (.inr (some 40)), some (.inl (v1 + 1))] []) ∧ (¬ (g 53 v1) ≤ (8 * (g 44 (g 52 v1))) → Q (-1) g))))) : vN l mX6_fitsSo (d + 1) (vx_pi SH Q) SH g 64 [some (.inr (some 40)), some (.inl v1)] [] := by
  refine vr_iload_n 65 dX6_fitsSo_64 rfl rfl rfl ?_
  refine vr_aload_n 66 dX6_fitsSo_65 rfl rfl rfl ?_
  refine vr_geti 69 10 10 cl_X6 fl_X6_88 (by decide) rfl dX6_fitsSo_66 rfl s_40 rfl ?_
  refine vr_icmp_ge 103 72 dX6_fitsSo_69 rfl rfl (fun c => ?_) (fun c => ?_)
  · replace h := h.1 c
    refine vr_aload_n 104 dX6_fitsSo_103 rfl rfl rfl ?_
    obtain ⟨Q1, hq, h⟩ := h
    refine vr_callVi 107 [] 40 [] dX6_fitsSo_104 rfl mc_X6_107 dn_X6_uneven rfl rfl s_40 rfl (Nat.le_of_ble_eq_true rfl) (vx_rmR (by decide)) ⟨rfl, rfl⟩ ⟨Nat.le_refl _, Nat.le_refl _⟩ (fun _ _ => trivial) (fun _ _ => trivial) hq (fun r1 sh9 g1 hp _ _ => ?_)
    obtain ⟨e9, z9, e8, hp⟩ := hp
    subst e9
    cases e8
    replace h := h r1 g1 hp
    exact vr_iret rfl (Nat.le_refl _) (Nat.le_refl _) dX6_fitsSo_107 ⟨rfl, _, rfl, h⟩
  · replace h := h.2 c
    refine vr_aload_n 73 dX6_fitsSo_72 rfl rfl rfl ?_
    refine vr_getr 76 17 cl_X6 fl_X6_54 (by decide) dX6_fitsSo_73 rfl s_40 rfl ?_
    refine vr_iload_n 77 dX6_fitsSo_76 rfl rfl rfl ?_
    obtain ⟨o2, h⟩ := h
    refine vr_iald 78 dX6_fitsSo_77 rfl s_53 o2.1 o2.2 ?_
    refine vr_bipush 80 dX6_fitsSo_78 rfl (by decide) ⟨by decide, by decide⟩ ?_
    refine vr_aload_n 81 dX6_fitsSo_80 rfl rfl rfl ?_
    refine vr_getr 84 5 cl_X6 fl_X6_23 (by decide) dX6_fitsSo_81 rfl s_40 rfl ?_
    refine vr_aload_n 85 dX6_fitsSo_84 rfl rfl rfl ?_
    refine vr_getr 88 16 cl_X6 fl_X6_51 (by decide) dX6_fitsSo_85 rfl s_40 rfl ?_
    refine vr_iload_n 89 dX6_fitsSo_88 rfl rfl rfl ?_
    obtain ⟨o3, h⟩ := h
    refine vr_iald 90 dX6_fitsSo_89 rfl s_52 o3.1 o3.2 ?_
    obtain ⟨o4, h⟩ := h
    refine vr_iald 91 dX6_fitsSo_90 rfl s_44 o4.1 o4.2 ?_
    obtain ⟨o5, h⟩ := h
    refine vr_imul 92 dX6_fitsSo_91 rfl o5 ?_
    refine vr_icmp_le 97 95 dX6_fitsSo_92 rfl rfl (fun c => ?_) (fun c => ?_)
    · replace h := h.1 c
      obtain ⟨o6, h⟩ := h
      refine vr_iinc 100 [some (.inr (some 40)), some (.inl (v1 + 1))] dX6_fitsSo_97 rfl rfl o6 (by decide) rfl ?_
      refine vr_goto 64 dX6_fitsSo_100 rfl ?_
      exact h
    · replace h := h.2 c
      refine vr_iconst 96 dX6_fitsSo_95 rfl ⟨by decide, by decide⟩ ?_
      exact vr_iret rfl (Nat.le_refl _) (Nat.le_refl _) dX6_fitsSo_96 ⟨rfl, _, rfl, h⟩
set_option maxRecDepth 100000 in
theorem tX6_isAhead_0 {l : Launch} {d : Nat} {Q : Int → vx_M → Prop} (g : vx_M) (v1 : Int) (h : vN l mX6_isAhead d (vx_pi SH Q) SH g 4 [some (.inr (some 40)), some (.inl v1), some (.inl 0), some (.inl 0)] []) : vN l mX6_isAhead d (vx_pi SH Q) SH g 0 [some (.inr (some 40)), some (.inl v1), none, none] [] := by
  refine vr_iconst 1 dX6_isAhead_0 rfl ⟨by decide, by decide⟩ ?_
  refine vr_istore_n 2 [some (.inr (some 40)), some (.inl v1), some (.inl 0), none] dX6_isAhead_1 rfl rfl (by decide) rfl ?_
  refine vr_iconst 3 dX6_isAhead_2 rfl ⟨by decide, by decide⟩ ?_
  refine vr_istore_n 4 [some (.inr (some 40)), some (.inl v1), some (.inl 0), some (.inl 0)] dX6_isAhead_3 rfl rfl (by decide) rfl ?_
  exact h
theorem kX6_isAhead {l : Launch} {d : Nat} {Q : Int → vx_M → Prop} (g : vx_M) (v1 : Int) (h : vN l mX6_isAhead d (vx_pi SH Q) SH g 4 [some (.inr (some 40)), some (.inl v1), some (.inl 0), some (.inl 0)] []) : vNi l mX6_isAhead d [.inr (some 40), .inl v1] SH g Q := vNi_of [some (.inr (some 40)), some (.inl v1), none, none] pn_X6 (Nat.le_of_ble_eq_true rfl) rfl (tX6_isAhead_0 g v1 h)
set_option maxRecDepth 100000 in
theorem tX6_isAhead_4 {l : Launch} {d : Nat} {Q : Int → vx_M → Prop} (g : vx_M) (v1 v2 v3 : Int) (h : ((v1 ≤ v3 → (v2 = 0 ∨ v2 = 1) ∧ Q v2 g) ∧ (¬ v1 ≤ v3 → ((¬ v2 = 0 → vx_in (v3 + 1) ∧ vN l mX6_isAhead d (vx_pi SH Q) SH g 4 [some (.inr (some 40)), some (.inl v1), some (.inl 1), some (.inl (v3 + 1))] []) ∧ (v2 = 0 → (0 ≤ v3 ∧ v3 < 12) ∧ (0 ≤ v1 ∧ v1 < 12) ∧ ((¬ (g 52 v3) = (g 52 v1) → vx_in (v3 + 1) ∧ vN l mX6_isAhead d (vx_pi SH Q) SH g 4 [some (.inr (some 40)), some (.inl v1), some (.inl 0), some (.inl (v3 + 1))] []) ∧ ((g 52 v3) = (g 52 v1) → vx_in (v3 + 1) ∧ vN l mX6_isAhead d (vx_pi SH Q) SH g 4 [some (.inr (some 40)), some (.inl v1), some (.inl 1), some (.inl (v3 + 1))] []))))))) : vN l mX6_isAhead d (vx_pi SH Q) SH g 4 [some (.inr (some 40)), some (.inl v1), some (.inl v2), some (.inl v3)] [] := by
  refine vr_iload_n 5 dX6_isAhead_4 rfl rfl rfl ?_
  refine vr_iload_n 6 dX6_isAhead_5 rfl rfl rfl ?_
  refine vr_icmp_ge 40 9 dX6_isAhead_6 rfl rfl (fun c => ?_) (fun c => ?_)
  · replace h := h.1 c
    refine vr_iload_n 41 dX6_isAhead_40 rfl rfl rfl ?_
    exact vr_zret rfl (Nat.le_refl _) (Nat.le_refl _) dX6_isAhead_41 h.1 ⟨rfl, _, rfl, h.2⟩
  · replace h := h.2 c
    refine vr_iload_n 10 dX6_isAhead_9 rfl rfl rfl ?_
    refine vr_if_ne 28 13 dX6_isAhead_10 rfl rfl (fun c => ?_) (fun c => ?_)
    · replace h := h.1 c
      refine vr_iconst 29 dX6_isAhead_28 rfl ⟨by decide, by decide⟩ ?_
      refine vr_goto 33 dX6_isAhead_29 rfl ?_
      refine vr_istore_n 34 [some (.inr (some 40)), some (.inl v1), some (.inl 1), some (.inl v3)] dX6_isAhead_33 rfl rfl (by decide) rfl ?_
      obtain ⟨o1, h⟩ := h
      refine vr_iinc 37 [some (.inr (some 40)), some (.inl v1), some (.inl 1), some (.inl (v3 + 1))] dX6_isAhead_34 rfl rfl o1 (by decide) rfl ?_
      refine vr_goto 4 dX6_isAhead_37 rfl ?_
      exact h
    · replace h := h.2 c
      refine vr_aload_n 14 dX6_isAhead_13 rfl rfl rfl ?_
      refine vr_getr 17 16 cl_X6 fl_X6_51 (by decide) dX6_isAhead_14 rfl s_40 rfl ?_
      refine vr_iload_n 18 dX6_isAhead_17 rfl rfl rfl ?_
      obtain ⟨o2, h⟩ := h
      refine vr_iald 19 dX6_isAhead_18 rfl s_52 o2.1 o2.2 ?_
      refine vr_aload_n 20 dX6_isAhead_19 rfl rfl rfl ?_
      refine vr_getr 23 16 cl_X6 fl_X6_51 (by decide) dX6_isAhead_20 rfl s_40 rfl ?_
      refine vr_iload_n 24 dX6_isAhead_23 rfl rfl rfl ?_
      obtain ⟨o3, h⟩ := h
      refine vr_iald 25 dX6_isAhead_24 rfl s_52 o3.1 o3.2 ?_
      refine vr_icmp_ne 32 28 dX6_isAhead_25 rfl rfl (fun c => ?_) (fun c => ?_)
      · replace h := h.1 c
        refine vr_iconst 33 dX6_isAhead_32 rfl ⟨by decide, by decide⟩ ?_
        refine vr_istore_n 34 [some (.inr (some 40)), some (.inl v1), some (.inl 0), some (.inl v3)] dX6_isAhead_33 rfl rfl (by decide) rfl ?_
        obtain ⟨o4, h⟩ := h
        refine vr_iinc 37 [some (.inr (some 40)), some (.inl v1), some (.inl 0), some (.inl (v3 + 1))] dX6_isAhead_34 rfl rfl o4 (by decide) rfl ?_
        refine vr_goto 4 dX6_isAhead_37 rfl ?_
        exact h
      · replace h := h.2 c
        refine vr_iconst 29 dX6_isAhead_28 rfl ⟨by decide, by decide⟩ ?_
        refine vr_goto 33 dX6_isAhead_29 rfl ?_
        refine vr_istore_n 34 [some (.inr (some 40)), some (.inl v1), some (.inl 1), some (.inl v3)] dX6_isAhead_33 rfl rfl (by decide) rfl ?_
        obtain ⟨o5, h⟩ := h
        refine vr_iinc 37 [some (.inr (some 40)), some (.inl v1), some (.inl 1), some (.inl (v3 + 1))] dX6_isAhead_34 rfl rfl o5 (by decide) rfl ?_
        refine vr_goto 4 dX6_isAhead_37 rfl ?_
        exact h
set_option maxRecDepth 100000 in
theorem tX6_hasNext_0 {l : Launch} {d : Nat} {Q : Int → vx_M → Prop} (g : vx_M) (h : vx_in ((g 40 10) - 1) ∧ vN l mX6_hasNext (d + 1) (vx_pi SH Q) SH g 7 [some (.inr (some 40)), some (.inl ((g 40 10) - 1)), none] []) : vN l mX6_hasNext (d + 1) (vx_pi SH Q) SH g 0 [some (.inr (some 40)), none, none] [] := by
  refine vr_aload_n 1 dX6_hasNext_0 rfl rfl rfl ?_
  refine vr_geti 4 10 10 cl_X6 fl_X6_88 (by decide) rfl dX6_hasNext_1 rfl s_40 rfl ?_
  refine vr_iconst 5 dX6_hasNext_4 rfl ⟨by decide, by decide⟩ ?_
  obtain ⟨o1, h⟩ := h
  refine vr_isub 6 dX6_hasNext_5 rfl o1 ?_
  refine vr_istore_n 7 [some (.inr (some 40)), some (.inl ((g 40 10) - 1)), none] dX6_hasNext_6 rfl rfl (by decide) rfl ?_
  exact h
theorem kX6_hasNext {l : Launch} {d : Nat} {Q : Int → vx_M → Prop} (g : vx_M) (h : vx_in ((g 40 10) - 1) ∧ vN l mX6_hasNext (d + 1) (vx_pi SH Q) SH g 7 [some (.inr (some 40)), some (.inl ((g 40 10) - 1)), none] []) : vNi l mX6_hasNext (d + 1) [.inr (some 40)] SH g Q := vNi_of [some (.inr (some 40)), none, none] pn_X6 (Nat.le_of_ble_eq_true rfl) rfl (tX6_hasNext_0 g  h)
set_option maxRecDepth 100000 in
theorem tX6_hasNext_7 {l : Launch} {d : Nat} {Q : Int → vx_M → Prop} (g : vx_M) (v1 : Int) (h : ((v1 < 0 → Q 0 g) ∧ (¬ v1 < 0 → (0 ≤ v1 ∧ v1 < 12) ∧ vx_in ((g 52 v1) + 1) ∧ (0 ≤ v1 ∧ v1 < 12) ∧ vN l mX6_hasNext (d + 1) (vx_pi SH Q) SH (vx_u g 52 v1 ((g 52 v1) + 1)) 21 [some (.inr (some 40)), some (.inl v1), none] []))) : vN l mX6_hasNext (d + 1) (vx_pi SH Q) SH g 7 [some (.inr (some 40)), some (.inl v1), none] [] := by
  refine vr_iload_n 8 dX6_hasNext_7 rfl rfl rfl ?_
  refine vr_if_lt 122 11 dX6_hasNext_8 rfl rfl (fun c => ?_) (fun c => ?_)
  · replace h := h.1 c
    refine vr_iconst 123 dX6_hasNext_122 rfl ⟨by decide, by decide⟩ ?_
    exact vr_zret rfl (Nat.le_refl _) (Nat.le_refl _) dX6_hasNext_123 (by decide) ⟨rfl, _, rfl, h⟩
  · replace h := h.2 c
    refine vr_aload_n 12 dX6_hasNext_11 rfl rfl rfl ?_
    refine vr_getr 15 16 cl_X6 fl_X6_51 (by decide) dX6_hasNext_12 rfl s_40 rfl ?_
    refine vr_iload_n 16 dX6_hasNext_15 rfl rfl rfl ?_
    refine vr_dup2 17 dX6_hasNext_16 rfl ?_
    obtain ⟨o1, h⟩ := h
    refine vr_iald 18 dX6_hasNext_17 rfl s_52 o1.1 o1.2 ?_
    refine vr_iconst 19 dX6_hasNext_18 rfl ⟨by decide, by decide⟩ ?_
    obtain ⟨o2, h⟩ := h
    refine vr_iadd 20 dX6_hasNext_19 rfl o2 ?_
    obtain ⟨o3, h⟩ := h
    refine vr_iast 21 dX6_hasNext_20 rfl s_52 o3.1 o3.2 ?_
    exact h
set_option maxRecDepth 100000 in
theorem tX6_hasNext_21 {l : Launch} {d : Nat} {Q : Int → vx_M → Prop} (g : vx_M) (v1 : Int) (h : (0 ≤ v1 ∧ v1 < 12) ∧ (((g 40 2) ≤ (g 52 v1) → vN l mX6_hasNext (d + 1) (vx_pi SH Q) SH g 55 [some (.inr (some 40)), some (.inl v1), none] []) ∧ (¬ (g 40 2) ≤ (g 52 v1) → (∃ Q2 : Int → vx_M → Prop, vNi l mX6_isAhead d [.inr (some 40), .inl v1] SH g Q2 ∧ ∀ (r2 : Int) (g2 : vx_M), Q2 r2 g2 → ((r2 = 0 → vN l mX6_hasNext (d + 1) (vx_pi SH Q) SH g2 55 [some (.inr (some 40)), some (.inl v1), none] []) ∧ (¬ r2 = 0 → (0 ≤ v1 ∧ v1 < 12) ∧ vx_in ((g2 52 v1) + 1) ∧ (0 ≤ v1 ∧ v1 < 12) ∧ vN l mX6_hasNext (d + 1) (vx_pi SH Q) SH (vx_u g2 52 v1 ((g2 52 v1) + 1)) 21 [some (.inr (some 40)), some (.inl v1), none] [])))))) : vN l mX6_hasNext (d + 1) (vx_pi SH Q) SH g 21 [some (.inr (some 40)), some (.inl v1), none] [] := by
  refine vr_aload_n 22 dX6_hasNext_21 rfl rfl rfl ?_
  refine vr_getr 25 16 cl_X6 fl_X6_51 (by decide) dX6_hasNext_22 rfl s_40 rfl ?_
  refine vr_iload_n 26 dX6_hasNext_25 rfl rfl rfl ?_
  obtain ⟨o1, h⟩ := h
  refine vr_iald 27 dX6_hasNext_26 rfl s_52 o1.1 o1.2 ?_
  refine vr_aload_n 28 dX6_hasNext_27 rfl rfl rfl ?_
  refine vr_geti 31 2 2 cl_X6 fl_X6_81 (by decide) rfl dX6_hasNext_28 rfl s_40 rfl ?_
  refine vr_icmp_ge 55 34 dX6_hasNext_31 rfl rfl (fun c => ?_) (fun c => ?_)
  · replace h := h.1 c
    exact h
  · replace h := h.2 c
    refine vr_aload_n 35 dX6_hasNext_34 rfl rfl rfl ?_
    refine vr_iload_n 36 dX6_hasNext_35 rfl rfl rfl ?_
    obtain ⟨Q2, hq, h⟩ := h
    refine vr_callVi 39 [.inl v1] 40 [] dX6_hasNext_36 rfl mc_X6_111 dn_X6_isAhead rfl rfl s_40 rfl (Nat.le_of_ble_eq_true rfl) (vx_rmR (by decide)) ⟨rfl, rfl⟩ ⟨Nat.le_refl _, Nat.le_refl _⟩ (fun _ _ => trivial) (fun _ _ => trivial) hq (fun r2 sh9 g2 hp _ _ => ?_)
    obtain ⟨e9, z9, e8, hp⟩ := hp
    subst e9
    cases e8
    replace h := h r2 g2 hp
    refine vr_if_eq 55 42 dX6_hasNext_39 rfl rfl (fun c => ?_) (fun c => ?_)
    · replace h := h.1 c
      exact h
    · replace h := h.2 c
      refine vr_aload_n 43 dX6_hasNext_42 rfl rfl rfl ?_
      refine vr_getr 46 16 cl_X6 fl_X6_51 (by decide) dX6_hasNext_43 rfl s_40 rfl ?_
      refine vr_iload_n 47 dX6_hasNext_46 rfl rfl rfl ?_
      refine vr_dup2 48 dX6_hasNext_47 rfl ?_
      obtain ⟨o3, h⟩ := h
      refine vr_iald 49 dX6_hasNext_48 rfl s_52 o3.1 o3.2 ?_
      refine vr_iconst 50 dX6_hasNext_49 rfl ⟨by decide, by decide⟩ ?_
      obtain ⟨o4, h⟩ := h
      refine vr_iadd 51 dX6_hasNext_50 rfl o4 ?_
      obtain ⟨o5, h⟩ := h
      refine vr_iast 52 dX6_hasNext_51 rfl s_52 o5.1 o5.2 ?_
      refine vr_goto 21 dX6_hasNext_52 rfl ?_
      exact h
set_option maxRecDepth 100000 in
theorem tX6_hasNext_55 {l : Launch} {d : Nat} {Q : Int → vx_M → Prop} (g : vx_M) (v1 : Int) (h : (0 ≤ v1 ∧ v1 < 12) ∧ (((g 40 2) ≤ (g 52 v1) → vx_in (v1 + (-1)) ∧ vN l mX6_hasNext (d + 1) (vx_pi SH Q) SH g 7 [some (.inr (some 40)), some (.inl (v1 + (-1))), none] []) ∧ (¬ (g 40 2) ≤ (g 52 v1) → vx_in (v1 + 1) ∧ vN l mX6_hasNext (d + 1) (vx_pi SH Q) SH g 72 [some (.inr (some 40)), some (.inl v1), some (.inl (v1 + 1))] []))) : vN l mX6_hasNext (d + 1) (vx_pi SH Q) SH g 55 [some (.inr (some 40)), some (.inl v1), none] [] := by
  refine vr_aload_n 56 dX6_hasNext_55 rfl rfl rfl ?_
  refine vr_getr 59 16 cl_X6 fl_X6_51 (by decide) dX6_hasNext_56 rfl s_40 rfl ?_
  refine vr_iload_n 60 dX6_hasNext_59 rfl rfl rfl ?_
  obtain ⟨o1, h⟩ := h
  refine vr_iald 61 dX6_hasNext_60 rfl s_52 o1.1 o1.2 ?_
  refine vr_aload_n 62 dX6_hasNext_61 rfl rfl rfl ?_
  refine vr_geti 65 2 2 cl_X6 fl_X6_81 (by decide) rfl dX6_hasNext_62 rfl s_40 rfl ?_
  refine vr_icmp_ge 116 68 dX6_hasNext_65 rfl rfl (fun c => ?_) (fun c => ?_)
  · replace h := h.1 c
    obtain ⟨o2, h⟩ := h
    refine vr_iinc 119 [some (.inr (some 40)), some (.inl (v1 + (-1))), none] dX6_hasNext_116 rfl rfl o2 (by decide) rfl ?_
    refine vr_goto 7 dX6_hasNext_119 rfl ?_
    exact h
  · replace h := h.2 c
    refine vr_iload_n 69 dX6_hasNext_68 rfl rfl rfl ?_
    refine vr_iconst 70 dX6_hasNext_69 rfl ⟨by decide, by decide⟩ ?_
    obtain ⟨o3, h⟩ := h
    refine vr_iadd 71 dX6_hasNext_70 rfl o3 ?_
    refine vr_istore_n 72 [some (.inr (some 40)), some (.inl v1), some (.inl (v1 + 1))] dX6_hasNext_71 rfl rfl (by decide) rfl ?_
    exact h
set_option maxRecDepth 100000 in
theorem tX6_hasNext_72 {l : Launch} {d : Nat} {Q : Int → vx_M → Prop} (g : vx_M) (v1 v2 : Int) (h : (((g 40 10) ≤ v2 → Q 1 g) ∧ (¬ (g 40 10) ≤ v2 → (0 ≤ v2 ∧ v2 < 12) ∧ vN l mX6_hasNext (d + 1) (vx_pi SH Q) SH (vx_u g 52 v2 0) 87 [some (.inr (some 40)), some (.inl v1), some (.inl v2)] []))) : vN l mX6_hasNext (d + 1) (vx_pi SH Q) SH g 72 [some (.inr (some 40)), some (.inl v1), some (.inl v2)] [] := by
  refine vr_iload_n 73 dX6_hasNext_72 rfl rfl rfl ?_
  refine vr_aload_n 74 dX6_hasNext_73 rfl rfl rfl ?_
  refine vr_geti 77 10 10 cl_X6 fl_X6_88 (by decide) rfl dX6_hasNext_74 rfl s_40 rfl ?_
  refine vr_icmp_ge 114 80 dX6_hasNext_77 rfl rfl (fun c => ?_) (fun c => ?_)
  · replace h := h.1 c
    refine vr_iconst 115 dX6_hasNext_114 rfl ⟨by decide, by decide⟩ ?_
    exact vr_zret rfl (Nat.le_refl _) (Nat.le_refl _) dX6_hasNext_115 (by decide) ⟨rfl, _, rfl, h⟩
  · replace h := h.2 c
    refine vr_aload_n 81 dX6_hasNext_80 rfl rfl rfl ?_
    refine vr_getr 84 16 cl_X6 fl_X6_51 (by decide) dX6_hasNext_81 rfl s_40 rfl ?_
    refine vr_iload_n 85 dX6_hasNext_84 rfl rfl rfl ?_
    refine vr_iconst 86 dX6_hasNext_85 rfl ⟨by decide, by decide⟩ ?_
    obtain ⟨o1, h⟩ := h
    refine vr_iast 87 dX6_hasNext_86 rfl s_52 o1.1 o1.2 ?_
    exact h
set_option maxRecDepth 100000 in
theorem tX6_hasNext_87 {l : Launch} {d : Nat} {Q : Int → vx_M → Prop} (g : vx_M) (v1 v2 : Int) (h : (∃ Q1 : Int → vx_M → Prop, vNi l mX6_isAhead d [.inr (some 40), .inl v2] SH g Q1 ∧ ∀ (r1 : Int) (g1 : vx_M), Q1 r1 g1 → ((r1 = 0 → vx_in (v2 + 1) ∧ vN l mX6_hasNext (d + 1) (vx_pi SH Q) SH g1 72 [some (.inr (some 40)), some (.inl v1), some (.inl (v2 + 1))] []) ∧ (¬ r1 = 0 → (0 ≤ v2 ∧ v2 < 12) ∧ vx_in ((g1 52 v2) + 1) ∧ (0 ≤ v2 ∧ v2 < 12) ∧ vN l mX6_hasNext (d + 1) (vx_pi SH Q) SH (vx_u g1 52 v2 ((g1 52 v2) + 1)) 87 [some (.inr (some 40)), some (.inl v1), some (.inl v2)] [])))) : vN l mX6_hasNext (d + 1) (vx_pi SH Q) SH g 87 [some (.inr (some 40)), some (.inl v1), some (.inl v2)] [] := by
  refine vr_aload_n 88 dX6_hasNext_87 rfl rfl rfl ?_
  refine vr_iload_n 89 dX6_hasNext_88 rfl rfl rfl ?_
  obtain ⟨Q1, hq, h⟩ := h
  refine vr_callVi 92 [.inl v2] 40 [] dX6_hasNext_89 rfl mc_X6_111 dn_X6_isAhead rfl rfl s_40 rfl (Nat.le_of_ble_eq_true rfl) (vx_rmR (by decide)) ⟨rfl, rfl⟩ ⟨Nat.le_refl _, Nat.le_refl _⟩ (fun _ _ => trivial) (fun _ _ => trivial) hq (fun r1 sh9 g1 hp _ _ => ?_)
  obtain ⟨e9, z9, e8, hp⟩ := hp
  subst e9
  cases e8
  replace h := h r1 g1 hp
  refine vr_if_eq 108 95 dX6_hasNext_92 rfl rfl (fun c => ?_) (fun c => ?_)
  · replace h := h.1 c
    obtain ⟨o2, h⟩ := h
    refine vr_iinc 111 [some (.inr (some 40)), some (.inl v1), some (.inl (v2 + 1))] dX6_hasNext_108 rfl rfl o2 (by decide) rfl ?_
    refine vr_goto 72 dX6_hasNext_111 rfl ?_
    exact h
  · replace h := h.2 c
    refine vr_aload_n 96 dX6_hasNext_95 rfl rfl rfl ?_
    refine vr_getr 99 16 cl_X6 fl_X6_51 (by decide) dX6_hasNext_96 rfl s_40 rfl ?_
    refine vr_iload_n 100 dX6_hasNext_99 rfl rfl rfl ?_
    refine vr_dup2 101 dX6_hasNext_100 rfl ?_
    obtain ⟨o3, h⟩ := h
    refine vr_iald 102 dX6_hasNext_101 rfl s_52 o3.1 o3.2 ?_
    refine vr_iconst 103 dX6_hasNext_102 rfl ⟨by decide, by decide⟩ ?_
    obtain ⟨o4, h⟩ := h
    refine vr_iadd 104 dX6_hasNext_103 rfl o4 ?_
    obtain ⟨o5, h⟩ := h
    refine vr_iast 105 dX6_hasNext_104 rfl s_52 o5.1 o5.2 ?_
    refine vr_goto 87 dX6_hasNext_105 rfl ?_
    exact h
end
section
set_option maxRecDepth 100000 in
theorem tX6_findPlacings_0 {l : Launch} {d : Nat} {Q : vx_M → Prop} (g : vx_M) (h : (((g 40 2) < (g 40 10) → vN l mX6_findPlacings (d + 1) (vx_pv SH Q) SH (vx_u (vx_u (vx_u g 40 18 0) 40 19 (-1)) 40 21 (-1)) 34 [some (.inr (some 40)), some (.inl 0), some (.inl 0), none, none, none, none] []) ∧ (¬ (g 40 2) < (g 40 10) → vN l mX6_findPlacings (d + 1) (vx_pv SH Q) SH (vx_u (vx_u (vx_u g 40 18 0) 40 19 (-1)) 40 21 (-1)) 34 [some (.inr (some 40)), some (.inl 1), some (.inl 0), none, none, none, none] []))) : vN l mX6_findPlacings (d + 1) (vx_pv SH Q) SH g 0 [some (.inr (some 40)), none, none, none, none, none, none] [] := by
  refine vr_aload_n 1 dX6_findPlacings_0 rfl rfl rfl ?_
  refine vr_iconst 2 dX6_findPlacings_1 rfl ⟨by decide, by decide⟩ ?_
  refine vr_puti 5 18 18 cl_X6 fl_X6_114 (by decide) rfl rfl rfl dX6_findPlacings_2 rfl s_40 rfl ?_
  refine vr_aload_n 6 dX6_findPlacings_5 rfl rfl rfl ?_
  refine vr_iconst 7 dX6_findPlacings_6 rfl ⟨by decide, by decide⟩ ?_
  refine vr_puti 10 19 19 cl_X6 fl_X6_117 (by decide) rfl rfl rfl dX6_findPlacings_7 rfl s_40 rfl ?_
  refine vr_aload_n 11 dX6_findPlacings_10 rfl rfl rfl ?_
  refine vr_iconst 12 dX6_findPlacings_11 rfl ⟨by decide, by decide⟩ ?_
  refine vr_puti 15 21 21 cl_X6 fl_X6_120 (by decide) rfl rfl rfl dX6_findPlacings_12 rfl s_40 rfl ?_
  refine vr_aload_n 16 dX6_findPlacings_15 rfl rfl rfl ?_
  refine vr_geti 19 2 2 cl_X6 fl_X6_81 (by decide) rfl dX6_findPlacings_16 rfl s_40 rfl ?_
  refine vr_aload_n 20 dX6_findPlacings_19 rfl rfl rfl ?_
  refine vr_geti 23 10 10 cl_X6 fl_X6_88 (by decide) rfl dX6_findPlacings_20 rfl s_40 rfl ?_
  refine vr_icmp_lt 30 26 dX6_findPlacings_23 rfl rfl (fun c => ?_) (fun c => ?_)
  · replace h := h.1 c
    refine vr_iconst 31 dX6_findPlacings_30 rfl ⟨by decide, by decide⟩ ?_
    refine vr_istore_n 32 [some (.inr (some 40)), some (.inl 0), none, none, none, none, none] dX6_findPlacings_31 rfl rfl (by decide) rfl ?_
    refine vr_iconst 33 dX6_findPlacings_32 rfl ⟨by decide, by decide⟩ ?_
    refine vr_istore_n 34 [some (.inr (some 40)), some (.inl 0), some (.inl 0), none, none, none, none] dX6_findPlacings_33 rfl rfl (by decide) rfl ?_
    exact h
  · replace h := h.2 c
    refine vr_iconst 27 dX6_findPlacings_26 rfl ⟨by decide, by decide⟩ ?_
    refine vr_goto 31 dX6_findPlacings_27 rfl ?_
    refine vr_istore_n 32 [some (.inr (some 40)), some (.inl 1), none, none, none, none, none] dX6_findPlacings_31 rfl rfl (by decide) rfl ?_
    refine vr_iconst 33 dX6_findPlacings_32 rfl ⟨by decide, by decide⟩ ?_
    refine vr_istore_n 34 [some (.inr (some 40)), some (.inl 1), some (.inl 0), none, none, none, none] dX6_findPlacings_33 rfl rfl (by decide) rfl ?_
    exact h
theorem kX6_findPlacings {l : Launch} {d : Nat} {Q : vx_M → Prop} (g : vx_M) (h : (((g 40 2) < (g 40 10) → vN l mX6_findPlacings (d + 1) (vx_pv SH Q) SH (vx_u (vx_u (vx_u g 40 18 0) 40 19 (-1)) 40 21 (-1)) 34 [some (.inr (some 40)), some (.inl 0), some (.inl 0), none, none, none, none] []) ∧ (¬ (g 40 2) < (g 40 10) → vN l mX6_findPlacings (d + 1) (vx_pv SH Q) SH (vx_u (vx_u (vx_u g 40 18 0) 40 19 (-1)) 40 21 (-1)) 34 [some (.inr (some 40)), some (.inl 1), some (.inl 0), none, none, none, none] []))) : vNv l mX6_findPlacings (d + 1) [.inr (some 40)] SH g Q := vNv_of [some (.inr (some 40)), none, none, none, none, none, none] pn_X6 (Nat.le_of_ble_eq_true rfl) rfl (tX6_findPlacings_0 g  h)
set_option maxRecDepth 100000 in
theorem tX6_findPlacings_34 {l : Launch} {d : Nat} {Q : vx_M → Prop} (g : vx_M) (v1 v2 : Int) (h : (((g 40 10) ≤ v2 → vN l mX6_findPlacings (d + 1) (vx_pv SH Q) SH g 55 [some (.inr (some 40)), some (.inl v1), some (.inl v2), none, none, none, none] []) ∧ (¬ (g 40 10) ≤ v2 → (0 ≤ v2 ∧ v2 < 12) ∧ vx_in (v2 + 1) ∧ vN l mX6_findPlacings (d + 1) (vx_pv SH Q) SH (vx_u g 52 v2 v2) 34 [some (.inr (some 40)), some (.inl v1), some (.inl (v2 + 1)), none, none, none, none] []))) : vN l mX6_findPlacings (d + 1) (vx_pv SH Q) SH g 34 [some (.inr (some 40)), some (.inl v1), some (.inl v2), none, none, none, none] [] := by
  refine vr_iload_n 35 dX6_findPlacings_34 rfl rfl rfl ?_
  refine vr_aload_n 36 dX6_findPlacings_35 rfl rfl rfl ?_
  refine vr_geti 39 10 10 cl_X6 fl_X6_88 (by decide) rfl dX6_findPlacings_36 rfl s_40 rfl ?_
  refine vr_icmp_ge 55 42 dX6_findPlacings_39 rfl rfl (fun c => ?_) (fun c => ?_)
  · replace h := h.1 c
    exact h
  · replace h := h.2 c
    refine vr_aload_n 43 dX6_findPlacings_42 rfl rfl rfl ?_
    refine vr_getr 46 16 cl_X6 fl_X6_51 (by decide) dX6_findPlacings_43 rfl s_40 rfl ?_
    refine vr_iload_n 47 dX6_findPlacings_46 rfl rfl rfl ?_
    refine vr_iload_n 48 dX6_findPlacings_47 rfl rfl rfl ?_
    obtain ⟨o1, h⟩ := h
    refine vr_iast 49 dX6_findPlacings_48 rfl s_52 o1.1 o1.2 ?_
    obtain ⟨o2, h⟩ := h
    refine vr_iinc 52 [some (.inr (some 40)), some (.inl v1), some (.inl (v2 + 1)), none, none, none, none] dX6_findPlacings_49 rfl rfl o2 (by decide) rfl ?_
    refine vr_goto 34 dX6_findPlacings_52 rfl ?_
    exact h
set_option maxRecDepth 100000 in
theorem tX6_findPlacings_55 {l : Launch} {d : Nat} {Q : vx_M → Prop} (g : vx_M) (v1 v2 : Int) (h : ((v1 = 0 → Q g) ∧ (¬ v1 = 0 → (∃ Q1 : Int → vx_M → Prop, vNi l mX6_fitsSo d [.inr (some 40)] SH g Q1 ∧ ∀ (r1 : Int) (g1 : vx_M), Q1 r1 g1 → ((r1 = (-1) → (∃ Q2 : Int → vx_M → Prop, vNi l mX6_hasNext d [.inr (some 40)] SH g1 Q2 ∧ ∀ (r2 : Int) (g2 : vx_M), Q2 r2 g2 → vN l mX6_findPlacings (d + 1) (vx_pv SH Q) SH g2 55 [some (.inr (some 40)), some (.inl r2), some (.inl r1), none, none, none, none] [])) ∧ (¬ r1 = (-1) → vx_in ((g1 40 18) + 1) ∧ vN l mX6_findPlacings (d + 1) (vx_pv SH Q) SH (vx_u g1 40 18 ((g1 40 18) + 1)) 84 [some (.inr (some 40)), some (.inl v1), some (.inl r1), some (.inl 0), some (.inl 0), none, none] [])))))) : vN l mX6_findPlacings (d + 1) (vx_pv SH Q) SH g 55 [some (.inr (some 40)), some (.inl v1), some (.inl v2), none, none, none, none] [] := by
  refine vr_iload_n 56 dX6_findPlacings_55 rfl rfl rfl ?_
  refine vr_if_eq 328 59 dX6_findPlacings_56 rfl rfl (fun c => ?_) (fun c => ?_)
  · replace h := h.1 c
    exact vr_vret rfl (Nat.le_refl _) (Nat.le_refl _) dX6_findPlacings_328 ⟨rfl, rfl, h⟩
  · replace h := h.2 c
    refine vr_aload_n 60 dX6_findPlacings_59 rfl rfl rfl ?_
    obtain ⟨Q1, hq, h⟩ := h
    refine vr_callVi 63 [] 40 [] dX6_findPlacings_60 rfl mc_X6_123 dn_X6_fitsSo rfl rfl s_40 rfl (Nat.le_of_ble_eq_true rfl) (vx_rmR (by decide)) ⟨rfl, rfl⟩ ⟨Nat.le_refl _, Nat.le_refl _⟩ (fun _ _ => trivial) (fun _ _ => trivial) hq (fun r1 sh9 g1 hp _ _ => ?_)
    obtain ⟨e9, z9, e8, hp⟩ := hp
    subst e9
    cases e8
    replace h := h r1 g1 hp
    refine vr_istore_n 64 [some (.inr (some 40)), some (.inl v1), some (.inl r1), none, none, none, none] dX6_findPlacings_63 rfl rfl (by decide) rfl ?_
    refine vr_iload_n 65 dX6_findPlacings_64 rfl rfl rfl ?_
    refine vr_iconst 66 dX6_findPlacings_65 rfl ⟨by decide, by decide⟩ ?_
    refine vr_icmp_eq 320 69 dX6_findPlacings_66 rfl rfl (fun c => ?_) (fun c => ?_)
    · replace h := h.1 c
      refine vr_aload_n 321 dX6_findPlacings_320 rfl rfl rfl ?_
      obtain ⟨Q2, hq, h⟩ := h
      refine vr_callVi 324 [] 40 [] dX6_findPlacings_321 rfl mc_X6_129 dn_X6_hasNext rfl rfl s_40 rfl (Nat.le_of_ble_eq_true rfl) (vx_rmR (by decide)) ⟨rfl, rfl⟩ ⟨Nat.le_refl _, Nat.le_refl _⟩ (fun _ _ => trivial) (fun _ _ => trivial) hq (fun r2 sh9 g2 hp _ _ => ?_)
      obtain ⟨e9, z9, e8, hp⟩ := hp
      subst e9
      cases e8
      replace h := h r2 g2 hp
      refine vr_istore_n 325 [some (.inr (some 40)), some (.inl r2), some (.inl r1), none, none, none, none] dX6_findPlacings_324 rfl rfl (by decide) rfl ?_
      refine vr_goto 55 dX6_findPlacings_325 rfl ?_
      exact h
    · replace h := h.2 c
      refine vr_aload_n 70 dX6_findPlacings_69 rfl rfl rfl ?_
      refine vr_dup 71 dX6_findPlacings_70 rfl ?_
      refine vr_geti 74 18 18 cl_X6 fl_X6_114 (by decide) rfl dX6_findPlacings_71 rfl s_40 rfl ?_
      refine vr_iconst 75 dX6_findPlacings_74 rfl ⟨by decide, by decide⟩ ?_
      obtain ⟨o3, h⟩ := h
      refine vr_iadd 76 dX6_findPlacings_75 rfl o3 ?_
      refine vr_puti 79 18 18 cl_X6 fl_X6_114 (by decide) rfl rfl rfl dX6_findPlacings_76 rfl s_40 rfl ?_
      refine vr_iconst 80 dX6_findPlacings_79 rfl ⟨by decide, by decide⟩ ?_
      refine vr_istore_n 81 [some (.inr (some 40)), some (.inl v1), some (.inl r1), some (.inl 0), none, none, none] dX6_findPlacings_80 rfl rfl (by decide) rfl ?_
      refine vr_iconst 82 dX6_findPlacings_81 rfl ⟨by decide, by decide⟩ ?_
      refine vr_istore 84 [some (.inr (some 40)), some (.inl v1), some (.inl r1), some (.inl 0), some (.inl 0), none, none] dX6_findPlacings_82 rfl (by decide) rfl ?_
      exact h
set_option maxRecDepth 100000 in
theorem tX6_findPlacings_84 {l : Launch} {d : Nat} {Q : vx_M → Prop} (g : vx_M) (v1 v2 v3 v4 : Int) (h : (((g 40 10) ≤ v4 → (((g 40 19) = (-1) → vN l mX6_findPlacings (d + 1) (vx_pv SH Q) SH g 147 [some (.inr (some 40)), some (.inl v1), some (.inl v2), some (.inl v3), some (.inl v4), none, none] []) ∧ (¬ (g 40 19) = (-1) → (((g 40 19) ≤ v2 → vN l mX6_findPlacings (d + 1) (vx_pv SH Q) SH g 152 [some (.inr (some 40)), some (.inl v1), some (.inl v2), some (.inl v3), some (.inl v4), none, none] [.inl 0]) ∧ (¬ (g 40 19) ≤ v2 → vN l mX6_findPlacings (d + 1) (vx_pv SH Q) SH g 147 [some (.inr (some 40)), some (.inl v1), some (.inl v2), some (.inl v3), some (.inl v4), none, none] []))))) ∧ (¬ (g 40 10) ≤ v4 → (((g 40 14) = 0 → vx_in (v3 + 1) ∧ vx_in (v4 + 1) ∧ vN l mX6_findPlacings (d + 1) (vx_pv SH Q) SH g 84 [some (.inr (some 40)), some (.inl v1), some (.inl v2), some (.inl (v3 + 1)), some (.inl (v4 + 1)), none, none] []) ∧ (¬ (g 40 14) = 0 → (0 ≤ v4 ∧ v4 < 12) ∧ (0 ≤ v4 ∧ v4 < 12) ∧ (((g 52 v4) = (g 51 v4) → vx_in (v3 + 0) ∧ vx_in (v4 + 1) ∧ vN l mX6_findPlacings (d + 1) (vx_pv SH Q) SH g 84 [some (.inr (some 40)), some (.inl v1), some (.inl v2), some (.inl (v3 + 0)), some (.inl (v4 + 1)), none, none] []) ∧ (¬ (g 52 v4) = (g 51 v4) → vx_in (v3 + 1) ∧ vx_in (v4 + 1) ∧ vN l mX6_findPlacings (d + 1) (vx_pv SH Q) SH g 84 [some (.inr (some 40)), some (.inl v1), some (.inl v2), some (.inl (v3 + 1)), some (.inl (v4 + 1)), none, none] []))))))) : vN l mX6_findPlacings (d + 1) (vx_pv SH Q) SH g 84 [some (.inr (some 40)), some (.inl v1), some (.inl v2), some (.inl v3), some (.inl v4), none, none] [] := by
  refine vr_iload 86 dX6_findPlacings_84 rfl rfl ?_
  refine vr_aload_n 87 dX6_findPlacings_86 rfl rfl rfl ?_
  refine vr_geti 90 10 10 cl_X6 fl_X6_88 (by decide) rfl dX6_findPlacings_87 rfl s_40 rfl ?_
  refine vr_icmp_ge 131 93 dX6_findPlacings_90 rfl rfl (fun c => ?_) (fun c => ?_)
  · replace h := h.1 c
    refine vr_aload_n 132 dX6_findPlacings_131 rfl rfl rfl ?_
    refine vr_geti 135 19 19 cl_X6 fl_X6_117 (by decide) rfl dX6_findPlacings_132 rfl s_40 rfl ?_
    refine vr_iconst 136 dX6_findPlacings_135 rfl ⟨by decide, by decide⟩ ?_
    refine vr_icmp_eq 147 139 dX6_findPlacings_136 rfl rfl (fun c => ?_) (fun c => ?_)
    · replace h := h.1 c
      exact h
    · replace h := h.2 c
      refine vr_iload_n 140 dX6_findPlacings_139 rfl rfl rfl ?_
      refine vr_aload_n 141 dX6_findPlacings_140 rfl rfl rfl ?_
      refine vr_geti 144 19 19 cl_X6 fl_X6_117 (by decide) rfl dX6_findPlacings_141 rfl s_40 rfl ?_
      refine vr_icmp_ge 151 147 dX6_findPlacings_144 rfl rfl (fun c => ?_) (fun c => ?_)
      · replace h := h.1 c
        refine vr_iconst 152 dX6_findPlacings_151 rfl ⟨by decide, by decide⟩ ?_
        exact h
      · replace h := h.2 c
        exact h
  · replace h := h.2 c
    refine vr_iload_n 94 dX6_findPlacings_93 rfl rfl rfl ?_
    refine vr_aload_n 95 dX6_findPlacings_94 rfl rfl rfl ?_
    refine vr_geti 98 14 14 cl_X6 fl_X6_95 (by decide) rfl dX6_findPlacings_95 rfl s_40 rfl ?_
    refine vr_if_eq 118 101 dX6_findPlacings_98 rfl rfl (fun c => ?_) (fun c => ?_)
    · replace h := h.1 c
      refine vr_iconst 119 dX6_findPlacings_118 rfl ⟨by decide, by decide⟩ ?_
      refine vr_goto 123 dX6_findPlacings_119 rfl ?_
      obtain ⟨o1, h⟩ := h
      refine vr_iadd 124 dX6_findPlacings_123 rfl o1 ?_
      refine vr_istore_n 125 [some (.inr (some 40)), some (.inl v1), some (.inl v2), some (.inl (v3 + 1)), some (.inl v4), none, none] dX6_findPlacings_124 rfl rfl (by decide) rfl ?_
      obtain ⟨o2, h⟩ := h
      refine vr_iinc 128 [some (.inr (some 40)), some (.inl v1), some (.inl v2), some (.inl (v3 + 1)), some (.inl (v4 + 1)), none, none] dX6_findPlacings_125 rfl rfl o2 (by decide) rfl ?_
      refine vr_goto 84 dX6_findPlacings_128 rfl ?_
      exact h
    · replace h := h.2 c
      refine vr_aload_n 102 dX6_findPlacings_101 rfl rfl rfl ?_
      refine vr_getr 105 16 cl_X6 fl_X6_51 (by decide) dX6_findPlacings_102 rfl s_40 rfl ?_
      refine vr_iload 107 dX6_findPlacings_105 rfl rfl ?_
      obtain ⟨o3, h⟩ := h
      refine vr_iald 108 dX6_findPlacings_107 rfl s_52 o3.1 o3.2 ?_
      refine vr_aload_n 109 dX6_findPlacings_108 rfl rfl rfl ?_
      refine vr_getr 112 15 cl_X6 fl_X6_48 (by decide) dX6_findPlacings_109 rfl s_40 rfl ?_
      refine vr_iload 114 dX6_findPlacings_112 rfl rfl ?_
      obtain ⟨o4, h⟩ := h
      refine vr_iald 115 dX6_findPlacings_114 rfl s_51 o4.1 o4.2 ?_
      refine vr_icmp_eq 122 118 dX6_findPlacings_115 rfl rfl (fun c => ?_) (fun c => ?_)
      · replace h := h.1 c
        refine vr_iconst 123 dX6_findPlacings_122 rfl ⟨by decide, by decide⟩ ?_
        obtain ⟨o5, h⟩ := h
        refine vr_iadd 124 dX6_findPlacings_123 rfl o5 ?_
        refine vr_istore_n 125 [some (.inr (some 40)), some (.inl v1), some (.inl v2), some (.inl (v3 + 0)), some (.inl v4), none, none] dX6_findPlacings_124 rfl rfl (by decide) rfl ?_
        obtain ⟨o6, h⟩ := h
        refine vr_iinc 128 [some (.inr (some 40)), some (.inl v1), some (.inl v2), some (.inl (v3 + 0)), some (.inl (v4 + 1)), none, none] dX6_findPlacings_125 rfl rfl o6 (by decide) rfl ?_
        refine vr_goto 84 dX6_findPlacings_128 rfl ?_
        exact h
      · replace h := h.2 c
        refine vr_iconst 119 dX6_findPlacings_118 rfl ⟨by decide, by decide⟩ ?_
        refine vr_goto 123 dX6_findPlacings_119 rfl ?_
        obtain ⟨o7, h⟩ := h
        refine vr_iadd 124 dX6_findPlacings_123 rfl o7 ?_
        refine vr_istore_n 125 [some (.inr (some 40)), some (.inl v1), some (.inl v2), some (.inl (v3 + 1)), some (.inl v4), none, none] dX6_findPlacings_124 rfl rfl (by decide) rfl ?_
        obtain ⟨o8, h⟩ := h
        refine vr_iinc 128 [some (.inr (some 40)), some (.inl v1), some (.inl v2), some (.inl (v3 + 1)), some (.inl (v4 + 1)), none, none] dX6_findPlacings_125 rfl rfl o8 (by decide) rfl ?_
        refine vr_goto 84 dX6_findPlacings_128 rfl ?_
        exact h
set_option maxRecDepth 100000 in
theorem tX6_findPlacings_147 {l : Launch} {d : Nat} {Q : vx_M → Prop} (g : vx_M) (v1 v2 v3 v4 : Int) (h : vN l mX6_findPlacings (d + 1) (vx_pv SH Q) SH g 152 [some (.inr (some 40)), some (.inl v1), some (.inl v2), some (.inl v3), some (.inl v4), none, none] [.inl 1]) : vN l mX6_findPlacings (d + 1) (vx_pv SH Q) SH g 147 [some (.inr (some 40)), some (.inl v1), some (.inl v2), some (.inl v3), some (.inl v4), none, none] [] := by
  refine vr_iconst 148 dX6_findPlacings_147 rfl ⟨by decide, by decide⟩ ?_
  refine vr_goto 152 dX6_findPlacings_148 rfl ?_
  exact h
set_option maxRecDepth 100000 in
theorem tX6_findPlacings_152 {l : Launch} {d : Nat} {Q : vx_M → Prop} (g : vx_M) (v1 v2 v3 v4 w0 : Int) (h : (((g 40 21) = (-1) → vN l mX6_findPlacings (d + 1) (vx_pv SH Q) SH g 196 [some (.inr (some 40)), some (.inl v1), some (.inl v2), some (.inl v3), some (.inl w0), some (.inl 1), some (.inl 0)] []) ∧ (¬ (g 40 21) = (-1) → ((v3 < (g 40 21) → vN l mX6_findPlacings (d + 1) (vx_pv SH Q) SH g 196 [some (.inr (some 40)), some (.inl v1), some (.inl v2), some (.inl v3), some (.inl w0), some (.inl 1), some (.inl 0)] []) ∧ (¬ v3 < (g 40 21) → ((¬ v3 = (g 40 21) → vN l mX6_findPlacings (d + 1) (vx_pv SH Q) SH g 196 [some (.inr (some 40)), some (.inl v1), some (.inl v2), some (.inl v3), some (.inl w0), some (.inl 0), some (.inl 0)] []) ∧ (v3 = (g 40 21) → (((g 40 22) ≤ v2 → vN l mX6_findPlacings (d + 1) (vx_pv SH Q) SH g 196 [some (.inr (some 40)), some (.inl v1), some (.inl v2), some (.inl v3), some (.inl w0), some (.inl 0), some (.inl 0)] []) ∧ (¬ (g 40 22) ≤ v2 → vN l mX6_findPlacings (d + 1) (vx_pv SH Q) SH g 196 [some (.inr (some 40)), some (.inl v1), some (.inl v2), some (.inl v3), some (.inl w0), some (.inl 1), some (.inl 0)] []))))))))) : vN l mX6_findPlacings (d + 1) (vx_pv SH Q) SH g 152 [some (.inr (some 40)), some (.inl v1), some (.inl v2), some (.inl v3), some (.inl v4), none, none] [.inl w0] := by
  refine vr_istore 154 [some (.inr (some 40)), some (.inl v1), some (.inl v2), some (.inl v3), some (.inl w0), none, none] dX6_findPlacings_152 rfl (by decide) rfl ?_
  refine vr_aload_n 155 dX6_findPlacings_154 rfl rfl rfl ?_
  refine vr_geti 158 21 21 cl_X6 fl_X6_120 (by decide) rfl dX6_findPlacings_155 rfl s_40 rfl ?_
  refine vr_iconst 159 dX6_findPlacings_158 rfl ⟨by decide, by decide⟩ ?_
  refine vr_icmp_eq 186 162 dX6_findPlacings_159 rfl rfl (fun c => ?_) (fun c => ?_)
  · replace h := h.1 c
    refine vr_iconst 187 dX6_findPlacings_186 rfl ⟨by decide, by decide⟩ ?_
    refine vr_goto 191 dX6_findPlacings_187 rfl ?_
    refine vr_istore 193 [some (.inr (some 40)), some (.inl v1), some (.inl v2), some (.inl v3), some (.inl w0), some (.inl 1), none] dX6_findPlacings_191 rfl (by decide) rfl ?_
    refine vr_iconst 194 dX6_findPlacings_193 rfl ⟨by decide, by decide⟩ ?_
    refine vr_istore 196 [some (.inr (some 40)), some (.inl v1), some (.inl v2), some (.inl v3), some (.inl w0), some (.inl 1), some (.inl 0)] dX6_findPlacings_194 rfl (by decide) rfl ?_
    exact h
  · replace h := h.2 c
    refine vr_iload_n 163 dX6_findPlacings_162 rfl rfl rfl ?_
    refine vr_aload_n 164 dX6_findPlacings_163 rfl rfl rfl ?_
    refine vr_geti 167 21 21 cl_X6 fl_X6_120 (by decide) rfl dX6_findPlacings_164 rfl s_40 rfl ?_
    refine vr_icmp_lt 186 170 dX6_findPlacings_167 rfl rfl (fun c => ?_) (fun c => ?_)
    · replace h := h.1 c
      refine vr_iconst 187 dX6_findPlacings_186 rfl ⟨by decide, by decide⟩ ?_
      refine vr_goto 191 dX6_findPlacings_187 rfl ?_
      refine vr_istore 193 [some (.inr (some 40)), some (.inl v1), some (.inl v2), some (.inl v3), some (.inl w0), some (.inl 1), none] dX6_findPlacings_191 rfl (by decide) rfl ?_
      refine vr_iconst 194 dX6_findPlacings_193 rfl ⟨by decide, by decide⟩ ?_
      refine vr_istore 196 [some (.inr (some 40)), some (.inl v1), some (.inl v2), some (.inl v3), some (.inl w0), some (.inl 1), some (.inl 0)] dX6_findPlacings_194 rfl (by decide) rfl ?_
      exact h
    · replace h := h.2 c
      refine vr_iload_n 171 dX6_findPlacings_170 rfl rfl rfl ?_
      refine vr_aload_n 172 dX6_findPlacings_171 rfl rfl rfl ?_
      refine vr_geti 175 21 21 cl_X6 fl_X6_120 (by decide) rfl dX6_findPlacings_172 rfl s_40 rfl ?_
      refine vr_icmp_ne 190 178 dX6_findPlacings_175 rfl rfl (fun c => ?_) (fun c => ?_)
      · replace h := h.1 c
        refine vr_iconst 191 dX6_findPlacings_190 rfl ⟨by decide, by decide⟩ ?_
        refine vr_istore 193 [some (.inr (some 40)), some (.inl v1), some (.inl v2), some (.inl v3), some (.inl w0), some (.inl 0), none] dX6_findPlacings_191 rfl (by decide) rfl ?_
        refine vr_iconst 194 dX6_findPlacings_193 rfl ⟨by decide, by decide⟩ ?_
        refine vr_istore 196 [some (.inr (some 40)), some (.inl v1), some (.inl v2), some (.inl v3), some (.inl w0), some (.inl 0), some (.inl 0)] dX6_findPlacings_194 rfl (by decide) rfl ?_
        exact h
      · replace h := h.2 c
        refine vr_iload_n 179 dX6_findPlacings_178 rfl rfl rfl ?_
        refine vr_aload_n 180 dX6_findPlacings_179 rfl rfl rfl ?_
        refine vr_geti 183 22 22 cl_X6 fl_X6_126 (by decide) rfl dX6_findPlacings_180 rfl s_40 rfl ?_
        refine vr_icmp_ge 190 186 dX6_findPlacings_183 rfl rfl (fun c => ?_) (fun c => ?_)
        · replace h := h.1 c
          refine vr_iconst 191 dX6_findPlacings_190 rfl ⟨by decide, by decide⟩ ?_
          refine vr_istore 193 [some (.inr (some 40)), some (.inl v1), some (.inl v2), some (.inl v3), some (.inl w0), some (.inl 0), none] dX6_findPlacings_191 rfl (by decide) rfl ?_
          refine vr_iconst 194 dX6_findPlacings_193 rfl ⟨by decide, by decide⟩ ?_
          refine vr_istore 196 [some (.inr (some 40)), some (.inl v1), some (.inl v2), some (.inl v3), some (.inl w0), some (.inl 0), some (.inl 0)] dX6_findPlacings_194 rfl (by decide) rfl ?_
          exact h
        · replace h := h.2 c
          refine vr_iconst 187 dX6_findPlacings_186 rfl ⟨by decide, by decide⟩ ?_
          refine vr_goto 191 dX6_findPlacings_187 rfl ?_
          refine vr_istore 193 [some (.inr (some 40)), some (.inl v1), some (.inl v2), some (.inl v3), some (.inl w0), some (.inl 1), none] dX6_findPlacings_191 rfl (by decide) rfl ?_
          refine vr_iconst 194 dX6_findPlacings_193 rfl ⟨by decide, by decide⟩ ?_
          refine vr_istore 196 [some (.inr (some 40)), some (.inl v1), some (.inl v2), some (.inl v3), some (.inl w0), some (.inl 1), some (.inl 0)] dX6_findPlacings_194 rfl (by decide) rfl ?_
          exact h
set_option maxRecDepth 100000 in
theorem tX6_findPlacings_196 {l : Launch} {d : Nat} {Q : vx_M → Prop} (g : vx_M) (v1 v2 v3 v4 v5 v6 : Int) (h : (((g 40 10) ≤ v6 → ((v4 = 0 → vN l mX6_findPlacings (d + 1) (vx_pv SH Q) SH g 283 [some (.inr (some 40)), some (.inl v1), some (.inl v2), some (.inl v3), some (.inl v4), some (.inl v5), some (.inl v6)] [.inl (g 40 19), .inr (some 40)]) ∧ (¬ v4 = 0 → vN l mX6_findPlacings (d + 1) (vx_pv SH Q) SH g 283 [some (.inr (some 40)), some (.inl v1), some (.inl v2), some (.inl v3), some (.inl v4), some (.inl v5), some (.inl v6)] [.inl v2, .inr (some 40)]))) ∧ (¬ (g 40 10) ≤ v6 → ((v4 = 0 → (0 ≤ v6 ∧ v6 < 12) ∧ vN l mX6_findPlacings (d + 1) (vx_pv SH Q) SH g 233 [some (.inr (some 40)), some (.inl v1), some (.inl v2), some (.inl v3), some (.inl v4), some (.inl v5), some (.inl v6)] [.inl (g 54 v6), .inl v6, .inr (some 54)]) ∧ (¬ v4 = 0 → (0 ≤ v6 ∧ v6 < 12) ∧ vN l mX6_findPlacings (d + 1) (vx_pv SH Q) SH g 233 [some (.inr (some 40)), some (.inl v1), some (.inl v2), some (.inl v3), some (.inl v4), some (.inl v5), some (.inl v6)] [.inl (g 52 v6), .inl v6, .inr (some 54)]))))) : vN l mX6_findPlacings (d + 1) (vx_pv SH Q) SH g 196 [some (.inr (some 40)), some (.inl v1), some (.inl v2), some (.inl v3), some (.inl v4), some (.inl v5), some (.inl v6)] [] := by
  refine vr_iload 198 dX6_findPlacings_196 rfl rfl ?_
  refine vr_aload_n 199 dX6_findPlacings_198 rfl rfl rfl ?_
  refine vr_geti 202 10 10 cl_X6 fl_X6_88 (by decide) rfl dX6_findPlacings_199 rfl s_40 rfl ?_
  refine vr_icmp_ge 269 205 dX6_findPlacings_202 rfl rfl (fun c => ?_) (fun c => ?_)
  · replace h := h.1 c
    refine vr_aload_n 270 dX6_findPlacings_269 rfl rfl rfl ?_
    refine vr_iload 272 dX6_findPlacings_270 rfl rfl ?_
    refine vr_if_eq 279 275 dX6_findPlacings_272 rfl rfl (fun c => ?_) (fun c => ?_)
    · replace h := h.1 c
      refine vr_aload_n 280 dX6_findPlacings_279 rfl rfl rfl ?_
      refine vr_geti 283 19 19 cl_X6 fl_X6_117 (by decide) rfl dX6_findPlacings_280 rfl s_40 rfl ?_
      exact h
    · replace h := h.2 c
      refine vr_iload_n 276 dX6_findPlacings_275 rfl rfl rfl ?_
      refine vr_goto 283 dX6_findPlacings_276 rfl ?_
      exact h
  · replace h := h.2 c
    refine vr_aload_n 206 dX6_findPlacings_205 rfl rfl rfl ?_
    refine vr_getr 209 20 cl_X6 fl_X6_57 (by decide) dX6_findPlacings_206 rfl s_40 rfl ?_
    refine vr_iload 211 dX6_findPlacings_209 rfl rfl ?_
    refine vr_iload 213 dX6_findPlacings_211 rfl rfl ?_
    refine vr_if_eq 226 216 dX6_findPlacings_213 rfl rfl (fun c => ?_) (fun c => ?_)
    · replace h := h.1 c
      refine vr_aload_n 227 dX6_findPlacings_226 rfl rfl rfl ?_
      refine vr_getr 230 20 cl_X6 fl_X6_57 (by decide) dX6_findPlacings_227 rfl s_40 rfl ?_
      refine vr_iload 232 dX6_findPlacings_230 rfl rfl ?_
      obtain ⟨o1, h⟩ := h
      refine vr_iald 233 dX6_findPlacings_232 rfl s_54 o1.1 o1.2 ?_
      exact h
    · replace h := h.2 c
      refine vr_aload_n 217 dX6_findPlacings_216 rfl rfl rfl ?_
      refine vr_getr 220 16 cl_X6 fl_X6_51 (by decide) dX6_findPlacings_217 rfl s_40 rfl ?_
      refine vr_iload 222 dX6_findPlacings_220 rfl rfl ?_
      obtain ⟨o2, h⟩ := h
      refine vr_iald 223 dX6_findPlacings_222 rfl s_52 o2.1 o2.2 ?_
      refine vr_goto 233 dX6_findPlacings_223 rfl ?_
      exact h
set_option maxRecDepth 100000 in
theorem tX6_findPlacings_283 {l : Launch} {d : Nat} {Q : vx_M → Prop} (g : vx_M) (v1 v2 v3 v4 v5 v6 w0 : Int) (h : ((v5 = 0 → vN l mX6_findPlacings (d + 1) (vx_pv SH Q) SH (vx_u g 40 19 w0) 300 [some (.inr (some 40)), some (.inl v1), some (.inl v2), some (.inl v3), some (.inl v4), some (.inl v5), some (.inl v6)] [.inl (g 40 21), .inr (some 40)]) ∧ (¬ v5 = 0 → vN l mX6_findPlacings (d + 1) (vx_pv SH Q) SH (vx_u g 40 19 w0) 300 [some (.inr (some 40)), some (.inl v1), some (.inl v2), some (.inl v3), some (.inl v4), some (.inl v5), some (.inl v6)] [.inl v3, .inr (some 40)]))) : vN l mX6_findPlacings (d + 1) (vx_pv SH Q) SH g 283 [some (.inr (some 40)), some (.inl v1), some (.inl v2), some (.inl v3), some (.inl v4), some (.inl v5), some (.inl v6)] [.inl w0, .inr (some 40)] := by
  refine vr_puti 286 19 19 cl_X6 fl_X6_117 (by decide) rfl rfl rfl dX6_findPlacings_283 rfl s_40 rfl ?_
  refine vr_aload_n 287 dX6_findPlacings_286 rfl rfl rfl ?_
  refine vr_iload 289 dX6_findPlacings_287 rfl rfl ?_
  refine vr_if_eq 296 292 dX6_findPlacings_289 rfl rfl (fun c => ?_) (fun c => ?_)
  · replace h := h.1 c
    refine vr_aload_n 297 dX6_findPlacings_296 rfl rfl rfl ?_
    refine vr_geti 300 21 21 cl_X6 fl_X6_120 (by decide) rfl dX6_findPlacings_297 rfl s_40 rfl ?_
    exact h
  · replace h := h.2 c
    refine vr_iload_n 293 dX6_findPlacings_292 rfl rfl rfl ?_
    refine vr_goto 300 dX6_findPlacings_293 rfl ?_
    exact h
set_option maxRecDepth 100000 in
theorem tX6_findPlacings_233 {l : Launch} {d : Nat} {Q : vx_M → Prop} (g : vx_M) (v1 v2 v3 v4 v5 v6 w0 w1 : Int) (h : (0 ≤ w1 ∧ w1 < 12) ∧ ((v5 = 0 → (0 ≤ v6 ∧ v6 < 12) ∧ (0 ≤ v6 ∧ v6 < 12) ∧ vx_in (v6 + 1) ∧ vN l mX6_findPlacings (d + 1) (vx_pv SH Q) SH (vx_u (vx_u g 54 w1 w0) 55 v6 (g 55 v6)) 196 [some (.inr (some 40)), some (.inl v1), some (.inl v2), some (.inl v3), some (.inl v4), some (.inl v5), some (.inl (v6 + 1))] []) ∧ (¬ v5 = 0 → (0 ≤ v6 ∧ v6 < 12) ∧ (0 ≤ v6 ∧ v6 < 12) ∧ vx_in (v6 + 1) ∧ vN l mX6_findPlacings (d + 1) (vx_pv SH Q) SH (vx_u (vx_u g 54 w1 w0) 55 v6 (g 52 v6)) 196 [some (.inr (some 40)), some (.inl v1), some (.inl v2), some (.inl v3), some (.inl v4), some (.inl v5), some (.inl (v6 + 1))] []))) : vN l mX6_findPlacings (d + 1) (vx_pv SH Q) SH g 233 [some (.inr (some 40)), some (.inl v1), some (.inl v2), some (.inl v3), some (.inl v4), some (.inl v5), some (.inl v6)] [.inl w0, .inl w1, .inr (some 54)] := by
  obtain ⟨o1, h⟩ := h
  refine vr_iast 234 dX6_findPlacings_233 rfl s_54 o1.1 o1.2 ?_
  refine vr_aload_n 235 dX6_findPlacings_234 rfl rfl rfl ?_
  refine vr_getr 238 23 cl_X6 fl_X6_60 (by decide) dX6_findPlacings_235 rfl s_40 rfl ?_
  refine vr_iload 240 dX6_findPlacings_238 rfl rfl ?_
  refine vr_iload 242 dX6_findPlacings_240 rfl rfl ?_
  refine vr_if_eq 255 245 dX6_findPlacings_242 rfl rfl (fun c => ?_) (fun c => ?_)
  · replace h := h.1 c
    refine vr_aload_n 256 dX6_findPlacings_255 rfl rfl rfl ?_
    refine vr_getr 259 23 cl_X6 fl_X6_60 (by decide) dX6_findPlacings_256 rfl s_40 rfl ?_
    refine vr_iload 261 dX6_findPlacings_259 rfl rfl ?_
    obtain ⟨o2, h⟩ := h
    refine vr_iald 262 dX6_findPlacings_261 rfl s_55 o2.1 o2.2 ?_
    obtain ⟨o3, h⟩ := h
    refine vr_iast 263 dX6_findPlacings_262 rfl s_55 o3.1 o3.2 ?_
    obtain ⟨o4, h⟩ := h
    refine vr_iinc 266 [some (.inr (some 40)), some (.inl v1), some (.inl v2), some (.inl v3), some (.inl v4), some (.inl v5), some (.inl (v6 + 1))] dX6_findPlacings_263 rfl rfl o4 (by decide) rfl ?_
    refine vr_goto 196 dX6_findPlacings_266 rfl ?_
    exact h
  · replace h := h.2 c
    refine vr_aload_n 246 dX6_findPlacings_245 rfl rfl rfl ?_
    refine vr_getr 249 16 cl_X6 fl_X6_51 (by decide) dX6_findPlacings_246 rfl s_40 rfl ?_
    refine vr_iload 251 dX6_findPlacings_249 rfl rfl ?_
    obtain ⟨o5, h⟩ := h
    refine vr_iald 252 dX6_findPlacings_251 rfl s_52 o5.1 o5.2 ?_
    refine vr_goto 262 dX6_findPlacings_252 rfl ?_
    obtain ⟨o6, h⟩ := h
    refine vr_iast 263 dX6_findPlacings_262 rfl s_55 o6.1 o6.2 ?_
    obtain ⟨o7, h⟩ := h
    refine vr_iinc 266 [some (.inr (some 40)), some (.inl v1), some (.inl v2), some (.inl v3), some (.inl v4), some (.inl v5), some (.inl (v6 + 1))] dX6_findPlacings_263 rfl rfl o7 (by decide) rfl ?_
    refine vr_goto 196 dX6_findPlacings_266 rfl ?_
    exact h
set_option maxRecDepth 100000 in
theorem tX6_findPlacings_300 {l : Launch} {d : Nat} {Q : vx_M → Prop} (g : vx_M) (v1 v2 v3 v4 v5 v6 w0 : Int) (h : ((v5 = 0 → (∃ Q1 : Int → vx_M → Prop, vNi l mX6_hasNext d [.inr (some 40)] SH (vx_u (vx_u g 40 21 w0) 40 22 (g 40 22)) Q1 ∧ ∀ (r1 : Int) (g1 : vx_M), Q1 r1 g1 → vN l mX6_findPlacings (d + 1) (vx_pv SH Q) SH g1 55 [some (.inr (some 40)), some (.inl r1), some (.inl v2), none, none, none, none] [])) ∧ (¬ v5 = 0 → (∃ Q2 : Int → vx_M → Prop, vNi l mX6_hasNext d [.inr (some 40)] SH (vx_u (vx_u g 40 21 w0) 40 22 v2) Q2 ∧ ∀ (r2 : Int) (g2 : vx_M), Q2 r2 g2 → vN l mX6_findPlacings (d + 1) (vx_pv SH Q) SH g2 55 [some (.inr (some 40)), some (.inl r2), some (.inl v2), none, none, none, none] [])))) : vN l mX6_findPlacings (d + 1) (vx_pv SH Q) SH g 300 [some (.inr (some 40)), some (.inl v1), some (.inl v2), some (.inl v3), some (.inl v4), some (.inl v5), some (.inl v6)] [.inl w0, .inr (some 40)] := by
  refine vr_puti 303 21 21 cl_X6 fl_X6_120 (by decide) rfl rfl rfl dX6_findPlacings_300 rfl s_40 rfl ?_
  refine vr_aload_n 304 dX6_findPlacings_303 rfl rfl rfl ?_
  refine vr_iload 306 dX6_findPlacings_304 rfl rfl ?_
  refine vr_if_eq 313 309 dX6_findPlacings_306 rfl rfl (fun c => ?_) (fun c => ?_)
  · replace h := h.1 c
    refine vr_aload_n 314 dX6_findPlacings_313 rfl rfl rfl ?_
    refine vr_geti 317 22 22 cl_X6 fl_X6_126 (by decide) rfl dX6_findPlacings_314 rfl s_40 rfl ?_
    refine vr_puti 320 22 22 cl_X6 fl_X6_126 (by decide) rfl rfl rfl dX6_findPlacings_317 rfl s_40 rfl ?_
    refine vr_aload_n 321 dX6_findPlacings_320 rfl rfl rfl ?_
    obtain ⟨Q1, hq, h⟩ := h
    refine vr_callVi 324 [] 40 [] dX6_findPlacings_321 rfl mc_X6_129 dn_X6_hasNext rfl rfl s_40 rfl (Nat.le_of_ble_eq_true rfl) (vx_rmR (by decide)) ⟨rfl, rfl⟩ ⟨Nat.le_refl _, Nat.le_refl _⟩ (fun _ _ => trivial) (fun _ _ => trivial) hq (fun r1 sh9 g1 hp _ _ => ?_)
    obtain ⟨e9, z9, e8, hp⟩ := hp
    subst e9
    cases e8
    replace h := h r1 g1 hp
    refine vr_istore_n 325 [some (.inr (some 40)), some (.inl r1), some (.inl v2), some (.inl v3), some (.inl v4), some (.inl v5), some (.inl v6)] dX6_findPlacings_324 rfl rfl (by decide) rfl ?_
    refine vr_goto 55 dX6_findPlacings_325 rfl ?_
    exact vr_forget [some (.inr (some 40)), some (.inl r1), some (.inl v2), none, none, none, none] (vx_sub.get _ _ ⟨rfl, ⟨rfl, ⟨rfl, trivial⟩⟩⟩) h
  · replace h := h.2 c
    refine vr_iload_n 310 dX6_findPlacings_309 rfl rfl rfl ?_
    refine vr_goto 317 dX6_findPlacings_310 rfl ?_
    refine vr_puti 320 22 22 cl_X6 fl_X6_126 (by decide) rfl rfl rfl dX6_findPlacings_317 rfl s_40 rfl ?_
    refine vr_aload_n 321 dX6_findPlacings_320 rfl rfl rfl ?_
    obtain ⟨Q2, hq, h⟩ := h
    refine vr_callVi 324 [] 40 [] dX6_findPlacings_321 rfl mc_X6_129 dn_X6_hasNext rfl rfl s_40 rfl (Nat.le_of_ble_eq_true rfl) (vx_rmR (by decide)) ⟨rfl, rfl⟩ ⟨Nat.le_refl _, Nat.le_refl _⟩ (fun _ _ => trivial) (fun _ _ => trivial) hq (fun r2 sh9 g2 hp _ _ => ?_)
    obtain ⟨e9, z9, e8, hp⟩ := hp
    subst e9
    cases e8
    replace h := h r2 g2 hp
    refine vr_istore_n 325 [some (.inr (some 40)), some (.inl r2), some (.inl v2), some (.inl v3), some (.inl v4), some (.inl v5), some (.inl v6)] dX6_findPlacings_324 rfl rfl (by decide) rfl ?_
    refine vr_goto 55 dX6_findPlacings_325 rfl ?_
    exact vr_forget [some (.inr (some 40)), some (.inl r2), some (.inl v2), none, none, none, none] (vx_sub.get _ _ ⟨rfl, ⟨rfl, ⟨rfl, trivial⟩⟩⟩) h
set_option maxRecDepth 100000 in
theorem tX6_fits_0 {l : Launch} {d : Nat} {Q : Int → vx_M → Prop} (g : vx_M) (h : (∃ Q1 : vx_M → Prop, vNv l mX6_findPlacings d [.inr (some 40)] SH g Q1 ∧ ∀ g1 : vx_M, Q1 g1 → Q (g1 40 18) g1)) : vN l mX6_fits (d + 1) (vx_pi SH Q) SH g 0 [some (.inr (some 40))] [] := by
  refine vr_aload_n 1 dX6_fits_0 rfl rfl rfl ?_
  obtain ⟨Q1, hq, h⟩ := h
  refine vr_callVv 4 [] 40 [] dX6_fits_1 rfl mc_X6_133 dn_X6_findPlacings rfl rfl s_40 rfl (Nat.le_of_ble_eq_true rfl) (vx_rmR (by decide)) ⟨rfl, rfl⟩ ⟨Nat.le_refl _, Nat.le_refl _⟩ (fun _ _ => trivial) (fun _ _ => trivial) hq (fun sh9 g1 hp _ => ?_)
  obtain ⟨e9, -, hp⟩ := hp
  subst e9
  replace h := h g1 hp
  refine vr_aload_n 5 dX6_fits_4 rfl rfl rfl ?_
  refine vr_geti 8 18 18 cl_X6 fl_X6_114 (by decide) rfl dX6_fits_5 rfl s_40 rfl ?_
  exact vr_iret rfl (Nat.le_refl _) (Nat.le_refl _) dX6_fits_8 ⟨rfl, _, rfl, h⟩
theorem kX6_fits {l : Launch} {d : Nat} {Q : Int → vx_M → Prop} (g : vx_M) (h : (∃ Q1 : vx_M → Prop, vNv l mX6_findPlacings d [.inr (some 40)] SH g Q1 ∧ ∀ g1 : vx_M, Q1 g1 → Q (g1 40 18) g1)) : vNi l mX6_fits (d + 1) [.inr (some 40)] SH g Q := vNi_of [some (.inr (some 40))] pn_X6 (Nat.le_of_ble_eq_true rfl) rfl (tX6_fits_0 g  h)
set_option maxRecDepth 100000 in
theorem tX6_level_0 {l : Launch} {d : Nat} {Q : Int → vx_M → Prop} (g : vx_M) (h : (∃ Q1 : vx_M → Prop, vNv l mX6_findPlacings d [.inr (some 40)] SH g Q1 ∧ ∀ g1 : vx_M, Q1 g1 → Q (g1 40 19) g1)) : vN l mX6_level (d + 1) (vx_pi SH Q) SH g 0 [some (.inr (some 40))] [] := by
  refine vr_aload_n 1 dX6_level_0 rfl rfl rfl ?_
  obtain ⟨Q1, hq, h⟩ := h
  refine vr_callVv 4 [] 40 [] dX6_level_1 rfl mc_X6_133 dn_X6_findPlacings rfl rfl s_40 rfl (Nat.le_of_ble_eq_true rfl) (vx_rmR (by decide)) ⟨rfl, rfl⟩ ⟨Nat.le_refl _, Nat.le_refl _⟩ (fun _ _ => trivial) (fun _ _ => trivial) hq (fun sh9 g1 hp _ => ?_)
  obtain ⟨e9, -, hp⟩ := hp
  subst e9
  replace h := h g1 hp
  refine vr_aload_n 5 dX6_level_4 rfl rfl rfl ?_
  refine vr_geti 8 19 19 cl_X6 fl_X6_117 (by decide) rfl dX6_level_5 rfl s_40 rfl ?_
  exact vr_iret rfl (Nat.le_refl _) (Nat.le_refl _) dX6_level_8 ⟨rfl, _, rfl, h⟩
theorem kX6_level {l : Launch} {d : Nat} {Q : Int → vx_M → Prop} (g : vx_M) (h : (∃ Q1 : vx_M → Prop, vNv l mX6_findPlacings d [.inr (some 40)] SH g Q1 ∧ ∀ g1 : vx_M, Q1 g1 → Q (g1 40 19) g1)) : vNi l mX6_level (d + 1) [.inr (some 40)] SH g Q := vNi_of [some (.inr (some 40))] pn_X6 (Nat.le_of_ble_eq_true rfl) rfl (tX6_level_0 g  h)
set_option maxRecDepth 100000 in
theorem tX6_close_0 {l : Launch} {d : Nat} {Q : Int → vx_M → Prop} (g : vx_M) (h : (∃ Q1 : vx_M → Prop, vNv l mX6_findPlacings d [.inr (some 40)] SH g Q1 ∧ ∀ g1 : vx_M, Q1 g1 → Q (g1 40 21) g1)) : vN l mX6_close (d + 1) (vx_pi SH Q) SH g 0 [some (.inr (some 40))] [] := by
  refine vr_aload_n 1 dX6_close_0 rfl rfl rfl ?_
  obtain ⟨Q1, hq, h⟩ := h
  refine vr_callVv 4 [] 40 [] dX6_close_1 rfl mc_X6_133 dn_X6_findPlacings rfl rfl s_40 rfl (Nat.le_of_ble_eq_true rfl) (vx_rmR (by decide)) ⟨rfl, rfl⟩ ⟨Nat.le_refl _, Nat.le_refl _⟩ (fun _ _ => trivial) (fun _ _ => trivial) hq (fun sh9 g1 hp _ => ?_)
  obtain ⟨e9, -, hp⟩ := hp
  subst e9
  replace h := h g1 hp
  refine vr_aload_n 5 dX6_close_4 rfl rfl rfl ?_
  refine vr_geti 8 21 21 cl_X6 fl_X6_120 (by decide) rfl dX6_close_5 rfl s_40 rfl ?_
  exact vr_iret rfl (Nat.le_refl _) (Nat.le_refl _) dX6_close_8 ⟨rfl, _, rfl, h⟩
theorem kX6_close {l : Launch} {d : Nat} {Q : Int → vx_M → Prop} (g : vx_M) (h : (∃ Q1 : vx_M → Prop, vNv l mX6_findPlacings d [.inr (some 40)] SH g Q1 ∧ ∀ g1 : vx_M, Q1 g1 → Q (g1 40 21) g1)) : vNi l mX6_close (d + 1) [.inr (some 40)] SH g Q := vNi_of [some (.inr (some 40))] pn_X6 (Nat.le_of_ble_eq_true rfl) rfl (tX6_close_0 g  h)
set_option maxRecDepth 100000 in
theorem tX6_take_0 {l : Launch} {d : Nat} {Q : Int → vx_M → Prop} (g : vx_M) (v1 : Int) (h : (∃ Q1 : Int → vx_M → Prop, vNi l mX6_in d [.inl v1, .inl 0, .inl 1] SH g Q1 ∧ ∀ (r1 : Int) (g1 : vx_M), Q1 r1 g1 → ((¬ r1 = 0 → (∃ Q2 : vx_M → Prop, vNv l mX6_findPlacings d [.inr (some 40)] SH g1 Q2 ∧ ∀ g2 : vx_M, Q2 g2 → ((¬ (g2 40 18) = 0 → vN l mX6_take (d + 1) (vx_pi SH Q) SH g2 28 [some (.inr (some 40)), some (.inl v1), some (.inl 0)] []) ∧ ((g2 40 18) = 0 → Q (-4) g2)))) ∧ (r1 = 0 → Q (-3) g1)))) : vN l mX6_take (d + 1) (vx_pi SH Q) SH g 0 [some (.inr (some 40)), some (.inl v1), none] [] := by
  refine vr_iload_n 1 dX6_take_0 rfl rfl rfl ?_
  refine vr_iconst 2 dX6_take_1 rfl ⟨by decide, by decide⟩ ?_
  refine vr_iconst 3 dX6_take_2 rfl ⟨by decide, by decide⟩ ?_
  obtain ⟨Q1, hq, h⟩ := h
  refine vr_callSi 6 [.inl v1, .inl 0, .inl 1] [] dX6_take_3 rfl mc_X6_84 dn_X6_in rfl rfl (Nat.le_of_ble_eq_true rfl) (vx_rmR (by decide)) ⟨rfl, rfl⟩ ⟨Nat.le_refl _, Nat.le_refl _⟩ (fun _ _ => trivial) (fun _ _ => trivial) hq (fun r1 sh9 g1 hp _ _ => ?_)
  obtain ⟨e9, z9, e8, hp⟩ := hp
  subst e9
  cases e8
  replace h := h r1 g1 hp
  refine vr_if_ne 12 9 dX6_take_6 rfl rfl (fun c => ?_) (fun c => ?_)
  · replace h := h.1 c
    refine vr_aload_n 13 dX6_take_12 rfl rfl rfl ?_
    obtain ⟨Q2, hq, h⟩ := h
    refine vr_callVv 16 [] 40 [] dX6_take_13 rfl mc_X6_133 dn_X6_findPlacings rfl rfl s_40 rfl (Nat.le_of_ble_eq_true rfl) (vx_rmR (by decide)) ⟨rfl, rfl⟩ ⟨Nat.le_refl _, Nat.le_refl _⟩ (fun _ _ => trivial) (fun _ _ => trivial) hq (fun sh9 g2 hp _ => ?_)
    obtain ⟨e9, -, hp⟩ := hp
    subst e9
    replace h := h g2 hp
    refine vr_aload_n 17 dX6_take_16 rfl rfl rfl ?_
    refine vr_geti 20 18 18 cl_X6 fl_X6_114 (by decide) rfl dX6_take_17 rfl s_40 rfl ?_
    refine vr_if_ne 26 23 dX6_take_20 rfl rfl (fun c => ?_) (fun c => ?_)
    · replace h := h.1 c
      refine vr_iconst 27 dX6_take_26 rfl ⟨by decide, by decide⟩ ?_
      refine vr_istore_n 28 [some (.inr (some 40)), some (.inl v1), some (.inl 0)] dX6_take_27 rfl rfl (by decide) rfl ?_
      exact h
    · replace h := h.2 c
      refine vr_bipush 25 dX6_take_23 rfl (by decide) ⟨by decide, by decide⟩ ?_
      exact vr_iret rfl (Nat.le_refl _) (Nat.le_refl _) dX6_take_25 ⟨rfl, _, rfl, h⟩
  · replace h := h.2 c
    refine vr_bipush 11 dX6_take_9 rfl (by decide) ⟨by decide, by decide⟩ ?_
    exact vr_iret rfl (Nat.le_refl _) (Nat.le_refl _) dX6_take_11 ⟨rfl, _, rfl, h⟩
theorem kX6_take {l : Launch} {d : Nat} {Q : Int → vx_M → Prop} (g : vx_M) (v1 : Int) (h : (∃ Q1 : Int → vx_M → Prop, vNi l mX6_in d [.inl v1, .inl 0, .inl 1] SH g Q1 ∧ ∀ (r1 : Int) (g1 : vx_M), Q1 r1 g1 → ((¬ r1 = 0 → (∃ Q2 : vx_M → Prop, vNv l mX6_findPlacings d [.inr (some 40)] SH g1 Q2 ∧ ∀ g2 : vx_M, Q2 g2 → ((¬ (g2 40 18) = 0 → vN l mX6_take (d + 1) (vx_pi SH Q) SH g2 28 [some (.inr (some 40)), some (.inl v1), some (.inl 0)] []) ∧ ((g2 40 18) = 0 → Q (-4) g2)))) ∧ (r1 = 0 → Q (-3) g1)))) : vNi l mX6_take (d + 1) [.inr (some 40), .inl v1] SH g Q := vNi_of [some (.inr (some 40)), some (.inl v1), none] pn_X6 (Nat.le_of_ble_eq_true rfl) rfl (tX6_take_0 g v1 h)
set_option maxRecDepth 100000 in
theorem tX6_take_28 {l : Launch} {d : Nat} {Q : Int → vx_M → Prop} (g : vx_M) (v1 v2 : Int) (h : (((g 40 10) ≤ v2 → ((¬ v1 = 0 → Q (g 40 22) (vx_u g 40 14 1)) ∧ (v1 = 0 → Q (g 40 19) (vx_u g 40 14 1)))) ∧ (¬ (g 40 10) ≤ v2 → ((¬ v1 = 0 → (0 ≤ v2 ∧ v2 < 12) ∧ (0 ≤ v2 ∧ v2 < 12) ∧ vx_in (v2 + 1) ∧ vN l mX6_take (d + 1) (vx_pi SH Q) SH (vx_u g 51 v2 (g 55 v2)) 28 [some (.inr (some 40)), some (.inl v1), some (.inl (v2 + 1))] []) ∧ (v1 = 0 → (0 ≤ v2 ∧ v2 < 12) ∧ (0 ≤ v2 ∧ v2 < 12) ∧ vx_in (v2 + 1) ∧ vN l mX6_take (d + 1) (vx_pi SH Q) SH (vx_u g 51 v2 (g 54 v2)) 28 [some (.inr (some 40)), some (.inl v1), some (.inl (v2 + 1))] []))))) : vN l mX6_take (d + 1) (vx_pi SH Q) SH g 28 [some (.inr (some 40)), some (.inl v1), some (.inl v2)] [] := by
  refine vr_iload_n 29 dX6_take_28 rfl rfl rfl ?_
  refine vr_aload_n 30 dX6_take_29 rfl rfl rfl ?_
  refine vr_geti 33 10 10 cl_X6 fl_X6_88 (by decide) rfl dX6_take_30 rfl s_40 rfl ?_
  refine vr_icmp_ge 67 36 dX6_take_33 rfl rfl (fun c => ?_) (fun c => ?_)
  · replace h := h.1 c
    refine vr_aload_n 68 dX6_take_67 rfl rfl rfl ?_
    refine vr_iconst 69 dX6_take_68 rfl ⟨by decide, by decide⟩ ?_
    refine vr_putz 72 14 14 cl_X6 fl_X6_95 (by decide) rfl rfl rfl (by decide) dX6_take_69 rfl s_40 rfl ?_
    refine vr_iload_n 73 dX6_take_72 rfl rfl rfl ?_
    refine vr_if_ne 83 76 dX6_take_73 rfl rfl (fun c => ?_) (fun c => ?_)
    · replace h := h.1 c
      refine vr_aload_n 84 dX6_take_83 rfl rfl rfl ?_
      refine vr_geti 87 22 22 cl_X6 fl_X6_126 (by decide) rfl dX6_take_84 rfl s_40 rfl ?_
      exact vr_iret rfl (Nat.le_refl _) (Nat.le_refl _) dX6_take_87 ⟨rfl, _, rfl, h⟩
    · replace h := h.2 c
      refine vr_aload_n 77 dX6_take_76 rfl rfl rfl ?_
      refine vr_geti 80 19 19 cl_X6 fl_X6_117 (by decide) rfl dX6_take_77 rfl s_40 rfl ?_
      refine vr_goto 87 dX6_take_80 rfl ?_
      exact vr_iret rfl (Nat.le_refl _) (Nat.le_refl _) dX6_take_87 ⟨rfl, _, rfl, h⟩
  · replace h := h.2 c
    refine vr_aload_n 37 dX6_take_36 rfl rfl rfl ?_
    refine vr_getr 40 15 cl_X6 fl_X6_48 (by decide) dX6_take_37 rfl s_40 rfl ?_
    refine vr_iload_n 41 dX6_take_40 rfl rfl rfl ?_
    refine vr_iload_n 42 dX6_take_41 rfl rfl rfl ?_
    refine vr_if_ne 54 45 dX6_take_42 rfl rfl (fun c => ?_) (fun c => ?_)
    · replace h := h.1 c
      refine vr_aload_n 55 dX6_take_54 rfl rfl rfl ?_
      refine vr_getr 58 23 cl_X6 fl_X6_60 (by decide) dX6_take_55 rfl s_40 rfl ?_
      refine vr_iload_n 59 dX6_take_58 rfl rfl rfl ?_
      obtain ⟨o1, h⟩ := h
      refine vr_iald 60 dX6_take_59 rfl s_55 o1.1 o1.2 ?_
      obtain ⟨o2, h⟩ := h
      refine vr_iast 61 dX6_take_60 rfl s_51 o2.1 o2.2 ?_
      obtain ⟨o3, h⟩ := h
      refine vr_iinc 64 [some (.inr (some 40)), some (.inl v1), some (.inl (v2 + 1))] dX6_take_61 rfl rfl o3 (by decide) rfl ?_
      refine vr_goto 28 dX6_take_64 rfl ?_
      exact h
    · replace h := h.2 c
      refine vr_aload_n 46 dX6_take_45 rfl rfl rfl ?_
      refine vr_getr 49 20 cl_X6 fl_X6_57 (by decide) dX6_take_46 rfl s_40 rfl ?_
      refine vr_iload_n 50 dX6_take_49 rfl rfl rfl ?_
      obtain ⟨o4, h⟩ := h
      refine vr_iald 51 dX6_take_50 rfl s_54 o4.1 o4.2 ?_
      refine vr_goto 60 dX6_take_51 rfl ?_
      obtain ⟨o5, h⟩ := h
      refine vr_iast 61 dX6_take_60 rfl s_51 o5.1 o5.2 ?_
      obtain ⟨o6, h⟩ := h
      refine vr_iinc 64 [some (.inr (some 40)), some (.inl v1), some (.inl (v2 + 1))] dX6_take_61 rfl rfl o6 (by decide) rfl ?_
      refine vr_goto 28 dX6_take_64 rfl ?_
      exact h
set_option maxRecDepth 100000 in
theorem tX6_at_0 {l : Launch} {d : Nat} {Q : Int → vx_M → Prop} (g : vx_M) (v1 : Int) (h : (∃ Q1 : Int → vx_M → Prop, vNi l mX6_isPlace d [.inr (some 40), .inl v1] SH g Q1 ∧ ∀ (r1 : Int) (g1 : vx_M), Q1 r1 g1 → ((¬ r1 = 0 → (((g1 40 14) = 0 → Q (-4) g1) ∧ (¬ (g1 40 14) = 0 → (0 ≤ v1 ∧ v1 < 12) ∧ Q (g1 51 v1) g1))) ∧ (r1 = 0 → Q (-2) g1)))) : vN l mX6_at (d + 1) (vx_pi SH Q) SH g 0 [some (.inr (some 40)), some (.inl v1)] [] := by
  refine vr_aload_n 1 dX6_at_0 rfl rfl rfl ?_
  refine vr_iload_n 2 dX6_at_1 rfl rfl rfl ?_
  obtain ⟨Q1, hq, h⟩ := h
  refine vr_callVi 5 [.inl v1] 40 [] dX6_at_2 rfl mc_X6_136 dn_X6_isPlace rfl rfl s_40 rfl (Nat.le_of_ble_eq_true rfl) (vx_rmR (by decide)) ⟨rfl, rfl⟩ ⟨Nat.le_refl _, Nat.le_refl _⟩ (fun _ _ => trivial) (fun _ _ => trivial) hq (fun r1 sh9 g1 hp _ _ => ?_)
  obtain ⟨e9, z9, e8, hp⟩ := hp
  subst e9
  cases e8
  replace h := h r1 g1 hp
  refine vr_if_ne 11 8 dX6_at_5 rfl rfl (fun c => ?_) (fun c => ?_)
  · replace h := h.1 c
    refine vr_aload_n 12 dX6_at_11 rfl rfl rfl ?_
    refine vr_geti 15 14 14 cl_X6 fl_X6_95 (by decide) rfl dX6_at_12 rfl s_40 rfl ?_
    refine vr_if_eq 27 18 dX6_at_15 rfl rfl (fun c => ?_) (fun c => ?_)
    · replace h := h.1 c
      refine vr_bipush 29 dX6_at_27 rfl (by decide) ⟨by decide, by decide⟩ ?_
      exact vr_iret rfl (Nat.le_refl _) (Nat.le_refl _) dX6_at_29 ⟨rfl, _, rfl, h⟩
    · replace h := h.2 c
      refine vr_aload_n 19 dX6_at_18 rfl rfl rfl ?_
      refine vr_getr 22 15 cl_X6 fl_X6_48 (by decide) dX6_at_19 rfl s_40 rfl ?_
      refine vr_iload_n 23 dX6_at_22 rfl rfl rfl ?_
      obtain ⟨o2, h⟩ := h
      refine vr_iald 24 dX6_at_23 rfl s_51 o2.1 o2.2 ?_
      refine vr_goto 29 dX6_at_24 rfl ?_
      exact vr_iret rfl (Nat.le_refl _) (Nat.le_refl _) dX6_at_29 ⟨rfl, _, rfl, h⟩
  · replace h := h.2 c
    refine vr_bipush 10 dX6_at_8 rfl (by decide) ⟨by decide, by decide⟩ ?_
    exact vr_iret rfl (Nat.le_refl _) (Nat.le_refl _) dX6_at_10 ⟨rfl, _, rfl, h⟩
theorem kX6_at {l : Launch} {d : Nat} {Q : Int → vx_M → Prop} (g : vx_M) (v1 : Int) (h : (∃ Q1 : Int → vx_M → Prop, vNi l mX6_isPlace d [.inr (some 40), .inl v1] SH g Q1 ∧ ∀ (r1 : Int) (g1 : vx_M), Q1 r1 g1 → ((¬ r1 = 0 → (((g1 40 14) = 0 → Q (-4) g1) ∧ (¬ (g1 40 14) = 0 → (0 ≤ v1 ∧ v1 < 12) ∧ Q (g1 51 v1) g1))) ∧ (r1 = 0 → Q (-2) g1)))) : vNi l mX6_at (d + 1) [.inr (some 40), .inl v1] SH g Q := vNi_of [some (.inr (some 40)), some (.inl v1)] pn_X6 (Nat.le_of_ble_eq_true rfl) rfl (tX6_at_0 g v1 h)
set_option maxRecDepth 100000 in
theorem tX6_useHand_0 {l : Launch} {d : Nat} {Q : vx_M → Prop} (g : vx_M) (h : vN l mX6_useHand d (vx_pv SH Q) SH g 2 [some (.inr (some 40)), some (.inl 0)] []) : vN l mX6_useHand d (vx_pv SH Q) SH g 0 [some (.inr (some 40)), none] [] := by
  refine vr_iconst 1 dX6_useHand_0 rfl ⟨by decide, by decide⟩ ?_
  refine vr_istore_n 2 [some (.inr (some 40)), some (.inl 0)] dX6_useHand_1 rfl rfl (by decide) rfl ?_
  exact h
theorem kX6_useHand {l : Launch} {d : Nat} {Q : vx_M → Prop} (g : vx_M) (h : vN l mX6_useHand d (vx_pv SH Q) SH g 2 [some (.inr (some 40)), some (.inl 0)] []) : vNv l mX6_useHand d [.inr (some 40)] SH g Q := vNv_of [some (.inr (some 40)), none] pn_X6 (Nat.le_of_ble_eq_true rfl) rfl (tX6_useHand_0 g  h)
set_option maxRecDepth 100000 in
theorem tX6_useHand_2 {l : Launch} {d : Nat} {Q : vx_M → Prop} (g : vx_M) (v1 : Int) (h : (((g 40 10) ≤ v1 → Q g) ∧ (¬ (g 40 10) ≤ v1 → (0 ≤ v1 ∧ v1 < 12) ∧ (0 ≤ v1 ∧ v1 < 12) ∧ vx_in (v1 + 1) ∧ vN l mX6_useHand d (vx_pv SH Q) SH (vx_u g 52 v1 (g 51 v1)) 2 [some (.inr (some 40)), some (.inl (v1 + 1))] []))) : vN l mX6_useHand d (vx_pv SH Q) SH g 2 [some (.inr (some 40)), some (.inl v1)] [] := by
  refine vr_iload_n 3 dX6_useHand_2 rfl rfl rfl ?_
  refine vr_aload_n 4 dX6_useHand_3 rfl rfl rfl ?_
  refine vr_geti 7 10 10 cl_X6 fl_X6_88 (by decide) rfl dX6_useHand_4 rfl s_40 rfl ?_
  refine vr_icmp_ge 28 10 dX6_useHand_7 rfl rfl (fun c => ?_) (fun c => ?_)
  · replace h := h.1 c
    exact vr_vret rfl (Nat.le_refl _) (Nat.le_refl _) dX6_useHand_28 ⟨rfl, rfl, h⟩
  · replace h := h.2 c
    refine vr_aload_n 11 dX6_useHand_10 rfl rfl rfl ?_
    refine vr_getr 14 16 cl_X6 fl_X6_51 (by decide) dX6_useHand_11 rfl s_40 rfl ?_
    refine vr_iload_n 15 dX6_useHand_14 rfl rfl rfl ?_
    refine vr_aload_n 16 dX6_useHand_15 rfl rfl rfl ?_
    refine vr_getr 19 15 cl_X6 fl_X6_48 (by decide) dX6_useHand_16 rfl s_40 rfl ?_
    refine vr_iload_n 20 dX6_useHand_19 rfl rfl rfl ?_
    obtain ⟨o1, h⟩ := h
    refine vr_iald 21 dX6_useHand_20 rfl s_51 o1.1 o1.2 ?_
    obtain ⟨o2, h⟩ := h
    refine vr_iast 22 dX6_useHand_21 rfl s_52 o2.1 o2.2 ?_
    obtain ⟨o3, h⟩ := h
    refine vr_iinc 25 [some (.inr (some 40)), some (.inl (v1 + 1))] dX6_useHand_22 rfl rfl o3 (by decide) rfl ?_
    refine vr_goto 2 dX6_useHand_25 rfl ?_
    exact h
set_option maxRecDepth 100000 in
theorem tX6_load_0 {l : Launch} {d : Nat} {Q : Int → vx_M → Prop} (g : vx_M) (v1 : Int) (h : (∃ Q1 : Int → vx_M → Prop, vNi l mX6_isPlace d [.inr (some 40), .inl v1] SH g Q1 ∧ ∀ (r1 : Int) (g1 : vx_M), Q1 r1 g1 → ((¬ r1 = 0 → ((¬ (g1 40 14) = 0 → (∃ Q2 : vx_M → Prop, vNv l mX6_useHand d [.inr (some 40)] SH g1 Q2 ∧ ∀ g2 : vx_M, Q2 g2 → vx_in ((g2 40 10) - 1) ∧ (∃ Q4 : vx_M → Prop, vNv l mX6_findLoads d [.inr (some 40), .inl ((g2 40 10) - 1)] SH g2 Q4 ∧ ∀ g4 : vx_M, Q4 g4 → (0 ≤ v1 ∧ v1 < 12) ∧ Q (g4 53 v1) g4))) ∧ ((g1 40 14) = 0 → Q (-4) g1))) ∧ (r1 = 0 → Q (-2) g1)))) : vN l mX6_load (d + 1) (vx_pi SH Q) SH g 0 [some (.inr (some 40)), some (.inl v1)] [] := by
  refine vr_aload_n 1 dX6_load_0 rfl rfl rfl ?_
  refine vr_iload_n 2 dX6_load_1 rfl rfl rfl ?_
  obtain ⟨Q1, hq, h⟩ := h
  refine vr_callVi 5 [.inl v1] 40 [] dX6_load_2 rfl mc_X6_136 dn_X6_isPlace rfl rfl s_40 rfl (Nat.le_of_ble_eq_true rfl) (vx_rmR (by decide)) ⟨rfl, rfl⟩ ⟨Nat.le_refl _, Nat.le_refl _⟩ (fun _ _ => trivial) (fun _ _ => trivial) hq (fun r1 sh9 g1 hp _ _ => ?_)
  obtain ⟨e9, z9, e8, hp⟩ := hp
  subst e9
  cases e8
  replace h := h r1 g1 hp
  refine vr_if_ne 11 8 dX6_load_5 rfl rfl (fun c => ?_) (fun c => ?_)
  · replace h := h.1 c
    refine vr_aload_n 12 dX6_load_11 rfl rfl rfl ?_
    refine vr_geti 15 14 14 cl_X6 fl_X6_95 (by decide) rfl dX6_load_12 rfl s_40 rfl ?_
    refine vr_if_ne 21 18 dX6_load_15 rfl rfl (fun c => ?_) (fun c => ?_)
    · replace h := h.1 c
      refine vr_aload_n 22 dX6_load_21 rfl rfl rfl ?_
      obtain ⟨Q2, hq, h⟩ := h
      refine vr_callVv 25 [] 40 [] dX6_load_22 rfl mc_X6_139 dn_X6_useHand rfl rfl s_40 rfl (Nat.le_of_ble_eq_true rfl) (vx_rmR (by decide)) ⟨rfl, rfl⟩ ⟨Nat.le_refl _, Nat.le_refl _⟩ (fun _ _ => trivial) (fun _ _ => trivial) hq (fun sh9 g2 hp _ => ?_)
      obtain ⟨e9, -, hp⟩ := hp
      subst e9
      replace h := h g2 hp
      refine vr_aload_n 26 dX6_load_25 rfl rfl rfl ?_
      refine vr_aload_n 27 dX6_load_26 rfl rfl rfl ?_
      refine vr_geti 30 10 10 cl_X6 fl_X6_88 (by decide) rfl dX6_load_27 rfl s_40 rfl ?_
      refine vr_iconst 31 dX6_load_30 rfl ⟨by decide, by decide⟩ ?_
      obtain ⟨o3, h⟩ := h
      refine vr_isub 32 dX6_load_31 rfl o3 ?_
      obtain ⟨Q4, hq, h⟩ := h
      refine vr_callVv 35 [.inl ((g2 40 10) - 1)] 40 [] dX6_load_32 rfl mc_X6_103 dn_X6_findLoads rfl rfl s_40 rfl (Nat.le_of_ble_eq_true rfl) (vx_rmR (by decide)) ⟨rfl, rfl⟩ ⟨Nat.le_refl _, Nat.le_refl _⟩ (fun _ _ => trivial) (fun _ _ => trivial) hq (fun sh9 g4 hp _ => ?_)
      obtain ⟨e9, -, hp⟩ := hp
      subst e9
      replace h := h g4 hp
      refine vr_aload_n 36 dX6_load_35 rfl rfl rfl ?_
      refine vr_getr 39 17 cl_X6 fl_X6_54 (by decide) dX6_load_36 rfl s_40 rfl ?_
      refine vr_iload_n 40 dX6_load_39 rfl rfl rfl ?_
      obtain ⟨o5, h⟩ := h
      refine vr_iald 41 dX6_load_40 rfl s_53 o5.1 o5.2 ?_
      exact vr_iret rfl (Nat.le_refl _) (Nat.le_refl _) dX6_load_41 ⟨rfl, _, rfl, h⟩
    · replace h := h.2 c
      refine vr_bipush 20 dX6_load_18 rfl (by decide) ⟨by decide, by decide⟩ ?_
      exact vr_iret rfl (Nat.le_refl _) (Nat.le_refl _) dX6_load_20 ⟨rfl, _, rfl, h⟩
  · replace h := h.2 c
    refine vr_bipush 10 dX6_load_8 rfl (by decide) ⟨by decide, by decide⟩ ?_
    exact vr_iret rfl (Nat.le_refl _) (Nat.le_refl _) dX6_load_10 ⟨rfl, _, rfl, h⟩
theorem kX6_load {l : Launch} {d : Nat} {Q : Int → vx_M → Prop} (g : vx_M) (v1 : Int) (h : (∃ Q1 : Int → vx_M → Prop, vNi l mX6_isPlace d [.inr (some 40), .inl v1] SH g Q1 ∧ ∀ (r1 : Int) (g1 : vx_M), Q1 r1 g1 → ((¬ r1 = 0 → ((¬ (g1 40 14) = 0 → (∃ Q2 : vx_M → Prop, vNv l mX6_useHand d [.inr (some 40)] SH g1 Q2 ∧ ∀ g2 : vx_M, Q2 g2 → vx_in ((g2 40 10) - 1) ∧ (∃ Q4 : vx_M → Prop, vNv l mX6_findLoads d [.inr (some 40), .inl ((g2 40 10) - 1)] SH g2 Q4 ∧ ∀ g4 : vx_M, Q4 g4 → (0 ≤ v1 ∧ v1 < 12) ∧ Q (g4 53 v1) g4))) ∧ ((g1 40 14) = 0 → Q (-4) g1))) ∧ (r1 = 0 → Q (-2) g1)))) : vNi l mX6_load (d + 1) [.inr (some 40), .inl v1] SH g Q := vNi_of [some (.inr (some 40)), some (.inl v1)] pn_X6 (Nat.le_of_ble_eq_true rfl) rfl (tX6_load_0 g v1 h)
set_option maxRecDepth 100000 in
theorem tX6_swap_0 {l : Launch} {d : Nat} {Q : Int → vx_M → Prop} (g : vx_M) (v1 v2 : Int) (h : (∃ Q1 : Int → vx_M → Prop, vNi l mX6_isPlace d [.inr (some 40), .inl v1] SH g Q1 ∧ ∀ (r1 : Int) (g1 : vx_M), Q1 r1 g1 → ((r1 = 0 → Q (-2) g1) ∧ (¬ r1 = 0 → (∃ Q2 : Int → vx_M → Prop, vNi l mX6_isPlace d [.inr (some 40), .inl v2] SH g1 Q2 ∧ ∀ (r2 : Int) (g2 : vx_M), Q2 r2 g2 → ((¬ r2 = 0 → ((¬ (g2 40 14) = 0 → (∃ Q3 : vx_M → Prop, vNv l mX6_useHand d [.inr (some 40)] SH g2 Q3 ∧ ∀ g3 : vx_M, Q3 g3 → (0 ≤ v1 ∧ v1 < 12) ∧ (0 ≤ v2 ∧ v2 < 12) ∧ (0 ≤ v1 ∧ v1 < 12) ∧ (0 ≤ v2 ∧ v2 < 12) ∧ (∃ Q8 : Int → vx_M → Prop, vNi l mX6_fitsSo d [.inr (some 40)] SH (vx_u (vx_u g3 52 v1 (g3 52 v2)) 52 v2 (g3 52 v1)) Q8 ∧ ∀ (r8 : Int) (g8 : vx_M), Q8 r8 g8 → ((¬ r8 = (-1) → vN l mX6_swap (d + 1) (vx_pi SH Q) SH g8 73 [some (.inr (some 40)), some (.inl v1), some (.inl v2), some (.inl (g3 52 v1)), some (.inl 0)] []) ∧ (r8 = (-1) → Q (-4) g8))))) ∧ ((g2 40 14) = 0 → Q (-4) g2))) ∧ (r2 = 0 → Q (-2) g2))))))) : vN l mX6_swap (d + 1) (vx_pi SH Q) SH g 0 [some (.inr (some 40)), some (.inl v1), some (.inl v2), none, none] [] := by
  refine vr_aload_n 1 dX6_swap_0 rfl rfl rfl ?_
  refine vr_iload_n 2 dX6_swap_1 rfl rfl rfl ?_
  obtain ⟨Q1, hq, h⟩ := h
  refine vr_callVi 5 [.inl v1] 40 [] dX6_swap_2 rfl mc_X6_136 dn_X6_isPlace rfl rfl s_40 rfl (Nat.le_of_ble_eq_true rfl) (vx_rmR (by decide)) ⟨rfl, rfl⟩ ⟨Nat.le_refl _, Nat.le_refl _⟩ (fun _ _ => trivial) (fun _ _ => trivial) hq (fun r1 sh9 g1 hp _ _ => ?_)
  obtain ⟨e9, z9, e8, hp⟩ := hp
  subst e9
  cases e8
  replace h := h r1 g1 hp
  refine vr_if_eq 16 8 dX6_swap_5 rfl rfl (fun c => ?_) (fun c => ?_)
  · replace h := h.1 c
    refine vr_bipush 18 dX6_swap_16 rfl (by decide) ⟨by decide, by decide⟩ ?_
    exact vr_iret rfl (Nat.le_refl _) (Nat.le_refl _) dX6_swap_18 ⟨rfl, _, rfl, h⟩
  · replace h := h.2 c
    refine vr_aload_n 9 dX6_swap_8 rfl rfl rfl ?_
    refine vr_iload_n 10 dX6_swap_9 rfl rfl rfl ?_
    obtain ⟨Q2, hq, h⟩ := h
    refine vr_callVi 13 [.inl v2] 40 [] dX6_swap_10 rfl mc_X6_136 dn_X6_isPlace rfl rfl s_40 rfl (Nat.le_of_ble_eq_true rfl) (vx_rmR (by decide)) ⟨rfl, rfl⟩ ⟨Nat.le_refl _, Nat.le_refl _⟩ (fun _ _ => trivial) (fun _ _ => trivial) hq (fun r2 sh9 g2 hp _ _ => ?_)
    obtain ⟨e9, z9, e8, hp⟩ := hp
    subst e9
    cases e8
    replace h := h r2 g2 hp
    refine vr_if_ne 19 16 dX6_swap_13 rfl rfl (fun c => ?_) (fun c => ?_)
    · replace h := h.1 c
      refine vr_aload_n 20 dX6_swap_19 rfl rfl rfl ?_
      refine vr_geti 23 14 14 cl_X6 fl_X6_95 (by decide) rfl dX6_swap_20 rfl s_40 rfl ?_
      refine vr_if_ne 29 26 dX6_swap_23 rfl rfl (fun c => ?_) (fun c => ?_)
      · replace h := h.1 c
        refine vr_aload_n 30 dX6_swap_29 rfl rfl rfl ?_
        obtain ⟨Q3, hq, h⟩ := h
        refine vr_callVv 33 [] 40 [] dX6_swap_30 rfl mc_X6_139 dn_X6_useHand rfl rfl s_40 rfl (Nat.le_of_ble_eq_true rfl) (vx_rmR (by decide)) ⟨rfl, rfl⟩ ⟨Nat.le_refl _, Nat.le_refl _⟩ (fun _ _ => trivial) (fun _ _ => trivial) hq (fun sh9 g3 hp _ => ?_)
        obtain ⟨e9, -, hp⟩ := hp
        subst e9
        replace h := h g3 hp
        refine vr_aload_n 34 dX6_swap_33 rfl rfl rfl ?_
        refine vr_getr 37 16 cl_X6 fl_X6_51 (by decide) dX6_swap_34 rfl s_40 rfl ?_
        refine vr_iload_n 38 dX6_swap_37 rfl rfl rfl ?_
        obtain ⟨o4, h⟩ := h
        refine vr_iald 39 dX6_swap_38 rfl s_52 o4.1 o4.2 ?_
        refine vr_istore_n 40 [some (.inr (some 40)), some (.inl v1), some (.inl v2), some (.inl (g3 52 v1)), none] dX6_swap_39 rfl rfl (by decide) rfl ?_
        refine vr_aload_n 41 dX6_swap_40 rfl rfl rfl ?_
        refine vr_getr 44 16 cl_X6 fl_X6_51 (by decide) dX6_swap_41 rfl s_40 rfl ?_
        refine vr_iload_n 45 dX6_swap_44 rfl rfl rfl ?_
        refine vr_aload_n 46 dX6_swap_45 rfl rfl rfl ?_
        refine vr_getr 49 16 cl_X6 fl_X6_51 (by decide) dX6_swap_46 rfl s_40 rfl ?_
        refine vr_iload_n 50 dX6_swap_49 rfl rfl rfl ?_
        obtain ⟨o5, h⟩ := h
        refine vr_iald 51 dX6_swap_50 rfl s_52 o5.1 o5.2 ?_
        obtain ⟨o6, h⟩ := h
        refine vr_iast 52 dX6_swap_51 rfl s_52 o6.1 o6.2 ?_
        refine vr_aload_n 53 dX6_swap_52 rfl rfl rfl ?_
        refine vr_getr 56 16 cl_X6 fl_X6_51 (by decide) dX6_swap_53 rfl s_40 rfl ?_
        refine vr_iload_n 57 dX6_swap_56 rfl rfl rfl ?_
        refine vr_iload_n 58 dX6_swap_57 rfl rfl rfl ?_
        obtain ⟨o7, h⟩ := h
        refine vr_iast 59 dX6_swap_58 rfl s_52 o7.1 o7.2 ?_
        refine vr_aload_n 60 dX6_swap_59 rfl rfl rfl ?_
        obtain ⟨Q8, hq, h⟩ := h
        refine vr_callVi 63 [] 40 [] dX6_swap_60 rfl mc_X6_123 dn_X6_fitsSo rfl rfl s_40 rfl (Nat.le_of_ble_eq_true rfl) (vx_rmR (by decide)) ⟨rfl, rfl⟩ ⟨Nat.le_refl _, Nat.le_refl _⟩ (fun _ _ => trivial) (fun _ _ => trivial) hq (fun r8 sh9 g8 hp _ _ => ?_)
        obtain ⟨e9, z9, e8, hp⟩ := hp
        subst e9
        cases e8
        replace h := h r8 g8 hp
        refine vr_iconst 64 dX6_swap_63 rfl ⟨by decide, by decide⟩ ?_
        refine vr_icmp_ne 70 67 dX6_swap_64 rfl rfl (fun c => ?_) (fun c => ?_)
        · replace h := h.1 c
          refine vr_iconst 71 dX6_swap_70 rfl ⟨by decide, by decide⟩ ?_
          refine vr_istore 73 [some (.inr (some 40)), some (.inl v1), some (.inl v2), some (.inl (g3 52 v1)), some (.inl 0)] dX6_swap_71 rfl (by decide) rfl ?_
          exact h
        · replace h := h.2 c
          refine vr_bipush 69 dX6_swap_67 rfl (by decide) ⟨by decide, by decide⟩ ?_
          exact vr_iret rfl (Nat.le_refl _) (Nat.le_refl _) dX6_swap_69 ⟨rfl, _, rfl, h⟩
      · replace h := h.2 c
        refine vr_bipush 28 dX6_swap_26 rfl (by decide) ⟨by decide, by decide⟩ ?_
        exact vr_iret rfl (Nat.le_refl _) (Nat.le_refl _) dX6_swap_28 ⟨rfl, _, rfl, h⟩
    · replace h := h.2 c
      refine vr_bipush 18 dX6_swap_16 rfl (by decide) ⟨by decide, by decide⟩ ?_
      exact vr_iret rfl (Nat.le_refl _) (Nat.le_refl _) dX6_swap_18 ⟨rfl, _, rfl, h⟩
theorem kX6_swap {l : Launch} {d : Nat} {Q : Int → vx_M → Prop} (g : vx_M) (v1 v2 : Int) (h : (∃ Q1 : Int → vx_M → Prop, vNi l mX6_isPlace d [.inr (some 40), .inl v1] SH g Q1 ∧ ∀ (r1 : Int) (g1 : vx_M), Q1 r1 g1 → ((r1 = 0 → Q (-2) g1) ∧ (¬ r1 = 0 → (∃ Q2 : Int → vx_M → Prop, vNi l mX6_isPlace d [.inr (some 40), .inl v2] SH g1 Q2 ∧ ∀ (r2 : Int) (g2 : vx_M), Q2 r2 g2 → ((¬ r2 = 0 → ((¬ (g2 40 14) = 0 → (∃ Q3 : vx_M → Prop, vNv l mX6_useHand d [.inr (some 40)] SH g2 Q3 ∧ ∀ g3 : vx_M, Q3 g3 → (0 ≤ v1 ∧ v1 < 12) ∧ (0 ≤ v2 ∧ v2 < 12) ∧ (0 ≤ v1 ∧ v1 < 12) ∧ (0 ≤ v2 ∧ v2 < 12) ∧ (∃ Q8 : Int → vx_M → Prop, vNi l mX6_fitsSo d [.inr (some 40)] SH (vx_u (vx_u g3 52 v1 (g3 52 v2)) 52 v2 (g3 52 v1)) Q8 ∧ ∀ (r8 : Int) (g8 : vx_M), Q8 r8 g8 → ((¬ r8 = (-1) → vN l mX6_swap (d + 1) (vx_pi SH Q) SH g8 73 [some (.inr (some 40)), some (.inl v1), some (.inl v2), some (.inl (g3 52 v1)), some (.inl 0)] []) ∧ (r8 = (-1) → Q (-4) g8))))) ∧ ((g2 40 14) = 0 → Q (-4) g2))) ∧ (r2 = 0 → Q (-2) g2))))))) : vNi l mX6_swap (d + 1) [.inr (some 40), .inl v1, .inl v2] SH g Q := vNi_of [some (.inr (some 40)), some (.inl v1), some (.inl v2), none, none] pn_X6 (Nat.le_of_ble_eq_true rfl) rfl (tX6_swap_0 g v1 v2 h)
set_option maxRecDepth 100000 in
theorem tX6_swap_73 {l : Launch} {d : Nat} {Q : Int → vx_M → Prop} (g : vx_M) (v1 v2 v3 v4 : Int) (h : (((g 40 10) ≤ v4 → Q 1 g) ∧ (¬ (g 40 10) ≤ v4 → (0 ≤ v4 ∧ v4 < 12) ∧ (0 ≤ v4 ∧ v4 < 12) ∧ vx_in (v4 + 1) ∧ vN l mX6_swap (d + 1) (vx_pi SH Q) SH (vx_u g 51 v4 (g 52 v4)) 73 [some (.inr (some 40)), some (.inl v1), some (.inl v2), some (.inl v3), some (.inl (v4 + 1))] []))) : vN l mX6_swap (d + 1) (vx_pi SH Q) SH g 73 [some (.inr (some 40)), some (.inl v1), some (.inl v2), some (.inl v3), some (.inl v4)] [] := by
  refine vr_iload 75 dX6_swap_73 rfl rfl ?_
  refine vr_aload_n 76 dX6_swap_75 rfl rfl rfl ?_
  refine vr_geti 79 10 10 cl_X6 fl_X6_88 (by decide) rfl dX6_swap_76 rfl s_40 rfl ?_
  refine vr_icmp_ge 102 82 dX6_swap_79 rfl rfl (fun c => ?_) (fun c => ?_)
  · replace h := h.1 c
    refine vr_iconst 103 dX6_swap_102 rfl ⟨by decide, by decide⟩ ?_
    exact vr_iret rfl (Nat.le_refl _) (Nat.le_refl _) dX6_swap_103 ⟨rfl, _, rfl, h⟩
  · replace h := h.2 c
    refine vr_aload_n 83 dX6_swap_82 rfl rfl rfl ?_
    refine vr_getr 86 15 cl_X6 fl_X6_48 (by decide) dX6_swap_83 rfl s_40 rfl ?_
    refine vr_iload 88 dX6_swap_86 rfl rfl ?_
    refine vr_aload_n 89 dX6_swap_88 rfl rfl rfl ?_
    refine vr_getr 92 16 cl_X6 fl_X6_51 (by decide) dX6_swap_89 rfl s_40 rfl ?_
    refine vr_iload 94 dX6_swap_92 rfl rfl ?_
    obtain ⟨o1, h⟩ := h
    refine vr_iald 95 dX6_swap_94 rfl s_52 o1.1 o1.2 ?_
    obtain ⟨o2, h⟩ := h
    refine vr_iast 96 dX6_swap_95 rfl s_51 o2.1 o2.2 ?_
    obtain ⟨o3, h⟩ := h
    refine vr_iinc 99 [some (.inr (some 40)), some (.inl v1), some (.inl v2), some (.inl v3), some (.inl (v4 + 1))] dX6_swap_96 rfl rfl o3 (by decide) rfl ?_
    refine vr_goto 73 dX6_swap_99 rfl ?_
    exact h
set_option maxRecDepth 100000 in
theorem tX6_findTimes_0 {l : Launch} {d : Nat} {Q : Int → vx_M → Prop} (g : vx_M) (h : vN l mX6_findTimes d (vx_pi SH Q) SH g 4 [some (.inr (some 40)), some (.inl 0), some (.inl 0), none] []) : vN l mX6_findTimes d (vx_pi SH Q) SH g 0 [some (.inr (some 40)), none, none, none] [] := by
  refine vr_iconst 1 dX6_findTimes_0 rfl ⟨by decide, by decide⟩ ?_
  refine vr_istore_n 2 [some (.inr (some 40)), some (.inl 0), none, none] dX6_findTimes_1 rfl rfl (by decide) rfl ?_
  refine vr_iconst 3 dX6_findTimes_2 rfl ⟨by decide, by decide⟩ ?_
  refine vr_istore_n 4 [some (.inr (some 40)), some (.inl 0), some (.inl 0), none] dX6_findTimes_3 rfl rfl (by decide) rfl ?_
  exact h
theorem kX6_findTimes {l : Launch} {d : Nat} {Q : Int → vx_M → Prop} (g : vx_M) (h : vN l mX6_findTimes d (vx_pi SH Q) SH g 4 [some (.inr (some 40)), some (.inl 0), some (.inl 0), none] []) : vNi l mX6_findTimes d [.inr (some 40)] SH g Q := vNi_of [some (.inr (some 40)), none, none, none] pn_X6 (Nat.le_of_ble_eq_true rfl) rfl (tX6_findTimes_0 g  h)
set_option maxRecDepth 100000 in
theorem tX6_findTimes_4 {l : Launch} {d : Nat} {Q : Int → vx_M → Prop} (g : vx_M) (v1 v2 : Int) (h : (((g 40 10) ≤ v2 → vx_in ((g 40 10) - 1) ∧ vN l mX6_findTimes d (vx_pi SH Q) SH g 45 [some (.inr (some 40)), some (.inl v1), some (.inl v1), some (.inl ((g 40 10) - 1))] []) ∧ (¬ (g 40 10) ≤ v2 → (0 ≤ v2 ∧ v2 < 12) ∧ vx_in (2 + (g 48 v2)) ∧ vx_in (v1 + (2 + (g 48 v2))) ∧ (0 ≤ v2 ∧ v2 < 12) ∧ vx_in (v2 + 1) ∧ vN l mX6_findTimes d (vx_pi SH Q) SH (vx_u g 56 v2 (v1 + (2 + (g 48 v2)))) 4 [some (.inr (some 40)), some (.inl (v1 + (2 + (g 48 v2)))), some (.inl (v2 + 1)), none] []))) : vN l mX6_findTimes d (vx_pi SH Q) SH g 4 [some (.inr (some 40)), some (.inl v1), some (.inl v2), none] [] := by
  refine vr_iload_n 5 dX6_findTimes_4 rfl rfl rfl ?_
  refine vr_aload_n 6 dX6_findTimes_5 rfl rfl rfl ?_
  refine vr_geti 9 10 10 cl_X6 fl_X6_88 (by decide) rfl dX6_findTimes_6 rfl s_40 rfl ?_
  refine vr_icmp_ge 36 12 dX6_findTimes_9 rfl rfl (fun c => ?_) (fun c => ?_)
  · replace h := h.1 c
    refine vr_iload_n 37 dX6_findTimes_36 rfl rfl rfl ?_
    refine vr_istore_n 38 [some (.inr (some 40)), some (.inl v1), some (.inl v1), none] dX6_findTimes_37 rfl rfl (by decide) rfl ?_
    refine vr_aload_n 39 dX6_findTimes_38 rfl rfl rfl ?_
    refine vr_geti 42 10 10 cl_X6 fl_X6_88 (by decide) rfl dX6_findTimes_39 rfl s_40 rfl ?_
    refine vr_iconst 43 dX6_findTimes_42 rfl ⟨by decide, by decide⟩ ?_
    obtain ⟨o1, h⟩ := h
    refine vr_isub 44 dX6_findTimes_43 rfl o1 ?_
    refine vr_istore_n 45 [some (.inr (some 40)), some (.inl v1), some (.inl v1), some (.inl ((g 40 10) - 1))] dX6_findTimes_44 rfl rfl (by decide) rfl ?_
    exact h
  · replace h := h.2 c
    refine vr_iload_n 13 dX6_findTimes_12 rfl rfl rfl ?_
    refine vr_iconst 14 dX6_findTimes_13 rfl ⟨by decide, by decide⟩ ?_
    refine vr_aload_n 15 dX6_findTimes_14 rfl rfl rfl ?_
    refine vr_getr 18 11 cl_X6 fl_X6_39 (by decide) dX6_findTimes_15 rfl s_40 rfl ?_
    refine vr_iload_n 19 dX6_findTimes_18 rfl rfl rfl ?_
    obtain ⟨o2, h⟩ := h
    refine vr_iald 20 dX6_findTimes_19 rfl s_48 o2.1 o2.2 ?_
    obtain ⟨o3, h⟩ := h
    refine vr_iadd 21 dX6_findTimes_20 rfl o3 ?_
    obtain ⟨o4, h⟩ := h
    refine vr_iadd 22 dX6_findTimes_21 rfl o4 ?_
    refine vr_istore_n 23 [some (.inr (some 40)), some (.inl (v1 + (2 + (g 48 v2)))), some (.inl v2), none] dX6_findTimes_22 rfl rfl (by decide) rfl ?_
    refine vr_aload_n 24 dX6_findTimes_23 rfl rfl rfl ?_
    refine vr_getr 27 24 cl_X6 fl_X6_63 (by decide) dX6_findTimes_24 rfl s_40 rfl ?_
    refine vr_iload_n 28 dX6_findTimes_27 rfl rfl rfl ?_
    refine vr_iload_n 29 dX6_findTimes_28 rfl rfl rfl ?_
    obtain ⟨o5, h⟩ := h
    refine vr_iast 30 dX6_findTimes_29 rfl s_56 o5.1 o5.2 ?_
    obtain ⟨o6, h⟩ := h
    refine vr_iinc 33 [some (.inr (some 40)), some (.inl (v1 + (2 + (g 48 v2)))), some (.inl (v2 + 1)), none] dX6_findTimes_30 rfl rfl o6 (by decide) rfl ?_
    refine vr_goto 4 dX6_findTimes_33 rfl ?_
    exact h
set_option maxRecDepth 100000 in
theorem tX6_findTimes_45 {l : Launch} {d : Nat} {Q : Int → vx_M → Prop} (g : vx_M) (v1 v2 v3 : Int) (h : ((v3 < 0 → Q v2 g) ∧ (¬ v3 < 0 → (0 ≤ v3 ∧ v3 < 12) ∧ vx_in (2 + (g 48 v3)) ∧ vx_in (v1 + (2 + (g 48 v3))) ∧ (0 ≤ v3 ∧ v3 < 12) ∧ vx_in (v3 + (-1)) ∧ vN l mX6_findTimes d (vx_pi SH Q) SH (vx_u g 57 v3 (v1 + (2 + (g 48 v3)))) 45 [some (.inr (some 40)), some (.inl (v1 + (2 + (g 48 v3)))), some (.inl v2), some (.inl (v3 + (-1)))] []))) : vN l mX6_findTimes d (vx_pi SH Q) SH g 45 [some (.inr (some 40)), some (.inl v1), some (.inl v2), some (.inl v3)] [] := by
  refine vr_iload_n 46 dX6_findTimes_45 rfl rfl rfl ?_
  refine vr_if_lt 73 49 dX6_findTimes_46 rfl rfl (fun c => ?_) (fun c => ?_)
  · replace h := h.1 c
    refine vr_iload_n 74 dX6_findTimes_73 rfl rfl rfl ?_
    exact vr_iret rfl (Nat.le_refl _) (Nat.le_refl _) dX6_findTimes_74 ⟨rfl, _, rfl, h⟩
  · replace h := h.2 c
    refine vr_iload_n 50 dX6_findTimes_49 rfl rfl rfl ?_
    refine vr_iconst 51 dX6_findTimes_50 rfl ⟨by decide, by decide⟩ ?_
    refine vr_aload_n 52 dX6_findTimes_51 rfl rfl rfl ?_
    refine vr_getr 55 11 cl_X6 fl_X6_39 (by decide) dX6_findTimes_52 rfl s_40 rfl ?_
    refine vr_iload_n 56 dX6_findTimes_55 rfl rfl rfl ?_
    obtain ⟨o1, h⟩ := h
    refine vr_iald 57 dX6_findTimes_56 rfl s_48 o1.1 o1.2 ?_
    obtain ⟨o2, h⟩ := h
    refine vr_iadd 58 dX6_findTimes_57 rfl o2 ?_
    obtain ⟨o3, h⟩ := h
    refine vr_iadd 59 dX6_findTimes_58 rfl o3 ?_
    refine vr_istore_n 60 [some (.inr (some 40)), some (.inl (v1 + (2 + (g 48 v3)))), some (.inl v2), some (.inl v3)] dX6_findTimes_59 rfl rfl (by decide) rfl ?_
    refine vr_aload_n 61 dX6_findTimes_60 rfl rfl rfl ?_
    refine vr_getr 64 25 cl_X6 fl_X6_66 (by decide) dX6_findTimes_61 rfl s_40 rfl ?_
    refine vr_iload_n 65 dX6_findTimes_64 rfl rfl rfl ?_
    refine vr_iload_n 66 dX6_findTimes_65 rfl rfl rfl ?_
    obtain ⟨o4, h⟩ := h
    refine vr_iast 67 dX6_findTimes_66 rfl s_57 o4.1 o4.2 ?_
    obtain ⟨o5, h⟩ := h
    refine vr_iinc 70 [some (.inr (some 40)), some (.inl (v1 + (2 + (g 48 v3)))), some (.inl v2), some (.inl (v3 + (-1)))] dX6_findTimes_67 rfl rfl o5 (by decide) rfl ?_
    refine vr_goto 45 dX6_findTimes_70 rfl ?_
    exact h
set_option maxRecDepth 100000 in
theorem tX6_climb_0 {l : Launch} {d : Nat} {Q : Int → vx_M → Prop} (g : vx_M) (v1 : Int) (h : (∃ Q1 : Int → vx_M → Prop, vNi l mX6_findTimes d [.inr (some 40)] SH g Q1 ∧ ∀ (r1 : Int) (g1 : vx_M), Q1 r1 g1 → (∃ Q2 : vx_M → Prop, vNv l mX6_useHand d [.inr (some 40)] SH g1 Q2 ∧ ∀ g2 : vx_M, Q2 g2 → vN l mX6_climb (d + 1) (vx_pi SH Q) SH (vx_u (vx_u g2 40 27 (-1)) 40 28 (-1)) 21 [some (.inr (some 40)), some (.inl v1), some (.inl r1), some (.inl 0), none, none] []))) : vN l mX6_climb (d + 1) (vx_pi SH Q) SH g 0 [some (.inr (some 40)), some (.inl v1), none, none, none, none] [] := by
  refine vr_aload_n 1 dX6_climb_0 rfl rfl rfl ?_
  obtain ⟨Q1, hq, h⟩ := h
  refine vr_callVi 4 [] 40 [] dX6_climb_1 rfl mc_X6_142 dn_X6_findTimes rfl rfl s_40 rfl (Nat.le_of_ble_eq_true rfl) (vx_rmR (by decide)) ⟨rfl, rfl⟩ ⟨Nat.le_refl _, Nat.le_refl _⟩ (fun _ _ => trivial) (fun _ _ => trivial) hq (fun r1 sh9 g1 hp _ _ => ?_)
  obtain ⟨e9, z9, e8, hp⟩ := hp
  subst e9
  cases e8
  replace h := h r1 g1 hp
  refine vr_istore_n 5 [some (.inr (some 40)), some (.inl v1), some (.inl r1), none, none, none] dX6_climb_4 rfl rfl (by decide) rfl ?_
  refine vr_aload_n 6 dX6_climb_5 rfl rfl rfl ?_
  obtain ⟨Q2, hq, h⟩ := h
  refine vr_callVv 9 [] 40 [] dX6_climb_6 rfl mc_X6_139 dn_X6_useHand rfl rfl s_40 rfl (Nat.le_of_ble_eq_true rfl) (vx_rmR (by decide)) ⟨rfl, rfl⟩ ⟨Nat.le_refl _, Nat.le_refl _⟩ (fun _ _ => trivial) (fun _ _ => trivial) hq (fun sh9 g2 hp _ => ?_)
  obtain ⟨e9, -, hp⟩ := hp
  subst e9
  replace h := h g2 hp
  refine vr_aload_n 10 dX6_climb_9 rfl rfl rfl ?_
  refine vr_iconst 11 dX6_climb_10 rfl ⟨by decide, by decide⟩ ?_
  refine vr_puti 14 27 27 cl_X6 fl_X6_145 (by decide) rfl rfl rfl dX6_climb_11 rfl s_40 rfl ?_
  refine vr_aload_n 15 dX6_climb_14 rfl rfl rfl ?_
  refine vr_iconst 16 dX6_climb_15 rfl ⟨by decide, by decide⟩ ?_
  refine vr_puti 19 28 28 cl_X6 fl_X6_148 (by decide) rfl rfl rfl dX6_climb_16 rfl s_40 rfl ?_
  refine vr_iconst 20 dX6_climb_19 rfl ⟨by decide, by decide⟩ ?_
  refine vr_istore_n 21 [some (.inr (some 40)), some (.inl v1), some (.inl r1), some (.inl 0), none, none] dX6_climb_20 rfl rfl (by decide) rfl ?_
  exact h
theorem kX6_climb {l : Launch} {d : Nat} {Q : Int → vx_M → Prop} (g : vx_M) (v1 : Int) (h : (∃ Q1 : Int → vx_M → Prop, vNi l mX6_findTimes d [.inr (some 40)] SH g Q1 ∧ ∀ (r1 : Int) (g1 : vx_M), Q1 r1 g1 → (∃ Q2 : vx_M → Prop, vNv l mX6_useHand d [.inr (some 40)] SH g1 Q2 ∧ ∀ g2 : vx_M, Q2 g2 → vN l mX6_climb (d + 1) (vx_pi SH Q) SH (vx_u (vx_u g2 40 27 (-1)) 40 28 (-1)) 21 [some (.inr (some 40)), some (.inl v1), some (.inl r1), some (.inl 0), none, none] []))) : vNi l mX6_climb (d + 1) [.inr (some 40), .inl v1] SH g Q := vNi_of [some (.inr (some 40)), some (.inl v1), none, none, none, none] pn_X6 (Nat.le_of_ble_eq_true rfl) rfl (tX6_climb_0 g v1 h)
set_option maxRecDepth 100000 in
theorem tX6_climb_21 {l : Launch} {d : Nat} {Q : Int → vx_M → Prop} (g : vx_M) (v1 v2 v3 : Int) (h : (((g 40 10) ≤ v3 → vN l mX6_climb (d + 1) (vx_pi SH Q) SH g 44 [some (.inr (some 40)), some (.inl v1), some (.inl v2), some (.inl 1), none, none] []) ∧ (¬ (g 40 10) ≤ v3 → (0 ≤ v3 ∧ v3 < 12) ∧ vx_in (v3 + 1) ∧ vN l mX6_climb (d + 1) (vx_pi SH Q) SH (vx_u g 58 v3 0) 21 [some (.inr (some 40)), some (.inl v1), some (.inl v2), some (.inl (v3 + 1)), none, none] []))) : vN l mX6_climb (d + 1) (vx_pi SH Q) SH g 21 [some (.inr (some 40)), some (.inl v1), some (.inl v2), some (.inl v3), none, none] [] := by
  refine vr_iload_n 22 dX6_climb_21 rfl rfl rfl ?_
  refine vr_aload_n 23 dX6_climb_22 rfl rfl rfl ?_
  refine vr_geti 26 10 10 cl_X6 fl_X6_88 (by decide) rfl dX6_climb_23 rfl s_40 rfl ?_
  refine vr_icmp_ge 42 29 dX6_climb_26 rfl rfl (fun c => ?_) (fun c => ?_)
  · replace h := h.1 c
    refine vr_iconst 43 dX6_climb_42 rfl ⟨by decide, by decide⟩ ?_
    refine vr_istore_n 44 [some (.inr (some 40)), some (.inl v1), some (.inl v2), some (.inl 1), none, none] dX6_climb_43 rfl rfl (by decide) rfl ?_
    exact h
  · replace h := h.2 c
    refine vr_aload_n 30 dX6_climb_29 rfl rfl rfl ?_
    refine vr_getr 33 26 cl_X6 fl_X6_69 (by decide) dX6_climb_30 rfl s_40 rfl ?_
    refine vr_iload_n 34 dX6_climb_33 rfl rfl rfl ?_
    refine vr_iconst 35 dX6_climb_34 rfl ⟨by decide, by decide⟩ ?_
    obtain ⟨o1, h⟩ := h
    refine vr_iast 36 dX6_climb_35 rfl s_58 o1.1 o1.2 ?_
    obtain ⟨o2, h⟩ := h
    refine vr_iinc 39 [some (.inr (some 40)), some (.inl v1), some (.inl v2), some (.inl (v3 + 1)), none, none] dX6_climb_36 rfl rfl o2 (by decide) rfl ?_
    refine vr_goto 21 dX6_climb_39 rfl ?_
    exact h
set_option maxRecDepth 100000 in
theorem tX6_climb_44 {l : Launch} {d : Nat} {Q : Int → vx_M → Prop} (g : vx_M) (v1 v2 v3 : Int) (h : ((v1 < v3 → Q v2 g) ∧ (¬ v1 < v3 → vN l mX6_climb (d + 1) (vx_pi SH Q) SH g 55 [some (.inr (some 40)), some (.inl v1), some (.inl v2), some (.inl v3), some (.inl 0), some (.inl 0)] []))) : vN l mX6_climb (d + 1) (vx_pi SH Q) SH g 44 [some (.inr (some 40)), some (.inl v1), some (.inl v2), some (.inl v3), none, none] [] := by
  refine vr_iload_n 45 dX6_climb_44 rfl rfl rfl ?_
  refine vr_iload_n 46 dX6_climb_45 rfl rfl rfl ?_
  refine vr_icmp_gt 211 49 dX6_climb_46 rfl rfl (fun c => ?_) (fun c => ?_)
  · replace h := h.1 c
    refine vr_iload_n 212 dX6_climb_211 rfl rfl rfl ?_
    exact vr_iret rfl (Nat.le_refl _) (Nat.le_refl _) dX6_climb_212 ⟨rfl, _, rfl, h⟩
  · replace h := h.2 c
    refine vr_iconst 50 dX6_climb_49 rfl ⟨by decide, by decide⟩ ?_
    refine vr_istore 52 [some (.inr (some 40)), some (.inl v1), some (.inl v2), some (.inl v3), some (.inl 0), none] dX6_climb_50 rfl (by decide) rfl ?_
    refine vr_iconst 53 dX6_climb_52 rfl ⟨by decide, by decide⟩ ?_
    refine vr_istore 55 [some (.inr (some 40)), some (.inl v1), some (.inl v2), some (.inl v3), some (.inl 0), some (.inl 0)] dX6_climb_53 rfl (by decide) rfl ?_
    exact h
set_option maxRecDepth 100000 in
theorem tX6_climb_55 {l : Launch} {d : Nat} {Q : Int → vx_M → Prop} (g : vx_M) (v1 v2 v3 v4 v5 : Int) (h : (((g 40 10) ≤ v5 → vx_in (v4 - 1) ∧ (∃ Q2 : vx_M → Prop, vNv l mX6_findLoads d [.inr (some 40), .inl (v4 - 1)] SH g Q2 ∧ ∀ g2 : vx_M, Q2 g2 → vN l mX6_climb (d + 1) (vx_pi SH Q) SH g2 113 [some (.inr (some 40)), some (.inl v1), some (.inl v2), some (.inl v3), some (.inl v4), some (.inl 0)] [])) ∧ (¬ (g 40 10) ≤ v5 → (0 ≤ v5 ∧ v5 < 12) ∧ ((v3 ≤ (g 56 v5) → vx_in (v4 + 0) ∧ vx_in (v5 + 1) ∧ vN l mX6_climb (d + 1) (vx_pi SH Q) SH g 55 [some (.inr (some 40)), some (.inl v1), some (.inl v2), some (.inl v3), some (.inl (v4 + 0)), some (.inl (v5 + 1))] []) ∧ (¬ v3 ≤ (g 56 v5) → (0 ≤ v5 ∧ v5 < 12) ∧ (((g 57 v5) < v3 → vx_in (v4 + 0) ∧ vx_in (v5 + 1) ∧ vN l mX6_climb (d + 1) (vx_pi SH Q) SH g 55 [some (.inr (some 40)), some (.inl v1), some (.inl v2), some (.inl v3), some (.inl (v4 + 0)), some (.inl (v5 + 1))] []) ∧ (¬ (g 57 v5) < v3 → vx_in (v4 + 1) ∧ vx_in (v5 + 1) ∧ vN l mX6_climb (d + 1) (vx_pi SH Q) SH g 55 [some (.inr (some 40)), some (.inl v1), some (.inl v2), some (.inl v3), some (.inl (v4 + 1)), some (.inl (v5 + 1))] []))))))) : vN l mX6_climb (d + 1) (vx_pi SH Q) SH g 55 [some (.inr (some 40)), some (.inl v1), some (.inl v2), some (.inl v3), some (.inl v4), some (.inl v5)] [] := by
  refine vr_iload 57 dX6_climb_55 rfl rfl ?_
  refine vr_aload_n 58 dX6_climb_57 rfl rfl rfl ?_
  refine vr_geti 61 10 10 cl_X6 fl_X6_88 (by decide) rfl dX6_climb_58 rfl s_40 rfl ?_
  refine vr_icmp_ge 102 64 dX6_climb_61 rfl rfl (fun c => ?_) (fun c => ?_)
  · replace h := h.1 c
    refine vr_aload_n 103 dX6_climb_102 rfl rfl rfl ?_
    refine vr_iload 105 dX6_climb_103 rfl rfl ?_
    refine vr_iconst 106 dX6_climb_105 rfl ⟨by decide, by decide⟩ ?_
    obtain ⟨o1, h⟩ := h
    refine vr_isub 107 dX6_climb_106 rfl o1 ?_
    obtain ⟨Q2, hq, h⟩ := h
    refine vr_callVv 110 [.inl (v4 - 1)] 40 [] dX6_climb_107 rfl mc_X6_103 dn_X6_findLoads rfl rfl s_40 rfl (Nat.le_of_ble_eq_true rfl) (vx_rmR (by decide)) ⟨rfl, rfl⟩ ⟨Nat.le_refl _, Nat.le_refl _⟩ (fun _ _ => trivial) (fun _ _ => trivial) hq (fun sh9 g2 hp _ => ?_)
    obtain ⟨e9, -, hp⟩ := hp
    subst e9
    replace h := h g2 hp
    refine vr_iconst 111 dX6_climb_110 rfl ⟨by decide, by decide⟩ ?_
    refine vr_istore 113 [some (.inr (some 40)), some (.inl v1), some (.inl v2), some (.inl v3), some (.inl v4), some (.inl 0)] dX6_climb_111 rfl (by decide) rfl ?_
    exact h
  · replace h := h.2 c
    refine vr_iload 66 dX6_climb_64 rfl rfl ?_
    refine vr_aload_n 67 dX6_climb_66 rfl rfl rfl ?_
    refine vr_getr 70 24 cl_X6 fl_X6_63 (by decide) dX6_climb_67 rfl s_40 rfl ?_
    refine vr_iload 72 dX6_climb_70 rfl rfl ?_
    obtain ⟨o3, h⟩ := h
    refine vr_iald 73 dX6_climb_72 rfl s_56 o3.1 o3.2 ?_
    refine vr_iload_n 74 dX6_climb_73 rfl rfl rfl ?_
    refine vr_icmp_ge 92 77 dX6_climb_74 rfl rfl (fun c => ?_) (fun c => ?_)
    · replace h := h.1 c
      refine vr_iconst 93 dX6_climb_92 rfl ⟨by decide, by decide⟩ ?_
      obtain ⟨o4, h⟩ := h
      refine vr_iadd 94 dX6_climb_93 rfl o4 ?_
      refine vr_istore 96 [some (.inr (some 40)), some (.inl v1), some (.inl v2), some (.inl v3), some (.inl (v4 + 0)), some (.inl v5)] dX6_climb_94 rfl (by decide) rfl ?_
      obtain ⟨o5, h⟩ := h
      refine vr_iinc 99 [some (.inr (some 40)), some (.inl v1), some (.inl v2), some (.inl v3), some (.inl (v4 + 0)), some (.inl (v5 + 1))] dX6_climb_96 rfl rfl o5 (by decide) rfl ?_
      refine vr_goto 55 dX6_climb_99 rfl ?_
      exact h
    · replace h := h.2 c
      refine vr_aload_n 78 dX6_climb_77 rfl rfl rfl ?_
      refine vr_getr 81 25 cl_X6 fl_X6_66 (by decide) dX6_climb_78 rfl s_40 rfl ?_
      refine vr_iload 83 dX6_climb_81 rfl rfl ?_
      obtain ⟨o6, h⟩ := h
      refine vr_iald 84 dX6_climb_83 rfl s_57 o6.1 o6.2 ?_
      refine vr_iload_n 85 dX6_climb_84 rfl rfl rfl ?_
      refine vr_icmp_lt 92 88 dX6_climb_85 rfl rfl (fun c => ?_) (fun c => ?_)
      · replace h := h.1 c
        refine vr_iconst 93 dX6_climb_92 rfl ⟨by decide, by decide⟩ ?_
        obtain ⟨o7, h⟩ := h
        refine vr_iadd 94 dX6_climb_93 rfl o7 ?_
        refine vr_istore 96 [some (.inr (some 40)), some (.inl v1), some (.inl v2), some (.inl v3), some (.inl (v4 + 0)), some (.inl v5)] dX6_climb_94 rfl (by decide) rfl ?_
        obtain ⟨o8, h⟩ := h
        refine vr_iinc 99 [some (.inr (some 40)), some (.inl v1), some (.inl v2), some (.inl v3), some (.inl (v4 + 0)), some (.inl (v5 + 1))] dX6_climb_96 rfl rfl o8 (by decide) rfl ?_
        refine vr_goto 55 dX6_climb_99 rfl ?_
        exact h
      · replace h := h.2 c
        refine vr_iconst 89 dX6_climb_88 rfl ⟨by decide, by decide⟩ ?_
        refine vr_goto 93 dX6_climb_89 rfl ?_
        obtain ⟨o9, h⟩ := h
        refine vr_iadd 94 dX6_climb_93 rfl o9 ?_
        refine vr_istore 96 [some (.inr (some 40)), some (.inl v1), some (.inl v2), some (.inl v3), some (.inl (v4 + 1)), some (.inl v5)] dX6_climb_94 rfl (by decide) rfl ?_
        obtain ⟨o10, h⟩ := h
        refine vr_iinc 99 [some (.inr (some 40)), some (.inl v1), some (.inl v2), some (.inl v3), some (.inl (v4 + 1)), some (.inl (v5 + 1))] dX6_climb_96 rfl rfl o10 (by decide) rfl ?_
        refine vr_goto 55 dX6_climb_99 rfl ?_
        exact h
set_option maxRecDepth 100000 in
theorem tX6_climb_113 {l : Launch} {d : Nat} {Q : Int → vx_M → Prop} (g : vx_M) (v1 v2 v3 v4 v5 : Int) (h : ((v4 ≤ v5 → vN l mX6_climb (d + 1) (vx_pi SH Q) SH g 146 [some (.inr (some 40)), some (.inl v1), some (.inl v2), some (.inl v3), some (.inl v4), some (.inl 0)] []) ∧ (¬ v4 ≤ v5 → (0 ≤ v5 ∧ v5 < 12) ∧ (0 ≤ v5 ∧ v5 < 12) ∧ vx_in ((g 58 v5) + (g 53 v5)) ∧ (0 ≤ v5 ∧ v5 < 12) ∧ vx_in (v5 + 1) ∧ vN l mX6_climb (d + 1) (vx_pi SH Q) SH (vx_u g 58 v5 ((g 58 v5) + (g 53 v5))) 113 [some (.inr (some 40)), some (.inl v1), some (.inl v2), some (.inl v3), some (.inl v4), some (.inl (v5 + 1))] []))) : vN l mX6_climb (d + 1) (vx_pi SH Q) SH g 113 [some (.inr (some 40)), some (.inl v1), some (.inl v2), some (.inl v3), some (.inl v4), some (.inl v5)] [] := by
  refine vr_iload 115 dX6_climb_113 rfl rfl ?_
  refine vr_iload 117 dX6_climb_115 rfl rfl ?_
  refine vr_icmp_ge 143 120 dX6_climb_117 rfl rfl (fun c => ?_) (fun c => ?_)
  · replace h := h.1 c
    refine vr_iconst 144 dX6_climb_143 rfl ⟨by decide, by decide⟩ ?_
    refine vr_istore 146 [some (.inr (some 40)), some (.inl v1), some (.inl v2), some (.inl v3), some (.inl v4), some (.inl 0)] dX6_climb_144 rfl (by decide) rfl ?_
    exact h
  · replace h := h.2 c
    refine vr_aload_n 121 dX6_climb_120 rfl rfl rfl ?_
    refine vr_getr 124 26 cl_X6 fl_X6_69 (by decide) dX6_climb_121 rfl s_40 rfl ?_
    refine vr_iload 126 dX6_climb_124 rfl rfl ?_
    refine vr_dup2 127 dX6_climb_126 rfl ?_
    obtain ⟨o1, h⟩ := h
    refine vr_iald 128 dX6_climb_127 rfl s_58 o1.1 o1.2 ?_
    refine vr_aload_n 129 dX6_climb_128 rfl rfl rfl ?_
    refine vr_getr 132 17 cl_X6 fl_X6_54 (by decide) dX6_climb_129 rfl s_40 rfl ?_
    refine vr_iload 134 dX6_climb_132 rfl rfl ?_
    obtain ⟨o2, h⟩ := h
    refine vr_iald 135 dX6_climb_134 rfl s_53 o2.1 o2.2 ?_
    obtain ⟨o3, h⟩ := h
    refine vr_iadd 136 dX6_climb_135 rfl o3 ?_
    obtain ⟨o4, h⟩ := h
    refine vr_iast 137 dX6_climb_136 rfl s_58 o4.1 o4.2 ?_
    obtain ⟨o5, h⟩ := h
    refine vr_iinc 140 [some (.inr (some 40)), some (.inl v1), some (.inl v2), some (.inl v3), some (.inl v4), some (.inl (v5 + 1))] dX6_climb_137 rfl rfl o5 (by decide) rfl ?_
    refine vr_goto 113 dX6_climb_140 rfl ?_
    exact h
set_option maxRecDepth 100000 in
theorem tX6_climb_146 {l : Launch} {d : Nat} {Q : Int → vx_M → Prop} (g : vx_M) (v1 v2 v3 v4 v5 : Int) (h : (((g 40 10) ≤ v5 → vx_in (v3 + 1) ∧ vN l mX6_climb (d + 1) (vx_pi SH Q) SH g 44 [some (.inr (some 40)), some (.inl v1), some (.inl v2), some (.inl (v3 + 1)), none, none] []) ∧ (¬ (g 40 10) ≤ v5 → ((¬ (g 40 27) = (-1) → vx_in (v3 + 1) ∧ vN l mX6_climb (d + 1) (vx_pi SH Q) SH g 44 [some (.inr (some 40)), some (.inl v1), some (.inl v2), some (.inl (v3 + 1)), none, none] []) ∧ ((g 40 27) = (-1) → (0 ≤ v5 ∧ v5 < 12) ∧ (0 ≤ v5 ∧ v5 < 12) ∧ (0 ≤ g 52 v5 ∧ g 52 v5 < 8) ∧ vx_in (8 * (g 46 (g 52 v5))) ∧ (((g 58 v5) ≤ (8 * (g 46 (g 52 v5))) → vx_in (v5 + 1) ∧ vN l mX6_climb (d + 1) (vx_pi SH Q) SH g 146 [some (.inr (some 40)), some (.inl v1), some (.inl v2), some (.inl v3), some (.inl v4), some (.inl (v5 + 1))] []) ∧ (¬ (g 58 v5) ≤ (8 * (g 46 (g 52 v5))) → vx_in (v5 + 1) ∧ vN l mX6_climb (d + 1) (vx_pi SH Q) SH (vx_u (vx_u g 40 27 v3) 40 28 v5) 146 [some (.inr (some 40)), some (.inl v1), some (.inl v2), some (.inl v3), some (.inl v4), some (.inl (v5 + 1))] []))))))) : vN l mX6_climb (d + 1) (vx_pi SH Q) SH g 146 [some (.inr (some 40)), some (.inl v1), some (.inl v2), some (.inl v3), some (.inl v4), some (.inl v5)] [] := by
  refine vr_iload 148 dX6_climb_146 rfl rfl ?_
  refine vr_aload_n 149 dX6_climb_148 rfl rfl rfl ?_
  refine vr_geti 152 10 10 cl_X6 fl_X6_88 (by decide) rfl dX6_climb_149 rfl s_40 rfl ?_
  refine vr_icmp_ge 205 155 dX6_climb_152 rfl rfl (fun c => ?_) (fun c => ?_)
  · replace h := h.1 c
    obtain ⟨o1, h⟩ := h
    refine vr_iinc 208 [some (.inr (some 40)), some (.inl v1), some (.inl v2), some (.inl (v3 + 1)), some (.inl v4), some (.inl v5)] dX6_climb_205 rfl rfl o1 (by decide) rfl ?_
    refine vr_goto 44 dX6_climb_208 rfl ?_
    exact vr_forget [some (.inr (some 40)), some (.inl v1), some (.inl v2), some (.inl (v3 + 1)), none, none] (vx_sub.get _ _ ⟨rfl, ⟨rfl, ⟨rfl, ⟨rfl, trivial⟩⟩⟩⟩) h
  · replace h := h.2 c
    refine vr_aload_n 156 dX6_climb_155 rfl rfl rfl ?_
    refine vr_geti 159 27 27 cl_X6 fl_X6_145 (by decide) rfl dX6_climb_156 rfl s_40 rfl ?_
    refine vr_iconst 160 dX6_climb_159 rfl ⟨by decide, by decide⟩ ?_
    refine vr_icmp_ne 205 163 dX6_climb_160 rfl rfl (fun c => ?_) (fun c => ?_)
    · replace h := h.1 c
      obtain ⟨o2, h⟩ := h
      refine vr_iinc 208 [some (.inr (some 40)), some (.inl v1), some (.inl v2), some (.inl (v3 + 1)), some (.inl v4), some (.inl v5)] dX6_climb_205 rfl rfl o2 (by decide) rfl ?_
      refine vr_goto 44 dX6_climb_208 rfl ?_
      exact vr_forget [some (.inr (some 40)), some (.inl v1), some (.inl v2), some (.inl (v3 + 1)), none, none] (vx_sub.get _ _ ⟨rfl, ⟨rfl, ⟨rfl, ⟨rfl, trivial⟩⟩⟩⟩) h
    · replace h := h.2 c
      refine vr_aload_n 164 dX6_climb_163 rfl rfl rfl ?_
      refine vr_getr 167 26 cl_X6 fl_X6_69 (by decide) dX6_climb_164 rfl s_40 rfl ?_
      refine vr_iload 169 dX6_climb_167 rfl rfl ?_
      obtain ⟨o3, h⟩ := h
      refine vr_iald 170 dX6_climb_169 rfl s_58 o3.1 o3.2 ?_
      refine vr_bipush 172 dX6_climb_170 rfl (by decide) ⟨by decide, by decide⟩ ?_
      refine vr_aload_n 173 dX6_climb_172 rfl rfl rfl ?_
      refine vr_getr 176 7 cl_X6 fl_X6_29 (by decide) dX6_climb_173 rfl s_40 rfl ?_
      refine vr_aload_n 177 dX6_climb_176 rfl rfl rfl ?_
      refine vr_getr 180 16 cl_X6 fl_X6_51 (by decide) dX6_climb_177 rfl s_40 rfl ?_
      refine vr_iload 182 dX6_climb_180 rfl rfl ?_
      obtain ⟨o4, h⟩ := h
      refine vr_iald 183 dX6_climb_182 rfl s_52 o4.1 o4.2 ?_
      obtain ⟨o5, h⟩ := h
      refine vr_iald 184 dX6_climb_183 rfl s_46 o5.1 o5.2 ?_
      obtain ⟨o6, h⟩ := h
      refine vr_imul 185 dX6_climb_184 rfl o6 ?_
      refine vr_icmp_le 199 188 dX6_climb_185 rfl rfl (fun c => ?_) (fun c => ?_)
      · replace h := h.1 c
        obtain ⟨o7, h⟩ := h
        refine vr_iinc 202 [some (.inr (some 40)), some (.inl v1), some (.inl v2), some (.inl v3), some (.inl v4), some (.inl (v5 + 1))] dX6_climb_199 rfl rfl o7 (by decide) rfl ?_
        refine vr_goto 146 dX6_climb_202 rfl ?_
        exact h
      · replace h := h.2 c
        refine vr_aload_n 189 dX6_climb_188 rfl rfl rfl ?_
        refine vr_iload_n 190 dX6_climb_189 rfl rfl rfl ?_
        refine vr_puti 193 27 27 cl_X6 fl_X6_145 (by decide) rfl rfl rfl dX6_climb_190 rfl s_40 rfl ?_
        refine vr_aload_n 194 dX6_climb_193 rfl rfl rfl ?_
        refine vr_iload 196 dX6_climb_194 rfl rfl ?_
        refine vr_puti 199 28 28 cl_X6 fl_X6_148 (by decide) rfl rfl rfl dX6_climb_196 rfl s_40 rfl ?_
        obtain ⟨o8, h⟩ := h
        refine vr_iinc 202 [some (.inr (some 40)), some (.inl v1), some (.inl v2), some (.inl v3), some (.inl v4), some (.inl (v5 + 1))] dX6_climb_199 rfl rfl o8 (by decide) rfl ?_
        refine vr_goto 146 dX6_climb_202 rfl ?_
        exact h
set_option maxRecDepth 100000 in
theorem tX6_tick_0 {l : Launch} {d : Nat} {Q : Int → vx_M → Prop} (g : vx_M) (v1 : Int) (h : (∃ Q1 : Int → vx_M → Prop, vNi l mX6_in d [.inl v1, .inl 0, .inl 2] SH g Q1 ∧ ∀ (r1 : Int) (g1 : vx_M), Q1 r1 g1 → ((¬ r1 = 0 → ((¬ (g1 40 14) = 0 → (∃ Q2 : Int → vx_M → Prop, vNi l mX6_climb d [.inr (some 40), .inl 200] SH g1 Q2 ∧ ∀ (r2 : Int) (g2 : vx_M), Q2 r2 g2 → ((¬ v1 = 0 → ((¬ v1 = 1 → Q (g2 40 27) g2) ∧ (v1 = 1 → vx_in (2 * r2) ∧ Q (2 * r2) g2))) ∧ (v1 = 0 → Q r2 g2)))) ∧ ((g1 40 14) = 0 → Q (-4) g1))) ∧ (r1 = 0 → Q (-3) g1)))) : vN l mX6_tick (d + 1) (vx_pi SH Q) SH g 0 [some (.inr (some 40)), some (.inl v1), none] [] := by
  refine vr_iload_n 1 dX6_tick_0 rfl rfl rfl ?_
  refine vr_iconst 2 dX6_tick_1 rfl ⟨by decide, by decide⟩ ?_
  refine vr_iconst 3 dX6_tick_2 rfl ⟨by decide, by decide⟩ ?_
  obtain ⟨Q1, hq, h⟩ := h
  refine vr_callSi 6 [.inl v1, .inl 0, .inl 2] [] dX6_tick_3 rfl mc_X6_84 dn_X6_in rfl rfl (Nat.le_of_ble_eq_true rfl) (vx_rmR (by decide)) ⟨rfl, rfl⟩ ⟨Nat.le_refl _, Nat.le_refl _⟩ (fun _ _ => trivial) (fun _ _ => trivial) hq (fun r1 sh9 g1 hp _ _ => ?_)
  obtain ⟨e9, z9, e8, hp⟩ := hp
  subst e9
  cases e8
  replace h := h r1 g1 hp
  refine vr_if_ne 12 9 dX6_tick_6 rfl rfl (fun c => ?_) (fun c => ?_)
  · replace h := h.1 c
    refine vr_aload_n 13 dX6_tick_12 rfl rfl rfl ?_
    refine vr_geti 16 14 14 cl_X6 fl_X6_95 (by decide) rfl dX6_tick_13 rfl s_40 rfl ?_
    refine vr_if_ne 22 19 dX6_tick_16 rfl rfl (fun c => ?_) (fun c => ?_)
    · replace h := h.1 c
      refine vr_aload_n 23 dX6_tick_22 rfl rfl rfl ?_
      refine vr_sipush 26 dX6_tick_23 rfl (by decide) ⟨by decide, by decide⟩ ?_
      obtain ⟨Q2, hq, h⟩ := h
      refine vr_callVi 29 [.inl 200] 40 [] dX6_tick_26 rfl mc_X6_151 dn_X6_climb rfl rfl s_40 rfl (Nat.le_of_ble_eq_true rfl) (vx_rmR (by decide)) ⟨rfl, rfl⟩ ⟨Nat.le_refl _, Nat.le_refl _⟩ (fun _ _ => trivial) (fun _ _ => trivial) hq (fun r2 sh9 g2 hp _ _ => ?_)
      obtain ⟨e9, z9, e8, hp⟩ := hp
      subst e9
      cases e8
      replace h := h r2 g2 hp
      refine vr_istore_n 30 [some (.inr (some 40)), some (.inl v1), some (.inl r2)] dX6_tick_29 rfl rfl (by decide) rfl ?_
      refine vr_iload_n 31 dX6_tick_30 rfl rfl rfl ?_
      refine vr_if_ne 38 34 dX6_tick_31 rfl rfl (fun c => ?_) (fun c => ?_)
      · replace h := h.1 c
        refine vr_iload_n 39 dX6_tick_38 rfl rfl rfl ?_
        refine vr_iconst 40 dX6_tick_39 rfl ⟨by decide, by decide⟩ ?_
        refine vr_icmp_ne 49 43 dX6_tick_40 rfl rfl (fun c => ?_) (fun c => ?_)
        · replace h := h.1 c
          refine vr_aload_n 50 dX6_tick_49 rfl rfl rfl ?_
          refine vr_geti 53 27 27 cl_X6 fl_X6_145 (by decide) rfl dX6_tick_50 rfl s_40 rfl ?_
          exact vr_iret rfl (Nat.le_refl _) (Nat.le_refl _) dX6_tick_53 ⟨rfl, _, rfl, h⟩
        · replace h := h.2 c
          refine vr_iconst 44 dX6_tick_43 rfl ⟨by decide, by decide⟩ ?_
          refine vr_iload_n 45 dX6_tick_44 rfl rfl rfl ?_
          obtain ⟨o3, h⟩ := h
          refine vr_imul 46 dX6_tick_45 rfl o3 ?_
          refine vr_goto 53 dX6_tick_46 rfl ?_
          exact vr_iret rfl (Nat.le_refl _) (Nat.le_refl _) dX6_tick_53 ⟨rfl, _, rfl, h⟩
      · replace h := h.2 c
        refine vr_iload_n 35 dX6_tick_34 rfl rfl rfl ?_
        refine vr_goto 53 dX6_tick_35 rfl ?_
        exact vr_iret rfl (Nat.le_refl _) (Nat.le_refl _) dX6_tick_53 ⟨rfl, _, rfl, h⟩
    · replace h := h.2 c
      refine vr_bipush 21 dX6_tick_19 rfl (by decide) ⟨by decide, by decide⟩ ?_
      exact vr_iret rfl (Nat.le_refl _) (Nat.le_refl _) dX6_tick_21 ⟨rfl, _, rfl, h⟩
  · replace h := h.2 c
    refine vr_bipush 11 dX6_tick_9 rfl (by decide) ⟨by decide, by decide⟩ ?_
    exact vr_iret rfl (Nat.le_refl _) (Nat.le_refl _) dX6_tick_11 ⟨rfl, _, rfl, h⟩
theorem kX6_tick {l : Launch} {d : Nat} {Q : Int → vx_M → Prop} (g : vx_M) (v1 : Int) (h : (∃ Q1 : Int → vx_M → Prop, vNi l mX6_in d [.inl v1, .inl 0, .inl 2] SH g Q1 ∧ ∀ (r1 : Int) (g1 : vx_M), Q1 r1 g1 → ((¬ r1 = 0 → ((¬ (g1 40 14) = 0 → (∃ Q2 : Int → vx_M → Prop, vNi l mX6_climb d [.inr (some 40), .inl 200] SH g1 Q2 ∧ ∀ (r2 : Int) (g2 : vx_M), Q2 r2 g2 → ((¬ v1 = 0 → ((¬ v1 = 1 → Q (g2 40 27) g2) ∧ (v1 = 1 → vx_in (2 * r2) ∧ Q (2 * r2) g2))) ∧ (v1 = 0 → Q r2 g2)))) ∧ ((g1 40 14) = 0 → Q (-4) g1))) ∧ (r1 = 0 → Q (-3) g1)))) : vNi l mX6_tick (d + 1) [.inr (some 40), .inl v1] SH g Q := vNi_of [some (.inr (some 40)), some (.inl v1), none] pn_X6 (Nat.le_of_ble_eq_true rfl) rfl (tX6_tick_0 g v1 h)
set_option maxRecDepth 100000 in
theorem tX6_weak_0 {l : Launch} {d : Nat} {Q : Int → vx_M → Prop} (g : vx_M) (h : ((¬ (g 40 14) = 0 → (∃ Q1 : Int → vx_M → Prop, vNi l mX6_climb d [.inr (some 40), .inl 200] SH g Q1 ∧ ∀ (r1 : Int) (g1 : vx_M), Q1 r1 g1 → Q (g1 40 28) g1)) ∧ ((g 40 14) = 0 → Q (-4) g))) : vN l mX6_weak (d + 1) (vx_pi SH Q) SH g 0 [some (.inr (some 40))] [] := by
  refine vr_aload_n 1 dX6_weak_0 rfl rfl rfl ?_
  refine vr_geti 4 14 14 cl_X6 fl_X6_95 (by decide) rfl dX6_weak_1 rfl s_40 rfl ?_
  refine vr_if_ne 10 7 dX6_weak_4 rfl rfl (fun c => ?_) (fun c => ?_)
  · replace h := h.1 c
    refine vr_aload_n 11 dX6_weak_10 rfl rfl rfl ?_
    refine vr_sipush 14 dX6_weak_11 rfl (by decide) ⟨by decide, by decide⟩ ?_
    obtain ⟨Q1, hq, h⟩ := h
    refine vr_callVi 17 [.inl 200] 40 [] dX6_weak_14 rfl mc_X6_151 dn_X6_climb rfl rfl s_40 rfl (Nat.le_of_ble_eq_true rfl) (vx_rmR (by decide)) ⟨rfl, rfl⟩ ⟨Nat.le_refl _, Nat.le_refl _⟩ (fun _ _ => trivial) (fun _ _ => trivial) hq (fun r1 sh9 g1 hp _ _ => ?_)
    obtain ⟨e9, z9, e8, hp⟩ := hp
    subst e9
    cases e8
    replace h := h r1 g1 hp
    refine vr_pop 18 dX6_weak_17 rfl ?_
    refine vr_aload_n 19 dX6_weak_18 rfl rfl rfl ?_
    refine vr_geti 22 28 28 cl_X6 fl_X6_148 (by decide) rfl dX6_weak_19 rfl s_40 rfl ?_
    exact vr_iret rfl (Nat.le_refl _) (Nat.le_refl _) dX6_weak_22 ⟨rfl, _, rfl, h⟩
  · replace h := h.2 c
    refine vr_bipush 9 dX6_weak_7 rfl (by decide) ⟨by decide, by decide⟩ ?_
    exact vr_iret rfl (Nat.le_refl _) (Nat.le_refl _) dX6_weak_9 ⟨rfl, _, rfl, h⟩
theorem kX6_weak {l : Launch} {d : Nat} {Q : Int → vx_M → Prop} (g : vx_M) (h : ((¬ (g 40 14) = 0 → (∃ Q1 : Int → vx_M → Prop, vNi l mX6_climb d [.inr (some 40), .inl 200] SH g Q1 ∧ ∀ (r1 : Int) (g1 : vx_M), Q1 r1 g1 → Q (g1 40 28) g1)) ∧ ((g 40 14) = 0 → Q (-4) g))) : vNi l mX6_weak (d + 1) [.inr (some 40)] SH g Q := vNi_of [some (.inr (some 40))] pn_X6 (Nat.le_of_ble_eq_true rfl) rfl (tX6_weak_0 g  h)
set_option maxRecDepth 100000 in
theorem tX6_effort_0 {l : Launch} {d : Nat} {Q : Int → vx_M → Prop} (g : vx_M) (v1 v2 : Int) (h : (∃ Q1 : Int → vx_M → Prop, vNi l mX6_isPlace d [.inr (some 40), .inl v1] SH g Q1 ∧ ∀ (r1 : Int) (g1 : vx_M), Q1 r1 g1 → ((¬ r1 = 0 → (∃ Q2 : Int → vx_M → Prop, vNi l mX6_in d [.inl v2, .inl 0, .inl 200] SH g1 Q2 ∧ ∀ (r2 : Int) (g2 : vx_M), Q2 r2 g2 → ((¬ r2 = 0 → ((¬ (g2 40 14) = 0 → (∃ Q3 : Int → vx_M → Prop, vNi l mX6_climb d [.inr (some 40), .inl v2] SH g2 Q3 ∧ ∀ (r3 : Int) (g3 : vx_M), Q3 r3 g3 → (0 ≤ v1 ∧ v1 < 12) ∧ Q (g3 58 v1) g3)) ∧ ((g2 40 14) = 0 → Q (-4) g2))) ∧ (r2 = 0 → Q (-3) g2)))) ∧ (r1 = 0 → Q (-2) g1)))) : vN l mX6_effort (d + 1) (vx_pi SH Q) SH g 0 [some (.inr (some 40)), some (.inl v1), some (.inl v2)] [] := by
  refine vr_aload_n 1 dX6_effort_0 rfl rfl rfl ?_
  refine vr_iload_n 2 dX6_effort_1 rfl rfl rfl ?_
  obtain ⟨Q1, hq, h⟩ := h
  refine vr_callVi 5 [.inl v1] 40 [] dX6_effort_2 rfl mc_X6_136 dn_X6_isPlace rfl rfl s_40 rfl (Nat.le_of_ble_eq_true rfl) (vx_rmR (by decide)) ⟨rfl, rfl⟩ ⟨Nat.le_refl _, Nat.le_refl _⟩ (fun _ _ => trivial) (fun _ _ => trivial) hq (fun r1 sh9 g1 hp _ _ => ?_)
  obtain ⟨e9, z9, e8, hp⟩ := hp
  subst e9
  cases e8
  replace h := h r1 g1 hp
  refine vr_if_ne 11 8 dX6_effort_5 rfl rfl (fun c => ?_) (fun c => ?_)
  · replace h := h.1 c
    refine vr_iload_n 12 dX6_effort_11 rfl rfl rfl ?_
    refine vr_iconst 13 dX6_effort_12 rfl ⟨by decide, by decide⟩ ?_
    refine vr_sipush 16 dX6_effort_13 rfl (by decide) ⟨by decide, by decide⟩ ?_
    obtain ⟨Q2, hq, h⟩ := h
    refine vr_callSi 19 [.inl v2, .inl 0, .inl 200] [] dX6_effort_16 rfl mc_X6_84 dn_X6_in rfl rfl (Nat.le_of_ble_eq_true rfl) (vx_rmR (by decide)) ⟨rfl, rfl⟩ ⟨Nat.le_refl _, Nat.le_refl _⟩ (fun _ _ => trivial) (fun _ _ => trivial) hq (fun r2 sh9 g2 hp _ _ => ?_)
    obtain ⟨e9, z9, e8, hp⟩ := hp
    subst e9
    cases e8
    replace h := h r2 g2 hp
    refine vr_if_ne 25 22 dX6_effort_19 rfl rfl (fun c => ?_) (fun c => ?_)
    · replace h := h.1 c
      refine vr_aload_n 26 dX6_effort_25 rfl rfl rfl ?_
      refine vr_geti 29 14 14 cl_X6 fl_X6_95 (by decide) rfl dX6_effort_26 rfl s_40 rfl ?_
      refine vr_if_ne 35 32 dX6_effort_29 rfl rfl (fun c => ?_) (fun c => ?_)
      · replace h := h.1 c
        refine vr_aload_n 36 dX6_effort_35 rfl rfl rfl ?_
        refine vr_iload_n 37 dX6_effort_36 rfl rfl rfl ?_
        obtain ⟨Q3, hq, h⟩ := h
        refine vr_callVi 40 [.inl v2] 40 [] dX6_effort_37 rfl mc_X6_151 dn_X6_climb rfl rfl s_40 rfl (Nat.le_of_ble_eq_true rfl) (vx_rmR (by decide)) ⟨rfl, rfl⟩ ⟨Nat.le_refl _, Nat.le_refl _⟩ (fun _ _ => trivial) (fun _ _ => trivial) hq (fun r3 sh9 g3 hp _ _ => ?_)
        obtain ⟨e9, z9, e8, hp⟩ := hp
        subst e9
        cases e8
        replace h := h r3 g3 hp
        refine vr_pop 41 dX6_effort_40 rfl ?_
        refine vr_aload_n 42 dX6_effort_41 rfl rfl rfl ?_
        refine vr_getr 45 26 cl_X6 fl_X6_69 (by decide) dX6_effort_42 rfl s_40 rfl ?_
        refine vr_iload_n 46 dX6_effort_45 rfl rfl rfl ?_
        obtain ⟨o4, h⟩ := h
        refine vr_iald 47 dX6_effort_46 rfl s_58 o4.1 o4.2 ?_
        exact vr_iret rfl (Nat.le_refl _) (Nat.le_refl _) dX6_effort_47 ⟨rfl, _, rfl, h⟩
      · replace h := h.2 c
        refine vr_bipush 34 dX6_effort_32 rfl (by decide) ⟨by decide, by decide⟩ ?_
        exact vr_iret rfl (Nat.le_refl _) (Nat.le_refl _) dX6_effort_34 ⟨rfl, _, rfl, h⟩
    · replace h := h.2 c
      refine vr_bipush 24 dX6_effort_22 rfl (by decide) ⟨by decide, by decide⟩ ?_
      exact vr_iret rfl (Nat.le_refl _) (Nat.le_refl _) dX6_effort_24 ⟨rfl, _, rfl, h⟩
  · replace h := h.2 c
    refine vr_bipush 10 dX6_effort_8 rfl (by decide) ⟨by decide, by decide⟩ ?_
    exact vr_iret rfl (Nat.le_refl _) (Nat.le_refl _) dX6_effort_10 ⟨rfl, _, rfl, h⟩
theorem kX6_effort {l : Launch} {d : Nat} {Q : Int → vx_M → Prop} (g : vx_M) (v1 v2 : Int) (h : (∃ Q1 : Int → vx_M → Prop, vNi l mX6_isPlace d [.inr (some 40), .inl v1] SH g Q1 ∧ ∀ (r1 : Int) (g1 : vx_M), Q1 r1 g1 → ((¬ r1 = 0 → (∃ Q2 : Int → vx_M → Prop, vNi l mX6_in d [.inl v2, .inl 0, .inl 200] SH g1 Q2 ∧ ∀ (r2 : Int) (g2 : vx_M), Q2 r2 g2 → ((¬ r2 = 0 → ((¬ (g2 40 14) = 0 → (∃ Q3 : Int → vx_M → Prop, vNi l mX6_climb d [.inr (some 40), .inl v2] SH g2 Q3 ∧ ∀ (r3 : Int) (g3 : vx_M), Q3 r3 g3 → (0 ≤ v1 ∧ v1 < 12) ∧ Q (g3 58 v1) g3)) ∧ ((g2 40 14) = 0 → Q (-4) g2))) ∧ (r2 = 0 → Q (-3) g2)))) ∧ (r1 = 0 → Q (-2) g1)))) : vNi l mX6_effort (d + 1) [.inr (some 40), .inl v1, .inl v2] SH g Q := vNi_of [some (.inr (some 40)), some (.inl v1), some (.inl v2)] pn_X6 (Nat.le_of_ble_eq_true rfl) rfl (tX6_effort_0 g v1 v2 h)
set_option maxRecDepth 100000 in
theorem tX6_worths_0 {l : Launch} {d : Nat} {Q : Int → vx_M → Prop} (g : vx_M) (v1 v2 : Int) (h : (∃ Q1 : Int → vx_M → Prop, vNi l mX6_in d [.inl v1, .inl 0, .inl 1000] SH g Q1 ∧ ∀ (r1 : Int) (g1 : vx_M), Q1 r1 g1 → ((r1 = 0 → Q (-3) g1) ∧ (¬ r1 = 0 → (∃ Q2 : Int → vx_M → Prop, vNi l mX6_in d [.inl v2, .inl 0, .inl 1000] SH g1 Q2 ∧ ∀ (r2 : Int) (g2 : vx_M), Q2 r2 g2 → ((¬ r2 = 0 → Q 1 (vx_u (vx_u g2 40 29 v1) 40 30 v2)) ∧ (r2 = 0 → Q (-3) g2))))))) : vN l mX6_worths (d + 1) (vx_pi SH Q) SH g 0 [some (.inr (some 40)), some (.inl v1), some (.inl v2)] [] := by
  refine vr_iload_n 1 dX6_worths_0 rfl rfl rfl ?_
  refine vr_iconst 2 dX6_worths_1 rfl ⟨by decide, by decide⟩ ?_
  refine vr_sipush 5 dX6_worths_2 rfl (by decide) ⟨by decide, by decide⟩ ?_
  obtain ⟨Q1, hq, h⟩ := h
  refine vr_callSi 8 [.inl v1, .inl 0, .inl 1000] [] dX6_worths_5 rfl mc_X6_84 dn_X6_in rfl rfl (Nat.le_of_ble_eq_true rfl) (vx_rmR (by decide)) ⟨rfl, rfl⟩ ⟨Nat.le_refl _, Nat.le_refl _⟩ (fun _ _ => trivial) (fun _ _ => trivial) hq (fun r1 sh9 g1 hp _ _ => ?_)
  obtain ⟨e9, z9, e8, hp⟩ := hp
  subst e9
  cases e8
  replace h := h r1 g1 hp
  refine vr_if_eq 22 11 dX6_worths_8 rfl rfl (fun c => ?_) (fun c => ?_)
  · replace h := h.1 c
    refine vr_bipush 24 dX6_worths_22 rfl (by decide) ⟨by decide, by decide⟩ ?_
    exact vr_iret rfl (Nat.le_refl _) (Nat.le_refl _) dX6_worths_24 ⟨rfl, _, rfl, h⟩
  · replace h := h.2 c
    refine vr_iload_n 12 dX6_worths_11 rfl rfl rfl ?_
    refine vr_iconst 13 dX6_worths_12 rfl ⟨by decide, by decide⟩ ?_
    refine vr_sipush 16 dX6_worths_13 rfl (by decide) ⟨by decide, by decide⟩ ?_
    obtain ⟨Q2, hq, h⟩ := h
    refine vr_callSi 19 [.inl v2, .inl 0, .inl 1000] [] dX6_worths_16 rfl mc_X6_84 dn_X6_in rfl rfl (Nat.le_of_ble_eq_true rfl) (vx_rmR (by decide)) ⟨rfl, rfl⟩ ⟨Nat.le_refl _, Nat.le_refl _⟩ (fun _ _ => trivial) (fun _ _ => trivial) hq (fun r2 sh9 g2 hp _ _ => ?_)
    obtain ⟨e9, z9, e8, hp⟩ := hp
    subst e9
    cases e8
    replace h := h r2 g2 hp
    refine vr_if_ne 25 22 dX6_worths_19 rfl rfl (fun c => ?_) (fun c => ?_)
    · replace h := h.1 c
      refine vr_aload_n 26 dX6_worths_25 rfl rfl rfl ?_
      refine vr_iload_n 27 dX6_worths_26 rfl rfl rfl ?_
      refine vr_puti 30 29 29 cl_X6 fl_X6_72 (by decide) rfl rfl rfl dX6_worths_27 rfl s_40 rfl ?_
      refine vr_aload_n 31 dX6_worths_30 rfl rfl rfl ?_
      refine vr_iload_n 32 dX6_worths_31 rfl rfl rfl ?_
      refine vr_puti 35 30 30 cl_X6 fl_X6_75 (by decide) rfl rfl rfl dX6_worths_32 rfl s_40 rfl ?_
      refine vr_iconst 36 dX6_worths_35 rfl ⟨by decide, by decide⟩ ?_
      exact vr_iret rfl (Nat.le_refl _) (Nat.le_refl _) dX6_worths_36 ⟨rfl, _, rfl, h⟩
    · replace h := h.2 c
      refine vr_bipush 24 dX6_worths_22 rfl (by decide) ⟨by decide, by decide⟩ ?_
      exact vr_iret rfl (Nat.le_refl _) (Nat.le_refl _) dX6_worths_24 ⟨rfl, _, rfl, h⟩
theorem kX6_worths {l : Launch} {d : Nat} {Q : Int → vx_M → Prop} (g : vx_M) (v1 v2 : Int) (h : (∃ Q1 : Int → vx_M → Prop, vNi l mX6_in d [.inl v1, .inl 0, .inl 1000] SH g Q1 ∧ ∀ (r1 : Int) (g1 : vx_M), Q1 r1 g1 → ((r1 = 0 → Q (-3) g1) ∧ (¬ r1 = 0 → (∃ Q2 : Int → vx_M → Prop, vNi l mX6_in d [.inl v2, .inl 0, .inl 1000] SH g1 Q2 ∧ ∀ (r2 : Int) (g2 : vx_M), Q2 r2 g2 → ((¬ r2 = 0 → Q 1 (vx_u (vx_u g2 40 29 v1) 40 30 v2)) ∧ (r2 = 0 → Q (-3) g2))))))) : vNi l mX6_worths (d + 1) [.inr (some 40), .inl v1, .inl v2] SH g Q := vNi_of [some (.inr (some 40)), some (.inl v1), some (.inl v2)] pn_X6 (Nat.le_of_ble_eq_true rfl) rfl (tX6_worths_0 g v1 v2 h)
set_option maxRecDepth 100000 in
theorem tX6_attempt_0 {l : Launch} {d : Nat} {Q : Int → vx_M → Prop} (g : vx_M) (h : ((¬ (g 40 14) = 0 → (∃ Q1 : Int → vx_M → Prop, vNi l mX6_climb d [.inr (some 40), .inl 200] SH g Q1 ∧ ∀ (r1 : Int) (g1 : vx_M), Q1 r1 g1 → ((¬ (g1 40 27) = (-1) → (((g1 40 27) ≤ r1 → vN l mX6_attempt (d + 1) (vx_pi SH Q) SH g1 49 [some (.inr (some 40)), some (.inl r1), none] [.inl 0]) ∧ (¬ (g1 40 27) ≤ r1 → vN l mX6_attempt (d + 1) (vx_pi SH Q) SH g1 49 [some (.inr (some 40)), some (.inl r1), none] [.inl (g1 40 29)]))) ∧ ((g1 40 27) = (-1) → vN l mX6_attempt (d + 1) (vx_pi SH Q) SH g1 49 [some (.inr (some 40)), some (.inl r1), none] [.inl (g1 40 30)])))) ∧ ((g 40 14) = 0 → Q (-4) g))) : vN l mX6_attempt (d + 1) (vx_pi SH Q) SH g 0 [some (.inr (some 40)), none, none] [] := by
  refine vr_aload_n 1 dX6_attempt_0 rfl rfl rfl ?_
  refine vr_geti 4 14 14 cl_X6 fl_X6_95 (by decide) rfl dX6_attempt_1 rfl s_40 rfl ?_
  refine vr_if_ne 10 7 dX6_attempt_4 rfl rfl (fun c => ?_) (fun c => ?_)
  · replace h := h.1 c
    refine vr_aload_n 11 dX6_attempt_10 rfl rfl rfl ?_
    refine vr_sipush 14 dX6_attempt_11 rfl (by decide) ⟨by decide, by decide⟩ ?_
    obtain ⟨Q1, hq, h⟩ := h
    refine vr_callVi 17 [.inl 200] 40 [] dX6_attempt_14 rfl mc_X6_151 dn_X6_climb rfl rfl s_40 rfl (Nat.le_of_ble_eq_true rfl) (vx_rmR (by decide)) ⟨rfl, rfl⟩ ⟨Nat.le_refl _, Nat.le_refl _⟩ (fun _ _ => trivial) (fun _ _ => trivial) hq (fun r1 sh9 g1 hp _ _ => ?_)
    obtain ⟨e9, z9, e8, hp⟩ := hp
    subst e9
    cases e8
    replace h := h r1 g1 hp
    refine vr_istore_n 18 [some (.inr (some 40)), some (.inl r1), none] dX6_attempt_17 rfl rfl (by decide) rfl ?_
    refine vr_aload_n 19 dX6_attempt_18 rfl rfl rfl ?_
    refine vr_geti 22 27 27 cl_X6 fl_X6_145 (by decide) rfl dX6_attempt_19 rfl s_40 rfl ?_
    refine vr_iconst 23 dX6_attempt_22 rfl ⟨by decide, by decide⟩ ?_
    refine vr_icmp_ne 33 26 dX6_attempt_23 rfl rfl (fun c => ?_) (fun c => ?_)
    · replace h := h.1 c
      refine vr_aload_n 34 dX6_attempt_33 rfl rfl rfl ?_
      refine vr_geti 37 27 27 cl_X6 fl_X6_145 (by decide) rfl dX6_attempt_34 rfl s_40 rfl ?_
      refine vr_iload_n 38 dX6_attempt_37 rfl rfl rfl ?_
      refine vr_icmp_le 48 41 dX6_attempt_38 rfl rfl (fun c => ?_) (fun c => ?_)
      · replace h := h.1 c
        refine vr_iconst 49 dX6_attempt_48 rfl ⟨by decide, by decide⟩ ?_
        exact h
      · replace h := h.2 c
        refine vr_aload_n 42 dX6_attempt_41 rfl rfl rfl ?_
        refine vr_geti 45 29 29 cl_X6 fl_X6_72 (by decide) rfl dX6_attempt_42 rfl s_40 rfl ?_
        refine vr_goto 49 dX6_attempt_45 rfl ?_
        exact h
    · replace h := h.2 c
      refine vr_aload_n 27 dX6_attempt_26 rfl rfl rfl ?_
      refine vr_geti 30 30 30 cl_X6 fl_X6_75 (by decide) rfl dX6_attempt_27 rfl s_40 rfl ?_
      refine vr_goto 49 dX6_attempt_30 rfl ?_
      exact h
  · replace h := h.2 c
    refine vr_bipush 9 dX6_attempt_7 rfl (by decide) ⟨by decide, by decide⟩ ?_
    exact vr_iret rfl (Nat.le_refl _) (Nat.le_refl _) dX6_attempt_9 ⟨rfl, _, rfl, h⟩
theorem kX6_attempt {l : Launch} {d : Nat} {Q : Int → vx_M → Prop} (g : vx_M) (h : ((¬ (g 40 14) = 0 → (∃ Q1 : Int → vx_M → Prop, vNi l mX6_climb d [.inr (some 40), .inl 200] SH g Q1 ∧ ∀ (r1 : Int) (g1 : vx_M), Q1 r1 g1 → ((¬ (g1 40 27) = (-1) → (((g1 40 27) ≤ r1 → vN l mX6_attempt (d + 1) (vx_pi SH Q) SH g1 49 [some (.inr (some 40)), some (.inl r1), none] [.inl 0]) ∧ (¬ (g1 40 27) ≤ r1 → vN l mX6_attempt (d + 1) (vx_pi SH Q) SH g1 49 [some (.inr (some 40)), some (.inl r1), none] [.inl (g1 40 29)]))) ∧ ((g1 40 27) = (-1) → vN l mX6_attempt (d + 1) (vx_pi SH Q) SH g1 49 [some (.inr (some 40)), some (.inl r1), none] [.inl (g1 40 30)])))) ∧ ((g 40 14) = 0 → Q (-4) g))) : vNi l mX6_attempt (d + 1) [.inr (some 40)] SH g Q := vNi_of [some (.inr (some 40)), none, none] pn_X6 (Nat.le_of_ble_eq_true rfl) rfl (tX6_attempt_0 g  h)
set_option maxRecDepth 100000 in
theorem tX6_attempt_49 {l : Launch} {d : Nat} {Q : Int → vx_M → Prop} (g : vx_M) (v1 w0 : Int) (h : vx_in ((g 40 31) + w0) ∧ Q w0 (vx_u g 40 31 ((g 40 31) + w0))) : vN l mX6_attempt (d + 1) (vx_pi SH Q) SH g 49 [some (.inr (some 40)), some (.inl v1), none] [.inl w0] := by
  refine vr_istore_n 50 [some (.inr (some 40)), some (.inl v1), some (.inl w0)] dX6_attempt_49 rfl rfl (by decide) rfl ?_
  refine vr_aload_n 51 dX6_attempt_50 rfl rfl rfl ?_
  refine vr_dup 52 dX6_attempt_51 rfl ?_
  refine vr_geti 55 31 31 cl_X6 fl_X6_154 (by decide) rfl dX6_attempt_52 rfl s_40 rfl ?_
  refine vr_iload_n 56 dX6_attempt_55 rfl rfl rfl ?_
  obtain ⟨o1, h⟩ := h
  refine vr_iadd 57 dX6_attempt_56 rfl o1 ?_
  refine vr_puti 60 31 31 cl_X6 fl_X6_154 (by decide) rfl rfl rfl dX6_attempt_57 rfl s_40 rfl ?_
  refine vr_iload_n 61 dX6_attempt_60 rfl rfl rfl ?_
  exact vr_iret rfl (Nat.le_refl _) (Nat.le_refl _) dX6_attempt_61 ⟨rfl, _, rfl, h⟩
set_option maxRecDepth 100000 in
theorem tX6_count_0 {l : Launch} {d : Nat} {Q : Int → vx_M → Prop} (g : vx_M) (v1 : Int) (h : (((v1 < 0 ∨ 5 < v1) → Q (-3) g) ∧ (v1 = 0 → Q (g 40 0) g) ∧ (v1 = 1 → Q (g 40 10) g) ∧ (v1 = 2 → Q (g 40 2) g) ∧ (v1 = 3 → vN l mX6_count d (vx_pi SH Q) SH g 57 [some (.inr (some 40)), some (.inl v1), some (.inl 0), some (.inl 0)] []) ∧ (v1 = 4 → Q (g 40 31) g) ∧ (v1 = 5 → (((g 40 14) = 0 → Q 0 g) ∧ (¬ (g 40 14) = 0 → Q 1 g))))) : vN l mX6_count d (vx_pi SH Q) SH g 0 [some (.inr (some 40)), some (.inl v1), none, none] [] := by
  refine vr_iconst 1 dX6_count_0 rfl ⟨by decide, by decide⟩ ?_
  refine vr_istore_n 2 [some (.inr (some 40)), some (.inl v1), some (.inl 0), none] dX6_count_1 rfl rfl (by decide) rfl ?_
  refine vr_iload_n 3 dX6_count_2 rfl rfl rfl ?_
  by_cases q : v1 < 0 ∨ 5 < v1
  · replace h := h.1 q
    refine vr_tabOut 108 dX6_count_3 q rfl ?_
    refine vr_bipush 110 dX6_count_108 rfl (by decide) ⟨by decide, by decide⟩ ?_
    exact vr_iret rfl (Nat.le_refl _) (Nat.le_refl _) dX6_count_110 ⟨rfl, _, rfl, h⟩
  · replace h := h.2
    by_cases q0 : v1 = 0
    · replace h := h.1 q0
      refine vr_tabIn 40 dX6_count_3 (by omega) (by omega) (by rw [q0]; rfl) rfl ?_
      refine vr_aload_n 41 dX6_count_40 rfl rfl rfl ?_
      refine vr_geti 44 0 0 cl_X6 fl_X6_7 (by decide) rfl dX6_count_41 rfl s_40 rfl ?_
      exact vr_iret rfl (Nat.le_refl _) (Nat.le_refl _) dX6_count_44 ⟨rfl, _, rfl, h⟩
    replace h := h.2
    by_cases q1 : v1 = 1
    · replace h := h.1 q1
      refine vr_tabIn 45 dX6_count_3 (by omega) (by omega) (by rw [q1]; rfl) rfl ?_
      refine vr_aload_n 46 dX6_count_45 rfl rfl rfl ?_
      refine vr_geti 49 10 10 cl_X6 fl_X6_88 (by decide) rfl dX6_count_46 rfl s_40 rfl ?_
      exact vr_iret rfl (Nat.le_refl _) (Nat.le_refl _) dX6_count_49 ⟨rfl, _, rfl, h⟩
    replace h := h.2
    by_cases q2 : v1 = 2
    · replace h := h.1 q2
      refine vr_tabIn 50 dX6_count_3 (by omega) (by omega) (by rw [q2]; rfl) rfl ?_
      refine vr_aload_n 51 dX6_count_50 rfl rfl rfl ?_
      refine vr_geti 54 2 2 cl_X6 fl_X6_81 (by decide) rfl dX6_count_51 rfl s_40 rfl ?_
      exact vr_iret rfl (Nat.le_refl _) (Nat.le_refl _) dX6_count_54 ⟨rfl, _, rfl, h⟩
    replace h := h.2
    by_cases q3 : v1 = 3
    · replace h := h.1 q3
      refine vr_tabIn 55 dX6_count_3 (by omega) (by omega) (by rw [q3]; rfl) rfl ?_
      refine vr_iconst 56 dX6_count_55 rfl ⟨by decide, by decide⟩ ?_
      refine vr_istore_n 57 [some (.inr (some 40)), some (.inl v1), some (.inl 0), some (.inl 0)] dX6_count_56 rfl rfl (by decide) rfl ?_
      exact h
    replace h := h.2
    by_cases q4 : v1 = 4
    · replace h := h.1 q4
      refine vr_tabIn 90 dX6_count_3 (by omega) (by omega) (by rw [q4]; rfl) rfl ?_
      refine vr_aload_n 91 dX6_count_90 rfl rfl rfl ?_
      refine vr_geti 94 31 31 cl_X6 fl_X6_154 (by decide) rfl dX6_count_91 rfl s_40 rfl ?_
      exact vr_iret rfl (Nat.le_refl _) (Nat.le_refl _) dX6_count_94 ⟨rfl, _, rfl, h⟩
    replace h := h.2
    by_cases q5 : v1 = 5
    · replace h := h q5
      refine vr_tabIn 95 dX6_count_3 (by omega) (by omega) (by rw [q5]; rfl) rfl ?_
      refine vr_aload_n 96 dX6_count_95 rfl rfl rfl ?_
      refine vr_geti 99 14 14 cl_X6 fl_X6_95 (by decide) rfl dX6_count_96 rfl s_40 rfl ?_
      refine vr_if_eq 106 102 dX6_count_99 rfl rfl (fun c => ?_) (fun c => ?_)
      · replace h := h.1 c
        refine vr_iconst 107 dX6_count_106 rfl ⟨by decide, by decide⟩ ?_
        exact vr_iret rfl (Nat.le_refl _) (Nat.le_refl _) dX6_count_107 ⟨rfl, _, rfl, h⟩
      · replace h := h.2 c
        refine vr_iconst 103 dX6_count_102 rfl ⟨by decide, by decide⟩ ?_
        refine vr_goto 107 dX6_count_103 rfl ?_
        exact vr_iret rfl (Nat.le_refl _) (Nat.le_refl _) dX6_count_107 ⟨rfl, _, rfl, h⟩
    omega
theorem kX6_count {l : Launch} {d : Nat} {Q : Int → vx_M → Prop} (g : vx_M) (v1 : Int) (h : (((v1 < 0 ∨ 5 < v1) → Q (-3) g) ∧ (v1 = 0 → Q (g 40 0) g) ∧ (v1 = 1 → Q (g 40 10) g) ∧ (v1 = 2 → Q (g 40 2) g) ∧ (v1 = 3 → vN l mX6_count d (vx_pi SH Q) SH g 57 [some (.inr (some 40)), some (.inl v1), some (.inl 0), some (.inl 0)] []) ∧ (v1 = 4 → Q (g 40 31) g) ∧ (v1 = 5 → (((g 40 14) = 0 → Q 0 g) ∧ (¬ (g 40 14) = 0 → Q 1 g))))) : vNi l mX6_count d [.inr (some 40), .inl v1] SH g Q := vNi_of [some (.inr (some 40)), some (.inl v1), none, none] pn_X6 (Nat.le_of_ble_eq_true rfl) rfl (tX6_count_0 g v1 h)
set_option maxRecDepth 100000 in
theorem tX6_count_57 {l : Launch} {d : Nat} {Q : Int → vx_M → Prop} (g : vx_M) (v1 v2 v3 : Int) (h : (((g 40 2) ≤ v3 → Q v2 g) ∧ (¬ (g 40 2) ≤ v3 → (0 ≤ v3 ∧ v3 < 8) ∧ (((g 47 v3) = 0 → vx_in (v2 + 0) ∧ vx_in (v3 + 1) ∧ vN l mX6_count d (vx_pi SH Q) SH g 57 [some (.inr (some 40)), some (.inl v1), some (.inl (v2 + 0)), some (.inl (v3 + 1))] []) ∧ (¬ (g 47 v3) = 0 → vx_in (v2 + 1) ∧ vx_in (v3 + 1) ∧ vN l mX6_count d (vx_pi SH Q) SH g 57 [some (.inr (some 40)), some (.inl v1), some (.inl (v2 + 1)), some (.inl (v3 + 1))] []))))) : vN l mX6_count d (vx_pi SH Q) SH g 57 [some (.inr (some 40)), some (.inl v1), some (.inl v2), some (.inl v3)] [] := by
  refine vr_iload_n 58 dX6_count_57 rfl rfl rfl ?_
  refine vr_aload_n 59 dX6_count_58 rfl rfl rfl ?_
  refine vr_geti 62 2 2 cl_X6 fl_X6_81 (by decide) rfl dX6_count_59 rfl s_40 rfl ?_
  refine vr_icmp_ge 88 65 dX6_count_62 rfl rfl (fun c => ?_) (fun c => ?_)
  · replace h := h.1 c
    refine vr_iload_n 89 dX6_count_88 rfl rfl rfl ?_
    exact vr_iret rfl (Nat.le_refl _) (Nat.le_refl _) dX6_count_89 ⟨rfl, _, rfl, h⟩
  · replace h := h.2 c
    refine vr_iload_n 66 dX6_count_65 rfl rfl rfl ?_
    refine vr_aload_n 67 dX6_count_66 rfl rfl rfl ?_
    refine vr_getr 70 8 cl_X6 fl_X6_32 (by decide) dX6_count_67 rfl s_40 rfl ?_
    refine vr_iload_n 71 dX6_count_70 rfl rfl rfl ?_
    obtain ⟨o1, h⟩ := h
    refine vr_zald 72 dX6_count_71 rfl s_47 o1.1 o1.2 ?_
    refine vr_if_eq 79 75 dX6_count_72 rfl rfl (fun c => ?_) (fun c => ?_)
    · replace h := h.1 c
      refine vr_iconst 80 dX6_count_79 rfl ⟨by decide, by decide⟩ ?_
      obtain ⟨o2, h⟩ := h
      refine vr_iadd 81 dX6_count_80 rfl o2 ?_
      refine vr_istore_n 82 [some (.inr (some 40)), some (.inl v1), some (.inl (v2 + 0)), some (.inl v3)] dX6_count_81 rfl rfl (by decide) rfl ?_
      obtain ⟨o3, h⟩ := h
      refine vr_iinc 85 [some (.inr (some 40)), some (.inl v1), some (.inl (v2 + 0)), some (.inl (v3 + 1))] dX6_count_82 rfl rfl o3 (by decide) rfl ?_
      refine vr_goto 57 dX6_count_85 rfl ?_
      exact h
    · replace h := h.2 c
      refine vr_iconst 76 dX6_count_75 rfl ⟨by decide, by decide⟩ ?_
      refine vr_goto 80 dX6_count_76 rfl ?_
      obtain ⟨o4, h⟩ := h
      refine vr_iadd 81 dX6_count_80 rfl o4 ?_
      refine vr_istore_n 82 [some (.inr (some 40)), some (.inl v1), some (.inl (v2 + 1)), some (.inl v3)] dX6_count_81 rfl rfl (by decide) rfl ?_
      obtain ⟨o5, h⟩ := h
      refine vr_iinc 85 [some (.inr (some 40)), some (.inl v1), some (.inl (v2 + 1)), some (.inl (v3 + 1))] dX6_count_82 rfl rfl o5 (by decide) rfl ?_
      refine vr_goto 57 dX6_count_85 rfl ?_
      exact h
end
section
/-! THE PURE WORDS: the tower's tables out of four widths -/
abbrev WT : Type := Nat × Nat × Nat × Nat
def wq (W : WT) (s : Nat) : Nat := match s with
  | 0 => W.1
  | 1 => W.2.1
  | 2 => W.2.2.1
  | _ => W.2.2.2
def wok (W : WT) : Prop := ∀ s, 1 ≤ wq W s ∧ wq W s ≤ 3
def pF (W : WT) : Nat → Nat
  | 0 => 0
  | s + 1 => pF W s + wq W s
def pS (W : WT) (p : Nat) : Nat := if p < pF W 1 then 0 else if p < pF W 2 then 1 else if p < pF W 3 then 2 else 3
/-- the place on which p rests: e is 0 or 1 -/
def pO (W : WT) (p e : Nat) : Nat := pF W (pS W p - 1) + (p - pF W (pS W p) + e) % wq W (pS W p - 1)
def pHs (W : WT) : Nat → Nat → Nat → Nat
  | 0, _, _ => 0
  | s + 1, p, q => (if q = pO W p 0 then 4 else if q < pO W p 0 then pHs W s (pO W p 0) q / 2 else 0) + (if q = pO W p 1 then 4 else if q < pO W p 1 then pHs W s (pO W p 1) q / 2 else 0)
def pH (W : WT) (p q : Nat) : Nat := pHs W (pS W p) p q
theorem pF_mono {W : WT} {s t : Nat} (h : s ≤ t) : pF W s ≤ pF W t := by
  induction t with
  | zero => rw [show s = 0 by omega]; exact Nat.le_refl _
  | succ t ih =>
    by_cases e : s = t + 1
    · rw [e]; exact Nat.le_refl _
    · have := ih (by omega)
      show pF W s ≤ pF W t + wq W t
      omega
theorem pS_eq {W : WT} {s p : Nat} (hs : s ≤ 3) (h1 : pF W s ≤ p) (h2 : p < pF W (s + 1)) : pS W p = s := by
  have a1 := pF_mono (W := W) (s := 1) (t := 2) (by omega)
  have a2 := pF_mono (W := W) (s := 2) (t := 3) (by omega)
  unfold pS
  match s, hs with
  | 0, _ => rw [if_pos h2]
  | 1, _ => rw [if_neg (by omega), if_pos h2]
  | 2, _ => rw [if_neg (by omega), if_neg (by omega), if_pos h2]
  | 3, _ => rw [if_neg (by omega), if_neg (by omega), if_neg (by omega)]
theorem pS_in {W : WT} {p : Nat} (h : p < pF W 4) : pS W p ≤ 3 ∧ pF W (pS W p) ≤ p ∧ p < pF W (pS W p + 1) := by
  unfold pS
  by_cases h1 : p < pF W 1
  · rw [if_pos h1]; exact ⟨by omega, by show 0 ≤ p; omega, h1⟩
  · rw [if_neg h1]
    by_cases h2 : p < pF W 2
    · rw [if_pos h2]; exact ⟨by omega, by omega, h2⟩
    · rw [if_neg h2]
      by_cases h3 : p < pF W 3
      · rw [if_pos h3]; exact ⟨by omega, by omega, h3⟩
      · rw [if_neg h3]; exact ⟨by omega, by omega, h⟩
theorem pO_in {W : WT} (hw : wok W) {p e : Nat} (h : p < pF W 4) (h1 : 1 ≤ pS W p) : pF W (pS W p - 1) ≤ pO W p e ∧ pO W p e < pF W (pS W p) ∧ pO W p e < p ∧ pS W (pO W p e) = pS W p - 1 := by
  obtain ⟨q1, q2, q3⟩ := pS_in h
  have hm : (p - pF W (pS W p) + e) % wq W (pS W p - 1) < wq W (pS W p - 1) := Nat.mod_lt _ (by have := (hw (pS W p - 1)).1; omega)
  have hf : pF W (pS W p - 1 + 1) = pF W (pS W p - 1) + wq W (pS W p - 1) := rfl
  rw [show pS W p - 1 + 1 = pS W p by omega] at hf
  have ha : pF W (pS W p - 1) ≤ pO W p e ∧ pO W p e < pF W (pS W p) := by
    unfold pO
    omega
  refine ⟨ha.1, ha.2, by omega, ?_⟩
  refine pS_eq (by omega) ha.1 ?_
  rw [show pS W p - 1 + 1 = pS W p by omega]
  exact ha.2
def pV (W : WT) (k q : Nat) : Nat := if q = k then 4 else if q < k then pH W k q / 2 else 0
theorem pH_eq {W : WT} (hw : wok W) {p q : Nat} (h : p < pF W 4) (h1 : 1 ≤ pS W p) : pH W p q = pV W (pO W p 0) q + pV W (pO W p 1) q := by
  obtain ⟨s, hs⟩ : ∃ s, pS W p = s + 1 := ⟨pS W p - 1, by omega⟩
  have e0 := (pO_in (e := 0) hw h h1).2.2.2
  have e1 := (pO_in (e := 1) hw h h1).2.2.2
  have f0 : pH W (pO W p 0) q = pHs W s (pO W p 0) q := by unfold pH; rw [e0, hs]; rfl
  have f1 : pH W (pO W p 1) q = pHs W s (pO W p 1) q := by unfold pH; rw [e1, hs]; rfl
  unfold pV
  rw [f0, f1]
  unfold pH
  rw [hs]
  rfl
theorem pH_0 {W : WT} {p q : Nat} (h1 : pS W p = 0) : pH W p q = 0 := by
  unfold pH
  rw [h1]
  rfl
theorem pHs_le {W : WT} : ∀ (s p q : Nat), pHs W s p q ≤ 8
  | 0, _, _ => by show 0 ≤ 8; omega
  | s + 1, p, q => by
    have h0 := pHs_le (W := W) s (pO W p 0) q
    have h1 := pHs_le (W := W) s (pO W p 1) q
    show (if q = pO W p 0 then 4 else if q < pO W p 0 then pHs W s (pO W p 0) q / 2 else 0) + (if q = pO W p 1 then 4 else if q < pO W p 1 then pHs W s (pO W p 1) q / 2 else 0) ≤ 8
    have a0 : (if q = pO W p 0 then 4 else if q < pO W p 0 then pHs W s (pO W p 0) q / 2 else 0) ≤ 4 := by
      split
      · omega
      · split <;> omega
    have a1 : (if q = pO W p 1 then 4 else if q < pO W p 1 then pHs W s (pO W p 1) q / 2 else 0) ≤ 4 := by
      split
      · omega
      · split <;> omega
    omega
theorem pH_le {W : WT} (p q : Nat) : pH W p q ≤ 8 := pHs_le _ _ _
/-! memory -/
theorem vx_u_at {g : vx_M} {k : Nat} {j v : Int} : vx_u g k j v k j = v := by simp [vx_u]
theorem vx_u_k {g : vx_M} {k a : Nat} {j v b : Int} (h : a ≠ k) : vx_u g k j v a b = g a b := by simp [vx_u, h]
theorem vx_u_j {g : vx_M} {k a : Nat} {j v b : Int} (h : b ≠ j) : vx_u g k j v a b = g a b := by simp [vx_u, h]
def vx_fill (g : vx_M) (k : Nat) (n v : Int) : vx_M := fun a b => if a = k then (if 0 ≤ b ∧ b < n then v else g a b) else g a b
def vx_half (g : vx_M) (kr sup : Nat) (i : Int) : vx_M := fun a b => if a = kr then (if b = sup then g a b + 4 else if 0 ≤ b ∧ b < i then g a b + g (6 + sup) b / 2 else g a b) else g a b
end
section
theorem c_fill {l : Launch} {d : Nat} {sh : List vx_H} {kf nf : Nat} (hkf : sh[kf]? = some (.inr (.inl (false, nf)))) (hnf : nf < 1000) (g : vx_M) (v : Int) : vNv l mJ7_fill_53178 d [.inr (some kf), .inl v] sh g (fun g' => g' = vx_fill g kf nf v) := by
  refine kJ7_fill_53178 hkf hnf g v ?_
  have key : ∀ (k i : Nat), i + k = nf → ∀ g1, g1 = vx_fill g kf i v → vN l mJ7_fill_53178 d (vx_pv sh (fun g' => g' = vx_fill g kf nf v)) sh g1 5 [some (.inr (some (kf))), some (.inl v), some (.inl (i : Int)), some (.inl (nf : Int))] [] := by
    intro k
    induction k with
    | zero =>
      intro i hi g1 hg
      refine tJ7_fill_53178_5 hkf hnf g1 _ _ _ ⟨fun _ => ?_, fun c => ?_⟩
      · rw [hg, show i = nf by omega]
      · omega
    | succ k ih =>
      intro i hi g1 hg
      refine tJ7_fill_53178_5 hkf hnf g1 _ _ _ ⟨fun c => ?_, fun c => ⟨⟨by omega, by omega⟩, ⟨by omega, by omega⟩, ?_⟩⟩
      · omega
      · have h2 := ih (i + 1) (by omega) (vx_u g1 kf i v) (by
          rw [hg]
          funext a b
          unfold vx_u vx_fill
          by_cases ha : a = kf
          · by_cases hb : b = (i : Int)
            · simp [ha, hb]; omega
            · by_cases hc : 0 ≤ b ∧ b < (i : Int)
              · simp [ha, hb, hc]; omega
              · simp [ha, hb, hc]; omega
          · simp [ha])
        exact h2
  have h := key nf 0 (by omega) g (by
    funext a b
    unfold vx_fill
    by_cases ha : a = kf
    · simp [ha]; omega
    · simp [ha])
  exact h
theorem c_restHalfOn {l : Launch} {d : Nat} {sh : List vx_H} {kr sup : Nat} (hT : vx_TW sh) (hkr : sh[kr]? = some (.inr (.inl (false, 7)))) (g : vx_M) (hs : sup < 7) (hne : kr ≠ 6 + sup) (hb : ∀ q : Nat, q < 7 → 0 ≤ g kr q ∧ g kr q ≤ 100) (hb2 : ∀ q : Nat, q < 7 → 0 ≤ g (6 + sup) q ∧ g (6 + sup) q ≤ 100) :
    vNv l mX4_restHalfOn d [.inr (some 1), .inr (some kr), .inl (sup : Int)] sh g (fun g' => g' = vx_half g kr sup sup) := by
  have hk0 := hb sup hs
  refine kX4_restHalfOn hT hkr g sup ⟨⟨by omega, by omega⟩, ⟨by omega, by omega⟩, ⟨by omega, by omega⟩, ?_⟩
  have key : ∀ (k i : Nat), i + k = sup → ∀ g1, g1 = vx_half g kr sup i → vN l mX4_restHalfOn d (vx_pv sh (fun g' => g' = vx_half g kr sup sup)) sh g1 9 [some (.inr (some 1)), some (.inr (some (kr))), some (.inl (sup : Int)), some (.inl (i : Int))] [] := by
    intro k
    induction k with
    | zero =>
      intro i hi g1 hg
      refine tX4_restHalfOn_9 hT hkr g1 _ _ ⟨fun _ => ?_, fun c => ?_⟩
      · rw [hg, show i = sup by omega]
      · omega
    | succ k ih =>
      intro i hi g1 hg
      have e1 : g1 (6 + (sup : Int).toNat) i = g (6 + sup) i := by
        rw [hg, Int.toNat_natCast]
        unfold vx_half
        rw [if_neg (fun h => hne h.symm)]
      have e2 : g1 kr i = g kr i := by
        rw [hg]
        unfold vx_half
        rw [if_pos rfl, if_neg (by omega), if_neg (by omega)]
      have b1 := hb i (by omega)
      have b2 := hb2 i (by omega)
      refine tX4_restHalfOn_9 hT hkr g1 _ _ ⟨fun c => ?_, fun c => ⟨⟨by omega, by omega⟩, ⟨by omega, by omega⟩, ⟨by omega, by omega⟩, ?_, ?_, ⟨by omega, by omega⟩, ⟨by omega, by omega⟩, ?_⟩⟩
      · omega
      · rw [e1]; omega
      · rw [e1, e2]; exact ⟨by omega, by omega⟩
      · rw [e1, e2]
        have h2 := ih (i + 1) (by omega) (vx_u g1 kr i (g kr i + g (6 + sup) i / 2)) (by
          rw [hg]
          funext a b
          unfold vx_u vx_half
          by_cases ha : a = kr
          · subst ha
            simp only [if_true]
            by_cases hb : b = (i : Int)
            · subst hb
              rw [if_pos rfl, if_neg (by omega), if_pos (by omega)]
            · rw [if_neg hb]
              by_cases hc : b = (sup : Int)
              · rw [if_pos hc, if_pos hc]
              · rw [if_neg hc, if_neg hc]
                by_cases he : 0 ≤ b ∧ b < (i : Int)
                · rw [if_pos he, if_pos (by omega)]
                · rw [if_neg he, if_neg (by omega)]
          · simp [ha])
        exact h2
  have h := key sup 0 (by omega) (vx_u g kr sup (g kr sup + 4)) (by
    funext a b
    unfold vx_u vx_half
    by_cases ha : a = kr
    · subst ha
      simp only [if_true]
      by_cases hb : b = (sup : Int)
      · subst hb
        simp
      · rw [if_neg hb, if_neg hb, if_neg (by omega)]
    · simp [ha])
  exact h
/-- one half of a weight in a place, on each place: over memory -/
def hV (g : vx_M) (k q : Nat) : Int := if q = k then 4 else if q < k then g (6 + k) q / 2 else 0
theorem c_shareOut {l : Launch} {d : Nat} {sh : List vx_H} {p s j : Nat} (hT : vx_TW sh) (g : vx_M) (W : WT) (hw : wok W) (hp : p < 7) (hs : s < 4) (hj : j < 3) (hW : ∀ t : Nat, t < 4 → g 2 t = wq W t) (hF : ∀ t : Nat, t < s → g 3 t = pF W t) (hlt : pF W s ≤ p) (hb : ∀ r q : Nat, r < p → q < 7 → 0 ≤ g (6 + r) q ∧ g (6 + r) q ≤ 8) :
    vNv l mX4_shareOut (d + 1) [.inr (some 1), .inl (p : Int), .inl (s : Int), .inl (j : Int)] sh g (fun g' => (∀ a b, a ≠ 6 + p → g' a b = g a b) ∧ ∀ q : Nat, q < 7 → g' (6 + p) q = if s = 0 then 0 else hV g (pF W (s - 1) + j % wq W (s - 1)) q + hV g (pF W (s - 1) + (j + 1) % wq W (s - 1)) q) := by
  have hkr := hT.2.2.2.2.2 p hp
  refine kX4_shareOut hT g p s j ⟨⟨by omega, by omega⟩, _, c_fill (by rw [Int.toNat_natCast]; exact hkr) (by omega) g 0, fun g2 h2 => ?_⟩
  rw [Int.toNat_natCast] at h2
  have f1 : ∀ a b, a ≠ 6 + p → g2 a b = g a b := fun a b h => by rw [h2]; unfold vx_fill; rw [if_neg h]
  have f2 : ∀ q : Nat, q < 7 → g2 (6 + p) q = 0 := fun q h => by rw [h2]; unfold vx_fill; rw [if_pos rfl, if_pos (by omega)]
  refine ⟨fun c => ⟨f1, fun q hq => ?_⟩, fun c => ?_⟩
  · rw [f2 q hq, if_pos (by omega)]
  · have hs1 : ((s : Int) - 1) = ((s - 1 : Nat) : Int) := by omega
    have w1 := hw (s - 1)
    have e2 : g2 2 ((s : Int) - 1) = wq W (s - 1) := by rw [f1 2 _ (by omega), hs1, hW (s - 1) (by omega)]
    have e3 : g2 3 ((s : Int) - 1) = pF W (s - 1) := by rw [f1 3 _ (by omega), hs1, hF (s - 1) (by omega)]
    have ff : pF W (s - 1 + 1) = pF W (s - 1) + wq W (s - 1) := rfl
    rw [show s - 1 + 1 = s by omega] at ff
    have m0 : j % wq W (s - 1) < wq W (s - 1) := Nat.mod_lt _ (by omega)
    have m1 : (j + 1) % wq W (s - 1) < wq W (s - 1) := Nat.mod_lt _ (by omega)
    have c0 : ((j : Int) % (wq W (s - 1) : Int)) = ((j % wq W (s - 1) : Nat) : Int) := (Int.natCast_emod _ _).symm
    have c1 : (((j : Int) + 1) % (wq W (s - 1) : Int)) = (((j + 1) % wq W (s - 1) : Nat) : Int) := by rw [Int.natCast_emod]; rfl
    rw [e2, e3]
    refine ⟨⟨by omega, by omega⟩, ⟨by omega, by omega⟩, fun _ => ⟨⟨by omega, by omega⟩, ⟨by omega, by omega⟩, ⟨by omega, by omega⟩, ⟨by omega, by omega⟩, ⟨by omega, by omega⟩, ?_, ?_⟩, fun c => by omega⟩
    · rw [c0]; exact ⟨by omega, by omega⟩
    · rw [c0]
      generalize hk0 : pF W (s - 1) + j % wq W (s - 1) = k0 at *
      generalize hk1 : pF W (s - 1) + (j + 1) % wq W (s - 1) = k1 at *
      have hs0 : ((pF W (s - 1) : Int) + ((j % wq W (s - 1) : Nat) : Int)) = (k0 : Int) := by omega
      rw [hs0, Int.toNat_natCast]
      refine ⟨_, c_restHalfOn hT hkr g2 (by omega) (by omega) (fun q hq => by rw [f2 q hq]; omega) (fun q hq => by rw [f1 _ _ (by omega)]; have := hb k0 q (by omega) hq; omega), fun g11 h11 => ?_⟩
      have g1 : ∀ a b, a ≠ 6 + p → g11 a b = g a b := fun a b h => by rw [h11]; unfold vx_half; rw [if_neg h, f1 a b h]
      have g2' : ∀ q : Nat, q < 7 → g11 (6 + p) q = hV g k0 q := fun q hq => by
        rw [h11]
        unfold vx_half hV
        rw [if_pos rfl, f2 q hq, f1 (6 + k0) q (by omega)]
        by_cases hc : q = k0
        · rw [if_pos hc, if_pos (by omega)]; omega
        · rw [if_neg hc, if_neg (by omega)]
          by_cases hc2 : q < k0
          · rw [if_pos hc2, if_pos (by omega)]; omega
          · rw [if_neg hc2, if_neg (by omega)]
      have e4 : g11 3 ((s : Int) - 1) = pF W (s - 1) := by rw [g1 3 _ (by omega), hs1, hF (s - 1) (by omega)]
      have hb0 : ∀ q : Nat, q < 7 → 0 ≤ hV g k0 q ∧ hV g k0 q ≤ 100 := fun q hq => by
        unfold hV
        have := hb k0 q (by omega) hq
        split
        · omega
        · split <;> omega
      rw [e4, c1]
      have hs2 : ((pF W (s - 1) : Int) + (((j + 1) % wq W (s - 1) : Nat) : Int)) = (k1 : Int) := by omega
      rw [hs2]
      refine ⟨⟨by omega, by omega⟩, ⟨by omega, by omega⟩, ⟨by omega, by omega⟩, ⟨by omega, by omega⟩, ⟨by omega, by omega⟩, _, c_restHalfOn hT hkr g11 (by omega) (by omega) (fun q hq => by rw [g2' q hq]; exact hb0 q hq) (fun q hq => by rw [g1 _ _ (by omega)]; have := hb k1 q (by omega) hq; omega), fun g17 h17 => ?_⟩
      refine ⟨fun a b h => by rw [h17]; unfold vx_half; rw [if_neg h, g1 a b h], fun q hq => ?_⟩
      rw [h17, if_neg (by omega)]
      unfold vx_half
      rw [if_pos rfl, g2' q hq, g1 (6 + k1) q (by omega)]
      have hv1 : hV g k1 q = if q = k1 then 4 else if q < k1 then g (6 + k1) q / 2 else 0 := rfl
      rw [hv1]
      by_cases hc : q = k1
      · rw [if_pos hc, if_pos (by omega)]
      · rw [if_neg hc, if_neg (by omega)]
        by_cases hc2 : q < k1
        · rw [if_pos hc2, if_pos (by omega)]
        · rw [if_neg hc2, if_neg (by omega)]; omega
theorem hV_eq {W : WT} {g : vx_M} {k q : Nat} (h : g (6 + k) q = pH W k q) : hV g k q = pV W k q := by
  unfold hV pV
  split
  · rfl
  · split
    · rw [h]; omega
    · rfl
/-- the tower's tables lie in the memory -/
def TOW (W : WT) (h : Nat) (g : vx_M) : Prop := g 1 4 = h ∧ g 1 5 = pF W h ∧ (∀ s : Nat, s < h → g 3 s = pF W s) ∧ (∀ p : Nat, p < pF W h → g 4 p = pS W p) ∧ (∀ p q : Nat, p < pF W h → q < 7 → g (6 + p) q = pH W p q)
/-- as far as n places of the storeys under s, with m first places told -/
def TOP (W : WT) (h m n : Nat) (g : vx_M) : Prop := g 1 4 = h ∧ g 1 5 = n ∧ (∀ s : Nat, s < m → g 3 s = pF W s) ∧ (∀ p : Nat, p < n → g 4 p = pS W p) ∧ (∀ p q : Nat, p < n → q < 7 → g (6 + p) q = pH W p q) ∧ (∀ t : Nat, t < 4 → g 2 t = wq W t)
def fr_T (g g' : vx_M) : Prop := (∀ a b, a ≠ 1 → a ≠ 3 → a ≠ 4 → (a < 6 ∨ 13 ≤ a) → g' a b = g a b)
theorem c_build {l : Launch} {d : Nat} {sh : List vx_H} (hT : vx_TW sh) (g : vx_M) (W : WT) (hw : wok W) {h : Nat} (h1 : 1 ≤ h) (h4 : h ≤ 4) (h7 : pF W h ≤ 7) (hW : ∀ t : Nat, t < 4 → g 2 t = wq W t) :
    vNv l mX4_build (d + 2) [.inr (some 1), .inl (h : Int)] sh g (fun g' => TOW W h g' ∧ fr_T g g') := by
  refine kX4_build hT g h ?_
  have hmin : min (h : Int) 4 = h := by omega
  rw [hmin]
  have key : ∀ (k s : Nat), s + k = h → ∀ g1, TOP W h s (pF W s) g1 → fr_T g g1 → vN l mX4_build (d + 1 + 1) (vx_pv sh (fun g' => TOW W h g' ∧ fr_T g g')) sh g1 16 [some (.inr (some 1)), some (.inl (h : Int)), some (.inl (s : Int)), none] [] := by
    intro k
    induction k with
    | zero =>
      intro s hs g1 hg hf
      have e : s = h := by omega
      subst e
      obtain ⟨a1, a2, a3, a4, a5, a6⟩ := hg
      refine tX4_build_16 hT g1 _ _ ⟨fun _ => ⟨⟨a1, a2, a3, a4, a5⟩, hf⟩, fun c => ?_⟩
      omega
    | succ k ih =>
      intro s hs g1 hg hf
      obtain ⟨a1, a2, a3, a4, a5, a6⟩ := id hg
      refine tX4_build_16 hT g1 _ _ ⟨fun c => by omega, fun _ => ⟨⟨by omega, by omega⟩, ?_⟩⟩
      have ws := hw s
      have ps1 : pF W (s + 1) = pF W s + wq W s := rfl
      have pm : pF W (s + 1) ≤ pF W h := pF_mono (by omega)
      have p4 : pF W h ≤ pF W 4 := pF_mono h4
      have inner : ∀ (k2 j : Nat), j + k2 = wq W s → ∀ g2, TOP W h (s + 1) (pF W s + j) g2 → fr_T g g2 → vN l mX4_build (d + 1 + 1) (vx_pv sh (fun g' => TOW W h g' ∧ fr_T g g')) sh g2 36 [some (.inr (some 1)), some (.inl (h : Int)), some (.inl (s : Int)), some (.inl (j : Int))] [] := by
        intro k2
        induction k2 with
        | zero =>
          intro j hj g2 hg2 hf2
          obtain ⟨b1, b2, b3, b4, b5, b6⟩ := id hg2
          have e6 := b6 s (by omega)
          refine tX4_build_36 hT g2 _ _ _ ⟨⟨by omega, by omega⟩, fun _ => ⟨⟨by omega, by omega⟩, ?_⟩, fun c => by omega⟩
          have h9 := ih (s + 1) (by omega) g2 (by rw [ps1, show wq W s = j by omega]; exact hg2) hf2
          exact h9
        | succ k2 ih2 =>
          intro j hj g2 hg2 hf2
          obtain ⟨b1, b2, b3, b4, b5, b6⟩ := id hg2
          have e6 := b6 s (by omega)
          refine tX4_build_36 hT g2 _ _ _ ⟨⟨by omega, by omega⟩, fun c => by omega, fun _ => ⟨fun c => by omega, fun _ => ⟨⟨by omega, by omega⟩, ?_⟩⟩⟩
          have e0 : (vx_u g2 4 ((pF W s + j : Nat) : Int) s) 1 5 = ((pF W s + j : Nat) : Int) := by rw [vx_u_k (by omega), b2]
          rw [b2]
          have q1 : ∀ t : Nat, t < 4 → (vx_u g2 4 ((pF W s + j : Nat) : Int) s) 2 t = wq W t := fun t ht => by rw [vx_u_k (by omega)]; exact b6 t ht
          have q2 : ∀ t : Nat, t < s → (vx_u g2 4 ((pF W s + j : Nat) : Int) s) 3 t = pF W t := fun t ht => by rw [vx_u_k (by omega)]; exact b3 t (by omega)
          have q3 : ∀ r q : Nat, r < pF W s + j → q < 7 → 0 ≤ (vx_u g2 4 ((pF W s + j : Nat) : Int) s) (6 + r) q ∧ (vx_u g2 4 ((pF W s + j : Nat) : Int) s) (6 + r) q ≤ 8 := fun r q hr hq => by
            rw [vx_u_k (by omega), b5 r q hr hq]
            have := pH_le (W := W) r q
            omega
          have hps : pS W (pF W s + j) = s := pS_eq (by omega) (by omega) (by omega)
          refine ⟨_, c_shareOut (s := s) (j := j) hT (vx_u g2 4 ((pF W s + j : Nat) : Int) s) W hw (by omega) (by omega) (by omega) q1 q2 (by omega) q3, fun g5 h5 => ?_⟩
          obtain ⟨f1, f2⟩ := h5
          have e5 : g5 1 5 = ((pF W s + j : Nat) : Int) := by rw [f1 1 5 (by omega), e0]
          refine ⟨⟨by omega, by omega⟩, ⟨by omega, by omega⟩, ?_⟩
          have f0 : ∀ a b, a ≠ 6 + (pF W s + j) → a ≠ 4 → (a = 1 → b ≠ 5) → (vx_u g5 1 5 (g5 1 5 + 1)) a b = g2 a b := fun a b x1 x2 x3 => by
            by_cases ha : a = 1
            · rw [vx_u_j (x3 ha), f1 a b x1, vx_u_k x2]
            · rw [vx_u_k ha, f1 a b x1, vx_u_k x2]
          have h9 := ih2 (j + 1) (by omega) (vx_u g5 1 5 (g5 1 5 + 1)) ⟨?_, ?_, ?_, ?_, ?_, ?_⟩ ?_
          · exact h9
          · rw [f0 1 4 (by omega) (by omega) (by omega)]; exact b1
          · rw [vx_u_at, e5]; omega
          · intro t ht
            rw [f0 3 t (by omega) (by omega) (by omega)]
            exact b3 t ht
          · intro p hp
            rw [vx_u_k (by omega), f1 4 p (by omega)]
            by_cases hpe : p = pF W s + j
            · rw [hpe, vx_u_at, hps]
            · rw [vx_u_j (by omega)]
              exact b4 p (by omega)
          · intro p q hp hq
            by_cases hpe : p = pF W s + j
            · rw [hpe, vx_u_k (by omega), f2 q hq]
              by_cases hs0 : s = 0
              · rw [if_pos hs0, pH_0 (by rw [hps]; exact hs0)]; rfl
              · rw [if_neg hs0, pH_eq hw (by omega) (by rw [hps]; omega)]
                have o0 : pO W (pF W s + j) 0 = pF W (s - 1) + j % wq W (s - 1) := by
                  unfold pO
                  rw [hps, show pF W s + j - pF W s + 0 = j by omega]
                have o1 : pO W (pF W s + j) 1 = pF W (s - 1) + (j + 1) % wq W (s - 1) := by
                  unfold pO
                  rw [hps, show pF W s + j - pF W s + 1 = j + 1 by omega]
                have i0 := pO_in (e := 0) hw (show pF W s + j < pF W 4 by omega) (by rw [hps]; omega)
                have i1 := pO_in (e := 1) hw (show pF W s + j < pF W 4 by omega) (by rw [hps]; omega)
                rw [← o0, ← o1, hV_eq (W := W), hV_eq (W := W)]
                · omega
                · rw [vx_u_k (by omega)]; exact b5 _ q (by omega) hq
                · rw [vx_u_k (by omega)]; exact b5 _ q (by omega) hq
            · rw [f0 (6 + p) q (by omega) (by omega) (by omega)]
              exact b5 p q (by omega) hq
          · intro t ht
            rw [f0 2 t (by omega) (by omega) (by omega)]
            exact b6 t ht
          · intro a b x1 x2 x3 x4
            rw [f0 a b (by omega) x3 (by omega)]
            exact hf2 a b x1 x2 x3 x4
      have h8 := inner (wq W s) 0 (by omega) (vx_u g1 3 s (g1 1 5)) ⟨?_, ?_, ?_, ?_, ?_, ?_⟩ ?_
      · exact h8
      · rw [vx_u_k (by omega)]; exact a1
      · rw [vx_u_k (by omega)]; exact a2
      · intro t ht
        by_cases hte : t = s
        · rw [hte, vx_u_at]; exact a2
        · rw [vx_u_j (by omega)]; exact a3 t (by omega)
      · intro p hp
        rw [vx_u_k (by omega)]; exact a4 p (by omega)
      · intro p q hp hq
        rw [vx_u_k (by omega)]; exact a5 p q (by omega) hq
      · intro t ht
        rw [vx_u_k (by omega)]; exact a6 t ht
      · intro a b x1 x2 x3 x4
        rw [vx_u_k x2]; exact hf a b x1 x2 x3 x4
  have h := key h 0 (by omega) (vx_u (vx_u g 1 4 h) 1 5 0) ⟨?_, ?_, ?_, ?_, ?_, ?_⟩ ?_
  · exact h
  · rw [vx_u_j (by omega), vx_u_at]
  · rw [vx_u_at]; rfl
  · intro s hs; omega
  · intro p hp; exact absurd hp (by show ¬ p < 0; omega)
  · intro p q hp; exact absurd hp (by show ¬ p < 0; omega)
  · intro t ht
    rw [vx_u_k (by omega), vx_u_k (by omega)]; exact hW t ht
  · intro a b x1 x2 x3 x4
    rw [vx_u_k x1, vx_u_k x1]
theorem c_placesUpTo {l : Launch} {d : Nat} {sh : List vx_H} (hT : vx_TW sh) (g : vx_M) (W : WT) (hw : wok W) {h : Nat} (h4 : h ≤ 4) (hW : ∀ t : Nat, t < 4 → g 2 t = wq W t) :
    vNi l mX4_placesUpTo d [.inr (some 1), .inl (h : Int)] sh g (fun r g' => r = pF W h ∧ g' = g) := by
  refine kX4_placesUpTo hT g h ?_
  have key : ∀ (k s : Nat), s + k = h → vN l mX4_placesUpTo d (vx_pi sh (fun r g' => r = pF W h ∧ g' = g)) sh g 4 [some (.inr (some 1)), some (.inl (h : Int)), some (.inl (pF W s : Int)), some (.inl (s : Int))] [] := by
    intro k
    induction k with
    | zero =>
      intro s hs
      refine tX4_placesUpTo_4 hT g _ _ _ ⟨fun _ => ⟨by rw [show s = h by omega], rfl⟩, fun c => by omega⟩
    | succ k ih =>
      intro s hs
      have pb : pF W s ≤ 3 * s := by
        clear ih hs
        induction s with
        | zero => exact Nat.le_refl _
        | succ s ih3 =>
          have := hw s
          show pF W s + wq W s ≤ _
          omega
      have e := hW s (by omega)
      have ws := hw s
      refine tX4_placesUpTo_4 hT g _ _ _ ⟨fun c => by omega, fun _ => ⟨fun c => by omega, fun _ => ⟨⟨by omega, by omega⟩, ?_, ⟨by omega, by omega⟩, ?_⟩⟩⟩
      · rw [e]; exact ⟨by omega, by omega⟩
      · rw [e]
        exact ih (s + 1) (by omega)
  exact key h 0 (by omega)
end
section
/-! THE STATE as one value, and what the class's cells hold of it -/
abbrev SG : Type := (Nat × WT) × (Nat × (Nat → Nat → Int)) × Int × Option (List Nat) × (Int × Int × Int)
def sH (σ : SG) : Nat := σ.1.1
def sW (σ : SG) : WT := σ.1.2
def sN (σ : SG) : Nat := σ.2.1.1
def sA (σ : SG) : Nat → Nat → Int := σ.2.1.2
def sP (σ : SG) : Int := σ.2.2.1
def sR (σ : SG) : Option (List Nat) := σ.2.2.2.1
def sC (σ : SG) : Int := σ.2.2.2.2.1
def sD (σ : SG) : Int := σ.2.2.2.2.2.1
def sT (σ : SG) : Int := σ.2.2.2.2.2.2
def sL (σ : SG) : Nat := pF (sW σ) (sH σ)
/-- one person is as told -/
def pOK (A : Nat → Nat → Int) (p : Nat) : Prop := (100 ≤ A 0 p ∧ A 0 p ≤ 200) ∧ (20 ≤ A 1 p ∧ A 1 p ≤ 120) ∧ (0 ≤ A 2 p ∧ A 2 p ≤ 400) ∧ (0 ≤ A 3 p ∧ A 3 p ≤ 3) ∧ (0 ≤ A 4 p ∧ A 4 p ≤ 20000)
/-- tower and people are as told -/
def VB (σ : SG) : Prop := (1 ≤ sH σ ∧ sH σ ≤ 4) ∧ wok (sW σ) ∧ sL σ ≤ 7 ∧ sN σ ≤ 8 ∧ (∀ p, p < sN σ → pOK (sA σ) p) ∧ (∀ p, sA σ 5 p = 0 ∨ sA σ 5 p = 1) ∧ (∀ p, sN σ ≤ p → sA σ 5 p = 0) ∧ (0 ≤ sP σ ∧ sP σ ≤ 50)
def hOK (σ : SG) (r : List Nat) : Prop := r.length = sL σ ∧ ∀ i, i < sL σ → r.getD i 0 < sN σ
def VS (σ : SG) : Prop := VB σ ∧ (∀ r, sR σ = some r → hOK σ r) ∧ (0 ≤ sC σ ∧ sC σ ≤ 1000) ∧ (0 ≤ sD σ ∧ sD σ ≤ 1000) ∧ (0 ≤ sT σ ∧ sT σ ≤ 1000000)
def PC (σ : SG) (g : vx_M) : Prop := g 13 6 = sN σ ∧ ∀ i p : Nat, i < 6 → p < 8 → g (14 + i) p = sA σ i p
/-- tower, people and rules lie in the memory -/
def BC (σ : SG) (g : vx_M) : Prop := VB σ ∧ TOW (sW σ) (sH σ) g ∧ PC σ g ∧ g 20 2 = sP σ ∧ ∀ t : Nat, t < 4 → g 2 t = wq (sW σ) t
theorem BC.frame {σ : SG} {g g' : vx_M} (h : BC σ g) (hf : ∀ a b, 1 ≤ a → a < 21 → g' a b = g a b) : BC σ g' := by
  obtain ⟨h1, ⟨t1, t2, t3, t4, t5⟩, ⟨p1, p2⟩, h4, h5⟩ := h
  have h7 : pF (sW σ) (sH σ) ≤ 7 := h1.2.2.1
  refine ⟨h1, ⟨?_, ?_, ?_, ?_, ?_⟩, ⟨?_, ?_⟩, ?_, ?_⟩
  · rw [hf _ _ (by omega) (by omega)]; exact t1
  · rw [hf _ _ (by omega) (by omega)]; exact t2
  · intro s hs; rw [hf _ _ (by omega) (by omega)]; exact t3 s hs
  · intro s hs; rw [hf _ _ (by omega) (by omega)]; exact t4 s hs
  · intro p q hp hq; rw [hf _ _ (by omega) (by omega)]; exact t5 p q hp hq
  · rw [hf _ _ (by omega) (by omega)]; exact p1
  · intro i p hi hp; rw [hf _ _ (by omega) (by omega)]; exact p2 i p hi hp
  · rw [hf _ _ (by omega) (by omega)]; exact h4
  · intro t ht; rw [hf _ _ (by omega) (by omega)]; exact h5 t ht
/-- the placing r lies in the cell k -/
def HB (σ : SG) (r : List Nat) (k : Nat) (g : vx_M) : Prop := hOK σ r ∧ ∀ i : Nat, i < sL σ → g k i = (r.getD i 0 : Nat)
def HC (σ : SG) (g : vx_M) : Prop := (sR σ = none ∧ g 0 6 = 0 ∧ ∀ i : Nat, i < 7 → g 39 i = -1) ∨ (∃ r, sR σ = some r ∧ g 0 6 = 1 ∧ HB σ r 39 g)
def RC (σ : SG) (g : vx_M) : Prop := VS σ ∧ BC σ g ∧ HC σ g ∧ (∀ x : Nat, x < 8 → g 33 x = 0) ∧ g 0 7 = sC σ ∧ g 0 8 = sD σ ∧ g 0 9 = sT σ
/-- the load of a place q by those in the places before m, in eighths -/
def ld (S : Nat → Nat → Int) (u : Nat → Int) (q : Nat) : Nat → Int
  | 0 => 0
  | m + 1 => ld S u q m + if q < m then S m q * u m else 0
def lD (σ : SG) (r : List Nat) (q m : Nat) : Int := ld (fun a b => (pH (sW σ) a b : Int)) (fun a => sA σ 1 (r.getD a 0)) q m
theorem ld_low {S : Nat → Nat → Int} {u : Nat → Int} {q : Nat} : ∀ m, m ≤ q + 1 → ld S u q m = 0
  | 0, _ => rfl
  | m + 1, h => by
    show ld S u q m + (if q < m then S m q * u m else 0) = 0
    rw [ld_low m (by omega), if_neg (by omega)]
    rfl
theorem ld_bound {S : Nat → Nat → Int} {u : Nat → Int} {q : Nat} : ∀ m, (∀ a, a < m → 0 ≤ S a q ∧ S a q ≤ 8 ∧ 0 ≤ u a ∧ u a ≤ 120) → 0 ≤ ld S u q m ∧ ld S u q m ≤ 960 * m
  | 0, _ => by show (0 : Int) ≤ 0 ∧ (0 : Int) ≤ _; omega
  | m + 1, h => by
    have h1 := ld_bound m (fun a ha => h a (by omega))
    obtain ⟨b1, b2, b3, b4⟩ := h m (by omega)
    have h2 : 0 ≤ S m q * u m := Int.mul_nonneg b1 b3
    have h3 : S m q * u m ≤ 8 * 120 := Int.mul_le_mul b2 b4 b3 (by omega)
    show 0 ≤ ld S u q m + (if q < m then S m q * u m else 0) ∧ ld S u q m + (if q < m then S m q * u m else 0) ≤ _
    split <;> omega
theorem lD_bound {σ : SG} {r : List Nat} {q m : Nat} (hv : VB σ) (hr : hOK σ r) (hm : m ≤ sL σ) : 0 ≤ lD σ r q m ∧ lD σ r q m ≤ 960 * m := by
  refine ld_bound m (fun a ha => ?_)
  have h1 := hv.2.2.2.2.1 (r.getD a 0) (hr.2 a (by omega))
  have h2 := pH_le (W := sW σ) a q
  exact ⟨by omega, by omega, by have := h1.2.1; omega, h1.2.1.2⟩
/-- least and greatest of k + 1 numbers from f on -/
def hmin (u : Nat → Int) (f : Nat) : Nat → Int
  | 0 => u f
  | k + 1 => min (hmin u f k) (u (f + k + 1))
def hmax (u : Nat → Int) (f : Nat) : Nat → Int
  | 0 => u f
  | k + 1 => max (hmax u f k) (u (f + k + 1))
theorem hmin_le (u : Nat → Int) (f : Nat) : ∀ k, hmin u f k ≤ hmax u f k
  | 0 => Int.le_refl _
  | k + 1 => by
    have := hmin_le u f k
    show min (hmin u f k) (u (f + k + 1)) ≤ max (hmax u f k) (u (f + k + 1))
    omega
theorem hm_bound (u : Nat → Int) (f : Nat) {a b : Int} : ∀ k, (∀ i, i ≤ k → a ≤ u (f + i) ∧ u (f + i) ≤ b) → a ≤ hmin u f k ∧ hmax u f k ≤ b
  | 0, h => h 0 (Nat.le_refl _)
  | k + 1, h => by
    have h1 := hm_bound u f k (fun i hi => h i (by omega))
    have h2 := h (k + 1) (Nat.le_refl _)
    show a ≤ min (hmin u f k) (u (f + k + 1)) ∧ max (hmax u f k) (u (f + k + 1)) ≤ b
    rw [show f + (k + 1) = f + k + 1 by omega] at h2
    omega
def hU (σ : SG) (r : List Nat) (p : Nat) : Int := sA σ 0 (r.getD p 0)
/-- how far apart the heights of a storey are -/
def sprd (σ : SG) (r : List Nat) (s : Nat) : Int := hmax (hU σ r) (pF (sW σ) s) (wq (sW σ) s - 1) - hmin (hU σ r) (pF (sW σ) s) (wq (sW σ) s - 1)
def okP (σ : SG) (r : List Nat) (p : Nat) : Prop := sA σ 5 (r.getD p 0) = 0 ∧ (pS (sW σ) p : Int) ≤ sA σ 3 (r.getD p 0)
def okL (σ : SG) (r : List Nat) (p : Nat) : Prop := lD σ r p (sL σ) ≤ 8 * sA σ 2 (r.getD p 0)
def FIT (σ : SG) (r : List Nat) : Prop := (∀ p, p < sL σ → okP σ r p ∧ okL σ r p) ∧ ∀ s, s < sH σ → sprd σ r s ≤ sP σ
theorem sL_4 {σ : SG} (hv : VB σ) : sL σ ≤ pF (sW σ) 4 := pF_mono hv.1.2
theorem pl_in {σ : SG} (hv : VB σ) {s : Nat} (hs : s < sH σ) : pF (sW σ) s + wq (sW σ) s ≤ sL σ := by
  have : pF (sW σ) (s + 1) ≤ pF (sW σ) (sH σ) := pF_mono (by omega)
  exact this
theorem pS_lt {σ : SG} (hv : VB σ) {p : Nat} (hp : p < sL σ) : pS (sW σ) p < sH σ := by
  have h4 := sL_4 hv
  obtain ⟨a, b, c⟩ := pS_in (W := sW σ) (p := p) (by omega)
  rcases Nat.lt_or_ge (pS (sW σ) p) (sH σ) with h | h
  · exact h
  · have : pF (sW σ) (sH σ) ≤ pF (sW σ) (pS (sW σ) p) := pF_mono h
    unfold sL at hp
    omega
theorem c_goesTo {l : Launch} {d : Nat} {σ : SG} {g : vx_M} (hB : BC σ g) {x : Nat} (hx : x < 8) (s : Int) : vNi l mX2_goesTo d [.inr (some 20), .inl (x : Int), .inl s] SH g (fun r g' => g' = g ∧ ((r = 1 ∧ sA σ 5 x = 0 ∧ s ≤ sA σ 3 x) ∨ (r = 0 ∧ ¬ (sA σ 5 x = 0 ∧ s ≤ sA σ 3 x)))) := by
  have e5 := hB.2.2.1.2 5 x (by omega) hx
  have e3 := hB.2.2.1.2 3 x (by omega) hx
  rw [show 14 + 5 = 19 from rfl] at e5
  rw [show 14 + 3 = 17 from rfl] at e3
  refine kX2_goesTo g x s ⟨⟨by omega, by omega⟩, fun c => ⟨rfl, Or.inr ⟨rfl, fun h => c (by rw [e5]; exact h.1)⟩⟩, fun c => ⟨⟨by omega, by omega⟩, fun c2 => ⟨rfl, Or.inr ⟨rfl, fun h => by rw [e3] at c2; omega⟩⟩, fun c2 => ⟨rfl, Or.inl ⟨rfl, by rw [← e5]; exact c, by rw [e3] at c2; omega⟩⟩⟩⟩
theorem c_mostLoad {l : Launch} {d : Nat} {σ : SG} {g : vx_M} (hB : BC σ g) {x : Nat} (hx : x < sN σ) : vNi l mX2_mostLoad d [.inr (some 20), .inl (x : Int)] SH g (fun r g' => g' = g ∧ r = 8 * sA σ 2 x) := by
  have hn := hB.1.2.2.2.1
  have e2 := hB.2.2.1.2 2 x (by omega) (by omega)
  rw [show 14 + 2 = 16 from rfl] at e2
  have hb := (hB.1.2.2.2.2.1 x hx).2.2.1
  refine kX2_mostLoad g x ⟨⟨by omega, by omega⟩, ?_, ?_⟩
  · rw [e2]; exact ⟨by omega, by omega⟩
  · rw [e2]; exact ⟨rfl, rfl⟩
theorem c_loadOn {l : Launch} {d : Nat} {σ : SG} {g : vx_M} (hB : BC σ g) {r : List Nat} (hr : HB σ r 39 g) {q m : Nat} (hq : q < 7) (hm : m ≤ sL σ) : vNi l mX2_loadOn d [.inr (some 20), .inr (some 39), .inl (q : Int), .inl (m : Int)] SH g (fun z g' => g' = g ∧ z = lD σ r q m) := by
  have hv := hB.1
  have h7 : sL σ ≤ 7 := hv.2.2.1
  refine kX2_loadOn g q m ⟨⟨by omega, by omega⟩, ?_⟩
  have key : ∀ (k i : Nat), i + k = m ∨ (k = 0 ∧ m ≤ i) → q < i → ∀ acc, acc = lD σ r q (min i m) → vN l mX2_loadOn d (vx_pi SH (fun z g' => g' = g ∧ z = lD σ r q m)) SH g 8 [some (.inr (some 20)), some (.inr (some 39)), some (.inl (q : Int)), some (.inl (m : Int)), some (.inl acc), some (.inl (i : Int))] [] := by
    intro k
    induction k with
    | zero =>
      intro i hi hqi acc ha
      refine tX2_loadOn_8 g _ _ _ _ ⟨fun _ => ⟨rfl, ?_⟩, fun c => by omega⟩
      rw [ha, show min i m = m by omega]
    | succ k ih =>
      intro i hi hqi acc ha
      have hi2 : i < m := by omega
      have e39 := hr.2 i (by omega)
      have hxn := hr.1.2 i (by omega)
      have hn := hv.2.2.2.1
      have e15 := hB.2.2.1.2 1 (r.getD i 0) (by omega) (by omega)
      rw [show 14 + 1 = 15 from rfl] at e15
      have eS := hB.2.1.2.2.2.2 i q (by unfold sL at hm; omega) hq
      have bH := pH_le (W := sW σ) i q
      have bW := (hv.2.2.2.2.1 _ hxn).2.1
      have hl := lD_bound (q := q) hv hr.1 (show i + 1 ≤ sL σ by omega)
      have hl0 := lD_bound (q := q) hv hr.1 (show i ≤ sL σ by omega)
      have el : lD σ r q (i + 1) = lD σ r q i + (pH (sW σ) i q : Int) * sA σ 1 (r.getD i 0) := by
        show lD σ r q i + (if q < i then _ else _) = _
        rw [if_pos hqi]
      rw [show min i m = i by omega] at ha
      have hmul : 0 ≤ (pH (sW σ) i q : Int) * sA σ 1 (r.getD i 0) := Int.mul_nonneg (by omega) (by omega)
      refine tX2_loadOn_8 g _ _ _ _ ⟨fun c => by omega, fun _ => ⟨⟨by omega, by omega⟩, ⟨by omega, by omega⟩, ⟨by omega, by omega⟩, ⟨by omega, by omega⟩, ?_, ?_, ⟨by omega, by omega⟩, ?_⟩⟩
      · rw [Int.toNat_natCast, eS, e39, e15]; exact ⟨by omega, by omega⟩
      · rw [Int.toNat_natCast, eS, e39, e15, ha]; exact ⟨by omega, by omega⟩
      · rw [Int.toNat_natCast, eS, e39, e15, ha]
        have h9 := ih (i + 1) (by omega) (by omega) _ (show lD σ r q i + (pH (sW σ) i q : Int) * sA σ 1 (r.getD i 0) = lD σ r q (min (i + 1) m) by rw [show min (i + 1) m = i + 1 by omega, el])
        exact h9
  have h0 : (0 : Int) = lD σ r q (min (q + 1) m) := (ld_low _ (by omega)).symm
  have h := key (m - (q + 1)) (q + 1) (by omega) (by omega) 0 h0
  exact h
theorem c_spread {l : Launch} {d : Nat} {σ : SG} {g : vx_M} (hB : BC σ g) {r : List Nat} (hr : HB σ r 39 g) {s : Nat} (hs : s < sH σ) : vNi l mX2_spread (d + 1) [.inr (some 20), .inr (some 39), .inl (s : Int)] SH g (fun z g' => g' = g ∧ z = sprd σ r s) := by
  have hv := hB.1
  have h7 : sL σ ≤ 7 := hv.2.2.1
  have h4 := hv.1.2
  have hn := hv.2.2.2.1
  have hp := pl_in hv hs
  have ws := hv.2.1 s
  have e3 := hB.2.1.2.2.1 s hs
  have e2 := hB.2.2.2.2 s (by omega)
  have rd : ∀ p : Nat, p < sL σ → 0 ≤ g 39 p ∧ g 39 p < 8 ∧ g 14 (g 39 p) = hU σ r p := fun p hp => by
    have e39 := hr.2 p hp
    have hxn := hr.1.2 p hp
    have e14 := hB.2.2.1.2 0 (r.getD p 0) (by omega) (by omega)
    rw [show 14 + 0 = 14 from rfl] at e14
    rw [e39]
    exact ⟨by omega, by omega, e14⟩
  have bd : ∀ p : Nat, p < sL σ → 100 ≤ hU σ r p ∧ hU σ r p ≤ 200 := fun p hp => (hv.2.2.2.2.1 _ (hr.1.2 p hp)).1
  have r0 := rd (pF (sW σ) s) (by omega)
  refine kX2_spread g s ⟨⟨by omega, by omega⟩, ?_, ?_, ?_⟩
  · rw [e3]; exact ⟨by omega, by omega⟩
  · rw [e3]; exact ⟨r0.1, r0.2.1⟩
  · rw [e3, r0.2.2]
    have key : ∀ (k i : Nat), i + 1 + k = wq (sW σ) s → vN l mX2_spread (d + 1) (vx_pi SH (fun z g' => g' = g ∧ z = sprd σ r s)) SH g 30 [some (.inr (some 20)), some (.inr (some 39)), some (.inl (s : Int)), some (.inl (pF (sW σ) s : Int)), some (.inl (hmin (hU σ r) (pF (sW σ) s) i)), some (.inl (hmax (hU σ r) (pF (sW σ) s) i)), some (.inl ((i + 1 : Nat) : Int)), none] [] := by
      intro k
      induction k with
      | zero =>
        intro i hi
        have hb := hm_bound (hU σ r) (pF (sW σ) s) (a := 100) (b := 200) i (fun j hj => bd _ (by omega))
        have hle := hmin_le (hU σ r) (pF (sW σ) s) i
        refine tX2_spread_30 g _ _ _ _ _ ⟨⟨by omega, by omega⟩, fun _ => ⟨⟨by omega, by omega⟩, rfl, ?_⟩, fun c => by omega⟩
        unfold sprd
        rw [show wq (sW σ) s - 1 = i by omega]
      | succ k ih =>
        intro i hi
        have hb := hm_bound (hU σ r) (pF (sW σ) s) (a := 100) (b := 200) i (fun j hj => bd _ (by omega))
        have ri := rd (pF (sW σ) s + (i + 1)) (by omega)
        have ec : (pF (sW σ) s : Int) + ((i + 1 : Nat) : Int) = ((pF (sW σ) s + (i + 1) : Nat) : Int) := by omega
        refine tX2_spread_30 g _ _ _ _ _ ⟨⟨by omega, by omega⟩, fun c => by omega, fun _ => ⟨⟨by omega, by omega⟩, ⟨by omega, by omega⟩, ?_, ⟨by omega, by omega⟩, ?_⟩⟩
        · rw [ec]; exact ⟨ri.1, ri.2.1⟩
        · rw [ec, ri.2.2]
          exact ih (i + 1) (by omega)
    exact key (wq (sW σ) s - 1) 0 (by omega)
theorem c_admit {l : Launch} {d : Nat} {σ : SG} {g : vx_M} (hB : BC σ g) {r : List Nat} (hr : HB σ r 39 g) : vNi l mX2_admit (d + 2) [.inr (some 20), .inr (some 39)] SH g (fun z g' => g' = g ∧ ((z = 1 ∧ FIT σ r) ∨ (z = 0 ∧ ¬ FIT σ r))) := by
  have hv := hB.1
  have h7 : sL σ ≤ 7 := hv.2.2.1
  have h4 := hv.1.2
  have hn := hv.2.2.2.1
  have e5 : g 1 5 = (sL σ : Nat) := hB.2.1.2.1
  have e4 : g 1 4 = (sH σ : Nat) := hB.2.1.1
  refine kX2_admit g ?_
  have key2 : ∀ (k s : Nat), s + k = sH σ → (∀ p, p < sL σ → okP σ r p ∧ okL σ r p) → (∀ t, t < s → sprd σ r t ≤ sP σ) → vN l mX2_admit (d + 1 + 1) (vx_pi SH (fun z g' => g' = g ∧ ((z = 1 ∧ FIT σ r) ∨ (z = 0 ∧ ¬ FIT σ r)))) SH g 65 [some (.inr (some 20)), some (.inr (some 39)), some (.inl (s : Int)), none] [] := by
    intro k
    induction k with
    | zero =>
      intro s hs h1 h2
      refine tX2_admit_65 g _ ⟨fun _ => ⟨rfl, Or.inl ⟨rfl, h1, fun t ht => h2 t (by omega)⟩⟩, fun c => by omega⟩
    | succ k ih =>
      intro s hs h1 h2
      refine tX2_admit_65 g _ ⟨fun c => by omega, fun _ => ⟨_, c_spread hB hr (by omega), fun r1 g1 h => ?_⟩⟩
      obtain ⟨rfl, hr1⟩ := h
      have e20 := hB.2.2.2.1
      refine ⟨fun c => ⟨⟨by omega, by omega⟩, ?_⟩, fun c => ⟨rfl, Or.inr ⟨rfl, fun hF => ?_⟩⟩⟩
      · exact ih (s + 1) (by omega) h1 (fun t ht => by
          by_cases e : t = s
          · rw [e]; omega
          · exact h2 t (by omega))
      · have := hF.2 s (by omega)
        omega
  have key : ∀ (k p : Nat), p + k = sL σ → (∀ q, q < p → okP σ r q ∧ okL σ r q) → vN l mX2_admit (d + 1 + 1) (vx_pi SH (fun z g' => g' = g ∧ ((z = 1 ∧ FIT σ r) ∨ (z = 0 ∧ ¬ FIT σ r)))) SH g 2 [some (.inr (some 20)), some (.inr (some 39)), some (.inl (p : Int)), none] [] := by
    intro k
    induction k with
    | zero =>
      intro p hp h1
      refine tX2_admit_2 g _ ⟨fun _ => key2 (sH σ) 0 (by omega) (fun q hq => h1 q (by omega)) (fun t ht => by omega), fun c => by omega⟩
    | succ k ih =>
      intro p hp h1
      have e39 := hr.2 p (by omega)
      have hxn := hr.1.2 p (by omega)
      have ep4 : g 4 p = (pS (sW σ) p : Nat) := hB.2.1.2.2.2.1 p (by unfold sL at hp; omega)
      refine tX2_admit_2 g _ ⟨fun c => by omega, fun _ => ⟨⟨by omega, by omega⟩, ⟨by omega, by omega⟩, ?_⟩⟩
      rw [e39, ep4]
      refine ⟨_, c_goesTo hB (by omega) _, fun r3 g3 h => ?_⟩
      obtain ⟨rfl, h3⟩ := h
      refine ⟨fun c => ⟨rfl, Or.inr ⟨rfl, fun hF => ?_⟩⟩, fun c => ?_⟩
      · rcases h3 with ⟨h3, -⟩ | ⟨-, h3⟩
        · omega
        · exact h3 ((hF.1 p (by omega)).1)
      · rw [e5]
        refine ⟨_, c_loadOn hB hr (by omega) (Nat.le_refl _), fun r4 g4 h => ?_⟩
        obtain ⟨rfl, h4⟩ := h
        refine ⟨_, c_mostLoad hB hxn, fun r5 g5 h => ?_⟩
        obtain ⟨rfl, h5⟩ := h
        have hP : okP σ r p := by
          rcases h3 with ⟨-, h3⟩ | ⟨h3, -⟩
          · exact h3
          · exact absurd h3 c
        refine ⟨fun c2 => ⟨⟨by omega, by omega⟩, ?_⟩, fun c2 => ⟨rfl, Or.inr ⟨rfl, fun hF => ?_⟩⟩⟩
        · exact ih (p + 1) (by omega) (fun q hq => by
            by_cases e : q = p
            · rw [e]; exact ⟨hP, by unfold okL; omega⟩
            · exact h1 q (by omega))
        · have := (hF.1 p (by omega)).2
          unfold okL at this
          omega
  exact key (sL σ) 0 (by omega) (fun q hq => by omega)
end

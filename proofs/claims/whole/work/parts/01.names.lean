-- ===== PART A: goes FIRST, ahead of the names: the tables' words, and 'selects' of the private methods out of them =====
/-- a private method of a class that the tables say can be made, by its rows of tables_1 -/
def lw_okq (q : MethodName × Nat) : Prop := (q.1.cls ≠ "java/lang/invoke/MethodHandle" ∧ q.1.cls ≠ "java/lang/invoke/VarHandle") ∧ Cond.instantiable q.1.cls q.2 ∈ tables_1 ∧ Cond.privateMethod q.1 ∈ tables_1 ∧ Cond.instanceMethod q.1 ∈ tables_1
theorem lw_p0 : lw_okq (⟨"PeopleTower$Tower", "shareOut", "(III)V"⟩, 6) := ⟨⟨by decide +kernel, by decide +kernel⟩, List.mem_of_getElem? (i := 20) (by decide +kernel), List.mem_of_getElem? (i := 35) (by decide +kernel), List.mem_of_getElem? (i := 36) (by decide +kernel)⟩
theorem lw_p1 : lw_okq (⟨"PeopleTower$Tower", "restHalfOn", "([II)V"⟩, 6) := ⟨⟨by decide +kernel, by decide +kernel⟩, List.mem_of_getElem? (i := 20) (by decide +kernel), List.mem_of_getElem? (i := 42) (by decide +kernel), List.mem_of_getElem? (i := 43) (by decide +kernel)⟩
theorem lw_p2 : lw_okq (⟨"PeopleTower", "endPlacing", "()V"⟩, 10) := ⟨⟨by decide +kernel, by decide +kernel⟩, List.mem_of_getElem? (i := 12) (by decide +kernel), List.mem_of_getElem? (i := 262) (by decide +kernel), List.mem_of_getElem? (i := 263) (by decide +kernel)⟩
theorem lw_p3 : lw_okq (⟨"PeopleTower$Search", "start", "(ZI)V"⟩, 13) := ⟨⟨by decide +kernel, by decide +kernel⟩, List.mem_of_getElem? (i := 139) (by decide +kernel), List.mem_of_getElem? (i := 294) (by decide +kernel), List.mem_of_getElem? (i := 295) (by decide +kernel)⟩
theorem lw_p4 : lw_okq (⟨"PeopleTower$Search", "walk", "(IIII)V"⟩, 13) := ⟨⟨by decide +kernel, by decide +kernel⟩, List.mem_of_getElem? (i := 139) (by decide +kernel), List.mem_of_getElem? (i := 299) (by decide +kernel), List.mem_of_getElem? (i := 300) (by decide +kernel)⟩
theorem lw_p5 : lw_okq (⟨"PeopleTower$Search", "arrive", "(I)V"⟩, 13) := ⟨⟨by decide +kernel, by decide +kernel⟩, List.mem_of_getElem? (i := 139) (by decide +kernel), List.mem_of_getElem? (i := 303) (by decide +kernel), List.mem_of_getElem? (i := 304) (by decide +kernel)⟩
theorem lw_p6 : lw_okq (⟨"PeopleTower$Search", "goOnWith", "(IIIII)V"⟩, 13) := ⟨⟨by decide +kernel, by decide +kernel⟩, List.mem_of_getElem? (i := 139) (by decide +kernel), List.mem_of_getElem? (i := 318) (by decide +kernel), List.mem_of_getElem? (i := 319) (by decide +kernel)⟩
theorem lw_p7 : lw_okq (⟨"PeopleTower$Search", "bearsAlso", "(II)Z"⟩, 13) := ⟨⟨by decide +kernel, by decide +kernel⟩, List.mem_of_getElem? (i := 139) (by decide +kernel), List.mem_of_getElem? (i := 326) (by decide +kernel), List.mem_of_getElem? (i := 327) (by decide +kernel)⟩
theorem lw_p8 : lw_okq (⟨"PeopleTower", "isPlace", "(I)Z"⟩, 10) := ⟨⟨by decide +kernel, by decide +kernel⟩, List.mem_of_getElem? (i := 12) (by decide +kernel), List.mem_of_getElem? (i := 363) (by decide +kernel), List.mem_of_getElem? (i := 364) (by decide +kernel)⟩
theorem lw_p9 : lw_okq (⟨"PeopleTower", "exchange", "(II)V"⟩, 10) := ⟨⟨by decide +kernel, by decide +kernel⟩, List.mem_of_getElem? (i := 12) (by decide +kernel), List.mem_of_getElem? (i := 379) (by decide +kernel), List.mem_of_getElem? (i := 380) (by decide +kernel)⟩
theorem lw_p10 : lw_okq (⟨"PeopleTower$Rules", "spread", "([II)I"⟩, 3) := ⟨⟨by decide +kernel, by decide +kernel⟩, List.mem_of_getElem? (i := 121) (by decide +kernel), List.mem_of_getElem? (i := 390) (by decide +kernel), List.mem_of_getElem? (i := 391) (by decide +kernel)⟩
theorem lw_p11 : lw_okq (⟨"PeopleTower$Climb", "ticksFor", "(I)I"⟩, 7) := ⟨⟨by decide +kernel, by decide +kernel⟩, List.mem_of_getElem? (i := 187) (by decide +kernel), List.mem_of_getElem? (i := 405) (by decide +kernel), List.mem_of_getElem? (i := 406) (by decide +kernel)⟩
theorem lw_p12 : lw_okq (⟨"PeopleTower$Climb", "pass", "([IIIII)I"⟩, 7) := ⟨⟨by decide +kernel, by decide +kernel⟩, List.mem_of_getElem? (i := 187) (by decide +kernel), List.mem_of_getElem? (i := 409) (by decide +kernel), List.mem_of_getElem? (i := 410) (by decide +kernel)⟩
theorem lw_p13 : lw_okq (⟨"PeopleTower$Climb", "tire", "([II)V"⟩, 7) := ⟨⟨by decide +kernel, by decide +kernel⟩, List.mem_of_getElem? (i := 187) (by decide +kernel), List.mem_of_getElem? (i := 414) (by decide +kernel), List.mem_of_getElem? (i := 415) (by decide +kernel)⟩
theorem lw_p14 : lw_okq (⟨"PeopleTower", "pointsOfTry", "()I"⟩, 10) := ⟨⟨by decide +kernel, by decide +kernel⟩, List.mem_of_getElem? (i := 12) (by decide +kernel), List.mem_of_getElem? (i := 438) (by decide +kernel), List.mem_of_getElem? (i := 439) (by decide +kernel)⟩
theorem lw_p15 : lw_okq (⟨"PeopleTowerModel", "findPlaces", "()V"⟩, 32) := ⟨⟨by decide +kernel, by decide +kernel⟩, List.mem_of_getElem? (i := 450) (by decide +kernel), List.mem_of_getElem? (i := 456) (by decide +kernel), List.mem_of_getElem? (i := 457) (by decide +kernel)⟩
def lw_privs_1 : List (MethodName × Nat) := [(⟨"PeopleTower$Tower", "shareOut", "(III)V"⟩, 6), (⟨"PeopleTower$Tower", "restHalfOn", "([II)V"⟩, 6), (⟨"PeopleTower", "endPlacing", "()V"⟩, 10), (⟨"PeopleTower$Search", "start", "(ZI)V"⟩, 13), (⟨"PeopleTower$Search", "walk", "(IIII)V"⟩, 13), (⟨"PeopleTower$Search", "arrive", "(I)V"⟩, 13), (⟨"PeopleTower$Search", "goOnWith", "(IIIII)V"⟩, 13), (⟨"PeopleTower$Search", "bearsAlso", "(II)Z"⟩, 13), (⟨"PeopleTower", "isPlace", "(I)Z"⟩, 10), (⟨"PeopleTower", "exchange", "(II)V"⟩, 10), (⟨"PeopleTower$Rules", "spread", "([II)I"⟩, 3), (⟨"PeopleTower$Climb", "ticksFor", "(I)I"⟩, 7), (⟨"PeopleTower$Climb", "pass", "([IIIII)I"⟩, 7), (⟨"PeopleTower$Climb", "tire", "([II)V"⟩, 7), (⟨"PeopleTower", "pointsOfTry", "()I"⟩, 10), (⟨"PeopleTowerModel", "findPlaces", "()V"⟩, 32)]
theorem lw_r1 : ∀ q ∈ lw_privs_1, lw_okq q := List.forall_mem_cons.mpr ⟨lw_p0, List.forall_mem_cons.mpr ⟨lw_p1, List.forall_mem_cons.mpr ⟨lw_p2, List.forall_mem_cons.mpr ⟨lw_p3, List.forall_mem_cons.mpr ⟨lw_p4, List.forall_mem_cons.mpr ⟨lw_p5, List.forall_mem_cons.mpr ⟨lw_p6, List.forall_mem_cons.mpr ⟨lw_p7, List.forall_mem_cons.mpr ⟨lw_p8, List.forall_mem_cons.mpr ⟨lw_p9, List.forall_mem_cons.mpr ⟨lw_p10, List.forall_mem_cons.mpr ⟨lw_p11, List.forall_mem_cons.mpr ⟨lw_p12, List.forall_mem_cons.mpr ⟨lw_p13, List.forall_mem_cons.mpr ⟨lw_p14, List.forall_mem_cons.mpr ⟨lw_p15, fun _ h => absurd h List.not_mem_nil⟩⟩⟩⟩⟩⟩⟩⟩⟩⟩⟩⟩⟩⟩⟩⟩
theorem lw_p16 : lw_okq (⟨"PeopleTowerModel", "sum", "(I)I"⟩, 32) := ⟨⟨by decide +kernel, by decide +kernel⟩, List.mem_of_getElem? (i := 450) (by decide +kernel), List.mem_of_getElem? (i := 564) (by decide +kernel), List.mem_of_getElem? (i := 565) (by decide +kernel)⟩
theorem lw_p17 : lw_okq (⟨"PeopleTowerModel", "isPerson", "(I)Z"⟩, 32) := ⟨⟨by decide +kernel, by decide +kernel⟩, List.mem_of_getElem? (i := 450) (by decide +kernel), List.mem_of_getElem? (i := 580) (by decide +kernel), List.mem_of_getElem? (i := 581) (by decide +kernel)⟩
theorem lw_p18 : lw_okq (⟨"PeopleTowerModel", "findPlacings", "()V"⟩, 32) := ⟨⟨by decide +kernel, by decide +kernel⟩, List.mem_of_getElem? (i := 450) (by decide +kernel), List.mem_of_getElem? (i := 592) (by decide +kernel), List.mem_of_getElem? (i := 593) (by decide +kernel)⟩
theorem lw_p19 : lw_okq (⟨"PeopleTowerModel", "fitsSo", "()I"⟩, 32) := ⟨⟨by decide +kernel, by decide +kernel⟩, List.mem_of_getElem? (i := 450) (by decide +kernel), List.mem_of_getElem? (i := 596) (by decide +kernel), List.mem_of_getElem? (i := 597) (by decide +kernel)⟩
theorem lw_p20 : lw_okq (⟨"PeopleTowerModel", "findLoads", "(I)V"⟩, 32) := ⟨⟨by decide +kernel, by decide +kernel⟩, List.mem_of_getElem? (i := 450) (by decide +kernel), List.mem_of_getElem? (i := 600) (by decide +kernel), List.mem_of_getElem? (i := 601) (by decide +kernel)⟩
theorem lw_p21 : lw_okq (⟨"PeopleTowerModel", "uneven", "()I"⟩, 32) := ⟨⟨by decide +kernel, by decide +kernel⟩, List.mem_of_getElem? (i := 450) (by decide +kernel), List.mem_of_getElem? (i := 604) (by decide +kernel), List.mem_of_getElem? (i := 605) (by decide +kernel)⟩
theorem lw_p22 : lw_okq (⟨"PeopleTowerModel", "hasNext", "()Z"⟩, 32) := ⟨⟨by decide +kernel, by decide +kernel⟩, List.mem_of_getElem? (i := 450) (by decide +kernel), List.mem_of_getElem? (i := 608) (by decide +kernel), List.mem_of_getElem? (i := 609) (by decide +kernel)⟩
theorem lw_p23 : lw_okq (⟨"PeopleTowerModel", "isAhead", "(I)Z"⟩, 32) := ⟨⟨by decide +kernel, by decide +kernel⟩, List.mem_of_getElem? (i := 450) (by decide +kernel), List.mem_of_getElem? (i := 612) (by decide +kernel), List.mem_of_getElem? (i := 613) (by decide +kernel)⟩
theorem lw_p24 : lw_okq (⟨"PeopleTowerModel", "isPlace", "(I)Z"⟩, 32) := ⟨⟨by decide +kernel, by decide +kernel⟩, List.mem_of_getElem? (i := 450) (by decide +kernel), List.mem_of_getElem? (i := 632) (by decide +kernel), List.mem_of_getElem? (i := 633) (by decide +kernel)⟩
theorem lw_p25 : lw_okq (⟨"PeopleTowerModel", "useHand", "()V"⟩, 32) := ⟨⟨by decide +kernel, by decide +kernel⟩, List.mem_of_getElem? (i := 450) (by decide +kernel), List.mem_of_getElem? (i := 640) (by decide +kernel), List.mem_of_getElem? (i := 641) (by decide +kernel)⟩
theorem lw_p26 : lw_okq (⟨"PeopleTowerModel", "climb", "(I)I"⟩, 32) := ⟨⟨by decide +kernel, by decide +kernel⟩, List.mem_of_getElem? (i := 450) (by decide +kernel), List.mem_of_getElem? (i := 652) (by decide +kernel), List.mem_of_getElem? (i := 653) (by decide +kernel)⟩
theorem lw_p27 : lw_okq (⟨"PeopleTowerModel", "findTimes", "()I"⟩, 32) := ⟨⟨by decide +kernel, by decide +kernel⟩, List.mem_of_getElem? (i := 450) (by decide +kernel), List.mem_of_getElem? (i := 656) (by decide +kernel), List.mem_of_getElem? (i := 657) (by decide +kernel)⟩
def lw_privs_2 : List (MethodName × Nat) := [(⟨"PeopleTowerModel", "sum", "(I)I"⟩, 32), (⟨"PeopleTowerModel", "isPerson", "(I)Z"⟩, 32), (⟨"PeopleTowerModel", "findPlacings", "()V"⟩, 32), (⟨"PeopleTowerModel", "fitsSo", "()I"⟩, 32), (⟨"PeopleTowerModel", "findLoads", "(I)V"⟩, 32), (⟨"PeopleTowerModel", "uneven", "()I"⟩, 32), (⟨"PeopleTowerModel", "hasNext", "()Z"⟩, 32), (⟨"PeopleTowerModel", "isAhead", "(I)Z"⟩, 32), (⟨"PeopleTowerModel", "isPlace", "(I)Z"⟩, 32), (⟨"PeopleTowerModel", "useHand", "()V"⟩, 32), (⟨"PeopleTowerModel", "climb", "(I)I"⟩, 32), (⟨"PeopleTowerModel", "findTimes", "()I"⟩, 32)]
theorem lw_r2 : ∀ q ∈ lw_privs_2, lw_okq q := List.forall_mem_cons.mpr ⟨lw_p16, List.forall_mem_cons.mpr ⟨lw_p17, List.forall_mem_cons.mpr ⟨lw_p18, List.forall_mem_cons.mpr ⟨lw_p19, List.forall_mem_cons.mpr ⟨lw_p20, List.forall_mem_cons.mpr ⟨lw_p21, List.forall_mem_cons.mpr ⟨lw_p22, List.forall_mem_cons.mpr ⟨lw_p23, List.forall_mem_cons.mpr ⟨lw_p24, List.forall_mem_cons.mpr ⟨lw_p25, List.forall_mem_cons.mpr ⟨lw_p26, List.forall_mem_cons.mpr ⟨lw_p27, fun _ h => absurd h List.not_mem_nil⟩⟩⟩⟩⟩⟩⟩⟩⟩⟩⟩⟩
def lw_privs : List (MethodName × Nat) := lw_privs_1 ++ (lw_privs_2)
def lw_tbl : List Cond := k2_sels lw_privs ++ tables_1
theorem lw_privs_ok : ∀ q ∈ lw_privs, lw_okq q := by
  show ∀ q ∈ lw_privs_1 ++ (lw_privs_2), lw_okq q
  exact List.forall_mem_append.mpr ⟨lw_r1, lw_r2⟩

/-! ===== BEGIN words of one list among another's, by their places ===== -/
theorem goodIn_r {big : List Cond} (ws : List Cond) (ps : List Nat) (hp : ws = ps.filterMap (fun i => big[i]?)) (h : ws.all goodWord = true) : GoodIn big ws := by
  intro w hw
  have h1 := List.all_eq_true.mp h w hw
  rw [hp] at hw
  obtain ⟨i, -, hi⟩ := List.mem_filterMap.mp hw
  have hm : w ∈ big := by first | exact List.mem_of_getElem? hi | exact List.getElem?_mem hi
  exact ⟨hm, good_of_word h1⟩
theorem goodIn_app {big a b : List Cond} (ha : GoodIn big a) (hb : GoodIn big b) : GoodIn big (a ++ b) := fun w h => (List.mem_append.mp h).elim (ha w) (hb w)
theorem goodIn_ca {big a b : List Cond} {c : Cond} (ha : GoodIn big (c :: a)) (hb : GoodIn big b) : GoodIn big (c :: (a ++ b)) := fun w h => (List.mem_cons.mp h).elim (fun e => ha w (List.mem_cons.mpr (Or.inl e))) (fun h => (List.mem_append.mp h).elim (fun h => ha w (List.mem_cons.mpr (Or.inr h))) (hb w))
theorem goodIn_sub {big ws : List Cond} (hm : ∀ w ∈ ws, w ∈ big) (h : ws.all goodWord = true) : GoodIn big ws := fun w hw => ⟨hm w hw, good_of_word (List.all_eq_true.mp h w hw)⟩
/-! ===== END ===== -/

/-! ===== BEGIN new T[n][m]: the outer array a place, the inner ones among the pooled ===== -/
/-- f, but v at every address of l -/
def vr_up {α : Type} (f : Nat → α) (l : List Nat) (v : α) : Nat → α := fun a => if a ∈ l then v else f a
theorem vr_up_in {α : Type} {f : Nat → α} {l : List Nat} {v : α} {a : Nat} (h : a ∈ l) : vr_up f l v a = v := if_pos h
theorem vr_up_ne {α : Type} {f : Nat → α} {l : List Nat} {v : α} {a : Nat} (h : a ∉ l) : vr_up f l v a = f a := if_neg h
theorem vr_rows {L l : List Nat} {f : Nat → va_E} {e : va_E} (h : ∀ a, a ∈ l → a ∉ L) : va_pl L f ++ l.map (fun a => (a, e)) = va_pl (L ++ l) (vr_up f l e) := by
  unfold va_pl
  rw [List.map_append]
  congr 1
  · apply List.map_congr_left
    intro a ha
    rw [vr_up_ne (fun q => h a q ha)]
  · apply List.map_congr_left
    intro a ha
    rw [vr_up_in ha]
theorem vr_lay {X rows : va_W} {x : Nat × va_E} {pl : va_W} {D : va_G} {cl : List vw_C} {H : Heap} (hP : va_P D cl (((X ++ pl) ++ [x]) ++ rows) H) : va_P D cl ((X ++ [x]) ++ (pl ++ rows)) H := by
  rw [List.append_assoc (X ++ pl)] at hP
  have h := va_P.swap hP
  rw [← List.append_assoc X] at h
  have h2 := va_P.swap h
  rw [List.append_assoc (X ++ [x])] at h2
  exact h2
theorem vr_layD {X rows : va_W} {x : Nat × va_E} {pl : va_W} {A : Nat → Prop} (hD : va_D A (((X ++ pl) ++ [x]) ++ rows)) : va_D A ((X ++ [x]) ++ (pl ++ rows)) := by
  rw [List.append_assoc (X ++ pl)] at hD
  have h := va_D.swap hD
  rw [← List.append_assoc X] at h
  have h2 := va_D.swap h
  rw [List.append_assoc (X ++ [x])] at h2
  exact h2
theorem vr_outer (c : ClassId) (N h0 : Nat) : ∀ i : Nat, Jvm.Free.Multi.outerC c N h0 i = arrV c N (fun j => va_rf (if j < i then some (h0 + 1 + j) else none))
  | 0 => by
    show ({ cls := c, slots := Array.replicate N .null, vm := .none } : Cell) = _
    rw [arrV_new]
    refine congrArg (arrV c N) (funext fun j => ?_)
    simp [va_rf]
  | i + 1 => by
    show (Jvm.Free.Multi.outerC c N h0 i).setSlot i (.ref (h0 + 1 + i)) = _
    rw [vr_outer c N h0 i, arrV_store]
    refine congrArg (arrV c N) (funext fun j => ?_)
    by_cases e : j = i
    · subst e
      simp [updV, va_rf]
    · by_cases h : j < i
      · simp [updV, e, h, Nat.lt_succ_of_lt h]
      · simp [updV, e, h, show ¬ j < i + 1 by omega]
section VGM
variable {p : Program} {l : Launch} {e : Env} {R : Room} {s : State} {m : MethodId} {args : Array Value} {below : List Frame} {meth : Method} {c : Code} {H : Heap} {locs : List Loc} {cells slots : Nat} {Q : State → Prop}
variable {cc : ByteArray} {pc : Nat} {ls : Array Slot} {rest : List Value} {D : va_G} {cl : List vw_C} {A : Nat → Prop} {a : Nat} {tys : List (ClassId × FieldType)} {ws : va_W} {H0 : Heap}
theorem va_mna {X : va_W} {L : List Nat} {f : Nat → va_E} {cc : ByteArray} (hexec : p.tables.exec = Jvm.exec) (hb : c.code = cc) {own : String} {index : Nat} {ty : FieldType} {cy : ClassId} (hown : s.vm.findClass own = some m.cls) (hclink : (Cond.classLink own index ("[" ++ (FieldType.array ty).toString)).before args s = true) (hover : (Cond.arrayOver (.array ty)).before args s = true) (harr : (Cond.arrayClass ty).before args s = true) (hcy : s.vm.findClass (FieldType.array ty).toString = some cy)
    (hK : va_K D cl tys s) (hP : va_P D cl (X ++ va_pl L f) H) (hD : va_D A (X ++ va_pl L f)) (hS : va_S A H0 H locs) (hA : ∀ q, H0.size ≤ q → A q) {n k : Int32} {N' K' : Nat} {z : vp_A} (hn : ¬ n < 0) (hk : ¬ k < 0) (hN : n.toNatClampNeg = N') (hM : k.toNatClampNeg = K')
    (hb1 : N' * 4 ≤ 536870912) (hb2 : K' * componentBytes ty ≤ 536870912) (hb3 : K' ≤ 536870912) (hdf : fits ty (defaultValue ty) = true) (hdd : (defaultValue ty).isDefault = true) (hcells : cells + (1 + N') ≤ R.cells) (hslots : slots + (N' + N' * K') ≤ R.slots) (hz : ∀ c : ClassId, Jvm.Free.Multi.innerC c K' (defaultValue ty) = vp_cell c z) (hdg : decode cc pc = .ok (.multianewarray index 2, 4))
    (kk : ∀ (q : Nat) (r : Nat → Nat) (cA : ClassId) (H1 : Heap), (∀ i j : Nat, i < N' → j < N' → r i = r j → i = j) → (∀ i : Nat, i < N' → r i ∉ L) → va_K D cl (tys ++ [(cA, .array ty)]) s →
      va_P D cl ((X ++ [(q, .inl (cA, N', .inr (.inr (.inr (.inr (fun i => if i < N' then some (r i) else none))))))]) ++ va_pl (L ++ (List.range N').map r) (vr_up f ((List.range N').map r) (.inl (cy, z)))) H1 → va_D A ((X ++ [(q, .inl (cA, N', .inr (.inr (.inr (.inr (fun i => if i < N' then some (r i) else none))))))]) ++ va_pl (L ++ (List.range N').map r) (vr_up f ((List.range N').map r) (.inl (cy, z)))) → va_S A H0 H1 locs →
      W p l e R s m args below meth c H1 locs (cells + 1 + N') (slots + N' + N' * K') Q (F0 m (pc + 4) ls (.ref q :: rest))) : W p l e R s m args below meth c H locs cells slots Q (F0 m pc ls (.int k :: .int n :: rest)) := by
  subst hN
  subst hM
  intro T hT Xs
  obtain ⟨vm₁, cA, comp, -, fA, fC, hO, -, X', step⟩ := Xs.multianewarray2F hexec hown hclink hover harr (g := F0 m pc ls (.int k :: .int n :: rest)) rfl (by rw [hb]; exact hdg) rfl hn hk hb1 hb2 hb3 hdf hdd hcells hslots
  have ec : some cy = some comp := hcy.symm.trans fC
  cases ec
  generalize hF : Jvm.Free.Multi.fill (T.setVm vm₁) cA cy n.toNatClampNeg k.toNatClampNeg (defaultValue ty) n.toNatClampNeg = F at X' step
  have hTh : (T.setVm vm₁).heap = H := hT
  obtain ⟨f1, f2, -, -⟩ := Jvm.Free.Multi.fill_facts (T.setVm vm₁) cA cy n.toNatClampNeg k.toNatClampNeg (defaultValue ty) n.toNatClampNeg
  rw [hF, hTh] at f1 f2
  have hold : ∀ x : Nat, x < H.size → F.heap[x]? = H[x]? := fun x hx => by
    have := Jvm.Free.Multi.fill_old (T.setVm vm₁) cA cy n.toNatClampNeg k.toNatClampNeg (defaultValue ty) (a := x) (by rw [hTh]; exact hx) n.toNatClampNeg
    rw [hF, hTh] at this
    exact this
  have hrow : ∀ j : Nat, j < n.toNatClampNeg → F.heap[H.size + 1 + j]? = some (vp_cell cy z) := fun j hj => by
    have := Jvm.Free.Multi.fill_inner (T.setVm vm₁) cA cy n.toNatClampNeg k.toNatClampNeg (defaultValue ty) n.toNatClampNeg j hj
    rw [hF, hTh, hz] at this
    exact this
  have hout : Jvm.Free.Multi.outerC cA n.toNatClampNeg H.size n.toNatClampNeg = vp_cell cA (n.toNatClampNeg, .inr (.inr (.inr (.inr (fun i => if i < n.toNatClampNeg then some (H.size + 1 + i) else none))))) := by
    rw [vp_cell_q]
    exact vr_outer cA n.toNatClampNeg H.size n.toNatClampNeg
  rw [hout] at f2
  have hlt : ∀ a, a ∈ L → a < H.size := fun a ha => by
    obtain ⟨k9, hk9⟩ := va_pl_get (X := X) (f := f) ha
    exact (hP k9 _ hk9).lt
  have hnl : ∀ i : Nat, i < n.toNatClampNeg → H.size + 1 + i ∉ L := fun i _ h => by
    have := hlt _ h
    omega
  have hnm : ∀ a, a ∈ (List.range n.toNatClampNeg).map (fun i => H.size + 1 + i) → a ∉ L := fun a ha h => by
    obtain ⟨i, -, rfl⟩ := List.mem_map.mp ha
    have := hlt _ h
    omega
  have hP0 : va_P D cl (X ++ va_pl L f) F.heap := hP.kept (fun k9 x hx => hold x.1 ((hP k9 x hx).lt))
  have hP1 : va_P D cl ((X ++ va_pl L f) ++ [(H.size, .inl (cA, n.toNatClampNeg, .inr (.inr (.inr (.inr (fun i => if i < n.toNatClampNeg then some (H.size + 1 + i) else none))))))]) F.heap := hP0.app (fun k9 x hx => by
    have h0 : k9 < 1 := (List.getElem?_eq_some_iff.mp hx).1
    rw [show k9 = 0 by omega] at hx
    cases hx
    exact f2)
  have hP2 : va_P D cl (((X ++ va_pl L f) ++ [(H.size, .inl (cA, n.toNatClampNeg, .inr (.inr (.inr (.inr (fun i => if i < n.toNatClampNeg then some (H.size + 1 + i) else none))))))]) ++ ((List.range n.toNatClampNeg).map (fun i => H.size + 1 + i)).map (fun a => (a, .inl (cy, z)))) F.heap := hP1.app (fun k9 x hx => by
    obtain ⟨a, ha, rfl⟩ := List.mem_map.mp (List.mem_of_getElem? hx)
    obtain ⟨i, hi, rfl⟩ := List.mem_map.mp ha
    exact hrow i (List.mem_range.mp hi))
  have hD2 : va_D A (((X ++ va_pl L f) ++ [(H.size, .inl (cA, n.toNatClampNeg, .inr (.inr (.inr (.inr (fun i => if i < n.toNatClampNeg then some (H.size + 1 + i) else none))))))]) ++ ((List.range n.toNatClampNeg).map (fun i => H.size + 1 + i)).map (fun a => (a, .inl (cy, z)))) := by
    have hD1 := hD.push (e := .inl (cA, n.toNatClampNeg, .inr (.inr (.inr (.inr (fun i => if i < n.toNatClampNeg then some (H.size + 1 + i) else none)))))) hP rfl (hA _ hS.1)
    generalize hW1 : (X ++ va_pl L f) ++ [(H.size, .inl (cA, n.toNatClampNeg, .inr (.inr (.inr (.inr (fun i => if i < n.toNatClampNeg then some (H.size + 1 + i) else none))))))] = W1 at hD1 hP1 ⊢
    have hle : ∀ (k9 : Nat) (x : Nat × va_E), W1[k9]? = some x → x.1 ≤ H.size := fun k9 x hx => by
      rw [← hW1] at hx
      by_cases hl : k9 < (X ++ va_pl L f).length
      · rw [List.getElem?_append_left hl] at hx
        exact Nat.le_of_lt ((hP k9 x hx).lt)
      · rw [List.getElem?_append_right (by omega)] at hx
        have h0 : k9 - (X ++ va_pl L f).length < 1 := (List.getElem?_eq_some_iff.mp hx).1
        rw [show k9 - (X ++ va_pl L f).length = 0 by omega] at hx
        cases hx
        exact Nat.le_refl _
    have hr : ∀ (k9 : Nat) (x : Nat × va_E), (((List.range n.toNatClampNeg).map (fun i => H.size + 1 + i)).map (fun a => ((a, .inl (cy, z)) : Nat × va_E)))[k9]? = some x → x.1 = H.size + 1 + k9 := fun k9 x hx => by
      rw [List.getElem?_map, List.getElem?_map] at hx
      by_cases h9 : k9 < n.toNatClampNeg
      · rw [List.getElem?_range h9] at hx
        cases hx
        rfl
      · have hn0 : (List.range n.toNatClampNeg)[k9]? = none := List.getElem?_eq_none (by rw [List.length_range]; omega)
        rw [hn0] at hx
        cases hx
    refine ⟨fun i j x y hi hj hxy => ?_, fun k9 x hx => ?_⟩
    · by_cases h1 : i < W1.length <;> by_cases h2 : j < W1.length
      · rw [List.getElem?_append_left h1] at hi
        rw [List.getElem?_append_left h2] at hj
        exact hD1.1 i j x y hi hj hxy
      · rw [List.getElem?_append_left h1] at hi
        rw [List.getElem?_append_right (by omega)] at hj
        have := hle _ _ hi
        have := hr _ _ hj
        omega
      · rw [List.getElem?_append_right (by omega)] at hi
        rw [List.getElem?_append_left h2] at hj
        have := hle _ _ hj
        have := hr _ _ hi
        omega
      · rw [List.getElem?_append_right (by omega)] at hi hj
        have := hr _ _ hi
        have := hr _ _ hj
        omega
    · by_cases h1 : k9 < W1.length
      · rw [List.getElem?_append_left h1] at hx
        exact hD1.2 k9 x hx
      · rw [List.getElem?_append_right (by omega)] at hx
        have := hr _ _ hx
        exact hA _ (by have := hS.1; omega)
  have hAr : ArrOfT s cA (.array ty) := fun N9 z9 => by
    obtain ⟨-, k9, hk9, cm9, hkk9⟩ := (hO 0 0 0).1
    exact ⟨(fun q hq => by cases hq), k9, hk9, cm9, hkk9⟩
  have hK2 : va_K D cl (tys ++ [(cA, .array ty)]) s := ⟨hK.1, fun k9 x hx => by
    by_cases hl : k9 < tys.length
    · rw [List.getElem?_append_left hl] at hx
      exact hK.2 k9 x hx
    · rw [List.getElem?_append_right (by omega)] at hx
      have h0 : k9 - tys.length < 1 := (List.getElem?_eq_some_iff.mp hx).1
      rw [show k9 - tys.length = 0 by omega] at hx
      cases hx
      exact ⟨hAr, fA⟩⟩
  obtain ⟨t, a1, b1⟩ := kk H.size (fun i => H.size + 1 + i) cA F.heap (fun i j _ _ h => by have h9 : H.size + 1 + i = H.size + 1 + j := h; omega) hnl hK2 (by rw [← vr_rows hnm]; exact vr_lay hP2) (by rw [← vr_rows hnm]; exact vr_layD hD2) ⟨by rw [f1]; have := hS.1; omega, fun x h1 h2 => (hold x (Nat.lt_of_lt_of_le h1 hS.1)).trans (hS.2.1 x h1 h2), hS.2.2⟩ F rfl X'
  refine ⟨t, step t ?_, b1⟩
  have e : T.heap.size = H.size := by rw [hT]
  rw [e]
  exact a1
end VGM
/-! ===== END ===== -/


def RX0 : String := "PeopleTower$Climb"
def TX0 : u_T := fun k => match k with
  | 0 => ("PeopleTower$Climb", "tower", "LPeopleTower$Tower;", true)
  | 1 => ("PeopleTower$Climb", "people", "LPeopleTower$People;", true)
  | 2 => ("PeopleTower$Climb", "rules", "LPeopleTower$Rules;", true)
  | 3 => ("PeopleTower$Climb", "strains", "[I", true)
  | 4 => ("PeopleTower$Climb", "efforts", "[I", true)
  | 5 => ("PeopleTower$Climb", "fall", "I", false)
  | _ => ("PeopleTower$Climb", "weakest", "I", false)
def tyX0 : Nat → FieldType := fun k => match k with
  | 0 => .object "PeopleTower$Tower"
  | 1 => .object "PeopleTower$People"
  | 2 => .object "PeopleTower$Rules"
  | 3 => .array .int
  | 4 => .array .int
  | 5 => .int
  | _ => .int
abbrev wsX00 : List Cond := u_ws RX0 TX0 7
theorem nmX0 : ∀ a, a < 7 → ∀ b, b < 7 → a ≠ b → (TX0 a).2.1 ≠ (TX0 b).2.1 := by decide +kernel
theorem tyX0_ok : ∀ k, k < 7 → parseFieldDescriptor (TX0 k).2.2.1 = some (tyX0 k) := by decide +kernel
abbrev cX0_init : ByteArray := prog_2_method_1_code
def yX0_init : MethodName := ⟨RX0, "<init>", "(LPeopleTower$Tower;LPeopleTower$People;LPeopleTower$Rules;)V"⟩
abbrev cX0_crowned : ByteArray := prog_2_method_2_code
def yX0_crowned : MethodName := ⟨RX0, "crowned", "()I"⟩
abbrev cX0_run : ByteArray := prog_2_method_3_code
def yX0_run : MethodName := ⟨RX0, "run", "([II)V"⟩
abbrev cX0_ticksFor : ByteArray := prog_2_method_4_code
def yX0_ticksFor : MethodName := ⟨RX0, "ticksFor", "(I)I"⟩
abbrev cX0_pass : ByteArray := prog_2_method_5_code
def yX0_pass : MethodName := ⟨RX0, "pass", "([IIIII)I"⟩
abbrev cX0_tire : ByteArray := prog_2_method_6_code
def yX0_tire : MethodName := ⟨RX0, "tire", "([II)V"⟩
def RX1 : String := "PeopleTower$People"
def TX1 : u_T := fun k => match k with
  | 0 => ("PeopleTower$People", "heights", "[I", true)
  | 1 => ("PeopleTower$People", "weights", "[I", true)
  | 2 => ("PeopleTower$People", "bearings", "[I", true)
  | 3 => ("PeopleTower$People", "fears", "[I", true)
  | 4 => ("PeopleTower$People", "staminas", "[I", true)
  | 5 => ("PeopleTower$People", "isOut", "[Z", true)
  | _ => ("PeopleTower$People", "size", "I", false)
def tyX1 : Nat → FieldType := fun k => match k with
  | 0 => .array .int
  | 1 => .array .int
  | 2 => .array .int
  | 3 => .array .int
  | 4 => .array .int
  | 5 => .array .boolean
  | _ => .int
abbrev wsX10 : List Cond := u_ws RX1 TX1 7
theorem nmX1 : ∀ a, a < 7 → ∀ b, b < 7 → a ≠ b → (TX1 a).2.1 ≠ (TX1 b).2.1 := by decide +kernel
theorem tyX1_ok : ∀ k, k < 7 → parseFieldDescriptor (TX1 k).2.2.1 = some (tyX1 k) := by decide +kernel
abbrev cX1_init : ByteArray := prog_3_method_1_code
def yX1_init : MethodName := ⟨RX1, "<init>", "()V"⟩
abbrev cX1_add : ByteArray := prog_3_method_2_code
def yX1_add : MethodName := ⟨RX1, "add", "(IIIII)I"⟩
abbrev cX1_countOut : ByteArray := prog_3_method_3_code
def yX1_countOut : MethodName := ⟨RX1, "countOut", "()I"⟩
def RX2 : String := "PeopleTower$Rules"
def TX2 : u_T := fun k => match k with
  | 0 => ("PeopleTower$Rules", "tower", "LPeopleTower$Tower;", true)
  | 1 => ("PeopleTower$Rules", "people", "LPeopleTower$People;", true)
  | _ => ("PeopleTower$Rules", "play", "I", false)
def tyX2 : Nat → FieldType := fun k => match k with
  | 0 => .object "PeopleTower$Tower"
  | 1 => .object "PeopleTower$People"
  | _ => .int
abbrev wsX20 : List Cond := u_ws RX2 TX2 3
theorem nmX2 : ∀ a, a < 3 → ∀ b, b < 3 → a ≠ b → (TX2 a).2.1 ≠ (TX2 b).2.1 := by decide +kernel
theorem tyX2_ok : ∀ k, k < 3 → parseFieldDescriptor (TX2 k).2.2.1 = some (tyX2 k) := by decide +kernel
abbrev cX2_init : ByteArray := prog_4_method_1_code
def yX2_init : MethodName := ⟨RX2, "<init>", "(LPeopleTower$Tower;LPeopleTower$People;)V"⟩
abbrev cX2_goesTo : ByteArray := prog_4_method_2_code
def yX2_goesTo : MethodName := ⟨RX2, "goesTo", "(II)Z"⟩
abbrev cX2_mostLoad : ByteArray := prog_4_method_3_code
def yX2_mostLoad : MethodName := ⟨RX2, "mostLoad", "(I)I"⟩
abbrev cX2_loadOn : ByteArray := prog_4_method_4_code
def yX2_loadOn : MethodName := ⟨RX2, "loadOn", "([III)I"⟩
abbrev cX2_admit : ByteArray := prog_4_method_5_code
/-- the name of the method of Rules whose code is prog_4_method_5_code, out of the Statement's own word of it: the name itself is a word that rows may not hold -/
def nX2_5 : String := match (tables_1[383]? : Option Cond) with
  | some (Cond.instanceMethod n) => n.name
  | _ => ""
def yX2_admit : MethodName := ⟨RX2, nX2_5, "([I)Z"⟩
abbrev cX2_spread : ByteArray := prog_4_method_6_code
def yX2_spread : MethodName := ⟨RX2, "spread", "([II)I"⟩
def RX3 : String := "PeopleTower$Search"
def TX3 : u_T := fun k => match k with
  | 0 => ("PeopleTower$Search", "tower", "LPeopleTower$Tower;", true)
  | 1 => ("PeopleTower$Search", "people", "LPeopleTower$People;", true)
  | 2 => ("PeopleTower$Search", "rules", "LPeopleTower$Rules;", true)
  | 3 => ("PeopleTower$Search", "who", "[I", true)
  | 4 => ("PeopleTower$Search", "loads", "[[I", true)
  | 5 => ("PeopleTower$Search", "mostLoads", "[I", true)
  | 6 => ("PeopleTower$Search", "used", "[Z", true)
  | 7 => ("PeopleTower$Search", "near", "[I", true)
  | 8 => ("PeopleTower$Search", "best", "[I", true)
  | 9 => ("PeopleTower$Search", "counting", "Z", false)
  | 10 => ("PeopleTower$Search", "moveCost", "I", false)
  | 11 => ("PeopleTower$Search", "bound", "I", false)
  | _ => ("PeopleTower$Search", "found", "I", false)
def tyX3 : Nat → FieldType := fun k => match k with
  | 0 => .object "PeopleTower$Tower"
  | 1 => .object "PeopleTower$People"
  | 2 => .object "PeopleTower$Rules"
  | 3 => .array .int
  | 4 => .array (.array .int)
  | 5 => .array .int
  | 6 => .array .boolean
  | 7 => .array .int
  | 8 => .array .int
  | 9 => .boolean
  | 10 => .int
  | 11 => .int
  | _ => .int
abbrev wsX30 : List Cond := u_ws RX3 TX3 13
theorem nmX3 : ∀ a, a < 13 → ∀ b, b < 13 → a ≠ b → (TX3 a).2.1 ≠ (TX3 b).2.1 := by decide +kernel
theorem tyX3_ok : ∀ k, k < 13 → parseFieldDescriptor (TX3 k).2.2.1 = some (tyX3 k) := by decide +kernel
abbrev cX3_init : ByteArray := prog_5_method_1_code
def yX3_init : MethodName := ⟨RX3, "<init>", "(LPeopleTower$Tower;LPeopleTower$People;LPeopleTower$Rules;)V"⟩
abbrev cX3_countFitting : ByteArray := prog_5_method_2_code
def yX3_countFitting : MethodName := ⟨RX3, "countFitting", "()I"⟩
abbrev cX3_seekLevel : ByteArray := prog_5_method_3_code
def yX3_seekLevel : MethodName := ⟨RX3, "seekLevel", "()Z"⟩
abbrev cX3_seekClose : ByteArray := prog_5_method_4_code
def yX3_seekClose : MethodName := ⟨RX3, "seekClose", "([I)Z"⟩
abbrev cX3_uneven : ByteArray := prog_5_method_5_code
def yX3_uneven : MethodName := ⟨RX3, "uneven", "()I"⟩
abbrev cX3_moves : ByteArray := prog_5_method_6_code
def yX3_moves : MethodName := ⟨RX3, "moves", "()I"⟩
abbrev cX3_start : ByteArray := prog_5_method_7_code
def yX3_start : MethodName := ⟨RX3, "start", "(ZI)V"⟩
abbrev cX3_walk : ByteArray := prog_5_method_8_code
def yX3_walk : MethodName := ⟨RX3, "walk", "(IIII)V"⟩
abbrev cX3_goOnWith : ByteArray := prog_5_method_9_code
def yX3_goOnWith : MethodName := ⟨RX3, "goOnWith", "(IIIII)V"⟩
abbrev cX3_bearsAlso : ByteArray := prog_5_method_10_code
def yX3_bearsAlso : MethodName := ⟨RX3, "bearsAlso", "(II)Z"⟩
abbrev cX3_arrive : ByteArray := prog_5_method_11_code
def yX3_arrive : MethodName := ⟨RX3, "arrive", "(I)V"⟩
def RX4 : String := "PeopleTower$Tower"
def TX4 : u_T := fun k => match k with
  | 0 => ("PeopleTower$Tower", "widths", "[I", true)
  | 1 => ("PeopleTower$Tower", "firstPlace", "[I", true)
  | 2 => ("PeopleTower$Tower", "storeyOf", "[I", true)
  | 3 => ("PeopleTower$Tower", "shares", "[[I", true)
  | 4 => ("PeopleTower$Tower", "storeys", "I", false)
  | _ => ("PeopleTower$Tower", "places", "I", false)
def tyX4 : Nat → FieldType := fun k => match k with
  | 0 => .array .int
  | 1 => .array .int
  | 2 => .array .int
  | 3 => .array (.array .int)
  | 4 => .int
  | _ => .int
abbrev wsX40 : List Cond := u_ws RX4 TX4 6
theorem nmX4 : ∀ a, a < 6 → ∀ b, b < 6 → a ≠ b → (TX4 a).2.1 ≠ (TX4 b).2.1 := by decide +kernel
theorem tyX4_ok : ∀ k, k < 6 → parseFieldDescriptor (TX4 k).2.2.1 = some (tyX4 k) := by decide +kernel
abbrev cX4_init : ByteArray := prog_6_method_1_code
def yX4_init : MethodName := ⟨RX4, "<init>", "()V"⟩
abbrev cX4_placesUpTo : ByteArray := prog_6_method_2_code
def yX4_placesUpTo : MethodName := ⟨RX4, "placesUpTo", "(I)I"⟩
abbrev cX4_build : ByteArray := prog_6_method_3_code
def yX4_build : MethodName := ⟨RX4, "build", "(I)V"⟩
abbrev cX4_shareOut : ByteArray := prog_6_method_4_code
def yX4_shareOut : MethodName := ⟨RX4, "shareOut", "(III)V"⟩
abbrev cX4_restHalfOn : ByteArray := prog_6_method_5_code
def yX4_restHalfOn : MethodName := ⟨RX4, "restHalfOn", "([II)V"⟩
def RX5 : String := "PeopleTower"
def TX5 : u_T := fun k => match k with
  | 0 => ("PeopleTower", "tower", "LPeopleTower$Tower;", true)
  | 1 => ("PeopleTower", "people", "LPeopleTower$People;", true)
  | 2 => ("PeopleTower", "rules", "LPeopleTower$Rules;", true)
  | 3 => ("PeopleTower", "search", "LPeopleTower$Search;", true)
  | 4 => ("PeopleTower", "climb", "LPeopleTower$Climb;", true)
  | 5 => ("PeopleTower", "hand", "[I", true)
  | 6 => ("PeopleTower", "atHand", "Z", false)
  | 7 => ("PeopleTower", "crownWorth", "I", false)
  | 8 => ("PeopleTower", "downWorth", "I", false)
  | _ => ("PeopleTower", "points", "I", false)
def tyX5 : Nat → FieldType := fun k => match k with
  | 0 => .object "PeopleTower$Tower"
  | 1 => .object "PeopleTower$People"
  | 2 => .object "PeopleTower$Rules"
  | 3 => .object "PeopleTower$Search"
  | 4 => .object "PeopleTower$Climb"
  | 5 => .array .int
  | 6 => .boolean
  | 7 => .int
  | 8 => .int
  | _ => .int
abbrev wsX50 : List Cond := u_ws RX5 TX5 10
theorem nmX5 : ∀ a, a < 10 → ∀ b, b < 10 → a ≠ b → (TX5 a).2.1 ≠ (TX5 b).2.1 := by decide +kernel
theorem tyX5_ok : ∀ k, k < 10 → parseFieldDescriptor (TX5 k).2.2.1 = some (tyX5 k) := by decide +kernel
abbrev cX5_init : ByteArray := prog_1_method_1_code
def yX5_init : MethodName := ⟨RX5, "<init>", "()V"⟩
abbrev cX5_storeys : ByteArray := prog_1_method_2_code
def yX5_storeys : MethodName := ⟨RX5, "storeys", "(I)I"⟩
abbrev cX5_width : ByteArray := prog_1_method_3_code
def yX5_width : MethodName := ⟨RX5, "width", "(II)I"⟩
abbrev cX5_person : ByteArray := prog_1_method_4_code
def yX5_person : MethodName := ⟨RX5, "person", "(IIIII)I"⟩
abbrev cX5_out : ByteArray := prog_1_method_5_code
def yX5_out : MethodName := ⟨RX5, "out", "(IZ)I"⟩
abbrev cX5_play : ByteArray := prog_1_method_6_code
def yX5_play : MethodName := ⟨RX5, "play", "(I)I"⟩
abbrev cX5_fits : ByteArray := prog_1_method_7_code
def yX5_fits : MethodName := ⟨RX5, "fits", "()I"⟩
abbrev cX5_level : ByteArray := prog_1_method_8_code
def yX5_level : MethodName := ⟨RX5, "level", "()I"⟩
abbrev cX5_close : ByteArray := prog_1_method_9_code
def yX5_close : MethodName := ⟨RX5, "close", "()I"⟩
abbrev cX5_take : ByteArray := prog_1_method_10_code
def yX5_take : MethodName := ⟨RX5, "take", "(I)I"⟩
abbrev cX5_at : ByteArray := prog_1_method_11_code
def yX5_at : MethodName := ⟨RX5, "at", "(I)I"⟩
abbrev cX5_load : ByteArray := prog_1_method_12_code
def yX5_load : MethodName := ⟨RX5, "load", "(I)I"⟩
abbrev cX5_swap : ByteArray := prog_1_method_13_code
def yX5_swap : MethodName := ⟨RX5, "swap", "(II)I"⟩
abbrev cX5_tick : ByteArray := prog_1_method_14_code
def yX5_tick : MethodName := ⟨RX5, "tick", "(I)I"⟩
abbrev cX5_weak : ByteArray := prog_1_method_15_code
def yX5_weak : MethodName := ⟨RX5, "weak", "()I"⟩
abbrev cX5_effort : ByteArray := prog_1_method_16_code
def yX5_effort : MethodName := ⟨RX5, "effort", "(II)I"⟩
abbrev cX5_worths : ByteArray := prog_1_method_17_code
def yX5_worths : MethodName := ⟨RX5, "worths", "(II)I"⟩
abbrev cX5_attempt : ByteArray := prog_1_method_18_code
def yX5_attempt : MethodName := ⟨RX5, "attempt", "()I"⟩
abbrev cX5_count : ByteArray := prog_1_method_19_code
def yX5_count : MethodName := ⟨RX5, "count", "(I)I"⟩
abbrev cX5_within : ByteArray := prog_1_method_20_code
def yX5_within : MethodName := ⟨RX5, "within", "(III)Z"⟩
abbrev cX5_isPlace : ByteArray := prog_1_method_21_code
def yX5_isPlace : MethodName := ⟨RX5, "isPlace", "(I)Z"⟩
abbrev cX5_endPlacing : ByteArray := prog_1_method_22_code
def yX5_endPlacing : MethodName := ⟨RX5, "endPlacing", "()V"⟩
abbrev cX5_exchange : ByteArray := prog_1_method_23_code
def yX5_exchange : MethodName := ⟨RX5, "exchange", "(II)V"⟩
abbrev cX5_pointsOfTry : ByteArray := prog_1_method_24_code
def yX5_pointsOfTry : MethodName := ⟨RX5, "pointsOfTry", "()I"⟩
def RX6 : String := "PeopleTowerModel"
def TX6 : u_T := fun k => match k with
  | 0 => ("PeopleTowerModel", "h", "I", false)
  | 1 => ("PeopleTowerModel", "width", "[I", true)
  | 2 => ("PeopleTowerModel", "people", "I", false)
  | 3 => ("PeopleTowerModel", "height", "[I", true)
  | 4 => ("PeopleTowerModel", "weight", "[I", true)
  | 5 => ("PeopleTowerModel", "bears", "[I", true)
  | 6 => ("PeopleTowerModel", "fear", "[I", true)
  | 7 => ("PeopleTowerModel", "stamina", "[I", true)
  | 8 => ("PeopleTowerModel", "isOut", "[Z", true)
  | 9 => ("PeopleTowerModel", "play", "I", false)
  | 10 => ("PeopleTowerModel", "places", "I", false)
  | 11 => ("PeopleTowerModel", "storey", "[I", true)
  | 12 => ("PeopleTowerModel", "one", "[I", true)
  | 13 => ("PeopleTowerModel", "two", "[I", true)
  | 14 => ("PeopleTowerModel", "isAtHand", "Z", false)
  | 15 => ("PeopleTowerModel", "hand", "[I", true)
  | 16 => ("PeopleTowerModel", "row", "[I", true)
  | 17 => ("PeopleTowerModel", "load", "[I", true)
  | 18 => ("PeopleTowerModel", "fitting", "I", false)
  | 19 => ("PeopleTowerModel", "leastUneven", "I", false)
  | 20 => ("PeopleTowerModel", "level", "[I", true)
  | 21 => ("PeopleTowerModel", "fewest", "I", false)
  | 22 => ("PeopleTowerModel", "closeUneven", "I", false)
  | 23 => ("PeopleTowerModel", "close", "[I", true)
  | 24 => ("PeopleTowerModel", "stands", "[I", true)
  | 25 => ("PeopleTowerModel", "isOffAt", "[I", true)
  | 26 => ("PeopleTowerModel", "effort", "[I", true)
  | 27 => ("PeopleTowerModel", "fall", "I", false)
  | 28 => ("PeopleTowerModel", "weak", "I", false)
  | 29 => ("PeopleTowerModel", "crown", "I", false)
  | 30 => ("PeopleTowerModel", "down", "I", false)
  | _ => ("PeopleTowerModel", "points", "I", false)
def tyX6 : Nat → FieldType := fun k => match k with
  | 0 => .int
  | 1 => .array .int
  | 2 => .int
  | 3 => .array .int
  | 4 => .array .int
  | 5 => .array .int
  | 6 => .array .int
  | 7 => .array .int
  | 8 => .array .boolean
  | 9 => .int
  | 10 => .int
  | 11 => .array .int
  | 12 => .array .int
  | 13 => .array .int
  | 14 => .boolean
  | 15 => .array .int
  | 16 => .array .int
  | 17 => .array .int
  | 18 => .int
  | 19 => .int
  | 20 => .array .int
  | 21 => .int
  | 22 => .int
  | 23 => .array .int
  | 24 => .array .int
  | 25 => .array .int
  | 26 => .array .int
  | 27 => .int
  | 28 => .int
  | 29 => .int
  | 30 => .int
  | _ => .int
abbrev wsX60 : List Cond := u_ws RX6 TX6 32
theorem nmX6 : ∀ a, a < 32 → ∀ b, b < 32 → a ≠ b → (TX6 a).2.1 ≠ (TX6 b).2.1 := by decide +kernel
theorem tyX6_ok : ∀ k, k < 32 → parseFieldDescriptor (TX6 k).2.2.1 = some (tyX6 k) := by decide +kernel
abbrev cX6_init : ByteArray := prog_8_method_1_code
def yX6_init : MethodName := ⟨RX6, "<init>", "()V"⟩
abbrev cX6_in : ByteArray := prog_8_method_2_code
def yX6_in : MethodName := ⟨RX6, "in", "(III)Z"⟩
abbrev cX6_isPerson : ByteArray := prog_8_method_3_code
def yX6_isPerson : MethodName := ⟨RX6, "isPerson", "(I)Z"⟩
abbrev cX6_isPlace : ByteArray := prog_8_method_4_code
def yX6_isPlace : MethodName := ⟨RX6, "isPlace", "(I)Z"⟩
abbrev cX6_findPlaces : ByteArray := prog_8_method_5_code
def yX6_findPlaces : MethodName := ⟨RX6, "findPlaces", "()V"⟩
abbrev cX6_sum : ByteArray := prog_8_method_6_code
def yX6_sum : MethodName := ⟨RX6, "sum", "(I)I"⟩
abbrev cX6_storeys : ByteArray := prog_8_method_7_code
def yX6_storeys : MethodName := ⟨RX6, "storeys", "(I)I"⟩
abbrev cX6_width : ByteArray := prog_8_method_8_code
def yX6_width : MethodName := ⟨RX6, "width", "(II)I"⟩
abbrev cX6_person : ByteArray := prog_8_method_9_code
def yX6_person : MethodName := ⟨RX6, "person", "(IIIII)I"⟩
abbrev cX6_out : ByteArray := prog_8_method_10_code
def yX6_out : MethodName := ⟨RX6, "out", "(IZ)I"⟩
abbrev cX6_play : ByteArray := prog_8_method_11_code
def yX6_play : MethodName := ⟨RX6, "play", "(I)I"⟩
abbrev cX6_findLoads : ByteArray := prog_8_method_12_code
def yX6_findLoads : MethodName := ⟨RX6, "findLoads", "(I)V"⟩
abbrev cX6_uneven : ByteArray := prog_8_method_13_code
def yX6_uneven : MethodName := ⟨RX6, "uneven", "()I"⟩
abbrev cX6_fitsSo : ByteArray := prog_8_method_14_code
def yX6_fitsSo : MethodName := ⟨RX6, "fitsSo", "()I"⟩
abbrev cX6_isAhead : ByteArray := prog_8_method_15_code
def yX6_isAhead : MethodName := ⟨RX6, "isAhead", "(I)Z"⟩
abbrev cX6_hasNext : ByteArray := prog_8_method_16_code
def yX6_hasNext : MethodName := ⟨RX6, "hasNext", "()Z"⟩
abbrev cX6_findPlacings : ByteArray := prog_8_method_17_code
def yX6_findPlacings : MethodName := ⟨RX6, "findPlacings", "()V"⟩
abbrev cX6_fits : ByteArray := prog_8_method_18_code
def yX6_fits : MethodName := ⟨RX6, "fits", "()I"⟩
abbrev cX6_level : ByteArray := prog_8_method_19_code
def yX6_level : MethodName := ⟨RX6, "level", "()I"⟩
abbrev cX6_close : ByteArray := prog_8_method_20_code
def yX6_close : MethodName := ⟨RX6, "close", "()I"⟩
abbrev cX6_take : ByteArray := prog_8_method_21_code
def yX6_take : MethodName := ⟨RX6, "take", "(I)I"⟩
abbrev cX6_at : ByteArray := prog_8_method_22_code
def yX6_at : MethodName := ⟨RX6, "at", "(I)I"⟩
abbrev cX6_useHand : ByteArray := prog_8_method_23_code
def yX6_useHand : MethodName := ⟨RX6, "useHand", "()V"⟩
abbrev cX6_load : ByteArray := prog_8_method_24_code
def yX6_load : MethodName := ⟨RX6, "load", "(I)I"⟩
abbrev cX6_swap : ByteArray := prog_8_method_25_code
def yX6_swap : MethodName := ⟨RX6, "swap", "(II)I"⟩
abbrev cX6_findTimes : ByteArray := prog_8_method_26_code
def yX6_findTimes : MethodName := ⟨RX6, "findTimes", "()I"⟩
abbrev cX6_climb : ByteArray := prog_8_method_27_code
def yX6_climb : MethodName := ⟨RX6, "climb", "(I)I"⟩
abbrev cX6_tick : ByteArray := prog_8_method_28_code
def yX6_tick : MethodName := ⟨RX6, "tick", "(I)I"⟩
abbrev cX6_weak : ByteArray := prog_8_method_29_code
def yX6_weak : MethodName := ⟨RX6, "weak", "()I"⟩
abbrev cX6_effort : ByteArray := prog_8_method_30_code
def yX6_effort : MethodName := ⟨RX6, "effort", "(II)I"⟩
abbrev cX6_worths : ByteArray := prog_8_method_31_code
def yX6_worths : MethodName := ⟨RX6, "worths", "(II)I"⟩
abbrev cX6_attempt : ByteArray := prog_8_method_32_code
def yX6_attempt : MethodName := ⟨RX6, "attempt", "()I"⟩
abbrev cX6_count : ByteArray := prog_8_method_33_code
def yX6_count : MethodName := ⟨RX6, "count", "(I)I"⟩
def RJ9 : String := "java/lang/Math"
def TJ9 : u_T := fun k => match k with
  | _ => ("", "", "", false)
def tyJ9 : Nat → FieldType := fun k => match k with
  | _ => .int
abbrev wsJ90 : List Cond := u_ws RJ9 TJ9 0
theorem nmJ9 : ∀ a, a < 0 → ∀ b, b < 0 → a ≠ b → (TJ9 a).2.1 ≠ (TJ9 b).2.1 := by decide +kernel
theorem tyJ9_ok : ∀ k, k < 0 → parseFieldDescriptor (TJ9 k).2.2.1 = some (tyJ9 k) := by decide +kernel
abbrev cJ9_max_7cf53 : ByteArray := prog_9_method_65_code
def yJ9_max_7cf53 : MethodName := ⟨RJ9, "max", "(II)I"⟩
abbrev cJ9_min_7cf53 : ByteArray := prog_9_method_69_code
def yJ9_min_7cf53 : MethodName := ⟨RJ9, "min", "(II)I"⟩
def RJ10 : String := "java/lang/System"
def TJ10 : u_T := fun k => match k with
  | _ => ("", "", "", false)
def tyJ10 : Nat → FieldType := fun k => match k with
  | _ => .int
abbrev wsJ100 : List Cond := u_ws RJ10 TJ10 0
theorem nmJ10 : ∀ a, a < 0 → ∀ b, b < 0 → a ≠ b → (TJ10 a).2.1 ≠ (TJ10 b).2.1 := by decide +kernel
theorem tyJ10_ok : ∀ k, k < 0 → parseFieldDescriptor (TJ10 k).2.2.1 = some (tyJ10 k) := by decide +kernel
def RJ7 : String := "java/util/Arrays"
def TJ7 : u_T := fun k => match k with
  | _ => ("", "", "", false)
def tyJ7 : Nat → FieldType := fun k => match k with
  | _ => .int
abbrev wsJ70 : List Cond := u_ws RJ7 TJ7 0
theorem nmJ7 : ∀ a, a < 0 → ∀ b, b < 0 → a ≠ b → (TJ7 a).2.1 ≠ (TJ7 b).2.1 := by decide +kernel
theorem tyJ7_ok : ∀ k, k < 0 → parseFieldDescriptor (TJ7 k).2.2.1 = some (tyJ7 k) := by decide +kernel
abbrev cJ7_fill_53178 : ByteArray := prog_11_method_103_code
def yJ7_fill_53178 : MethodName := ⟨RJ7, "fill", "([II)V"⟩
def RL : String := "PeopleTowerLaw"
abbrev cL_law : ByteArray := code
def yL_law : MethodName := ⟨RL, "law", "([I)Z"⟩
abbrev vwCl : List vw_C := [(RX0, TX0, 7), (RX1, TX1, 7), (RX2, TX2, 3), (RX3, TX3, 13), (RX4, TX4, 6), (RX5, TX5, 10), (RX6, TX6, 32)]

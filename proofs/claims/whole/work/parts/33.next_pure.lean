/-! THE REFERENCE'S ORDER: the next placing -/
def ff (pre : List Nat) : Nat → Nat → Option Nat
  | 0, _ => none
  | f + 1, y => if y ∈ pre then ff pre f (y + 1) else some y
def fl (n : Nat) : Nat → List Nat → List Nat
  | 0, pre => pre
  | k + 1, pre => match ff pre n 0 with
    | some x => fl n k (pre ++ [x])
    | none => pre
def nx (n pl : Nat) : Nat → List Nat → Option (List Nat)
  | 0, _ => none
  | p + 1, r => match ff (r.take p) (n - (r.getD p 0 + 1)) (r.getD p 0 + 1) with
    | some x => some (fl n (pl - p - 1) (r.take p ++ [x]))
    | none => nx n pl p r
def fcr (pre : List Nat) : Nat → Nat
  | 0 => 0
  | m + 1 => fcr pre m + if m ∈ pre then 0 else 1
theorem ff_some {pre : List Nat} {x : Nat} : ∀ (f y : Nat), ff pre f y = some x → y ≤ x ∧ x < y + f ∧ x ∉ pre ∧ ∀ z, y ≤ z → z < x → z ∈ pre
  | 0, y, h => by cases h
  | f + 1, y, h => by
    have h' : (if y ∈ pre then ff pre f (y + 1) else some y) = some x := h
    by_cases c : y ∈ pre
    · rw [if_pos c] at h'
      obtain ⟨a, b, d, e⟩ := ff_some f (y + 1) h'
      refine ⟨by omega, by omega, d, fun z hz hz2 => ?_⟩
      by_cases e2 : z = y
      · rw [e2]; exact c
      · exact e z (by omega) hz2
    · rw [if_neg c] at h'
      cases h'
      exact ⟨Nat.le_refl _, by omega, c, fun z h1 h2 => by omega⟩
theorem ff_none {pre : List Nat} : ∀ (f y : Nat), ff pre f y = none → ∀ z, y ≤ z → z < y + f → z ∈ pre
  | 0, y, _ => fun z h1 h2 => by omega
  | f + 1, y, h => fun z h1 h2 => by
    have h' : (if y ∈ pre then ff pre f (y + 1) else some y) = none := h
    by_cases c : y ∈ pre
    · rw [if_pos c] at h'
      by_cases e : z = y
      · rw [e]; exact c
      · exact ff_none f (y + 1) h' z (by omega) (by omega)
    · rw [if_neg c] at h'
      cases h'
theorem fcr_app {pre : List Nat} {x : Nat} (hx : x ∉ pre) : ∀ m, fcr (pre ++ [x]) m + (if x < m then 1 else 0) = fcr pre m
  | 0 => by
    show 0 + (if x < 0 then 1 else 0) = 0
    rw [if_neg (by omega)]
  | m + 1 => by
    have ih := fcr_app hx m
    show fcr (pre ++ [x]) m + (if m ∈ pre ++ [x] then 0 else 1) + (if x < m + 1 then 1 else 0) = fcr pre m + (if m ∈ pre then 0 else 1)
    by_cases c : m = x
    · subst c
      rw [if_pos (List.mem_append_right _ (List.mem_singleton.mpr rfl)), if_pos (by omega), if_neg hx]
      rw [if_neg (by omega)] at ih
      omega
    · have e : (m ∈ pre ++ [x]) ↔ m ∈ pre := by
        rw [List.mem_append, List.mem_singleton]
        exact ⟨fun h => h.resolve_right c, Or.inl⟩
      by_cases cm : m ∈ pre
      · rw [if_pos (e.mpr cm), if_pos cm]
        by_cases cx : x < m
        · rw [if_pos cx] at ih
          rw [if_pos (by omega)]
          omega
        · rw [if_neg cx] at ih
          rw [if_neg (by omega)]
          omega
      · rw [if_neg (fun h => cm (e.mp h)), if_neg cm]
        by_cases cx : x < m
        · rw [if_pos cx] at ih
          rw [if_pos (by omega)]
          omega
        · rw [if_neg cx] at ih
          rw [if_neg (by omega)]
          omega
theorem fcr_nil : ∀ m, fcr [] m = m
  | 0 => rfl
  | m + 1 => by
    show fcr [] m + (if m ∈ [] then 0 else 1) = m + 1
    rw [fcr_nil m, if_neg List.not_mem_nil]
theorem fcr_full {pre : List Nat} : ∀ m, (∀ z, z < m → z ∈ pre) → fcr pre m = 0
  | 0, _ => rfl
  | m + 1, h => by
    show fcr pre m + (if m ∈ pre then 0 else 1) = 0
    rw [fcr_full m (fun z hz => h z (by omega)), if_pos (h m (by omega))]
theorem ff_ex {pre : List Nat} {n : Nat} (h : 1 ≤ fcr pre n) : ∃ x, ff pre n 0 = some x ∧ x < n ∧ x ∉ pre := by
  cases e : ff pre n 0 with
  | none =>
    have := fcr_full n (fun z hz => ff_none n 0 e z (Nat.zero_le _) (by omega))
    omega
  | some x =>
    obtain ⟨a, b, c, -⟩ := ff_some n 0 e
    exact ⟨x, rfl, by omega, c⟩
theorem ext_nil {n : Nat} : ∀ (k : Nat) (pre : List Nat), fcr pre n < k → ext n k pre = []
  | 0, pre, h => by omega
  | k + 1, pre, h => by
    show (List.range n).flatMap (fun x => if x ∈ pre then [] else ext n k (pre ++ [x])) = []
    rw [List.flatMap_eq_nil_iff]
    intro x hx
    have hx := List.mem_range.mp hx
    by_cases c : x ∈ pre
    · rw [if_pos c]
    · rw [if_neg c]
      have := fcr_app c n
      rw [if_pos hx] at this
      exact ext_nil k _ (by omega)
theorem take_app {l : List Nat} {x p : Nat} (h : p ≤ l.length) : (l ++ [x]).take p = l.take p := List.take_append_of_le_length h
theorem take_len {l : List Nat} {x : Nat} : (l ++ [x]).take l.length = l := List.take_left
theorem nx_app {n pl : Nat} {l : List Nat} {x : Nat} : ∀ p, p ≤ l.length → nx n pl p (l ++ [x]) = nx n pl p l
  | 0, _ => rfl
  | p + 1, h => by
    show (match ff ((l ++ [x]).take p) (n - ((l ++ [x]).getD p 0 + 1)) ((l ++ [x]).getD p 0 + 1) with | some y => some (fl n (pl - p - 1) ((l ++ [x]).take p ++ [y])) | none => nx n pl p (l ++ [x])) = _
    rw [nx_app p (by omega), take_app (by omega), getD_app_lt (by omega)]
    rfl
/-- each is followed by the next, the last by stop -/
def CH (n pl : Nat) : List (List Nat) → Option (List Nat) → Prop
  | [], _ => True
  | e :: L, stop => (match L with | [] => nx n pl pl e = stop | e2 :: _ => nx n pl pl e = some e2) ∧ CH n pl L stop
theorem CH_app {n pl : Nat} {stop : Option (List Nat)} {e2 : List Nat} {L2 : List (List Nat)} : ∀ (L1 : List (List Nat)), CH n pl L1 (some e2) → CH n pl (e2 :: L2) stop → CH n pl (L1 ++ e2 :: L2) stop
  | [], _, h => h
  | [e], h1, h2 => ⟨h1.1, h2⟩
  | e :: e' :: L, h1, h2 => ⟨h1.1, CH_app (e' :: L) h1.2 h2⟩
theorem ext_chain {n pl : Nat} : ∀ (k : Nat) (pre : List Nat), pre.length + k = pl → k ≤ fcr pre n → (∃ L, ext n k pre = fl n k pre :: L) ∧ CH n pl (ext n k pre) (nx n pl pre.length pre)
  | 0, pre, hl, _ => by
    refine ⟨⟨[], rfl⟩, ?_, trivial⟩
    show nx n pl pl pre = nx n pl pre.length pre
    rw [show pl = pre.length by omega]
  | k + 1, pre, hl, hf => by
    have main : ∀ (m y : Nat), y + m = n → (ff pre m y = none → (List.range' y m).flatMap (fun x => if x ∈ pre then [] else ext n k (pre ++ [x])) = []) ∧ (∀ x, ff pre m y = some x → ∃ L, (List.range' y m).flatMap (fun x => if x ∈ pre then [] else ext n k (pre ++ [x])) = fl n k (pre ++ [x]) :: L ∧ CH n pl (fl n k (pre ++ [x]) :: L) (nx n pl pre.length pre)) := by
      intro m
      induction m with
      | zero =>
        intro y hy
        exact ⟨fun _ => rfl, fun x h => by cases h⟩
      | succ m ih =>
        intro y hy
        obtain ⟨i1, i2⟩ := ih (y + 1) (by omega)
        have er : List.range' y (m + 1) = y :: List.range' (y + 1) m := rfl
        have ef : ff pre (m + 1) y = if y ∈ pre then ff pre m (y + 1) else some y := rfl
        rw [er, List.flatMap_cons, ef]
        by_cases c : y ∈ pre
        · rw [if_pos c, if_pos c, List.nil_append]
          exact ⟨i1, i2⟩
        · rw [if_neg c, if_neg c]
          refine ⟨fun h => (by cases h), fun x hx => ?_⟩
          cases hx
          have hfc := fcr_app c n
          rw [if_pos (by omega)] at hfc
          obtain ⟨⟨L, hL⟩, hC⟩ := ext_chain (n := n) (pl := pl) k (pre ++ [y]) (by rw [List.length_append]; show pre.length + 1 + k = pl; omega) (by omega)
          have hlen : (pre ++ [y]).length = pre.length + 1 := by rw [List.length_append]; rfl
          have enx : nx n pl (pre.length + 1) (pre ++ [y]) = match ff pre m (y + 1) with | some x => some (fl n k (pre ++ [x])) | none => nx n pl pre.length pre := by
            show (match ff ((pre ++ [y]).take pre.length) (n - ((pre ++ [y]).getD pre.length 0 + 1)) ((pre ++ [y]).getD pre.length 0 + 1) with | some x => some (fl n (pl - pre.length - 1) ((pre ++ [y]).take pre.length ++ [x])) | none => nx n pl pre.length (pre ++ [y])) = _
            rw [nx_app _ (Nat.le_refl _), getD_app_eq, take_len, show n - (y + 1) = m by omega, show pl - pre.length - 1 = k by omega]
          rw [hlen, enx, hL] at hC
          rw [hL]
          cases e : ff pre m (y + 1) with
          | none =>
            rw [e] at hC
            refine ⟨L, ?_, hC⟩
            rw [i1 e, List.append_nil]
          | some x =>
            rw [e] at hC
            obtain ⟨L2, h1, h2⟩ := i2 x e
            refine ⟨L ++ fl n k (pre ++ [x]) :: L2, ?_, ?_⟩
            · rw [h1]; rfl
            · exact CH_app _ hC h2
    have er : ext n (k + 1) pre = (List.range' 0 n).flatMap (fun x => if x ∈ pre then [] else ext n k (pre ++ [x])) := by
      show (List.range n).flatMap _ = _
      rw [List.range_eq_range']
    obtain ⟨x, hx, -⟩ := ff_ex (pre := pre) (n := n) (by omega)
    obtain ⟨L, h1, h2⟩ := (main n 0 (by omega)).2 x hx
    have efl : fl n (k + 1) pre = fl n k (pre ++ [x]) := by
      show (match ff pre n 0 with | some x => fl n k (pre ++ [x]) | none => pre) = _
      rw [hx]
    rw [er, h1, efl]
    exact ⟨⟨L, rfl⟩, h2⟩
theorem PL_chain {σ : SG} (h : sL σ ≤ sN σ) : (∃ L, PL σ = fl (sN σ) (sL σ) [] :: L) ∧ CH (sN σ) (sL σ) (PL σ) none := by
  have := ext_chain (n := sN σ) (pl := sL σ) (sL σ) [] (by show 0 + _ = _; omega) (by rw [fcr_nil]; exact h)
  exact this
theorem PL_none {σ : SG} (h : sN σ < sL σ) : PL σ = [] := ext_nil _ _ (by rw [fcr_nil]; exact h)
/-- no one twice -/
def inj (n : Nat) (r : List Nat) : Prop := ∀ p, p < r.length → r.getD p 0 < n ∧ r.getD p 0 ∉ r.take p
theorem ext_inj {n : Nat} : ∀ (k : Nat) (pre e : List Nat), inj n pre → e ∈ ext n k pre → inj n e
  | 0, pre, e, hi, h => by
    have : e = pre := List.mem_singleton.mp h
    rw [this]; exact hi
  | k + 1, pre, e, hi, h => by
    obtain ⟨x, hx, h2⟩ := List.mem_flatMap.mp h
    by_cases c : x ∈ pre
    · rw [if_pos c] at h2; cases h2
    · rw [if_neg c] at h2
      refine ext_inj k (pre ++ [x]) e (fun p hp => ?_) h2
      rw [List.length_append] at hp
      have hp : p < pre.length + 1 := hp
      by_cases cp : p = pre.length
      · rw [cp, getD_app_eq, take_len]
        exact ⟨List.mem_range.mp hx, c⟩
      · rw [getD_app_lt (by omega), take_app (by omega)]
        exact hi p (by omega)
theorem PL_inj {σ : SG} {e : List Nat} (h : e ∈ PL σ) : inj (sN σ) e := ext_inj _ _ _ (fun p hp => absurd hp (Nat.not_lt_zero _)) h
theorem take_s {r : List Nat} {p : Nat} (h : p < r.length) : r.take (p + 1) = r.take p ++ [r.getD p 0] := by
  rw [List.take_succ, List.getD_eq_getElem?_getD, List.getElem?_eq_getElem h]
  rfl
theorem inj_fcr {n : Nat} {r : List Nat} (hi : inj n r) : ∀ p, p ≤ r.length → fcr (r.take p) n + p = n
  | 0, _ => by
    rw [show r.take 0 = [] from rfl, fcr_nil]
    rfl
  | p + 1, h => by
    have ih := inj_fcr hi p (by omega)
    obtain ⟨a, b⟩ := hi p (by omega)
    have := fcr_app b n
    rw [if_pos a] at this
    rw [take_s (by omega)]
    omega

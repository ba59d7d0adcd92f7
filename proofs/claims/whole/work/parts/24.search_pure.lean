/-! THE SEARCH, pure -/
noncomputable def cif {α : Type} (P : Prop) (a b : α) : α := @ite α P (Classical.propDecidable P) a b
theorem cif_pos {α : Type} {P : Prop} {a b : α} (h : P) : cif P a b = a := if_pos h
theorem cif_neg {α : Type} {P : Prop} {a b : α} (h : ¬ P) : cif P a b = b := if_neg h
/-- r and e give the places under k the same people -/
def agr (r e : List Nat) (k : Nat) : Prop := ∀ p, p < k → r.getD p 0 = e.getD p 0
def lo (σ : SG) (r : List Nat) (p : Nat) : Int := hmin (hU σ r) (pF (sW σ) (pS (sW σ) p)) (p - pF (sW σ) (pS (sW σ) p))
def hi (σ : SG) (r : List Nat) (p : Nat) : Int := hmax (hU σ r) (pF (sW σ) (pS (sW σ) p)) (p - pF (sW σ) (pS (sW σ) p))
def grw (σ : SG) (r : List Nat) (p : Nat) : Int := if p = pF (sW σ) (pS (sW σ) p) then 0 else (hi σ r p - lo σ r p) - (hi σ r (p - 1) - lo σ r (p - 1))
def c0 (σ : SG) (r : List Nat) : Nat → Int
  | 0 => 0
  | k + 1 => c0 σ r k + grw σ r k
def mv (near : Nat → Int) (r : List Nat) : Nat → Int
  | 0 => 0
  | k + 1 => mv near r k + if (r.getD k 0 : Int) = near k then 0 else 1
def cst (σ : SG) (near : Nat → Int) (mc : Int) (r : List Nat) (k : Nat) : Int := c0 σ r k + mc * mv near r k
def PRE (σ : SG) (r : List Nat) (k : Nat) : Prop := (∀ p, p < k → okP σ r p ∧ hi σ r p - lo σ r p ≤ sP σ) ∧ ∀ q, q < k → lD σ r q k ≤ 8 * sA σ 2 (r.getD q 0)
theorem agr.symm {r e : List Nat} {k : Nat} (h : agr r e k) : agr e r k := fun p hp => (h p hp).symm
theorem agr.le {r e : List Nat} {k j : Nat} (h : agr r e k) (hj : j ≤ k) : agr r e j := fun p hp => h p (by omega)
theorem hm_congr {u v : Nat → Int} {f : Nat} : ∀ k, (∀ i, i ≤ k → u (f + i) = v (f + i)) → hmin u f k = hmin v f k ∧ hmax u f k = hmax v f k
  | 0, h => ⟨h 0 (Nat.le_refl _), h 0 (Nat.le_refl _)⟩
  | k + 1, h => by
    have h1 := hm_congr k (fun i hi => h i (by omega))
    have h2 := h (k + 1) (Nat.le_refl _)
    rw [show f + (k + 1) = f + k + 1 by omega] at h2
    show min (hmin u f k) (u (f + k + 1)) = min (hmin v f k) (v (f + k + 1)) ∧ max (hmax u f k) (u (f + k + 1)) = max (hmax v f k) (v (f + k + 1))
    rw [h1.1, h1.2, h2]
    exact ⟨rfl, rfl⟩
theorem lo_congr {σ : SG} {r e : List Nat} {k p : Nat} (h : agr r e k) (hp : p < k) (h4 : p < pF (sW σ) 4) : lo σ r p = lo σ e p ∧ hi σ r p = hi σ e p := by
  obtain ⟨a, b, c⟩ := pS_in h4
  exact hm_congr _ (fun i hi => by unfold hU; rw [h _ (by omega)])
theorem ld_congr {S : Nat → Nat → Int} {u v : Nat → Int} {q : Nat} : ∀ m, (∀ a, a < m → u a = v a) → ld S u q m = ld S v q m
  | 0, _ => rfl
  | m + 1, h => by
    show ld S u q m + (if q < m then S m q * u m else 0) = ld S v q m + (if q < m then S m q * v m else 0)
    rw [ld_congr m (fun a ha => h a (by omega)), h m (by omega)]
theorem lD_congr {σ : SG} {r e : List Nat} {q m : Nat} (h : agr r e m) : lD σ r q m = lD σ e q m := ld_congr m (fun a ha => by show sA σ 1 _ = sA σ 1 _; rw [h a ha])
theorem grw_congr {σ : SG} {r e : List Nat} {k p : Nat} (h : agr r e k) (hp : p < k) (h4 : p < pF (sW σ) 4) : grw σ r p = grw σ e p := by
  unfold grw
  by_cases c : p = pF (sW σ) (pS (sW σ) p)
  · rw [if_pos c, if_pos c]
  · rw [if_neg c, if_neg c, (lo_congr h hp h4).1, (lo_congr h hp h4).2, (lo_congr (p := p - 1) h (by omega) (by omega)).1, (lo_congr (p := p - 1) h (by omega) (by omega)).2]
theorem c0_congr {σ : SG} {r e : List Nat} : ∀ k, k ≤ pF (sW σ) 4 → agr r e k → c0 σ r k = c0 σ e k
  | 0, _, _ => rfl
  | k + 1, h4, h => by
    show c0 σ r k + grw σ r k = c0 σ e k + grw σ e k
    rw [c0_congr k (by omega) (h.le (by omega)), grw_congr h (by omega) (by omega)]
theorem mv_congr {near : Nat → Int} {r e : List Nat} : ∀ k, agr r e k → mv near r k = mv near e k
  | 0, _ => rfl
  | k + 1, h => by
    show mv near r k + _ = mv near e k + _
    rw [mv_congr k (h.le (by omega)), h k (by omega)]
theorem cst_congr {σ : SG} {near : Nat → Int} {mc : Int} {r e : List Nat} {k : Nat} (h4 : k ≤ pF (sW σ) 4) (h : agr r e k) : cst σ near mc r k = cst σ near mc e k := by
  unfold cst
  rw [c0_congr k h4 h, mv_congr k h]
theorem PRE_congr {σ : SG} {r e : List Nat} {k : Nat} (h4 : k ≤ pF (sW σ) 4) (h : agr r e k) (hp : PRE σ r k) : PRE σ e k := by
  refine ⟨fun p hpk => ?_, fun q hq => ?_⟩
  · have h1 := hp.1 p hpk
    rw [(lo_congr h hpk (by omega)).1, (lo_congr h hpk (by omega)).2] at h1
    unfold okP at h1 ⊢
    rw [h p hpk] at h1
    exact h1
  · have h1 := hp.2 q hq
    rw [lD_congr h, h q hq] at h1
    exact h1
/-- the next place of a storey -/
theorem lo_next {σ : SG} {r : List Nat} {p : Nat} (h4 : p < pF (sW σ) 4) (c : p ≠ pF (sW σ) (pS (sW σ) p)) : pS (sW σ) (p - 1) = pS (sW σ) p ∧ lo σ r p = min (lo σ r (p - 1)) (hU σ r p) ∧ hi σ r p = max (hi σ r (p - 1)) (hU σ r p) := by
  obtain ⟨a, b, d⟩ := pS_in h4
  have e : pS (sW σ) (p - 1) = pS (sW σ) p := pS_eq a (by omega) (by omega)
  refine ⟨e, ?_, ?_⟩
  · unfold lo
    rw [e]
    obtain ⟨j, hj⟩ : ∃ j, p - pF (sW σ) (pS (sW σ) p) = j + 1 := ⟨p - pF (sW σ) (pS (sW σ) p) - 1, by omega⟩
    rw [hj, show p - 1 - pF (sW σ) (pS (sW σ) p) = j by omega]
    show min _ (hU σ r (pF (sW σ) (pS (sW σ) p) + j + 1)) = _
    rw [show pF (sW σ) (pS (sW σ) p) + j + 1 = p by omega]
  · unfold hi
    rw [e]
    obtain ⟨j, hj⟩ : ∃ j, p - pF (sW σ) (pS (sW σ) p) = j + 1 := ⟨p - pF (sW σ) (pS (sW σ) p) - 1, by omega⟩
    rw [hj, show p - 1 - pF (sW σ) (pS (sW σ) p) = j by omega]
    show max _ (hU σ r (pF (sW σ) (pS (sW σ) p) + j + 1)) = _
    rw [show pF (sW σ) (pS (sW σ) p) + j + 1 = p by omega]
theorem lo_open {σ : SG} {r : List Nat} {p : Nat} (c : p = pF (sW σ) (pS (sW σ) p)) : lo σ r p = hU σ r p ∧ hi σ r p = hU σ r p := by
  unfold lo hi
  rw [show p - pF (sW σ) (pS (sW σ) p) = 0 by omega]
  exact ⟨by show hU σ r (pF (sW σ) (pS (sW σ) p)) = _; rw [← c], by show hU σ r (pF (sW σ) (pS (sW σ) p)) = _; rw [← c]⟩
theorem grw_0 {σ : SG} {r : List Nat} {p : Nat} (h4 : p < pF (sW σ) 4) : 0 ≤ grw σ r p := by
  unfold grw
  split
  · omega
  · rename_i c
    have := lo_next (r := r) h4 c
    omega
theorem c0_mono {σ : SG} {r : List Nat} {j : Nat} : ∀ k, j ≤ k → k ≤ pF (sW σ) 4 → c0 σ r j ≤ c0 σ r k
  | 0, h, _ => by rw [show j = 0 by omega]; exact Int.le_refl _
  | k + 1, h, h4 => by
    by_cases e : j = k + 1
    · rw [e]; exact Int.le_refl _
    · have h1 := c0_mono (σ := σ) (r := r) (j := j) k (by omega) (by omega)
      have h2 := grw_0 (σ := σ) (r := r) (p := k) (by omega)
      show _ ≤ c0 σ r k + grw σ r k
      omega
theorem mv_mono {near : Nat → Int} {r : List Nat} {j : Nat} : ∀ k, j ≤ k → mv near r j ≤ mv near r k
  | 0, h => by rw [show j = 0 by omega]; exact Int.le_refl _
  | k + 1, h => by
    by_cases e : j = k + 1
    · rw [e]; exact Int.le_refl _
    · have h1 := mv_mono (near := near) (r := r) (j := j) k (by omega)
      show _ ≤ mv near r k + (if _ then 0 else 1)
      split <;> omega
theorem mv_bd {near : Nat → Int} {r : List Nat} : ∀ k, 0 ≤ mv near r k ∧ mv near r k ≤ k
  | 0 => by show (0 : Int) ≤ 0 ∧ (0 : Int) ≤ _; omega
  | k + 1 => by
    have := mv_bd (near := near) (r := r) k
    show 0 ≤ mv near r k + (if _ then 0 else 1) ∧ mv near r k + (if _ then 0 else 1) ≤ _
    split <;> omega
theorem cst_mono {σ : SG} {near : Nat → Int} {mc : Int} {r : List Nat} {j k : Nat} (hmc : 0 ≤ mc) (h : j ≤ k) (h4 : k ≤ pF (sW σ) 4) : cst σ near mc r j ≤ cst σ near mc r k := by
  unfold cst
  have h1 := c0_mono (σ := σ) (r := r) k h h4
  have h2 : mc * mv near r j ≤ mc * mv near r k := Int.mul_le_mul_of_nonneg_left (mv_mono k h) hmc
  omega
theorem ld_mono {S : Nat → Nat → Int} {u : Nat → Int} {q j : Nat} : ∀ m, j ≤ m → (∀ a, a < m → 0 ≤ S a q ∧ 0 ≤ u a) → ld S u q j ≤ ld S u q m
  | 0, h, _ => by rw [show j = 0 by omega]; exact Int.le_refl _
  | m + 1, h, hb => by
    by_cases e : j = m + 1
    · rw [e]; exact Int.le_refl _
    · have h1 := ld_mono (S := S) (u := u) (q := q) (j := j) m (by omega) (fun a ha => hb a (by omega))
      have h2 : 0 ≤ S m q * u m := Int.mul_nonneg (hb m (by omega)).1 (hb m (by omega)).2
      show _ ≤ ld S u q m + (if q < m then S m q * u m else 0)
      split <;> omega
theorem lD_mono {σ : SG} {r : List Nat} {q j m : Nat} (hv : VB σ) (hr : ∀ i, i < m → r.getD i 0 < sN σ) (h : j ≤ m) : lD σ r q j ≤ lD σ r q m :=
  ld_mono m h (fun a ha => ⟨by omega, by
    have := (hv.2.2.2.2.1 _ (hr a ha)).2.1
    show 0 ≤ sA σ 1 _
    omega⟩)
theorem PRE_down {σ : SG} {r : List Nat} {j k : Nat} (hv : VB σ) (hr : ∀ i, i < k → r.getD i 0 < sN σ) (h : j ≤ k) (hp : PRE σ r k) : PRE σ r j :=
  ⟨fun p hpj => hp.1 p (by omega), fun q hq => by
    have h1 := hp.2 q (by omega)
    have h2 := lD_mono (q := q) hv hr h
    omega⟩
theorem hm_mono (u : Nat → Int) (f : Nat) {i : Nat} : ∀ k, i ≤ k → hmin u f k ≤ hmin u f i ∧ hmax u f i ≤ hmax u f k
  | 0, h => by rw [show i = 0 by omega]; exact ⟨Int.le_refl _, Int.le_refl _⟩
  | k + 1, h => by
    by_cases e : i = k + 1
    · rw [e]; exact ⟨Int.le_refl _, Int.le_refl _⟩
    · have := hm_mono u f (i := i) k (by omega)
      show min (hmin u f k) (u (f + k + 1)) ≤ _ ∧ _ ≤ max (hmax u f k) (u (f + k + 1))
      omega
theorem FIT_iff {σ : SG} {r : List Nat} (hv : VB σ) : FIT σ r ↔ PRE σ r (sL σ) := by
  have h4 := sL_4 hv
  constructor
  · rintro ⟨h1, h2⟩
    refine ⟨fun p hp => ⟨(h1 p hp).1, ?_⟩, fun q hq => (h1 q hq).2⟩
    have hs := pS_lt hv hp
    have h3 := h2 _ hs
    obtain ⟨a, b, c⟩ := pS_in (W := sW σ) (p := p) (by omega)
    have ef : pF (sW σ) (pS (sW σ) p + 1) = pF (sW σ) (pS (sW σ) p) + wq (sW σ) (pS (sW σ) p) := rfl
    have hm := hm_mono (hU σ r) (pF (sW σ) (pS (sW σ) p)) (i := p - pF (sW σ) (pS (sW σ) p)) (wq (sW σ) (pS (sW σ) p) - 1) (by omega)
    unfold sprd at h3
    unfold hi lo
    omega
  · rintro ⟨h1, h2⟩
    refine ⟨fun p hp => ⟨(h1 p hp).1, h2 p hp⟩, fun s hs => ?_⟩
    have hpl := pl_in hv hs
    have ws := hv.2.1 s
    have e : pS (sW σ) (pF (sW σ) s + (wq (sW σ) s - 1)) = s := by
      have h4 := hv.1.2
      refine pS_eq (by omega) (by omega) ?_
      show _ < pF (sW σ) s + wq (sW σ) s
      omega
    have h3 := (h1 (pF (sW σ) s + (wq (sW σ) s - 1)) (by omega)).2
    unfold hi lo at h3
    rw [e, show pF (sW σ) s + (wq (sW σ) s - 1) - pF (sW σ) s = wq (sW σ) s - 1 by omega] at h3
    exact h3
/-- how uneven: the differences of the storeys under k together -/
def us (σ : SG) (r : List Nat) : Nat → Int
  | 0 => 0
  | s + 1 => us σ r s + sprd σ r s
theorem c0_us {σ : SG} {r : List Nat} (hv : VB σ) : ∀ s, s ≤ 4 → c0 σ r (pF (sW σ) s) = us σ r s
  | 0, _ => rfl
  | s + 1, hs => by
    have ih := c0_us (r := r) hv s (by omega)
    have ws := hv.2.1 s
    have m4 : pF (sW σ) (s + 1) ≤ pF (sW σ) 4 := pF_mono (by omega)
    have ef : pF (sW σ) (s + 1) = pF (sW σ) s + wq (sW σ) s := rfl
    have key : ∀ j, j < wq (sW σ) s → c0 σ r (pF (sW σ) s + j + 1) = us σ r s + (hmax (hU σ r) (pF (sW σ) s) j - hmin (hU σ r) (pF (sW σ) s) j) := by
      intro j
      induction j with
      | zero =>
        intro hj
        show c0 σ r (pF (sW σ) s) + grw σ r (pF (sW σ) s) = _
        have e : pS (sW σ) (pF (sW σ) s) = s := pS_eq (by omega) (Nat.le_refl _) (by omega)
        unfold grw
        rw [e, if_pos rfl, ih]
        show _ = _ + (hU σ r (pF (sW σ) s) - hU σ r (pF (sW σ) s))
        omega
      | succ j ihj =>
        intro hj
        show c0 σ r (pF (sW σ) s + j + 1) + grw σ r (pF (sW σ) s + j + 1) = _
        have e : pS (sW σ) (pF (sW σ) s + j + 1) = s := pS_eq (by omega) (by omega) (by omega)
        have e2 : pS (sW σ) (pF (sW σ) s + j + 1 - 1) = s := pS_eq (by omega) (by omega) (by omega)
        rw [ihj (by omega)]
        unfold grw hi lo
        rw [e, e2, if_neg (by omega), show pF (sW σ) s + j + 1 - pF (sW σ) s = j + 1 by omega, show pF (sW σ) s + j + 1 - 1 - pF (sW σ) s = j by omega]
        omega
    have h := key (wq (sW σ) s - 1) (by omega)
    rw [show pF (sW σ) s + (wq (sW σ) s - 1) + 1 = pF (sW σ) (s + 1) by omega] at h
    rw [h]
    rfl
def UN (σ : SG) (r : List Nat) : Int := us σ r (sH σ)
theorem UN_c0 {σ : SG} {r : List Nat} (hv : VB σ) : c0 σ r (sL σ) = UN σ r := c0_us hv (sH σ) hv.1.2
/-- all placings that begin with pre, in their order -/
def ext (n : Nat) : Nat → List Nat → List (List Nat)
  | 0, pre => [pre]
  | k + 1, pre => (List.range n).flatMap (fun x => if x ∈ pre then [] else ext n k (pre ++ [x]))
theorem foldl_fm {α β γ : Type} (f : α → List β) (h : γ → β → γ) : ∀ (l : List α) (a : γ), (l.flatMap f).foldl h a = l.foldl (fun a x => (f x).foldl h a) a
  | [], _ => rfl
  | x :: l, a => by
    rw [List.flatMap_cons, List.foldl_append, List.foldl_cons]
    exact foldl_fm f h l _
theorem getD_app_lt {l : List Nat} {x p : Nat} (h : p < l.length) : (l ++ [x]).getD p 0 = l.getD p 0 := by
  rw [List.getD_eq_getElem?_getD, List.getD_eq_getElem?_getD, List.getElem?_append_left h]
theorem getD_app_eq {l : List Nat} {x : Nat} : (l ++ [x]).getD l.length 0 = x := by
  rw [List.getD_eq_getElem?_getD, List.getElem?_append_right (Nat.le_refl _), Nat.sub_self]
  rfl
theorem ext_spec {n : Nat} : ∀ (k : Nat) (pre e : List Nat), e ∈ ext n k pre → e.length = pre.length + k ∧ agr pre e pre.length ∧ ∀ i, pre.length ≤ i → i < e.length → e.getD i 0 < n
  | 0, pre, e, h => by
    have : e = pre := List.mem_singleton.mp h
    subst this
    exact ⟨rfl, fun _ _ => rfl, fun i h1 h2 => by omega⟩
  | k + 1, pre, e, h => by
    obtain ⟨x, hx, h2⟩ := List.mem_flatMap.mp h
    by_cases c : x ∈ pre
    · rw [if_pos c] at h2; cases h2
    · rw [if_neg c] at h2
      obtain ⟨a1, a2, a3⟩ := ext_spec k (pre ++ [x]) e h2
      rw [List.length_append] at a1 a2 a3
      have a1 : e.length = pre.length + 1 + k := a1
      refine ⟨by omega, fun p hp => ?_, fun i h1 h2 => ?_⟩
      · rw [← a2 p (by show p < pre.length + 1; omega), getD_app_lt hp]
      · by_cases hi : i = pre.length
        · have := a2 i (by show i < pre.length + 1; omega)
          rw [← this, hi, getD_app_eq]
          exact List.mem_range.mp hx
        · exact a3 i (by show pre.length + 1 ≤ i; omega) h2
abbrev AC : Type := Int × Int × List Nat
noncomputable def vis (σ : SG) (near : Nat → Int) (mc : Int) (ct : Bool) (a : AC) (e : List Nat) : AC := cif (PRE σ e (sL σ) ∧ cst σ near mc e (sL σ) < a.1) (if ct = true then (a.1, a.2.1 + 1, a.2.2) else (cst σ near mc e (sL σ), a.2.1 + 1, e)) a
theorem foldl_id {α β : Type} (f : α → β → α) (a : α) : ∀ (l : List β), (∀ x, x ∈ l → f a x = a) → l.foldl f a = a
  | [], _ => rfl
  | x :: l, h => by
    rw [List.foldl_cons, h x List.mem_cons_self]
    exact foldl_id f a l (fun y hy => h y (List.mem_cons_of_mem _ hy))
theorem prune {σ : SG} {near : Nat → Int} {mc : Int} {ct : Bool} (hv : VB σ) (hmc : 0 ≤ mc) {k : Nat} {pre : List Nat} (hl : pre.length + k = sL σ) (hn : ∀ i, i < pre.length → pre.getD i 0 < sN σ) (a : AC) (h : ¬ PRE σ pre pre.length ∨ a.1 ≤ cst σ near mc pre pre.length) : (ext (sN σ) k pre).foldl (vis σ near mc ct) a = a := by
  have h4 := sL_4 hv
  refine foldl_id _ _ _ (fun e he => ?_)
  obtain ⟨a1, a2, a3⟩ := ext_spec k pre e he
  unfold vis
  refine cif_neg ?_
  rintro ⟨b1, b2⟩
  have hen : ∀ i, i < sL σ → e.getD i 0 < sN σ := fun i hi => by
    by_cases c : i < pre.length
    · rw [← a2 i c]; exact hn i c
    · exact a3 i (by omega) (by omega)
  rcases h with h | h
  · exact h (PRE_congr (by omega) a2.symm (PRE_down hv hen (by omega) b1))
  · have h1 := cst_mono (σ := σ) (near := near) (r := e) (j := pre.length) hmc (show pre.length ≤ sL σ by omega) h4
    rw [← cst_congr (near := near) (mc := mc) (show pre.length ≤ pF (sW σ) 4 by omega) a2] at h1
    omega

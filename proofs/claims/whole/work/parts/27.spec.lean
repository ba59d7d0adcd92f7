/-! WHAT EACH CALL ANSWERS AND LEAVES, over the one value -/
def uTow (σ : SG) (h : Nat) (W : WT) : SG := ((h, W), σ.2.1, σ.2.2.1, none, σ.2.2.2.2)
def uPpl (σ : SG) (n : Nat) (A : Nat → Nat → Int) : SG := (σ.1, (n, A), σ.2.2)
def uPly (σ : SG) (v : Int) : SG := (σ.1, σ.2.1, v, σ.2.2.2)
def uHnd (σ : SG) (r : List Nat) : SG := (σ.1, σ.2.1, σ.2.2.1, some r, σ.2.2.2.2)
def uWor (σ : SG) (c d : Int) : SG := (σ.1, σ.2.1, σ.2.2.1, σ.2.2.2.1, (c, d, sT σ))
def uPts (σ : SG) (t : Int) : SG := (σ.1, σ.2.1, σ.2.2.1, σ.2.2.2.1, (sC σ, sD σ, t))
def wset (W : WT) (s v : Nat) : WT := match s with
  | 0 => (v, W.2)
  | 1 => (W.1, v, W.2.2)
  | 2 => (W.1, W.2.1, v, W.2.2.2)
  | _ => (W.1, W.2.1, W.2.2.1, v)
def xch (r : List Nat) (a b : Nat) : List Nat := (r.set a (r.getD b 0)).set b (r.getD a 0)
def PL (σ : SG) : List (List Nat) := ext (sN σ) (sL σ) []
def nearS (σ : SG) (p : Nat) : Int := match sR σ with
  | none => -1
  | some r => (r.getD p 0 : Nat)
def mvS (σ : SG) (e : List Nat) : Int := mv (nearS σ) e (sL σ)
noncomputable def nF (σ : SG) (a : Int) (e : List Nat) : Int := cif (FIT σ e) (a + 1) a
noncomputable def nFit (σ : SG) : Int := (PL σ).foldl (nF σ) 0
noncomputable def lv1 (σ : SG) (o : Option (Int × List Nat)) (e : List Nat) : Option (Int × List Nat) := cif (FIT σ e ∧ ∀ x, o = some x → UN σ e < x.1) (some (UN σ e, e)) o
noncomputable def lev (σ : SG) : Option (Int × List Nat) := (PL σ).foldl (lv1 σ) none
noncomputable def cl1 (σ : SG) (o : Option (Int × Int × List Nat)) (e : List Nat) : Option (Int × Int × List Nat) := cif (FIT σ e ∧ ∀ x, o = some x → (mvS σ e < x.1 ∨ (mvS σ e = x.1 ∧ UN σ e < x.2.1))) (some (mvS σ e, UN σ e, e)) o
noncomputable def clo (σ : SG) : Option (Int × Int × List Nat) := (PL σ).foldl (cl1 σ) none
def co (σ : SG) : Nat → Int
  | 0 => 0
  | k + 1 => co σ k + if sA σ 5 k = 0 then 0 else 1
def f_storeys (σ : SG) (v : Int) : Int × SG := if v < 1 ∨ 4 < v then (-3, σ) else if 7 < pF (sW σ) v.toNat then (-4, σ) else ((pF (sW σ) v.toNat : Nat), uTow σ v.toNat (sW σ))
def f_width (σ : SG) (s w : Int) : Int × SG := if s < 0 ∨ 3 < s then (-2, σ) else if w < 1 ∨ 3 < w then (-3, σ) else if s < sH σ ∧ 7 < (sL σ : Int) - wq (sW σ) s.toNat + w then (-4, σ) else ((wq (sW σ) s.toNat : Nat), uTow σ (sH σ) (wset (sW σ) s.toNat w.toNat))
def addA (A : Nat → Nat → Int) (n : Nat) (a b c d e : Int) : Nat → Nat → Int := fun i p => if p = n then (match i with | 0 => a | 1 => b | 2 => c | 3 => d | 4 => e | _ => 0) else A i p
def f_person (σ : SG) (a b c d e : Int) : Int × SG := if ¬ ((100 ≤ a ∧ a ≤ 200) ∧ (20 ≤ b ∧ b ≤ 120) ∧ (0 ≤ c ∧ c ≤ 400) ∧ (0 ≤ d ∧ d ≤ 3) ∧ (0 ≤ e ∧ e ≤ 20000)) then (-3, σ) else if sN σ = 8 then (-5, σ) else ((sN σ : Nat), uPpl σ (sN σ + 1) (addA (sA σ) (sN σ) a b c d e))
def outA (A : Nat → Nat → Int) (x : Nat) (b : Int) : Nat → Nat → Int := fun i p => if i = 5 ∧ p = x then b else A i p
def f_out (σ : SG) (x b : Int) : Int × SG := if x < 0 ∨ sN σ ≤ x then (-2, σ) else (sA σ 5 x.toNat, uPpl σ (sN σ) (outA (sA σ) x.toNat b))
def f_play (σ : SG) (v : Int) : Int × SG := if v < 0 ∨ 50 < v then (-3, σ) else (sP σ, uPly σ v)
noncomputable def f_fits (σ : SG) : Int × SG := (nFit σ, σ)
noncomputable def f_level (σ : SG) : Int × SG := (match lev σ with | none => -1 | some x => x.1, σ)
noncomputable def f_close (σ : SG) : Int × SG := (match clo σ with | none => -1 | some x => x.1, σ)
noncomputable def f_take (σ : SG) (v : Int) : Int × SG := if v < 0 ∨ 1 < v then (-3, σ) else if v = 0 then (match lev σ with | none => (-4, σ) | some x => (x.1, uHnd σ x.2)) else (match clo σ with | none => (-4, σ) | some x => (x.2.1, uHnd σ x.2.2))
def f_at (σ : SG) (p : Int) : Int × SG := if p < 0 ∨ sL σ ≤ p then (-2, σ) else match sR σ with | none => (-4, σ) | some r => ((r.getD p.toNat 0 : Nat), σ)
def f_load (σ : SG) (p : Int) : Int × SG := if p < 0 ∨ sL σ ≤ p then (-2, σ) else match sR σ with | none => (-4, σ) | some r => (lD σ r p.toNat (sL σ), σ)
noncomputable def f_swap (σ : SG) (a b : Int) : Int × SG := if a < 0 ∨ sL σ ≤ a ∨ b < 0 ∨ sL σ ≤ b then (-2, σ) else match sR σ with | none => (-4, σ) | some r => cif (FIT σ (xch r a.toNat b.toNat)) (1, uHnd σ (xch r a.toNat b.toNat)) (-4, σ)
def f_tick (σ : SG) (v : Int) : Int × SG := if v < 0 ∨ 2 < v then (-3, σ) else match sR σ with | none => (-4, σ) | some r => (if v = 0 then (sCR σ : Int) else if v = 1 then 2 * (sCR σ : Int) else (clk σ r 200).2.1, σ)
def f_weak (σ : SG) : Int × SG := match sR σ with | none => (-4, σ) | some r => ((clk σ r 200).2.2, σ)
def f_effort (σ : SG) (p t : Int) : Int × SG := if p < 0 ∨ sL σ ≤ p then (-2, σ) else if t < 0 ∨ 200 < t then (-3, σ) else match sR σ with | none => (-4, σ) | some r => ((clk σ r t.toNat).1 p.toNat, σ)
def f_worths (σ : SG) (c d : Int) : Int × SG := if ¬ ((0 ≤ c ∧ c ≤ 1000) ∧ (0 ≤ d ∧ d ≤ 1000)) then (-3, σ) else (1, uWor σ c d)
def pnt (σ : SG) (r : List Nat) : Int := if (clk σ r 200).2.1 = -1 then sD σ else if (sCR σ : Int) < (clk σ r 200).2.1 then sC σ else 0
def f_attempt (σ : SG) : Int × SG := match sR σ with | none => (-4, σ) | some r => (pnt σ r, uPts σ (sT σ + pnt σ r))
def f_count (σ : SG) (v : Int) : Int × SG := (if v = 0 then (sH σ : Int) else if v = 1 then (sL σ : Int) else if v = 2 then (sN σ : Int) else if v = 3 then co σ (sN σ) else if v = 4 then sT σ else if v = 5 then (match sR σ with | none => 0 | some _ => 1) else -3, σ)
/-! the search's end and these words -/
theorem mv_near {n1 n2 : Nat → Int} {e : List Nat} : ∀ k, (∀ p, p < k → n1 p = n2 p) → mv n1 e k = mv n2 e k
  | 0, _ => rfl
  | k + 1, h => by
    show mv n1 e k + _ = mv n2 e k + _
    rw [mv_near k (fun p hp => h p (by omega)), h k (by omega)]
theorem us_bd {σ : SG} {r : List Nat} (h : ∀ s, s < sH σ → sprd σ r s ≤ sP σ) (hp : 0 ≤ sP σ ∧ sP σ ≤ 50) : ∀ k, k ≤ sH σ → 0 ≤ us σ r k ∧ us σ r k ≤ 50 * k
  | 0, _ => by show (0 : Int) ≤ 0 ∧ (0 : Int) ≤ _; omega
  | k + 1, hk => by
    have h1 := us_bd h hp k (by omega)
    have h2 := h k (by omega)
    have h3 : 0 ≤ sprd σ r k := by
      have := hmin_le (hU σ r) (pF (sW σ) k) (wq (sW σ) k - 1)
      unfold sprd
      omega
    show 0 ≤ us σ r k + sprd σ r k ∧ us σ r k + sprd σ r k ≤ _
    omega
theorem UN_bd {σ : SG} {r : List Nat} (hv : VB σ) (h : FIT σ r) : 0 ≤ UN σ r ∧ UN σ r ≤ 200 := by
  have := us_bd h.2 hv.2.2.2.2.2.2.2 (sH σ) (Nat.le_refl _)
  have := hv.1.2
  unfold UN
  omega
noncomputable def SRC (σ : SG) (near : Nat → Int) (mc : Int) (ct : Bool) : AC := (PL σ).foldl (vis σ near mc ct) (2147483647, 0, [])
theorem src_count {σ : SG} {near : Nat → Int} (hv : VB σ) : (SRC σ near 0 true).2.1 = nFit σ := by
  have key : ∀ (l : List (List Nat)) (a : AC) (n : Int), a.1 = 2147483647 → a.2.1 = n → (l.foldl (vis σ near 0 true) a).2.1 = l.foldl (nF σ) n := by
    intro l
    induction l with
    | nil => intro a n _ h; exact h
    | cons e l ih =>
      intro a n h1 h2
      rw [List.foldl_cons, List.foldl_cons]
      by_cases c : FIT σ e
      · have hu := UN_bd hv c
        have e1 : vis σ near 0 true a e = (a.1, a.2.1 + 1, a.2.2) := by
          have hc : cst σ near 0 e (sL σ) < a.1 := by
            unfold cst
            rw [UN_c0 hv, h1]
            omega
          exact cif_pos ⟨(FIT_iff hv).mp c, hc⟩
        have e2 : nF σ n e = n + 1 := cif_pos c
        rw [e1, e2]
        exact ih _ _ h1 (by show a.2.1 + 1 = n + 1; omega)
      · have e1 : vis σ near 0 true a e = a := cif_neg (fun h => c ((FIT_iff hv).mpr h.1))
        have e2 : nF σ n e = n := cif_neg c
        rw [e1, e2]
        exact ih _ _ h1 h2
  exact key _ _ _ rfl rfl
def rlv (σ : SG) (a : AC) (o : Option (Int × List Nat)) : Prop := (o = none ∧ a.1 = 2147483647 ∧ a.2.1 = 0) ∨ (∃ x, o = some x ∧ a.1 = x.1 ∧ 0 < a.2.1 ∧ a.2.2 = x.2 ∧ 0 ≤ x.1 ∧ x.1 ≤ 200)
theorem src_level {σ : SG} {near : Nat → Int} (hv : VB σ) : rlv σ (SRC σ near 0 false) (lev σ) := by
  have key : ∀ (l : List (List Nat)) (a : AC) (o : Option (Int × List Nat)), rlv σ a o → rlv σ (l.foldl (vis σ near 0 false) a) (l.foldl (lv1 σ) o) := by
    intro l
    induction l with
    | nil => intro a o h; exact h
    | cons e l ih =>
      intro a o h
      rw [List.foldl_cons, List.foldl_cons]
      refine ih _ _ ?_
      have ec : cst σ near 0 e (sL σ) = UN σ e := by
        unfold cst
        rw [UN_c0 hv]
        omega
      by_cases c : FIT σ e
      · have hu := UN_bd hv c
        by_cases c2 : UN σ e < a.1
        · have e1 : vis σ near 0 false a e = (UN σ e, a.2.1 + 1, e) := by
            unfold vis
            rw [cif_pos ⟨(FIT_iff hv).mp c, by rw [ec]; exact c2⟩, ec]
            rfl
          have e2 : lv1 σ o e = some (UN σ e, e) := cif_pos ⟨c, fun x hx => by
            rcases h with ⟨h, -⟩ | ⟨y, hy, h1, -⟩
            · rw [h] at hx; cases hx
            · rw [hy] at hx; cases hx; omega⟩
          rw [e1, e2]
          refine Or.inr ⟨_, rfl, rfl, ?_, rfl, hu.1, hu.2⟩
          show 0 < a.2.1 + 1
          rcases h with ⟨-, -, h⟩ | ⟨y, hy, h1, h2, -⟩ <;> omega
        · have e1 : vis σ near 0 false a e = a := cif_neg (fun h => c2 (by rw [← ec]; exact h.2))
          have e2 : lv1 σ o e = o := cif_neg (fun hh => by
            rcases h with ⟨h, h1, -⟩ | ⟨y, hy, h1, -⟩
            · omega
            · have := hh.2 y hy; omega)
          rw [e1, e2]
          exact h
      · have e1 : vis σ near 0 false a e = a := cif_neg (fun h => c ((FIT_iff hv).mpr h.1))
        have e2 : lv1 σ o e = o := cif_neg (fun h => c h.1)
        rw [e1, e2]
        exact h
  exact key _ _ _ (Or.inl ⟨rfl, rfl, rfl⟩)
def rcl (σ : SG) (a : AC) (o : Option (Int × Int × List Nat)) : Prop := (o = none ∧ a.1 = 2147483647 ∧ a.2.1 = 0) ∨ (∃ x, o = some x ∧ a.1 = x.2.1 + 1000 * x.1 ∧ 0 < a.2.1 ∧ a.2.2 = x.2.2 ∧ 0 ≤ x.2.1 ∧ x.2.1 ≤ 200 ∧ 0 ≤ x.1 ∧ x.1 ≤ 7)
theorem src_close {σ : SG} {near : Nat → Int} (hv : VB σ) (hn : ∀ p, p < sL σ → near p = nearS σ p) : rcl σ (SRC σ near 1000 false) (clo σ) := by
  have key : ∀ (l : List (List Nat)) (a : AC) (o : Option (Int × Int × List Nat)), rcl σ a o → rcl σ (l.foldl (vis σ near 1000 false) a) (l.foldl (cl1 σ) o) := by
    intro l
    induction l with
    | nil => intro a o h; exact h
    | cons e l ih =>
      intro a o h
      rw [List.foldl_cons, List.foldl_cons]
      refine ih _ _ ?_
      have ec : cst σ near 1000 e (sL σ) = UN σ e + 1000 * mvS σ e := by
        unfold cst mvS
        rw [UN_c0 hv, mv_near (sL σ) hn]
      have hm := mv_bd (near := nearS σ) (r := e) (sL σ)
      have hL7 : sL σ ≤ 7 := hv.2.2.1
      have hm' : 0 ≤ mvS σ e ∧ mvS σ e ≤ 7 := by unfold mvS; omega
      by_cases c : FIT σ e
      · have hu := UN_bd hv c
        by_cases c2 : UN σ e + 1000 * mvS σ e < a.1
        · have e1 : vis σ near 1000 false a e = (UN σ e + 1000 * mvS σ e, a.2.1 + 1, e) := by
            unfold vis
            rw [cif_pos ⟨(FIT_iff hv).mp c, by rw [ec]; exact c2⟩, ec]
            rfl
          have e2 : cl1 σ o e = some (mvS σ e, UN σ e, e) := cif_pos ⟨c, fun x hx => by
            rcases h with ⟨h, -⟩ | ⟨y, hy, h1, -, -, h4, h5, -⟩
            · rw [h] at hx; cases hx
            · rw [hy] at hx; cases hx; omega⟩
          rw [e1, e2]
          refine Or.inr ⟨_, rfl, rfl, ?_, rfl, hu.1, hu.2, hm'.1, hm'.2⟩
          show 0 < a.2.1 + 1
          rcases h with ⟨-, -, h⟩ | ⟨y, hy, h1, h2, -⟩ <;> omega
        · have e1 : vis σ near 1000 false a e = a := cif_neg (fun h => c2 (by rw [← ec]; exact h.2))
          have e2 : cl1 σ o e = o := cif_neg (fun hh => by
            rcases h with ⟨h, h1, -⟩ | ⟨y, hy, h1, -, -, h4, h5, -⟩
            · omega
            · have := hh.2 y hy; omega)
          rw [e1, e2]
          exact h
      · have e1 : vis σ near 1000 false a e = a := cif_neg (fun h => c ((FIT_iff hv).mpr h.1))
        have e2 : cl1 σ o e = o := cif_neg (fun h => c h.1)
        rw [e1, e2]
        exact h
  exact key _ _ _ (Or.inl ⟨rfl, rfl, rfl⟩)
theorem PL_ok {σ : SG} {e : List Nat} (h : e ∈ PL σ) : hOK σ e := by
  obtain ⟨a, b, c⟩ := ext_spec _ _ _ h
  have a : e.length = 0 + sL σ := a
  exact ⟨by omega, fun i hi => c i (Nat.zero_le _) (by omega)⟩
theorem lev_in {σ : SG} : ∀ x, lev σ = some x → x.2 ∈ PL σ := by
  have key : ∀ (l : List (List Nat)) (o : Option (Int × List Nat)), (∀ x, l.foldl (lv1 σ) o = some x → x.2 ∈ l ∨ o = some x) := by
    intro l
    induction l with
    | nil => intro o x h; exact Or.inr h
    | cons e l ih =>
      intro o x h
      rw [List.foldl_cons] at h
      rcases ih _ x h with h | h
      · exact Or.inl (List.mem_cons_of_mem _ h)
      · unfold lv1 at h
        by_cases c : FIT σ e ∧ ∀ x, o = some x → UN σ e < x.1
        · rw [cif_pos c] at h; cases h; exact Or.inl List.mem_cons_self
        · rw [cif_neg c] at h; exact Or.inr h
  intro x h
  rcases key _ _ x h with h | h
  · exact h
  · cases h
theorem clo_in {σ : SG} : ∀ x, clo σ = some x → x.2.2 ∈ PL σ := by
  have key : ∀ (l : List (List Nat)) (o : Option (Int × Int × List Nat)), (∀ x, l.foldl (cl1 σ) o = some x → x.2.2 ∈ l ∨ o = some x) := by
    intro l
    induction l with
    | nil => intro o x h; exact Or.inr h
    | cons e l ih =>
      intro o x h
      rw [List.foldl_cons] at h
      rcases ih _ x h with h | h
      · exact Or.inl (List.mem_cons_of_mem _ h)
      · unfold cl1 at h
        by_cases c : FIT σ e ∧ ∀ x, o = some x → (mvS σ e < x.1 ∨ (mvS σ e = x.1 ∧ UN σ e < x.2.1))
        · rw [cif_pos c] at h; cases h; exact Or.inl List.mem_cons_self
        · rw [cif_neg c] at h; exact Or.inr h
  intro x h
  rcases key _ _ x h with h | h
  · exact h
  · cases h

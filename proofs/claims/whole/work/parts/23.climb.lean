/-! THE CLOCK -/
def tk (W : WT) (p : Nat) : Nat := 2 + pS W p
def tsum (W : WT) : Nat → Nat
  | 0 => 0
  | k + 1 => tsum W k + tk W k
def sCR (σ : SG) : Nat := tsum (sW σ) (sL σ)
def cnt (f : Nat → Bool) : Nat → Nat
  | 0 => 0
  | k + 1 => cnt f k + if f k = true then 1 else 0
/-- how many stand through the tick t -/
def mt (σ : SG) (t : Nat) : Nat := cnt (fun p => decide (tsum (sW σ) (p + 1) < t ∧ t + tsum (sW σ) p ≤ 2 * sCR σ)) (sL σ)
def fo (σ : SG) (r : List Nat) (ef : Nat → Int) (t : Int) (ab : Int × Int) : Nat → Int × Int
  | 0 => ab
  | k + 1 => if (fo σ r ef t ab k).1 = -1 ∧ 8 * sA σ 4 (r.getD k 0) < ef k then (t, (k : Int)) else fo σ r ef t ab k
abbrev CK : Type := (Nat → Int) × Int × Int
def tF (σ : SG) (r : List Nat) (m t : Nat) (c : CK) : CK := (fun p => c.1 p + lD σ r p m, fo σ r (fun p => c.1 p + lD σ r p m) t (c.2.1, c.2.2) (sL σ))
def clk (σ : SG) (r : List Nat) : Nat → CK
  | 0 => (fun _ => 0, -1, -1)
  | t + 1 => tF σ r (mt σ (t + 1)) (t + 1) (clk σ r t)
theorem cnt_le (f : Nat → Bool) : ∀ k, cnt f k ≤ k
  | 0 => Nat.le_refl _
  | k + 1 => by
    have := cnt_le f k
    show cnt f k + (if f k = true then 1 else 0) ≤ k + 1
    split <;> omega
theorem mt_le (σ : SG) (t : Nat) : mt σ t ≤ sL σ := cnt_le _ _
theorem cnt_prefix (f : Nat → Bool) (m : Nat) : ∀ k, m ≤ k → (∀ p, p < m → f p = true) → (∀ p, m ≤ p → p < k → f p = false) → cnt f k = m := by
  have a : ∀ j, j ≤ m → (∀ p, p < m → f p = true) → cnt f j = j := by
    intro j
    induction j with
    | zero => intro _ _; rfl
    | succ j ih =>
      intro hj h
      show cnt f j + (if f j = true then 1 else 0) = j + 1
      rw [ih (by omega) h, if_pos (h j (by omega))]
  intro k
  induction k with
  | zero =>
    intro hm h1 h2
    rw [show m = 0 by omega]
    rfl
  | succ k ih =>
    intro hm h1 h2
    by_cases e : m = k + 1
    · rw [← e]; exact a m (Nat.le_refl _) h1
    · show cnt f k + (if f k = true then 1 else 0) = m
      rw [ih (by omega) h1 (fun p hp hk => h2 p hp (by omega)), h2 k (by omega) (by omega)]
      rfl
theorem tsum_mono {W : WT} {a b : Nat} (h : a ≤ b) : tsum W a ≤ tsum W b := by
  induction b with
  | zero => rw [show a = 0 by omega]; exact Nat.le_refl _
  | succ b ih =>
    by_cases e : a = b + 1
    · rw [e]; exact Nat.le_refl _
    · have := ih (by omega)
      show tsum W a ≤ tsum W b + tk W b
      omega
theorem tsum_le {W : WT} : ∀ k, tsum W k ≤ 5 * k
  | 0 => Nat.le_refl _
  | k + 1 => by
    have h := tsum_le (W := W) k
    have h2 : tk W k ≤ 5 := by
      unfold tk pS
      split
      · omega
      · split
        · omega
        · split <;> omega
    show tsum W k + tk W k ≤ 5 * (k + 1)
    omega
theorem mt_up {σ : SG} {k t : Nat} (hk : k < sL σ) (h1 : tsum (sW σ) k < t) (h2 : t ≤ tsum (sW σ) (k + 1)) : mt σ t = k := by
  unfold mt
  refine cnt_prefix _ k _ (by omega) (fun p hp => ?_) (fun p hp hp2 => ?_)
  · have a1 : tsum (sW σ) (p + 1) ≤ tsum (sW σ) k := tsum_mono (by omega)
    have a2 : tsum (sW σ) (k + 1) ≤ sCR σ := tsum_mono (by omega)
    have a3 : tsum (sW σ) p ≤ sCR σ := tsum_mono (by omega)
    simp only [decide_eq_true_eq]
    omega
  · have a1 : tsum (sW σ) (k + 1) ≤ tsum (sW σ) (p + 1) := tsum_mono (by omega)
    simp only [decide_eq_false_iff_not]
    omega
theorem mt_down {σ : SG} {k t : Nat} (hk : k < sL σ) (h1 : 2 * sCR σ < t + tsum (sW σ) (k + 1)) (h2 : t + tsum (sW σ) k ≤ 2 * sCR σ) : mt σ t = k + 1 := by
  unfold mt
  have a0 : tsum (sW σ) (k + 1) ≤ sCR σ := tsum_mono (by omega)
  refine cnt_prefix _ (k + 1) _ (by omega) (fun p hp => ?_) (fun p hp hp2 => ?_)
  · have a1 : tsum (sW σ) (p + 1) ≤ tsum (sW σ) (k + 1) := tsum_mono (by omega)
    have a3 : tsum (sW σ) p ≤ tsum (sW σ) k := tsum_mono (by omega)
    simp only [decide_eq_true_eq]
    omega
  · have a1 : tsum (sW σ) (k + 1) ≤ tsum (sW σ) p := tsum_mono (by omega)
    simp only [decide_eq_false_iff_not]
    omega
theorem mt_late {σ : SG} {t : Nat} (h1 : 2 * sCR σ < t) : mt σ t = 0 := by
  unfold mt
  refine cnt_prefix _ 0 _ (by omega) (fun p hp => by omega) (fun p hp hp2 => ?_)
  simp only [decide_eq_false_iff_not]
  omega
theorem clk_bound {σ : SG} {r : List Nat} (hv : VB σ) (hr : hOK σ r) : ∀ (t p : Nat), 0 ≤ (clk σ r t).1 p ∧ (clk σ r t).1 p ≤ 6720 * t
  | 0, p => by show (0 : Int) ≤ 0 ∧ (0 : Int) ≤ _; omega
  | t + 1, p => by
    have h := clk_bound hv hr t p
    have h7 : sL σ ≤ 7 := hv.2.2.1
    have hm := mt_le σ (t + 1)
    have hb := lD_bound (q := p) hv hr hm
    show 0 ≤ (clk σ r t).1 p + lD σ r p (mt σ (t + 1)) ∧ (clk σ r t).1 p + lD σ r p (mt σ (t + 1)) ≤ _
    omega
/-- behind the tick DOWN nothing changes -/
theorem fo_still {σ : SG} {r : List Nat} {ef : Nat → Int} {t : Int} {a b : Int} : ∀ k, a ≠ -1 ∨ (∀ p, p < k → ¬ 8 * sA σ 4 (r.getD p 0) < ef p) → fo σ r ef t (a, b) k = (a, b)
  | 0, _ => rfl
  | k + 1, h => by
    have e : fo σ r ef t (a, b) k = (a, b) := fo_still k (h.imp id (fun h p hp => h p (by omega)))
    show (if (fo σ r ef t (a, b) k).1 = -1 ∧ _ then _ else _) = _
    rw [e, if_neg]
    rintro ⟨h1, h2⟩
    rcases h with h | h
    · exact h h1
    · exact h k (by omega) h2
theorem fo_some {σ : SG} {r : List Nat} {ef : Nat → Int} {t : Int} {a b : Int} (ht : t ≠ -1) : ∀ k, (fo σ r ef t (a, b) k).1 = -1 → a = -1 ∧ ∀ p, p < k → ¬ 8 * sA σ 4 (r.getD p 0) < ef p
  | 0, h => ⟨h, fun p hp => by omega⟩
  | k + 1, h => by
    have h' : (if (fo σ r ef t (a, b) k).1 = -1 ∧ 8 * sA σ 4 (r.getD k 0) < ef k then (t, (k : Int)) else fo σ r ef t (a, b) k).1 = -1 := h
    by_cases c : (fo σ r ef t (a, b) k).1 = -1 ∧ 8 * sA σ 4 (r.getD k 0) < ef k
    · rw [if_pos c] at h'
      exact absurd h' ht
    · rw [if_neg c] at h'
      have := fo_some ht k h'
      refine ⟨this.1, fun p hp => ?_⟩
      by_cases e : p = k
      · rw [e]; exact fun q => c ⟨h', q⟩
      · exact this.2 p (by omega)
theorem clk_none {σ : SG} {r : List Nat} (hv : VB σ) (hr : hOK σ r) : ∀ t, (clk σ r t).2.1 = -1 → ∀ p, p < sL σ → ¬ 8 * sA σ 4 (r.getD p 0) < (clk σ r t).1 p
  | 0, _, p, hp => by
    have := (hv.2.2.2.2.1 _ (hr.2 p hp)).2.2.2.2
    show ¬ 8 * _ < (0 : Int)
    omega
  | t + 1, h, p, hp => (fo_some (by omega) (sL σ) h).2 p hp
theorem clk_late {σ : SG} {r : List Nat} (hv : VB σ) (hr : hOK σ r) : ∀ k, clk σ r (2 * sCR σ + k) = clk σ r (2 * sCR σ)
  | 0 => rfl
  | k + 1 => by
    have e := clk_late hv hr k
    show tF σ r (mt σ (2 * sCR σ + k + 1)) (2 * sCR σ + k + 1) (clk σ r (2 * sCR σ + k)) = _
    rw [e, mt_late (by omega)]
    unfold tF
    have e2 : (fun p => (clk σ r (2 * sCR σ)).1 p + lD σ r p 0) = (clk σ r (2 * sCR σ)).1 := by
      funext p
      show _ + 0 = _
      omega
    rw [e2, fo_still]
    by_cases c : (clk σ r (2 * sCR σ)).2.1 = -1
    · exact Or.inr (clk_none hv hr _ c)
    · exact Or.inl c
/-- the clock's numbers lie in the class's cells -/
def CS (σ : SG) (c : CK) (g : vx_M) : Prop := (∀ p : Nat, p < sL σ → g 38 p = c.1 p) ∧ g 36 5 = c.2.1 ∧ g 36 6 = c.2.2
def fr_C (g g' : vx_M) : Prop := ∀ a b, a ≠ 36 → a ≠ 37 → a ≠ 38 → g' a b = g a b
theorem c_ticksFor {l : Launch} {d : Nat} {σ : SG} {g : vx_M} (hB : BC σ g) {p : Nat} (hp : p < sL σ) : vNi l mX0_ticksFor d [.inr (some 36), .inl (p : Int)] SH g (fun z g' => g' = g ∧ z = (tk (sW σ) p : Nat)) := by
  have h7 : sL σ ≤ 7 := hB.1.2.2.1
  have e := hB.2.1.2.2.2.1 p hp
  have hs := pS_lt hB.1 hp
  have h4 := hB.1.1.2
  refine kX0_ticksFor g p ⟨⟨by omega, by omega⟩, ?_, ?_⟩
  · rw [e]; exact ⟨by omega, by omega⟩
  · rw [e]; exact ⟨rfl, by unfold tk; omega⟩
theorem c_crowned {l : Launch} {d : Nat} {σ : SG} {g : vx_M} (hB : BC σ g) : vNi l mX0_crowned (d + 1) [.inr (some 36)] SH g (fun z g' => g' = g ∧ z = (sCR σ : Nat)) := by
  have h7 : sL σ ≤ 7 := hB.1.2.2.1
  have e5 : g 1 5 = (sL σ : Nat) := hB.2.1.2.1
  refine kX0_crowned g ?_
  have key : ∀ (k p : Nat), p + k = sL σ → vN l mX0_crowned (d + 1) (vx_pi SH (fun z g' => g' = g ∧ z = (sCR σ : Nat))) SH g 4 [some (.inr (some 36)), some (.inl (tsum (sW σ) p : Int)), some (.inl (p : Int))] [] := by
    intro k
    induction k with
    | zero =>
      intro p hp
      refine tX0_crowned_4 g _ _ ⟨fun _ => ⟨rfl, ?_⟩, fun c => by omega⟩
      rw [show p = sL σ by omega]; rfl
    | succ k ih =>
      intro p hp
      have b1 := tsum_le (W := sW σ) (p + 1)
      have e1 : tsum (sW σ) (p + 1) = tsum (sW σ) p + tk (sW σ) p := rfl
      refine tX0_crowned_4 g _ _ ⟨fun c => by omega, fun _ => ⟨_, c_ticksFor hB (by omega), fun r1 g1 h => ?_⟩⟩
      obtain ⟨rfl, rfl⟩ := h
      refine ⟨⟨by omega, by omega⟩, ⟨by omega, by omega⟩, ?_⟩
      have := ih (p + 1) (by omega)
      rw [e1, Int.natCast_add] at this
      exact this
  exact key (sL σ) 0 (by omega)
theorem c_tire {l : Launch} {d : Nat} {σ : SG} {g : vx_M} (hB : BC σ g) {r : List Nat} (hr : HB σ r 39 g) {m t : Nat} (hm : m ≤ sL σ) {c : CK} (hb : ∀ p, p < sL σ → 0 ≤ c.1 p ∧ c.1 p ≤ 2000000) (hst : ∀ p : Nat, p < sL σ → g 37 p = lD σ r p m) (hc : CS σ c g) (ht : t ≤ 1000) : vNv l mX0_tire d [.inr (some 36), .inr (some 39), .inl (t : Int)] SH g (fun g' => CS σ (tF σ r m t c) g' ∧ ∀ a b, a ≠ 36 → a ≠ 38 → g' a b = g a b) := by
  have hv := hB.1
  have h7 : sL σ ≤ 7 := hv.2.2.1
  have hn := hv.2.2.2.1
  have e5 : g 1 5 = (sL σ : Nat) := hB.2.1.2.1
  refine kX0_tire g t ?_
  have key : ∀ (k p : Nat), p + k = sL σ → ∀ g1 : vx_M, (∀ q : Nat, q < p → g1 38 q = c.1 q + lD σ r q m) → (∀ q : Nat, p ≤ q → q < sL σ → g1 38 q = c.1 q) → (g1 36 5, g1 36 6) = fo σ r (fun p => c.1 p + lD σ r p m) t (c.2.1, c.2.2) p → (∀ a b, a ≠ 36 → a ≠ 38 → g1 a b = g a b) → vN l mX0_tire d (vx_pv SH (fun g' => CS σ (tF σ r m t c) g' ∧ ∀ a b, a ≠ 36 → a ≠ 38 → g' a b = g a b)) SH g1 2 [some (.inr (some 36)), some (.inr (some 39)), some (.inl (t : Int)), some (.inl (p : Int))] [] := by
    intro k
    induction k with
    | zero =>
      intro p hp g1 h1 h2 h3 h4
      have e9 : g1 1 5 = (sL σ : Nat) := by rw [h4 1 5 (by omega) (by omega)]; exact e5
      refine tX0_tire_2 g1 _ _ ⟨fun _ => ⟨⟨fun q hq => h1 q (by omega), ?_, ?_⟩, h4⟩, fun c => by omega⟩
      · rw [show p = sL σ by omega] at h3
        exact congrArg Prod.fst h3
      · rw [show p = sL σ by omega] at h3
        exact congrArg Prod.snd h3
    | succ k ih =>
      intro p hp g1 h1 h2 h3 h4
      have e9 : g1 1 5 = (sL σ : Nat) := by rw [h4 1 5 (by omega) (by omega)]; exact e5
      have e37 : g1 37 p = lD σ r p m := by rw [h4 37 _ (by omega) (by omega)]; exact hst p (by omega)
      have e38 := h2 p (Nat.le_refl _) (by omega)
      have e39 : g1 39 p = (r.getD p 0 : Nat) := by rw [h4 39 _ (by omega) (by omega)]; exact hr.2 p (by omega)
      have hxn := hr.1.2 p (by omega)
      have e18 : g1 18 (r.getD p 0 : Nat) = sA σ 4 (r.getD p 0) := by
        rw [h4 18 _ (by omega) (by omega)]
        exact hB.2.2.1.2 4 (r.getD p 0) (by omega) (by omega)
      have bs := (hv.2.2.2.2.1 _ hxn).2.2.2.2
      have bl := lD_bound (q := p) hv hr.1 hm
      have bc := hb p (by omega)
      have hfo : fo σ r (fun p => c.1 p + lD σ r p m) t (c.2.1, c.2.2) (p + 1) = if g1 36 5 = -1 ∧ 8 * sA σ 4 (r.getD p 0) < c.1 p + lD σ r p m then ((t : Int), (p : Int)) else (g1 36 5, g1 36 6) := by
        show (if (fo σ r (fun p => c.1 p + lD σ r p m) t (c.2.1, c.2.2) p).1 = -1 ∧ _ then _ else fo σ r (fun p => c.1 p + lD σ r p m) t (c.2.1, c.2.2) p) = _
        rw [← h3]
      have q1 : ∀ q : Nat, q < p + 1 → (vx_u g1 38 p (c.1 p + lD σ r p m)) 38 q = c.1 q + lD σ r q m := fun q hq => by
        by_cases e : q = p
        · rw [e, vx_u_at]
        · rw [vx_u_j (by omega)]; exact h1 q (by omega)
      have q2 : ∀ q : Nat, p + 1 ≤ q → q < sL σ → (vx_u g1 38 p (c.1 p + lD σ r p m)) 38 q = c.1 q := fun q hq hq2 => by
        rw [vx_u_j (by omega)]; exact h2 q (by omega) hq2
      have q4 : ∀ a b, a ≠ 36 → a ≠ 38 → (vx_u g1 38 p (c.1 p + lD σ r p m)) a b = g a b := fun a b x y => by
        rw [vx_u_k y]; exact h4 a b x y
      refine tX0_tire_2 g1 _ _ ⟨fun c => by omega, fun _ => ⟨⟨by omega, by omega⟩, ⟨by omega, by omega⟩, ?_, ⟨by omega, by omega⟩, ?_⟩⟩
      · rw [e37, e38]; exact ⟨by omega, by omega⟩
      · rw [e37, e38]
        refine ⟨fun c1 => ⟨⟨by omega, by omega⟩, ?_⟩, fun c1 => ⟨⟨by omega, by omega⟩, ⟨by omega, by omega⟩, ⟨by omega, by omega⟩, ?_, fun c2 => ⟨⟨by omega, by omega⟩, ?_⟩, fun c2 => ⟨⟨by omega, by omega⟩, ?_⟩⟩⟩
        · refine ih (p + 1) (by omega) _ q1 q2 ?_ q4
          rw [hfo, if_neg (fun h => c1 h.1), vx_u_k (by omega), vx_u_k (by omega)]
        · rw [e39, e18]; exact ⟨by omega, by omega⟩
        · rw [vx_u_at, e39, e18] at c2
          refine ih (p + 1) (by omega) _ q1 q2 ?_ q4
          rw [hfo, if_neg (fun h => by omega), vx_u_k (by omega), vx_u_k (by omega)]
        · rw [vx_u_at, e39, e18] at c2
          refine ih (p + 1) (by omega) _ (fun q hq => ?_) (fun q hq hq2 => ?_) ?_ (fun a b x y => ?_)
          · rw [vx_u_k (by omega), vx_u_k (by omega)]; exact q1 q hq
          · rw [vx_u_k (by omega), vx_u_k (by omega)]; exact q2 q hq hq2
          · rw [hfo, if_pos ⟨c1, by omega⟩, vx_u_at, vx_u_j (by omega), vx_u_at]
          · rw [vx_u_k x, vx_u_k x]; exact q4 a b x y
  exact key (sL σ) 0 (by omega) g (fun q hq => by omega) (fun q _ hq => hc.1 q hq) (by rw [hc.2.1, hc.2.2]; rfl) (fun a b _ _ => rfl)
theorem HB.frame {σ : SG} {r : List Nat} {k : Nat} {g g' : vx_M} (h : HB σ r k g) (hf : ∀ b, g' k b = g k b) : HB σ r k g' := ⟨h.1, fun i hi => by rw [hf]; exact h.2 i hi⟩
theorem c_pass {l : Launch} {d : Nat} {σ : SG} {g : vx_M} (hB : BC σ g) {r : List Nat} (hr : HB σ r 39 g) {m time n last : Nat} (hm : m ≤ sL σ) (hn : time + n ≤ 200) (hlast : last ≤ 200) (hmt : ∀ t, time < t → t ≤ time + n → mt σ t = m) (hc : CS σ (clk σ r (min time last)) g) : vNi l mX0_pass (d + 2) [.inr (some 36), .inr (some 39), .inl (m : Int), .inl (time : Int), .inl (n : Int), .inl (last : Int)] SH g (fun z g' => z = ((time + n : Nat) : Int) ∧ CS σ (clk σ r (min (time + n) last)) g' ∧ fr_C g g') := by
  have hv := hB.1
  have h7 : sL σ ≤ 7 := hv.2.2.1
  have e5 : g 1 5 = (sL σ : Nat) := hB.2.1.2.1
  refine kX0_pass g m time n last ?_
  have key2 : ∀ (k t : Nat), t + k = time + n → time ≤ t → ∀ g1, (∀ p : Nat, p < sL σ → g1 37 p = lD σ r p m) → CS σ (clk σ r (min t last)) g1 → fr_C g g1 → vN l mX0_pass (d + 1 + 1) (vx_pi SH (fun z g' => z = ((time + n : Nat) : Int) ∧ CS σ (clk σ r (min (time + n) last)) g' ∧ fr_C g g')) SH g1 50 [some (.inr (some 36)), some (.inr (some 39)), some (.inl (m : Int)), some (.inl (time : Int)), some (.inl (n : Int)), some (.inl (last : Int)), some (.inl ((time + n : Nat) : Int)), some (.inl ((t + 1 : Nat) : Int))] [] := by
    intro k
    induction k with
    | zero =>
      intro t ht htt g1 h1 h2 h3
      refine tX0_pass_50 g1 _ _ _ _ _ _ ⟨fun _ => ⟨rfl, ?_, h3⟩, fun c => by omega⟩
      rw [show time + n = t by omega]; exact h2
    | succ k ih =>
      intro t ht htt g1 h1 h2 h3
      refine tX0_pass_50 g1 _ _ _ _ _ _ ⟨fun c => by omega, fun _ => ⟨fun c => ⟨rfl, ?_, h3⟩, fun c => ?_⟩⟩
      · rw [show min (time + n) last = min t last by omega]; exact h2
      · have hB1 : BC σ g1 := hB.frame (fun a b _ x => h3 a b (by omega) (by omega) (by omega))
        have hr1 : HB σ r 39 g1 := hr.frame (fun b => h3 39 b (by omega) (by omega) (by omega))
        rw [show min t last = t by omega] at h2
        have hbd : ∀ p, p < sL σ → 0 ≤ (clk σ r t).1 p ∧ (clk σ r t).1 p ≤ 2000000 := fun p hp => by
          have := clk_bound hv hr.1 t p
          omega
        refine ⟨_, c_tire (t := t + 1) hB1 hr1 hm hbd h1 h2 (by omega), fun g2 hg2 => ⟨⟨by omega, by omega⟩, ?_⟩⟩
        have ec : clk σ r (min (t + 1) last) = tF σ r m (t + 1) (clk σ r t) := by
          rw [show min (t + 1) last = t + 1 by omega]
          show tF σ r (mt σ (t + 1)) (t + 1) (clk σ r t) = _
          rw [hmt (t + 1) (by omega) (by omega)]
        exact ih (t + 1) (by omega) (by omega) g2 (fun p hp => by rw [hg2.2 37 p (by omega) (by omega)]; exact h1 p hp) (by rw [ec]; exact hg2.1) (fun a b x y z => by rw [hg2.2 a b x z]; exact h3 a b x y z)
  have key : ∀ (k p : Nat), p + k = sL σ → ∀ g1, (∀ q : Nat, q < p → g1 37 q = lD σ r q m) → (∀ a b, a ≠ 37 → g1 a b = g a b) → vN l mX0_pass (d + 1 + 1) (vx_pi SH (fun z g' => z = ((time + n : Nat) : Int) ∧ CS σ (clk σ r (min (time + n) last)) g' ∧ fr_C g g')) SH g1 3 [some (.inr (some 36)), some (.inr (some 39)), some (.inl (m : Int)), some (.inl (time : Int)), some (.inl (n : Int)), some (.inl (last : Int)), some (.inl (p : Int)), none] [] := by
    intro k
    induction k with
    | zero =>
      intro p hp g1 h1 h2
      have e9 : g1 1 5 = (sL σ : Nat) := by rw [h2 1 5 (by omega)]; exact e5
      refine tX0_pass_3 g1 _ _ _ _ _ ⟨fun _ => ⟨⟨by omega, by omega⟩, ⟨by omega, by omega⟩, ?_⟩, fun c => by omega⟩
      have h9 := key2 n time rfl (Nat.le_refl _) g1 (fun q hq => h1 q (by omega)) ⟨fun q hq => by rw [h2 38 q (by omega)]; exact hc.1 q hq, by rw [h2 36 5 (by omega)]; exact hc.2.1, by rw [h2 36 6 (by omega)]; exact hc.2.2⟩ (fun a b x y z => h2 a b y)
      exact h9
    | succ k ih =>
      intro p hp g1 h1 h2
      have e9 : g1 1 5 = (sL σ : Nat) := by rw [h2 1 5 (by omega)]; exact e5
      have hB1 : BC σ g1 := hB.frame (fun a b _ x => h2 a b (by omega))
      have hr1 : HB σ r 39 g1 := hr.frame (fun b => h2 39 b (by omega))
      refine tX0_pass_3 g1 _ _ _ _ _ ⟨fun c => by omega, fun _ => ⟨_, c_loadOn hB1 hr1 (by omega) hm, fun r3 g3 h => ?_⟩⟩
      obtain ⟨rfl, rfl⟩ := h
      refine ⟨⟨by omega, by omega⟩, ⟨by omega, by omega⟩, ?_⟩
      exact ih (p + 1) (by omega) _ (fun q hq => by
        by_cases e : q = p
        · rw [e, vx_u_at]
        · rw [vx_u_j (by omega)]; exact h1 q (by omega)) (fun a b x => by rw [vx_u_k x]; exact h2 a b x)
  exact key (sL σ) 0 (by omega) g (fun q hq => by omega) (fun a b _ => rfl)
theorem c_run {l : Launch} {d : Nat} {σ : SG} {g : vx_M} (hB : BC σ g) {r : List Nat} (hr : HB σ r 39 g) {last : Nat} (hlast : last ≤ 200) : vNv l mX0_run (d + 3) [.inr (some 36), .inr (some 39), .inl (last : Int)] SH g (fun g' => CS σ (clk σ r (min (2 * sCR σ) last)) g' ∧ fr_C g g') := by
  have hv := hB.1
  have h7 : sL σ ≤ 7 := hv.2.2.1
  have h1L : 1 ≤ sL σ := by
    have := pl_in hv (s := 0) (by have := hv.1.1; omega)
    have := hv.2.1 0
    omega
  have e5 : g 1 5 = (sL σ : Nat) := hB.2.1.2.1
  have bCR : sCR σ ≤ 35 := by
    have := tsum_le (W := sW σ) (sL σ)
    unfold sCR
    omega
  refine kX0_run g last ⟨_, c_fill s_38 (by omega) g 0, fun g1 h1 => ?_⟩
  have down : ∀ (k : Nat), k ≤ sL σ → ∀ g2, CS σ (clk σ r (min (2 * sCR σ - tsum (sW σ) k) last)) g2 → fr_C g g2 → vN l mX0_run (d + 2 + 1) (vx_pv SH (fun g' => CS σ (clk σ r (min (2 * sCR σ) last)) g' ∧ fr_C g g')) SH g2 68 [some (.inr (some 36)), some (.inr (some 39)), some (.inl (last : Int)), some (.inl ((2 * sCR σ - tsum (sW σ) k : Nat) : Int)), some (.inl ((k : Int) - 1))] [] := by
    intro k
    induction k with
    | zero =>
      intro hk g2 h2 h3
      refine tX0_run_68 g2 _ _ _ ⟨fun _ => ⟨h2, h3⟩, fun c => by omega⟩
    | succ k ih =>
      intro hk g2 h2 h3
      have hB2 : BC σ g2 := hB.frame (fun a b _ x => h3 a b (by omega) (by omega) (by omega))
      have hr2 : HB σ r 39 g2 := hr.frame (fun b => h3 39 b (by omega) (by omega) (by omega))
      have et : tsum (sW σ) (k + 1) = tsum (sW σ) k + tk (sW σ) k := rfl
      have hle : tsum (sW σ) (k + 1) ≤ sCR σ := tsum_mono (by omega)
      have ek : ((k + 1 : Nat) : Int) - 1 = (k : Int) := by omega
      rw [ek]
      refine tX0_run_68 g2 _ _ _ ⟨fun c => by omega, fun _ => ⟨⟨by omega, by omega⟩, _, c_ticksFor hB2 (by omega), fun r2 g3 h => ?_⟩⟩
      obtain ⟨rfl, rfl⟩ := h
      refine ⟨_, c_pass (m := k + 1) (time := 2 * sCR σ - tsum (sW σ) (k + 1)) (n := tk (sW σ) k) hB2 hr2 (by omega) (by omega) hlast (fun t a b => mt_down (by omega) (by omega) (by omega)) h2, fun r3 g4 h => ?_⟩
      obtain ⟨rfl, h5, h6⟩ := h
      refine ⟨⟨by omega, by omega⟩, ?_⟩
      have e9 : 2 * sCR σ - tsum (sW σ) (k + 1) + tk (sW σ) k = 2 * sCR σ - tsum (sW σ) k := by omega
      rw [e9] at h5 ⊢
      have := ih (by omega) g4 h5 (fun a b x y z => by rw [h6 a b x y z]; exact h3 a b x y z)
      exact this
  have up : ∀ (k p : Nat), p + k = sL σ → ∀ g2, CS σ (clk σ r (min (tsum (sW σ) p) last)) g2 → fr_C g g2 → vN l mX0_run (d + 2 + 1) (vx_pv SH (fun g' => CS σ (clk σ r (min (2 * sCR σ) last)) g' ∧ fr_C g g')) SH g2 23 [some (.inr (some 36)), some (.inr (some 39)), some (.inl (last : Int)), some (.inl (tsum (sW σ) p : Int)), some (.inl (p : Int))] [] := by
    intro k
    induction k with
    | zero =>
      intro p hp g2 h2 h3
      have e9 : g2 1 5 = (sL σ : Nat) := by rw [h3 1 5 (by omega) (by omega) (by omega)]; exact e5
      have ep : p = sL σ := by omega
      subst ep
      refine tX0_run_23 g2 _ _ _ ⟨fun _ => ⟨⟨by omega, by omega⟩, ?_⟩, fun c => by omega⟩
      rw [e9]
      have e8 : tsum (sW σ) (sL σ) = 2 * sCR σ - tsum (sW σ) (sL σ) := by
        show sCR σ = 2 * sCR σ - sCR σ
        omega
      have := down (sL σ) (Nat.le_refl _) g2 (by rw [← e8]; exact h2) h3
      rw [← e8] at this
      exact this
    | succ k ih =>
      intro p hp g2 h2 h3
      have e9 : g2 1 5 = (sL σ : Nat) := by rw [h3 1 5 (by omega) (by omega) (by omega)]; exact e5
      have hB2 : BC σ g2 := hB.frame (fun a b _ x => h3 a b (by omega) (by omega) (by omega))
      have hr2 : HB σ r 39 g2 := hr.frame (fun b => h3 39 b (by omega) (by omega) (by omega))
      have et : tsum (sW σ) (p + 1) = tsum (sW σ) p + tk (sW σ) p := rfl
      have hle : tsum (sW σ) (p + 1) ≤ sCR σ := tsum_mono (by omega)
      refine tX0_run_23 g2 _ _ _ ⟨fun c => by omega, fun _ => ⟨_, c_ticksFor hB2 (by omega), fun r2 g3 h => ?_⟩⟩
      obtain ⟨rfl, rfl⟩ := h
      refine ⟨_, c_pass (m := p) (time := tsum (sW σ) p) (n := tk (sW σ) p) hB2 hr2 (by omega) (by omega) hlast (fun t a b => mt_up (by omega) a (by omega)) h2, fun r3 g4 h => ?_⟩
      obtain ⟨rfl, h5, h6⟩ := h
      refine ⟨⟨by omega, by omega⟩, ?_⟩
      rw [← et] at h5 ⊢
      exact ih (p + 1) (by omega) g4 h5 (fun a b x y z => by rw [h6 a b x y z]; exact h3 a b x y z)
  refine up (sL σ) 0 (by omega) _ ?_ ?_
  · refine ⟨fun p hp => ?_, ?_, ?_⟩
    · rw [vx_u_k (by omega), vx_u_k (by omega), h1]
      unfold vx_fill
      rw [if_pos rfl, if_pos (by omega), show min (tsum (sW σ) 0) last = 0 by show min 0 last = 0; omega]
      rfl
    · rw [vx_u_j (by omega), vx_u_at, show min (tsum (sW σ) 0) last = 0 by show min 0 last = 0; omega]
      rfl
    · rw [vx_u_at, show min (tsum (sW σ) 0) last = 0 by show min 0 last = 0; omega]
      rfl
  · intro a b x y z
    rw [vx_u_k x, vx_u_k x, h1]
    unfold vx_fill
    rw [if_neg z]

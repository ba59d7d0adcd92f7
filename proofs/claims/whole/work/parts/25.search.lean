/-! THE SEARCH, over the machine -/
def AI (σ : SG) (ct : Bool) (a : AC) (g : vx_M) : Prop := g 21 11 = a.1 ∧ g 21 12 = a.2.1 ∧ (ct = false → 0 < a.2.1 → ∀ i : Nat, i < sL σ → g 35 i = (a.2.2.getD i 0 : Nat))
def SI (σ : SG) (near : Nat → Int) (mc : Int) (ct : Bool) (pre : List Nat) (g : vx_M) : Prop :=
  BC σ g ∧ (∀ i : Nat, i < pre.length → g 22 i = (pre.getD i 0 : Nat)) ∧ (∀ x : Nat, x < 8 → g 33 x = if x ∈ pre then 1 else 0) ∧ (∀ q : Nat, q < pre.length → g (24 + pre.length) q = lD σ pre q pre.length) ∧ (∀ q : Nat, q < pre.length → g 32 q = 8 * sA σ 2 (pre.getD q 0)) ∧ (∀ p : Nat, p < 7 → g 34 p = near p) ∧ g 21 9 = (if ct = true then 1 else 0) ∧ g 21 10 = mc
def FW (n : Nat) (g g' : vx_M) : Prop := (∀ a b, a ≠ 21 → a ≠ 22 → a ≠ 32 → a ≠ 33 → a ≠ 35 → (a ≤ 24 + n ∨ 32 < a) → g' a b = g a b) ∧ (∀ i : Nat, i < n → g' 22 i = g 22 i) ∧ (∀ i : Nat, i < n → g' 32 i = g 32 i)
theorem FW.rf {n : Nat} {g : vx_M} : FW n g g := ⟨fun _ _ _ _ _ _ _ _ => rfl, fun _ _ => rfl, fun _ _ => rfl⟩
theorem FW.tr {n : Nat} {g1 g2 g3 : vx_M} (h : FW n g1 g2) (k : FW n g2 g3) : FW n g1 g3 := ⟨fun a b x1 x2 x3 x4 x5 x6 => (k.1 a b x1 x2 x3 x4 x5 x6).trans (h.1 a b x1 x2 x3 x4 x5 x6), fun i hi => (k.2.1 i hi).trans (h.2.1 i hi), fun i hi => (k.2.2 i hi).trans (h.2.2 i hi)⟩
theorem c_bearsAlso {l : Launch} {d : Nat} {σ : SG} {g : vx_M} (hB : BC σ g) {n : Nat} (hn : n < sL σ) {wt : Int} (hw : 0 ≤ wt ∧ wt ≤ 120) {f : Nat → Int} (hf : ∀ q : Nat, q < n → g (24 + n) q = f q) (hfb : ∀ q : Nat, q < n → 0 ≤ f q ∧ f q ≤ 10000) :
    vNi l mX3_bearsAlso d [.inr (some 21), .inl (n : Int), .inl wt] SH g (fun z g' => (∀ a b, a ≠ 24 + (n + 1) → g' a b = g a b) ∧ ((z = 1 ∧ (∀ q : Nat, q < n → f q + pH (sW σ) n q * wt ≤ g 32 q) ∧ (∀ q : Nat, q < n → g' (24 + (n + 1)) q = f q + pH (sW σ) n q * wt) ∧ g' (24 + (n + 1)) n = 0) ∨ (z = 0 ∧ ∃ q : Nat, q < n ∧ g 32 q < f q + pH (sW σ) n q * wt))) := by
  have h7 : sL σ ≤ 7 := hB.1.2.2.1
  have e1 : ((n : Int) + 1).toNat = n + 1 := by omega
  have e0 : (n : Int).toNat = n := by omega
  refine kX3_bearsAlso g n wt ⟨⟨by omega, by omega⟩, ⟨by omega, by omega⟩, ⟨by omega, by omega⟩, ⟨by omega, by omega⟩, ?_⟩
  have key : ∀ (k i : Nat), i + k = n → ∀ g1 : vx_M, (∀ a b, a ≠ 24 + (n + 1) → g1 a b = g a b) → (∀ q : Nat, q < i → f q + pH (sW σ) n q * wt ≤ g 32 q ∧ g1 (24 + (n + 1)) q = f q + pH (sW σ) n q * wt) → vN l mX3_bearsAlso d (vx_pi SH (fun z g' => (∀ a b, a ≠ 24 + (n + 1) → g' a b = g a b) ∧ ((z = 1 ∧ (∀ q : Nat, q < n → f q + pH (sW σ) n q * wt ≤ g 32 q) ∧ (∀ q : Nat, q < n → g' (24 + (n + 1)) q = f q + pH (sW σ) n q * wt) ∧ g' (24 + (n + 1)) n = 0) ∨ (z = 0 ∧ ∃ q : Nat, q < n ∧ g 32 q < f q + pH (sW σ) n q * wt)))) SH g1 31 [some (.inr (some 21)), some (.inl (n : Int)), some (.inl wt), some (.inr (some (6 + (n : Int).toNat))), some (.inr (some (24 + (n : Int).toNat))), some (.inr (some (24 + ((n : Int) + 1).toNat))), some (.inl (i : Int))] [] := by
    intro k
    induction k with
    | zero =>
      intro i hi g1 h1 h2
      have ei : i = n := by omega
      subst ei
      refine tX3_bearsAlso_31 g1 _ _ _ ⟨⟨by omega, by omega⟩, ⟨by omega, by omega⟩, ⟨by omega, by omega⟩, fun _ => ⟨⟨by omega, by omega⟩, ?_⟩, fun c => by omega⟩
      rw [e1]
      refine ⟨fun a b x => by rw [vx_u_k x]; exact h1 a b x, Or.inl ⟨rfl, fun q hq => (h2 q hq).1, fun q hq => ?_, vx_u_at⟩⟩
      rw [vx_u_j (by omega)]
      exact (h2 q hq).2
    | succ k ih =>
      intro i hi g1 h1 h2
      have s1 : g1 (6 + n) i = pH (sW σ) n i := by
        rw [h1 _ _ (by omega)]
        exact hB.2.1.2.2.2.2 n i (by unfold sL at hn; omega) (by omega)
      have s2 : g1 (24 + n) i = f i := by rw [h1 _ _ (by omega)]; exact hf i (by omega)
      have s3 : g1 32 i = g 32 i := h1 _ _ (by omega)
      have b1 := pH_le (W := sW σ) n i
      have b2 := hfb i (by omega)
      have m1 : 0 ≤ (pH (sW σ) n i : Int) * wt := Int.mul_nonneg (by omega) hw.1
      have m2 : (pH (sW σ) n i : Int) * wt ≤ 8 * 120 := Int.mul_le_mul (by omega) hw.2 hw.1 (by omega)
      refine tX3_bearsAlso_31 g1 _ _ _ ⟨⟨by omega, by omega⟩, ⟨by omega, by omega⟩, ⟨by omega, by omega⟩, fun c => by omega, fun _ => ⟨⟨by omega, by omega⟩, ⟨by omega, by omega⟩, ?_, ?_, ⟨by omega, by omega⟩, ⟨by omega, by omega⟩, ⟨by omega, by omega⟩, ?_, ?_⟩⟩
      · rw [e0, s1]; exact ⟨by omega, by omega⟩
      · rw [e0, s1, s2]; exact ⟨by omega, by omega⟩
      · rw [e0, e1, s1, s2, vx_u_at, vx_u_k (show (32 : Nat) ≠ 24 + (n + 1) by omega), s3]
        intro c
        refine ⟨⟨by omega, by omega⟩, ?_⟩
        have h9 := ih (i + 1) (by omega) (vx_u g1 (24 + (n + 1)) i (f i + pH (sW σ) n i * wt)) (fun a b x => by rw [vx_u_k x]; exact h1 a b x) (fun q hq => by
          by_cases e : q = i
          · rw [e, vx_u_at]; exact ⟨c, rfl⟩
          · rw [vx_u_j (by omega)]; exact h2 q (by omega))
        rw [e0, e1] at h9
        exact h9
      · rw [e0, e1, s1, s2, vx_u_at, vx_u_k (show (32 : Nat) ≠ 24 + (n + 1) by omega), s3]
        intro c
        exact ⟨fun a b x => by rw [vx_u_k x]; exact h1 a b x, Or.inr ⟨rfl, i, by omega, by omega⟩⟩
  exact key n 0 (by omega) g (fun _ _ _ => rfl) (fun q hq => by omega)
theorem c_arrive {l : Launch} {d : Nat} {σ : SG} {near : Nat → Int} {mc : Int} {ct : Bool} {g : vx_M} {a : AC} {pre : List Nat} (hS : SI σ near mc ct pre g) (hA : AI σ ct a g) (hl : pre.length = sL σ) (hb : 0 ≤ a.2.1 ∧ a.2.1 ≤ 100000000) (c : Int) :
    vNv l mX3_arrive (d + 1) [.inr (some 21), .inl c] SH g (fun g' => AI σ ct (if ct = true then (a.1, a.2.1 + 1, a.2.2) else (c, a.2.1 + 1, pre)) g' ∧ (∀ a b, a ≠ 21 → a ≠ 35 → g' a b = g a b) ∧ g' 21 9 = g 21 9 ∧ g' 21 10 = g 21 10) := by
  obtain ⟨hB, h2, h3, h4, h5, h6, h7, h8⟩ := hS
  have hL7 : sL σ ≤ 7 := hB.1.2.2.1
  refine kX3_arrive g c ⟨?_, fun c1 => ?_, fun c1 => ?_⟩
  · rw [hA.2.1]; exact ⟨by omega, by omega⟩
  · cases ct with
    | false => rw [h7] at c1; exact absurd rfl c1
    | true =>
      refine ⟨⟨?_, ?_, fun h => by cases h⟩, fun a b x y => vx_u_k x, vx_u_j (by omega), vx_u_j (by omega)⟩
      · rw [vx_u_j (by omega)]; exact hA.1
      · rw [vx_u_at, hA.2.1]; rfl
  · cases ct with
    | true => rw [h7] at c1; cases c1
    | false =>
      have f1 : ∀ a b, a ≠ 35 → vx_cp (vx_u (vx_u g 21 12 (g 21 12 + 1)) 21 11 c) 22 35 0 0 7 a b = vx_u (vx_u g 21 12 (g 21 12 + 1)) 21 11 c a b := fun a b x => by
        unfold vx_cp
        rw [if_neg x]
      refine ⟨⟨?_, ?_, fun _ _ i hi => ?_⟩, fun a b x y => ?_, ?_, ?_⟩
      · rw [f1 _ _ (by omega), vx_u_at]; rfl
      · rw [f1 _ _ (by omega), vx_u_j (by omega), vx_u_at, hA.2.1]; rfl
      · unfold vx_cp
        rw [if_pos rfl, if_pos (by omega), show (0 : Int) + ((i : Int) - 0) = i by omega, vx_u_k (by omega), vx_u_k (by omega)]
        exact h2 i (by omega)
      · rw [f1 _ _ y, vx_u_k x, vx_u_k x]
      · rw [f1 _ _ (by omega), vx_u_j (by omega), vx_u_j (by omega)]
      · rw [f1 _ _ (by omega), vx_u_j (by omega), vx_u_j (by omega)]
theorem ext_len {n : Nat} (hn : n ≤ 8) : ∀ (k : Nat) (pre : List Nat), (ext n k pre).length ≤ 8 ^ k
  | 0, pre => by show 1 ≤ 1; omega
  | k + 1, pre => by
    have key : ∀ m, ((List.range m).flatMap (fun x => if x ∈ pre then [] else ext n k (pre ++ [x]))).length ≤ m * 8 ^ k := by
      intro m
      induction m with
      | zero => simp
      | succ m ih =>
        rw [List.range_succ, List.flatMap_append, List.length_append, Nat.succ_mul]
        have h1 : ((([m] : List Nat)).flatMap (fun x => if x ∈ pre then [] else ext n k (pre ++ [x]))).length ≤ 8 ^ k := by
          rw [List.flatMap_cons, List.flatMap_nil, List.append_nil]
          split
          · exact Nat.zero_le _
          · exact ext_len hn k _
        omega
    have h := key n
    have h2 : n * 8 ^ k ≤ 8 * 8 ^ k := Nat.mul_le_mul_right _ hn
    show ((List.range n).flatMap (fun x => if x ∈ pre then [] else ext n k (pre ++ [x]))).length ≤ 8 ^ (k + 1)
    rw [Nat.pow_succ]
    omega
theorem vis_found {σ : SG} {near : Nat → Int} {mc : Int} {ct : Bool} : ∀ (l : List (List Nat)) (a : AC), a.2.1 ≤ (l.foldl (vis σ near mc ct) a).2.1 ∧ (l.foldl (vis σ near mc ct) a).2.1 ≤ a.2.1 + l.length
  | [], a => by show a.2.1 ≤ a.2.1 ∧ a.2.1 ≤ a.2.1 + (0 : Nat); omega
  | e :: l, a => by
    have h := vis_found (σ := σ) (near := near) (mc := mc) (ct := ct) l (vis σ near mc ct a e)
    rw [List.foldl_cons, List.length_cons]
    have h2 : a.2.1 ≤ (vis σ near mc ct a e).2.1 ∧ (vis σ near mc ct a e).2.1 ≤ a.2.1 + 1 := by
      unfold vis
      by_cases c : PRE σ e (sL σ) ∧ cst σ near mc e (sL σ) < a.1
      · rw [cif_pos c]
        split
        · show a.2.1 ≤ a.2.1 + 1 ∧ a.2.1 + 1 ≤ a.2.1 + 1; omega
        · show a.2.1 ≤ a.2.1 + 1 ∧ a.2.1 + 1 ≤ a.2.1 + 1; omega
      · rw [cif_neg c]; omega
    omega
/-- what goOnWith does, out of what walk does a place higher -/
theorem c_goOnWith {l : Launch} {d : Nat} {σ : SG} {near : Nat → Int} {mc : Int} {ct : Bool} {k : Nat} {pre : List Nat} (hl : pre.length + (k + 1) = sL σ) (hpn : ∀ i, i < pre.length → pre.getD i 0 < sN σ) (hmc : 0 ≤ mc)
    {x : Nat} (hx : x < sN σ) (hxp : x ∉ pre) {a : AC} {g : vx_M} (hS : SI σ near mc ct pre g) (hA : AI σ ct a g) (hpre : PRE σ pre pre.length) (hok : okP σ (pre ++ [x]) pre.length) (hsp : hi σ (pre ++ [x]) pre.length - lo σ (pre ++ [x]) pre.length ≤ sP σ) (hcst : cst σ near mc (pre ++ [x]) (pre.length + 1) < a.1)
    (hwalk : ∀ (g1 : vx_M), SI σ near mc ct (pre ++ [x]) g1 → AI σ ct a g1 → PRE σ (pre ++ [x]) (pre.length + 1) → vNv l mX3_walk d [.inr (some 21), .inl ((pre.length : Int) + 1), .inl (lo σ (pre ++ [x]) pre.length), .inl (hi σ (pre ++ [x]) pre.length), .inl (cst σ near mc (pre ++ [x]) (pre.length + 1))] SH g1 (fun g' => SI σ near mc ct (pre ++ [x]) g' ∧ AI σ ct ((ext (sN σ) k (pre ++ [x])).foldl (vis σ near mc ct) a) g' ∧ FW (pre.length + 1) g1 g')) :
    vNv l mX3_goOnWith (d + 1) [.inr (some 21), .inl (x : Int), .inl (pre.length : Int), .inl (lo σ (pre ++ [x]) pre.length), .inl (hi σ (pre ++ [x]) pre.length), .inl (cst σ near mc (pre ++ [x]) (pre.length + 1))] SH g (fun g' => SI σ near mc ct pre g' ∧ AI σ ct ((ext (sN σ) k (pre ++ [x])).foldl (vis σ near mc ct) a) g' ∧ FW pre.length g g') := by
  obtain ⟨hB, h2, h3, h4, h5, h6, h7, h8⟩ := id hS
  have hv := hB.1
  have hL7 : sL σ ≤ 7 := hv.2.2.1
  have hn8 := hv.2.2.2.1
  have h44 := sL_4 hv
  have hlen : (pre ++ [x]).length = pre.length + 1 := by rw [List.length_append]; rfl
  have hgx : (pre ++ [x]).getD pre.length 0 = x := getD_app_eq
  have hag : agr pre (pre ++ [x]) pre.length := fun p hp => (getD_app_lt hp).symm
  have hpn2 : ∀ i, i < (pre ++ [x]).length → (pre ++ [x]).getD i 0 < sN σ := fun i hi => by
    rw [hlen] at hi
    by_cases c : i = pre.length
    · rw [c, hgx]; exact hx
    · rw [← hag i (by omega)]; exact hpn i (by omega)
  have hl2 : (pre ++ [x]).length + k = sL σ := by rw [hlen]; omega
  refine kX3_goOnWith g x pre.length _ _ _ ⟨⟨by omega, by omega⟩, _, c_mostLoad (g := vx_u g 22 pre.length x) (hB.frame (fun a b _ y => vx_u_k (by omega))) hx, fun r2 g2 h => ?_⟩
  obtain ⟨rfl, rfl⟩ := h
  refine ⟨⟨by omega, by omega⟩, ⟨by omega, by omega⟩, ?_⟩
  have e15 : (vx_u g 22 pre.length x) 15 x = sA σ 1 x := by
    rw [vx_u_k (by omega)]
    exact hB.2.2.1.2 1 x (by omega) (by omega)
  have bw := (hv.2.2.2.2.1 x hx).2.1
  have bb := (hv.2.2.2.2.1 x hx).2.2.1
  rw [e15]
  have hB2 : BC σ (vx_u (vx_u g 22 pre.length x) 32 pre.length (8 * sA σ 2 x)) := hB.frame (fun a b _ y => by rw [vx_u_k (by omega), vx_u_k (by omega)])
  have hbl : ∀ q : Nat, q < pre.length → 0 ≤ lD σ pre q pre.length ∧ lD σ pre q pre.length ≤ 10000 := fun q hq => by
    have hb := ld_bound (S := fun a b => (pH (sW σ) a b : Int)) (u := fun a => sA σ 1 (pre.getD a 0)) (q := q) pre.length (fun a ha => by
      have h1 := (hv.2.2.2.2.1 _ (hpn a ha)).2.1
      have h2 := pH_le (W := sW σ) a q
      exact ⟨by omega, by omega, by omega, by omega⟩)
    have e : ld (fun a b => (pH (sW σ) a b : Int)) (fun a => sA σ 1 (pre.getD a 0)) q pre.length = lD σ pre q pre.length := rfl
    rw [e] at hb
    omega
  have hrow : ∀ q : Nat, q < pre.length → lD σ (pre ++ [x]) q (pre.length + 1) = lD σ pre q pre.length + pH (sW σ) pre.length q * sA σ 1 x := fun q hq => by
    show lD σ (pre ++ [x]) q pre.length + (if q < pre.length then (pH (sW σ) pre.length q : Int) * sA σ 1 ((pre ++ [x]).getD pre.length 0) else 0) = _
    rw [if_pos hq, hgx, lD_congr hag.symm]
  refine ⟨_, c_bearsAlso hB2 (n := pre.length) (by omega) (wt := sA σ 1 x) (by omega) (f := fun q => lD σ pre q pre.length) (fun q hq => by rw [vx_u_k (by omega), vx_u_k (by omega)]; exact h4 q hq) hbl, fun r5 g5 h => ?_⟩
  obtain ⟨f5, hz⟩ := h
  have m32 : ∀ q : Nat, q < pre.length → (vx_u (vx_u g 22 pre.length x) 32 pre.length (8 * sA σ 2 x)) 32 q = 8 * sA σ 2 (pre.getD q 0) := fun q hq => by
    rw [vx_u_j (by omega), vx_u_k (by omega)]; exact h5 q hq
  have f5' : ∀ a b, a ≠ 24 + (pre.length + 1) → a ≠ 32 → a ≠ 22 → g5 a b = g a b := fun a b y1 y2 y3 => by rw [f5 a b y1, vx_u_k y2, vx_u_k y3]
  have f22 : ∀ i : Nat, g5 22 i = if i = pre.length then (x : Int) else g 22 i := fun i => by
    rw [f5 _ _ (by omega), vx_u_k (by omega)]
    by_cases c : i = pre.length
    · rw [if_pos c, c, vx_u_at]
    · rw [if_neg c, vx_u_j (by omega)]
  have f32 : ∀ i : Nat, g5 32 i = if i = pre.length then 8 * sA σ 2 x else g 32 i := fun i => by
    rw [f5 _ _ (by omega)]
    by_cases c : i = pre.length
    · rw [if_pos c, c, vx_u_at]
    · rw [if_neg c, vx_u_j (by omega), vx_u_k (by omega)]
  refine ⟨fun c => ?_, fun c => ?_⟩
  · -- too heavy: nothing of it fits
    have hbad : ¬ PRE σ (pre ++ [x]) (pre ++ [x]).length := fun hP => by
      rcases hz with ⟨hz, -⟩ | ⟨-, q, hq, hlt⟩
      · omega
      · rw [hlen] at hP
        have h9 := hP.2 q (by omega)
        rw [m32 q hq] at hlt
        rw [hrow q hq, ← hag q hq] at h9
        omega
    rw [prune hv hmc hl2 hpn2 a (Or.inl hbad)]
    refine ⟨⟨hB.frame (fun a b _ y => f5' a b (by omega) (by omega) (by omega)), fun i hi => ?_, fun y hy => ?_, fun q hq => ?_, fun q hq => ?_, fun p hp => ?_, ?_, ?_⟩, ⟨?_, ?_, fun h0 h1 i hi => ?_⟩, ⟨fun a b y1 y2 y3 y4 y5 y6 => f5' a b (by omega) y3 y2, fun i hi => ?_, fun i hi => ?_⟩⟩
    · rw [f22, if_neg (by omega)]; exact h2 i hi
    · rw [f5' _ _ (by omega) (by omega) (by omega)]; exact h3 y hy
    · rw [f5' _ _ (by omega) (by omega) (by omega)]; exact h4 q hq
    · rw [f32, if_neg (by omega)]; exact h5 q hq
    · rw [f5' _ _ (by omega) (by omega) (by omega)]; exact h6 p hp
    · rw [f5' _ _ (by omega) (by omega) (by omega)]; exact h7
    · rw [f5' _ _ (by omega) (by omega) (by omega)]; exact h8
    · rw [f5' _ _ (by omega) (by omega) (by omega)]; exact hA.1
    · rw [f5' _ _ (by omega) (by omega) (by omega)]; exact hA.2.1
    · rw [f5' _ _ (by omega) (by omega) (by omega)]; exact hA.2.2 h0 h1 i hi
    · rw [f22, if_neg (by omega)]
    · rw [f32, if_neg (by omega)]
  · obtain ⟨hz1, z1, z2⟩ : (∀ q : Nat, q < pre.length → lD σ pre q pre.length + pH (sW σ) pre.length q * sA σ 1 x ≤ 8 * sA σ 2 (pre.getD q 0)) ∧ (∀ q : Nat, q < pre.length → g5 (24 + (pre.length + 1)) q = lD σ pre q pre.length + pH (sW σ) pre.length q * sA σ 1 x) ∧ g5 (24 + (pre.length + 1)) pre.length = 0 := by
      rcases hz with ⟨-, z1, z2, z3⟩ | ⟨z0, -⟩
      · exact ⟨fun q hq => by rw [← m32 q hq]; exact z1 q hq, z2, z3⟩
      · exact absurd z0 c
    have e33 : ∀ y : Nat, y < 8 → (vx_u g5 33 x 1) 33 y = if y ∈ pre ++ [x] then 1 else 0 := fun y hy => by
      by_cases cx : y = x
      · rw [cx, vx_u_at, if_pos (by simp)]
      · rw [vx_u_j (by omega), f5' _ _ (by omega) (by omega) (by omega), h3 y hy]
        by_cases cp : y ∈ pre
        · rw [if_pos cp, if_pos (List.mem_append_left _ cp)]
        · rw [if_neg cp, if_neg (fun h => by
            rcases List.mem_append.mp h with h | h
            · exact cp h
            · exact cx (List.mem_singleton.mp h))]
    have hP2 : PRE σ (pre ++ [x]) (pre.length + 1) := by
      refine ⟨fun p hp => ?_, fun q hq => ?_⟩
      · by_cases cp : p = pre.length
        · rw [cp]; exact ⟨hok, hsp⟩
        · have hP3 := PRE_congr (by omega) hag hpre
          exact hP3.1 p (by omega)
      · by_cases cq : q = pre.length
        · rw [cq, hgx]
          have : lD σ (pre ++ [x]) pre.length (pre.length + 1) = 0 := ld_low _ (Nat.le_refl _)
          rw [this]; omega
        · rw [hrow q (by omega), ← hag q (by omega)]
          exact hz1 q (by omega)
    have hS2 : SI σ near mc ct (pre ++ [x]) (vx_u g5 33 x 1) := by
      refine ⟨hB.frame (fun a b _ y => by rw [vx_u_k (by omega)]; exact f5' a b (by omega) (by omega) (by omega)), fun i hi => ?_, e33, fun q hq => ?_, fun q hq => ?_, fun p hp => ?_, ?_, ?_⟩
      · rw [hlen] at hi
        rw [vx_u_k (by omega), f22]
        by_cases ci : i = pre.length
        · rw [if_pos ci, ci, hgx]
        · rw [if_neg ci, ← hag i (by omega)]; exact h2 i (by omega)
      · rw [hlen] at hq ⊢
        rw [vx_u_k (by omega)]
        by_cases cq : q = pre.length
        · rw [cq, z2]; exact (ld_low _ (Nat.le_refl _)).symm
        · rw [z1 q (by omega), hrow q (by omega)]
      · rw [hlen] at hq
        rw [vx_u_k (by omega), f32]
        by_cases cq : q = pre.length
        · rw [if_pos cq, cq, hgx]
        · rw [if_neg cq, ← hag q (by omega)]; exact h5 q (by omega)
      · rw [vx_u_k (by omega), f5' _ _ (by omega) (by omega) (by omega)]; exact h6 p hp
      · rw [vx_u_k (by omega), f5' _ _ (by omega) (by omega) (by omega)]; exact h7
      · rw [vx_u_k (by omega), f5' _ _ (by omega) (by omega) (by omega)]; exact h8
    have hA2 : AI σ ct a (vx_u g5 33 x 1) := by
      refine ⟨?_, ?_, fun h0 h1 i hi => ?_⟩
      · rw [vx_u_k (by omega), f5' _ _ (by omega) (by omega) (by omega)]; exact hA.1
      · rw [vx_u_k (by omega), f5' _ _ (by omega) (by omega) (by omega)]; exact hA.2.1
      · rw [vx_u_k (by omega), f5' _ _ (by omega) (by omega) (by omega)]; exact hA.2.2 h0 h1 i hi
    refine ⟨⟨by omega, by omega⟩, ⟨by omega, by omega⟩, _, hwalk _ hS2 hA2 hP2, fun g8 h => ⟨⟨by omega, by omega⟩, ?_⟩⟩
    obtain ⟨k1, k2, k3⟩ := h
    obtain ⟨q1, q2, q3, q4, q5, q6, q7, q8⟩ := k1
    have f8 : ∀ a b, a ≠ 21 → a ≠ 22 → a ≠ 32 → a ≠ 33 → a ≠ 35 → (a ≤ 24 + pre.length ∨ 32 < a) → g8 a b = g a b := fun a b y1 y2 y3 y4 y5 y6 => by
      rw [k3.1 a b y1 y2 y3 y4 y5 (by omega), vx_u_k y4, f5' a b (by omega) y3 y2]
    have g22 : ∀ i : Nat, i < pre.length → g8 22 i = g 22 i := fun i hi => by
      rw [k3.2.1 i (by omega), vx_u_k (by omega), f22, if_neg (by omega)]
    have g32 : ∀ i : Nat, i < pre.length → g8 32 i = g 32 i := fun i hi => by
      rw [k3.2.2 i (by omega), vx_u_k (by omega), f32, if_neg (by omega)]
    refine ⟨⟨hB.frame (fun a b y1 y => by rw [vx_u_k (by omega)]; exact f8 a b (by omega) (by omega) (by omega) (by omega) (by omega) (by omega)), fun i hi => ?_, fun y hy => ?_, fun q hq => ?_, fun q hq => ?_, fun p hp => ?_, ?_, ?_⟩, ⟨?_, ?_, fun h0 h1 i hi => ?_⟩, ⟨fun a b y1 y2 y3 y4 y5 y6 => ?_, fun i hi => ?_, fun i hi => ?_⟩⟩
    · rw [vx_u_k (by omega), g22 i hi]; exact h2 i hi
    · by_cases cx : y = x
      · rw [cx, vx_u_at, if_neg hxp]
      · rw [vx_u_j (by omega), q3 y hy]
        by_cases cp : y ∈ pre
        · rw [if_pos cp, if_pos (List.mem_append_left _ cp)]
        · rw [if_neg cp, if_neg (fun h => by
            rcases List.mem_append.mp h with h | h
            · exact cp h
            · exact cx (List.mem_singleton.mp h))]
    · rw [vx_u_k (by omega), f8 _ _ (by omega) (by omega) (by omega) (by omega) (by omega) (by omega)]; exact h4 q hq
    · rw [vx_u_k (by omega), g32 q hq]; exact h5 q hq
    · rw [vx_u_k (by omega)]; exact q6 p hp
    · rw [vx_u_k (by omega)]; exact q7
    · rw [vx_u_k (by omega)]; exact q8
    · rw [vx_u_k (by omega)]; exact k2.1
    · rw [vx_u_k (by omega)]; exact k2.2.1
    · rw [vx_u_k (by omega)]; exact k2.2.2 h0 h1 i hi
    · rw [vx_u_k y4]; exact f8 a b y1 y2 y3 y4 y5 y6
    · rw [vx_u_k (by omega)]; exact g22 i hi
    · rw [vx_u_k (by omega)]; exact g32 i hi

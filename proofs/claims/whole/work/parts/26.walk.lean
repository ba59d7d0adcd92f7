theorem lo_bd {σ : SG} {r : List Nat} {p : Nat} (hv : VB σ) (h4 : p < pF (sW σ) 4) (hr : ∀ i, i ≤ p → r.getD i 0 < sN σ) : 100 ≤ lo σ r p ∧ hi σ r p ≤ 200 ∧ lo σ r p ≤ hi σ r p := by
  obtain ⟨a, b, c⟩ := pS_in h4
  have h := hm_bound (hU σ r) (pF (sW σ) (pS (sW σ) p)) (a := 100) (b := 200) (p - pF (sW σ) (pS (sW σ) p)) (fun i hi => (hv.2.2.2.2.1 _ (hr _ (by omega))).1)
  exact ⟨h.1, h.2, hmin_le _ _ _⟩
theorem c0_bd {σ : SG} {r : List Nat} (hv : VB σ) : ∀ k, k ≤ pF (sW σ) 4 → (∀ i, i < k → r.getD i 0 < sN σ) → 0 ≤ c0 σ r k ∧ c0 σ r k ≤ 100 * k
  | 0, _, _ => by show (0 : Int) ≤ 0 ∧ (0 : Int) ≤ _; omega
  | k + 1, h4, hr => by
    have h := c0_bd (r := r) hv k (by omega) (fun i hi => hr i (by omega))
    have h1 := grw_0 (σ := σ) (r := r) (p := k) (by omega)
    have h2 : grw σ r k ≤ 100 := by
      unfold grw
      split
      · omega
      · have b1 := lo_bd (r := r) (p := k) hv (by omega) (fun i hi => hr i (by omega))
        have b2 := lo_bd (r := r) (p := k - 1) hv (by omega) (fun i hi => hr i (by omega))
        omega
    show 0 ≤ c0 σ r k + grw σ r k ∧ c0 σ r k + grw σ r k ≤ _
    omega
theorem cst_bd {σ : SG} {near : Nat → Int} {mc : Int} {r : List Nat} {k : Nat} (hv : VB σ) (hmc : 0 ≤ mc ∧ mc ≤ 1000) (h4 : k ≤ sL σ) (hr : ∀ i, i < k → r.getD i 0 < sN σ) : 0 ≤ cst σ near mc r k ∧ cst σ near mc r k ≤ 10000 := by
  have h44 := sL_4 hv
  have hL7 : sL σ ≤ 7 := hv.2.2.1
  have h1 := c0_bd (r := r) hv k (by omega) hr
  have h2 := mv_bd (near := near) (r := r) k
  have h3 : 0 ≤ mc * mv near r k := Int.mul_nonneg hmc.1 h2.1
  have h5 : mc * mv near r k ≤ 1000 * 7 := Int.mul_le_mul hmc.2 (by omega) h2.1 (by omega)
  unfold cst
  omega
noncomputable def stp (σ : SG) (near : Nat → Int) (mc : Int) (ct : Bool) (k : Nat) (pre : List Nat) (a : AC) (x : Nat) : AC := (if x ∈ pre then [] else ext (sN σ) k (pre ++ [x])).foldl (vis σ near mc ct) a
noncomputable def acx (σ : SG) (near : Nat → Int) (mc : Int) (ct : Bool) (k : Nat) (pre : List Nat) (a : AC) (x : Nat) : AC := (List.range x).foldl (stp σ near mc ct k pre) a
theorem acx_s {σ : SG} {near : Nat → Int} {mc : Int} {ct : Bool} {k : Nat} {pre : List Nat} {a : AC} (x : Nat) : acx σ near mc ct k pre a (x + 1) = stp σ near mc ct k pre (acx σ near mc ct k pre a x) x := by
  unfold acx
  rw [List.range_succ, List.foldl_append]
  rfl
theorem acx_n {σ : SG} {near : Nat → Int} {mc : Int} {ct : Bool} {k : Nat} {pre : List Nat} {a : AC} : acx σ near mc ct k pre a (sN σ) = (ext (sN σ) (k + 1) pre).foldl (vis σ near mc ct) a := by
  show _ = ((List.range (sN σ)).flatMap (fun x => if x ∈ pre then [] else ext (sN σ) k (pre ++ [x]))).foldl (vis σ near mc ct) a
  rw [foldl_fm]
  rfl
theorem acx_b {σ : SG} {near : Nat → Int} {mc : Int} {ct : Bool} {k : Nat} {pre : List Nat} {a : AC} (hn : sN σ ≤ 8) : ∀ x, a.2.1 ≤ (acx σ near mc ct k pre a x).2.1 ∧ (acx σ near mc ct k pre a x).2.1 ≤ a.2.1 + x * 8 ^ k
  | 0 => by show a.2.1 ≤ a.2.1 ∧ a.2.1 ≤ a.2.1 + (0 : Nat) * _; omega
  | x + 1 => by
    have h := acx_b (near := near) (mc := mc) (ct := ct) (k := k) (pre := pre) (a := a) hn x
    rw [acx_s]
    unfold stp
    have h2 := vis_found (σ := σ) (near := near) (mc := mc) (ct := ct) (if x ∈ pre then [] else ext (sN σ) k (pre ++ [x])) (acx σ near mc ct k pre a x)
    have h3 : (if x ∈ pre then [] else ext (sN σ) k (pre ++ [x])).length ≤ 8 ^ k := by
      split
      · exact Nat.zero_le _
      · exact ext_len hn k _
    have e : (((x + 1 : Nat) : Int)) * 8 ^ k = x * 8 ^ k + 8 ^ k := by
      rw [Int.natCast_add, Int.add_mul]
      show _ + 1 * (8 : Int) ^ k = _
      rw [Int.one_mul]
    have h4 : (((if x ∈ pre then [] else ext (sN σ) k (pre ++ [x])).length : Nat) : Int) ≤ (8 : Int) ^ k := by
      have := Int.ofNat_le.mpr h3
      rw [Int.natCast_pow] at this
      exact this
    rw [e]
    omega
set_option maxHeartbeats 4000000 in
theorem c_walk {l : Launch} {d : Nat} {σ : SG} {near : Nat → Int} {mc : Int} {ct : Bool} (hmc : 0 ≤ mc ∧ mc ≤ 1000) : ∀ (k : Nat) (pre : List Nat) (a : AC) (g : vx_M) (low high : Int), pre.length + k = sL σ → (∀ i, i < pre.length → pre.getD i 0 < sN σ) → SI σ near mc ct pre g → AI σ ct a g → PRE σ pre pre.length → cst σ near mc pre pre.length < a.1 → (0 < pre.length → low = lo σ pre (pre.length - 1) ∧ high = hi σ pre (pre.length - 1)) → 0 ≤ a.2.1 ∧ a.2.1 + 8 ^ k ≤ 40000000 →
    vNv l mX3_walk (d + (2 * k + 1) + 1) [.inr (some 21), .inl (pre.length : Int), .inl low, .inl high, .inl (cst σ near mc pre pre.length)] SH g (fun g' => SI σ near mc ct pre g' ∧ AI σ ct ((ext (sN σ) k pre).foldl (vis σ near mc ct) a) g' ∧ FW pre.length g g') := by
  intro k
  induction k with
  | zero =>
    intro pre a g low high hl hpn hS hA hP hc hlh hb
    have e5 : g 1 5 = (sL σ : Nat) := hS.1.2.1.2.1
    refine kX3_walk g _ _ _ _ ⟨fun c => by omega, fun _ => ⟨_, c_arrive (d := d) hS hA hl ⟨hb.1, by omega⟩ _, fun g3 h => ?_⟩⟩
    obtain ⟨h1, h2, h3, h4⟩ := h
    have ev : (ext (sN σ) 0 pre).foldl (vis σ near mc ct) a = if ct = true then (a.1, a.2.1 + 1, a.2.2) else (cst σ near mc pre pre.length, a.2.1 + 1, pre) := by
      show vis σ near mc ct a pre = _
      unfold vis
      rw [show sL σ = pre.length by omega, cif_pos ⟨hP, hc⟩]
    rw [ev]
    obtain ⟨hB, q2, q3, q4, q5, q6, q7, q8⟩ := hS
    have hL7 : sL σ ≤ 7 := hB.1.2.2.1
    refine ⟨⟨hB.frame (fun a b _ y => h2 a b (by omega) (by omega)), fun i hi => ?_, fun x hx => ?_, fun q hq => ?_, fun q hq => ?_, fun p hp => ?_, ?_, ?_⟩, h1, ⟨fun a b y1 y2 y3 y4 y5 y6 => h2 a b y1 y5, fun i hi => h2 _ _ (by omega) (by omega), fun i hi => h2 _ _ (by omega) (by omega)⟩⟩
    · rw [h2 _ _ (by omega) (by omega)]; exact q2 i hi
    · rw [h2 _ _ (by omega) (by omega)]; exact q3 x hx
    · rw [h2 _ _ (by omega) (by omega)]; exact q4 q hq
    · rw [h2 _ _ (by omega) (by omega)]; exact q5 q hq
    · rw [h2 _ _ (by omega) (by omega)]; exact q6 p hp
    · rw [h3]; exact q7
    · rw [h4]; exact q8
  | succ k ih =>
    intro pre a g low high hl hpn hS hA hP hc hlh hb
    have hB := hS.1
    have hv := hB.1
    have hL7 : sL σ ≤ 7 := hv.2.2.1
    have hn8 := hv.2.2.2.1
    have h44 := sL_4 hv
    have hH4 := hv.1.2
    have e5 : g 1 5 = (sL σ : Nat) := hB.2.1.2.1
    have e4 : g 4 pre.length = (pS (sW σ) pre.length : Nat) := hB.2.1.2.2.2.1 _ (by show _ < sL σ; omega)
    have hps := pS_lt hv (p := pre.length) (by omega)
    have e3 : g 3 (pS (sW σ) pre.length : Nat) = (pF (sW σ) (pS (sW σ) pre.length) : Nat) := hB.2.1.2.2.1 _ hps
    rw [show d + (2 * (k + 1) + 1) + 1 = (d + (2 * k + 1) + 1) + 1 + 1 by omega]
    have p8 : (8 : Int) ^ (k + 1) = 8 * 8 ^ k := by rw [Int.pow_succ, Int.mul_comm]
    have p80 : (0 : Int) < 8 ^ k := Int.pow_pos (by omega)
    have loop : ∀ (op : Int), ((op = 0 ∧ pre.length ≠ pF (sW σ) (pS (sW σ) pre.length)) ∨ (op = 1 ∧ pre.length = pF (sW σ) (pS (sW σ) pre.length))) → ∀ (m x : Nat), x + m = sN σ → ∀ g1, SI σ near mc ct pre g1 → AI σ ct (acx σ near mc ct k pre a x) g1 → FW pre.length g g1 →
        vN l mX3_walk ((d + (2 * k + 1) + 1) + 1 + 1) (vx_pv SH (fun g' => SI σ near mc ct pre g' ∧ AI σ ct ((ext (sN σ) (k + 1) pre).foldl (vis σ near mc ct) a) g' ∧ FW pre.length g g')) SH g1 53 [some (.inr (some 21)), some (.inl (pre.length : Int)), some (.inl low), some (.inl high), some (.inl (cst σ near mc pre pre.length)), some (.inl (pS (sW σ) pre.length : Int)), some (.inl op), some (.inl (x : Int)), none, none, none, none, none] [] := by
      intro op hop m
      induction m with
      | zero =>
        intro x hx g1 hS1 hA1 hF1
        have en : g1 13 6 = (sN σ : Nat) := hS1.1.2.2.1.1
        refine tX3_walk_53 g1 _ _ _ _ _ _ _ ⟨fun _ => ⟨hS1, ?_, hF1⟩, fun c => by omega⟩
        rw [← acx_n, ← show x = sN σ by omega]
        exact hA1
      | succ m ihm =>
        intro x hx g1 hS1 hA1 hF1
        have hB1 := hS1.1
        have en : g1 13 6 = (sN σ : Nat) := hB1.2.2.1.1
        have eu := hS1.2.2.1 x (by omega)
        have bac := acx_b (near := near) (mc := mc) (ct := ct) (k := k) (pre := pre) (a := a) hn8 x
        refine tX3_walk_53 g1 _ _ _ _ _ _ _ ⟨fun c => by omega, fun _ => ⟨⟨by omega, by omega⟩, ?_, ?_⟩⟩
        · intro c
          refine ⟨⟨by omega, by omega⟩, ?_⟩
          have hxp : x ∈ pre := by
            rcases Classical.em (x ∈ pre) with h | h
            · exact h
            · rw [if_neg h] at eu; exact absurd eu c
          have h9 := ihm (x + 1) (by omega) g1 hS1 (by
            rw [acx_s]
            unfold stp
            rw [if_pos hxp]
            exact hA1) hF1
          exact h9
        · intro c
          have hxp : x ∉ pre := fun h => by rw [if_pos h] at eu; omega
          have hgx : (pre ++ [x]).getD pre.length 0 = x := getD_app_eq
          have hlen : (pre ++ [x]).length = pre.length + 1 := by rw [List.length_append]; rfl
          have hag : agr pre (pre ++ [x]) pre.length := fun p hp => (getD_app_lt hp).symm
          have hpn2 : ∀ i, i < (pre ++ [x]).length → (pre ++ [x]).getD i 0 < sN σ := fun i hi => by
            rw [hlen] at hi
            by_cases c : i = pre.length
            · rw [c, hgx]; omega
            · rw [← hag i (by omega)]; exact hpn i (by omega)
          have hl2 : (pre ++ [x]).length + k = sL σ := by rw [hlen]; omega
          have estp : acx σ near mc ct k pre a (x + 1) = (ext (sN σ) k (pre ++ [x])).foldl (vis σ near mc ct) (acx σ near mc ct k pre a x) := by
            rw [acx_s]
            unfold stp
            rw [if_neg hxp]
          refine ⟨_, c_goesTo hB1 (by omega) _, fun r3 g3 h => ?_⟩
          obtain ⟨rfl, h3⟩ := h
          refine ⟨fun c3 => ?_, fun c3 => ?_⟩
          rotate_left
          · -- it does not go there
            refine ⟨⟨by omega, by omega⟩, ?_⟩
            have hbad : ¬ PRE σ (pre ++ [x]) (pre ++ [x]).length := fun hP2 => by
              have := (hP2.1 pre.length (by rw [hlen]; omega)).1
              unfold okP at this
              rw [hgx] at this
              rcases h3 with ⟨h3, -⟩ | ⟨-, h3⟩
              · omega
              · exact h3 this
            have h9 := ihm (x + 1) (by omega) _ hS1 (by rw [estp, prune hv hmc.1 hl2 hpn2 _ (Or.inl hbad)]; exact hA1) hF1
            exact h9
          · have hok : okP σ (pre ++ [x]) pre.length := by
              unfold okP
              rw [hgx]
              rcases h3 with ⟨-, h3⟩ | ⟨h3, -⟩
              · exact h3
              · exact absurd h3 c3
            have e14 : g3 14 x = sA σ 0 x := hB1.2.2.1.2 0 x (by omega) (by omega)
            have bh := (hv.2.2.2.2.1 x (by omega)).1
            have eU : hU σ (pre ++ [x]) pre.length = sA σ 0 x := by unfold hU; rw [hgx]
            have bl := lo_bd (r := pre ++ [x]) (p := pre.length) hv (by omega) (fun i hi => hpn2 i (by rw [hlen]; omega))
            have bc := cst_bd (near := near) (r := pre) (k := pre.length) hv hmc (by omega) hpn
            have bc2 := cst_bd (near := near) (r := pre ++ [x]) (k := pre.length + 1) hv hmc (by omega) (fun i hi => hpn2 i (by rw [hlen]; exact hi))
            have bg0 := grw_0 (σ := σ) (r := pre ++ [x]) (p := pre.length) (by omega)
            have ec1 : cst σ near mc (pre ++ [x]) (pre.length + 1) = cst σ near mc pre pre.length + grw σ (pre ++ [x]) pre.length + (if (x : Int) = near pre.length then 0 else mc) := by
              rw [cst_congr (near := near) (mc := mc) (show pre.length ≤ pF (sW σ) 4 by omega) hag]
              unfold cst
              show c0 σ (pre ++ [x]) pre.length + grw σ (pre ++ [x]) pre.length + mc * (mv near (pre ++ [x]) pre.length + (if (((pre ++ [x]).getD pre.length 0 : Nat) : Int) = near pre.length then 0 else 1)) = _
              rw [hgx, Int.mul_add]
              by_cases cn : (x : Int) = near pre.length
              · rw [if_pos cn, if_pos cn]; omega
              · rw [if_neg cn, if_neg cn]; omega
            have e34 : g3 34 pre.length = near pre.length := hS1.2.2.2.2.2.1 pre.length (by omega)
            have emc : g3 21 10 = mc := hS1.2.2.2.2.2.2.2
            have epl : g3 20 2 = sP σ := hB1.2.2.2.1
            have eb : g3 21 11 = (acx σ near mc ct k pre a x).1 := hA1.1
            -- behind the costs
            have fin : ∀ (w0 w1 v8 v11 : Int), w1 + w0 = cst σ near mc (pre ++ [x]) (pre.length + 1) → vN l mX3_walk ((d + (2 * k + 1) + 1) + 1 + 1) (vx_pv SH (fun g' => SI σ near mc ct pre g' ∧ AI σ ct ((ext (sN σ) (k + 1) pre).foldl (vis σ near mc ct) a) g' ∧ FW pre.length g g')) SH g3 184 [some (.inr (some 21)), some (.inl (pre.length : Int)), some (.inl low), some (.inl high), some (.inl (cst σ near mc pre pre.length)), some (.inl (pS (sW σ) pre.length : Int)), some (.inl op), some (.inl (x : Int)), some (.inl v8), some (.inl (lo σ (pre ++ [x]) pre.length)), some (.inl (hi σ (pre ++ [x]) pre.length)), some (.inl v11), none] [.inl w0, .inl w1] := by
              intro w0 w1 v8 v11 hw
              refine tX3_walk_184 g3 _ _ _ _ _ _ _ _ _ _ _ _ _ ⟨?_, ⟨by omega, by omega⟩, ?_, ?_⟩
              · rw [hw]; exact ⟨by omega, by omega⟩
              · intro c5
                rw [epl] at c5
                refine ⟨⟨by omega, by omega⟩, ?_⟩
                have hbad : ¬ PRE σ (pre ++ [x]) (pre ++ [x]).length := fun hP2 => by
                  have := (hP2.1 pre.length (by rw [hlen]; omega)).2
                  omega
                have h9 := ihm (x + 1) (by omega) _ hS1 (by rw [estp, prune hv hmc.1 hl2 hpn2 _ (Or.inl hbad)]; exact hA1) hF1
                exact h9
              · intro c5
                rw [epl] at c5
                rw [hw, eb]
                refine ⟨fun c6 => ⟨⟨by omega, by omega⟩, ?_⟩, fun c6 => ?_⟩
                · have h9 := ihm (x + 1) (by omega) _ hS1 (by rw [estp, prune hv hmc.1 hl2 hpn2 _ (Or.inr (by rw [hlen]; exact c6))]; exact hA1) hF1
                  exact h9
                · have hw2 : ∀ (g1 : vx_M), SI σ near mc ct (pre ++ [x]) g1 → AI σ ct (acx σ near mc ct k pre a x) g1 → PRE σ (pre ++ [x]) (pre.length + 1) → vNv l mX3_walk (d + (2 * k + 1) + 1) [.inr (some 21), .inl ((pre.length : Int) + 1), .inl (lo σ (pre ++ [x]) pre.length), .inl (hi σ (pre ++ [x]) pre.length), .inl (cst σ near mc (pre ++ [x]) (pre.length + 1))] SH g1 (fun g' => SI σ near mc ct (pre ++ [x]) g' ∧ AI σ ct ((ext (sN σ) k (pre ++ [x])).foldl (vis σ near mc ct) (acx σ near mc ct k pre a x)) g' ∧ FW (pre.length + 1) g1 g') := by
                    intro g9 s9 a9 p9
                    have x8 : (x : Int) * 8 ^ k + 8 ^ k ≤ 8 * 8 ^ k := by
                      have : ((x : Int) + 1) * 8 ^ k ≤ 8 * 8 ^ k := Int.mul_le_mul_of_nonneg_right (by omega) (by omega)
                      rw [Int.add_mul, Int.one_mul] at this
                      exact this
                    have h9 := ih (pre ++ [x]) (acx σ near mc ct k pre a x) g9 (lo σ (pre ++ [x]) pre.length) (hi σ (pre ++ [x]) pre.length) hl2 hpn2 s9 a9 (by rw [hlen]; exact p9) (by rw [hlen]; omega) (fun _ => by rw [hlen]; exact ⟨rfl, rfl⟩) ⟨by omega, by rw [p8] at hb; omega⟩
                    rw [hlen] at h9
                    exact h9
                  refine ⟨_, c_goOnWith hl hpn hmc.1 (by omega) hxp hS1 hA1 hP hok (by omega) (by omega) hw2, fun g5 h => ⟨⟨by omega, by omega⟩, ?_⟩⟩
                  obtain ⟨k1, k2, k3⟩ := h
                  have h9 := ihm (x + 1) (by omega) g5 k1 (by rw [estp]; exact k2) (hF1.tr k3)
                  exact h9
            have fin2 : ∀ (w0 v8 : Int), w0 = grw σ (pre ++ [x]) pre.length → vN l mX3_walk ((d + (2 * k + 1) + 1) + 1 + 1) (vx_pv SH (fun g' => SI σ near mc ct pre g' ∧ AI σ ct ((ext (sN σ) (k + 1) pre).foldl (vis σ near mc ct) a) g' ∧ FW pre.length g g')) SH g3 158 [some (.inr (some 21)), some (.inl (pre.length : Int)), some (.inl low), some (.inl high), some (.inl (cst σ near mc pre pre.length)), some (.inl (pS (sW σ) pre.length : Int)), some (.inl op), some (.inl (x : Int)), some (.inl v8), some (.inl (lo σ (pre ++ [x]) pre.length)), some (.inl (hi σ (pre ++ [x]) pre.length)), none, none] [.inl w0] := by
              intro w0 v8 hw0
              refine tX3_walk_158 g3 _ _ _ _ _ _ _ _ _ _ _ ⟨?_, ⟨by omega, by omega⟩, ?_, ?_⟩
              · rw [hw0]
                have : (0 : Int) ≤ (if (x : Int) = near pre.length then 0 else mc) := by split <;> omega
                exact ⟨by omega, by omega⟩
              · intro c7
                rw [e34] at c7
                refine fin _ _ _ _ ?_
                rw [ec1, if_neg c7, emc, hw0]
              · intro c7
                rw [e34] at c7
                refine fin _ _ _ _ ?_
                rw [ec1, if_pos c7, hw0]
            refine ⟨⟨by omega, by omega⟩, ?_, ?_⟩
            · -- the storey goes on
              intro c4
              obtain ⟨-, hno⟩ : op = 0 ∧ pre.length ≠ pF (sW σ) (pS (sW σ) pre.length) := by
                rcases hop with h | h
                · exact h
                · omega
              have hp0 : 0 < pre.length := by
                rcases Nat.eq_zero_or_pos pre.length with h | h
                · have : pF (sW σ) (pS (sW σ) pre.length) ≤ pre.length := (pS_in (by omega)).2.1
                  omega
                · exact h
              obtain ⟨n1, n2, n3⟩ := lo_next (r := pre ++ [x]) (show pre.length < pF (sW σ) 4 by omega) hno
              obtain ⟨l1, l2⟩ := hlh hp0
              have ll := lo_congr (σ := σ) (p := pre.length - 1) hag (by omega) (by omega)
              have bl1 := lo_bd (r := pre) (p := pre.length - 1) hv (by omega) (fun i hi => hpn i (by omega))
              rw [← ll.1, ← l1, eU] at n2
              rw [← ll.2, ← l2, eU] at n3
              have eg : grw σ (pre ++ [x]) pre.length = (hi σ (pre ++ [x]) pre.length - lo σ (pre ++ [x]) pre.length) - (high - low) := by
                unfold grw
                rw [if_neg hno, ← ll.1, ← ll.2, ← l1, ← l2]
              rw [e14, ← n2]
              refine tX3_walk_120 g3 _ _ _ _ _ _ _ _ _ ⟨fun c8 => ?_, fun c8 => absurd c4 c8⟩
              rw [← n3]
              refine tX3_walk_138 g3 _ _ _ _ _ _ _ _ _ _ ⟨fun c8 => ⟨⟨by omega, by omega⟩, ⟨by omega, by omega⟩, ⟨by omega, by omega⟩, ?_⟩, fun c8 => absurd c4 c8⟩
              exact fin2 _ _ eg.symm
            · -- it opens a storey
              intro c4
              obtain ⟨-, hyes⟩ : op = 1 ∧ pre.length = pF (sW σ) (pS (sW σ) pre.length) := by
                rcases hop with h | h
                · exact absurd h.1 c4
                · exact h
              have ho := lo_open (σ := σ) (r := pre ++ [x]) hyes
              have eg : grw σ (pre ++ [x]) pre.length = 0 := by unfold grw; rw [if_pos hyes]
              rw [e14]
              refine tX3_walk_120 g3 _ _ _ _ _ _ _ _ _ ⟨fun c8 => absurd c8 c4, fun c8 => ?_⟩
              refine tX3_walk_138 g3 _ _ _ _ _ _ _ _ _ _ ⟨fun c8 => absurd c8 c4, fun c8 => ?_⟩
              have h9 := fin2 0 (sA σ 0 x) eg.symm
              rw [ho.1, ho.2, eU] at h9
              exact h9
    refine kX3_walk g _ _ _ _ ⟨fun _ => ⟨⟨by omega, by omega⟩, ?_, ?_, ?_⟩, fun c => by omega⟩
    · rw [e4]; exact ⟨by omega, by omega⟩
    · rw [e4, e3]
      intro c
      exact loop 0 (Or.inl ⟨rfl, fun h => c (by omega)⟩) (sN σ) 0 (by omega) g hS hA FW.rf
    · rw [e4, e3]
      intro c
      exact loop 1 (Or.inr ⟨rfl, by omega⟩) (sN σ) 0 (by omega) g hS hA FW.rf

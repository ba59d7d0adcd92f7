theorem m_useHand {l : Launch} {d : Nat} {σ : SG} {g : vx_M} (hB : BM σ g) {r : List Nat} (hr : HB σ r 51 g) : vNv l mX6_useHand d [.inr (some 40)] SH g (fun g' => HB σ r 52 g' ∧ ∀ a b, a ≠ 52 → g' a b = g a b) := by
  have h7 : sL σ ≤ 7 := hB.1.2.2.1
  have e10 := hB.2.2.1
  refine kX6_useHand g ?_
  have key : ∀ (k p : Nat), p + k = sL σ → ∀ g1 : vx_M, (∀ i : Nat, i < p → g1 52 i = (r.getD i 0 : Nat)) → (∀ a b, a ≠ 52 → g1 a b = g a b) → vN l mX6_useHand d (vx_pv SH (fun g' => HB σ r 52 g' ∧ ∀ a b, a ≠ 52 → g' a b = g a b)) SH g1 2 [some (.inr (some 40)), some (.inl (p : Int))] [] := by
    intro k
    induction k with
    | zero =>
      intro p hp g1 h1 h2
      have e9 : g1 40 10 = (sL σ : Nat) := by rw [h2 _ _ (by omega)]; exact e10
      refine tX6_useHand_2 g1 _ ⟨fun _ => ⟨⟨hr.1, fun i hi => h1 i (by omega)⟩, h2⟩, fun c => by omega⟩
    | succ k ih =>
      intro p hp g1 h1 h2
      have e9 : g1 40 10 = (sL σ : Nat) := by rw [h2 _ _ (by omega)]; exact e10
      refine tX6_useHand_2 g1 _ ⟨fun c => by omega, fun _ => ⟨⟨by omega, by omega⟩, ⟨by omega, by omega⟩, ⟨by omega, by omega⟩, ?_⟩⟩
      exact ih (p + 1) (by omega) _ (fun i hi => by
        by_cases e : i = p
        · rw [e, vx_u_at, h2 _ _ (by omega)]; exact hr.2 p (by omega)
        · rw [vx_u_j (by omega)]; exact h1 i (by omega)) (fun a b x => by rw [vx_u_k x]; exact h2 a b x)
  exact key (sL σ) 0 (by omega) g (fun i hi => by omega) (fun _ _ _ => rfl)
theorem m_findTimes {l : Launch} {d : Nat} {σ : SG} {g : vx_M} (hB : BM σ g) : vNi l mX6_findTimes d [.inr (some 40)] SH g (fun z g' => z = (sCR σ : Nat) ∧ (∀ p : Nat, p < sL σ → g' 56 p = (tsum (sW σ) (p + 1) : Nat) ∧ g' 57 p = 2 * (sCR σ : Int) - (tsum (sW σ) p : Nat)) ∧ ∀ a b, a ≠ 56 → a ≠ 57 → g' a b = g a b) := by
  have hv := hB.1
  have h7 : sL σ ≤ 7 := hv.2.2.1
  have h4 := hv.1.2
  have e10 := hB.2.2.1
  have bC := CR_le hv
  refine kX6_findTimes g ?_
  have down : ∀ (k : Nat), k ≤ sL σ → ∀ (t : Int) (g1 : vx_M), t = 2 * (sCR σ : Int) - (tsum (sW σ) k : Nat) → (∀ p : Nat, p < sL σ → g1 56 p = (tsum (sW σ) (p + 1) : Nat)) → (∀ p : Nat, k ≤ p → p < sL σ → g1 57 p = 2 * (sCR σ : Int) - (tsum (sW σ) p : Nat)) → (∀ a b, a ≠ 56 → a ≠ 57 → g1 a b = g a b) → vN l mX6_findTimes d (vx_pi SH (fun z g' => z = (sCR σ : Nat) ∧ (∀ p : Nat, p < sL σ → g' 56 p = (tsum (sW σ) (p + 1) : Nat) ∧ g' 57 p = 2 * (sCR σ : Int) - (tsum (sW σ) p : Nat)) ∧ ∀ a b, a ≠ 56 → a ≠ 57 → g' a b = g a b)) SH g1 45 [some (.inr (some 40)), some (.inl t), some (.inl ((sCR σ : Nat) : Int)), some (.inl ((k : Int) - 1))] [] := by
    intro k
    induction k with
    | zero =>
      intro hk t g1 ht h1 h2 h3
      refine tX6_findTimes_45 g1 _ _ _ ⟨fun _ => ⟨rfl, fun p hp => ⟨h1 p hp, h2 p (Nat.zero_le _) hp⟩, h3⟩, fun c => by omega⟩
    | succ k ih =>
      intro hk t g1 ht h1 h2 h3
      have ek : ((k + 1 : Nat) : Int) - 1 = (k : Int) := by omega
      rw [ek]
      have e48 : g1 48 k = (pS (sW σ) k : Nat) := by rw [h3 _ _ (by omega) (by omega)]; exact (hB.2.2.2.2.2.2.2 k (by omega)).1
      have hs := pS_lt hv (p := k) (by omega)
      have et : tsum (sW σ) (k + 1) = tsum (sW σ) k + (2 + pS (sW σ) k) := rfl
      have hle : tsum (sW σ) (k + 1) ≤ sCR σ := tsum_mono (by omega)
      refine tX6_findTimes_45 g1 _ _ _ ⟨fun c => by omega, fun _ => ⟨⟨by omega, by omega⟩, ?_, ?_, ⟨by omega, by omega⟩, ⟨by omega, by omega⟩, ?_⟩⟩
      · rw [e48]; exact ⟨by omega, by omega⟩
      · rw [e48]; exact ⟨by omega, by omega⟩
      · rw [e48]
        refine ih (by omega) _ _ (by omega) (fun p hp => by rw [vx_u_k (by omega)]; exact h1 p hp) (fun p hp hp2 => ?_) (fun a b x y => by rw [vx_u_k y]; exact h3 a b x y)
        by_cases e : p = k
        · rw [e, vx_u_at]; omega
        · rw [vx_u_j (by omega)]; exact h2 p (by omega) hp2
  have up : ∀ (k p : Nat), p + k = sL σ → ∀ g1 : vx_M, (∀ i : Nat, i < p → g1 56 i = (tsum (sW σ) (i + 1) : Nat)) → (∀ a b, a ≠ 56 → g1 a b = g a b) → vN l mX6_findTimes d (vx_pi SH (fun z g' => z = (sCR σ : Nat) ∧ (∀ p : Nat, p < sL σ → g' 56 p = (tsum (sW σ) (p + 1) : Nat) ∧ g' 57 p = 2 * (sCR σ : Int) - (tsum (sW σ) p : Nat)) ∧ ∀ a b, a ≠ 56 → a ≠ 57 → g' a b = g a b)) SH g1 4 [some (.inr (some 40)), some (.inl ((tsum (sW σ) p : Nat) : Int)), some (.inl (p : Int)), none] [] := by
    intro k
    induction k with
    | zero =>
      intro p hp g1 h1 h2
      have e9 : g1 40 10 = (sL σ : Nat) := by rw [h2 _ _ (by omega)]; exact e10
      have ep : p = sL σ := by omega
      subst ep
      refine tX6_findTimes_4 g1 _ _ ⟨fun _ => ⟨⟨by omega, by omega⟩, ?_⟩, fun c => by omega⟩
      rw [e9]
      have e8 : tsum (sW σ) (sL σ) = sCR σ := rfl
      rw [e8]
      exact down (sL σ) (Nat.le_refl _) _ g1 (by rw [e8]; omega) h1 (fun p hp hp2 => by omega) (fun a b x _ => h2 a b x)
    | succ k ih =>
      intro p hp g1 h1 h2
      have e9 : g1 40 10 = (sL σ : Nat) := by rw [h2 _ _ (by omega)]; exact e10
      have e48 : g1 48 p = (pS (sW σ) p : Nat) := by rw [h2 _ _ (by omega)]; exact (hB.2.2.2.2.2.2.2 p (by omega)).1
      have hs := pS_lt hv (p := p) (by omega)
      have et : tsum (sW σ) (p + 1) = tsum (sW σ) p + (2 + pS (sW σ) p) := rfl
      have hle : tsum (sW σ) (p + 1) ≤ sCR σ := tsum_mono (by omega)
      have ec : ((tsum (sW σ) p : Nat) : Int) + (2 + ((pS (sW σ) p : Nat) : Int)) = ((tsum (sW σ) (p + 1) : Nat) : Int) := by omega
      refine tX6_findTimes_4 g1 _ _ ⟨fun c => by omega, fun _ => ⟨⟨by omega, by omega⟩, ?_, ?_, ⟨by omega, by omega⟩, ⟨by omega, by omega⟩, ?_⟩⟩
      · rw [e48]; exact ⟨by omega, by omega⟩
      · rw [e48, ec]; exact ⟨by omega, by omega⟩
      · rw [e48, ec]
        exact ih (p + 1) (by omega) _ (fun i hi => by
          by_cases e : i = p
          · rw [e, vx_u_at]
          · rw [vx_u_j (by omega)]; exact h1 i (by omega)) (fun a b x => by rw [vx_u_k x]; exact h2 a b x)
  exact up (sL σ) 0 (by omega) g (fun i hi => by omega) (fun _ _ _ => rfl)
def CM (σ : SG) (c : CK) (g : vx_M) : Prop := (∀ p : Nat, p < sL σ → g 58 p = c.1 p) ∧ g 40 27 = c.2.1 ∧ g 40 28 = c.2.2
def fr_K (g g' : vx_M) : Prop := (∀ a b, a ≠ 40 → a ≠ 52 → a ≠ 53 → a ≠ 56 → a ≠ 57 → a ≠ 58 → g' a b = g a b) ∧ ∀ b, b ≠ 27 → b ≠ 28 → g' 40 b = g 40 b
theorem fr_K.BM {σ : SG} {g g' : vx_M} (h : fr_K g g') (hB : BM σ g) : BM σ g' := hB.frame (fun a b x y => h.1 a b (by omega) (by omega) (by omega) (by omega) (by omega) (by omega)) (h.2 _ (by omega) (by omega)) (h.2 _ (by omega) (by omega)) (h.2 _ (by omega) (by omega)) (h.2 _ (by omega) (by omega))
theorem fo_stop {σ : SG} {r : List Nat} {ef : Nat → Int} {t : Int} {ab : Int × Int} {k : Nat} (h : (fo σ r ef t ab k).1 ≠ -1) : ∀ j, fo σ r ef t ab (k + j) = fo σ r ef t ab k
  | 0 => rfl
  | j + 1 => by
    have i := fo_stop h j
    show (if (fo σ r ef t ab (k + j)).1 = -1 ∧ _ then _ else fo σ r ef t ab (k + j)) = _
    rw [if_neg (fun q => h (by rw [← i]; exact q.1))]
    exact i
set_option maxHeartbeats 4000000 in
theorem m_climb {l : Launch} {d : Nat} {σ : SG} {g : vx_M} (hB : BM σ g) {r : List Nat} (hr : HB σ r 51 g) {ticks : Nat} (ht : ticks ≤ 200) : vNi l mX6_climb (d + 1) [.inr (some 40), .inl (ticks : Int)] SH g (fun z g' => z = (sCR σ : Nat) ∧ CM σ (clk σ r ticks) g' ∧ fr_K g g') := by
  have hv := hB.1
  have h7 : sL σ ≤ 7 := hv.2.2.1
  have hn8 := hv.2.2.2.1
  have bC := CR_le hv
  refine kX6_climb g ticks ⟨_, m_findTimes hB, fun r1 g1 h => ?_⟩
  obtain ⟨rfl, t1, t2⟩ := h
  have hB1 : BM σ g1 := hB.frame (fun a b x y => t2 a b (by omega) (by omega)) (t2 _ _ (by omega) (by omega)) (t2 _ _ (by omega) (by omega)) (t2 _ _ (by omega) (by omega)) (t2 _ _ (by omega) (by omega))
  refine ⟨_, m_useHand hB1 (hr.frame (fun b => t2 _ _ (by omega) (by omega))), fun g2 h => ?_⟩
  obtain ⟨u1, u2⟩ := h
  -- what stays through the ticks
  have stay : ∀ g3 : vx_M, (∀ a b, a ≠ 40 → a ≠ 53 → a ≠ 58 → g3 a b = g2 a b) → (∀ b, b ≠ 27 → b ≠ 28 → g3 40 b = g2 40 b) → BM σ g3 ∧ HB σ r 52 g3 ∧ (∀ p : Nat, p < sL σ → g3 56 p = (tsum (sW σ) (p + 1) : Nat) ∧ g3 57 p = 2 * (sCR σ : Int) - (tsum (sW σ) p : Nat)) ∧ fr_K g g3 := by
    intro g3 x1 x2
    refine ⟨hB1.frame (fun a b y z => by rw [x1 a b (by omega) (by omega) (by omega), u2 a b (by omega)]) (by rw [x2 _ (by omega) (by omega), u2 _ _ (by omega)]) (by rw [x2 _ (by omega) (by omega), u2 _ _ (by omega)]) (by rw [x2 _ (by omega) (by omega), u2 _ _ (by omega)]) (by rw [x2 _ (by omega) (by omega), u2 _ _ (by omega)]), u1.frame (fun b => x1 _ _ (by omega) (by omega) (by omega)), fun p hp => ?_, fun a b y1 y2 y3 y4 y5 y6 => ?_, fun b y1 y2 => ?_⟩
    · rw [x1 _ _ (by omega) (by omega) (by omega), x1 _ _ (by omega) (by omega) (by omega), u2 _ _ (by omega), u2 _ _ (by omega)]; exact t1 p hp
    · rw [x1 a b y1 y3 y6, u2 a b y2, t2 a b y4 y5]
    · rw [x2 b y1 y2, u2 _ _ (by omega), t2 _ _ (by omega) (by omega)]
  -- the ticks
  have ticksL : ∀ (k t : Nat), t + k = ticks → ∀ g3 : vx_M, CM σ (clk σ r t) g3 → (∀ a b, a ≠ 40 → a ≠ 53 → a ≠ 58 → g3 a b = g2 a b) → (∀ b, b ≠ 27 → b ≠ 28 → g3 40 b = g2 40 b) → vN l mX6_climb (d + 1) (vx_pi SH (fun z g' => z = (sCR σ : Nat) ∧ CM σ (clk σ r ticks) g' ∧ fr_K g g')) SH g3 44 [some (.inr (some 40)), some (.inl (ticks : Int)), some (.inl ((sCR σ : Nat) : Int)), some (.inl ((t + 1 : Nat) : Int)), none, none] [] := by
    intro k
    induction k with
    | zero =>
      intro t htt g3 q1 q2 q3
      refine tX6_climb_44 g3 _ _ _ ⟨fun _ => ⟨rfl, ?_, (stay g3 q2 q3).2.2.2⟩, fun c => by omega⟩
      rw [show ticks = t by omega]; exact q1
    | succ k ih =>
      intro t htt g3 q1 q2 q3
      obtain ⟨s1, s2, s3, s4⟩ := stay g3 q2 q3
      have e10 := s1.2.2.1
      refine tX6_climb_44 g3 _ _ _ ⟨fun c => by omega, fun _ => ?_⟩
      -- how many stand
      have many : ∀ (k2 p : Nat), p + k2 = sL σ → vN l mX6_climb (d + 1) (vx_pi SH (fun z g' => z = (sCR σ : Nat) ∧ CM σ (clk σ r ticks) g' ∧ fr_K g g')) SH g3 55 [some (.inr (some 40)), some (.inl (ticks : Int)), some (.inl ((sCR σ : Nat) : Int)), some (.inl ((t + 1 : Nat) : Int)), some (.inl ((cnt (fun p => decide (tsum (sW σ) (p + 1) < t + 1 ∧ t + 1 + tsum (sW σ) p ≤ 2 * sCR σ)) p : Nat) : Int)), some (.inl (p : Int))] [] := by
        intro k2
        induction k2 with
        | zero =>
          intro p hp
          have ep : p = sL σ := by omega
          subst ep
          have em : cnt (fun p => decide (tsum (sW σ) (p + 1) < t + 1 ∧ t + 1 + tsum (sW σ) p ≤ 2 * sCR σ)) (sL σ) = mt σ (t + 1) := rfl
          rw [em]
          have hmt := mt_le σ (t + 1)
          refine tX6_climb_55 g3 _ _ _ _ _ ⟨fun _ => ⟨⟨by omega, by omega⟩, _, m_findLoads s1 s2 hmt, fun g4 h4 => ?_⟩, fun c => by omega⟩
          obtain ⟨l1, l2⟩ := h4
          have bk := clk_bound hv hr.1 t
          -- the efforts
          have eff : ∀ (k3 p : Nat), p + k3 = mt σ (t + 1) → ∀ g5 : vx_M, (∀ i : Nat, i < p → g5 58 i = (clk σ r t).1 i + lD σ r i (mt σ (t + 1))) → (∀ i : Nat, p ≤ i → i < sL σ → g5 58 i = (clk σ r t).1 i) → (∀ a b, a ≠ 58 → g5 a b = g4 a b) → vN l mX6_climb (d + 1) (vx_pi SH (fun z g' => z = (sCR σ : Nat) ∧ CM σ (clk σ r ticks) g' ∧ fr_K g g')) SH g5 113 [some (.inr (some 40)), some (.inl (ticks : Int)), some (.inl ((sCR σ : Nat) : Int)), some (.inl ((t + 1 : Nat) : Int)), some (.inl ((mt σ (t + 1) : Nat) : Int)), some (.inl (p : Int))] [] := by
            intro k3
            induction k3 with
            | zero =>
              intro p hp g5 w1 w2 w3
              refine tX6_climb_113 g5 _ _ _ _ _ ⟨fun _ => ?_, fun c => by omega⟩
              have w1' : ∀ i : Nat, i < sL σ → g5 58 i = (clk σ r t).1 i + lD σ r i (mt σ (t + 1)) := fun i hi => by
                by_cases c : i < p
                · exact w1 i c
                · rw [w2 i (by omega) hi]
                  have : lD σ r i (mt σ (t + 1)) = 0 := ld_low _ (by omega)
                  omega
              -- who gives way
              have fall : ∀ (k4 p : Nat), p + k4 = sL σ → ∀ g6 : vx_M, (g6 40 27, g6 40 28) = fo σ r (fun p => (clk σ r t).1 p + lD σ r p (mt σ (t + 1))) ((t + 1 : Nat) : Int) ((clk σ r t).2.1, (clk σ r t).2.2) p → (∀ a b, (a ≠ 40 ∨ (b ≠ 27 ∧ b ≠ 28)) → g6 a b = g5 a b) → vN l mX6_climb (d + 1) (vx_pi SH (fun z g' => z = (sCR σ : Nat) ∧ CM σ (clk σ r ticks) g' ∧ fr_K g g')) SH g6 146 [some (.inr (some 40)), some (.inl (ticks : Int)), some (.inl ((sCR σ : Nat) : Int)), some (.inl ((t + 1 : Nat) : Int)), some (.inl ((mt σ (t + 1) : Nat) : Int)), some (.inl (p : Int))] [] := by
                have fin : ∀ g6 : vx_M, (g6 40 27, g6 40 28) = fo σ r (fun p => (clk σ r t).1 p + lD σ r p (mt σ (t + 1))) ((t + 1 : Nat) : Int) ((clk σ r t).2.1, (clk σ r t).2.2) (sL σ) → (∀ a b, (a ≠ 40 ∨ (b ≠ 27 ∧ b ≠ 28)) → g6 a b = g5 a b) → vN l mX6_climb (d + 1) (vx_pi SH (fun z g' => z = (sCR σ : Nat) ∧ CM σ (clk σ r ticks) g' ∧ fr_K g g')) SH g6 44 [some (.inr (some 40)), some (.inl (ticks : Int)), some (.inl ((sCR σ : Nat) : Int)), some (.inl (((t + 1 : Nat) : Int) + 1)), none, none] [] := by
                  intro g6 z1 z2
                  refine ih (t + 1) (by omega) g6 ⟨fun p hp => ?_, congrArg Prod.fst z1, congrArg Prod.snd z1⟩ (fun a b y1 y2 y3 => ?_) (fun b y1 y2 => ?_)
                  · rw [z2 _ _ (by omega)]; exact w1' p hp
                  · rw [z2 _ _ (by omega), w3 _ _ (by omega), l2 _ _ (by omega)]; exact q2 a b y1 y2 y3
                  · rw [z2 _ _ (by omega), w3 _ _ (by omega), l2 _ _ (by omega)]; exact q3 b y1 y2
                intro k4
                induction k4 with
                | zero =>
                  intro p hp g6 z1 z2
                  have e9 : g6 40 10 = (sL σ : Nat) := by rw [z2 _ _ (by omega), w3 _ _ (by omega), l2 _ _ (by omega)]; exact e10
                  refine tX6_climb_146 g6 _ _ _ _ _ ⟨fun _ => ⟨⟨by omega, by omega⟩, fin g6 (by rw [show sL σ = p by omega]; exact z1) z2⟩, fun c => by omega⟩
                | succ k4 ih4 =>
                  intro p hp g6 z1 z2
                  have e9 : g6 40 10 = (sL σ : Nat) := by rw [z2 _ _ (by omega), w3 _ _ (by omega), l2 _ _ (by omega)]; exact e10
                  have e52 : g6 52 p = (r.getD p 0 : Nat) := by rw [z2 _ _ (by omega), w3 _ _ (by omega), l2 _ _ (by omega)]; exact s2.2 p (by omega)
                  have hxn := hr.1.2 p (by omega)
                  have e46 : g6 46 (r.getD p 0 : Nat) = sA σ 4 (r.getD p 0) := by rw [z2 _ _ (by omega), w3 _ _ (by omega), l2 _ _ (by omega)]; exact s1.2.2.2.2.2.1 4 (r.getD p 0) (by omega) (by omega)
                  have e58 : g6 58 p = (clk σ r t).1 p + lD σ r p (mt σ (t + 1)) := by rw [z2 _ _ (by omega)]; exact w1' p (by omega)
                  have bs := (hv.2.2.2.2.1 _ hxn).2.2.2.2
                  have hfo : fo σ r (fun p => (clk σ r t).1 p + lD σ r p (mt σ (t + 1))) ((t + 1 : Nat) : Int) ((clk σ r t).2.1, (clk σ r t).2.2) (p + 1) = if g6 40 27 = -1 ∧ 8 * sA σ 4 (r.getD p 0) < (clk σ r t).1 p + lD σ r p (mt σ (t + 1)) then (((t + 1 : Nat) : Int), (p : Int)) else (g6 40 27, g6 40 28) := by
                    show (if (fo σ r (fun p => (clk σ r t).1 p + lD σ r p (mt σ (t + 1))) ((t + 1 : Nat) : Int) ((clk σ r t).2.1, (clk σ r t).2.2) p).1 = -1 ∧ _ then _ else fo σ r (fun p => (clk σ r t).1 p + lD σ r p (mt σ (t + 1))) ((t + 1 : Nat) : Int) ((clk σ r t).2.1, (clk σ r t).2.2) p) = _
                    rw [← z1]
                  refine tX6_climb_146 g6 _ _ _ _ _ ⟨fun c => by omega, fun _ => ⟨fun c5 => ⟨⟨by omega, by omega⟩, fin g6 ?_ z2⟩, fun c5 => ⟨⟨by omega, by omega⟩, ⟨by omega, by omega⟩, ⟨by omega, by omega⟩, ?_, ?_, ?_⟩⟩⟩
                  · have hst := fo_stop (σ := σ) (r := r) (ef := fun p => (clk σ r t).1 p + lD σ r p (mt σ (t + 1))) (t := ((t + 1 : Nat) : Int)) (ab := ((clk σ r t).2.1, (clk σ r t).2.2)) (k := p) (by rw [← z1]; exact c5) (sL σ - p)
                    rw [show p + (sL σ - p) = sL σ by omega] at hst
                    rw [hst]; exact z1
                  · rw [e52, e46]; exact ⟨by omega, by omega⟩
                  · intro c6
                    rw [e52, e46, e58] at c6
                    refine ⟨⟨by omega, by omega⟩, ih4 (p + 1) (by omega) g6 ?_ z2⟩
                    rw [hfo, if_neg (fun q => by omega)]
                  · intro c6
                    rw [e52, e46, e58] at c6
                    refine ⟨⟨by omega, by omega⟩, ih4 (p + 1) (by omega) _ ?_ (fun a b y => ?_)⟩
                    · rw [hfo, if_pos ⟨c5, by omega⟩, vx_u_at, vx_u_j (by omega), vx_u_at]
                    · rw [← z2 a b y]
                      by_cases ha : a = 40
                      · rw [vx_u_j (by omega), vx_u_j (by omega)]
                      · rw [vx_u_k ha, vx_u_k ha]
              refine fall (sL σ) 0 (by omega) g5 ?_ (fun _ _ _ => rfl)
              rw [w3 _ _ (by omega), w3 _ _ (by omega), l2 _ _ (by omega), l2 _ _ (by omega), q1.2.1, q1.2.2]
              rfl
            | succ k3 ih3 =>
              intro p hp g5 w1 w2 w3
              have e58 := w2 p (Nat.le_refl _) (by omega)
              have e53 : g5 53 p = lD σ r p (mt σ (t + 1)) := by rw [w3 _ _ (by omega)]; exact l1 p (by omega)
              have b1 := bk p
              have b2 := lD_bound (q := p) hv hr.1 hmt
              refine tX6_climb_113 g5 _ _ _ _ _ ⟨fun c => by omega, fun _ => ⟨⟨by omega, by omega⟩, ⟨by omega, by omega⟩, ?_, ⟨by omega, by omega⟩, ⟨by omega, by omega⟩, ?_⟩⟩
              · rw [e58, e53]; exact ⟨by omega, by omega⟩
              · rw [e58, e53]
                exact ih3 (p + 1) (by omega) _ (fun i hi => by
                  by_cases e : i = p
                  · rw [e, vx_u_at]
                  · rw [vx_u_j (by omega)]; exact w1 i (by omega)) (fun i hi hi2 => by rw [vx_u_j (by omega)]; exact w2 i (by omega) hi2) (fun a b x => by rw [vx_u_k x]; exact w3 a b x)
          exact eff (mt σ (t + 1)) 0 (by omega) g4 (fun i hi => by omega) (fun i _ hi => by rw [l2 _ _ (by omega)]; exact q1.1 i hi) (fun _ _ _ => rfl)
        | succ k2 ih2 =>
          intro p hp
          obtain ⟨e56, e57⟩ := s3 p (by omega)
          have i := ih2 (p + 1) (by omega)
          have bcn := cnt_le (fun p => decide (tsum (sW σ) (p + 1) < t + 1 ∧ t + 1 + tsum (sW σ) p ≤ 2 * sCR σ)) p
          have hle : tsum (sW σ) p ≤ sCR σ := tsum_mono (by omega)
          have ecn : cnt (fun p => decide (tsum (sW σ) (p + 1) < t + 1 ∧ t + 1 + tsum (sW σ) p ≤ 2 * sCR σ)) (p + 1) = cnt (fun p => decide (tsum (sW σ) (p + 1) < t + 1 ∧ t + 1 + tsum (sW σ) p ≤ 2 * sCR σ)) p + if decide (tsum (sW σ) (p + 1) < t + 1 ∧ t + 1 + tsum (sW σ) p ≤ 2 * sCR σ) = true then 1 else 0 := rfl
          refine tX6_climb_55 g3 _ _ _ _ _ ⟨fun c => by omega, fun _ => ⟨⟨by omega, by omega⟩, fun c5 => ⟨⟨by omega, by omega⟩, ⟨by omega, by omega⟩, ?_⟩, fun c5 => ⟨⟨by omega, by omega⟩, fun c6 => ⟨⟨by omega, by omega⟩, ⟨by omega, by omega⟩, ?_⟩, fun c6 => ⟨⟨by omega, by omega⟩, ⟨by omega, by omega⟩, ?_⟩⟩⟩⟩
          · rw [ecn, if_neg (by rw [decide_eq_true_eq]; omega), Int.natCast_add] at i
            exact i
          · rw [ecn, if_neg (by rw [decide_eq_true_eq]; omega), Int.natCast_add] at i
            exact i
          · rw [ecn, if_pos (by rw [decide_eq_true_eq]; omega), Int.natCast_add] at i
            exact i
      exact many (sL σ) 0 (by omega)
  -- efforts are noughts at first
  have zero : ∀ (k p : Nat), p + k = sL σ → ∀ g3 : vx_M, (∀ i : Nat, i < p → g3 58 i = 0) → g3 40 27 = -1 → g3 40 28 = -1 → (∀ a b, a ≠ 40 → a ≠ 53 → a ≠ 58 → g3 a b = g2 a b) → (∀ b, b ≠ 27 → b ≠ 28 → g3 40 b = g2 40 b) → vN l mX6_climb (d + 1) (vx_pi SH (fun z g' => z = (sCR σ : Nat) ∧ CM σ (clk σ r ticks) g' ∧ fr_K g g')) SH g3 21 [some (.inr (some 40)), some (.inl (ticks : Int)), some (.inl ((sCR σ : Nat) : Int)), some (.inl (p : Int)), none, none] [] := by
    intro k
    induction k with
    | zero =>
      intro p hp g3 w1 w2 w3 w4 w5
      have e10 := (stay g3 w4 w5).1.2.2.1
      refine tX6_climb_21 g3 _ _ _ ⟨fun _ => ?_, fun c => by omega⟩
      exact ticksL ticks 0 (by omega) g3 ⟨fun p hp => w1 p (by omega), w2, w3⟩ w4 w5
    | succ k ih =>
      intro p hp g3 w1 w2 w3 w4 w5
      have e10 := (stay g3 w4 w5).1.2.2.1
      refine tX6_climb_21 g3 _ _ _ ⟨fun c => by omega, fun _ => ⟨⟨by omega, by omega⟩, ⟨by omega, by omega⟩, ?_⟩⟩
      exact ih (p + 1) (by omega) _ (fun i hi => by
        by_cases e : i = p
        · rw [e, vx_u_at]
        · rw [vx_u_j (by omega)]; exact w1 i (by omega)) (by rw [vx_u_k (by omega)]; exact w2) (by rw [vx_u_k (by omega)]; exact w3) (fun a b x1 x2 x3 => by rw [vx_u_k x3]; exact w4 a b x1 x2 x3) (fun b x1 x2 => by rw [vx_u_k (by omega)]; exact w5 b x1 x2)
  refine zero (sL σ) 0 (by omega) _ (fun i hi => by omega) ?_ ?_ (fun a b x1 x2 x3 => ?_) (fun b x1 x2 => ?_)
  · rw [vx_u_j (by omega), vx_u_at]
  · rw [vx_u_at]
  · rw [vx_u_k x1, vx_u_k x1]
  · rw [vx_u_j x2, vx_u_j x1]

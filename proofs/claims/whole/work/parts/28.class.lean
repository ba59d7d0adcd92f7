/-! THE CLASS'S CALLS -/
def frC (g g' : vx_M) : Prop := ∀ a b, 40 ≤ a → g' a b = g a b
theorem RC.scr {σ : SG} {g g' : vx_M} (h : RC σ g) (hf : ∀ a b, (a < 21 ∨ a = 39) → g' a b = g a b) (hu : ∀ x : Nat, x < 8 → g' 33 x = 0) : RC σ g' := by
  obtain ⟨h1, h2, h3, h4, h5, h6, h7⟩ := h
  refine ⟨h1, h2.frame (fun a b _ y => hf a b (Or.inl y)), ?_, hu, ?_, ?_, ?_⟩
  · rcases h3 with ⟨a, b, c⟩ | ⟨r, a, b, c⟩
    · exact Or.inl ⟨a, by rw [hf _ _ (by omega)]; exact b, fun i hi => by rw [hf _ _ (by omega)]; exact c i hi⟩
    · exact Or.inr ⟨r, a, by rw [hf _ _ (by omega)]; exact b, c.frame (fun b => hf _ _ (by omega))⟩
  · rw [hf _ _ (by omega)]; exact h5
  · rw [hf _ _ (by omega)]; exact h6
  · rw [hf _ _ (by omega)]; exact h7
theorem c_within {l : Launch} {d : Nat} {g : vx_M} (v a b : Int) : vNi l mX5_within d [.inl v, .inl a, .inl b] SH g (fun r g' => g' = g ∧ ((r = 1 ∧ a ≤ v ∧ v ≤ b) ∨ (r = 0 ∧ (v < a ∨ b < v)))) :=
  kX5_within g v a b ⟨fun c => ⟨rfl, Or.inr ⟨rfl, Or.inl c⟩⟩, fun c => ⟨fun c2 => ⟨rfl, Or.inr ⟨rfl, Or.inr c2⟩⟩, fun c2 => ⟨rfl, Or.inl ⟨rfl, by omega, by omega⟩⟩⟩⟩
theorem c_isPlace {l : Launch} {d : Nat} {σ : SG} {g : vx_M} (hB : BC σ g) (v : Int) : vNi l mX5_isPlace d [.inr (some 0), .inl v] SH g (fun r g' => g' = g ∧ ((r = 1 ∧ 0 ≤ v ∧ v < sL σ) ∨ (r = 0 ∧ (v < 0 ∨ sL σ ≤ v)))) := by
  have e5 : g 1 5 = (sL σ : Nat) := hB.2.1.2.1
  refine kX5_isPlace g v ⟨fun c => ⟨rfl, Or.inr ⟨rfl, Or.inl c⟩⟩, fun c => ⟨fun c2 => ⟨rfl, Or.inr ⟨rfl, Or.inr (by omega)⟩⟩, fun c2 => ⟨rfl, Or.inl ⟨rfl, by omega, by omega⟩⟩⟩⟩
theorem c_endPlacing {l : Launch} {d : Nat} {g : vx_M} : vNv l mX5_endPlacing (d + 1) [.inr (some 0)] SH g (fun g' => g' 0 6 = 0 ∧ (∀ i : Nat, i < 7 → g' 39 i = -1) ∧ ∀ a b, (a ≠ 0 ∨ b ≠ 6) → a ≠ 39 → g' a b = g a b) := by
  refine kX5_endPlacing g ⟨_, c_fill s_39 (by omega) g (-1), fun g1 h => ?_⟩
  refine ⟨vx_u_at, fun i hi => ?_, fun a b x y => ?_⟩
  · rw [vx_u_k (by omega), h]
    unfold vx_fill
    rw [if_pos rfl, if_pos (by omega)]
  · have e : vx_u g1 0 6 0 a b = g1 a b := by
      by_cases ha : a = 0
      · rw [vx_u_j (by omega)]
      · rw [vx_u_k ha]
    rw [e, h]
    unfold vx_fill
    rw [if_neg y]
theorem pow8 : ∀ k : Nat, k < 8 → (8 : Int) ^ k ≤ 2097152 := by decide
theorem c_start {l : Launch} {d : Nat} {σ : SG} {g : vx_M} {near : Nat → Int} {mc : Int} {ct : Bool} {c : Int} (hB : BC σ g) (hu : ∀ x : Nat, x < 8 → g 33 x = 0) (hnear : ∀ p : Nat, p < 7 → g 34 p = near p) (hmc : 0 ≤ mc ∧ mc ≤ 1000) (hc : c = if ct = true then 1 else 0) :
    vNv l mX3_start (d + 17) [.inr (some 21), .inl c, .inl mc] SH g (fun g' => AI σ ct (SRC σ near mc ct) g' ∧ (∀ a b, a ≠ 21 → a ≠ 22 → a ≠ 32 → a ≠ 33 → a ≠ 35 → (a ≤ 24 ∨ 32 < a) → g' a b = g a b) ∧ ∀ x : Nat, x < 8 → g' 33 x = 0) := by
  have hL7 : sL σ ≤ 7 := hB.1.2.2.1
  refine kX3_start g c mc ⟨by cases ct <;> simp [hc], ?_⟩
  generalize hg1 : vx_u (vx_u (vx_u (vx_u g 21 9 c) 21 10 mc) 21 11 2147483647) 21 12 0 = g1
  have f1 : ∀ a b, a ≠ 21 → g1 a b = g a b := fun a b x => by rw [← hg1, vx_u_k x, vx_u_k x, vx_u_k x, vx_u_k x]
  have hS : SI σ near mc ct [] g1 := by
    refine ⟨hB.frame (fun a b _ y => f1 a b (by omega)), fun i hi => ?_, fun x hx => ?_, fun i hi => ?_, fun i hi => ?_, fun p hp => ?_, ?_, ?_⟩
    · exact absurd hi (Nat.not_lt_zero _)
    · rw [f1 _ _ (by omega), hu x hx, if_neg List.not_mem_nil]
    · exact absurd hi (Nat.not_lt_zero _)
    · exact absurd hi (Nat.not_lt_zero _)
    · rw [f1 _ _ (by omega)]; exact hnear p hp
    · rw [← hg1, vx_u_j (by omega), vx_u_j (by omega), vx_u_j (by omega), vx_u_at]; exact hc
    · rw [← hg1, vx_u_j (by omega), vx_u_j (by omega), vx_u_at]
  have hA : AI σ ct (2147483647, 0, []) g1 := by
    refine ⟨?_, ?_, fun _ h => ?_⟩
    · rw [← hg1, vx_u_j (by omega), vx_u_at]
    · rw [← hg1, vx_u_at]
    · exact absurd h (by show ¬ (0 : Int) < 0; omega)
  have e0 : cst σ near mc [] ([] : List Nat).length = 0 := by
    unfold cst
    show 0 + mc * 0 = 0
    omega
  have hw := c_walk (l := l) (d := d + (14 - 2 * sL σ)) hmc (sL σ) [] (2147483647, 0, []) g1 0 0 (by show 0 + _ = _; omega) (fun i hi => absurd hi (Nat.not_lt_zero _)) hS hA ⟨fun p hp => absurd hp (Nat.not_lt_zero _), fun p hp => absurd hp (Nat.not_lt_zero _)⟩ (by rw [e0]; show (0 : Int) < 2147483647; omega) (fun h => absurd h (Nat.lt_irrefl _)) ⟨by show (0 : Int) ≤ 0; omega, by
    have := pow8 (sL σ) (by omega)
    show 0 + (8 : Int) ^ (sL σ) ≤ _
    omega⟩
  rw [e0, show d + (14 - 2 * sL σ) + (2 * sL σ + 1) + 1 = d + 16 by omega] at hw
  refine ⟨_, hw, fun g2 h => ?_⟩
  obtain ⟨k1, k2, k3⟩ := h
  refine ⟨k2, fun a b x1 x2 x3 x4 x5 x6 => ?_, fun x hx => ?_⟩
  · rw [k3.1 a b x1 x2 x3 x4 x5 (by show a ≤ 24 + 0 ∨ _; omega)]; exact f1 a b x1
  · rw [k1.2.2.1 x hx, if_neg List.not_mem_nil]
theorem c_countFitting {l : Launch} {d : Nat} {σ : SG} {g : vx_M} (hR : RC σ g) : vNi l mX3_countFitting (d + 18) [.inr (some 21)] SH g (fun r g' => r = nFit σ ∧ RC σ g' ∧ frC g g') := by
  refine kX3_countFitting g ⟨_, c_start (ct := true) (near := fun p => g 34 p) hR.2.1 hR.2.2.2.1 (fun p _ => rfl) ⟨by omega, by omega⟩ rfl, fun g1 h => ?_⟩
  obtain ⟨h1, h2, h3⟩ := h
  refine ⟨?_, hR.scr (fun a b x => h2 a b (by omega) (by omega) (by omega) (by omega) (by omega) (by omega)) h3, fun a b x => h2 a b (by omega) (by omega) (by omega) (by omega) (by omega) (by omega)⟩
  rw [h1.2.1]
  exact src_count hR.1.1
theorem c_seekLevel {l : Launch} {d : Nat} {σ : SG} {g : vx_M} (hR : RC σ g) : vNi l mX3_seekLevel (d + 18) [.inr (some 21)] SH g (fun r g' => RC σ g' ∧ frC g g' ∧ ((r = 0 ∧ lev σ = none) ∨ (r = 1 ∧ ∃ x, lev σ = some x ∧ g' 21 11 = x.1 ∧ 0 ≤ x.1 ∧ x.1 ≤ 200 ∧ ∀ i : Nat, i < sL σ → g' 35 i = (x.2.getD i 0 : Nat)))) := by
  refine kX3_seekLevel g ⟨_, c_start (ct := false) (near := fun p => g 34 p) hR.2.1 hR.2.2.2.1 (fun p _ => rfl) ⟨by omega, by omega⟩ rfl, fun g1 h => ?_⟩
  obtain ⟨h1, h2, h3⟩ := h
  have q1 : RC σ g1 := hR.scr (fun a b x => h2 a b (by omega) (by omega) (by omega) (by omega) (by omega) (by omega)) h3
  have q2 : frC g g1 := fun a b x => h2 a b (by omega) (by omega) (by omega) (by omega) (by omega) (by omega)
  have hs := src_level (near := fun p => g 34 p) hR.1.1
  refine ⟨fun c => ⟨q1, q2, Or.inl ⟨rfl, ?_⟩⟩, fun c => ⟨q1, q2, Or.inr ⟨rfl, ?_⟩⟩⟩
  · rw [h1.2.1] at c
    rcases hs with ⟨hs, -⟩ | ⟨x, -, -, hs, -⟩
    · exact hs
    · omega
  · rw [h1.2.1] at c
    rcases hs with ⟨-, -, hs⟩ | ⟨x, a1, a2, a3, a4, a5, a6⟩
    · omega
    · exact ⟨x, a1, by rw [h1.1]; exact a2, a5, a6, fun i hi => by rw [h1.2.2 rfl a3 i hi, a4]⟩
theorem c_seekClose {l : Launch} {d : Nat} {σ : SG} {g : vx_M} (hR : RC σ g) : vNi l mX3_seekClose (d + 18) [.inr (some 21), .inr (some 39)] SH g (fun r g' => RC σ g' ∧ frC g g' ∧ ((r = 0 ∧ clo σ = none) ∨ (r = 1 ∧ ∃ x, clo σ = some x ∧ g' 21 11 = x.2.1 + 1000 * x.1 ∧ 0 ≤ x.2.1 ∧ x.2.1 ≤ 200 ∧ 0 ≤ x.1 ∧ x.1 ≤ 7 ∧ ∀ i : Nat, i < sL σ → g' 35 i = (x.2.2.getD i 0 : Nat)))) := by
  have f0 : ∀ a b, a ≠ 34 → vx_cp g 39 34 0 0 7 a b = g a b := fun a b x => by
    unfold vx_cp
    rw [if_neg x]
  have hL7 : sL σ ≤ 7 := hR.1.1.2.2.1
  have hnr : ∀ p : Nat, p < sL σ → (fun p : Nat => g 39 p) p = nearS σ p := fun p hp => by
    show g 39 p = _
    unfold nearS
    rcases hR.2.2.1 with ⟨a, b, c⟩ | ⟨r, a, b, c⟩
    · rw [a]; exact c p (by omega)
    · rw [a]; exact c.2 p hp
  refine kX3_seekClose g ⟨_, c_start (ct := false) (near := fun p => g 39 p) (hR.2.1.frame (fun a b _ y => f0 a b (by omega))) (fun x hx => by rw [f0 _ _ (by omega)]; exact hR.2.2.2.1 x hx) (fun p hp => by
    unfold vx_cp
    rw [if_pos rfl, if_pos (by omega), show (0 : Int) + ((p : Int) - 0) = p by omega]) ⟨by omega, by omega⟩ rfl, fun g1 h => ?_⟩
  obtain ⟨h1, h2, h3⟩ := h
  have q1 : RC σ g1 := hR.scr (fun a b x => by rw [h2 a b (by omega) (by omega) (by omega) (by omega) (by omega) (by omega)]; exact f0 a b (by omega)) h3
  have q2 : frC g g1 := fun a b x => by rw [h2 a b (by omega) (by omega) (by omega) (by omega) (by omega) (by omega)]; exact f0 a b (by omega)
  have hs := src_close (near := fun p => g 39 p) hR.1.1 hnr
  refine ⟨fun c => ⟨q1, q2, Or.inl ⟨rfl, ?_⟩⟩, fun c => ⟨q1, q2, Or.inr ⟨rfl, ?_⟩⟩⟩
  · rw [h1.2.1] at c
    rcases hs with ⟨hs, -⟩ | ⟨x, -, -, hs, -⟩
    · exact hs
    · omega
  · rw [h1.2.1] at c
    rcases hs with ⟨-, -, hs⟩ | ⟨x, a1, a2, a3, a4, a5, a6, a7, a8⟩
    · omega
    · exact ⟨x, a1, by rw [h1.1]; exact a2, a5, a6, a7, a8, fun i hi => by rw [h1.2.2 rfl a3 i hi, a4]⟩
theorem c_uneven {l : Launch} {d : Nat} {g : vx_M} {z : Int} (h : g 21 11 = z) (h0 : 0 ≤ z) : vNi l mX3_uneven d [.inr (some 21)] SH g (fun r g' => r = z % 1000 ∧ g' = g) := by
  subst h
  exact kX3_uneven g ⟨h0, rfl, rfl⟩
theorem c_moves {l : Launch} {d : Nat} {g : vx_M} {z : Int} (h : g 21 11 = z) (h0 : 0 ≤ z) : vNi l mX3_moves d [.inr (some 21)] SH g (fun r g' => r = z / 1000 ∧ g' = g) := by
  subst h
  exact kX3_moves g ⟨h0, rfl, rfl⟩
abbrev spC (l : Launch) (M : vx_Me) (d : Nat) (av : List vx_V) (g : vx_M) (f : Int × SG) : Prop := vNi l M d av SH g (fun r g' => r = f.1 ∧ RC f.2 g' ∧ frC g g')
theorem x_fits {l : Launch} {d : Nat} {σ : SG} {g : vx_M} (hR : RC σ g) : spC l mX5_fits (d + 20) [.inr (some 0)] g (f_fits σ) :=
  kX5_fits g ⟨_, c_countFitting hR, fun r1 g1 h => h⟩
theorem x_level {l : Launch} {d : Nat} {σ : SG} {g : vx_M} (hR : RC σ g) : spC l mX5_level (d + 20) [.inr (some 0)] g (f_level σ) := by
  refine kX5_level g ⟨_, c_seekLevel hR, fun r1 g1 h => ?_⟩
  obtain ⟨h1, h2, h3⟩ := h
  refine ⟨fun c => ⟨?_, h1, h2⟩, fun c => ?_⟩
  · rcases h3 with ⟨-, h3⟩ | ⟨h3, -⟩
    · show -1 = (match lev σ with | none => -1 | some x => x.1)
      rw [h3]
    · omega
  · rcases h3 with ⟨h3, -⟩ | ⟨-, x, a1, a2, a3, a4, a5⟩
    · exact absurd h3 c
    · refine ⟨_, c_uneven a2 a3, fun r2 g2 h => ?_⟩
      obtain ⟨rfl, rfl⟩ := h
      refine ⟨?_, h1, h2⟩
      show _ = (match lev σ with | none => -1 | some x => x.1)
      rw [a1]
      show x.1 % 1000 = x.1
      omega
theorem x_close {l : Launch} {d : Nat} {σ : SG} {g : vx_M} (hR : RC σ g) : spC l mX5_close (d + 20) [.inr (some 0)] g (f_close σ) := by
  refine kX5_close g ⟨_, c_seekClose hR, fun r1 g1 h => ?_⟩
  obtain ⟨h1, h2, h3⟩ := h
  refine ⟨fun c => ⟨?_, h1, h2⟩, fun c => ?_⟩
  · rcases h3 with ⟨-, h3⟩ | ⟨h3, -⟩
    · show -1 = (match clo σ with | none => -1 | some x => x.1)
      rw [h3]
    · omega
  · rcases h3 with ⟨h3, -⟩ | ⟨-, x, a1, a2, a3, a4, a5, a6, a7⟩
    · exact absurd h3 c
    · refine ⟨_, c_moves a2 (by omega), fun r2 g2 h => ?_⟩
      obtain ⟨rfl, rfl⟩ := h
      refine ⟨?_, h1, h2⟩
      show _ = (match clo σ with | none => -1 | some x => x.1)
      rw [a1]
      show (x.2.1 + 1000 * x.1) / 1000 = x.1
      omega
/-- a placing is taken -/
theorem RC.take {σ : SG} {g : vx_M} (hR : RC σ g) {e : List Nat} (he : hOK σ e) (hb : ∀ i : Nat, i < sL σ → g 35 i = (e.getD i 0 : Nat)) : RC (uHnd σ e) (vx_u (vx_cp g 35 39 0 0 (g 1 5)) 0 6 1) := by
  obtain ⟨h1, h2, h3, h4, h5, h6, h7⟩ := hR
  have e5 : g 1 5 = (sL σ : Nat) := h2.2.1.2.1
  have hL7 : sL σ ≤ 7 := h1.1.2.2.1
  have f0 : ∀ a b, a ≠ 39 → (a ≠ 0 ∨ b ≠ 6) → vx_u (vx_cp g 35 39 0 0 (g 1 5)) 0 6 1 a b = g a b := fun a b x y => by
    have e : vx_u (vx_cp g 35 39 0 0 (g 1 5)) 0 6 1 a b = vx_cp g 35 39 0 0 (g 1 5) a b := by
      by_cases ha : a = 0
      · rw [vx_u_j (by omega)]
      · rw [vx_u_k ha]
    rw [e]
    unfold vx_cp
    rw [if_neg x]
  refine ⟨⟨h1.1, fun r hr => ?_, h1.2.2⟩, ?_, Or.inr ⟨e, rfl, vx_u_at, he, fun i hi => ?_⟩, fun x hx => ?_, ?_, ?_, ?_⟩
  · have hr : some e = some r := hr
    cases hr
    exact he
  · exact BC.frame (σ := uHnd σ e) (g := g) h2 (fun a b x y => f0 a b (by omega) (by omega))
  · have hi : i < sL σ := hi
    rw [vx_u_k (by omega)]
    unfold vx_cp
    rw [if_pos rfl, if_pos (by omega), show (0 : Int) + ((i : Int) - 0) = i by omega]
    exact hb i hi
  · rw [f0 _ _ (by omega) (by omega)]; exact h4 x hx
  · rw [f0 _ _ (by omega) (by omega)]; exact h5
  · rw [f0 _ _ (by omega) (by omega)]; exact h6
  · rw [f0 _ _ (by omega) (by omega)]; exact h7
theorem x_take {l : Launch} {d : Nat} {σ : SG} {g : vx_M} (hR : RC σ g) (v : Int) : spC l mX5_take (d + 20) [.inr (some 0), .inl v] g (f_take σ v) := by
  have hL7 : sL σ ≤ 7 := hR.1.1.2.2.1
  refine kX5_take g v ⟨_, c_within v 0 1, fun r1 g1 h => ?_⟩
  obtain ⟨rfl, h⟩ := h
  refine ⟨fun c => ⟨fun cv => ?_, fun cv => ?_⟩, fun c => ?_⟩
  · have hv : v = 1 := by omega
    refine ⟨_, c_seekClose hR, fun r2 g2 h => ?_⟩
    obtain ⟨h1, h2, h3⟩ := h
    have e5 : g2 1 5 = (sL σ : Nat) := h1.2.1.2.1.2.1
    refine tX5_take_37 g2 _ _ ⟨fun c2 => ⟨⟨by omega, by omega⟩, ?_⟩, fun c2 => ?_⟩
    · rcases h3 with ⟨h3, -⟩ | ⟨-, x, a1, a2, a3, a4, a5, a6, a7⟩
      · exact absurd h3 c2
      · have ef : f_take σ v = (x.2.1, uHnd σ x.2.2) := by
          unfold f_take
          rw [if_neg (by omega), if_neg (by omega), a1]
        have e11 : (vx_u (vx_cp g2 35 39 0 0 (g2 1 5)) 0 6 1) 21 11 = x.2.1 + 1000 * x.1 := by
          rw [vx_u_k (by omega)]
          unfold vx_cp
          rw [if_neg (by omega)]
          exact a2
        refine ⟨_, c_uneven e11 (by omega), fun r9 g9 h => ?_⟩
        obtain ⟨rfl, rfl⟩ := h
        rw [ef]
        refine ⟨?_, h1.take (PL_ok (clo_in x a1)) a7, fun a b y => ?_⟩
        · show (x.2.1 + 1000 * x.1) % 1000 = x.2.1
          omega
        · rw [vx_u_k (by omega)]
          unfold vx_cp
          rw [if_neg (by omega)]
          exact h2 a b y
    · rcases h3 with ⟨-, h3⟩ | ⟨h3, -⟩
      · have ef : f_take σ v = (-4, σ) := by
          unfold f_take
          rw [if_neg (by omega), if_neg (by omega), h3]
        rw [ef]
        exact ⟨rfl, h1, h2⟩
      · omega
  · refine ⟨_, c_seekLevel hR, fun r2 g2 h => ?_⟩
    obtain ⟨h1, h2, h3⟩ := h
    have e5 : g2 1 5 = (sL σ : Nat) := h1.2.1.2.1.2.1
    refine tX5_take_37 g2 _ _ ⟨fun c2 => ⟨⟨by omega, by omega⟩, ?_⟩, fun c2 => ?_⟩
    · rcases h3 with ⟨h3, -⟩ | ⟨-, x, a1, a2, a3, a4, a5⟩
      · exact absurd h3 c2
      · have ef : f_take σ v = (x.1, uHnd σ x.2) := by
          unfold f_take
          rw [if_neg (by omega), if_pos cv, a1]
        have e11 : (vx_u (vx_cp g2 35 39 0 0 (g2 1 5)) 0 6 1) 21 11 = x.1 := by
          rw [vx_u_k (by omega)]
          unfold vx_cp
          rw [if_neg (by omega)]
          exact a2
        refine ⟨_, c_uneven e11 (by omega), fun r9 g9 h => ?_⟩
        obtain ⟨rfl, rfl⟩ := h
        rw [ef]
        refine ⟨?_, h1.take (PL_ok (lev_in x a1)) a5, fun a b y => ?_⟩
        · show x.1 % 1000 = x.1
          omega
        · rw [vx_u_k (by omega)]
          unfold vx_cp
          rw [if_neg (by omega)]
          exact h2 a b y
    · rcases h3 with ⟨-, h3⟩ | ⟨h3, -⟩
      · have ef : f_take σ v = (-4, σ) := by
          unfold f_take
          rw [if_neg (by omega), if_pos cv, h3]
        rw [ef]
        exact ⟨rfl, h1, h2⟩
      · omega
  · have ef : f_take σ v = (-3, σ) := by
      unfold f_take
      rw [if_pos (by omega)]
    rw [ef]
    exact ⟨rfl, hR, fun _ _ _ => rfl⟩

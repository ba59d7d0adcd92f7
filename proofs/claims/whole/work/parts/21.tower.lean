theorem c_fill {l : Launch} {d : Nat} {sh : List vx_H} {kf nf : Nat} (hkf : sh[kf]? = some (.inr (.inl (false, nf)))) (hnf : nf < 1000) (g : vx_M) (v : Int) : vNv l mJ7_fill_53178 d [.inr (some kf), .inl v] sh g (fun g' => g' = vx_fill g kf nf v) := by
  refine kJ7_fill_53178 hkf hnf g v ?_
  have key : ∀ (k i : Nat), i + k = nf → ∀ g1, g1 = vx_fill g kf i v → vN l mJ7_fill_53178 d (vx_pv sh (fun g' => g' = vx_fill g kf nf v)) sh g1 5 [some (.inr (some (kf))), some (.inl v), some (.inl (i : Int)), some (.inl (nf : Int))] [] := by
    intro k
    induction k with
    | zero =>
      intro i hi g1 hg
      refine tJ7_fill_53178_5 hkf hnf g1 _ _ _ ⟨fun _ => ?_, fun c => ?_⟩
      · rw [hg, show i = nf by omega]
      · omega
    | succ k ih =>
      intro i hi g1 hg
      refine tJ7_fill_53178_5 hkf hnf g1 _ _ _ ⟨fun c => ?_, fun c => ⟨⟨by omega, by omega⟩, ⟨by omega, by omega⟩, ?_⟩⟩
      · omega
      · have h2 := ih (i + 1) (by omega) (vx_u g1 kf i v) (by
          rw [hg]
          funext a b
          unfold vx_u vx_fill
          by_cases ha : a = kf
          · by_cases hb : b = (i : Int)
            · simp [ha, hb]; omega
            · by_cases hc : 0 ≤ b ∧ b < (i : Int)
              · simp [ha, hb, hc]; omega
              · simp [ha, hb, hc]; omega
          · simp [ha])
        exact h2
  have h := key nf 0 (by omega) g (by
    funext a b
    unfold vx_fill
    by_cases ha : a = kf
    · simp [ha]; omega
    · simp [ha])
  exact h

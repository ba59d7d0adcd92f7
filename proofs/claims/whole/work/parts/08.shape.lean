def SH : List vx_H := [.inl (5, [some (some 1), some (some 13), some (some 20), some (some 21), some (some 36), some (some 39), none, none, none, none]), .inl (4, [some (some 2), some (some 3), some (some 4), some (some 5), none, none]), .inr (.inl (false, 4)), .inr (.inl (false, 4)), .inr (.inl (false, 7)), .inr (.inr [some 6, some 7, some 8, some 9, some 10, some 11, some 12]), .inr (.inl (false, 7)), .inr (.inl (false, 7)), .inr (.inl (false, 7)), .inr (.inl (false, 7)), .inr (.inl (false, 7)), .inr (.inl (false, 7)), .inr (.inl (false, 7)), .inl (1, [some (some 14), some (some 15), some (some 16), some (some 17), some (some 18), some (some 19), none]), .inr (.inl (false, 8)), .inr (.inl (false, 8)), .inr (.inl (false, 8)), .inr (.inl (false, 8)), .inr (.inl (false, 8)), .inr (.inl (true, 8)), .inl (2, [some (some 1), some (some 13), none]), .inl (3, [some (some 1), some (some 13), some (some 20), some (some 22), some (some 23), some (some 32), some (some 33), some (some 34), some (some 35), none, none, none, none]), .inr (.inl (false, 7)), .inr (.inr [some 24, some 25, some 26, some 27, some 28, some 29, some 30, some 31]), .inr (.inl (false, 7)), .inr (.inl (false, 7)), .inr (.inl (false, 7)), .inr (.inl (false, 7)), .inr (.inl (false, 7)), .inr (.inl (false, 7)), .inr (.inl (false, 7)), .inr (.inl (false, 7)), .inr (.inl (false, 7)), .inr (.inl (true, 8)), .inr (.inl (false, 7)), .inr (.inl (false, 7)), .inl (0, [some (some 1), some (some 13), some (some 20), some (some 37), some (some 38), none, none]), .inr (.inl (false, 7)), .inr (.inl (false, 7)), .inr (.inl (false, 7)), .inl (6, [none, some (some 41), none, some (some 42), some (some 43), some (some 44), some (some 45), some (some 46), some (some 47), none, none, some (some 48), some (some 49), some (some 50), none, some (some 51), some (some 52), some (some 53), none, none, some (some 54), none, none, some (some 55), some (some 56), some (some 57), some (some 58), none, none, none, none, none]), .inr (.inl (false, 4)), .inr (.inl (false, 8)), .inr (.inl (false, 8)), .inr (.inl (false, 8)), .inr (.inl (false, 8)), .inr (.inl (false, 8)), .inr (.inl (true, 8)), .inr (.inl (false, 12)), .inr (.inl (false, 12)), .inr (.inl (false, 12)), .inr (.inl (false, 12)), .inr (.inl (false, 12)), .inr (.inl (false, 12)), .inr (.inl (false, 12)), .inr (.inl (false, 12)), .inr (.inl (false, 12)), .inr (.inl (false, 12)), .inr (.inl (false, 12))]
theorem s_0 : SH[0]? = some (.inl (5, [some (some 1), some (some 13), some (some 20), some (some 21), some (some 36), some (some 39), none, none, none, none])) := rfl
theorem s_1 : SH[1]? = some (.inl (4, [some (some 2), some (some 3), some (some 4), some (some 5), none, none])) := rfl
theorem s_2 : SH[2]? = some (.inr (.inl (false, 4))) := rfl
theorem s_3 : SH[3]? = some (.inr (.inl (false, 4))) := rfl
theorem s_4 : SH[4]? = some (.inr (.inl (false, 7))) := rfl
theorem s_5 : SH[5]? = some (.inr (.inr [some 6, some 7, some 8, some 9, some 10, some 11, some 12])) := rfl
theorem s_6 : SH[6]? = some (.inr (.inl (false, 7))) := rfl
theorem s_7 : SH[7]? = some (.inr (.inl (false, 7))) := rfl
theorem s_8 : SH[8]? = some (.inr (.inl (false, 7))) := rfl
theorem s_9 : SH[9]? = some (.inr (.inl (false, 7))) := rfl
theorem s_10 : SH[10]? = some (.inr (.inl (false, 7))) := rfl
theorem s_11 : SH[11]? = some (.inr (.inl (false, 7))) := rfl
theorem s_12 : SH[12]? = some (.inr (.inl (false, 7))) := rfl
theorem s_13 : SH[13]? = some (.inl (1, [some (some 14), some (some 15), some (some 16), some (some 17), some (some 18), some (some 19), none])) := rfl
theorem s_14 : SH[14]? = some (.inr (.inl (false, 8))) := rfl
theorem s_15 : SH[15]? = some (.inr (.inl (false, 8))) := rfl
theorem s_16 : SH[16]? = some (.inr (.inl (false, 8))) := rfl
theorem s_17 : SH[17]? = some (.inr (.inl (false, 8))) := rfl
theorem s_18 : SH[18]? = some (.inr (.inl (false, 8))) := rfl
theorem s_19 : SH[19]? = some (.inr (.inl (true, 8))) := rfl
theorem s_20 : SH[20]? = some (.inl (2, [some (some 1), some (some 13), none])) := rfl
theorem s_21 : SH[21]? = some (.inl (3, [some (some 1), some (some 13), some (some 20), some (some 22), some (some 23), some (some 32), some (some 33), some (some 34), some (some 35), none, none, none, none])) := rfl
theorem s_22 : SH[22]? = some (.inr (.inl (false, 7))) := rfl
theorem s_23 : SH[23]? = some (.inr (.inr [some 24, some 25, some 26, some 27, some 28, some 29, some 30, some 31])) := rfl
theorem s_24 : SH[24]? = some (.inr (.inl (false, 7))) := rfl
theorem s_25 : SH[25]? = some (.inr (.inl (false, 7))) := rfl
theorem s_26 : SH[26]? = some (.inr (.inl (false, 7))) := rfl
theorem s_27 : SH[27]? = some (.inr (.inl (false, 7))) := rfl
theorem s_28 : SH[28]? = some (.inr (.inl (false, 7))) := rfl
theorem s_29 : SH[29]? = some (.inr (.inl (false, 7))) := rfl
theorem s_30 : SH[30]? = some (.inr (.inl (false, 7))) := rfl
theorem s_31 : SH[31]? = some (.inr (.inl (false, 7))) := rfl
theorem s_32 : SH[32]? = some (.inr (.inl (false, 7))) := rfl
theorem s_33 : SH[33]? = some (.inr (.inl (true, 8))) := rfl
theorem s_34 : SH[34]? = some (.inr (.inl (false, 7))) := rfl
theorem s_35 : SH[35]? = some (.inr (.inl (false, 7))) := rfl
theorem s_36 : SH[36]? = some (.inl (0, [some (some 1), some (some 13), some (some 20), some (some 37), some (some 38), none, none])) := rfl
theorem s_37 : SH[37]? = some (.inr (.inl (false, 7))) := rfl
theorem s_38 : SH[38]? = some (.inr (.inl (false, 7))) := rfl
theorem s_39 : SH[39]? = some (.inr (.inl (false, 7))) := rfl
theorem s_40 : SH[40]? = some (.inl (6, [none, some (some 41), none, some (some 42), some (some 43), some (some 44), some (some 45), some (some 46), some (some 47), none, none, some (some 48), some (some 49), some (some 50), none, some (some 51), some (some 52), some (some 53), none, none, some (some 54), none, none, some (some 55), some (some 56), some (some 57), some (some 58), none, none, none, none, none])) := rfl
theorem s_41 : SH[41]? = some (.inr (.inl (false, 4))) := rfl
theorem s_42 : SH[42]? = some (.inr (.inl (false, 8))) := rfl
theorem s_43 : SH[43]? = some (.inr (.inl (false, 8))) := rfl
theorem s_44 : SH[44]? = some (.inr (.inl (false, 8))) := rfl
theorem s_45 : SH[45]? = some (.inr (.inl (false, 8))) := rfl
theorem s_46 : SH[46]? = some (.inr (.inl (false, 8))) := rfl
theorem s_47 : SH[47]? = some (.inr (.inl (true, 8))) := rfl
theorem s_48 : SH[48]? = some (.inr (.inl (false, 12))) := rfl
theorem s_49 : SH[49]? = some (.inr (.inl (false, 12))) := rfl
theorem s_50 : SH[50]? = some (.inr (.inl (false, 12))) := rfl
theorem s_51 : SH[51]? = some (.inr (.inl (false, 12))) := rfl
theorem s_52 : SH[52]? = some (.inr (.inl (false, 12))) := rfl
theorem s_53 : SH[53]? = some (.inr (.inl (false, 12))) := rfl
theorem s_54 : SH[54]? = some (.inr (.inl (false, 12))) := rfl
theorem s_55 : SH[55]? = some (.inr (.inl (false, 12))) := rfl
theorem s_56 : SH[56]? = some (.inr (.inl (false, 12))) := rfl
theorem s_57 : SH[57]? = some (.inr (.inl (false, 12))) := rfl
theorem s_58 : SH[58]? = some (.inr (.inl (false, 12))) := rfl
theorem s_sr (j : Nat) (h : j < 7) : SH[6 + j]? = some (.inr (.inl (false, 7))) := by
  match j, h with
  | 0, _ => exact s_6
  | 1, _ => exact s_7
  | 2, _ => exact s_8
  | 3, _ => exact s_9
  | 4, _ => exact s_10
  | 5, _ => exact s_11
  | 6, _ => exact s_12
theorem s_lr (j : Nat) (h : j < 8) : SH[24 + j]? = some (.inr (.inl (false, 7))) := by
  match j, h with
  | 0, _ => exact s_24
  | 1, _ => exact s_25
  | 2, _ => exact s_26
  | 3, _ => exact s_27
  | 4, _ => exact s_28
  | 5, _ => exact s_29
  | 6, _ => exact s_30
  | 7, _ => exact s_31
theorem ra_5 (j : Nat) (h : j < 7) : ([some 6, some 7, some 8, some 9, some 10, some 11, some 12] : List (Option Nat))[j]? = some (some (6 + j)) := by
  match j, h with
  | 0, _ => rfl
  | 1, _ => rfl
  | 2, _ => rfl
  | 3, _ => rfl
  | 4, _ => rfl
  | 5, _ => rfl
  | 6, _ => rfl
theorem ra_23 (j : Nat) (h : j < 8) : ([some 24, some 25, some 26, some 27, some 28, some 29, some 30, some 31] : List (Option Nat))[j]? = some (some (24 + j)) := by
  match j, h with
  | 0, _ => rfl
  | 1, _ => rfl
  | 2, _ => rfl
  | 3, _ => rfl
  | 4, _ => rfl
  | 5, _ => rfl
  | 6, _ => rfl
  | 7, _ => rfl
/-- the tower's own cells are there -/
def vx_TW (sh : List vx_H) : Prop := sh[1]? = some (.inl (4, [some (some 2), some (some 3), some (some 4), some (some 5), none, none])) ∧ sh[2]? = some (.inr (.inl (false, 4))) ∧ sh[3]? = some (.inr (.inl (false, 4))) ∧ sh[4]? = some (.inr (.inl (false, 7))) ∧ sh[5]? = some (.inr (.inr [some 6, some 7, some 8, some 9, some 10, some 11, some 12])) ∧ ∀ j, j < 7 → sh[6 + j]? = some (.inr (.inl (false, 7)))
theorem tw_SH : vx_TW SH := ⟨s_1, s_2, s_3, s_4, s_5, s_sr⟩
abbrev vx_all : Nat → Prop := fun _ => True
def vx_pi (sh : List vx_H) (Q : Int → vx_M → Prop) : vx_P := fun r sh' g' => sh' = sh ∧ ∃ z, r = some z ∧ Q z g'
def vx_pv (sh : List vx_H) (Q : vx_M → Prop) : vx_P := fun r sh' g' => sh' = sh ∧ r = none ∧ Q g'
abbrev vNi (l : Launch) (M : vx_Me) (d : Nat) (av : List vx_V) (sh : List vx_H) (g : vx_M) (Q : Int → vx_M → Prop) : Prop := vx_Ci l M (vx_rm d 0 0) vx_all 0 0 av sh g (vx_pi sh Q)
abbrev vNv (l : Launch) (M : vx_Me) (d : Nat) (av : List vx_V) (sh : List vx_H) (g : vx_M) (Q : vx_M → Prop) : Prop := vx_Cv l M (vx_rm d 0 0) vx_all 0 0 av sh g (vx_pv sh Q)
abbrev vN (l : Launch) (M : vx_Me) (d : Nat) (P : vx_P) (sh : List vx_H) (g : vx_M) (pc : Nat) (L : List (Option vx_V)) (st : List vx_V) : Prop := vJ l M (vx_rm d 0 0) vx_all P 0 0 0 0 sh g pc L st
theorem vNi_of {l : Launch} {M : vx_Me} {d : Nat} {av : List vx_V} {sh : List vx_H} {g : vx_M} {Q : Int → vx_M → Prop} (L : List (Option vx_V)) (hy : plainName M.1.cls = true) (hlen : av.length ≤ M.2.2.1) (hL : av.map some ++ List.replicate (M.2.2.1 - av.length) none = L) (h : vN l M d (vx_pi sh Q) sh g 0 L []) : vNi l M d av sh g Q :=
  vx_Ci.of L hy hlen hL (fun sh' g' q => by obtain ⟨_, z, hz, _⟩ := q; cases hz) h
theorem vNv_of {l : Launch} {M : vx_Me} {d : Nat} {av : List vx_V} {sh : List vx_H} {g : vx_M} {Q : vx_M → Prop} (L : List (Option vx_V)) (hy : plainName M.1.cls = true) (hlen : av.length ≤ M.2.2.1) (hL : av.map some ++ List.replicate (M.2.2.1 - av.length) none = L) (h : vN l M d (vx_pv sh Q) sh g 0 L []) : vNv l M d av sh g Q :=
  vx_Cv.of L hy hlen hL (fun z sh' g' q => by obtain ⟨_, hz, _⟩ := q; cases hz) h

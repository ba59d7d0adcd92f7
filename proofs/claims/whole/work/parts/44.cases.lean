section LAWC
variable {p : Program} {l : Launch} {e : Env} {s : State} {m : MethodId} {below : List Frame} {meth : Method} {c : Code} {b L : Nat} {xs : Nat → Int32} {D : va_G} {cs : vx_Cs} {ad : Nat → Nat} {g : vx_M} {H : Heap} {locs : List Loc} {ls : Array Slot} {j : Nat} {σ : SG}
set_option maxHeartbeats 4000000 in
theorem law_storeys (C : lwC p s m meth c b L xs D cs) (w : lwW s D cs ad g H locs) (hl : lwL b ad j ls) (hj : j + 6 ≤ L) (hR : RC σ g) (hR2 : RM σ g) (hT : sT σ + 1000 ≤ 1000000) (kk : ∀ (g' : vx_M) (H' : Heap) (locs' : List Loc) (σ' : SG), lwW s D cs ad g' H' locs' → RC σ' g' → RM σ' g' → sT σ' ≤ sT σ + 1000 → W p l e room_1 s m #[Value.ref b] below meth c H' locs' 600000 7302250 (lw_Z below #[Value.ref b] s) (F0 m 590 ls [])) : W p l e room_1 s m #[Value.ref b] below meth c H locs 600000 7302250 (lw_Z below #[Value.ref b] s) (F0 m 120 ls []) := by
  have hx := C.1.1
  have hb := C.1.2.1
  refine lv_aload_n hx hb dL_law_120 rfl (lv_at hl 1 rfl) ?_
  refine law_arg C w hl hj 1 (by decide) rfl dL_law_121 dL_law_122 dL_law_123 dL_law_124 dL_law_125 ?_
  refine law_call C w hl [.inl ((xs (j + 1)).toInt)] 0 [] dL_law_126 mc_L_13 dn_X5_storeys rfl s_0 rfl (Nat.le_of_ble_eq_true rfl) (Nat.le_of_ble_eq_true rfl) (x_storeys hR ((xs (j + 1)).toInt)) (vx_sR_i (law_in _) (fun _ h => by cases h)) rfl (fun r1 g1 H1 locs1 q1 w1 => ?_)
  refine lv_aload_n hx hb dL_law_129 rfl (lv_at hl 2 rfl) ?_
  refine law_arg C w1 hl hj 1 (by decide) rfl dL_law_130 dL_law_131 dL_law_132 dL_law_133 dL_law_134 ?_
  refine law_call C w1 hl [.inl ((xs (j + 1)).toInt)] 40 [.int (Int32.ofInt r1)] dL_law_135 mc_L_17 dn_X6_storeys rfl s_40 rfl (Nat.le_of_ble_eq_true rfl) (Nat.le_of_ble_eq_true rfl) (y_storeys (hR2.keep q1.2.2) ((xs (j + 1)).toInt)) (vx_sR_i (law_in _) (fun _ h => by cases h)) rfl (fun r2 g2 H2 locs2 q2 w2 => ?_)
  refine lv_icmp_eq (tgt := 590) hx hb dL_law_138 (by decide) (fun _ => ?_) (fun q => absurd (by rw [q1.1, q2.1]) q)
  exact kk g2 H2 locs2 _ w2 (q1.2.1.keep q2.2.2) q2.2.1 st_storeys
set_option maxHeartbeats 4000000 in
theorem law_width (C : lwC p s m meth c b L xs D cs) (w : lwW s D cs ad g H locs) (hl : lwL b ad j ls) (hj : j + 6 ≤ L) (hR : RC σ g) (hR2 : RM σ g) (hT : sT σ + 1000 ≤ 1000000) (kk : ∀ (g' : vx_M) (H' : Heap) (locs' : List Loc) (σ' : SG), lwW s D cs ad g' H' locs' → RC σ' g' → RM σ' g' → sT σ' ≤ sT σ + 1000 → W p l e room_1 s m #[Value.ref b] below meth c H' locs' 600000 7302250 (lw_Z below #[Value.ref b] s) (F0 m 590 ls [])) : W p l e room_1 s m #[Value.ref b] below meth c H locs 600000 7302250 (lw_Z below #[Value.ref b] s) (F0 m 143 ls []) := by
  have hx := C.1.1
  have hb := C.1.2.1
  refine lv_aload_n hx hb dL_law_143 rfl (lv_at hl 1 rfl) ?_
  refine law_arg C w hl hj 1 (by decide) rfl dL_law_144 dL_law_145 dL_law_146 dL_law_147 dL_law_148 ?_
  refine law_arg C w hl hj 2 (by decide) rfl dL_law_149 dL_law_150 dL_law_151 dL_law_152 dL_law_153 ?_
  refine law_call C w hl [.inl ((xs (j + 1)).toInt), .inl ((xs (j + 2)).toInt)] 0 [] dL_law_154 mc_L_18 dn_X5_width rfl s_0 rfl (Nat.le_of_ble_eq_true rfl) (Nat.le_of_ble_eq_true rfl) (x_width hR ((xs (j + 1)).toInt) ((xs (j + 2)).toInt)) (vx_sR_i (law_in _) (vx_sR_i (law_in _) (fun _ h => by cases h))) rfl (fun r1 g1 H1 locs1 q1 w1 => ?_)
  refine lv_aload_n hx hb dL_law_157 rfl (lv_at hl 2 rfl) ?_
  refine law_arg C w1 hl hj 1 (by decide) rfl dL_law_158 dL_law_159 dL_law_160 dL_law_161 dL_law_162 ?_
  refine law_arg C w1 hl hj 2 (by decide) rfl dL_law_163 dL_law_164 dL_law_165 dL_law_166 dL_law_167 ?_
  refine law_call C w1 hl [.inl ((xs (j + 1)).toInt), .inl ((xs (j + 2)).toInt)] 40 [.int (Int32.ofInt r1)] dL_law_168 mc_L_22 dn_X6_width rfl s_40 rfl (Nat.le_of_ble_eq_true rfl) (Nat.le_of_ble_eq_true rfl) (y_width (hR2.keep q1.2.2) ((xs (j + 1)).toInt) ((xs (j + 2)).toInt)) (vx_sR_i (law_in _) (vx_sR_i (law_in _) (fun _ h => by cases h))) rfl (fun r2 g2 H2 locs2 q2 w2 => ?_)
  refine lv_icmp_eq (tgt := 590) hx hb dL_law_171 (by decide) (fun _ => ?_) (fun q => absurd (by rw [q1.1, q2.1]) q)
  exact kk g2 H2 locs2 _ w2 (q1.2.1.keep q2.2.2) q2.2.1 st_width
set_option maxHeartbeats 4000000 in
theorem law_person (C : lwC p s m meth c b L xs D cs) (w : lwW s D cs ad g H locs) (hl : lwL b ad j ls) (hj : j + 6 ≤ L) (hR : RC σ g) (hR2 : RM σ g) (hT : sT σ + 1000 ≤ 1000000) (kk : ∀ (g' : vx_M) (H' : Heap) (locs' : List Loc) (σ' : SG), lwW s D cs ad g' H' locs' → RC σ' g' → RM σ' g' → sT σ' ≤ sT σ + 1000 → W p l e room_1 s m #[Value.ref b] below meth c H' locs' 600000 7302250 (lw_Z below #[Value.ref b] s) (F0 m 590 ls [])) : W p l e room_1 s m #[Value.ref b] below meth c H locs 600000 7302250 (lw_Z below #[Value.ref b] s) (F0 m 176 ls []) := by
  have hx := C.1.1
  have hb := C.1.2.1
  refine lv_aload_n hx hb dL_law_176 rfl (lv_at hl 1 rfl) ?_
  refine law_arg C w hl hj 1 (by decide) rfl dL_law_177 dL_law_178 dL_law_179 dL_law_180 dL_law_181 ?_
  refine law_arg C w hl hj 2 (by decide) rfl dL_law_182 dL_law_183 dL_law_184 dL_law_185 dL_law_186 ?_
  refine law_arg C w hl hj 3 (by decide) rfl dL_law_187 dL_law_188 dL_law_189 dL_law_190 dL_law_191 ?_
  refine law_arg C w hl hj 4 (by decide) rfl dL_law_192 dL_law_193 dL_law_194 dL_law_195 dL_law_196 ?_
  refine law_arg C w hl hj 5 (by decide) rfl dL_law_197 dL_law_198 dL_law_199 dL_law_200 dL_law_201 ?_
  refine law_call C w hl [.inl ((xs (j + 1)).toInt), .inl ((xs (j + 2)).toInt), .inl ((xs (j + 3)).toInt), .inl ((xs (j + 4)).toInt), .inl ((xs (j + 5)).toInt)] 0 [] dL_law_202 mc_L_23 dn_X5_person rfl s_0 rfl (Nat.le_of_ble_eq_true rfl) (Nat.le_of_ble_eq_true rfl) (x_person hR ((xs (j + 1)).toInt) ((xs (j + 2)).toInt) ((xs (j + 3)).toInt) ((xs (j + 4)).toInt) ((xs (j + 5)).toInt)) (vx_sR_i (law_in _) (vx_sR_i (law_in _) (vx_sR_i (law_in _) (vx_sR_i (law_in _) (vx_sR_i (law_in _) (fun _ h => by cases h)))))) rfl (fun r1 g1 H1 locs1 q1 w1 => ?_)
  refine lv_aload_n hx hb dL_law_205 rfl (lv_at hl 2 rfl) ?_
  refine law_arg C w1 hl hj 1 (by decide) rfl dL_law_206 dL_law_207 dL_law_208 dL_law_209 dL_law_210 ?_
  refine law_arg C w1 hl hj 2 (by decide) rfl dL_law_211 dL_law_212 dL_law_213 dL_law_214 dL_law_215 ?_
  refine law_arg C w1 hl hj 3 (by decide) rfl dL_law_216 dL_law_217 dL_law_218 dL_law_219 dL_law_220 ?_
  refine law_arg C w1 hl hj 4 (by decide) rfl dL_law_221 dL_law_222 dL_law_223 dL_law_224 dL_law_225 ?_
  refine law_arg C w1 hl hj 5 (by decide) rfl dL_law_226 dL_law_227 dL_law_228 dL_law_229 dL_law_230 ?_
  refine law_call C w1 hl [.inl ((xs (j + 1)).toInt), .inl ((xs (j + 2)).toInt), .inl ((xs (j + 3)).toInt), .inl ((xs (j + 4)).toInt), .inl ((xs (j + 5)).toInt)] 40 [.int (Int32.ofInt r1)] dL_law_231 mc_L_27 dn_X6_person rfl s_40 rfl (Nat.le_of_ble_eq_true rfl) (Nat.le_of_ble_eq_true rfl) (y_person (hR2.keep q1.2.2) ((xs (j + 1)).toInt) ((xs (j + 2)).toInt) ((xs (j + 3)).toInt) ((xs (j + 4)).toInt) ((xs (j + 5)).toInt)) (vx_sR_i (law_in _) (vx_sR_i (law_in _) (vx_sR_i (law_in _) (vx_sR_i (law_in _) (vx_sR_i (law_in _) (fun _ h => by cases h)))))) rfl (fun r2 g2 H2 locs2 q2 w2 => ?_)
  refine lv_icmp_eq (tgt := 590) hx hb dL_law_234 (by decide) (fun _ => ?_) (fun q => absurd (by rw [q1.1, q2.1]) q)
  exact kk g2 H2 locs2 _ w2 (q1.2.1.keep q2.2.2) q2.2.1 st_person
set_option maxHeartbeats 4000000 in
theorem law_out (C : lwC p s m meth c b L xs D cs) (w : lwW s D cs ad g H locs) (hl : lwL b ad j ls) (hj : j + 6 ≤ L) (hR : RC σ g) (hR2 : RM σ g) (hT : sT σ + 1000 ≤ 1000000) (kk : ∀ (g' : vx_M) (H' : Heap) (locs' : List Loc) (σ' : SG), lwW s D cs ad g' H' locs' → RC σ' g' → RM σ' g' → sT σ' ≤ sT σ + 1000 → W p l e room_1 s m #[Value.ref b] below meth c H' locs' 600000 7302250 (lw_Z below #[Value.ref b] s) (F0 m 590 ls [])) : W p l e room_1 s m #[Value.ref b] below meth c H locs 600000 7302250 (lw_Z below #[Value.ref b] s) (F0 m 239 ls []) := by
  have hx := C.1.1
  have hb := C.1.2.1
  by_cases h01 : Int32.ofInt (xs (j + 2)).toInt = 0
  · refine lv_aload_n hx hb dL_law_239 rfl (lv_at hl 1 rfl) ?_
    refine law_arg C w hl hj 1 (by decide) rfl dL_law_240 dL_law_241 dL_law_242 dL_law_243 dL_law_244 ?_
    refine law_arg C w hl hj 2 (by decide) rfl dL_law_245 dL_law_246 dL_law_247 dL_law_248 dL_law_249 ?_
    refine lv_if_eq (tgt := 257) hx hb dL_law_250 (by decide) (fun _ => ?_) (fun q => absurd h01 q)
    refine lv_iconst (v := Int32.ofInt 0) hx hb dL_law_257 rfl ?_
    refine law_call C w hl [.inl ((xs (j + 1)).toInt), .inl 0] 0 [] dL_law_258 mc_L_28 dn_X5_out rfl s_0 rfl (Nat.le_of_ble_eq_true rfl) (Nat.le_of_ble_eq_true rfl) (x_out hR ((xs (j + 1)).toInt) 0 (by decide)) (vx_sR_i (law_in _) (vx_sR_i vx_in0 (fun _ h => by cases h))) rfl (fun r1 g1 H1 locs1 q1 w1 => ?_)
    refine lv_aload_n hx hb dL_law_261 rfl (lv_at hl 2 rfl) ?_
    refine law_arg C w1 hl hj 1 (by decide) rfl dL_law_262 dL_law_263 dL_law_264 dL_law_265 dL_law_266 ?_
    refine law_arg C w1 hl hj 2 (by decide) rfl dL_law_267 dL_law_268 dL_law_269 dL_law_270 dL_law_271 ?_
    refine lv_if_eq (tgt := 279) hx hb dL_law_272 (by decide) (fun _ => ?_) (fun q => absurd h01 q)
    refine lv_iconst (v := Int32.ofInt 0) hx hb dL_law_279 rfl ?_
    refine law_call C w1 hl [.inl ((xs (j + 1)).toInt), .inl 0] 40 [.int (Int32.ofInt r1)] dL_law_280 mc_L_32 dn_X6_out rfl s_40 rfl (Nat.le_of_ble_eq_true rfl) (Nat.le_of_ble_eq_true rfl) (y_out (hR2.keep q1.2.2) ((xs (j + 1)).toInt) 0 (by decide)) (vx_sR_i (law_in _) (vx_sR_i vx_in0 (fun _ h => by cases h))) rfl (fun r2 g2 H2 locs2 q2 w2 => ?_)
    refine lv_icmp_eq (tgt := 590) hx hb dL_law_283 (by decide) (fun _ => ?_) (fun q => absurd (by rw [q1.1, q2.1]) q)
    exact kk g2 H2 locs2 _ w2 (q1.2.1.keep q2.2.2) q2.2.1 st_out
  · refine lv_aload_n hx hb dL_law_239 rfl (lv_at hl 1 rfl) ?_
    refine law_arg C w hl hj 1 (by decide) rfl dL_law_240 dL_law_241 dL_law_242 dL_law_243 dL_law_244 ?_
    refine law_arg C w hl hj 2 (by decide) rfl dL_law_245 dL_law_246 dL_law_247 dL_law_248 dL_law_249 ?_
    refine lv_if_eq (tgt := 257) hx hb dL_law_250 (by decide) (fun q => absurd q h01) (fun _ => ?_)
    refine lv_iconst (v := Int32.ofInt 1) hx hb dL_law_253 rfl ?_
    refine lv_goto (tgt := 258) hx hb dL_law_254 (by decide) ?_
    refine law_call C w hl [.inl ((xs (j + 1)).toInt), .inl 1] 0 [] dL_law_258 mc_L_28 dn_X5_out rfl s_0 rfl (Nat.le_of_ble_eq_true rfl) (Nat.le_of_ble_eq_true rfl) (x_out hR ((xs (j + 1)).toInt) 1 (by decide)) (vx_sR_i (law_in _) (vx_sR_i ⟨by decide, by decide⟩ (fun _ h => by cases h))) rfl (fun r1 g1 H1 locs1 q1 w1 => ?_)
    refine lv_aload_n hx hb dL_law_261 rfl (lv_at hl 2 rfl) ?_
    refine law_arg C w1 hl hj 1 (by decide) rfl dL_law_262 dL_law_263 dL_law_264 dL_law_265 dL_law_266 ?_
    refine law_arg C w1 hl hj 2 (by decide) rfl dL_law_267 dL_law_268 dL_law_269 dL_law_270 dL_law_271 ?_
    refine lv_if_eq (tgt := 279) hx hb dL_law_272 (by decide) (fun q => absurd q h01) (fun _ => ?_)
    refine lv_iconst (v := Int32.ofInt 1) hx hb dL_law_275 rfl ?_
    refine lv_goto (tgt := 280) hx hb dL_law_276 (by decide) ?_
    refine law_call C w1 hl [.inl ((xs (j + 1)).toInt), .inl 1] 40 [.int (Int32.ofInt r1)] dL_law_280 mc_L_32 dn_X6_out rfl s_40 rfl (Nat.le_of_ble_eq_true rfl) (Nat.le_of_ble_eq_true rfl) (y_out (hR2.keep q1.2.2) ((xs (j + 1)).toInt) 1 (by decide)) (vx_sR_i (law_in _) (vx_sR_i ⟨by decide, by decide⟩ (fun _ h => by cases h))) rfl (fun r2 g2 H2 locs2 q2 w2 => ?_)
    refine lv_icmp_eq (tgt := 590) hx hb dL_law_283 (by decide) (fun _ => ?_) (fun q => absurd (by rw [q1.1, q2.1]) q)
    exact kk g2 H2 locs2 _ w2 (q1.2.1.keep q2.2.2) q2.2.1 st_out
set_option maxHeartbeats 4000000 in
theorem law_play (C : lwC p s m meth c b L xs D cs) (w : lwW s D cs ad g H locs) (hl : lwL b ad j ls) (hj : j + 6 ≤ L) (hR : RC σ g) (hR2 : RM σ g) (hT : sT σ + 1000 ≤ 1000000) (kk : ∀ (g' : vx_M) (H' : Heap) (locs' : List Loc) (σ' : SG), lwW s D cs ad g' H' locs' → RC σ' g' → RM σ' g' → sT σ' ≤ sT σ + 1000 → W p l e room_1 s m #[Value.ref b] below meth c H' locs' 600000 7302250 (lw_Z below #[Value.ref b] s) (F0 m 590 ls [])) : W p l e room_1 s m #[Value.ref b] below meth c H locs 600000 7302250 (lw_Z below #[Value.ref b] s) (F0 m 288 ls []) := by
  have hx := C.1.1
  have hb := C.1.2.1
  refine lv_aload_n hx hb dL_law_288 rfl (lv_at hl 1 rfl) ?_
  refine law_arg C w hl hj 1 (by decide) rfl dL_law_289 dL_law_290 dL_law_291 dL_law_292 dL_law_293 ?_
  refine law_call C w hl [.inl ((xs (j + 1)).toInt)] 0 [] dL_law_294 mc_L_33 dn_X5_play rfl s_0 rfl (Nat.le_of_ble_eq_true rfl) (Nat.le_of_ble_eq_true rfl) (x_play hR ((xs (j + 1)).toInt)) (vx_sR_i (law_in _) (fun _ h => by cases h)) rfl (fun r1 g1 H1 locs1 q1 w1 => ?_)
  refine lv_aload_n hx hb dL_law_297 rfl (lv_at hl 2 rfl) ?_
  refine law_arg C w1 hl hj 1 (by decide) rfl dL_law_298 dL_law_299 dL_law_300 dL_law_301 dL_law_302 ?_
  refine law_call C w1 hl [.inl ((xs (j + 1)).toInt)] 40 [.int (Int32.ofInt r1)] dL_law_303 mc_L_36 dn_X6_play rfl s_40 rfl (Nat.le_of_ble_eq_true rfl) (Nat.le_of_ble_eq_true rfl) (y_play (hR2.keep q1.2.2) ((xs (j + 1)).toInt)) (vx_sR_i (law_in _) (fun _ h => by cases h)) rfl (fun r2 g2 H2 locs2 q2 w2 => ?_)
  refine lv_icmp_eq (tgt := 590) hx hb dL_law_306 (by decide) (fun _ => ?_) (fun q => absurd (by rw [q1.1, q2.1]) q)
  exact kk g2 H2 locs2 _ w2 (q1.2.1.keep q2.2.2) q2.2.1 st_play
set_option maxHeartbeats 4000000 in
theorem law_fits (C : lwC p s m meth c b L xs D cs) (w : lwW s D cs ad g H locs) (hl : lwL b ad j ls) (hj : j + 6 ≤ L) (hR : RC σ g) (hR2 : RM σ g) (hT : sT σ + 1000 ≤ 1000000) (kk : ∀ (g' : vx_M) (H' : Heap) (locs' : List Loc) (σ' : SG), lwW s D cs ad g' H' locs' → RC σ' g' → RM σ' g' → sT σ' ≤ sT σ + 1000 → W p l e room_1 s m #[Value.ref b] below meth c H' locs' 600000 7302250 (lw_Z below #[Value.ref b] s) (F0 m 590 ls [])) : W p l e room_1 s m #[Value.ref b] below meth c H locs 600000 7302250 (lw_Z below #[Value.ref b] s) (F0 m 311 ls []) := by
  have hx := C.1.1
  have hb := C.1.2.1
  refine lv_aload_n hx hb dL_law_311 rfl (lv_at hl 1 rfl) ?_
  refine law_call C w hl [] 0 [] dL_law_312 mc_L_37 dn_X5_fits rfl s_0 rfl (Nat.le_of_ble_eq_true rfl) (Nat.le_of_ble_eq_true rfl) (x_fits hR) (fun _ h => by cases h) rfl (fun r1 g1 H1 locs1 q1 w1 => ?_)
  refine lv_aload_n hx hb dL_law_315 rfl (lv_at hl 2 rfl) ?_
  refine law_call C w1 hl [] 40 [.int (Int32.ofInt r1)] dL_law_316 mc_L_41 dn_X6_fits rfl s_40 rfl (Nat.le_of_ble_eq_true rfl) (Nat.le_of_ble_eq_true rfl) (y_fits (hR2.keep q1.2.2)) (fun _ h => by cases h) rfl (fun r2 g2 H2 locs2 q2 w2 => ?_)
  refine lv_icmp_eq (tgt := 590) hx hb dL_law_319 (by decide) (fun _ => ?_) (fun q => absurd (by rw [q1.1, q2.1]) q)
  exact kk g2 H2 locs2 _ w2 (q1.2.1.keep q2.2.2) q2.2.1 st_fits
set_option maxHeartbeats 4000000 in
theorem law_level (C : lwC p s m meth c b L xs D cs) (w : lwW s D cs ad g H locs) (hl : lwL b ad j ls) (hj : j + 6 ≤ L) (hR : RC σ g) (hR2 : RM σ g) (hT : sT σ + 1000 ≤ 1000000) (kk : ∀ (g' : vx_M) (H' : Heap) (locs' : List Loc) (σ' : SG), lwW s D cs ad g' H' locs' → RC σ' g' → RM σ' g' → sT σ' ≤ sT σ + 1000 → W p l e room_1 s m #[Value.ref b] below meth c H' locs' 600000 7302250 (lw_Z below #[Value.ref b] s) (F0 m 590 ls [])) : W p l e room_1 s m #[Value.ref b] below meth c H locs 600000 7302250 (lw_Z below #[Value.ref b] s) (F0 m 324 ls []) := by
  have hx := C.1.1
  have hb := C.1.2.1
  refine lv_aload_n hx hb dL_law_324 rfl (lv_at hl 1 rfl) ?_
  refine law_call C w hl [] 0 [] dL_law_325 mc_L_42 dn_X5_level rfl s_0 rfl (Nat.le_of_ble_eq_true rfl) (Nat.le_of_ble_eq_true rfl) (x_level hR) (fun _ h => by cases h) rfl (fun r1 g1 H1 locs1 q1 w1 => ?_)
  refine lv_aload_n hx hb dL_law_328 rfl (lv_at hl 2 rfl) ?_
  refine law_call C w1 hl [] 40 [.int (Int32.ofInt r1)] dL_law_329 mc_L_45 dn_X6_level rfl s_40 rfl (Nat.le_of_ble_eq_true rfl) (Nat.le_of_ble_eq_true rfl) (y_level (hR2.keep q1.2.2)) (fun _ h => by cases h) rfl (fun r2 g2 H2 locs2 q2 w2 => ?_)
  refine lv_icmp_eq (tgt := 590) hx hb dL_law_332 (by decide) (fun _ => ?_) (fun q => absurd (by rw [q1.1, q2.1]) q)
  exact kk g2 H2 locs2 _ w2 (q1.2.1.keep q2.2.2) q2.2.1 st_level
set_option maxHeartbeats 4000000 in
theorem law_close (C : lwC p s m meth c b L xs D cs) (w : lwW s D cs ad g H locs) (hl : lwL b ad j ls) (hj : j + 6 ≤ L) (hR : RC σ g) (hR2 : RM σ g) (hT : sT σ + 1000 ≤ 1000000) (kk : ∀ (g' : vx_M) (H' : Heap) (locs' : List Loc) (σ' : SG), lwW s D cs ad g' H' locs' → RC σ' g' → RM σ' g' → sT σ' ≤ sT σ + 1000 → W p l e room_1 s m #[Value.ref b] below meth c H' locs' 600000 7302250 (lw_Z below #[Value.ref b] s) (F0 m 590 ls [])) : W p l e room_1 s m #[Value.ref b] below meth c H locs 600000 7302250 (lw_Z below #[Value.ref b] s) (F0 m 337 ls []) := by
  have hx := C.1.1
  have hb := C.1.2.1
  refine lv_aload_n hx hb dL_law_337 rfl (lv_at hl 1 rfl) ?_
  refine law_call C w hl [] 0 [] dL_law_338 mc_L_46 dn_X5_close rfl s_0 rfl (Nat.le_of_ble_eq_true rfl) (Nat.le_of_ble_eq_true rfl) (x_close hR) (fun _ h => by cases h) rfl (fun r1 g1 H1 locs1 q1 w1 => ?_)
  refine lv_aload_n hx hb dL_law_341 rfl (lv_at hl 2 rfl) ?_
  refine law_call C w1 hl [] 40 [.int (Int32.ofInt r1)] dL_law_342 mc_L_49 dn_X6_close rfl s_40 rfl (Nat.le_of_ble_eq_true rfl) (Nat.le_of_ble_eq_true rfl) (y_close (hR2.keep q1.2.2)) (fun _ h => by cases h) rfl (fun r2 g2 H2 locs2 q2 w2 => ?_)
  refine lv_icmp_eq (tgt := 590) hx hb dL_law_345 (by decide) (fun _ => ?_) (fun q => absurd (by rw [q1.1, q2.1]) q)
  exact kk g2 H2 locs2 _ w2 (q1.2.1.keep q2.2.2) q2.2.1 st_close
set_option maxHeartbeats 4000000 in
theorem law_take (C : lwC p s m meth c b L xs D cs) (w : lwW s D cs ad g H locs) (hl : lwL b ad j ls) (hj : j + 6 ≤ L) (hR : RC σ g) (hR2 : RM σ g) (hT : sT σ + 1000 ≤ 1000000) (kk : ∀ (g' : vx_M) (H' : Heap) (locs' : List Loc) (σ' : SG), lwW s D cs ad g' H' locs' → RC σ' g' → RM σ' g' → sT σ' ≤ sT σ + 1000 → W p l e room_1 s m #[Value.ref b] below meth c H' locs' 600000 7302250 (lw_Z below #[Value.ref b] s) (F0 m 590 ls [])) : W p l e room_1 s m #[Value.ref b] below meth c H locs 600000 7302250 (lw_Z below #[Value.ref b] s) (F0 m 350 ls []) := by
  have hx := C.1.1
  have hb := C.1.2.1
  refine lv_aload_n hx hb dL_law_350 rfl (lv_at hl 1 rfl) ?_
  refine law_arg C w hl hj 1 (by decide) rfl dL_law_351 dL_law_352 dL_law_353 dL_law_354 dL_law_355 ?_
  refine law_call C w hl [.inl ((xs (j + 1)).toInt)] 0 [] dL_law_356 mc_L_50 dn_X5_take rfl s_0 rfl (Nat.le_of_ble_eq_true rfl) (Nat.le_of_ble_eq_true rfl) (x_take hR ((xs (j + 1)).toInt)) (vx_sR_i (law_in _) (fun _ h => by cases h)) rfl (fun r1 g1 H1 locs1 q1 w1 => ?_)
  refine lv_aload_n hx hb dL_law_359 rfl (lv_at hl 2 rfl) ?_
  refine law_arg C w1 hl hj 1 (by decide) rfl dL_law_360 dL_law_361 dL_law_362 dL_law_363 dL_law_364 ?_
  refine law_call C w1 hl [.inl ((xs (j + 1)).toInt)] 40 [.int (Int32.ofInt r1)] dL_law_365 mc_L_53 dn_X6_take rfl s_40 rfl (Nat.le_of_ble_eq_true rfl) (Nat.le_of_ble_eq_true rfl) (y_take (hR2.keep q1.2.2) ((xs (j + 1)).toInt)) (vx_sR_i (law_in _) (fun _ h => by cases h)) rfl (fun r2 g2 H2 locs2 q2 w2 => ?_)
  refine lv_icmp_eq (tgt := 590) hx hb dL_law_368 (by decide) (fun _ => ?_) (fun q => absurd (by rw [q1.1, q2.1]) q)
  exact kk g2 H2 locs2 _ w2 (q1.2.1.keep q2.2.2) q2.2.1 st_take
set_option maxHeartbeats 4000000 in
theorem law_at (C : lwC p s m meth c b L xs D cs) (w : lwW s D cs ad g H locs) (hl : lwL b ad j ls) (hj : j + 6 ≤ L) (hR : RC σ g) (hR2 : RM σ g) (hT : sT σ + 1000 ≤ 1000000) (kk : ∀ (g' : vx_M) (H' : Heap) (locs' : List Loc) (σ' : SG), lwW s D cs ad g' H' locs' → RC σ' g' → RM σ' g' → sT σ' ≤ sT σ + 1000 → W p l e room_1 s m #[Value.ref b] below meth c H' locs' 600000 7302250 (lw_Z below #[Value.ref b] s) (F0 m 590 ls [])) : W p l e room_1 s m #[Value.ref b] below meth c H locs 600000 7302250 (lw_Z below #[Value.ref b] s) (F0 m 373 ls []) := by
  have hx := C.1.1
  have hb := C.1.2.1
  refine lv_aload_n hx hb dL_law_373 rfl (lv_at hl 1 rfl) ?_
  refine law_arg C w hl hj 1 (by decide) rfl dL_law_374 dL_law_375 dL_law_376 dL_law_377 dL_law_378 ?_
  refine law_call C w hl [.inl ((xs (j + 1)).toInt)] 0 [] dL_law_379 mc_L_54 dn_X5_at rfl s_0 rfl (Nat.le_of_ble_eq_true rfl) (Nat.le_of_ble_eq_true rfl) (x_at hR ((xs (j + 1)).toInt)) (vx_sR_i (law_in _) (fun _ h => by cases h)) rfl (fun r1 g1 H1 locs1 q1 w1 => ?_)
  refine lv_aload_n hx hb dL_law_382 rfl (lv_at hl 2 rfl) ?_
  refine law_arg C w1 hl hj 1 (by decide) rfl dL_law_383 dL_law_384 dL_law_385 dL_law_386 dL_law_387 ?_
  refine law_call C w1 hl [.inl ((xs (j + 1)).toInt)] 40 [.int (Int32.ofInt r1)] dL_law_388 mc_L_57 dn_X6_at rfl s_40 rfl (Nat.le_of_ble_eq_true rfl) (Nat.le_of_ble_eq_true rfl) (y_at (hR2.keep q1.2.2) ((xs (j + 1)).toInt)) (vx_sR_i (law_in _) (fun _ h => by cases h)) rfl (fun r2 g2 H2 locs2 q2 w2 => ?_)
  refine lv_icmp_eq (tgt := 590) hx hb dL_law_391 (by decide) (fun _ => ?_) (fun q => absurd (by rw [q1.1, q2.1]) q)
  exact kk g2 H2 locs2 _ w2 (q1.2.1.keep q2.2.2) q2.2.1 st_at
set_option maxHeartbeats 4000000 in
theorem law_load (C : lwC p s m meth c b L xs D cs) (w : lwW s D cs ad g H locs) (hl : lwL b ad j ls) (hj : j + 6 ≤ L) (hR : RC σ g) (hR2 : RM σ g) (hT : sT σ + 1000 ≤ 1000000) (kk : ∀ (g' : vx_M) (H' : Heap) (locs' : List Loc) (σ' : SG), lwW s D cs ad g' H' locs' → RC σ' g' → RM σ' g' → sT σ' ≤ sT σ + 1000 → W p l e room_1 s m #[Value.ref b] below meth c H' locs' 600000 7302250 (lw_Z below #[Value.ref b] s) (F0 m 590 ls [])) : W p l e room_1 s m #[Value.ref b] below meth c H locs 600000 7302250 (lw_Z below #[Value.ref b] s) (F0 m 396 ls []) := by
  have hx := C.1.1
  have hb := C.1.2.1
  refine lv_aload_n hx hb dL_law_396 rfl (lv_at hl 1 rfl) ?_
  refine law_arg C w hl hj 1 (by decide) rfl dL_law_397 dL_law_398 dL_law_399 dL_law_400 dL_law_401 ?_
  refine law_call C w hl [.inl ((xs (j + 1)).toInt)] 0 [] dL_law_402 mc_L_58 dn_X5_load rfl s_0 rfl (Nat.le_of_ble_eq_true rfl) (Nat.le_of_ble_eq_true rfl) (x_load hR ((xs (j + 1)).toInt)) (vx_sR_i (law_in _) (fun _ h => by cases h)) rfl (fun r1 g1 H1 locs1 q1 w1 => ?_)
  refine lv_aload_n hx hb dL_law_405 rfl (lv_at hl 2 rfl) ?_
  refine law_arg C w1 hl hj 1 (by decide) rfl dL_law_406 dL_law_407 dL_law_408 dL_law_409 dL_law_410 ?_
  refine law_call C w1 hl [.inl ((xs (j + 1)).toInt)] 40 [.int (Int32.ofInt r1)] dL_law_411 mc_L_61 dn_X6_load rfl s_40 rfl (Nat.le_of_ble_eq_true rfl) (Nat.le_of_ble_eq_true rfl) (y_load (hR2.keep q1.2.2) ((xs (j + 1)).toInt)) (vx_sR_i (law_in _) (fun _ h => by cases h)) rfl (fun r2 g2 H2 locs2 q2 w2 => ?_)
  refine lv_icmp_eq (tgt := 590) hx hb dL_law_414 (by decide) (fun _ => ?_) (fun q => absurd (by rw [q1.1, q2.1]) q)
  exact kk g2 H2 locs2 _ w2 (q1.2.1.keep q2.2.2) q2.2.1 st_load
set_option maxHeartbeats 4000000 in
theorem law_swap (C : lwC p s m meth c b L xs D cs) (w : lwW s D cs ad g H locs) (hl : lwL b ad j ls) (hj : j + 6 ≤ L) (hR : RC σ g) (hR2 : RM σ g) (hT : sT σ + 1000 ≤ 1000000) (kk : ∀ (g' : vx_M) (H' : Heap) (locs' : List Loc) (σ' : SG), lwW s D cs ad g' H' locs' → RC σ' g' → RM σ' g' → sT σ' ≤ sT σ + 1000 → W p l e room_1 s m #[Value.ref b] below meth c H' locs' 600000 7302250 (lw_Z below #[Value.ref b] s) (F0 m 590 ls [])) : W p l e room_1 s m #[Value.ref b] below meth c H locs 600000 7302250 (lw_Z below #[Value.ref b] s) (F0 m 419 ls []) := by
  have hx := C.1.1
  have hb := C.1.2.1
  refine lv_aload_n hx hb dL_law_419 rfl (lv_at hl 1 rfl) ?_
  refine law_arg C w hl hj 1 (by decide) rfl dL_law_420 dL_law_421 dL_law_422 dL_law_423 dL_law_424 ?_
  refine law_arg C w hl hj 2 (by decide) rfl dL_law_425 dL_law_426 dL_law_427 dL_law_428 dL_law_429 ?_
  refine law_call C w hl [.inl ((xs (j + 1)).toInt), .inl ((xs (j + 2)).toInt)] 0 [] dL_law_430 mc_L_62 dn_X5_swap rfl s_0 rfl (Nat.le_of_ble_eq_true rfl) (Nat.le_of_ble_eq_true rfl) (x_swap hR ((xs (j + 1)).toInt) ((xs (j + 2)).toInt)) (vx_sR_i (law_in _) (vx_sR_i (law_in _) (fun _ h => by cases h))) rfl (fun r1 g1 H1 locs1 q1 w1 => ?_)
  refine lv_aload_n hx hb dL_law_433 rfl (lv_at hl 2 rfl) ?_
  refine law_arg C w1 hl hj 1 (by decide) rfl dL_law_434 dL_law_435 dL_law_436 dL_law_437 dL_law_438 ?_
  refine law_arg C w1 hl hj 2 (by decide) rfl dL_law_439 dL_law_440 dL_law_441 dL_law_442 dL_law_443 ?_
  refine law_call C w1 hl [.inl ((xs (j + 1)).toInt), .inl ((xs (j + 2)).toInt)] 40 [.int (Int32.ofInt r1)] dL_law_444 mc_L_65 dn_X6_swap rfl s_40 rfl (Nat.le_of_ble_eq_true rfl) (Nat.le_of_ble_eq_true rfl) (y_swap (hR2.keep q1.2.2) ((xs (j + 1)).toInt) ((xs (j + 2)).toInt)) (vx_sR_i (law_in _) (vx_sR_i (law_in _) (fun _ h => by cases h))) rfl (fun r2 g2 H2 locs2 q2 w2 => ?_)
  refine lv_icmp_eq (tgt := 590) hx hb dL_law_447 (by decide) (fun _ => ?_) (fun q => absurd (by rw [q1.1, q2.1]) q)
  exact kk g2 H2 locs2 _ w2 (q1.2.1.keep q2.2.2) q2.2.1 st_swap
set_option maxHeartbeats 4000000 in
theorem law_tick (C : lwC p s m meth c b L xs D cs) (w : lwW s D cs ad g H locs) (hl : lwL b ad j ls) (hj : j + 6 ≤ L) (hR : RC σ g) (hR2 : RM σ g) (hT : sT σ + 1000 ≤ 1000000) (kk : ∀ (g' : vx_M) (H' : Heap) (locs' : List Loc) (σ' : SG), lwW s D cs ad g' H' locs' → RC σ' g' → RM σ' g' → sT σ' ≤ sT σ + 1000 → W p l e room_1 s m #[Value.ref b] below meth c H' locs' 600000 7302250 (lw_Z below #[Value.ref b] s) (F0 m 590 ls [])) : W p l e room_1 s m #[Value.ref b] below meth c H locs 600000 7302250 (lw_Z below #[Value.ref b] s) (F0 m 452 ls []) := by
  have hx := C.1.1
  have hb := C.1.2.1
  refine lv_aload_n hx hb dL_law_452 rfl (lv_at hl 1 rfl) ?_
  refine law_arg C w hl hj 1 (by decide) rfl dL_law_453 dL_law_454 dL_law_455 dL_law_456 dL_law_457 ?_
  refine law_call C w hl [.inl ((xs (j + 1)).toInt)] 0 [] dL_law_458 mc_L_66 dn_X5_tick rfl s_0 rfl (Nat.le_of_ble_eq_true rfl) (Nat.le_of_ble_eq_true rfl) (x_tick hR ((xs (j + 1)).toInt)) (vx_sR_i (law_in _) (fun _ h => by cases h)) rfl (fun r1 g1 H1 locs1 q1 w1 => ?_)
  refine lv_aload_n hx hb dL_law_461 rfl (lv_at hl 2 rfl) ?_
  refine law_arg C w1 hl hj 1 (by decide) rfl dL_law_462 dL_law_463 dL_law_464 dL_law_465 dL_law_466 ?_
  refine law_call C w1 hl [.inl ((xs (j + 1)).toInt)] 40 [.int (Int32.ofInt r1)] dL_law_467 mc_L_69 dn_X6_tick rfl s_40 rfl (Nat.le_of_ble_eq_true rfl) (Nat.le_of_ble_eq_true rfl) (y_tick (hR2.keep q1.2.2) ((xs (j + 1)).toInt)) (vx_sR_i (law_in _) (fun _ h => by cases h)) rfl (fun r2 g2 H2 locs2 q2 w2 => ?_)
  refine lv_icmp_eq (tgt := 590) hx hb dL_law_470 (by decide) (fun _ => ?_) (fun q => absurd (by rw [q1.1, q2.1]) q)
  exact kk g2 H2 locs2 _ w2 (q1.2.1.keep q2.2.2) q2.2.1 st_tick
set_option maxHeartbeats 4000000 in
theorem law_weak (C : lwC p s m meth c b L xs D cs) (w : lwW s D cs ad g H locs) (hl : lwL b ad j ls) (hj : j + 6 ≤ L) (hR : RC σ g) (hR2 : RM σ g) (hT : sT σ + 1000 ≤ 1000000) (kk : ∀ (g' : vx_M) (H' : Heap) (locs' : List Loc) (σ' : SG), lwW s D cs ad g' H' locs' → RC σ' g' → RM σ' g' → sT σ' ≤ sT σ + 1000 → W p l e room_1 s m #[Value.ref b] below meth c H' locs' 600000 7302250 (lw_Z below #[Value.ref b] s) (F0 m 590 ls [])) : W p l e room_1 s m #[Value.ref b] below meth c H locs 600000 7302250 (lw_Z below #[Value.ref b] s) (F0 m 475 ls []) := by
  have hx := C.1.1
  have hb := C.1.2.1
  refine lv_aload_n hx hb dL_law_475 rfl (lv_at hl 1 rfl) ?_
  refine law_call C w hl [] 0 [] dL_law_476 mc_L_70 dn_X5_weak rfl s_0 rfl (Nat.le_of_ble_eq_true rfl) (Nat.le_of_ble_eq_true rfl) (x_weak hR) (fun _ h => by cases h) rfl (fun r1 g1 H1 locs1 q1 w1 => ?_)
  refine lv_aload_n hx hb dL_law_479 rfl (lv_at hl 2 rfl) ?_
  refine law_call C w1 hl [] 40 [.int (Int32.ofInt r1)] dL_law_480 mc_L_73 dn_X6_weak rfl s_40 rfl (Nat.le_of_ble_eq_true rfl) (Nat.le_of_ble_eq_true rfl) (y_weak (hR2.keep q1.2.2)) (fun _ h => by cases h) rfl (fun r2 g2 H2 locs2 q2 w2 => ?_)
  refine lv_icmp_eq (tgt := 590) hx hb dL_law_483 (by decide) (fun _ => ?_) (fun q => absurd (by rw [q1.1, q2.1]) q)
  exact kk g2 H2 locs2 _ w2 (q1.2.1.keep q2.2.2) q2.2.1 st_weak
set_option maxHeartbeats 4000000 in
theorem law_effort (C : lwC p s m meth c b L xs D cs) (w : lwW s D cs ad g H locs) (hl : lwL b ad j ls) (hj : j + 6 ≤ L) (hR : RC σ g) (hR2 : RM σ g) (hT : sT σ + 1000 ≤ 1000000) (kk : ∀ (g' : vx_M) (H' : Heap) (locs' : List Loc) (σ' : SG), lwW s D cs ad g' H' locs' → RC σ' g' → RM σ' g' → sT σ' ≤ sT σ + 1000 → W p l e room_1 s m #[Value.ref b] below meth c H' locs' 600000 7302250 (lw_Z below #[Value.ref b] s) (F0 m 590 ls [])) : W p l e room_1 s m #[Value.ref b] below meth c H locs 600000 7302250 (lw_Z below #[Value.ref b] s) (F0 m 488 ls []) := by
  have hx := C.1.1
  have hb := C.1.2.1
  refine lv_aload_n hx hb dL_law_488 rfl (lv_at hl 1 rfl) ?_
  refine law_arg C w hl hj 1 (by decide) rfl dL_law_489 dL_law_490 dL_law_491 dL_law_492 dL_law_493 ?_
  refine law_arg C w hl hj 2 (by decide) rfl dL_law_494 dL_law_495 dL_law_496 dL_law_497 dL_law_498 ?_
  refine law_call C w hl [.inl ((xs (j + 1)).toInt), .inl ((xs (j + 2)).toInt)] 0 [] dL_law_499 mc_L_74 dn_X5_effort rfl s_0 rfl (Nat.le_of_ble_eq_true rfl) (Nat.le_of_ble_eq_true rfl) (x_effort hR ((xs (j + 1)).toInt) ((xs (j + 2)).toInt)) (vx_sR_i (law_in _) (vx_sR_i (law_in _) (fun _ h => by cases h))) rfl (fun r1 g1 H1 locs1 q1 w1 => ?_)
  refine lv_aload_n hx hb dL_law_502 rfl (lv_at hl 2 rfl) ?_
  refine law_arg C w1 hl hj 1 (by decide) rfl dL_law_503 dL_law_504 dL_law_505 dL_law_506 dL_law_507 ?_
  refine law_arg C w1 hl hj 2 (by decide) rfl dL_law_508 dL_law_509 dL_law_510 dL_law_511 dL_law_512 ?_
  refine law_call C w1 hl [.inl ((xs (j + 1)).toInt), .inl ((xs (j + 2)).toInt)] 40 [.int (Int32.ofInt r1)] dL_law_513 mc_L_77 dn_X6_effort rfl s_40 rfl (Nat.le_of_ble_eq_true rfl) (Nat.le_of_ble_eq_true rfl) (y_effort (hR2.keep q1.2.2) ((xs (j + 1)).toInt) ((xs (j + 2)).toInt)) (vx_sR_i (law_in _) (vx_sR_i (law_in _) (fun _ h => by cases h))) rfl (fun r2 g2 H2 locs2 q2 w2 => ?_)
  refine lv_icmp_eq (tgt := 590) hx hb dL_law_516 (by decide) (fun _ => ?_) (fun q => absurd (by rw [q1.1, q2.1]) q)
  exact kk g2 H2 locs2 _ w2 (q1.2.1.keep q2.2.2) q2.2.1 st_effort
set_option maxHeartbeats 4000000 in
theorem law_worths (C : lwC p s m meth c b L xs D cs) (w : lwW s D cs ad g H locs) (hl : lwL b ad j ls) (hj : j + 6 ≤ L) (hR : RC σ g) (hR2 : RM σ g) (hT : sT σ + 1000 ≤ 1000000) (kk : ∀ (g' : vx_M) (H' : Heap) (locs' : List Loc) (σ' : SG), lwW s D cs ad g' H' locs' → RC σ' g' → RM σ' g' → sT σ' ≤ sT σ + 1000 → W p l e room_1 s m #[Value.ref b] below meth c H' locs' 600000 7302250 (lw_Z below #[Value.ref b] s) (F0 m 590 ls [])) : W p l e room_1 s m #[Value.ref b] below meth c H locs 600000 7302250 (lw_Z below #[Value.ref b] s) (F0 m 521 ls []) := by
  have hx := C.1.1
  have hb := C.1.2.1
  refine lv_aload_n hx hb dL_law_521 rfl (lv_at hl 1 rfl) ?_
  refine law_arg C w hl hj 1 (by decide) rfl dL_law_522 dL_law_523 dL_law_524 dL_law_525 dL_law_526 ?_
  refine law_arg C w hl hj 2 (by decide) rfl dL_law_527 dL_law_528 dL_law_529 dL_law_530 dL_law_531 ?_
  refine law_call C w hl [.inl ((xs (j + 1)).toInt), .inl ((xs (j + 2)).toInt)] 0 [] dL_law_532 mc_L_78 dn_X5_worths rfl s_0 rfl (Nat.le_of_ble_eq_true rfl) (Nat.le_of_ble_eq_true rfl) (x_worths hR ((xs (j + 1)).toInt) ((xs (j + 2)).toInt)) (vx_sR_i (law_in _) (vx_sR_i (law_in _) (fun _ h => by cases h))) rfl (fun r1 g1 H1 locs1 q1 w1 => ?_)
  refine lv_aload_n hx hb dL_law_535 rfl (lv_at hl 2 rfl) ?_
  refine law_arg C w1 hl hj 1 (by decide) rfl dL_law_536 dL_law_537 dL_law_538 dL_law_539 dL_law_540 ?_
  refine law_arg C w1 hl hj 2 (by decide) rfl dL_law_541 dL_law_542 dL_law_543 dL_law_544 dL_law_545 ?_
  refine law_call C w1 hl [.inl ((xs (j + 1)).toInt), .inl ((xs (j + 2)).toInt)] 40 [.int (Int32.ofInt r1)] dL_law_546 mc_L_81 dn_X6_worths rfl s_40 rfl (Nat.le_of_ble_eq_true rfl) (Nat.le_of_ble_eq_true rfl) (y_worths (hR2.keep q1.2.2) ((xs (j + 1)).toInt) ((xs (j + 2)).toInt)) (vx_sR_i (law_in _) (vx_sR_i (law_in _) (fun _ h => by cases h))) rfl (fun r2 g2 H2 locs2 q2 w2 => ?_)
  refine lv_icmp_eq (tgt := 590) hx hb dL_law_549 (by decide) (fun _ => ?_) (fun q => absurd (by rw [q1.1, q2.1]) q)
  exact kk g2 H2 locs2 _ w2 (q1.2.1.keep q2.2.2) q2.2.1 st_worths
set_option maxHeartbeats 4000000 in
theorem law_attempt (C : lwC p s m meth c b L xs D cs) (w : lwW s D cs ad g H locs) (hl : lwL b ad j ls) (hj : j + 6 ≤ L) (hR : RC σ g) (hR2 : RM σ g) (hT : sT σ + 1000 ≤ 1000000) (kk : ∀ (g' : vx_M) (H' : Heap) (locs' : List Loc) (σ' : SG), lwW s D cs ad g' H' locs' → RC σ' g' → RM σ' g' → sT σ' ≤ sT σ + 1000 → W p l e room_1 s m #[Value.ref b] below meth c H' locs' 600000 7302250 (lw_Z below #[Value.ref b] s) (F0 m 590 ls [])) : W p l e room_1 s m #[Value.ref b] below meth c H locs 600000 7302250 (lw_Z below #[Value.ref b] s) (F0 m 554 ls []) := by
  have hx := C.1.1
  have hb := C.1.2.1
  refine lv_aload_n hx hb dL_law_554 rfl (lv_at hl 1 rfl) ?_
  refine law_call C w hl [] 0 [] dL_law_555 mc_L_82 dn_X5_attempt rfl s_0 rfl (Nat.le_of_ble_eq_true rfl) (Nat.le_of_ble_eq_true rfl) (x_attempt hR hT) (fun _ h => by cases h) rfl (fun r1 g1 H1 locs1 q1 w1 => ?_)
  refine lv_aload_n hx hb dL_law_558 rfl (lv_at hl 2 rfl) ?_
  refine law_call C w1 hl [] 40 [.int (Int32.ofInt r1)] dL_law_559 mc_L_85 dn_X6_attempt rfl s_40 rfl (Nat.le_of_ble_eq_true rfl) (Nat.le_of_ble_eq_true rfl) (y_attempt (hR2.keep q1.2.2) hT) (fun _ h => by cases h) rfl (fun r2 g2 H2 locs2 q2 w2 => ?_)
  refine lv_icmp_eq (tgt := 590) hx hb dL_law_562 (by decide) (fun _ => ?_) (fun q => absurd (by rw [q1.1, q2.1]) q)
  exact kk g2 H2 locs2 _ w2 (q1.2.1.keep q2.2.2) q2.2.1 (st_attempt hR.1)
set_option maxHeartbeats 4000000 in
theorem law_count (C : lwC p s m meth c b L xs D cs) (w : lwW s D cs ad g H locs) (hl : lwL b ad j ls) (hj : j + 6 ≤ L) (hR : RC σ g) (hR2 : RM σ g) (hT : sT σ + 1000 ≤ 1000000) (kk : ∀ (g' : vx_M) (H' : Heap) (locs' : List Loc) (σ' : SG), lwW s D cs ad g' H' locs' → RC σ' g' → RM σ' g' → sT σ' ≤ sT σ + 1000 → W p l e room_1 s m #[Value.ref b] below meth c H' locs' 600000 7302250 (lw_Z below #[Value.ref b] s) (F0 m 590 ls [])) : W p l e room_1 s m #[Value.ref b] below meth c H locs 600000 7302250 (lw_Z below #[Value.ref b] s) (F0 m 567 ls []) := by
  have hx := C.1.1
  have hb := C.1.2.1
  refine lv_aload_n hx hb dL_law_567 rfl (lv_at hl 1 rfl) ?_
  refine law_arg C w hl hj 1 (by decide) rfl dL_law_568 dL_law_569 dL_law_570 dL_law_571 dL_law_572 ?_
  refine law_call C w hl [.inl ((xs (j + 1)).toInt)] 0 [] dL_law_573 mc_L_86 dn_X5_count rfl s_0 rfl (Nat.le_of_ble_eq_true rfl) (Nat.le_of_ble_eq_true rfl) (x_count hR ((xs (j + 1)).toInt)) (vx_sR_i (law_in _) (fun _ h => by cases h)) rfl (fun r1 g1 H1 locs1 q1 w1 => ?_)
  refine lv_aload_n hx hb dL_law_576 rfl (lv_at hl 2 rfl) ?_
  refine law_arg C w1 hl hj 1 (by decide) rfl dL_law_577 dL_law_578 dL_law_579 dL_law_580 dL_law_581 ?_
  refine law_call C w1 hl [.inl ((xs (j + 1)).toInt)] 40 [.int (Int32.ofInt r1)] dL_law_582 mc_L_89 dn_X6_count rfl s_40 rfl (Nat.le_of_ble_eq_true rfl) (Nat.le_of_ble_eq_true rfl) (y_count (hR2.keep q1.2.2) ((xs (j + 1)).toInt)) (vx_sR_i (law_in _) (fun _ h => by cases h)) rfl (fun r2 g2 H2 locs2 q2 w2 => ?_)
  refine lv_icmp_eq (tgt := 590) hx hb dL_law_585 (by decide) (fun _ => ?_) (fun q => absurd (by rw [q1.1, q2.1]) q)
  exact kk g2 H2 locs2 _ w2 (q1.2.1.keep q2.2.2) q2.2.1 st_count
end LAWC

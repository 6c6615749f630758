noncomputable def f_law_0 (L : Nat) (xs : Nat → Int32) (J : AS → Option AS) (c3 : Int32) (S : AS) : Option AS := chk (vp_in (c3 + 1) L) <| chk (vp_in (c3 + 2) L) <| chk (vp_in (c3 + 3) L) <| chk (vp_in (c3 + 4) L) <| chk (vp_in (c3 + 5) L) <| bI (f_Chan_feed (xs (ix (c3 + 1))) (xs (ix (c3 + 2))) (xs (ix (c3 + 3))) (xs (ix (c3 + 4))) (xs (ix (c3 + 5))) S) fun r1 S1 => chk (vp_in (c3 + 1) L) <| chk (vp_in (c3 + 2) L) <| chk (vp_in (c3 + 3) L) <| chk (vp_in (c3 + 4) L) <| chk (vp_in (c3 + 5) L) <| bI (f_Md_feed (xs (ix (c3 + 1))) (xs (ix (c3 + 2))) (xs (ix (c3 + 3))) (xs (ix (c3 + 4))) (xs (ix (c3 + 5))) S1) fun r2 S2 => if r1 = r2 then J S2 else none
set_option maxHeartbeats 4000000 in
theorem v_law_0 {G : GX} {b L : Nat} {xs : Nat → Int32} (J : AS → Option AS) (c3 : Int32) (k z : Nat) (hk : k + 8 ≤ 600000) (hz : z + 265 ≤ 7302250) (kJ : ∀ T, V G md_law (QL G b) (EL G L xs) (some none) 1013 [some (.retAddr 0), some (.ref 0), some (.ref 70), some (.int c3)] [] (k + 8) (z + 265) T (J T)) (S : AS) : V G md_law (QL G b) (EL G L xs) (some none) 152 [some (.retAddr 0), some (.ref 0), some (.ref 70), some (.int c3)] [] k z S (f_law_0 L xs J c3 S) := by
  unfold f_law_0
  refine x_aload_n_ref d_Law_law_152 rfl ?_
  refine x_aload_n_ext d_Law_law_153 rfl ?_
  refine x_iload_n d_Law_law_154 rfl ?_
  refine x_iconst (v := 1) d_Law_law_155 (by decide) ?_
  refine x_iadd d_Law_law_156 ?_
  refine x_sld d_Law_law_157 ?_
  refine x_aload_n_ext d_Law_law_158 rfl ?_
  refine x_iload_n d_Law_law_159 rfl ?_
  refine x_iconst (v := 2) d_Law_law_160 (by decide) ?_
  refine x_iadd d_Law_law_161 ?_
  refine x_sld d_Law_law_162 ?_
  refine x_aload_n_ext d_Law_law_163 rfl ?_
  refine x_iload_n d_Law_law_164 rfl ?_
  refine x_iconst (v := 3) d_Law_law_165 (by decide) ?_
  refine x_iadd d_Law_law_166 ?_
  refine x_sld d_Law_law_167 ?_
  refine x_aload_n_ext d_Law_law_168 rfl ?_
  refine x_iload_n d_Law_law_169 rfl ?_
  refine x_iconst (v := 4) d_Law_law_170 (by decide) ?_
  refine x_iadd d_Law_law_171 ?_
  refine x_sld d_Law_law_172 ?_
  refine x_aload_n_ext d_Law_law_173 rfl ?_
  refine x_iload_n d_Law_law_174 rfl ?_
  refine x_iconst (v := 5) d_Law_law_175 (by decide) ?_
  refine x_iadd d_Law_law_176 ?_
  refine x_sld d_Law_law_177 ?_
  refine x_vI (As := [.int (xs (ix (c3 + 1))), .int (xs (ix (c3 + 2))), .int (xs (ix (c3 + 3))), .int (xs (ix (c3 + 4))), .int (xs (ix (c3 + 5)))]) d_Law_law_178 mv_Law_13 rfl (fun _ => ak_0) rfl (q99 (by decide)) ⟨Nat.le_of_ble_eq_true rfl, Nat.le_of_ble_eq_true rfl⟩ (Nat.le_of_ble_eq_true rfl) ⟨by show k + 0 ≤ 600000; omega, by show z + 0 ≤ 7302250; omega⟩ (fun _ h => h) (fun h => ⟨h, c_Chan_feed (xs (ix (c3 + 1))) (xs (ix (c3 + 2))) (xs (ix (c3 + 3))) (xs (ix (c3 + 4))) (xs (ix (c3 + 5))) _⟩) (fun r1 S1 => ?_)
  refine x_aload_n_ref d_Law_law_181 rfl ?_
  refine x_aload_n_ext d_Law_law_182 rfl ?_
  refine x_iload_n d_Law_law_183 rfl ?_
  refine x_iconst (v := 1) d_Law_law_184 (by decide) ?_
  refine x_iadd d_Law_law_185 ?_
  refine x_sld d_Law_law_186 ?_
  refine x_aload_n_ext d_Law_law_187 rfl ?_
  refine x_iload_n d_Law_law_188 rfl ?_
  refine x_iconst (v := 2) d_Law_law_189 (by decide) ?_
  refine x_iadd d_Law_law_190 ?_
  refine x_sld d_Law_law_191 ?_
  refine x_aload_n_ext d_Law_law_192 rfl ?_
  refine x_iload_n d_Law_law_193 rfl ?_
  refine x_iconst (v := 3) d_Law_law_194 (by decide) ?_
  refine x_iadd d_Law_law_195 ?_
  refine x_sld d_Law_law_196 ?_
  refine x_aload_n_ext d_Law_law_197 rfl ?_
  refine x_iload_n d_Law_law_198 rfl ?_
  refine x_iconst (v := 4) d_Law_law_199 (by decide) ?_
  refine x_iadd d_Law_law_200 ?_
  refine x_sld d_Law_law_201 ?_
  refine x_aload_n_ext d_Law_law_202 rfl ?_
  refine x_iload_n d_Law_law_203 rfl ?_
  refine x_iconst (v := 5) d_Law_law_204 (by decide) ?_
  refine x_iadd d_Law_law_205 ?_
  refine x_sld d_Law_law_206 ?_
  refine x_vI (As := [.int (xs (ix (c3 + 1))), .int (xs (ix (c3 + 2))), .int (xs (ix (c3 + 3))), .int (xs (ix (c3 + 4))), .int (xs (ix (c3 + 5)))]) d_Law_law_207 mv_Law_17 rfl (fun _ => ak_70) rfl (q99 (by decide)) ⟨Nat.le_of_ble_eq_true rfl, Nat.le_of_ble_eq_true rfl⟩ (Nat.le_of_ble_eq_true rfl) ⟨by show (k + 0) + 0 ≤ 600000; omega, by show (z + 0) + 0 ≤ 7302250; omega⟩ (fun _ h => h) (fun h => ⟨h, c_Md_feed (xs (ix (c3 + 1))) (xs (ix (c3 + 2))) (xs (ix (c3 + 3))) (xs (ix (c3 + 4))) (xs (ix (c3 + 5))) _⟩) (fun r2 S2 => ?_)
  refine x_icmp_eq (tgt := 1013) d_Law_law_210 (by decide) (fun _ => ?_) (fun _ => V.none)
  exact V.wid (kJ S2) (by show ((k + 0) + 0) ≤ k + 8; omega) (by show ((z + 0) + 0) ≤ z + 265; omega)
noncomputable def f_law_1 (L : Nat) (xs : Nat → Int32) (J : AS → Option AS) (c3 : Int32) (S : AS) : Option AS := chk (vp_in (c3 + 1) L) <| bI (f_Chan_end (xs (ix (c3 + 1))) S) fun r1 S1 => chk (vp_in (c3 + 1) L) <| bI (f_Md_end (xs (ix (c3 + 1))) S1) fun r2 S2 => if r1 = r2 then J S2 else none
set_option maxHeartbeats 4000000 in
theorem v_law_1 {G : GX} {b L : Nat} {xs : Nat → Int32} (J : AS → Option AS) (c3 : Int32) (k z : Nat) (hk : k + 8 ≤ 600000) (hz : z + 265 ≤ 7302250) (kJ : ∀ T, V G md_law (QL G b) (EL G L xs) (some none) 1013 [some (.retAddr 0), some (.ref 0), some (.ref 70), some (.int c3)] [] (k + 8) (z + 265) T (J T)) (S : AS) : V G md_law (QL G b) (EL G L xs) (some none) 215 [some (.retAddr 0), some (.ref 0), some (.ref 70), some (.int c3)] [] k z S (f_law_1 L xs J c3 S) := by
  unfold f_law_1
  refine x_aload_n_ref d_Law_law_215 rfl ?_
  refine x_aload_n_ext d_Law_law_216 rfl ?_
  refine x_iload_n d_Law_law_217 rfl ?_
  refine x_iconst (v := 1) d_Law_law_218 (by decide) ?_
  refine x_iadd d_Law_law_219 ?_
  refine x_sld d_Law_law_220 ?_
  refine x_vI (As := [.int (xs (ix (c3 + 1)))]) d_Law_law_221 mv_Law_18 rfl (fun _ => ak_0) rfl (q99 (by decide)) ⟨Nat.le_of_ble_eq_true rfl, Nat.le_of_ble_eq_true rfl⟩ (Nat.le_of_ble_eq_true rfl) ⟨by show k + 0 ≤ 600000; omega, by show z + 0 ≤ 7302250; omega⟩ (fun _ h => h) (fun h => ⟨h, c_Chan_end (xs (ix (c3 + 1))) _⟩) (fun r1 S1 => ?_)
  refine x_aload_n_ref d_Law_law_224 rfl ?_
  refine x_aload_n_ext d_Law_law_225 rfl ?_
  refine x_iload_n d_Law_law_226 rfl ?_
  refine x_iconst (v := 1) d_Law_law_227 (by decide) ?_
  refine x_iadd d_Law_law_228 ?_
  refine x_sld d_Law_law_229 ?_
  refine x_vI (As := [.int (xs (ix (c3 + 1)))]) d_Law_law_230 mv_Law_22 rfl (fun _ => ak_70) rfl (q99 (by decide)) ⟨Nat.le_of_ble_eq_true rfl, Nat.le_of_ble_eq_true rfl⟩ (Nat.le_of_ble_eq_true rfl) ⟨by show (k + 0) + 0 ≤ 600000; omega, by show (z + 0) + 0 ≤ 7302250; omega⟩ (fun _ h => h) (fun h => ⟨h, c_Md_end (xs (ix (c3 + 1))) _⟩) (fun r2 S2 => ?_)
  refine x_icmp_eq (tgt := 1013) d_Law_law_233 (by decide) (fun _ => ?_) (fun _ => V.none)
  exact V.wid (kJ S2) (by show ((k + 0) + 0) ≤ k + 8; omega) (by show ((z + 0) + 0) ≤ z + 265; omega)
noncomputable def f_law_2 (L : Nat) (xs : Nat → Int32) (J : AS → Option AS) (c3 : Int32) (S : AS) : Option AS := chk (vp_in (c3 + 1) L) <| chk (vp_in (c3 + 2) L) <| chk (vp_in (c3 + 3) L) <| bI (f_Chan_person (xs (ix (c3 + 1))) (xs (ix (c3 + 2))) (xs (ix (c3 + 3))) S) fun r1 S1 => chk (vp_in (c3 + 1) L) <| chk (vp_in (c3 + 2) L) <| chk (vp_in (c3 + 3) L) <| bI (f_Md_person (xs (ix (c3 + 1))) (xs (ix (c3 + 2))) (xs (ix (c3 + 3))) S1) fun r2 S2 => if r1 = r2 then J S2 else none
set_option maxHeartbeats 4000000 in
theorem v_law_2 {G : GX} {b L : Nat} {xs : Nat → Int32} (J : AS → Option AS) (c3 : Int32) (k z : Nat) (hk : k + 8 ≤ 600000) (hz : z + 265 ≤ 7302250) (kJ : ∀ T, V G md_law (QL G b) (EL G L xs) (some none) 1013 [some (.retAddr 0), some (.ref 0), some (.ref 70), some (.int c3)] [] (k + 8) (z + 265) T (J T)) (S : AS) : V G md_law (QL G b) (EL G L xs) (some none) 238 [some (.retAddr 0), some (.ref 0), some (.ref 70), some (.int c3)] [] k z S (f_law_2 L xs J c3 S) := by
  unfold f_law_2
  refine x_aload_n_ref d_Law_law_238 rfl ?_
  refine x_aload_n_ext d_Law_law_239 rfl ?_
  refine x_iload_n d_Law_law_240 rfl ?_
  refine x_iconst (v := 1) d_Law_law_241 (by decide) ?_
  refine x_iadd d_Law_law_242 ?_
  refine x_sld d_Law_law_243 ?_
  refine x_aload_n_ext d_Law_law_244 rfl ?_
  refine x_iload_n d_Law_law_245 rfl ?_
  refine x_iconst (v := 2) d_Law_law_246 (by decide) ?_
  refine x_iadd d_Law_law_247 ?_
  refine x_sld d_Law_law_248 ?_
  refine x_aload_n_ext d_Law_law_249 rfl ?_
  refine x_iload_n d_Law_law_250 rfl ?_
  refine x_iconst (v := 3) d_Law_law_251 (by decide) ?_
  refine x_iadd d_Law_law_252 ?_
  refine x_sld d_Law_law_253 ?_
  refine x_vI (As := [.int (xs (ix (c3 + 1))), .int (xs (ix (c3 + 2))), .int (xs (ix (c3 + 3)))]) d_Law_law_254 mv_Law_23 rfl (fun _ => ak_0) rfl (q99 (by decide)) ⟨Nat.le_of_ble_eq_true rfl, Nat.le_of_ble_eq_true rfl⟩ (Nat.le_of_ble_eq_true rfl) ⟨by show k + 0 ≤ 600000; omega, by show z + 0 ≤ 7302250; omega⟩ (fun _ h => h) (fun h => ⟨h, c_Chan_person (xs (ix (c3 + 1))) (xs (ix (c3 + 2))) (xs (ix (c3 + 3))) _⟩) (fun r1 S1 => ?_)
  refine x_aload_n_ref d_Law_law_257 rfl ?_
  refine x_aload_n_ext d_Law_law_258 rfl ?_
  refine x_iload_n d_Law_law_259 rfl ?_
  refine x_iconst (v := 1) d_Law_law_260 (by decide) ?_
  refine x_iadd d_Law_law_261 ?_
  refine x_sld d_Law_law_262 ?_
  refine x_aload_n_ext d_Law_law_263 rfl ?_
  refine x_iload_n d_Law_law_264 rfl ?_
  refine x_iconst (v := 2) d_Law_law_265 (by decide) ?_
  refine x_iadd d_Law_law_266 ?_
  refine x_sld d_Law_law_267 ?_
  refine x_aload_n_ext d_Law_law_268 rfl ?_
  refine x_iload_n d_Law_law_269 rfl ?_
  refine x_iconst (v := 3) d_Law_law_270 (by decide) ?_
  refine x_iadd d_Law_law_271 ?_
  refine x_sld d_Law_law_272 ?_
  refine x_vI (As := [.int (xs (ix (c3 + 1))), .int (xs (ix (c3 + 2))), .int (xs (ix (c3 + 3)))]) d_Law_law_273 mv_Law_27 rfl (fun _ => ak_70) rfl (q99 (by decide)) ⟨Nat.le_of_ble_eq_true rfl, Nat.le_of_ble_eq_true rfl⟩ (Nat.le_of_ble_eq_true rfl) ⟨by show (k + 0) + 0 ≤ 600000; omega, by show (z + 0) + 0 ≤ 7302250; omega⟩ (fun _ h => h) (fun h => ⟨h, c_Md_person (xs (ix (c3 + 1))) (xs (ix (c3 + 2))) (xs (ix (c3 + 3))) _⟩) (fun r2 S2 => ?_)
  refine x_icmp_eq (tgt := 1013) d_Law_law_276 (by decide) (fun _ => ?_) (fun _ => V.none)
  exact V.wid (kJ S2) (by show ((k + 0) + 0) ≤ k + 8; omega) (by show ((z + 0) + 0) ≤ z + 265; omega)
noncomputable def f_law_3 (L : Nat) (xs : Nat → Int32) (J : AS → Option AS) (c3 : Int32) (S : AS) : Option AS := chk (vp_in (c3 + 1) L) <| chk (vp_in (c3 + 2) L) <| bI (f_Chan_post (xs (ix (c3 + 1))) (xs (ix (c3 + 2))) S) fun r1 S1 => chk (vp_in (c3 + 1) L) <| chk (vp_in (c3 + 2) L) <| bI (f_Md_post (xs (ix (c3 + 1))) (xs (ix (c3 + 2))) S1) fun r2 S2 => if r1 = r2 then J S2 else none
set_option maxHeartbeats 4000000 in
theorem v_law_3 {G : GX} {b L : Nat} {xs : Nat → Int32} (J : AS → Option AS) (c3 : Int32) (k z : Nat) (hk : k + 8 ≤ 600000) (hz : z + 265 ≤ 7302250) (kJ : ∀ T, V G md_law (QL G b) (EL G L xs) (some none) 1013 [some (.retAddr 0), some (.ref 0), some (.ref 70), some (.int c3)] [] (k + 8) (z + 265) T (J T)) (S : AS) : V G md_law (QL G b) (EL G L xs) (some none) 281 [some (.retAddr 0), some (.ref 0), some (.ref 70), some (.int c3)] [] k z S (f_law_3 L xs J c3 S) := by
  unfold f_law_3
  refine x_aload_n_ref d_Law_law_281 rfl ?_
  refine x_aload_n_ext d_Law_law_282 rfl ?_
  refine x_iload_n d_Law_law_283 rfl ?_
  refine x_iconst (v := 1) d_Law_law_284 (by decide) ?_
  refine x_iadd d_Law_law_285 ?_
  refine x_sld d_Law_law_286 ?_
  refine x_aload_n_ext d_Law_law_287 rfl ?_
  refine x_iload_n d_Law_law_288 rfl ?_
  refine x_iconst (v := 2) d_Law_law_289 (by decide) ?_
  refine x_iadd d_Law_law_290 ?_
  refine x_sld d_Law_law_291 ?_
  refine x_vI (As := [.int (xs (ix (c3 + 1))), .int (xs (ix (c3 + 2)))]) d_Law_law_292 mv_Law_28 rfl (fun _ => ak_0) rfl (q99 (by decide)) ⟨Nat.le_of_ble_eq_true rfl, Nat.le_of_ble_eq_true rfl⟩ (Nat.le_of_ble_eq_true rfl) ⟨by show k + 0 ≤ 600000; omega, by show z + 0 ≤ 7302250; omega⟩ (fun _ h => h) (fun h => ⟨h, c_Chan_post (xs (ix (c3 + 1))) (xs (ix (c3 + 2))) _⟩) (fun r1 S1 => ?_)
  refine x_aload_n_ref d_Law_law_295 rfl ?_
  refine x_aload_n_ext d_Law_law_296 rfl ?_
  refine x_iload_n d_Law_law_297 rfl ?_
  refine x_iconst (v := 1) d_Law_law_298 (by decide) ?_
  refine x_iadd d_Law_law_299 ?_
  refine x_sld d_Law_law_300 ?_
  refine x_aload_n_ext d_Law_law_301 rfl ?_
  refine x_iload_n d_Law_law_302 rfl ?_
  refine x_iconst (v := 2) d_Law_law_303 (by decide) ?_
  refine x_iadd d_Law_law_304 ?_
  refine x_sld d_Law_law_305 ?_
  refine x_vI (As := [.int (xs (ix (c3 + 1))), .int (xs (ix (c3 + 2)))]) d_Law_law_306 mv_Law_32 rfl (fun _ => ak_70) rfl (q99 (by decide)) ⟨Nat.le_of_ble_eq_true rfl, Nat.le_of_ble_eq_true rfl⟩ (Nat.le_of_ble_eq_true rfl) ⟨by show (k + 0) + 0 ≤ 600000; omega, by show (z + 0) + 0 ≤ 7302250; omega⟩ (fun _ h => h) (fun h => ⟨h, c_Md_post (xs (ix (c3 + 1))) (xs (ix (c3 + 2))) _⟩) (fun r2 S2 => ?_)
  refine x_icmp_eq (tgt := 1013) d_Law_law_309 (by decide) (fun _ => ?_) (fun _ => V.none)
  exact V.wid (kJ S2) (by show ((k + 0) + 0) ≤ k + 8; omega) (by show ((z + 0) + 0) ≤ z + 265; omega)
noncomputable def f_law_4 (L : Nat) (xs : Nat → Int32) (J : AS → Option AS) (c3 : Int32) (S : AS) : Option AS := chk (vp_in (c3 + 1) L) <| chk (vp_in (c3 + 2) L) <| bI (f_Chan_seat (xs (ix (c3 + 1))) (xs (ix (c3 + 2))) S) fun r1 S1 => chk (vp_in (c3 + 1) L) <| chk (vp_in (c3 + 2) L) <| bI (f_Md_seat (xs (ix (c3 + 1))) (xs (ix (c3 + 2))) S1) fun r2 S2 => if r1 = r2 then J S2 else none
set_option maxHeartbeats 4000000 in
theorem v_law_4 {G : GX} {b L : Nat} {xs : Nat → Int32} (J : AS → Option AS) (c3 : Int32) (k z : Nat) (hk : k + 8 ≤ 600000) (hz : z + 265 ≤ 7302250) (kJ : ∀ T, V G md_law (QL G b) (EL G L xs) (some none) 1013 [some (.retAddr 0), some (.ref 0), some (.ref 70), some (.int c3)] [] (k + 8) (z + 265) T (J T)) (S : AS) : V G md_law (QL G b) (EL G L xs) (some none) 314 [some (.retAddr 0), some (.ref 0), some (.ref 70), some (.int c3)] [] k z S (f_law_4 L xs J c3 S) := by
  unfold f_law_4
  refine x_aload_n_ref d_Law_law_314 rfl ?_
  refine x_aload_n_ext d_Law_law_315 rfl ?_
  refine x_iload_n d_Law_law_316 rfl ?_
  refine x_iconst (v := 1) d_Law_law_317 (by decide) ?_
  refine x_iadd d_Law_law_318 ?_
  refine x_sld d_Law_law_319 ?_
  refine x_aload_n_ext d_Law_law_320 rfl ?_
  refine x_iload_n d_Law_law_321 rfl ?_
  refine x_iconst (v := 2) d_Law_law_322 (by decide) ?_
  refine x_iadd d_Law_law_323 ?_
  refine x_sld d_Law_law_324 ?_
  refine x_vI (As := [.int (xs (ix (c3 + 1))), .int (xs (ix (c3 + 2)))]) d_Law_law_325 mv_Law_33 rfl (fun _ => ak_0) rfl (q99 (by decide)) ⟨Nat.le_of_ble_eq_true rfl, Nat.le_of_ble_eq_true rfl⟩ (Nat.le_of_ble_eq_true rfl) ⟨by show k + 0 ≤ 600000; omega, by show z + 0 ≤ 7302250; omega⟩ (fun _ h => h) (fun h => ⟨h, c_Chan_seat (xs (ix (c3 + 1))) (xs (ix (c3 + 2))) _⟩) (fun r1 S1 => ?_)
  refine x_aload_n_ref d_Law_law_328 rfl ?_
  refine x_aload_n_ext d_Law_law_329 rfl ?_
  refine x_iload_n d_Law_law_330 rfl ?_
  refine x_iconst (v := 1) d_Law_law_331 (by decide) ?_
  refine x_iadd d_Law_law_332 ?_
  refine x_sld d_Law_law_333 ?_
  refine x_aload_n_ext d_Law_law_334 rfl ?_
  refine x_iload_n d_Law_law_335 rfl ?_
  refine x_iconst (v := 2) d_Law_law_336 (by decide) ?_
  refine x_iadd d_Law_law_337 ?_
  refine x_sld d_Law_law_338 ?_
  refine x_vI (As := [.int (xs (ix (c3 + 1))), .int (xs (ix (c3 + 2)))]) d_Law_law_339 mv_Law_37 rfl (fun _ => ak_70) rfl (q99 (by decide)) ⟨Nat.le_of_ble_eq_true rfl, Nat.le_of_ble_eq_true rfl⟩ (Nat.le_of_ble_eq_true rfl) ⟨by show (k + 0) + 0 ≤ 600000; omega, by show (z + 0) + 0 ≤ 7302250; omega⟩ (fun _ h => h) (fun h => ⟨h, c_Md_seat (xs (ix (c3 + 1))) (xs (ix (c3 + 2))) _⟩) (fun r2 S2 => ?_)
  refine x_icmp_eq (tgt := 1013) d_Law_law_342 (by decide) (fun _ => ?_) (fun _ => V.none)
  exact V.wid (kJ S2) (by show ((k + 0) + 0) ≤ k + 8; omega) (by show ((z + 0) + 0) ≤ z + 265; omega)
noncomputable def f_law_5 (L : Nat) (xs : Nat → Int32) (J : AS → Option AS) (c3 : Int32) (S : AS) : Option AS := chk (vp_in (c3 + 1) L) <| bI (f_Chan_reign (xs (ix (c3 + 1))) S) fun r1 S1 => chk (vp_in (c3 + 1) L) <| bI (f_Md_reign (xs (ix (c3 + 1))) S1) fun r2 S2 => if r1 = r2 then J S2 else none
set_option maxHeartbeats 4000000 in
theorem v_law_5 {G : GX} {b L : Nat} {xs : Nat → Int32} (J : AS → Option AS) (c3 : Int32) (k z : Nat) (hk : k + 8 ≤ 600000) (hz : z + 265 ≤ 7302250) (kJ : ∀ T, V G md_law (QL G b) (EL G L xs) (some none) 1013 [some (.retAddr 0), some (.ref 0), some (.ref 70), some (.int c3)] [] (k + 8) (z + 265) T (J T)) (S : AS) : V G md_law (QL G b) (EL G L xs) (some none) 347 [some (.retAddr 0), some (.ref 0), some (.ref 70), some (.int c3)] [] k z S (f_law_5 L xs J c3 S) := by
  unfold f_law_5
  refine x_aload_n_ref d_Law_law_347 rfl ?_
  refine x_aload_n_ext d_Law_law_348 rfl ?_
  refine x_iload_n d_Law_law_349 rfl ?_
  refine x_iconst (v := 1) d_Law_law_350 (by decide) ?_
  refine x_iadd d_Law_law_351 ?_
  refine x_sld d_Law_law_352 ?_
  refine x_vI (As := [.int (xs (ix (c3 + 1)))]) d_Law_law_353 mv_Law_38 rfl (fun _ => ak_0) rfl (q99 (by decide)) ⟨Nat.le_of_ble_eq_true rfl, Nat.le_of_ble_eq_true rfl⟩ (Nat.le_of_ble_eq_true rfl) ⟨by show k + 8 ≤ 600000; omega, by show z + 265 ≤ 7302250; omega⟩ (fun _ h => h) (fun h => ⟨h, c_Chan_reign (xs (ix (c3 + 1))) _⟩) (fun r1 S1 => ?_)
  refine x_aload_n_ref d_Law_law_356 rfl ?_
  refine x_aload_n_ext d_Law_law_357 rfl ?_
  refine x_iload_n d_Law_law_358 rfl ?_
  refine x_iconst (v := 1) d_Law_law_359 (by decide) ?_
  refine x_iadd d_Law_law_360 ?_
  refine x_sld d_Law_law_361 ?_
  refine x_vI (As := [.int (xs (ix (c3 + 1)))]) d_Law_law_362 mv_Law_42 rfl (fun _ => ak_70) rfl (q99 (by decide)) ⟨Nat.le_of_ble_eq_true rfl, Nat.le_of_ble_eq_true rfl⟩ (Nat.le_of_ble_eq_true rfl) ⟨by show (k + 8) + 0 ≤ 600000; omega, by show (z + 265) + 0 ≤ 7302250; omega⟩ (fun _ h => h) (fun h => ⟨h, c_Md_reign (xs (ix (c3 + 1))) _⟩) (fun r2 S2 => ?_)
  refine x_icmp_eq (tgt := 1013) d_Law_law_365 (by decide) (fun _ => ?_) (fun _ => V.none)
  exact V.wid (kJ S2) (by show ((k + 8) + 0) ≤ k + 8; omega) (by show ((z + 265) + 0) ≤ z + 265; omega)
noncomputable def f_law_6 (L : Nat) (xs : Nat → Int32) (J : AS → Option AS) (c3 : Int32) (S : AS) : Option AS := chk (vp_in (c3 + 1) L) <| bI (f_Chan_fault (xs (ix (c3 + 1))) S) fun r1 S1 => chk (vp_in (c3 + 1) L) <| bI (f_Md_fault (xs (ix (c3 + 1))) S1) fun r2 S2 => if r1 = r2 then J S2 else none
set_option maxHeartbeats 4000000 in
theorem v_law_6 {G : GX} {b L : Nat} {xs : Nat → Int32} (J : AS → Option AS) (c3 : Int32) (k z : Nat) (hk : k + 8 ≤ 600000) (hz : z + 265 ≤ 7302250) (kJ : ∀ T, V G md_law (QL G b) (EL G L xs) (some none) 1013 [some (.retAddr 0), some (.ref 0), some (.ref 70), some (.int c3)] [] (k + 8) (z + 265) T (J T)) (S : AS) : V G md_law (QL G b) (EL G L xs) (some none) 370 [some (.retAddr 0), some (.ref 0), some (.ref 70), some (.int c3)] [] k z S (f_law_6 L xs J c3 S) := by
  unfold f_law_6
  refine x_aload_n_ref d_Law_law_370 rfl ?_
  refine x_aload_n_ext d_Law_law_371 rfl ?_
  refine x_iload_n d_Law_law_372 rfl ?_
  refine x_iconst (v := 1) d_Law_law_373 (by decide) ?_
  refine x_iadd d_Law_law_374 ?_
  refine x_sld d_Law_law_375 ?_
  refine x_vI (As := [.int (xs (ix (c3 + 1)))]) d_Law_law_376 mv_Law_43 rfl (fun _ => ak_0) rfl (q99 (by decide)) ⟨Nat.le_of_ble_eq_true rfl, Nat.le_of_ble_eq_true rfl⟩ (Nat.le_of_ble_eq_true rfl) ⟨by show k + 0 ≤ 600000; omega, by show z + 0 ≤ 7302250; omega⟩ (fun _ h => h) (fun h => ⟨h, c_Chan_fault (xs (ix (c3 + 1))) _⟩) (fun r1 S1 => ?_)
  refine x_aload_n_ref d_Law_law_379 rfl ?_
  refine x_aload_n_ext d_Law_law_380 rfl ?_
  refine x_iload_n d_Law_law_381 rfl ?_
  refine x_iconst (v := 1) d_Law_law_382 (by decide) ?_
  refine x_iadd d_Law_law_383 ?_
  refine x_sld d_Law_law_384 ?_
  refine x_vI (As := [.int (xs (ix (c3 + 1)))]) d_Law_law_385 mv_Law_46 rfl (fun _ => ak_70) rfl (q99 (by decide)) ⟨Nat.le_of_ble_eq_true rfl, Nat.le_of_ble_eq_true rfl⟩ (Nat.le_of_ble_eq_true rfl) ⟨by show (k + 0) + 0 ≤ 600000; omega, by show (z + 0) + 0 ≤ 7302250; omega⟩ (fun _ h => h) (fun h => ⟨h, c_Md_fault (xs (ix (c3 + 1))) _⟩) (fun r2 S2 => ?_)
  refine x_icmp_eq (tgt := 1013) d_Law_law_388 (by decide) (fun _ => ?_) (fun _ => V.none)
  exact V.wid (kJ S2) (by show ((k + 0) + 0) ≤ k + 8; omega) (by show ((z + 0) + 0) ≤ z + 265; omega)
noncomputable def f_law_7 (L : Nat) (xs : Nat → Int32) (J : AS → Option AS) (c3 : Int32) (S : AS) : Option AS := chk (vp_in (c3 + 1) L) <| chk (vp_in (c3 + 2) L) <| chk (vp_in (c3 + 3) L) <| chk (vp_in (c3 + 4) L) <| chk (vp_in (c3 + 5) L) <| chk (vp_in (c3 + 6) L) <| bI (f_Chan_paper (xs (ix (c3 + 1))) (xs (ix (c3 + 2))) (xs (ix (c3 + 3))) (xs (ix (c3 + 4))) (xs (ix (c3 + 5))) (xs (ix (c3 + 6))) S) fun r1 S1 => chk (vp_in (c3 + 1) L) <| chk (vp_in (c3 + 2) L) <| chk (vp_in (c3 + 3) L) <| chk (vp_in (c3 + 4) L) <| chk (vp_in (c3 + 5) L) <| chk (vp_in (c3 + 6) L) <| bI (f_Md_paper (xs (ix (c3 + 1))) (xs (ix (c3 + 2))) (xs (ix (c3 + 3))) (xs (ix (c3 + 4))) (xs (ix (c3 + 5))) (xs (ix (c3 + 6))) S1) fun r2 S2 => if r1 = r2 then J S2 else none
set_option maxHeartbeats 4000000 in
theorem v_law_7 {G : GX} {b L : Nat} {xs : Nat → Int32} (J : AS → Option AS) (c3 : Int32) (k z : Nat) (hk : k + 8 ≤ 600000) (hz : z + 265 ≤ 7302250) (kJ : ∀ T, V G md_law (QL G b) (EL G L xs) (some none) 1013 [some (.retAddr 0), some (.ref 0), some (.ref 70), some (.int c3)] [] (k + 8) (z + 265) T (J T)) (S : AS) : V G md_law (QL G b) (EL G L xs) (some none) 393 [some (.retAddr 0), some (.ref 0), some (.ref 70), some (.int c3)] [] k z S (f_law_7 L xs J c3 S) := by
  unfold f_law_7
  refine x_aload_n_ref d_Law_law_393 rfl ?_
  refine x_aload_n_ext d_Law_law_394 rfl ?_
  refine x_iload_n d_Law_law_395 rfl ?_
  refine x_iconst (v := 1) d_Law_law_396 (by decide) ?_
  refine x_iadd d_Law_law_397 ?_
  refine x_sld d_Law_law_398 ?_
  refine x_aload_n_ext d_Law_law_399 rfl ?_
  refine x_iload_n d_Law_law_400 rfl ?_
  refine x_iconst (v := 2) d_Law_law_401 (by decide) ?_
  refine x_iadd d_Law_law_402 ?_
  refine x_sld d_Law_law_403 ?_
  refine x_aload_n_ext d_Law_law_404 rfl ?_
  refine x_iload_n d_Law_law_405 rfl ?_
  refine x_iconst (v := 3) d_Law_law_406 (by decide) ?_
  refine x_iadd d_Law_law_407 ?_
  refine x_sld d_Law_law_408 ?_
  refine x_aload_n_ext d_Law_law_409 rfl ?_
  refine x_iload_n d_Law_law_410 rfl ?_
  refine x_iconst (v := 4) d_Law_law_411 (by decide) ?_
  refine x_iadd d_Law_law_412 ?_
  refine x_sld d_Law_law_413 ?_
  refine x_aload_n_ext d_Law_law_414 rfl ?_
  refine x_iload_n d_Law_law_415 rfl ?_
  refine x_iconst (v := 5) d_Law_law_416 (by decide) ?_
  refine x_iadd d_Law_law_417 ?_
  refine x_sld d_Law_law_418 ?_
  refine x_aload_n_ext d_Law_law_419 rfl ?_
  refine x_iload_n d_Law_law_420 rfl ?_
  refine x_bipush (v := 6) d_Law_law_421 (by decide) ?_
  refine x_iadd d_Law_law_423 ?_
  refine x_sld d_Law_law_424 ?_
  refine x_vI (As := [.int (xs (ix (c3 + 1))), .int (xs (ix (c3 + 2))), .int (xs (ix (c3 + 3))), .int (xs (ix (c3 + 4))), .int (xs (ix (c3 + 5))), .int (xs (ix (c3 + 6)))]) d_Law_law_425 mv_Law_47 rfl (fun _ => ak_0) rfl (q99 (by decide)) ⟨Nat.le_of_ble_eq_true rfl, Nat.le_of_ble_eq_true rfl⟩ (Nat.le_of_ble_eq_true rfl) ⟨by show k + 0 ≤ 600000; omega, by show z + 0 ≤ 7302250; omega⟩ (fun _ h => h) (fun h => ⟨h, c_Chan_paper (xs (ix (c3 + 1))) (xs (ix (c3 + 2))) (xs (ix (c3 + 3))) (xs (ix (c3 + 4))) (xs (ix (c3 + 5))) (xs (ix (c3 + 6))) _⟩) (fun r1 S1 => ?_)
  refine x_aload_n_ref d_Law_law_428 rfl ?_
  refine x_aload_n_ext d_Law_law_429 rfl ?_
  refine x_iload_n d_Law_law_430 rfl ?_
  refine x_iconst (v := 1) d_Law_law_431 (by decide) ?_
  refine x_iadd d_Law_law_432 ?_
  refine x_sld d_Law_law_433 ?_
  refine x_aload_n_ext d_Law_law_434 rfl ?_
  refine x_iload_n d_Law_law_435 rfl ?_
  refine x_iconst (v := 2) d_Law_law_436 (by decide) ?_
  refine x_iadd d_Law_law_437 ?_
  refine x_sld d_Law_law_438 ?_
  refine x_aload_n_ext d_Law_law_439 rfl ?_
  refine x_iload_n d_Law_law_440 rfl ?_
  refine x_iconst (v := 3) d_Law_law_441 (by decide) ?_
  refine x_iadd d_Law_law_442 ?_
  refine x_sld d_Law_law_443 ?_
  refine x_aload_n_ext d_Law_law_444 rfl ?_
  refine x_iload_n d_Law_law_445 rfl ?_
  refine x_iconst (v := 4) d_Law_law_446 (by decide) ?_
  refine x_iadd d_Law_law_447 ?_
  refine x_sld d_Law_law_448 ?_
  refine x_aload_n_ext d_Law_law_449 rfl ?_
  refine x_iload_n d_Law_law_450 rfl ?_
  refine x_iconst (v := 5) d_Law_law_451 (by decide) ?_
  refine x_iadd d_Law_law_452 ?_
  refine x_sld d_Law_law_453 ?_
  refine x_aload_n_ext d_Law_law_454 rfl ?_
  refine x_iload_n d_Law_law_455 rfl ?_
  refine x_bipush (v := 6) d_Law_law_456 (by decide) ?_
  refine x_iadd d_Law_law_458 ?_
  refine x_sld d_Law_law_459 ?_
  refine x_vI (As := [.int (xs (ix (c3 + 1))), .int (xs (ix (c3 + 2))), .int (xs (ix (c3 + 3))), .int (xs (ix (c3 + 4))), .int (xs (ix (c3 + 5))), .int (xs (ix (c3 + 6)))]) d_Law_law_460 mv_Law_51 rfl (fun _ => ak_70) rfl (q99 (by decide)) ⟨Nat.le_of_ble_eq_true rfl, Nat.le_of_ble_eq_true rfl⟩ (Nat.le_of_ble_eq_true rfl) ⟨by show (k + 0) + 0 ≤ 600000; omega, by show (z + 0) + 0 ≤ 7302250; omega⟩ (fun _ h => h) (fun h => ⟨h, c_Md_paper (xs (ix (c3 + 1))) (xs (ix (c3 + 2))) (xs (ix (c3 + 3))) (xs (ix (c3 + 4))) (xs (ix (c3 + 5))) (xs (ix (c3 + 6))) _⟩) (fun r2 S2 => ?_)
  refine x_icmp_eq (tgt := 1013) d_Law_law_463 (by decide) (fun _ => ?_) (fun _ => V.none)
  exact V.wid (kJ S2) (by show ((k + 0) + 0) ≤ k + 8; omega) (by show ((z + 0) + 0) ≤ z + 265; omega)
noncomputable def f_law_8 (L : Nat) (xs : Nat → Int32) (J : AS → Option AS) (c3 : Int32) (S : AS) : Option AS := chk (vp_in (c3 + 1) L) <| chk (vp_in (c3 + 2) L) <| bI (f_Chan_death (xs (ix (c3 + 1))) (xs (ix (c3 + 2))) S) fun r1 S1 => chk (vp_in (c3 + 1) L) <| chk (vp_in (c3 + 2) L) <| bI (f_Md_death (xs (ix (c3 + 1))) (xs (ix (c3 + 2))) S1) fun r2 S2 => if r1 = r2 then J S2 else none
set_option maxHeartbeats 4000000 in
theorem v_law_8 {G : GX} {b L : Nat} {xs : Nat → Int32} (J : AS → Option AS) (c3 : Int32) (k z : Nat) (hk : k + 8 ≤ 600000) (hz : z + 265 ≤ 7302250) (kJ : ∀ T, V G md_law (QL G b) (EL G L xs) (some none) 1013 [some (.retAddr 0), some (.ref 0), some (.ref 70), some (.int c3)] [] (k + 8) (z + 265) T (J T)) (S : AS) : V G md_law (QL G b) (EL G L xs) (some none) 468 [some (.retAddr 0), some (.ref 0), some (.ref 70), some (.int c3)] [] k z S (f_law_8 L xs J c3 S) := by
  unfold f_law_8
  refine x_aload_n_ref d_Law_law_468 rfl ?_
  refine x_aload_n_ext d_Law_law_469 rfl ?_
  refine x_iload_n d_Law_law_470 rfl ?_
  refine x_iconst (v := 1) d_Law_law_471 (by decide) ?_
  refine x_iadd d_Law_law_472 ?_
  refine x_sld d_Law_law_473 ?_
  refine x_aload_n_ext d_Law_law_474 rfl ?_
  refine x_iload_n d_Law_law_475 rfl ?_
  refine x_iconst (v := 2) d_Law_law_476 (by decide) ?_
  refine x_iadd d_Law_law_477 ?_
  refine x_sld d_Law_law_478 ?_
  refine x_vI (As := [.int (xs (ix (c3 + 1))), .int (xs (ix (c3 + 2)))]) d_Law_law_479 mv_Law_52 rfl (fun _ => ak_0) rfl (q99 (by decide)) ⟨Nat.le_of_ble_eq_true rfl, Nat.le_of_ble_eq_true rfl⟩ (Nat.le_of_ble_eq_true rfl) ⟨by show k + 0 ≤ 600000; omega, by show z + 0 ≤ 7302250; omega⟩ (fun _ h => h) (fun h => ⟨h, c_Chan_death (xs (ix (c3 + 1))) (xs (ix (c3 + 2))) _⟩) (fun r1 S1 => ?_)
  refine x_aload_n_ref d_Law_law_482 rfl ?_
  refine x_aload_n_ext d_Law_law_483 rfl ?_
  refine x_iload_n d_Law_law_484 rfl ?_
  refine x_iconst (v := 1) d_Law_law_485 (by decide) ?_
  refine x_iadd d_Law_law_486 ?_
  refine x_sld d_Law_law_487 ?_
  refine x_aload_n_ext d_Law_law_488 rfl ?_
  refine x_iload_n d_Law_law_489 rfl ?_
  refine x_iconst (v := 2) d_Law_law_490 (by decide) ?_
  refine x_iadd d_Law_law_491 ?_
  refine x_sld d_Law_law_492 ?_
  refine x_vI (As := [.int (xs (ix (c3 + 1))), .int (xs (ix (c3 + 2)))]) d_Law_law_493 mv_Law_55 rfl (fun _ => ak_70) rfl (q99 (by decide)) ⟨Nat.le_of_ble_eq_true rfl, Nat.le_of_ble_eq_true rfl⟩ (Nat.le_of_ble_eq_true rfl) ⟨by show (k + 0) + 0 ≤ 600000; omega, by show (z + 0) + 0 ≤ 7302250; omega⟩ (fun _ h => h) (fun h => ⟨h, c_Md_death (xs (ix (c3 + 1))) (xs (ix (c3 + 2))) _⟩) (fun r2 S2 => ?_)
  refine x_icmp_eq (tgt := 1013) d_Law_law_496 (by decide) (fun _ => ?_) (fun _ => V.none)
  exact V.wid (kJ S2) (by show ((k + 0) + 0) ≤ k + 8; omega) (by show ((z + 0) + 0) ≤ z + 265; omega)
noncomputable def f_law_9 (L : Nat) (xs : Nat → Int32) (J : AS → Option AS) (c3 : Int32) (S : AS) : Option AS := chk (vp_in (c3 + 1) L) <| chk (vp_in (c3 + 2) L) <| chk (vp_in (c3 + 3) L) <| bI (f_Chan_resign (xs (ix (c3 + 1))) (xs (ix (c3 + 2))) (xs (ix (c3 + 3))) S) fun r1 S1 => chk (vp_in (c3 + 1) L) <| chk (vp_in (c3 + 2) L) <| chk (vp_in (c3 + 3) L) <| bI (f_Md_resign (xs (ix (c3 + 1))) (xs (ix (c3 + 2))) (xs (ix (c3 + 3))) S1) fun r2 S2 => if r1 = r2 then J S2 else none
set_option maxHeartbeats 4000000 in
theorem v_law_9 {G : GX} {b L : Nat} {xs : Nat → Int32} (J : AS → Option AS) (c3 : Int32) (k z : Nat) (hk : k + 8 ≤ 600000) (hz : z + 265 ≤ 7302250) (kJ : ∀ T, V G md_law (QL G b) (EL G L xs) (some none) 1013 [some (.retAddr 0), some (.ref 0), some (.ref 70), some (.int c3)] [] (k + 8) (z + 265) T (J T)) (S : AS) : V G md_law (QL G b) (EL G L xs) (some none) 501 [some (.retAddr 0), some (.ref 0), some (.ref 70), some (.int c3)] [] k z S (f_law_9 L xs J c3 S) := by
  unfold f_law_9
  refine x_aload_n_ref d_Law_law_501 rfl ?_
  refine x_aload_n_ext d_Law_law_502 rfl ?_
  refine x_iload_n d_Law_law_503 rfl ?_
  refine x_iconst (v := 1) d_Law_law_504 (by decide) ?_
  refine x_iadd d_Law_law_505 ?_
  refine x_sld d_Law_law_506 ?_
  refine x_aload_n_ext d_Law_law_507 rfl ?_
  refine x_iload_n d_Law_law_508 rfl ?_
  refine x_iconst (v := 2) d_Law_law_509 (by decide) ?_
  refine x_iadd d_Law_law_510 ?_
  refine x_sld d_Law_law_511 ?_
  refine x_aload_n_ext d_Law_law_512 rfl ?_
  refine x_iload_n d_Law_law_513 rfl ?_
  refine x_iconst (v := 3) d_Law_law_514 (by decide) ?_
  refine x_iadd d_Law_law_515 ?_
  refine x_sld d_Law_law_516 ?_
  refine x_vI (As := [.int (xs (ix (c3 + 1))), .int (xs (ix (c3 + 2))), .int (xs (ix (c3 + 3)))]) d_Law_law_517 mv_Law_56 rfl (fun _ => ak_0) rfl (q99 (by decide)) ⟨Nat.le_of_ble_eq_true rfl, Nat.le_of_ble_eq_true rfl⟩ (Nat.le_of_ble_eq_true rfl) ⟨by show k + 0 ≤ 600000; omega, by show z + 0 ≤ 7302250; omega⟩ (fun _ h => h) (fun h => ⟨h, c_Chan_resign (xs (ix (c3 + 1))) (xs (ix (c3 + 2))) (xs (ix (c3 + 3))) _⟩) (fun r1 S1 => ?_)
  refine x_aload_n_ref d_Law_law_520 rfl ?_
  refine x_aload_n_ext d_Law_law_521 rfl ?_
  refine x_iload_n d_Law_law_522 rfl ?_
  refine x_iconst (v := 1) d_Law_law_523 (by decide) ?_
  refine x_iadd d_Law_law_524 ?_
  refine x_sld d_Law_law_525 ?_
  refine x_aload_n_ext d_Law_law_526 rfl ?_
  refine x_iload_n d_Law_law_527 rfl ?_
  refine x_iconst (v := 2) d_Law_law_528 (by decide) ?_
  refine x_iadd d_Law_law_529 ?_
  refine x_sld d_Law_law_530 ?_
  refine x_aload_n_ext d_Law_law_531 rfl ?_
  refine x_iload_n d_Law_law_532 rfl ?_
  refine x_iconst (v := 3) d_Law_law_533 (by decide) ?_
  refine x_iadd d_Law_law_534 ?_
  refine x_sld d_Law_law_535 ?_
  refine x_vI (As := [.int (xs (ix (c3 + 1))), .int (xs (ix (c3 + 2))), .int (xs (ix (c3 + 3)))]) d_Law_law_536 mv_Law_59 rfl (fun _ => ak_70) rfl (q99 (by decide)) ⟨Nat.le_of_ble_eq_true rfl, Nat.le_of_ble_eq_true rfl⟩ (Nat.le_of_ble_eq_true rfl) ⟨by show (k + 0) + 0 ≤ 600000; omega, by show (z + 0) + 0 ≤ 7302250; omega⟩ (fun _ h => h) (fun h => ⟨h, c_Md_resign (xs (ix (c3 + 1))) (xs (ix (c3 + 2))) (xs (ix (c3 + 3))) _⟩) (fun r2 S2 => ?_)
  refine x_icmp_eq (tgt := 1013) d_Law_law_539 (by decide) (fun _ => ?_) (fun _ => V.none)
  exact V.wid (kJ S2) (by show ((k + 0) + 0) ≤ k + 8; omega) (by show ((z + 0) + 0) ≤ z + 265; omega)
noncomputable def f_law_10 (L : Nat) (xs : Nat → Int32) (J : AS → Option AS) (c3 : Int32) (S : AS) : Option AS := chk (vp_in (c3 + 1) L) <| chk (vp_in (c3 + 2) L) <| chk (vp_in (c3 + 3) L) <| bI (f_Chan_swap (xs (ix (c3 + 1))) (xs (ix (c3 + 2))) (xs (ix (c3 + 3))) S) fun r1 S1 => chk (vp_in (c3 + 1) L) <| chk (vp_in (c3 + 2) L) <| chk (vp_in (c3 + 3) L) <| bI (f_Md_swap (xs (ix (c3 + 1))) (xs (ix (c3 + 2))) (xs (ix (c3 + 3))) S1) fun r2 S2 => if r1 = r2 then J S2 else none
set_option maxHeartbeats 4000000 in
theorem v_law_10 {G : GX} {b L : Nat} {xs : Nat → Int32} (J : AS → Option AS) (c3 : Int32) (k z : Nat) (hk : k + 8 ≤ 600000) (hz : z + 265 ≤ 7302250) (kJ : ∀ T, V G md_law (QL G b) (EL G L xs) (some none) 1013 [some (.retAddr 0), some (.ref 0), some (.ref 70), some (.int c3)] [] (k + 8) (z + 265) T (J T)) (S : AS) : V G md_law (QL G b) (EL G L xs) (some none) 544 [some (.retAddr 0), some (.ref 0), some (.ref 70), some (.int c3)] [] k z S (f_law_10 L xs J c3 S) := by
  unfold f_law_10
  refine x_aload_n_ref d_Law_law_544 rfl ?_
  refine x_aload_n_ext d_Law_law_545 rfl ?_
  refine x_iload_n d_Law_law_546 rfl ?_
  refine x_iconst (v := 1) d_Law_law_547 (by decide) ?_
  refine x_iadd d_Law_law_548 ?_
  refine x_sld d_Law_law_549 ?_
  refine x_aload_n_ext d_Law_law_550 rfl ?_
  refine x_iload_n d_Law_law_551 rfl ?_
  refine x_iconst (v := 2) d_Law_law_552 (by decide) ?_
  refine x_iadd d_Law_law_553 ?_
  refine x_sld d_Law_law_554 ?_
  refine x_aload_n_ext d_Law_law_555 rfl ?_
  refine x_iload_n d_Law_law_556 rfl ?_
  refine x_iconst (v := 3) d_Law_law_557 (by decide) ?_
  refine x_iadd d_Law_law_558 ?_
  refine x_sld d_Law_law_559 ?_
  refine x_vI (As := [.int (xs (ix (c3 + 1))), .int (xs (ix (c3 + 2))), .int (xs (ix (c3 + 3)))]) d_Law_law_560 mv_Law_60 rfl (fun _ => ak_0) rfl (q99 (by decide)) ⟨Nat.le_of_ble_eq_true rfl, Nat.le_of_ble_eq_true rfl⟩ (Nat.le_of_ble_eq_true rfl) ⟨by show k + 0 ≤ 600000; omega, by show z + 0 ≤ 7302250; omega⟩ (fun _ h => h) (fun h => ⟨h, c_Chan_swap (xs (ix (c3 + 1))) (xs (ix (c3 + 2))) (xs (ix (c3 + 3))) _⟩) (fun r1 S1 => ?_)
  refine x_aload_n_ref d_Law_law_563 rfl ?_
  refine x_aload_n_ext d_Law_law_564 rfl ?_
  refine x_iload_n d_Law_law_565 rfl ?_
  refine x_iconst (v := 1) d_Law_law_566 (by decide) ?_
  refine x_iadd d_Law_law_567 ?_
  refine x_sld d_Law_law_568 ?_
  refine x_aload_n_ext d_Law_law_569 rfl ?_
  refine x_iload_n d_Law_law_570 rfl ?_
  refine x_iconst (v := 2) d_Law_law_571 (by decide) ?_
  refine x_iadd d_Law_law_572 ?_
  refine x_sld d_Law_law_573 ?_
  refine x_aload_n_ext d_Law_law_574 rfl ?_
  refine x_iload_n d_Law_law_575 rfl ?_
  refine x_iconst (v := 3) d_Law_law_576 (by decide) ?_
  refine x_iadd d_Law_law_577 ?_
  refine x_sld d_Law_law_578 ?_
  refine x_vI (As := [.int (xs (ix (c3 + 1))), .int (xs (ix (c3 + 2))), .int (xs (ix (c3 + 3)))]) d_Law_law_579 mv_Law_63 rfl (fun _ => ak_70) rfl (q99 (by decide)) ⟨Nat.le_of_ble_eq_true rfl, Nat.le_of_ble_eq_true rfl⟩ (Nat.le_of_ble_eq_true rfl) ⟨by show (k + 0) + 0 ≤ 600000; omega, by show (z + 0) + 0 ≤ 7302250; omega⟩ (fun _ h => h) (fun h => ⟨h, c_Md_swap (xs (ix (c3 + 1))) (xs (ix (c3 + 2))) (xs (ix (c3 + 3))) _⟩) (fun r2 S2 => ?_)
  refine x_icmp_eq (tgt := 1013) d_Law_law_582 (by decide) (fun _ => ?_) (fun _ => V.none)
  exact V.wid (kJ S2) (by show ((k + 0) + 0) ≤ k + 8; omega) (by show ((z + 0) + 0) ≤ z + 265; omega)
noncomputable def f_law_11 (L : Nat) (xs : Nat → Int32) (J : AS → Option AS) (c3 : Int32) (S : AS) : Option AS := chk (vp_in (c3 + 1) L) <| bI (f_Chan_disprove (xs (ix (c3 + 1))) S) fun r1 S1 => chk (vp_in (c3 + 1) L) <| bI (f_Md_disprove (xs (ix (c3 + 1))) S1) fun r2 S2 => if r1 = r2 then J S2 else none
set_option maxHeartbeats 4000000 in
theorem v_law_11 {G : GX} {b L : Nat} {xs : Nat → Int32} (J : AS → Option AS) (c3 : Int32) (k z : Nat) (hk : k + 8 ≤ 600000) (hz : z + 265 ≤ 7302250) (kJ : ∀ T, V G md_law (QL G b) (EL G L xs) (some none) 1013 [some (.retAddr 0), some (.ref 0), some (.ref 70), some (.int c3)] [] (k + 8) (z + 265) T (J T)) (S : AS) : V G md_law (QL G b) (EL G L xs) (some none) 587 [some (.retAddr 0), some (.ref 0), some (.ref 70), some (.int c3)] [] k z S (f_law_11 L xs J c3 S) := by
  unfold f_law_11
  refine x_aload_n_ref d_Law_law_587 rfl ?_
  refine x_aload_n_ext d_Law_law_588 rfl ?_
  refine x_iload_n d_Law_law_589 rfl ?_
  refine x_iconst (v := 1) d_Law_law_590 (by decide) ?_
  refine x_iadd d_Law_law_591 ?_
  refine x_sld d_Law_law_592 ?_
  refine x_vI (As := [.int (xs (ix (c3 + 1)))]) d_Law_law_593 mv_Law_64 rfl (fun _ => ak_0) rfl (q99 (by decide)) ⟨Nat.le_of_ble_eq_true rfl, Nat.le_of_ble_eq_true rfl⟩ (Nat.le_of_ble_eq_true rfl) ⟨by show k + 0 ≤ 600000; omega, by show z + 0 ≤ 7302250; omega⟩ (fun _ h => h) (fun h => ⟨h, c_Chan_disprove (xs (ix (c3 + 1))) _⟩) (fun r1 S1 => ?_)
  refine x_aload_n_ref d_Law_law_596 rfl ?_
  refine x_aload_n_ext d_Law_law_597 rfl ?_
  refine x_iload_n d_Law_law_598 rfl ?_
  refine x_iconst (v := 1) d_Law_law_599 (by decide) ?_
  refine x_iadd d_Law_law_600 ?_
  refine x_sld d_Law_law_601 ?_
  refine x_vI (As := [.int (xs (ix (c3 + 1)))]) d_Law_law_602 mv_Law_67 rfl (fun _ => ak_70) rfl (q99 (by decide)) ⟨Nat.le_of_ble_eq_true rfl, Nat.le_of_ble_eq_true rfl⟩ (Nat.le_of_ble_eq_true rfl) ⟨by show (k + 0) + 0 ≤ 600000; omega, by show (z + 0) + 0 ≤ 7302250; omega⟩ (fun _ h => h) (fun h => ⟨h, c_Md_disprove (xs (ix (c3 + 1))) _⟩) (fun r2 S2 => ?_)
  refine x_icmp_eq (tgt := 1013) d_Law_law_605 (by decide) (fun _ => ?_) (fun _ => V.none)
  exact V.wid (kJ S2) (by show ((k + 0) + 0) ≤ k + 8; omega) (by show ((z + 0) + 0) ≤ z + 265; omega)
noncomputable def f_law_12 (L : Nat) (xs : Nat → Int32) (J : AS → Option AS) (c3 : Int32) (S : AS) : Option AS := chk (vp_in (c3 + 1) L) <| bI (f_Chan_as (xs (ix (c3 + 1))) S) fun r1 S1 => chk (vp_in (c3 + 1) L) <| bI (f_Md_as (xs (ix (c3 + 1))) S1) fun r2 S2 => if r1 = r2 then J S2 else none
set_option maxHeartbeats 4000000 in
theorem v_law_12 {G : GX} {b L : Nat} {xs : Nat → Int32} (J : AS → Option AS) (c3 : Int32) (k z : Nat) (hk : k + 8 ≤ 600000) (hz : z + 265 ≤ 7302250) (kJ : ∀ T, V G md_law (QL G b) (EL G L xs) (some none) 1013 [some (.retAddr 0), some (.ref 0), some (.ref 70), some (.int c3)] [] (k + 8) (z + 265) T (J T)) (S : AS) : V G md_law (QL G b) (EL G L xs) (some none) 610 [some (.retAddr 0), some (.ref 0), some (.ref 70), some (.int c3)] [] k z S (f_law_12 L xs J c3 S) := by
  unfold f_law_12
  refine x_aload_n_ref d_Law_law_610 rfl ?_
  refine x_aload_n_ext d_Law_law_611 rfl ?_
  refine x_iload_n d_Law_law_612 rfl ?_
  refine x_iconst (v := 1) d_Law_law_613 (by decide) ?_
  refine x_iadd d_Law_law_614 ?_
  refine x_sld d_Law_law_615 ?_
  refine x_vI (As := [.int (xs (ix (c3 + 1)))]) d_Law_law_616 mv_Law_68 rfl (fun _ => ak_0) rfl (q99 (by decide)) ⟨Nat.le_of_ble_eq_true rfl, Nat.le_of_ble_eq_true rfl⟩ (Nat.le_of_ble_eq_true rfl) ⟨by show k + 0 ≤ 600000; omega, by show z + 0 ≤ 7302250; omega⟩ (fun _ h => h) (fun h => ⟨h, c_Chan_as (xs (ix (c3 + 1))) _⟩) (fun r1 S1 => ?_)
  refine x_aload_n_ref d_Law_law_619 rfl ?_
  refine x_aload_n_ext d_Law_law_620 rfl ?_
  refine x_iload_n d_Law_law_621 rfl ?_
  refine x_iconst (v := 1) d_Law_law_622 (by decide) ?_
  refine x_iadd d_Law_law_623 ?_
  refine x_sld d_Law_law_624 ?_
  refine x_vI (As := [.int (xs (ix (c3 + 1)))]) d_Law_law_625 mv_Law_71 rfl (fun _ => ak_70) rfl (q99 (by decide)) ⟨Nat.le_of_ble_eq_true rfl, Nat.le_of_ble_eq_true rfl⟩ (Nat.le_of_ble_eq_true rfl) ⟨by show (k + 0) + 0 ≤ 600000; omega, by show (z + 0) + 0 ≤ 7302250; omega⟩ (fun _ h => h) (fun h => ⟨h, c_Md_as (xs (ix (c3 + 1))) _⟩) (fun r2 S2 => ?_)
  refine x_icmp_eq (tgt := 1013) d_Law_law_628 (by decide) (fun _ => ?_) (fun _ => V.none)
  exact V.wid (kJ S2) (by show ((k + 0) + 0) ≤ k + 8; omega) (by show ((z + 0) + 0) ≤ z + 265; omega)
noncomputable def f_law_13 (L : Nat) (xs : Nat → Int32) (J : AS → Option AS) (c3 : Int32) (S : AS) : Option AS := chk (vp_in (c3 + 1) L) <| chk (vp_in (c3 + 2) L) <| bI (f_Chan_holder (xs (ix (c3 + 1))) (xs (ix (c3 + 2))) S) fun r1 S1 => chk (vp_in (c3 + 1) L) <| chk (vp_in (c3 + 2) L) <| bI (f_Md_holder (xs (ix (c3 + 1))) (xs (ix (c3 + 2))) S1) fun r2 S2 => if r1 = r2 then J S2 else none
set_option maxHeartbeats 4000000 in
theorem v_law_13 {G : GX} {b L : Nat} {xs : Nat → Int32} (J : AS → Option AS) (c3 : Int32) (k z : Nat) (hk : k + 8 ≤ 600000) (hz : z + 265 ≤ 7302250) (kJ : ∀ T, V G md_law (QL G b) (EL G L xs) (some none) 1013 [some (.retAddr 0), some (.ref 0), some (.ref 70), some (.int c3)] [] (k + 8) (z + 265) T (J T)) (S : AS) : V G md_law (QL G b) (EL G L xs) (some none) 633 [some (.retAddr 0), some (.ref 0), some (.ref 70), some (.int c3)] [] k z S (f_law_13 L xs J c3 S) := by
  unfold f_law_13
  refine x_aload_n_ref d_Law_law_633 rfl ?_
  refine x_aload_n_ext d_Law_law_634 rfl ?_
  refine x_iload_n d_Law_law_635 rfl ?_
  refine x_iconst (v := 1) d_Law_law_636 (by decide) ?_
  refine x_iadd d_Law_law_637 ?_
  refine x_sld d_Law_law_638 ?_
  refine x_aload_n_ext d_Law_law_639 rfl ?_
  refine x_iload_n d_Law_law_640 rfl ?_
  refine x_iconst (v := 2) d_Law_law_641 (by decide) ?_
  refine x_iadd d_Law_law_642 ?_
  refine x_sld d_Law_law_643 ?_
  refine x_vI (As := [.int (xs (ix (c3 + 1))), .int (xs (ix (c3 + 2)))]) d_Law_law_644 mv_Law_72 rfl (fun _ => ak_0) rfl (q99 (by decide)) ⟨Nat.le_of_ble_eq_true rfl, Nat.le_of_ble_eq_true rfl⟩ (Nat.le_of_ble_eq_true rfl) ⟨by show k + 0 ≤ 600000; omega, by show z + 0 ≤ 7302250; omega⟩ (fun _ h => h) (fun h => ⟨h, c_Chan_holder (xs (ix (c3 + 1))) (xs (ix (c3 + 2))) _⟩) (fun r1 S1 => ?_)
  refine x_aload_n_ref d_Law_law_647 rfl ?_
  refine x_aload_n_ext d_Law_law_648 rfl ?_
  refine x_iload_n d_Law_law_649 rfl ?_
  refine x_iconst (v := 1) d_Law_law_650 (by decide) ?_
  refine x_iadd d_Law_law_651 ?_
  refine x_sld d_Law_law_652 ?_
  refine x_aload_n_ext d_Law_law_653 rfl ?_
  refine x_iload_n d_Law_law_654 rfl ?_
  refine x_iconst (v := 2) d_Law_law_655 (by decide) ?_
  refine x_iadd d_Law_law_656 ?_
  refine x_sld d_Law_law_657 ?_
  refine x_vI (As := [.int (xs (ix (c3 + 1))), .int (xs (ix (c3 + 2)))]) d_Law_law_658 mv_Law_75 rfl (fun _ => ak_70) rfl (q99 (by decide)) ⟨Nat.le_of_ble_eq_true rfl, Nat.le_of_ble_eq_true rfl⟩ (Nat.le_of_ble_eq_true rfl) ⟨by show (k + 0) + 0 ≤ 600000; omega, by show (z + 0) + 0 ≤ 7302250; omega⟩ (fun _ h => h) (fun h => ⟨h, c_Md_holder (xs (ix (c3 + 1))) (xs (ix (c3 + 2))) _⟩) (fun r2 S2 => ?_)
  refine x_icmp_eq (tgt := 1013) d_Law_law_661 (by decide) (fun _ => ?_) (fun _ => V.none)
  exact V.wid (kJ S2) (by show ((k + 0) + 0) ≤ k + 8; omega) (by show ((z + 0) + 0) ≤ z + 265; omega)
noncomputable def f_law_14 (L : Nat) (xs : Nat → Int32) (J : AS → Option AS) (c3 : Int32) (S : AS) : Option AS := chk (vp_in (c3 + 1) L) <| chk (vp_in (c3 + 2) L) <| bI (f_Chan_paperOf (xs (ix (c3 + 1))) (xs (ix (c3 + 2))) S) fun r1 S1 => chk (vp_in (c3 + 1) L) <| chk (vp_in (c3 + 2) L) <| bI (f_Md_paperOf (xs (ix (c3 + 1))) (xs (ix (c3 + 2))) S1) fun r2 S2 => if r1 = r2 then J S2 else none
set_option maxHeartbeats 4000000 in
theorem v_law_14 {G : GX} {b L : Nat} {xs : Nat → Int32} (J : AS → Option AS) (c3 : Int32) (k z : Nat) (hk : k + 8 ≤ 600000) (hz : z + 265 ≤ 7302250) (kJ : ∀ T, V G md_law (QL G b) (EL G L xs) (some none) 1013 [some (.retAddr 0), some (.ref 0), some (.ref 70), some (.int c3)] [] (k + 8) (z + 265) T (J T)) (S : AS) : V G md_law (QL G b) (EL G L xs) (some none) 666 [some (.retAddr 0), some (.ref 0), some (.ref 70), some (.int c3)] [] k z S (f_law_14 L xs J c3 S) := by
  unfold f_law_14
  refine x_aload_n_ref d_Law_law_666 rfl ?_
  refine x_aload_n_ext d_Law_law_667 rfl ?_
  refine x_iload_n d_Law_law_668 rfl ?_
  refine x_iconst (v := 1) d_Law_law_669 (by decide) ?_
  refine x_iadd d_Law_law_670 ?_
  refine x_sld d_Law_law_671 ?_
  refine x_aload_n_ext d_Law_law_672 rfl ?_
  refine x_iload_n d_Law_law_673 rfl ?_
  refine x_iconst (v := 2) d_Law_law_674 (by decide) ?_
  refine x_iadd d_Law_law_675 ?_
  refine x_sld d_Law_law_676 ?_
  refine x_vI (As := [.int (xs (ix (c3 + 1))), .int (xs (ix (c3 + 2)))]) d_Law_law_677 mv_Law_76 rfl (fun _ => ak_0) rfl (q99 (by decide)) ⟨Nat.le_of_ble_eq_true rfl, Nat.le_of_ble_eq_true rfl⟩ (Nat.le_of_ble_eq_true rfl) ⟨by show k + 0 ≤ 600000; omega, by show z + 0 ≤ 7302250; omega⟩ (fun _ h => h) (fun h => ⟨h, c_Chan_paperOf (xs (ix (c3 + 1))) (xs (ix (c3 + 2))) _⟩) (fun r1 S1 => ?_)
  refine x_aload_n_ref d_Law_law_680 rfl ?_
  refine x_aload_n_ext d_Law_law_681 rfl ?_
  refine x_iload_n d_Law_law_682 rfl ?_
  refine x_iconst (v := 1) d_Law_law_683 (by decide) ?_
  refine x_iadd d_Law_law_684 ?_
  refine x_sld d_Law_law_685 ?_
  refine x_aload_n_ext d_Law_law_686 rfl ?_
  refine x_iload_n d_Law_law_687 rfl ?_
  refine x_iconst (v := 2) d_Law_law_688 (by decide) ?_
  refine x_iadd d_Law_law_689 ?_
  refine x_sld d_Law_law_690 ?_
  refine x_vI (As := [.int (xs (ix (c3 + 1))), .int (xs (ix (c3 + 2)))]) d_Law_law_691 mv_Law_79 rfl (fun _ => ak_70) rfl (q99 (by decide)) ⟨Nat.le_of_ble_eq_true rfl, Nat.le_of_ble_eq_true rfl⟩ (Nat.le_of_ble_eq_true rfl) ⟨by show (k + 0) + 0 ≤ 600000; omega, by show (z + 0) + 0 ≤ 7302250; omega⟩ (fun _ h => h) (fun h => ⟨h, c_Md_paperOf (xs (ix (c3 + 1))) (xs (ix (c3 + 2))) _⟩) (fun r2 S2 => ?_)
  refine x_icmp_eq (tgt := 1013) d_Law_law_694 (by decide) (fun _ => ?_) (fun _ => V.none)
  exact V.wid (kJ S2) (by show ((k + 0) + 0) ≤ k + 8; omega) (by show ((z + 0) + 0) ≤ z + 265; omega)
noncomputable def f_law_15 (L : Nat) (xs : Nat → Int32) (J : AS → Option AS) (c3 : Int32) (S : AS) : Option AS := chk (vp_in (c3 + 1) L) <| chk (vp_in (c3 + 2) L) <| bI (f_Chan_posts (xs (ix (c3 + 1))) (xs (ix (c3 + 2))) S) fun r1 S1 => chk (vp_in (c3 + 1) L) <| chk (vp_in (c3 + 2) L) <| bI (f_Md_posts (xs (ix (c3 + 1))) (xs (ix (c3 + 2))) S1) fun r2 S2 => if r1 = r2 then J S2 else none
set_option maxHeartbeats 4000000 in
theorem v_law_15 {G : GX} {b L : Nat} {xs : Nat → Int32} (J : AS → Option AS) (c3 : Int32) (k z : Nat) (hk : k + 8 ≤ 600000) (hz : z + 265 ≤ 7302250) (kJ : ∀ T, V G md_law (QL G b) (EL G L xs) (some none) 1013 [some (.retAddr 0), some (.ref 0), some (.ref 70), some (.int c3)] [] (k + 8) (z + 265) T (J T)) (S : AS) : V G md_law (QL G b) (EL G L xs) (some none) 699 [some (.retAddr 0), some (.ref 0), some (.ref 70), some (.int c3)] [] k z S (f_law_15 L xs J c3 S) := by
  unfold f_law_15
  refine x_aload_n_ref d_Law_law_699 rfl ?_
  refine x_aload_n_ext d_Law_law_700 rfl ?_
  refine x_iload_n d_Law_law_701 rfl ?_
  refine x_iconst (v := 1) d_Law_law_702 (by decide) ?_
  refine x_iadd d_Law_law_703 ?_
  refine x_sld d_Law_law_704 ?_
  refine x_aload_n_ext d_Law_law_705 rfl ?_
  refine x_iload_n d_Law_law_706 rfl ?_
  refine x_iconst (v := 2) d_Law_law_707 (by decide) ?_
  refine x_iadd d_Law_law_708 ?_
  refine x_sld d_Law_law_709 ?_
  refine x_vI (As := [.int (xs (ix (c3 + 1))), .int (xs (ix (c3 + 2)))]) d_Law_law_710 mv_Law_80 rfl (fun _ => ak_0) rfl (q99 (by decide)) ⟨Nat.le_of_ble_eq_true rfl, Nat.le_of_ble_eq_true rfl⟩ (Nat.le_of_ble_eq_true rfl) ⟨by show k + 0 ≤ 600000; omega, by show z + 0 ≤ 7302250; omega⟩ (fun _ h => h) (fun h => ⟨h, c_Chan_posts (xs (ix (c3 + 1))) (xs (ix (c3 + 2))) _⟩) (fun r1 S1 => ?_)
  refine x_aload_n_ref d_Law_law_713 rfl ?_
  refine x_aload_n_ext d_Law_law_714 rfl ?_
  refine x_iload_n d_Law_law_715 rfl ?_
  refine x_iconst (v := 1) d_Law_law_716 (by decide) ?_
  refine x_iadd d_Law_law_717 ?_
  refine x_sld d_Law_law_718 ?_
  refine x_aload_n_ext d_Law_law_719 rfl ?_
  refine x_iload_n d_Law_law_720 rfl ?_
  refine x_iconst (v := 2) d_Law_law_721 (by decide) ?_
  refine x_iadd d_Law_law_722 ?_
  refine x_sld d_Law_law_723 ?_
  refine x_vI (As := [.int (xs (ix (c3 + 1))), .int (xs (ix (c3 + 2)))]) d_Law_law_724 mv_Law_83 rfl (fun _ => ak_70) rfl (q99 (by decide)) ⟨Nat.le_of_ble_eq_true rfl, Nat.le_of_ble_eq_true rfl⟩ (Nat.le_of_ble_eq_true rfl) ⟨by show (k + 0) + 0 ≤ 600000; omega, by show (z + 0) + 0 ≤ 7302250; omega⟩ (fun _ h => h) (fun h => ⟨h, c_Md_posts (xs (ix (c3 + 1))) (xs (ix (c3 + 2))) _⟩) (fun r2 S2 => ?_)
  refine x_icmp_eq (tgt := 1013) d_Law_law_727 (by decide) (fun _ => ?_) (fun _ => V.none)
  exact V.wid (kJ S2) (by show ((k + 0) + 0) ≤ k + 8; omega) (by show ((z + 0) + 0) ≤ z + 265; omega)
noncomputable def f_law_16 (L : Nat) (xs : Nat → Int32) (J : AS → Option AS) (c3 : Int32) (S : AS) : Option AS := chk (vp_in (c3 + 1) L) <| chk (vp_in (c3 + 2) L) <| bL (f_Chan_due (xs (ix (c3 + 1))) (xs (ix (c3 + 2))) S) fun r1 S1 => chk (vp_in (c3 + 1) L) <| chk (vp_in (c3 + 2) L) <| bL (f_Md_due (xs (ix (c3 + 1))) (xs (ix (c3 + 2))) S1) fun r2 S2 => if (lg_cmp r1 r2) = 0 then J S2 else none
set_option maxHeartbeats 4000000 in
theorem v_law_16 {G : GX} {b L : Nat} {xs : Nat → Int32} (J : AS → Option AS) (c3 : Int32) (k z : Nat) (hk : k + 8 ≤ 600000) (hz : z + 265 ≤ 7302250) (kJ : ∀ T, V G md_law (QL G b) (EL G L xs) (some none) 1013 [some (.retAddr 0), some (.ref 0), some (.ref 70), some (.int c3)] [] (k + 8) (z + 265) T (J T)) (S : AS) : V G md_law (QL G b) (EL G L xs) (some none) 732 [some (.retAddr 0), some (.ref 0), some (.ref 70), some (.int c3)] [] k z S (f_law_16 L xs J c3 S) := by
  unfold f_law_16
  refine x_aload_n_ref d_Law_law_732 rfl ?_
  refine x_aload_n_ext d_Law_law_733 rfl ?_
  refine x_iload_n d_Law_law_734 rfl ?_
  refine x_iconst (v := 1) d_Law_law_735 (by decide) ?_
  refine x_iadd d_Law_law_736 ?_
  refine x_sld d_Law_law_737 ?_
  refine x_aload_n_ext d_Law_law_738 rfl ?_
  refine x_iload_n d_Law_law_739 rfl ?_
  refine x_iconst (v := 2) d_Law_law_740 (by decide) ?_
  refine x_iadd d_Law_law_741 ?_
  refine x_sld d_Law_law_742 ?_
  refine x_vL (As := [.int (xs (ix (c3 + 1))), .int (xs (ix (c3 + 2)))]) d_Law_law_743 mv_Law_84 rfl (fun _ => ak_0) rfl (q99 (by decide)) ⟨Nat.le_of_ble_eq_true rfl, Nat.le_of_ble_eq_true rfl⟩ (Nat.le_of_ble_eq_true rfl) ⟨by show k + 0 ≤ 600000; omega, by show z + 0 ≤ 7302250; omega⟩ (fun _ h => h) (fun h => ⟨h, c_Chan_due (xs (ix (c3 + 1))) (xs (ix (c3 + 2))) _⟩) (fun r1 S1 => ?_)
  refine x_aload_n_ref d_Law_law_746 rfl ?_
  refine x_aload_n_ext d_Law_law_747 rfl ?_
  refine x_iload_n d_Law_law_748 rfl ?_
  refine x_iconst (v := 1) d_Law_law_749 (by decide) ?_
  refine x_iadd d_Law_law_750 ?_
  refine x_sld d_Law_law_751 ?_
  refine x_aload_n_ext d_Law_law_752 rfl ?_
  refine x_iload_n d_Law_law_753 rfl ?_
  refine x_iconst (v := 2) d_Law_law_754 (by decide) ?_
  refine x_iadd d_Law_law_755 ?_
  refine x_sld d_Law_law_756 ?_
  refine x_vL (As := [.int (xs (ix (c3 + 1))), .int (xs (ix (c3 + 2)))]) d_Law_law_757 mv_Law_88 rfl (fun _ => ak_70) rfl (q99 (by decide)) ⟨Nat.le_of_ble_eq_true rfl, Nat.le_of_ble_eq_true rfl⟩ (Nat.le_of_ble_eq_true rfl) ⟨by show (k + 0) + 0 ≤ 600000; omega, by show (z + 0) + 0 ≤ 7302250; omega⟩ (fun _ h => h) (fun h => ⟨h, c_Md_due (xs (ix (c3 + 1))) (xs (ix (c3 + 2))) _⟩) (fun r2 S2 => ?_)
  refine x_lcmp d_Law_law_760 ?_
  refine x_if_eq (tgt := 1013) d_Law_law_761 (by decide) (fun _ => ?_) (fun _ => V.none)
  exact V.wid (kJ S2) (by show ((k + 0) + 0) ≤ k + 8; omega) (by show ((z + 0) + 0) ≤ z + 265; omega)
noncomputable def f_law_17 (L : Nat) (xs : Nat → Int32) (J : AS → Option AS) (c3 : Int32) (S : AS) : Option AS := chk (vp_in (c3 + 1) L) <| chk (vp_in (c3 + 2) L) <| bI (f_Chan_claims (xs (ix (c3 + 1))) (xs (ix (c3 + 2))) S) fun r1 S1 => chk (vp_in (c3 + 1) L) <| chk (vp_in (c3 + 2) L) <| bI (f_Md_claims (xs (ix (c3 + 1))) (xs (ix (c3 + 2))) S1) fun r2 S2 => if r1 = r2 then J S2 else none
set_option maxHeartbeats 4000000 in
theorem v_law_17 {G : GX} {b L : Nat} {xs : Nat → Int32} (J : AS → Option AS) (c3 : Int32) (k z : Nat) (hk : k + 8 ≤ 600000) (hz : z + 265 ≤ 7302250) (kJ : ∀ T, V G md_law (QL G b) (EL G L xs) (some none) 1013 [some (.retAddr 0), some (.ref 0), some (.ref 70), some (.int c3)] [] (k + 8) (z + 265) T (J T)) (S : AS) : V G md_law (QL G b) (EL G L xs) (some none) 766 [some (.retAddr 0), some (.ref 0), some (.ref 70), some (.int c3)] [] k z S (f_law_17 L xs J c3 S) := by
  unfold f_law_17
  refine x_aload_n_ref d_Law_law_766 rfl ?_
  refine x_aload_n_ext d_Law_law_767 rfl ?_
  refine x_iload_n d_Law_law_768 rfl ?_
  refine x_iconst (v := 1) d_Law_law_769 (by decide) ?_
  refine x_iadd d_Law_law_770 ?_
  refine x_sld d_Law_law_771 ?_
  refine x_aload_n_ext d_Law_law_772 rfl ?_
  refine x_iload_n d_Law_law_773 rfl ?_
  refine x_iconst (v := 2) d_Law_law_774 (by decide) ?_
  refine x_iadd d_Law_law_775 ?_
  refine x_sld d_Law_law_776 ?_
  refine x_vI (As := [.int (xs (ix (c3 + 1))), .int (xs (ix (c3 + 2)))]) d_Law_law_777 mv_Law_89 rfl (fun _ => ak_0) rfl (q99 (by decide)) ⟨Nat.le_of_ble_eq_true rfl, Nat.le_of_ble_eq_true rfl⟩ (Nat.le_of_ble_eq_true rfl) ⟨by show k + 0 ≤ 600000; omega, by show z + 0 ≤ 7302250; omega⟩ (fun _ h => h) (fun h => ⟨h, c_Chan_claims (xs (ix (c3 + 1))) (xs (ix (c3 + 2))) _⟩) (fun r1 S1 => ?_)
  refine x_aload_n_ref d_Law_law_780 rfl ?_
  refine x_aload_n_ext d_Law_law_781 rfl ?_
  refine x_iload_n d_Law_law_782 rfl ?_
  refine x_iconst (v := 1) d_Law_law_783 (by decide) ?_
  refine x_iadd d_Law_law_784 ?_
  refine x_sld d_Law_law_785 ?_
  refine x_aload_n_ext d_Law_law_786 rfl ?_
  refine x_iload_n d_Law_law_787 rfl ?_
  refine x_iconst (v := 2) d_Law_law_788 (by decide) ?_
  refine x_iadd d_Law_law_789 ?_
  refine x_sld d_Law_law_790 ?_
  refine x_vI (As := [.int (xs (ix (c3 + 1))), .int (xs (ix (c3 + 2)))]) d_Law_law_791 mv_Law_92 rfl (fun _ => ak_70) rfl (q99 (by decide)) ⟨Nat.le_of_ble_eq_true rfl, Nat.le_of_ble_eq_true rfl⟩ (Nat.le_of_ble_eq_true rfl) ⟨by show (k + 0) + 0 ≤ 600000; omega, by show (z + 0) + 0 ≤ 7302250; omega⟩ (fun _ h => h) (fun h => ⟨h, c_Md_claims (xs (ix (c3 + 1))) (xs (ix (c3 + 2))) _⟩) (fun r2 S2 => ?_)
  refine x_icmp_eq (tgt := 1013) d_Law_law_794 (by decide) (fun _ => ?_) (fun _ => V.none)
  exact V.wid (kJ S2) (by show ((k + 0) + 0) ≤ k + 8; omega) (by show ((z + 0) + 0) ≤ z + 265; omega)
noncomputable def f_law_18 (L : Nat) (xs : Nat → Int32) (J : AS → Option AS) (c3 : Int32) (S : AS) : Option AS := chk (vp_in (c3 + 1) L) <| bI (f_Chan_claim (xs (ix (c3 + 1))) S) fun r1 S1 => chk (vp_in (c3 + 1) L) <| bI (f_Md_claim (xs (ix (c3 + 1))) S1) fun r2 S2 => if r1 = r2 then J S2 else none
set_option maxHeartbeats 4000000 in
theorem v_law_18 {G : GX} {b L : Nat} {xs : Nat → Int32} (J : AS → Option AS) (c3 : Int32) (k z : Nat) (hk : k + 8 ≤ 600000) (hz : z + 265 ≤ 7302250) (kJ : ∀ T, V G md_law (QL G b) (EL G L xs) (some none) 1013 [some (.retAddr 0), some (.ref 0), some (.ref 70), some (.int c3)] [] (k + 8) (z + 265) T (J T)) (S : AS) : V G md_law (QL G b) (EL G L xs) (some none) 799 [some (.retAddr 0), some (.ref 0), some (.ref 70), some (.int c3)] [] k z S (f_law_18 L xs J c3 S) := by
  unfold f_law_18
  refine x_aload_n_ref d_Law_law_799 rfl ?_
  refine x_aload_n_ext d_Law_law_800 rfl ?_
  refine x_iload_n d_Law_law_801 rfl ?_
  refine x_iconst (v := 1) d_Law_law_802 (by decide) ?_
  refine x_iadd d_Law_law_803 ?_
  refine x_sld d_Law_law_804 ?_
  refine x_vI (As := [.int (xs (ix (c3 + 1)))]) d_Law_law_805 mv_Law_93 rfl (fun _ => ak_0) rfl (q99 (by decide)) ⟨Nat.le_of_ble_eq_true rfl, Nat.le_of_ble_eq_true rfl⟩ (Nat.le_of_ble_eq_true rfl) ⟨by show k + 0 ≤ 600000; omega, by show z + 0 ≤ 7302250; omega⟩ (fun _ h => h) (fun h => ⟨h, c_Chan_claim (xs (ix (c3 + 1))) _⟩) (fun r1 S1 => ?_)
  refine x_aload_n_ref d_Law_law_808 rfl ?_
  refine x_aload_n_ext d_Law_law_809 rfl ?_
  refine x_iload_n d_Law_law_810 rfl ?_
  refine x_iconst (v := 1) d_Law_law_811 (by decide) ?_
  refine x_iadd d_Law_law_812 ?_
  refine x_sld d_Law_law_813 ?_
  refine x_vI (As := [.int (xs (ix (c3 + 1)))]) d_Law_law_814 mv_Law_96 rfl (fun _ => ak_70) rfl (q99 (by decide)) ⟨Nat.le_of_ble_eq_true rfl, Nat.le_of_ble_eq_true rfl⟩ (Nat.le_of_ble_eq_true rfl) ⟨by show (k + 0) + 0 ≤ 600000; omega, by show (z + 0) + 0 ≤ 7302250; omega⟩ (fun _ h => h) (fun h => ⟨h, c_Md_claim (xs (ix (c3 + 1))) _⟩) (fun r2 S2 => ?_)
  refine x_icmp_eq (tgt := 1013) d_Law_law_817 (by decide) (fun _ => ?_) (fun _ => V.none)
  exact V.wid (kJ S2) (by show ((k + 0) + 0) ≤ k + 8; omega) (by show ((z + 0) + 0) ≤ z + 265; omega)
noncomputable def f_law_19 (L : Nat) (xs : Nat → Int32) (J : AS → Option AS) (c3 : Int32) (S : AS) : Option AS := chk (vp_in (c3 + 1) L) <| chk (vp_in (c3 + 2) L) <| chk (vp_in (c3 + 3) L) <| chk (vp_in (c3 + 4) L) <| bI (f_Chan_by (xs (ix (c3 + 1))) (xs (ix (c3 + 2))) (xs (ix (c3 + 3))) (xs (ix (c3 + 4))) S) fun r1 S1 => chk (vp_in (c3 + 1) L) <| chk (vp_in (c3 + 2) L) <| chk (vp_in (c3 + 3) L) <| chk (vp_in (c3 + 4) L) <| bI (f_Md_by (xs (ix (c3 + 1))) (xs (ix (c3 + 2))) (xs (ix (c3 + 3))) (xs (ix (c3 + 4))) S1) fun r2 S2 => if r1 = r2 then J S2 else none
set_option maxHeartbeats 4000000 in
theorem v_law_19 {G : GX} {b L : Nat} {xs : Nat → Int32} (J : AS → Option AS) (c3 : Int32) (k z : Nat) (hk : k + 8 ≤ 600000) (hz : z + 265 ≤ 7302250) (kJ : ∀ T, V G md_law (QL G b) (EL G L xs) (some none) 1013 [some (.retAddr 0), some (.ref 0), some (.ref 70), some (.int c3)] [] (k + 8) (z + 265) T (J T)) (S : AS) : V G md_law (QL G b) (EL G L xs) (some none) 822 [some (.retAddr 0), some (.ref 0), some (.ref 70), some (.int c3)] [] k z S (f_law_19 L xs J c3 S) := by
  unfold f_law_19
  refine x_aload_n_ref d_Law_law_822 rfl ?_
  refine x_aload_n_ext d_Law_law_823 rfl ?_
  refine x_iload_n d_Law_law_824 rfl ?_
  refine x_iconst (v := 1) d_Law_law_825 (by decide) ?_
  refine x_iadd d_Law_law_826 ?_
  refine x_sld d_Law_law_827 ?_
  refine x_aload_n_ext d_Law_law_828 rfl ?_
  refine x_iload_n d_Law_law_829 rfl ?_
  refine x_iconst (v := 2) d_Law_law_830 (by decide) ?_
  refine x_iadd d_Law_law_831 ?_
  refine x_sld d_Law_law_832 ?_
  refine x_aload_n_ext d_Law_law_833 rfl ?_
  refine x_iload_n d_Law_law_834 rfl ?_
  refine x_iconst (v := 3) d_Law_law_835 (by decide) ?_
  refine x_iadd d_Law_law_836 ?_
  refine x_sld d_Law_law_837 ?_
  refine x_aload_n_ext d_Law_law_838 rfl ?_
  refine x_iload_n d_Law_law_839 rfl ?_
  refine x_iconst (v := 4) d_Law_law_840 (by decide) ?_
  refine x_iadd d_Law_law_841 ?_
  refine x_sld d_Law_law_842 ?_
  refine x_vI (As := [.int (xs (ix (c3 + 1))), .int (xs (ix (c3 + 2))), .int (xs (ix (c3 + 3))), .int (xs (ix (c3 + 4)))]) d_Law_law_843 mv_Law_97 rfl (fun _ => ak_0) rfl (q99 (by decide)) ⟨Nat.le_of_ble_eq_true rfl, Nat.le_of_ble_eq_true rfl⟩ (Nat.le_of_ble_eq_true rfl) ⟨by show k + 0 ≤ 600000; omega, by show z + 0 ≤ 7302250; omega⟩ (fun _ h => h) (fun h => ⟨h, c_Chan_by (xs (ix (c3 + 1))) (xs (ix (c3 + 2))) (xs (ix (c3 + 3))) (xs (ix (c3 + 4))) _⟩) (fun r1 S1 => ?_)
  refine x_aload_n_ref d_Law_law_846 rfl ?_
  refine x_aload_n_ext d_Law_law_847 rfl ?_
  refine x_iload_n d_Law_law_848 rfl ?_
  refine x_iconst (v := 1) d_Law_law_849 (by decide) ?_
  refine x_iadd d_Law_law_850 ?_
  refine x_sld d_Law_law_851 ?_
  refine x_aload_n_ext d_Law_law_852 rfl ?_
  refine x_iload_n d_Law_law_853 rfl ?_
  refine x_iconst (v := 2) d_Law_law_854 (by decide) ?_
  refine x_iadd d_Law_law_855 ?_
  refine x_sld d_Law_law_856 ?_
  refine x_aload_n_ext d_Law_law_857 rfl ?_
  refine x_iload_n d_Law_law_858 rfl ?_
  refine x_iconst (v := 3) d_Law_law_859 (by decide) ?_
  refine x_iadd d_Law_law_860 ?_
  refine x_sld d_Law_law_861 ?_
  refine x_aload_n_ext d_Law_law_862 rfl ?_
  refine x_iload_n d_Law_law_863 rfl ?_
  refine x_iconst (v := 4) d_Law_law_864 (by decide) ?_
  refine x_iadd d_Law_law_865 ?_
  refine x_sld d_Law_law_866 ?_
  refine x_vI (As := [.int (xs (ix (c3 + 1))), .int (xs (ix (c3 + 2))), .int (xs (ix (c3 + 3))), .int (xs (ix (c3 + 4)))]) d_Law_law_867 mv_Law_101 rfl (fun _ => ak_70) rfl (q99 (by decide)) ⟨Nat.le_of_ble_eq_true rfl, Nat.le_of_ble_eq_true rfl⟩ (Nat.le_of_ble_eq_true rfl) ⟨by show (k + 0) + 0 ≤ 600000; omega, by show (z + 0) + 0 ≤ 7302250; omega⟩ (fun _ h => h) (fun h => ⟨h, c_Md_by (xs (ix (c3 + 1))) (xs (ix (c3 + 2))) (xs (ix (c3 + 3))) (xs (ix (c3 + 4))) _⟩) (fun r2 S2 => ?_)
  refine x_icmp_eq (tgt := 1013) d_Law_law_870 (by decide) (fun _ => ?_) (fun _ => V.none)
  exact V.wid (kJ S2) (by show ((k + 0) + 0) ≤ k + 8; omega) (by show ((z + 0) + 0) ≤ z + 265; omega)
noncomputable def f_law_20 (L : Nat) (xs : Nat → Int32) (J : AS → Option AS) (c3 : Int32) (S : AS) : Option AS := chk (vp_in (c3 + 1) L) <| bI (f_Chan_since (xs (ix (c3 + 1))) S) fun r1 S1 => chk (vp_in (c3 + 1) L) <| bI (f_Md_since (xs (ix (c3 + 1))) S1) fun r2 S2 => if r1 = r2 then J S2 else none
set_option maxHeartbeats 4000000 in
theorem v_law_20 {G : GX} {b L : Nat} {xs : Nat → Int32} (J : AS → Option AS) (c3 : Int32) (k z : Nat) (hk : k + 8 ≤ 600000) (hz : z + 265 ≤ 7302250) (kJ : ∀ T, V G md_law (QL G b) (EL G L xs) (some none) 1013 [some (.retAddr 0), some (.ref 0), some (.ref 70), some (.int c3)] [] (k + 8) (z + 265) T (J T)) (S : AS) : V G md_law (QL G b) (EL G L xs) (some none) 875 [some (.retAddr 0), some (.ref 0), some (.ref 70), some (.int c3)] [] k z S (f_law_20 L xs J c3 S) := by
  unfold f_law_20
  refine x_aload_n_ref d_Law_law_875 rfl ?_
  refine x_aload_n_ext d_Law_law_876 rfl ?_
  refine x_iload_n d_Law_law_877 rfl ?_
  refine x_iconst (v := 1) d_Law_law_878 (by decide) ?_
  refine x_iadd d_Law_law_879 ?_
  refine x_sld d_Law_law_880 ?_
  refine x_vI (As := [.int (xs (ix (c3 + 1)))]) d_Law_law_881 mv_Law_102 rfl (fun _ => ak_0) rfl (q99 (by decide)) ⟨Nat.le_of_ble_eq_true rfl, Nat.le_of_ble_eq_true rfl⟩ (Nat.le_of_ble_eq_true rfl) ⟨by show k + 0 ≤ 600000; omega, by show z + 0 ≤ 7302250; omega⟩ (fun _ h => h) (fun h => ⟨h, c_Chan_since (xs (ix (c3 + 1))) _⟩) (fun r1 S1 => ?_)
  refine x_aload_n_ref d_Law_law_884 rfl ?_
  refine x_aload_n_ext d_Law_law_885 rfl ?_
  refine x_iload_n d_Law_law_886 rfl ?_
  refine x_iconst (v := 1) d_Law_law_887 (by decide) ?_
  refine x_iadd d_Law_law_888 ?_
  refine x_sld d_Law_law_889 ?_
  refine x_vI (As := [.int (xs (ix (c3 + 1)))]) d_Law_law_890 mv_Law_105 rfl (fun _ => ak_70) rfl (q99 (by decide)) ⟨Nat.le_of_ble_eq_true rfl, Nat.le_of_ble_eq_true rfl⟩ (Nat.le_of_ble_eq_true rfl) ⟨by show (k + 0) + 0 ≤ 600000; omega, by show (z + 0) + 0 ≤ 7302250; omega⟩ (fun _ h => h) (fun h => ⟨h, c_Md_since (xs (ix (c3 + 1))) _⟩) (fun r2 S2 => ?_)
  refine x_icmp_eq (tgt := 1013) d_Law_law_893 (by decide) (fun _ => ?_) (fun _ => V.none)
  exact V.wid (kJ S2) (by show ((k + 0) + 0) ≤ k + 8; omega) (by show ((z + 0) + 0) ≤ z + 265; omega)
noncomputable def f_law_21 (L : Nat) (xs : Nat → Int32) (J : AS → Option AS) (c3 : Int32) (S : AS) : Option AS := chk (vp_in (c3 + 1) L) <| bI (f_Chan_all (xs (ix (c3 + 1))) S) fun r1 S1 => chk (vp_in (c3 + 1) L) <| bI (f_Md_all (xs (ix (c3 + 1))) S1) fun r2 S2 => if r1 = r2 then J S2 else none
set_option maxHeartbeats 4000000 in
theorem v_law_21 {G : GX} {b L : Nat} {xs : Nat → Int32} (J : AS → Option AS) (c3 : Int32) (k z : Nat) (hk : k + 8 ≤ 600000) (hz : z + 265 ≤ 7302250) (kJ : ∀ T, V G md_law (QL G b) (EL G L xs) (some none) 1013 [some (.retAddr 0), some (.ref 0), some (.ref 70), some (.int c3)] [] (k + 8) (z + 265) T (J T)) (S : AS) : V G md_law (QL G b) (EL G L xs) (some none) 898 [some (.retAddr 0), some (.ref 0), some (.ref 70), some (.int c3)] [] k z S (f_law_21 L xs J c3 S) := by
  unfold f_law_21
  refine x_aload_n_ref d_Law_law_898 rfl ?_
  refine x_aload_n_ext d_Law_law_899 rfl ?_
  refine x_iload_n d_Law_law_900 rfl ?_
  refine x_iconst (v := 1) d_Law_law_901 (by decide) ?_
  refine x_iadd d_Law_law_902 ?_
  refine x_sld d_Law_law_903 ?_
  refine x_vI (As := [.int (xs (ix (c3 + 1)))]) d_Law_law_904 mv_Law_106 rfl (fun _ => ak_0) rfl (q99 (by decide)) ⟨Nat.le_of_ble_eq_true rfl, Nat.le_of_ble_eq_true rfl⟩ (Nat.le_of_ble_eq_true rfl) ⟨by show k + 0 ≤ 600000; omega, by show z + 0 ≤ 7302250; omega⟩ (fun _ h => h) (fun h => ⟨h, c_Chan_all (xs (ix (c3 + 1))) _⟩) (fun r1 S1 => ?_)
  refine x_aload_n_ref d_Law_law_907 rfl ?_
  refine x_aload_n_ext d_Law_law_908 rfl ?_
  refine x_iload_n d_Law_law_909 rfl ?_
  refine x_iconst (v := 1) d_Law_law_910 (by decide) ?_
  refine x_iadd d_Law_law_911 ?_
  refine x_sld d_Law_law_912 ?_
  refine x_vI (As := [.int (xs (ix (c3 + 1)))]) d_Law_law_913 mv_Law_109 rfl (fun _ => ak_70) rfl (q99 (by decide)) ⟨Nat.le_of_ble_eq_true rfl, Nat.le_of_ble_eq_true rfl⟩ (Nat.le_of_ble_eq_true rfl) ⟨by show (k + 0) + 0 ≤ 600000; omega, by show (z + 0) + 0 ≤ 7302250; omega⟩ (fun _ h => h) (fun h => ⟨h, c_Md_all (xs (ix (c3 + 1))) _⟩) (fun r2 S2 => ?_)
  refine x_icmp_eq (tgt := 1013) d_Law_law_916 (by decide) (fun _ => ?_) (fun _ => V.none)
  exact V.wid (kJ S2) (by show ((k + 0) + 0) ≤ k + 8; omega) (by show ((z + 0) + 0) ≤ z + 265; omega)
noncomputable def f_law_22 (L : Nat) (xs : Nat → Int32) (J : AS → Option AS) (c3 : Int32) (S : AS) : Option AS := chk (vp_in (c3 + 1) L) <| chk (vp_in (c3 + 2) L) <| bI (f_Chan_wish (xs (ix (c3 + 1))) (xs (ix (c3 + 2))) S) fun r1 S1 => chk (vp_in (c3 + 1) L) <| chk (vp_in (c3 + 2) L) <| bI (f_Md_wish (xs (ix (c3 + 1))) (xs (ix (c3 + 2))) S1) fun r2 S2 => if r1 = r2 then J S2 else none
set_option maxHeartbeats 4000000 in
theorem v_law_22 {G : GX} {b L : Nat} {xs : Nat → Int32} (J : AS → Option AS) (c3 : Int32) (k z : Nat) (hk : k + 8 ≤ 600000) (hz : z + 265 ≤ 7302250) (kJ : ∀ T, V G md_law (QL G b) (EL G L xs) (some none) 1013 [some (.retAddr 0), some (.ref 0), some (.ref 70), some (.int c3)] [] (k + 8) (z + 265) T (J T)) (S : AS) : V G md_law (QL G b) (EL G L xs) (some none) 921 [some (.retAddr 0), some (.ref 0), some (.ref 70), some (.int c3)] [] k z S (f_law_22 L xs J c3 S) := by
  unfold f_law_22
  refine x_aload_n_ref d_Law_law_921 rfl ?_
  refine x_aload_n_ext d_Law_law_922 rfl ?_
  refine x_iload_n d_Law_law_923 rfl ?_
  refine x_iconst (v := 1) d_Law_law_924 (by decide) ?_
  refine x_iadd d_Law_law_925 ?_
  refine x_sld d_Law_law_926 ?_
  refine x_aload_n_ext d_Law_law_927 rfl ?_
  refine x_iload_n d_Law_law_928 rfl ?_
  refine x_iconst (v := 2) d_Law_law_929 (by decide) ?_
  refine x_iadd d_Law_law_930 ?_
  refine x_sld d_Law_law_931 ?_
  refine x_vI (As := [.int (xs (ix (c3 + 1))), .int (xs (ix (c3 + 2)))]) d_Law_law_932 mv_Law_110 rfl (fun _ => ak_0) rfl (q99 (by decide)) ⟨Nat.le_of_ble_eq_true rfl, Nat.le_of_ble_eq_true rfl⟩ (Nat.le_of_ble_eq_true rfl) ⟨by show k + 0 ≤ 600000; omega, by show z + 0 ≤ 7302250; omega⟩ (fun _ h => h) (fun h => ⟨h, c_Chan_wish (xs (ix (c3 + 1))) (xs (ix (c3 + 2))) _⟩) (fun r1 S1 => ?_)
  refine x_aload_n_ref d_Law_law_935 rfl ?_
  refine x_aload_n_ext d_Law_law_936 rfl ?_
  refine x_iload_n d_Law_law_937 rfl ?_
  refine x_iconst (v := 1) d_Law_law_938 (by decide) ?_
  refine x_iadd d_Law_law_939 ?_
  refine x_sld d_Law_law_940 ?_
  refine x_aload_n_ext d_Law_law_941 rfl ?_
  refine x_iload_n d_Law_law_942 rfl ?_
  refine x_iconst (v := 2) d_Law_law_943 (by decide) ?_
  refine x_iadd d_Law_law_944 ?_
  refine x_sld d_Law_law_945 ?_
  refine x_vI (As := [.int (xs (ix (c3 + 1))), .int (xs (ix (c3 + 2)))]) d_Law_law_946 mv_Law_113 rfl (fun _ => ak_70) rfl (q99 (by decide)) ⟨Nat.le_of_ble_eq_true rfl, Nat.le_of_ble_eq_true rfl⟩ (Nat.le_of_ble_eq_true rfl) ⟨by show (k + 0) + 0 ≤ 600000; omega, by show (z + 0) + 0 ≤ 7302250; omega⟩ (fun _ h => h) (fun h => ⟨h, c_Md_wish (xs (ix (c3 + 1))) (xs (ix (c3 + 2))) _⟩) (fun r2 S2 => ?_)
  refine x_icmp_eq (tgt := 1013) d_Law_law_949 (by decide) (fun _ => ?_) (fun _ => V.none)
  exact V.wid (kJ S2) (by show ((k + 0) + 0) ≤ k + 8; omega) (by show ((z + 0) + 0) ≤ z + 265; omega)
noncomputable def f_law_23 (L : Nat) (xs : Nat → Int32) (J : AS → Option AS) (c3 : Int32) (S : AS) : Option AS := chk (vp_in (c3 + 1) L) <| bI (f_Chan_content (xs (ix (c3 + 1))) S) fun r1 S1 => chk (vp_in (c3 + 1) L) <| bI (f_Md_content (xs (ix (c3 + 1))) S1) fun r2 S2 => if r1 = r2 then J S2 else none
set_option maxHeartbeats 4000000 in
theorem v_law_23 {G : GX} {b L : Nat} {xs : Nat → Int32} (J : AS → Option AS) (c3 : Int32) (k z : Nat) (hk : k + 8 ≤ 600000) (hz : z + 265 ≤ 7302250) (kJ : ∀ T, V G md_law (QL G b) (EL G L xs) (some none) 1013 [some (.retAddr 0), some (.ref 0), some (.ref 70), some (.int c3)] [] (k + 8) (z + 265) T (J T)) (S : AS) : V G md_law (QL G b) (EL G L xs) (some none) 954 [some (.retAddr 0), some (.ref 0), some (.ref 70), some (.int c3)] [] k z S (f_law_23 L xs J c3 S) := by
  unfold f_law_23
  refine x_aload_n_ref d_Law_law_954 rfl ?_
  refine x_aload_n_ext d_Law_law_955 rfl ?_
  refine x_iload_n d_Law_law_956 rfl ?_
  refine x_iconst (v := 1) d_Law_law_957 (by decide) ?_
  refine x_iadd d_Law_law_958 ?_
  refine x_sld d_Law_law_959 ?_
  refine x_vI (As := [.int (xs (ix (c3 + 1)))]) d_Law_law_960 mv_Law_114 rfl (fun _ => ak_0) rfl (q99 (by decide)) ⟨Nat.le_of_ble_eq_true rfl, Nat.le_of_ble_eq_true rfl⟩ (Nat.le_of_ble_eq_true rfl) ⟨by show k + 0 ≤ 600000; omega, by show z + 0 ≤ 7302250; omega⟩ (fun _ h => h) (fun h => ⟨h, c_Chan_content (xs (ix (c3 + 1))) _⟩) (fun r1 S1 => ?_)
  refine x_aload_n_ref d_Law_law_963 rfl ?_
  refine x_aload_n_ext d_Law_law_964 rfl ?_
  refine x_iload_n d_Law_law_965 rfl ?_
  refine x_iconst (v := 1) d_Law_law_966 (by decide) ?_
  refine x_iadd d_Law_law_967 ?_
  refine x_sld d_Law_law_968 ?_
  refine x_vI (As := [.int (xs (ix (c3 + 1)))]) d_Law_law_969 mv_Law_117 rfl (fun _ => ak_70) rfl (q99 (by decide)) ⟨Nat.le_of_ble_eq_true rfl, Nat.le_of_ble_eq_true rfl⟩ (Nat.le_of_ble_eq_true rfl) ⟨by show (k + 0) + 0 ≤ 600000; omega, by show (z + 0) + 0 ≤ 7302250; omega⟩ (fun _ h => h) (fun h => ⟨h, c_Md_content (xs (ix (c3 + 1))) _⟩) (fun r2 S2 => ?_)
  refine x_icmp_eq (tgt := 1013) d_Law_law_972 (by decide) (fun _ => ?_) (fun _ => V.none)
  exact V.wid (kJ S2) (by show ((k + 0) + 0) ≤ k + 8; omega) (by show ((z + 0) + 0) ≤ z + 265; omega)
noncomputable def f_law_24 (L : Nat) (xs : Nat → Int32) (J : AS → Option AS) (c3 : Int32) (S : AS) : Option AS := bI (f_Chan_rings S) fun r1 S1 => bI (f_Md_rings S1) fun r2 S2 => if r1 = r2 then J S2 else none
set_option maxHeartbeats 4000000 in
theorem v_law_24 {G : GX} {b L : Nat} {xs : Nat → Int32} (J : AS → Option AS) (c3 : Int32) (k z : Nat) (hk : k + 8 ≤ 600000) (hz : z + 265 ≤ 7302250) (kJ : ∀ T, V G md_law (QL G b) (EL G L xs) (some none) 1013 [some (.retAddr 0), some (.ref 0), some (.ref 70), some (.int c3)] [] (k + 8) (z + 265) T (J T)) (S : AS) : V G md_law (QL G b) (EL G L xs) (some none) 977 [some (.retAddr 0), some (.ref 0), some (.ref 70), some (.int c3)] [] k z S (f_law_24 L xs J c3 S) := by
  unfold f_law_24
  refine x_aload_n_ref d_Law_law_977 rfl ?_
  refine x_vI (As := []) d_Law_law_978 mv_Law_118 rfl (fun _ => ak_0) rfl (q99 (by decide)) ⟨Nat.le_of_ble_eq_true rfl, Nat.le_of_ble_eq_true rfl⟩ (Nat.le_of_ble_eq_true rfl) ⟨by show k + 0 ≤ 600000; omega, by show z + 0 ≤ 7302250; omega⟩ (fun _ h => h) (fun h => ⟨h, c_Chan_rings _⟩) (fun r1 S1 => ?_)
  refine x_aload_n_ref d_Law_law_981 rfl ?_
  refine x_vI (As := []) d_Law_law_982 mv_Law_122 rfl (fun _ => ak_70) rfl (q99 (by decide)) ⟨Nat.le_of_ble_eq_true rfl, Nat.le_of_ble_eq_true rfl⟩ (Nat.le_of_ble_eq_true rfl) ⟨by show (k + 0) + 0 ≤ 600000; omega, by show (z + 0) + 0 ≤ 7302250; omega⟩ (fun _ h => h) (fun h => ⟨h, c_Md_rings _⟩) (fun r2 S2 => ?_)
  refine x_icmp_eq (tgt := 1013) d_Law_law_985 (by decide) (fun _ => ?_) (fun _ => V.none)
  exact V.wid (kJ S2) (by show ((k + 0) + 0) ≤ k + 8; omega) (by show ((z + 0) + 0) ≤ z + 265; omega)
noncomputable def f_law_25 (L : Nat) (xs : Nat → Int32) (J : AS → Option AS) (c3 : Int32) (S : AS) : Option AS := chk (vp_in (c3 + 1) L) <| bI (f_Chan_got (xs (ix (c3 + 1))) S) fun r1 S1 => chk (vp_in (c3 + 1) L) <| bI (f_Md_got (xs (ix (c3 + 1))) S1) fun r2 S2 => if r1 = r2 then J S2 else none
set_option maxHeartbeats 4000000 in
theorem v_law_25 {G : GX} {b L : Nat} {xs : Nat → Int32} (J : AS → Option AS) (c3 : Int32) (k z : Nat) (hk : k + 8 ≤ 600000) (hz : z + 265 ≤ 7302250) (kJ : ∀ T, V G md_law (QL G b) (EL G L xs) (some none) 1013 [some (.retAddr 0), some (.ref 0), some (.ref 70), some (.int c3)] [] (k + 8) (z + 265) T (J T)) (S : AS) : V G md_law (QL G b) (EL G L xs) (some none) 990 [some (.retAddr 0), some (.ref 0), some (.ref 70), some (.int c3)] [] k z S (f_law_25 L xs J c3 S) := by
  unfold f_law_25
  refine x_aload_n_ref d_Law_law_990 rfl ?_
  refine x_aload_n_ext d_Law_law_991 rfl ?_
  refine x_iload_n d_Law_law_992 rfl ?_
  refine x_iconst (v := 1) d_Law_law_993 (by decide) ?_
  refine x_iadd d_Law_law_994 ?_
  refine x_sld d_Law_law_995 ?_
  refine x_vI (As := [.int (xs (ix (c3 + 1)))]) d_Law_law_996 mv_Law_123 rfl (fun _ => ak_0) rfl (q99 (by decide)) ⟨Nat.le_of_ble_eq_true rfl, Nat.le_of_ble_eq_true rfl⟩ (Nat.le_of_ble_eq_true rfl) ⟨by show k + 0 ≤ 600000; omega, by show z + 0 ≤ 7302250; omega⟩ (fun _ h => h) (fun h => ⟨h, c_Chan_got (xs (ix (c3 + 1))) _⟩) (fun r1 S1 => ?_)
  refine x_aload_n_ref d_Law_law_999 rfl ?_
  refine x_aload_n_ext d_Law_law_1000 rfl ?_
  refine x_iload_n d_Law_law_1001 rfl ?_
  refine x_iconst (v := 1) d_Law_law_1002 (by decide) ?_
  refine x_iadd d_Law_law_1003 ?_
  refine x_sld d_Law_law_1004 ?_
  refine x_vI (As := [.int (xs (ix (c3 + 1)))]) d_Law_law_1005 mv_Law_126 rfl (fun _ => ak_70) rfl (q99 (by decide)) ⟨Nat.le_of_ble_eq_true rfl, Nat.le_of_ble_eq_true rfl⟩ (Nat.le_of_ble_eq_true rfl) ⟨by show (k + 0) + 0 ≤ 600000; omega, by show (z + 0) + 0 ≤ 7302250; omega⟩ (fun _ h => h) (fun h => ⟨h, c_Md_got (xs (ix (c3 + 1))) _⟩) (fun r2 S2 => ?_)
  refine x_icmp_eq (tgt := 1013) d_Law_law_1008 (by decide) (fun _ => ?_) (fun _ => V.none)
  exact V.wid (kJ S2) (by show ((k + 0) + 0) ≤ k + 8; omega) (by show ((z + 0) + 0) ≤ z + 265; omega)
noncomputable def f_law_L (L : Nat) (xs : Nat → Int32) : Nat → Int32 → AS → Option AS
  | 0, _, _ => none
  | n + 1, c3, S => if Int32.ofNat L - 7 < c3 then some S else chk (vp_in c3 L) (nm (fun (T : AS) => f_law_L L xs n (c3 + 7) T) fun J => if (xs (ix c3) &&& 31) = 0 then (f_law_0 L xs J c3 S) else (if (xs (ix c3) &&& 31) = 1 then (f_law_1 L xs J c3 S) else (if (xs (ix c3) &&& 31) = 2 then (f_law_2 L xs J c3 S) else (if (xs (ix c3) &&& 31) = 3 then (f_law_3 L xs J c3 S) else (if (xs (ix c3) &&& 31) = 4 then (f_law_4 L xs J c3 S) else (if (xs (ix c3) &&& 31) = 5 then (f_law_5 L xs J c3 S) else (if (xs (ix c3) &&& 31) = 6 then (f_law_6 L xs J c3 S) else (if (xs (ix c3) &&& 31) = 7 then (f_law_7 L xs J c3 S) else (if (xs (ix c3) &&& 31) = 8 then (f_law_8 L xs J c3 S) else (if (xs (ix c3) &&& 31) = 9 then (f_law_9 L xs J c3 S) else (if (xs (ix c3) &&& 31) = 10 then (f_law_10 L xs J c3 S) else (if (xs (ix c3) &&& 31) = 11 then (f_law_11 L xs J c3 S) else (if (xs (ix c3) &&& 31) = 12 then (f_law_12 L xs J c3 S) else (if (xs (ix c3) &&& 31) = 13 then (f_law_13 L xs J c3 S) else (if (xs (ix c3) &&& 31) = 14 then (f_law_14 L xs J c3 S) else (if (xs (ix c3) &&& 31) = 15 then (f_law_15 L xs J c3 S) else (if (xs (ix c3) &&& 31) = 16 then (f_law_16 L xs J c3 S) else (if (xs (ix c3) &&& 31) = 17 then (f_law_17 L xs J c3 S) else (if (xs (ix c3) &&& 31) = 18 then (f_law_18 L xs J c3 S) else (if (xs (ix c3) &&& 31) = 19 then (f_law_19 L xs J c3 S) else (if (xs (ix c3) &&& 31) = 20 then (f_law_20 L xs J c3 S) else (if (xs (ix c3) &&& 31) = 21 then (f_law_21 L xs J c3 S) else (if (xs (ix c3) &&& 31) = 22 then (f_law_22 L xs J c3 S) else (if (xs (ix c3) &&& 31) = 23 then (f_law_23 L xs J c3 S) else (if (xs (ix c3) &&& 31) = 24 then (f_law_24 L xs J c3 S) else (if (xs (ix c3) &&& 31) = 25 then (f_law_25 L xs J c3 S) else (J S)))))))))))))))))))))))))))
set_option maxHeartbeats 4000000 in
set_option maxRecDepth 100000 in
theorem v_law_L {G : GX} {b L : Nat} {xs : Nat → Int32} : ∀ (n : Nat) (c3 : Int32) (S : AS) (k z : Nat), k + 8 * n ≤ 600000 → z + 265 * n ≤ 7302250 → V G md_law (QL G b) (EL G L xs) (some none) 18 [some (.retAddr 0), some (.ref 0), some (.ref 70), some (.int c3)] [] k z S (f_law_L L xs n c3 S) := by
  intro n
  induction n with
  | zero => intro c3 S k z _ _; exact V.none
  | succ n ih =>
    intro c3 S k z hk hz
    rw [f_law_L]
    refine x_iload_n d_Law_law_18 rfl ?_
    refine x_aload_n_ext d_Law_law_19 rfl ?_
    refine x_slen d_Law_law_20 ?_
    refine x_bipush (v := 7) d_Law_law_21 (by decide) ?_
    refine x_isub d_Law_law_23 ?_
    refine x_icmp_gt (tgt := 1019) d_Law_law_24 (by decide) (fun _ => ?_) (fun _ => ?_)
    · refine x_iconst (v := 1) d_Law_law_1019 (by decide) ?_
      exact x_lawret d_Law_law_1020 (by omega) (by omega)
    · refine x_aload_n_ext d_Law_law_27 rfl ?_
      refine x_iload_n d_Law_law_28 rfl ?_
      refine x_sld d_Law_law_29 ?_
      refine x_bipush (v := 31) d_Law_law_30 (by decide) ?_
      refine x_iand d_Law_law_32 ?_
      refine x_nm (fun J hJ => ?_)
      have kJ : ∀ T, V G md_law (QL G b) (EL G L xs) (some none) 1013 [some (.retAddr 0), some (.ref 0), some (.ref 70), some (.int c3)] [] (k + 8) (z + 265) T (J T) := by
        subst hJ
        intro T
        refine x_iinc (w := c3 + 7) (lc' := [some (.retAddr 0), some (.ref 0), some (.ref 70), some (.int (c3 + 7))]) d_Law_law_1013 (by decide) rfl rfl rfl ?_
        refine x_goto (tgt := 18) d_Law_law_1016 (by decide) ?_
        exact ih (c3 + 7) T (k + 8) (z + 265) (by omega) (by omega)
      clear hJ
      refine x_ite (fun h0 => ?_) (fun h0 => ?_)
      · refine x_tsw_in (c := 0) (tgt := 152) d_Law_law_33 h0 (by decide) (by decide) rfl (by decide) ?_
        exact v_law_0 J c3 k z (by omega) (by omega) kJ S
      · refine x_ite (fun h1 => ?_) (fun h1 => ?_)
        · refine x_tsw_in (c := 1) (tgt := 215) d_Law_law_33 h1 (by decide) (by decide) rfl (by decide) ?_
          exact v_law_1 J c3 k z (by omega) (by omega) kJ S
        · refine x_ite (fun h2 => ?_) (fun h2 => ?_)
          · refine x_tsw_in (c := 2) (tgt := 238) d_Law_law_33 h2 (by decide) (by decide) rfl (by decide) ?_
            exact v_law_2 J c3 k z (by omega) (by omega) kJ S
          · refine x_ite (fun h3 => ?_) (fun h3 => ?_)
            · refine x_tsw_in (c := 3) (tgt := 281) d_Law_law_33 h3 (by decide) (by decide) rfl (by decide) ?_
              exact v_law_3 J c3 k z (by omega) (by omega) kJ S
            · refine x_ite (fun h4 => ?_) (fun h4 => ?_)
              · refine x_tsw_in (c := 4) (tgt := 314) d_Law_law_33 h4 (by decide) (by decide) rfl (by decide) ?_
                exact v_law_4 J c3 k z (by omega) (by omega) kJ S
              · refine x_ite (fun h5 => ?_) (fun h5 => ?_)
                · refine x_tsw_in (c := 5) (tgt := 347) d_Law_law_33 h5 (by decide) (by decide) rfl (by decide) ?_
                  exact v_law_5 J c3 k z (by omega) (by omega) kJ S
                · refine x_ite (fun h6 => ?_) (fun h6 => ?_)
                  · refine x_tsw_in (c := 6) (tgt := 370) d_Law_law_33 h6 (by decide) (by decide) rfl (by decide) ?_
                    exact v_law_6 J c3 k z (by omega) (by omega) kJ S
                  · refine x_ite (fun h7 => ?_) (fun h7 => ?_)
                    · refine x_tsw_in (c := 7) (tgt := 393) d_Law_law_33 h7 (by decide) (by decide) rfl (by decide) ?_
                      exact v_law_7 J c3 k z (by omega) (by omega) kJ S
                    · refine x_ite (fun h8 => ?_) (fun h8 => ?_)
                      · refine x_tsw_in (c := 8) (tgt := 468) d_Law_law_33 h8 (by decide) (by decide) rfl (by decide) ?_
                        exact v_law_8 J c3 k z (by omega) (by omega) kJ S
                      · refine x_ite (fun h9 => ?_) (fun h9 => ?_)
                        · refine x_tsw_in (c := 9) (tgt := 501) d_Law_law_33 h9 (by decide) (by decide) rfl (by decide) ?_
                          exact v_law_9 J c3 k z (by omega) (by omega) kJ S
                        · refine x_ite (fun h10 => ?_) (fun h10 => ?_)
                          · refine x_tsw_in (c := 10) (tgt := 544) d_Law_law_33 h10 (by decide) (by decide) rfl (by decide) ?_
                            exact v_law_10 J c3 k z (by omega) (by omega) kJ S
                          · refine x_ite (fun h11 => ?_) (fun h11 => ?_)
                            · refine x_tsw_in (c := 11) (tgt := 587) d_Law_law_33 h11 (by decide) (by decide) rfl (by decide) ?_
                              exact v_law_11 J c3 k z (by omega) (by omega) kJ S
                            · refine x_ite (fun h12 => ?_) (fun h12 => ?_)
                              · refine x_tsw_in (c := 12) (tgt := 610) d_Law_law_33 h12 (by decide) (by decide) rfl (by decide) ?_
                                exact v_law_12 J c3 k z (by omega) (by omega) kJ S
                              · refine x_ite (fun h13 => ?_) (fun h13 => ?_)
                                · refine x_tsw_in (c := 13) (tgt := 633) d_Law_law_33 h13 (by decide) (by decide) rfl (by decide) ?_
                                  exact v_law_13 J c3 k z (by omega) (by omega) kJ S
                                · refine x_ite (fun h14 => ?_) (fun h14 => ?_)
                                  · refine x_tsw_in (c := 14) (tgt := 666) d_Law_law_33 h14 (by decide) (by decide) rfl (by decide) ?_
                                    exact v_law_14 J c3 k z (by omega) (by omega) kJ S
                                  · refine x_ite (fun h15 => ?_) (fun h15 => ?_)
                                    · refine x_tsw_in (c := 15) (tgt := 699) d_Law_law_33 h15 (by decide) (by decide) rfl (by decide) ?_
                                      exact v_law_15 J c3 k z (by omega) (by omega) kJ S
                                    · refine x_ite (fun h16 => ?_) (fun h16 => ?_)
                                      · refine x_tsw_in (c := 16) (tgt := 732) d_Law_law_33 h16 (by decide) (by decide) rfl (by decide) ?_
                                        exact v_law_16 J c3 k z (by omega) (by omega) kJ S
                                      · refine x_ite (fun h17 => ?_) (fun h17 => ?_)
                                        · refine x_tsw_in (c := 17) (tgt := 766) d_Law_law_33 h17 (by decide) (by decide) rfl (by decide) ?_
                                          exact v_law_17 J c3 k z (by omega) (by omega) kJ S
                                        · refine x_ite (fun h18 => ?_) (fun h18 => ?_)
                                          · refine x_tsw_in (c := 18) (tgt := 799) d_Law_law_33 h18 (by decide) (by decide) rfl (by decide) ?_
                                            exact v_law_18 J c3 k z (by omega) (by omega) kJ S
                                          · refine x_ite (fun h19 => ?_) (fun h19 => ?_)
                                            · refine x_tsw_in (c := 19) (tgt := 822) d_Law_law_33 h19 (by decide) (by decide) rfl (by decide) ?_
                                              exact v_law_19 J c3 k z (by omega) (by omega) kJ S
                                            · refine x_ite (fun h20 => ?_) (fun h20 => ?_)
                                              · refine x_tsw_in (c := 20) (tgt := 875) d_Law_law_33 h20 (by decide) (by decide) rfl (by decide) ?_
                                                exact v_law_20 J c3 k z (by omega) (by omega) kJ S
                                              · refine x_ite (fun h21 => ?_) (fun h21 => ?_)
                                                · refine x_tsw_in (c := 21) (tgt := 898) d_Law_law_33 h21 (by decide) (by decide) rfl (by decide) ?_
                                                  exact v_law_21 J c3 k z (by omega) (by omega) kJ S
                                                · refine x_ite (fun h22 => ?_) (fun h22 => ?_)
                                                  · refine x_tsw_in (c := 22) (tgt := 921) d_Law_law_33 h22 (by decide) (by decide) rfl (by decide) ?_
                                                    exact v_law_22 J c3 k z (by omega) (by omega) kJ S
                                                  · refine x_ite (fun h23 => ?_) (fun h23 => ?_)
                                                    · refine x_tsw_in (c := 23) (tgt := 954) d_Law_law_33 h23 (by decide) (by decide) rfl (by decide) ?_
                                                      exact v_law_23 J c3 k z (by omega) (by omega) kJ S
                                                    · refine x_ite (fun h24 => ?_) (fun h24 => ?_)
                                                      · refine x_tsw_in (c := 24) (tgt := 977) d_Law_law_33 h24 (by decide) (by decide) rfl (by decide) ?_
                                                        exact v_law_24 J c3 k z (by omega) (by omega) kJ S
                                                      · refine x_ite (fun h25 => ?_) (fun h25 => ?_)
                                                        · refine x_tsw_in (c := 25) (tgt := 990) d_Law_law_33 h25 (by decide) (by decide) rfl (by decide) ?_
                                                          exact v_law_25 J c3 k z (by omega) (by omega) kJ S
                                                        · refine x_tsw_out (n := 26) (tgt := 1013) d_Law_law_33 (by decide) (fun j hj => by rcases (by omega : j = 0 ∨ j = 1 ∨ j = 2 ∨ j = 3 ∨ j = 4 ∨ j = 5 ∨ j = 6 ∨ j = 7 ∨ j = 8 ∨ j = 9 ∨ j = 10 ∨ j = 11 ∨ j = 12 ∨ j = 13 ∨ j = 14 ∨ j = 15 ∨ j = 16 ∨ j = 17 ∨ j = 18 ∨ j = 19 ∨ j = 20 ∨ j = 21 ∨ j = 22 ∨ j = 23 ∨ j = 24 ∨ j = 25) with rfl | rfl | rfl | rfl | rfl | rfl | rfl | rfl | rfl | rfl | rfl | rfl | rfl | rfl | rfl | rfl | rfl | rfl | rfl | rfl | rfl | rfl | rfl | rfl | rfl | rfl <;> assumption) (by decide) ?_
                                                          exact V.wid (kJ S) (by omega) (by omega)

/-! the law, call by call -/
theorem law_loop {L : Nat} {xs : Nat → Int} (hL : L ≤ 3072) (hxs : ∀ j, ok32 (xs j)) : ∀ (n : Nat) (v3_1 : Int) (s_2 : Sg), ((L : Int) + 6 - v3_1).toNat = n → 0 ≤ v3_1 → v3_1 ≤ (L : Int) + 6 → Inv s_2 → Ev (mL L xs) 1000 18 [(0, (2, 192)), (1, (2, 0)), (2, (2, 68)), (3, (0, v3_1))] [] s_2 (poIs 0 (fun r _ => r = 1)) := by
  intro n
  induction n using Nat.strongRecOn with
  | _ n ih =>
  intro v3_1 s_2 hn h0 h1 hI
  refine Ev_iload_n dL_law_18 3 rfl ?_
  refine Ev_aload_n dL_law_19 0 rfl ?_
  refine Ev_slen dL_law_20 rfl ?_
  refine Ev_bipush (v := 6) dL_law_21 (by decide +kernel) ?_
  refine Ev_isub dL_law_23 ?_
  refine Ev_icmp_gt (tgt := 1153) dL_law_24 (by decide) (fun hc => ?_) (fun hc => ?_)
  · refine Ev_iconst (v := 1) dL_law_1153 rfl ⟨by decide, by decide⟩ ?_
    exact Ev_ret dL_law_1154 (Or.inr rfl) (poIs_mk rfl)
  · have hv : v3_1 + 6 ≤ (L : Int) := by
      rw [w32_id (show ok32 ((L : Int) - 6) from ⟨by omega, by omega⟩)] at hc
      omega
    clear hc
    have hb_4 : 0 ≤ v3_1 ∧ v3_1 < (L : Int) := by omega
    have hw_1 : 0 ≤ w32 (v3_1 + 1) ∧ w32 (v3_1 + 1) < (L : Int) := by rw [w32_id (show ok32 (v3_1 + 1) from ⟨by omega, by omega⟩)]; omega
    have hw_2 : 0 ≤ w32 (v3_1 + 2) ∧ w32 (v3_1 + 2) < (L : Int) := by rw [w32_id (show ok32 (v3_1 + 2) from ⟨by omega, by omega⟩)]; omega
    have hw_3 : 0 ≤ w32 (v3_1 + 3) ∧ w32 (v3_1 + 3) < (L : Int) := by rw [w32_id (show ok32 (v3_1 + 3) from ⟨by omega, by omega⟩)]; omega
    have hw_4 : 0 ≤ w32 (v3_1 + 4) ∧ w32 (v3_1 + 4) < (L : Int) := by rw [w32_id (show ok32 (v3_1 + 4) from ⟨by omega, by omega⟩)]; omega
    have hw_5 : 0 ≤ w32 (v3_1 + 5) ∧ w32 (v3_1 + 5) < (L : Int) := by rw [w32_id (show ok32 (v3_1 + 5) from ⟨by omega, by omega⟩)]; omega
    refine Ev_aload_n dL_law_27 0 rfl ?_
    refine Ev_iload_n dL_law_28 3 rfl ?_
    refine Ev_sld dL_law_29 rfl hb_4 ?_
    refine Ev_bipush (v := 31) dL_law_30 (by decide +kernel) ?_
    refine Ev_iand dL_law_32 ?_
    have go : ∀ s_5 : Sg, Inv s_5 → Ev (mL L xs) 1000 1147 [(0, (2, 192)), (1, (2, 0)), (2, (2, 68)), (3, (0, v3_1))] [] s_5 (poIs 0 (fun r _ => r = 1)) := by
      intro s_5 hI5
      refine Ev_iinc (v := v3_1 + 6) dL_law_1147 3 rfl (w32_id ⟨by omega, by omega⟩) (show (3 : Nat) < 4 by decide) rfl ?_
      refine Ev_goto (tgt := 18) dL_law_1150 (by decide) ?_
      refine Ev_sub [1, 2, 3, 0] rfl ?_
      exact ih _ (by omega) _ _ rfl (by omega) (by omega) hI5
    rcases (show iand (xs v3_1.toNat) 31 = 0 ∨ iand (xs v3_1.toNat) 31 = 1 ∨ iand (xs v3_1.toNat) 31 = 2 ∨ iand (xs v3_1.toNat) 31 = 3 ∨ iand (xs v3_1.toNat) 31 = 4 ∨ iand (xs v3_1.toNat) 31 = 5 ∨ iand (xs v3_1.toNat) 31 = 6 ∨ iand (xs v3_1.toNat) 31 = 7 ∨ iand (xs v3_1.toNat) 31 = 8 ∨ iand (xs v3_1.toNat) 31 = 9 ∨ iand (xs v3_1.toNat) 31 = 10 ∨ iand (xs v3_1.toNat) 31 = 11 ∨ iand (xs v3_1.toNat) 31 = 12 ∨ iand (xs v3_1.toNat) 31 = 13 ∨ iand (xs v3_1.toNat) 31 = 14 ∨ iand (xs v3_1.toNat) 31 = 15 ∨ iand (xs v3_1.toNat) 31 = 16 ∨ iand (xs v3_1.toNat) 31 = 17 ∨ iand (xs v3_1.toNat) 31 = 18 ∨ iand (xs v3_1.toNat) 31 = 19 ∨ iand (xs v3_1.toNat) 31 = 20 ∨ iand (xs v3_1.toNat) 31 = 21 ∨ iand (xs v3_1.toNat) 31 = 22 ∨ iand (xs v3_1.toNat) 31 = 23 ∨ iand (xs v3_1.toNat) 31 = 24 ∨ iand (xs v3_1.toNat) 31 = 25 ∨ iand (xs v3_1.toNat) 31 = 26 ∨ (iand (xs v3_1.toNat) 31 < 0 ∨ 26 < iand (xs v3_1.toNat) 31) by omega) with hc | hc | hc | hc | hc | hc | hc | hc | hc | hc | hc | hc | hc | hc | hc | hc | hc | hc | hc | hc | hc | hc | hc | hc | hc | hc | hc | hc
    · refine Ev_tabIn (tgt := 156) (off := 123) dL_law_33 (by omega) (by omega) (by rw [hc]; rfl) (by decide) ?_
      refine Ev_aload_n dL_law_156 1 rfl ?_
      refine Ev_aload_n dL_law_157 0 rfl ?_
      refine Ev_iload_n dL_law_158 3 rfl ?_
      refine Ev_iconst (v := 1) dL_law_159 rfl ⟨by decide, by decide⟩ ?_
      refine Ev_iadd dL_law_160 ?_
      refine Ev_sld dL_law_161 rfl hw_1 ?_
      refine Ev_aload_n dL_law_162 0 rfl ?_
      refine Ev_iload_n dL_law_163 3 rfl ?_
      refine Ev_iconst (v := 2) dL_law_164 rfl ⟨by decide, by decide⟩ ?_
      refine Ev_iadd dL_law_165 ?_
      refine Ev_sld dL_law_166 rfl hw_2 ?_
      refine Ev_aload_n dL_law_167 0 rfl ?_
      refine Ev_iload_n dL_law_168 3 rfl ?_
      refine Ev_iconst (v := 3) dL_law_169 rfl ⟨by decide, by decide⟩ ?_
      refine Ev_iadd dL_law_170 ?_
      refine Ev_sld dL_law_171 rfl hw_3 ?_
      refine Ev_aload_n dL_law_172 0 rfl ?_
      refine Ev_iload_n dL_law_173 3 rfl ?_
      refine Ev_iconst (v := 4) dL_law_174 rfl ⟨by decide, by decide⟩ ?_
      refine Ev_iadd dL_law_175 ?_
      refine Ev_sld dL_law_176 rfl hw_4 ?_
      have h : w_X9_line s_2 (xs (w32 (v3_1 + 1)).toNat) (xs (w32 (v3_1 + 2)).toNat) (xs (w32 (v3_1 + 3)).toNat) (xs (w32 (v3_1 + 4)).toNat) (fun r1 s1 => w_X10_line s1 (xs (w32 (v3_1 + 1)).toNat) (xs (w32 (v3_1 + 2)).toNat) (xs (w32 (v3_1 + 3)).toNat) (xs (w32 (v3_1 + 4)).toNat) (fun r2 s2 => r1 = r2 ∧ Base s2 ∧ Keep s_2 s2)) := T_line hI.1
      refine Ev_invV (d' := 3) [(0, xs (w32 (v3_1 + 1)).toNat), (0, xs (w32 (v3_1 + 2)).toNat), (0, xs (w32 (v3_1 + 3)).toNat), (0, xs (w32 (v3_1 + 4)).toNat)] 0 dL_law_177 M_X9_line q_390 (by decide) rfl rfl sh_0 rfl (Nat.le_of_ble_eq_true rfl) (k_X9_line h) ?_
      rintro _ s_13 ⟨r_12, rfl, h⟩
      refine Ev_aload_n dL_law_180 2 rfl ?_
      refine Ev_aload_n dL_law_181 0 rfl ?_
      refine Ev_iload_n dL_law_182 3 rfl ?_
      refine Ev_iconst (v := 1) dL_law_183 rfl ⟨by decide, by decide⟩ ?_
      refine Ev_iadd dL_law_184 ?_
      refine Ev_sld dL_law_185 rfl hw_1 ?_
      refine Ev_aload_n dL_law_186 0 rfl ?_
      refine Ev_iload_n dL_law_187 3 rfl ?_
      refine Ev_iconst (v := 2) dL_law_188 rfl ⟨by decide, by decide⟩ ?_
      refine Ev_iadd dL_law_189 ?_
      refine Ev_sld dL_law_190 rfl hw_2 ?_
      refine Ev_aload_n dL_law_191 0 rfl ?_
      refine Ev_iload_n dL_law_192 3 rfl ?_
      refine Ev_iconst (v := 3) dL_law_193 rfl ⟨by decide, by decide⟩ ?_
      refine Ev_iadd dL_law_194 ?_
      refine Ev_sld dL_law_195 rfl hw_3 ?_
      refine Ev_aload_n dL_law_196 0 rfl ?_
      refine Ev_iload_n dL_law_197 3 rfl ?_
      refine Ev_iconst (v := 4) dL_law_198 rfl ⟨by decide, by decide⟩ ?_
      refine Ev_iadd dL_law_199 ?_
      refine Ev_sld dL_law_200 rfl hw_4 ?_
      refine Ev_invV (d' := 2) [(0, xs (w32 (v3_1 + 1)).toNat), (0, xs (w32 (v3_1 + 2)).toNat), (0, xs (w32 (v3_1 + 3)).toNat), (0, xs (w32 (v3_1 + 4)).toNat)] 68 dL_law_201 M_X10_line q_1032 (by decide) rfl rfl sh_68 rfl (Nat.le_of_ble_eq_true rfl) (k_X10_line h) ?_
      rintro _ s_19 ⟨r_18, rfl, h⟩
      refine Ev_icmp_eq (tgt := 1147) dL_law_204 (by decide) (fun hc => ?_) (fun hc => ?_)
      · exact go _ (Inv_keep hI h.2.1 h.2.2)
      · exact absurd h.1 hc
    · refine Ev_tabIn (tgt := 209) (off := 176) dL_law_33 (by omega) (by omega) (by rw [hc]; rfl) (by decide) ?_
      refine Ev_aload_n dL_law_209 1 rfl ?_
      refine Ev_aload_n dL_law_210 0 rfl ?_
      refine Ev_iload_n dL_law_211 3 rfl ?_
      refine Ev_iconst (v := 1) dL_law_212 rfl ⟨by decide, by decide⟩ ?_
      refine Ev_iadd dL_law_213 ?_
      refine Ev_sld dL_law_214 rfl hw_1 ?_
      have h : w_X9_drop s_2 (xs (w32 (v3_1 + 1)).toNat) (fun r1 s1 => w_X10_drop s1 (xs (w32 (v3_1 + 1)).toNat) (fun r2 s2 => r1 = r2 ∧ Base s2 ∧ Keep s_2 s2)) := T_drop hI.1
      refine Ev_invV (d' := 2) [(0, xs (w32 (v3_1 + 1)).toNat)] 0 dL_law_215 M_X9_drop q_421 (by decide) rfl rfl sh_0 rfl (Nat.le_of_ble_eq_true rfl) (k_X9_drop h) ?_
      rintro _ s_22 ⟨r_21, rfl, h⟩
      refine Ev_aload_n dL_law_218 2 rfl ?_
      refine Ev_aload_n dL_law_219 0 rfl ?_
      refine Ev_iload_n dL_law_220 3 rfl ?_
      refine Ev_iconst (v := 1) dL_law_221 rfl ⟨by decide, by decide⟩ ?_
      refine Ev_iadd dL_law_222 ?_
      refine Ev_sld dL_law_223 rfl hw_1 ?_
      refine Ev_invV (d' := 2) [(0, xs (w32 (v3_1 + 1)).toNat)] 68 dL_law_224 M_X10_drop q_1046 (by decide) rfl rfl sh_68 rfl (Nat.le_of_ble_eq_true rfl) (k_X10_drop h) ?_
      rintro _ s_25 ⟨r_24, rfl, h⟩
      refine Ev_icmp_eq (tgt := 1147) dL_law_227 (by decide) (fun hc => ?_) (fun hc => ?_)
      · exact go _ (Inv_keep hI h.2.1 h.2.2)
      · exact absurd h.1 hc
    · refine Ev_tabIn (tgt := 232) (off := 199) dL_law_33 (by omega) (by omega) (by rw [hc]; rfl) (by decide) ?_
      refine Ev_aload_n dL_law_232 1 rfl ?_
      refine Ev_aload_n dL_law_233 0 rfl ?_
      refine Ev_iload_n dL_law_234 3 rfl ?_
      refine Ev_iconst (v := 1) dL_law_235 rfl ⟨by decide, by decide⟩ ?_
      refine Ev_iadd dL_law_236 ?_
      refine Ev_sld dL_law_237 rfl hw_1 ?_
      refine Ev_aload_n dL_law_238 0 rfl ?_
      refine Ev_iload_n dL_law_239 3 rfl ?_
      refine Ev_iconst (v := 2) dL_law_240 rfl ⟨by decide, by decide⟩ ?_
      refine Ev_iadd dL_law_241 ?_
      refine Ev_sld dL_law_242 rfl hw_2 ?_
      refine Ev_aload_n dL_law_243 0 rfl ?_
      refine Ev_iload_n dL_law_244 3 rfl ?_
      refine Ev_iconst (v := 3) dL_law_245 rfl ⟨by decide, by decide⟩ ?_
      refine Ev_iadd dL_law_246 ?_
      refine Ev_sld dL_law_247 rfl hw_3 ?_
      refine Ev_aload_n dL_law_248 0 rfl ?_
      refine Ev_iload_n dL_law_249 3 rfl ?_
      refine Ev_iconst (v := 4) dL_law_250 rfl ⟨by decide, by decide⟩ ?_
      refine Ev_iadd dL_law_251 ?_
      refine Ev_sld dL_law_252 rfl hw_4 ?_
      have h : w_X9_move s_2 (xs (w32 (v3_1 + 1)).toNat) (xs (w32 (v3_1 + 2)).toNat) (xs (w32 (v3_1 + 3)).toNat) (xs (w32 (v3_1 + 4)).toNat) (fun r1 s1 => w_X10_move s1 (xs (w32 (v3_1 + 1)).toNat) (xs (w32 (v3_1 + 2)).toNat) (xs (w32 (v3_1 + 3)).toNat) (xs (w32 (v3_1 + 4)).toNat) (fun r2 s2 => r1 = r2 ∧ Base s2 ∧ Keep s_2 s2)) := T_move hI.1
      refine Ev_invV (d' := 2) [(0, xs (w32 (v3_1 + 1)).toNat), (0, xs (w32 (v3_1 + 2)).toNat), (0, xs (w32 (v3_1 + 3)).toNat), (0, xs (w32 (v3_1 + 4)).toNat)] 0 dL_law_253 M_X9_move q_430 (by decide) rfl rfl sh_0 rfl (Nat.le_of_ble_eq_true rfl) (k_X9_move h) ?_
      rintro _ s_31 ⟨r_30, rfl, h⟩
      refine Ev_aload_n dL_law_256 2 rfl ?_
      refine Ev_aload_n dL_law_257 0 rfl ?_
      refine Ev_iload_n dL_law_258 3 rfl ?_
      refine Ev_iconst (v := 1) dL_law_259 rfl ⟨by decide, by decide⟩ ?_
      refine Ev_iadd dL_law_260 ?_
      refine Ev_sld dL_law_261 rfl hw_1 ?_
      refine Ev_aload_n dL_law_262 0 rfl ?_
      refine Ev_iload_n dL_law_263 3 rfl ?_
      refine Ev_iconst (v := 2) dL_law_264 rfl ⟨by decide, by decide⟩ ?_
      refine Ev_iadd dL_law_265 ?_
      refine Ev_sld dL_law_266 rfl hw_2 ?_
      refine Ev_aload_n dL_law_267 0 rfl ?_
      refine Ev_iload_n dL_law_268 3 rfl ?_
      refine Ev_iconst (v := 3) dL_law_269 rfl ⟨by decide, by decide⟩ ?_
      refine Ev_iadd dL_law_270 ?_
      refine Ev_sld dL_law_271 rfl hw_3 ?_
      refine Ev_aload_n dL_law_272 0 rfl ?_
      refine Ev_iload_n dL_law_273 3 rfl ?_
      refine Ev_iconst (v := 4) dL_law_274 rfl ⟨by decide, by decide⟩ ?_
      refine Ev_iadd dL_law_275 ?_
      refine Ev_sld dL_law_276 rfl hw_4 ?_
      refine Ev_invV (d' := 2) [(0, xs (w32 (v3_1 + 1)).toNat), (0, xs (w32 (v3_1 + 2)).toNat), (0, xs (w32 (v3_1 + 3)).toNat), (0, xs (w32 (v3_1 + 4)).toNat)] 68 dL_law_277 M_X10_move q_1058 (by decide) rfl rfl sh_68 rfl (Nat.le_of_ble_eq_true rfl) (k_X10_move h) ?_
      rintro _ s_37 ⟨r_36, rfl, h⟩
      refine Ev_icmp_eq (tgt := 1147) dL_law_280 (by decide) (fun hc => ?_) (fun hc => ?_)
      · exact go _ (Inv_keep hI h.2.1 h.2.2)
      · exact absurd h.1 hc
    · refine Ev_tabIn (tgt := 285) (off := 252) dL_law_33 (by omega) (by omega) (by rw [hc]; rfl) (by decide) ?_
      refine Ev_aload_n dL_law_285 1 rfl ?_
      refine Ev_aload_n dL_law_286 0 rfl ?_
      refine Ev_iload_n dL_law_287 3 rfl ?_
      refine Ev_iconst (v := 1) dL_law_288 rfl ⟨by decide, by decide⟩ ?_
      refine Ev_iadd dL_law_289 ?_
      refine Ev_sld dL_law_290 rfl hw_1 ?_
      refine Ev_aload_n dL_law_291 0 rfl ?_
      refine Ev_iload_n dL_law_292 3 rfl ?_
      refine Ev_iconst (v := 2) dL_law_293 rfl ⟨by decide, by decide⟩ ?_
      refine Ev_iadd dL_law_294 ?_
      refine Ev_sld dL_law_295 rfl hw_2 ?_
      have h : w_X9_told s_2 (xs (w32 (v3_1 + 1)).toNat) (xs (w32 (v3_1 + 2)).toNat) (fun r1 s1 => w_X10_told s1 (xs (w32 (v3_1 + 1)).toNat) (xs (w32 (v3_1 + 2)).toNat) (fun r2 s2 => r1 = r2 ∧ Inv s2)) := T_told hI
      refine Ev_invV (d' := 6) [(0, xs (w32 (v3_1 + 1)).toNat), (0, xs (w32 (v3_1 + 2)).toNat)] 0 dL_law_296 M_X9_told q_435 (by decide) rfl rfl sh_0 rfl (Nat.le_of_ble_eq_true rfl) (k_X9_told h) ?_
      rintro _ s_41 ⟨r_40, rfl, h⟩
      refine Ev_aload_n dL_law_299 2 rfl ?_
      refine Ev_aload_n dL_law_300 0 rfl ?_
      refine Ev_iload_n dL_law_301 3 rfl ?_
      refine Ev_iconst (v := 1) dL_law_302 rfl ⟨by decide, by decide⟩ ?_
      refine Ev_iadd dL_law_303 ?_
      refine Ev_sld dL_law_304 rfl hw_1 ?_
      refine Ev_aload_n dL_law_305 0 rfl ?_
      refine Ev_iload_n dL_law_306 3 rfl ?_
      refine Ev_iconst (v := 2) dL_law_307 rfl ⟨by decide, by decide⟩ ?_
      refine Ev_iadd dL_law_308 ?_
      refine Ev_sld dL_law_309 rfl hw_2 ?_
      refine Ev_invV (d' := 104) [(0, xs (w32 (v3_1 + 1)).toNat), (0, xs (w32 (v3_1 + 2)).toNat)] 68 dL_law_310 M_X10_told q_1135 (by decide) rfl rfl sh_68 rfl (Nat.le_of_ble_eq_true rfl) (k_X10_told h) ?_
      rintro _ s_45 ⟨r_44, rfl, h⟩
      refine Ev_icmp_eq (tgt := 1147) dL_law_313 (by decide) (fun hc => ?_) (fun hc => ?_)
      · exact go _ h.2
      · exact absurd h.1 hc
    · refine Ev_tabIn (tgt := 318) (off := 285) dL_law_33 (by omega) (by omega) (by rw [hc]; rfl) (by decide) ?_
      refine Ev_aload_n dL_law_318 1 rfl ?_
      refine Ev_aload_n dL_law_319 0 rfl ?_
      refine Ev_iload_n dL_law_320 3 rfl ?_
      refine Ev_iconst (v := 1) dL_law_321 rfl ⟨by decide, by decide⟩ ?_
      refine Ev_iadd dL_law_322 ?_
      refine Ev_sld dL_law_323 rfl hw_1 ?_
      refine Ev_aload_n dL_law_324 0 rfl ?_
      refine Ev_iload_n dL_law_325 3 rfl ?_
      refine Ev_iconst (v := 2) dL_law_326 rfl ⟨by decide, by decide⟩ ?_
      refine Ev_iadd dL_law_327 ?_
      refine Ev_sld dL_law_328 rfl hw_2 ?_
      have h : w_X9_taken s_2 (xs (w32 (v3_1 + 1)).toNat) (xs (w32 (v3_1 + 2)).toNat) (fun r1 => w_X10_taken s_2 (xs (w32 (v3_1 + 1)).toNat) (xs (w32 (v3_1 + 2)).toNat) (fun r2 => r1 = r2 ∧ Base s_2 ∧ Keep s_2 s_2)) := T_taken hI.1
      refine Ev_invV (d' := 1) [(0, xs (w32 (v3_1 + 1)).toNat), (0, xs (w32 (v3_1 + 2)).toNat)] 0 dL_law_329 M_X9_taken q_570 (by decide) rfl rfl sh_0 rfl (Nat.le_of_ble_eq_true rfl) (k_X9_taken h) ?_
      rintro _ _ ⟨rfl, r_48, rfl, h⟩
      refine Ev_aload_n dL_law_332 2 rfl ?_
      refine Ev_aload_n dL_law_333 0 rfl ?_
      refine Ev_iload_n dL_law_334 3 rfl ?_
      refine Ev_iconst (v := 1) dL_law_335 rfl ⟨by decide, by decide⟩ ?_
      refine Ev_iadd dL_law_336 ?_
      refine Ev_sld dL_law_337 rfl hw_1 ?_
      refine Ev_aload_n dL_law_338 0 rfl ?_
      refine Ev_iload_n dL_law_339 3 rfl ?_
      refine Ev_iconst (v := 2) dL_law_340 rfl ⟨by decide, by decide⟩ ?_
      refine Ev_iadd dL_law_341 ?_
      refine Ev_sld dL_law_342 rfl hw_2 ?_
      refine Ev_invV (d' := 2) [(0, xs (w32 (v3_1 + 1)).toNat), (0, xs (w32 (v3_1 + 2)).toNat)] 68 dL_law_343 M_X10_taken q_1159 (by decide) rfl rfl sh_68 rfl (Nat.le_of_ble_eq_true rfl) (k_X10_taken h) ?_
      rintro _ _ ⟨rfl, r_51, rfl, h⟩
      refine Ev_icmp_eq (tgt := 1147) dL_law_346 (by decide) (fun hc => ?_) (fun hc => ?_)
      · exact go _ (Inv_keep hI h.2.1 h.2.2)
      · exact absurd h.1 hc
    · refine Ev_tabIn (tgt := 351) (off := 318) dL_law_33 (by omega) (by omega) (by rw [hc]; rfl) (by decide) ?_
      refine Ev_aload_n dL_law_351 1 rfl ?_
      refine Ev_aload_n dL_law_352 0 rfl ?_
      refine Ev_iload_n dL_law_353 3 rfl ?_
      refine Ev_iconst (v := 1) dL_law_354 rfl ⟨by decide, by decide⟩ ?_
      refine Ev_iadd dL_law_355 ?_
      refine Ev_sld dL_law_356 rfl hw_1 ?_
      refine Ev_aload_n dL_law_357 0 rfl ?_
      refine Ev_iload_n dL_law_358 3 rfl ?_
      refine Ev_iconst (v := 2) dL_law_359 rfl ⟨by decide, by decide⟩ ?_
      refine Ev_iadd dL_law_360 ?_
      refine Ev_sld dL_law_361 rfl hw_2 ?_
      refine Ev_aload_n dL_law_362 0 rfl ?_
      refine Ev_iload_n dL_law_363 3 rfl ?_
      refine Ev_iconst (v := 3) dL_law_364 rfl ⟨by decide, by decide⟩ ?_
      refine Ev_iadd dL_law_365 ?_
      refine Ev_sld dL_law_366 rfl hw_3 ?_
      have h : w_X9_cross s_2 (xs (w32 (v3_1 + 1)).toNat) (xs (w32 (v3_1 + 2)).toNat) (xs (w32 (v3_1 + 3)).toNat) (fun r1 s1 => w_X10_cross s1 (xs (w32 (v3_1 + 1)).toNat) (xs (w32 (v3_1 + 2)).toNat) (xs (w32 (v3_1 + 3)).toNat) (fun r2 s2 => r1 = r2 ∧ Base s2 ∧ Keep s_2 s2)) := T_cross hI.1
      refine Ev_invV (d' := 3) [(0, xs (w32 (v3_1 + 1)).toNat), (0, xs (w32 (v3_1 + 2)).toNat), (0, xs (w32 (v3_1 + 3)).toNat)] 0 dL_law_367 M_X9_cross q_575 (by decide) rfl rfl sh_0 rfl (Nat.le_of_ble_eq_true rfl) (k_X9_cross h) ?_
      rintro _ s_56 ⟨r_55, rfl, h⟩
      refine Ev_aload_n dL_law_370 2 rfl ?_
      refine Ev_aload_n dL_law_371 0 rfl ?_
      refine Ev_iload_n dL_law_372 3 rfl ?_
      refine Ev_iconst (v := 1) dL_law_373 rfl ⟨by decide, by decide⟩ ?_
      refine Ev_iadd dL_law_374 ?_
      refine Ev_sld dL_law_375 rfl hw_1 ?_
      refine Ev_aload_n dL_law_376 0 rfl ?_
      refine Ev_iload_n dL_law_377 3 rfl ?_
      refine Ev_iconst (v := 2) dL_law_378 rfl ⟨by decide, by decide⟩ ?_
      refine Ev_iadd dL_law_379 ?_
      refine Ev_sld dL_law_380 rfl hw_2 ?_
      refine Ev_aload_n dL_law_381 0 rfl ?_
      refine Ev_iload_n dL_law_382 3 rfl ?_
      refine Ev_iconst (v := 3) dL_law_383 rfl ⟨by decide, by decide⟩ ?_
      refine Ev_iadd dL_law_384 ?_
      refine Ev_sld dL_law_385 rfl hw_3 ?_
      refine Ev_invV (d' := 102) [(0, xs (w32 (v3_1 + 1)).toNat), (0, xs (w32 (v3_1 + 2)).toNat), (0, xs (w32 (v3_1 + 3)).toNat)] 68 dL_law_386 M_X10_cross q_1062 (by decide) rfl rfl sh_68 rfl (Nat.le_of_ble_eq_true rfl) (k_X10_cross h) ?_
      rintro _ s_61 ⟨r_60, rfl, h⟩
      refine Ev_icmp_eq (tgt := 1147) dL_law_389 (by decide) (fun hc => ?_) (fun hc => ?_)
      · exact go _ (Inv_keep hI h.2.1 h.2.2)
      · exact absurd h.1 hc
    · refine Ev_tabIn (tgt := 394) (off := 361) dL_law_33 (by omega) (by omega) (by rw [hc]; rfl) (by decide) ?_
      refine Ev_aload_n dL_law_394 1 rfl ?_
      refine Ev_aload_n dL_law_395 0 rfl ?_
      refine Ev_iload_n dL_law_396 3 rfl ?_
      refine Ev_iconst (v := 1) dL_law_397 rfl ⟨by decide, by decide⟩ ?_
      refine Ev_iadd dL_law_398 ?_
      refine Ev_sld dL_law_399 rfl hw_1 ?_
      refine Ev_aload_n dL_law_400 0 rfl ?_
      refine Ev_iload_n dL_law_401 3 rfl ?_
      refine Ev_iconst (v := 2) dL_law_402 rfl ⟨by decide, by decide⟩ ?_
      refine Ev_iadd dL_law_403 ?_
      refine Ev_sld dL_law_404 rfl hw_2 ?_
      have h : w_X9_point s_2 (xs (w32 (v3_1 + 1)).toNat) (xs (w32 (v3_1 + 2)).toNat) (fun r1 s1 => w_X10_point s1 (xs (w32 (v3_1 + 1)).toNat) (xs (w32 (v3_1 + 2)).toNat) (fun r2 s2 => r1 = r2 ∧ Inv s2)) := T_point hI
      refine Ev_invV (d' := 6) [(0, xs (w32 (v3_1 + 1)).toNat), (0, xs (w32 (v3_1 + 2)).toNat)] 0 dL_law_405 M_X9_point q_584 (by decide) rfl rfl sh_0 rfl (Nat.le_of_ble_eq_true rfl) (k_X9_point h) ?_
      rintro _ s_65 ⟨r_64, rfl, h⟩
      refine Ev_aload_n dL_law_408 2 rfl ?_
      refine Ev_aload_n dL_law_409 0 rfl ?_
      refine Ev_iload_n dL_law_410 3 rfl ?_
      refine Ev_iconst (v := 1) dL_law_411 rfl ⟨by decide, by decide⟩ ?_
      refine Ev_iadd dL_law_412 ?_
      refine Ev_sld dL_law_413 rfl hw_1 ?_
      refine Ev_aload_n dL_law_414 0 rfl ?_
      refine Ev_iload_n dL_law_415 3 rfl ?_
      refine Ev_iconst (v := 2) dL_law_416 rfl ⟨by decide, by decide⟩ ?_
      refine Ev_iadd dL_law_417 ?_
      refine Ev_sld dL_law_418 rfl hw_2 ?_
      refine Ev_invV (d' := 104) [(0, xs (w32 (v3_1 + 1)).toNat), (0, xs (w32 (v3_1 + 2)).toNat)] 68 dL_law_419 M_X10_point q_1090 (by decide) rfl rfl sh_68 rfl (Nat.le_of_ble_eq_true rfl) (k_X10_point h) ?_
      rintro _ s_69 ⟨r_68, rfl, h⟩
      refine Ev_icmp_eq (tgt := 1147) dL_law_422 (by decide) (fun hc => ?_) (fun hc => ?_)
      · exact go _ h.2
      · exact absurd h.1 hc
    · refine Ev_tabIn (tgt := 427) (off := 394) dL_law_33 (by omega) (by omega) (by rw [hc]; rfl) (by decide) ?_
      refine Ev_aload_n dL_law_427 1 rfl ?_
      refine Ev_aload_n dL_law_428 0 rfl ?_
      refine Ev_iload_n dL_law_429 3 rfl ?_
      refine Ev_iconst (v := 1) dL_law_430 rfl ⟨by decide, by decide⟩ ?_
      refine Ev_iadd dL_law_431 ?_
      refine Ev_sld dL_law_432 rfl hw_1 ?_
      refine Ev_aload_n dL_law_433 0 rfl ?_
      refine Ev_iload_n dL_law_434 3 rfl ?_
      refine Ev_iconst (v := 2) dL_law_435 rfl ⟨by decide, by decide⟩ ?_
      refine Ev_iadd dL_law_436 ?_
      refine Ev_sld dL_law_437 rfl hw_2 ?_
      refine Ev_aload_n dL_law_438 0 rfl ?_
      refine Ev_iload_n dL_law_439 3 rfl ?_
      refine Ev_iconst (v := 3) dL_law_440 rfl ⟨by decide, by decide⟩ ?_
      refine Ev_iadd dL_law_441 ?_
      refine Ev_sld dL_law_442 rfl hw_3 ?_
      have h : w_X9_order s_2 (xs (w32 (v3_1 + 1)).toNat) (xs (w32 (v3_1 + 2)).toNat) (xs (w32 (v3_1 + 3)).toNat) (fun r1 s1 => w_X10_order s1 (xs (w32 (v3_1 + 1)).toNat) (xs (w32 (v3_1 + 2)).toNat) (xs (w32 (v3_1 + 3)).toNat) (fun r2 s2 => r1 = r2 ∧ Base s2 ∧ Keep s_2 s2)) := T_order hI.1
      refine Ev_invV (d' := 4) [(0, xs (w32 (v3_1 + 1)).toNat), (0, xs (w32 (v3_1 + 2)).toNat), (0, xs (w32 (v3_1 + 3)).toNat)] 0 dL_law_443 M_X9_order q_592 (by decide) rfl rfl sh_0 rfl (Nat.le_of_ble_eq_true rfl) (k_X9_order h) ?_
      rintro _ s_74 ⟨r_73, rfl, h⟩
      refine Ev_aload_n dL_law_446 2 rfl ?_
      refine Ev_aload_n dL_law_447 0 rfl ?_
      refine Ev_iload_n dL_law_448 3 rfl ?_
      refine Ev_iconst (v := 1) dL_law_449 rfl ⟨by decide, by decide⟩ ?_
      refine Ev_iadd dL_law_450 ?_
      refine Ev_sld dL_law_451 rfl hw_1 ?_
      refine Ev_aload_n dL_law_452 0 rfl ?_
      refine Ev_iload_n dL_law_453 3 rfl ?_
      refine Ev_iconst (v := 2) dL_law_454 rfl ⟨by decide, by decide⟩ ?_
      refine Ev_iadd dL_law_455 ?_
      refine Ev_sld dL_law_456 rfl hw_2 ?_
      refine Ev_aload_n dL_law_457 0 rfl ?_
      refine Ev_iload_n dL_law_458 3 rfl ?_
      refine Ev_iconst (v := 3) dL_law_459 rfl ⟨by decide, by decide⟩ ?_
      refine Ev_iadd dL_law_460 ?_
      refine Ev_sld dL_law_461 rfl hw_3 ?_
      refine Ev_invV (d' := 3) [(0, xs (w32 (v3_1 + 1)).toNat), (0, xs (w32 (v3_1 + 2)).toNat), (0, xs (w32 (v3_1 + 3)).toNat)] 68 dL_law_462 M_X10_order q_1163 (by decide) rfl rfl sh_68 rfl (Nat.le_of_ble_eq_true rfl) (k_X10_order h) ?_
      rintro _ s_79 ⟨r_78, rfl, h⟩
      refine Ev_icmp_eq (tgt := 1147) dL_law_465 (by decide) (fun hc => ?_) (fun hc => ?_)
      · exact go _ (Inv_keep hI h.2.1 h.2.2)
      · exact absurd h.1 hc
    · refine Ev_tabIn (tgt := 470) (off := 437) dL_law_33 (by omega) (by omega) (by rw [hc]; rfl) (by decide) ?_
      refine Ev_aload_n dL_law_470 1 rfl ?_
      refine Ev_aload_n dL_law_471 0 rfl ?_
      refine Ev_iload_n dL_law_472 3 rfl ?_
      refine Ev_iconst (v := 1) dL_law_473 rfl ⟨by decide, by decide⟩ ?_
      refine Ev_iadd dL_law_474 ?_
      refine Ev_sld dL_law_475 rfl hw_1 ?_
      refine Ev_aload_n dL_law_476 0 rfl ?_
      refine Ev_iload_n dL_law_477 3 rfl ?_
      refine Ev_iconst (v := 2) dL_law_478 rfl ⟨by decide, by decide⟩ ?_
      refine Ev_iadd dL_law_479 ?_
      refine Ev_sld dL_law_480 rfl hw_2 ?_
      have h : w_X9_slab s_2 (xs (w32 (v3_1 + 1)).toNat) (xs (w32 (v3_1 + 2)).toNat) (fun r1 s1 => w_X10_slab s1 (xs (w32 (v3_1 + 1)).toNat) (xs (w32 (v3_1 + 2)).toNat) (fun r2 s2 => r1 = r2 ∧ Inv s2)) := T_slab hI
      refine Ev_invV (d' := 6) [(0, xs (w32 (v3_1 + 1)).toNat), (0, xs (w32 (v3_1 + 2)).toNat)] 0 dL_law_481 M_X9_slab q_617 (by decide) rfl rfl sh_0 rfl (Nat.le_of_ble_eq_true rfl) (k_X9_slab h) ?_
      rintro _ s_83 ⟨r_82, rfl, h⟩
      refine Ev_aload_n dL_law_484 2 rfl ?_
      refine Ev_aload_n dL_law_485 0 rfl ?_
      refine Ev_iload_n dL_law_486 3 rfl ?_
      refine Ev_iconst (v := 1) dL_law_487 rfl ⟨by decide, by decide⟩ ?_
      refine Ev_iadd dL_law_488 ?_
      refine Ev_sld dL_law_489 rfl hw_1 ?_
      refine Ev_aload_n dL_law_490 0 rfl ?_
      refine Ev_iload_n dL_law_491 3 rfl ?_
      refine Ev_iconst (v := 2) dL_law_492 rfl ⟨by decide, by decide⟩ ?_
      refine Ev_iadd dL_law_493 ?_
      refine Ev_sld dL_law_494 rfl hw_2 ?_
      refine Ev_invV (d' := 105) [(0, xs (w32 (v3_1 + 1)).toNat), (0, xs (w32 (v3_1 + 2)).toNat)] 68 dL_law_495 M_X10_slab q_1187 (by decide) rfl rfl sh_68 rfl (Nat.le_of_ble_eq_true rfl) (k_X10_slab h) ?_
      rintro _ s_87 ⟨r_86, rfl, h⟩
      refine Ev_icmp_eq (tgt := 1147) dL_law_498 (by decide) (fun hc => ?_) (fun hc => ?_)
      · exact go _ h.2
      · exact absurd h.1 hc
    · refine Ev_tabIn (tgt := 503) (off := 470) dL_law_33 (by omega) (by omega) (by rw [hc]; rfl) (by decide) ?_
      refine Ev_aload_n dL_law_503 1 rfl ?_
      refine Ev_aload_n dL_law_504 0 rfl ?_
      refine Ev_iload_n dL_law_505 3 rfl ?_
      refine Ev_iconst (v := 1) dL_law_506 rfl ⟨by decide, by decide⟩ ?_
      refine Ev_iadd dL_law_507 ?_
      refine Ev_sld dL_law_508 rfl hw_1 ?_
      refine Ev_aload_n dL_law_509 0 rfl ?_
      refine Ev_iload_n dL_law_510 3 rfl ?_
      refine Ev_iconst (v := 2) dL_law_511 rfl ⟨by decide, by decide⟩ ?_
      refine Ev_iadd dL_law_512 ?_
      refine Ev_sld dL_law_513 rfl hw_2 ?_
      have h : w_X9_cell s_2 (xs (w32 (v3_1 + 1)).toNat) (xs (w32 (v3_1 + 2)).toNat) (fun r1 s1 => w_X10_cell s1 (xs (w32 (v3_1 + 1)).toNat) (xs (w32 (v3_1 + 2)).toNat) (fun r2 s2 => r1 = r2 ∧ Inv s2)) := T_cell hI
      refine Ev_invV (d' := 6) [(0, xs (w32 (v3_1 + 1)).toNat), (0, xs (w32 (v3_1 + 2)).toNat)] 0 dL_law_514 M_X9_cell q_709 (by decide) rfl rfl sh_0 rfl (Nat.le_of_ble_eq_true rfl) (k_X9_cell h) ?_
      rintro _ s_91 ⟨r_90, rfl, h⟩
      refine Ev_aload_n dL_law_517 2 rfl ?_
      refine Ev_aload_n dL_law_518 0 rfl ?_
      refine Ev_iload_n dL_law_519 3 rfl ?_
      refine Ev_iconst (v := 1) dL_law_520 rfl ⟨by decide, by decide⟩ ?_
      refine Ev_iadd dL_law_521 ?_
      refine Ev_sld dL_law_522 rfl hw_1 ?_
      refine Ev_aload_n dL_law_523 0 rfl ?_
      refine Ev_iload_n dL_law_524 3 rfl ?_
      refine Ev_iconst (v := 2) dL_law_525 rfl ⟨by decide, by decide⟩ ?_
      refine Ev_iadd dL_law_526 ?_
      refine Ev_sld dL_law_527 rfl hw_2 ?_
      refine Ev_invV (d' := 105) [(0, xs (w32 (v3_1 + 1)).toNat), (0, xs (w32 (v3_1 + 2)).toNat)] 68 dL_law_528 M_X10_cell q_1240 (by decide) rfl rfl sh_68 rfl (Nat.le_of_ble_eq_true rfl) (k_X10_cell h) ?_
      rintro _ s_95 ⟨r_94, rfl, h⟩
      refine Ev_icmp_eq (tgt := 1147) dL_law_531 (by decide) (fun hc => ?_) (fun hc => ?_)
      · exact go _ h.2
      · exact absurd h.1 hc
    · refine Ev_tabIn (tgt := 536) (off := 503) dL_law_33 (by omega) (by omega) (by rw [hc]; rfl) (by decide) ?_
      refine Ev_aload_n dL_law_536 1 rfl ?_
      refine Ev_aload_n dL_law_537 0 rfl ?_
      refine Ev_iload_n dL_law_538 3 rfl ?_
      refine Ev_iconst (v := 1) dL_law_539 rfl ⟨by decide, by decide⟩ ?_
      refine Ev_iadd dL_law_540 ?_
      refine Ev_sld dL_law_541 rfl hw_1 ?_
      refine Ev_aload_n dL_law_542 0 rfl ?_
      refine Ev_iload_n dL_law_543 3 rfl ?_
      refine Ev_iconst (v := 2) dL_law_544 rfl ⟨by decide, by decide⟩ ?_
      refine Ev_iadd dL_law_545 ?_
      refine Ev_sld dL_law_546 rfl hw_2 ?_
      have h : w_X9_face s_2 (xs (w32 (v3_1 + 1)).toNat) (xs (w32 (v3_1 + 2)).toNat) (fun r1 s1 => w_X10_face s1 (xs (w32 (v3_1 + 1)).toNat) (xs (w32 (v3_1 + 2)).toNat) (fun r2 s2 => r1 = r2 ∧ Inv s2)) := T_face hI
      refine Ev_invV (d' := 6) [(0, xs (w32 (v3_1 + 1)).toNat), (0, xs (w32 (v3_1 + 2)).toNat)] 0 dL_law_547 M_X9_face q_714 (by decide) rfl rfl sh_0 rfl (Nat.le_of_ble_eq_true rfl) (k_X9_face h) ?_
      rintro _ s_99 ⟨r_98, rfl, h⟩
      refine Ev_aload_n dL_law_550 2 rfl ?_
      refine Ev_aload_n dL_law_551 0 rfl ?_
      refine Ev_iload_n dL_law_552 3 rfl ?_
      refine Ev_iconst (v := 1) dL_law_553 rfl ⟨by decide, by decide⟩ ?_
      refine Ev_iadd dL_law_554 ?_
      refine Ev_sld dL_law_555 rfl hw_1 ?_
      refine Ev_aload_n dL_law_556 0 rfl ?_
      refine Ev_iload_n dL_law_557 3 rfl ?_
      refine Ev_iconst (v := 2) dL_law_558 rfl ⟨by decide, by decide⟩ ?_
      refine Ev_iadd dL_law_559 ?_
      refine Ev_sld dL_law_560 rfl hw_2 ?_
      refine Ev_invV (d' := 105) [(0, xs (w32 (v3_1 + 1)).toNat), (0, xs (w32 (v3_1 + 2)).toNat)] 68 dL_law_561 M_X10_face q_1244 (by decide) rfl rfl sh_68 rfl (Nat.le_of_ble_eq_true rfl) (k_X10_face h) ?_
      rintro _ s_103 ⟨r_102, rfl, h⟩
      refine Ev_icmp_eq (tgt := 1147) dL_law_564 (by decide) (fun hc => ?_) (fun hc => ?_)
      · exact go _ h.2
      · exact absurd h.1 hc
    · refine Ev_tabIn (tgt := 569) (off := 536) dL_law_33 (by omega) (by omega) (by rw [hc]; rfl) (by decide) ?_
      refine Ev_aload_n dL_law_569 1 rfl ?_
      refine Ev_aload_n dL_law_570 0 rfl ?_
      refine Ev_iload_n dL_law_571 3 rfl ?_
      refine Ev_iconst (v := 1) dL_law_572 rfl ⟨by decide, by decide⟩ ?_
      refine Ev_iadd dL_law_573 ?_
      refine Ev_sld dL_law_574 rfl hw_1 ?_
      refine Ev_aload_n dL_law_575 0 rfl ?_
      refine Ev_iload_n dL_law_576 3 rfl ?_
      refine Ev_iconst (v := 2) dL_law_577 rfl ⟨by decide, by decide⟩ ?_
      refine Ev_iadd dL_law_578 ?_
      refine Ev_sld dL_law_579 rfl hw_2 ?_
      refine Ev_aload_n dL_law_580 0 rfl ?_
      refine Ev_iload_n dL_law_581 3 rfl ?_
      refine Ev_iconst (v := 3) dL_law_582 rfl ⟨by decide, by decide⟩ ?_
      refine Ev_iadd dL_law_583 ?_
      refine Ev_sld dL_law_584 rfl hw_3 ?_
      have h : w_X9_where s_2 (xs (w32 (v3_1 + 1)).toNat) (xs (w32 (v3_1 + 2)).toNat) (xs (w32 (v3_1 + 3)).toNat) (fun r1 s1 => w_X10_where s1 (xs (w32 (v3_1 + 1)).toNat) (xs (w32 (v3_1 + 2)).toNat) (xs (w32 (v3_1 + 3)).toNat) (fun r2 s2 => r1 = r2 ∧ Inv s2)) := T_where hI
      refine Ev_invV (d' := 6) [(0, xs (w32 (v3_1 + 1)).toNat), (0, xs (w32 (v3_1 + 2)).toNat), (0, xs (w32 (v3_1 + 3)).toNat)] 0 dL_law_585 M_X9_where q_724 (by decide) rfl rfl sh_0 rfl (Nat.le_of_ble_eq_true rfl) (k_X9_where h) ?_
      rintro _ s_108 ⟨r_107, rfl, h⟩
      refine Ev_aload_n dL_law_588 2 rfl ?_
      refine Ev_aload_n dL_law_589 0 rfl ?_
      refine Ev_iload_n dL_law_590 3 rfl ?_
      refine Ev_iconst (v := 1) dL_law_591 rfl ⟨by decide, by decide⟩ ?_
      refine Ev_iadd dL_law_592 ?_
      refine Ev_sld dL_law_593 rfl hw_1 ?_
      refine Ev_aload_n dL_law_594 0 rfl ?_
      refine Ev_iload_n dL_law_595 3 rfl ?_
      refine Ev_iconst (v := 2) dL_law_596 rfl ⟨by decide, by decide⟩ ?_
      refine Ev_iadd dL_law_597 ?_
      refine Ev_sld dL_law_598 rfl hw_2 ?_
      refine Ev_aload_n dL_law_599 0 rfl ?_
      refine Ev_iload_n dL_law_600 3 rfl ?_
      refine Ev_iconst (v := 3) dL_law_601 rfl ⟨by decide, by decide⟩ ?_
      refine Ev_iadd dL_law_602 ?_
      refine Ev_sld dL_law_603 rfl hw_3 ?_
      refine Ev_invV (d' := 105) [(0, xs (w32 (v3_1 + 1)).toNat), (0, xs (w32 (v3_1 + 2)).toNat), (0, xs (w32 (v3_1 + 3)).toNat)] 68 dL_law_604 M_X10_where q_1272 (by decide) rfl rfl sh_68 rfl (Nat.le_of_ble_eq_true rfl) (k_X10_where h) ?_
      rintro _ s_113 ⟨r_112, rfl, h⟩
      refine Ev_icmp_eq (tgt := 1147) dL_law_607 (by decide) (fun hc => ?_) (fun hc => ?_)
      · exact go _ h.2
      · exact absurd h.1 hc
    · refine Ev_tabIn (tgt := 612) (off := 579) dL_law_33 (by omega) (by omega) (by rw [hc]; rfl) (by decide) ?_
      refine Ev_aload_n dL_law_612 1 rfl ?_
      refine Ev_aload_n dL_law_613 0 rfl ?_
      refine Ev_iload_n dL_law_614 3 rfl ?_
      refine Ev_iconst (v := 1) dL_law_615 rfl ⟨by decide, by decide⟩ ?_
      refine Ev_iadd dL_law_616 ?_
      refine Ev_sld dL_law_617 rfl hw_1 ?_
      refine Ev_aload_n dL_law_618 0 rfl ?_
      refine Ev_iload_n dL_law_619 3 rfl ?_
      refine Ev_iconst (v := 2) dL_law_620 rfl ⟨by decide, by decide⟩ ?_
      refine Ev_iadd dL_law_621 ?_
      refine Ev_sld dL_law_622 rfl hw_2 ?_
      refine Ev_aload_n dL_law_623 0 rfl ?_
      refine Ev_iload_n dL_law_624 3 rfl ?_
      refine Ev_iconst (v := 3) dL_law_625 rfl ⟨by decide, by decide⟩ ?_
      refine Ev_iadd dL_law_626 ?_
      refine Ev_sld dL_law_627 rfl hw_3 ?_
      have h : w_X9_on s_2 (xs (w32 (v3_1 + 1)).toNat) (xs (w32 (v3_1 + 2)).toNat) (xs (w32 (v3_1 + 3)).toNat) (fun r1 => w_X10_on s_2 (xs (w32 (v3_1 + 1)).toNat) (xs (w32 (v3_1 + 2)).toNat) (xs (w32 (v3_1 + 3)).toNat) (fun r2 => r1 = r2)) := T_on hI.1
      refine Ev_invV (d' := 3) [(0, xs (w32 (v3_1 + 1)).toNat), (0, xs (w32 (v3_1 + 2)).toNat), (0, xs (w32 (v3_1 + 3)).toNat)] 0 dL_law_628 M_X9_on q_743 (by decide) rfl rfl sh_0 rfl (Nat.le_of_ble_eq_true rfl) (k_X9_on h) ?_
      rintro _ _ ⟨rfl, r_117, rfl, h⟩
      refine Ev_aload_n dL_law_631 2 rfl ?_
      refine Ev_aload_n dL_law_632 0 rfl ?_
      refine Ev_iload_n dL_law_633 3 rfl ?_
      refine Ev_iconst (v := 1) dL_law_634 rfl ⟨by decide, by decide⟩ ?_
      refine Ev_iadd dL_law_635 ?_
      refine Ev_sld dL_law_636 rfl hw_1 ?_
      refine Ev_aload_n dL_law_637 0 rfl ?_
      refine Ev_iload_n dL_law_638 3 rfl ?_
      refine Ev_iconst (v := 2) dL_law_639 rfl ⟨by decide, by decide⟩ ?_
      refine Ev_iadd dL_law_640 ?_
      refine Ev_sld dL_law_641 rfl hw_2 ?_
      refine Ev_aload_n dL_law_642 0 rfl ?_
      refine Ev_iload_n dL_law_643 3 rfl ?_
      refine Ev_iconst (v := 3) dL_law_644 rfl ⟨by decide, by decide⟩ ?_
      refine Ev_iadd dL_law_645 ?_
      refine Ev_sld dL_law_646 rfl hw_3 ?_
      refine Ev_invV (d' := 3) [(0, xs (w32 (v3_1 + 1)).toNat), (0, xs (w32 (v3_1 + 2)).toNat), (0, xs (w32 (v3_1 + 3)).toNat)] 68 dL_law_647 M_X10_on q_1279 (by decide) rfl rfl sh_68 rfl (Nat.le_of_ble_eq_true rfl) (k_X10_on h) ?_
      rintro _ _ ⟨rfl, r_121, rfl, h⟩
      refine Ev_icmp_eq (tgt := 1147) dL_law_650 (by decide) (fun hc => ?_) (fun hc => ?_)
      · exact go _ hI
      · exact absurd h hc
    · refine Ev_tabIn (tgt := 655) (off := 622) dL_law_33 (by omega) (by omega) (by rw [hc]; rfl) (by decide) ?_
      refine Ev_aload_n dL_law_655 1 rfl ?_
      refine Ev_aload_n dL_law_656 0 rfl ?_
      refine Ev_iload_n dL_law_657 3 rfl ?_
      refine Ev_iconst (v := 1) dL_law_658 rfl ⟨by decide, by decide⟩ ?_
      refine Ev_iadd dL_law_659 ?_
      refine Ev_sld dL_law_660 rfl hw_1 ?_
      refine Ev_aload_n dL_law_661 0 rfl ?_
      refine Ev_iload_n dL_law_662 3 rfl ?_
      refine Ev_iconst (v := 2) dL_law_663 rfl ⟨by decide, by decide⟩ ?_
      refine Ev_iadd dL_law_664 ?_
      refine Ev_sld dL_law_665 rfl hw_2 ?_
      have h : w_X9_hops s_2 (xs (w32 (v3_1 + 1)).toNat) (xs (w32 (v3_1 + 2)).toNat) (fun r1 s1 => w_X10_hops s1 (xs (w32 (v3_1 + 1)).toNat) (xs (w32 (v3_1 + 2)).toNat) (fun r2 s2 => r1 = r2 ∧ Inv s2)) := T_hops hI
      refine Ev_invV (d' := 6) [(0, xs (w32 (v3_1 + 1)).toNat), (0, xs (w32 (v3_1 + 2)).toNat)] 0 dL_law_666 M_X9_hops q_747 (by decide) rfl rfl sh_0 rfl (Nat.le_of_ble_eq_true rfl) (k_X9_hops h) ?_
      rintro _ s_125 ⟨r_124, rfl, h⟩
      refine Ev_aload_n dL_law_669 2 rfl ?_
      refine Ev_aload_n dL_law_670 0 rfl ?_
      refine Ev_iload_n dL_law_671 3 rfl ?_
      refine Ev_iconst (v := 1) dL_law_672 rfl ⟨by decide, by decide⟩ ?_
      refine Ev_iadd dL_law_673 ?_
      refine Ev_sld dL_law_674 rfl hw_1 ?_
      refine Ev_aload_n dL_law_675 0 rfl ?_
      refine Ev_iload_n dL_law_676 3 rfl ?_
      refine Ev_iconst (v := 2) dL_law_677 rfl ⟨by decide, by decide⟩ ?_
      refine Ev_iadd dL_law_678 ?_
      refine Ev_sld dL_law_679 rfl hw_2 ?_
      refine Ev_invV (d' := 105) [(0, xs (w32 (v3_1 + 1)).toNat), (0, xs (w32 (v3_1 + 2)).toNat)] 68 dL_law_680 M_X10_hops q_1283 (by decide) rfl rfl sh_68 rfl (Nat.le_of_ble_eq_true rfl) (k_X10_hops h) ?_
      rintro _ s_129 ⟨r_128, rfl, h⟩
      refine Ev_icmp_eq (tgt := 1147) dL_law_683 (by decide) (fun hc => ?_) (fun hc => ?_)
      · exact go _ h.2
      · exact absurd h.1 hc
    · refine Ev_tabIn (tgt := 688) (off := 655) dL_law_33 (by omega) (by omega) (by rw [hc]; rfl) (by decide) ?_
      refine Ev_aload_n dL_law_688 1 rfl ?_
      refine Ev_aload_n dL_law_689 0 rfl ?_
      refine Ev_iload_n dL_law_690 3 rfl ?_
      refine Ev_iconst (v := 1) dL_law_691 rfl ⟨by decide, by decide⟩ ?_
      refine Ev_iadd dL_law_692 ?_
      refine Ev_sld dL_law_693 rfl hw_1 ?_
      have h : w_X9_count s_2 (xs (w32 (v3_1 + 1)).toNat) (fun r1 s1 => w_X10_count s1 (xs (w32 (v3_1 + 1)).toNat) (fun r2 s2 => r1 = r2 ∧ Inv s2)) := T_count hI
      refine Ev_invV (d' := 6) [(0, xs (w32 (v3_1 + 1)).toNat)] 0 dL_law_694 M_X9_count q_755 (by decide) rfl rfl sh_0 rfl (Nat.le_of_ble_eq_true rfl) (k_X9_count h) ?_
      rintro _ s_132 ⟨r_131, rfl, h⟩
      refine Ev_aload_n dL_law_697 2 rfl ?_
      refine Ev_aload_n dL_law_698 0 rfl ?_
      refine Ev_iload_n dL_law_699 3 rfl ?_
      refine Ev_iconst (v := 1) dL_law_700 rfl ⟨by decide, by decide⟩ ?_
      refine Ev_iadd dL_law_701 ?_
      refine Ev_sld dL_law_702 rfl hw_1 ?_
      refine Ev_invV (d' := 105) [(0, xs (w32 (v3_1 + 1)).toNat)] 68 dL_law_703 M_X10_count q_1287 (by decide) rfl rfl sh_68 rfl (Nat.le_of_ble_eq_true rfl) (k_X10_count h) ?_
      rintro _ s_135 ⟨r_134, rfl, h⟩
      refine Ev_icmp_eq (tgt := 1147) dL_law_706 (by decide) (fun hc => ?_) (fun hc => ?_)
      · exact go _ h.2
      · exact absurd h.1 hc
    · refine Ev_tabIn (tgt := 711) (off := 678) dL_law_33 (by omega) (by omega) (by rw [hc]; rfl) (by decide) ?_
      refine Ev_aload_n dL_law_711 1 rfl ?_
      refine Ev_aload_n dL_law_712 0 rfl ?_
      refine Ev_iload_n dL_law_713 3 rfl ?_
      refine Ev_iconst (v := 1) dL_law_714 rfl ⟨by decide, by decide⟩ ?_
      refine Ev_iadd dL_law_715 ?_
      refine Ev_sld dL_law_716 rfl hw_1 ?_
      have h : w_X9_without s_2 (xs (w32 (v3_1 + 1)).toNat) (fun r1 s1 => w_X10_without s1 (xs (w32 (v3_1 + 1)).toNat) (fun r2 s2 => r1 = r2 ∧ Inv s2)) := T_without hI
      refine Ev_invV (d' := 6) [(0, xs (w32 (v3_1 + 1)).toNat)] 0 dL_law_717 M_X9_without q_759 (by decide) rfl rfl sh_0 rfl (Nat.le_of_ble_eq_true rfl) (k_X9_without h) ?_
      rintro _ s_138 ⟨r_137, rfl, h⟩
      refine Ev_aload_n dL_law_720 2 rfl ?_
      refine Ev_aload_n dL_law_721 0 rfl ?_
      refine Ev_iload_n dL_law_722 3 rfl ?_
      refine Ev_iconst (v := 1) dL_law_723 rfl ⟨by decide, by decide⟩ ?_
      refine Ev_iadd dL_law_724 ?_
      refine Ev_sld dL_law_725 rfl hw_1 ?_
      refine Ev_invV (d' := 107) [(0, xs (w32 (v3_1 + 1)).toNat)] 68 dL_law_726 M_X10_without q_1299 (by decide) rfl rfl sh_68 rfl (Nat.le_of_ble_eq_true rfl) (k_X10_without h) ?_
      rintro _ s_141 ⟨r_140, rfl, h⟩
      refine Ev_icmp_eq (tgt := 1147) dL_law_729 (by decide) (fun hc => ?_) (fun hc => ?_)
      · exact go _ h.2
      · exact absurd h.1 hc
    · refine Ev_tabIn (tgt := 734) (off := 701) dL_law_33 (by omega) (by omega) (by rw [hc]; rfl) (by decide) ?_
      refine Ev_aload_n dL_law_734 1 rfl ?_
      refine Ev_aload_n dL_law_735 0 rfl ?_
      refine Ev_iload_n dL_law_736 3 rfl ?_
      refine Ev_iconst (v := 1) dL_law_737 rfl ⟨by decide, by decide⟩ ?_
      refine Ev_iadd dL_law_738 ?_
      refine Ev_sld dL_law_739 rfl hw_1 ?_
      have h : w_X9_most s_2 (xs (w32 (v3_1 + 1)).toNat) (fun r1 s1 => w_X10_most s1 (xs (w32 (v3_1 + 1)).toNat) (fun r2 s2 => r1 = r2 ∧ Inv s2)) := T_most hI
      refine Ev_invV (d' := 6) [(0, xs (w32 (v3_1 + 1)).toNat)] 0 dL_law_740 M_X9_most q_775 (by decide) rfl rfl sh_0 rfl (Nat.le_of_ble_eq_true rfl) (k_X9_most h) ?_
      rintro _ s_144 ⟨r_143, rfl, h⟩
      refine Ev_aload_n dL_law_743 2 rfl ?_
      refine Ev_aload_n dL_law_744 0 rfl ?_
      refine Ev_iload_n dL_law_745 3 rfl ?_
      refine Ev_iconst (v := 1) dL_law_746 rfl ⟨by decide, by decide⟩ ?_
      refine Ev_iadd dL_law_747 ?_
      refine Ev_sld dL_law_748 rfl hw_1 ?_
      refine Ev_invV (d' := 107) [(0, xs (w32 (v3_1 + 1)).toNat)] 68 dL_law_749 M_X10_most q_1324 (by decide) rfl rfl sh_68 rfl (Nat.le_of_ble_eq_true rfl) (k_X10_most h) ?_
      rintro _ s_147 ⟨r_146, rfl, h⟩
      refine Ev_icmp_eq (tgt := 1147) dL_law_752 (by decide) (fun hc => ?_) (fun hc => ?_)
      · exact go _ h.2
      · exact absurd h.1 hc
    · refine Ev_tabIn (tgt := 757) (off := 724) dL_law_33 (by omega) (by omega) (by rw [hc]; rfl) (by decide) ?_
      refine Ev_aload_n dL_law_757 1 rfl ?_
      refine Ev_aload_n dL_law_758 0 rfl ?_
      refine Ev_iload_n dL_law_759 3 rfl ?_
      refine Ev_iconst (v := 1) dL_law_760 rfl ⟨by decide, by decide⟩ ?_
      refine Ev_iadd dL_law_761 ?_
      refine Ev_sld dL_law_762 rfl hw_1 ?_
      refine Ev_aload_n dL_law_763 0 rfl ?_
      refine Ev_iload_n dL_law_764 3 rfl ?_
      refine Ev_iconst (v := 2) dL_law_765 rfl ⟨by decide, by decide⟩ ?_
      refine Ev_iadd dL_law_766 ?_
      refine Ev_sld dL_law_767 rfl hw_2 ?_
      have h : w_X9_drawn s_2 (xs (w32 (v3_1 + 1)).toNat) (xs (w32 (v3_1 + 2)).toNat) (fun r1 s1 => w_X10_drawn s1 (xs (w32 (v3_1 + 1)).toNat) (xs (w32 (v3_1 + 2)).toNat) (fun r2 s2 => r1 = r2 ∧ Inv s2)) := T_drawn hI
      refine Ev_invV (d' := 6) [(0, xs (w32 (v3_1 + 1)).toNat), (0, xs (w32 (v3_1 + 2)).toNat)] 0 dL_law_768 M_X9_drawn q_779 (by decide) rfl rfl sh_0 rfl (Nat.le_of_ble_eq_true rfl) (k_X9_drawn h) ?_
      rintro _ s_151 ⟨r_150, rfl, h⟩
      refine Ev_aload_n dL_law_771 2 rfl ?_
      refine Ev_aload_n dL_law_772 0 rfl ?_
      refine Ev_iload_n dL_law_773 3 rfl ?_
      refine Ev_iconst (v := 1) dL_law_774 rfl ⟨by decide, by decide⟩ ?_
      refine Ev_iadd dL_law_775 ?_
      refine Ev_sld dL_law_776 rfl hw_1 ?_
      refine Ev_aload_n dL_law_777 0 rfl ?_
      refine Ev_iload_n dL_law_778 3 rfl ?_
      refine Ev_iconst (v := 2) dL_law_779 rfl ⟨by decide, by decide⟩ ?_
      refine Ev_iadd dL_law_780 ?_
      refine Ev_sld dL_law_781 rfl hw_2 ?_
      refine Ev_invV (d' := 107) [(0, xs (w32 (v3_1 + 1)).toNat), (0, xs (w32 (v3_1 + 2)).toNat)] 68 dL_law_782 M_X10_drawn q_1328 (by decide) rfl rfl sh_68 rfl (Nat.le_of_ble_eq_true rfl) (k_X10_drawn h) ?_
      rintro _ s_155 ⟨r_154, rfl, h⟩
      refine Ev_icmp_eq (tgt := 1147) dL_law_785 (by decide) (fun hc => ?_) (fun hc => ?_)
      · exact go _ h.2
      · exact absurd h.1 hc
    · refine Ev_tabIn (tgt := 790) (off := 757) dL_law_33 (by omega) (by omega) (by rw [hc]; rfl) (by decide) ?_
      refine Ev_aload_n dL_law_790 1 rfl ?_
      refine Ev_aload_n dL_law_791 0 rfl ?_
      refine Ev_iload_n dL_law_792 3 rfl ?_
      refine Ev_iconst (v := 1) dL_law_793 rfl ⟨by decide, by decide⟩ ?_
      refine Ev_iadd dL_law_794 ?_
      refine Ev_sld dL_law_795 rfl hw_1 ?_
      refine Ev_aload_n dL_law_796 0 rfl ?_
      refine Ev_iload_n dL_law_797 3 rfl ?_
      refine Ev_iconst (v := 2) dL_law_798 rfl ⟨by decide, by decide⟩ ?_
      refine Ev_iadd dL_law_799 ?_
      refine Ev_sld dL_law_800 rfl hw_2 ?_
      refine Ev_aload_n dL_law_801 0 rfl ?_
      refine Ev_iload_n dL_law_802 3 rfl ?_
      refine Ev_iconst (v := 3) dL_law_803 rfl ⟨by decide, by decide⟩ ?_
      refine Ev_iadd dL_law_804 ?_
      refine Ev_sld dL_law_805 rfl hw_3 ?_
      refine Ev_aload_n dL_law_806 0 rfl ?_
      refine Ev_iload_n dL_law_807 3 rfl ?_
      refine Ev_iconst (v := 4) dL_law_808 rfl ⟨by decide, by decide⟩ ?_
      refine Ev_iadd dL_law_809 ?_
      refine Ev_sld dL_law_810 rfl hw_4 ?_
      have h : w_X9_chance s_2 (xs (w32 (v3_1 + 1)).toNat) (xs (w32 (v3_1 + 2)).toNat) (xs (w32 (v3_1 + 3)).toNat) (xs (w32 (v3_1 + 4)).toNat) (fun r1 s1 => w_X10_chance s1 (xs (w32 (v3_1 + 1)).toNat) (xs (w32 (v3_1 + 2)).toNat) (xs (w32 (v3_1 + 3)).toNat) (xs (w32 (v3_1 + 4)).toNat) (fun r2 s2 => r1 = r2 ∧ Inv s2)) := T_chance hI
      refine Ev_invV (d' := 6) [(0, xs (w32 (v3_1 + 1)).toNat), (0, xs (w32 (v3_1 + 2)).toNat), (0, xs (w32 (v3_1 + 3)).toNat), (0, xs (w32 (v3_1 + 4)).toNat)] 0 dL_law_811 M_X9_chance q_794 (by decide) rfl rfl sh_0 rfl (Nat.le_of_ble_eq_true rfl) (k_X9_chance h) ?_
      rintro _ s_161 ⟨r_160, rfl, h⟩
      refine Ev_aload_n dL_law_814 2 rfl ?_
      refine Ev_aload_n dL_law_815 0 rfl ?_
      refine Ev_iload_n dL_law_816 3 rfl ?_
      refine Ev_iconst (v := 1) dL_law_817 rfl ⟨by decide, by decide⟩ ?_
      refine Ev_iadd dL_law_818 ?_
      refine Ev_sld dL_law_819 rfl hw_1 ?_
      refine Ev_aload_n dL_law_820 0 rfl ?_
      refine Ev_iload_n dL_law_821 3 rfl ?_
      refine Ev_iconst (v := 2) dL_law_822 rfl ⟨by decide, by decide⟩ ?_
      refine Ev_iadd dL_law_823 ?_
      refine Ev_sld dL_law_824 rfl hw_2 ?_
      refine Ev_aload_n dL_law_825 0 rfl ?_
      refine Ev_iload_n dL_law_826 3 rfl ?_
      refine Ev_iconst (v := 3) dL_law_827 rfl ⟨by decide, by decide⟩ ?_
      refine Ev_iadd dL_law_828 ?_
      refine Ev_sld dL_law_829 rfl hw_3 ?_
      refine Ev_aload_n dL_law_830 0 rfl ?_
      refine Ev_iload_n dL_law_831 3 rfl ?_
      refine Ev_iconst (v := 4) dL_law_832 rfl ⟨by decide, by decide⟩ ?_
      refine Ev_iadd dL_law_833 ?_
      refine Ev_sld dL_law_834 rfl hw_4 ?_
      refine Ev_invV (d' := 107) [(0, xs (w32 (v3_1 + 1)).toNat), (0, xs (w32 (v3_1 + 2)).toNat), (0, xs (w32 (v3_1 + 3)).toNat), (0, xs (w32 (v3_1 + 4)).toNat)] 68 dL_law_835 M_X10_chance q_1342 (by decide) rfl rfl sh_68 rfl (Nat.le_of_ble_eq_true rfl) (k_X10_chance h) ?_
      rintro _ s_167 ⟨r_166, rfl, h⟩
      refine Ev_icmp_eq (tgt := 1147) dL_law_838 (by decide) (fun hc => ?_) (fun hc => ?_)
      · exact go _ h.2
      · exact absurd h.1 hc
    · refine Ev_tabIn (tgt := 843) (off := 810) dL_law_33 (by omega) (by omega) (by rw [hc]; rfl) (by decide) ?_
      refine Ev_aload_n dL_law_843 1 rfl ?_
      refine Ev_aload_n dL_law_844 0 rfl ?_
      refine Ev_iload_n dL_law_845 3 rfl ?_
      refine Ev_iconst (v := 1) dL_law_846 rfl ⟨by decide, by decide⟩ ?_
      refine Ev_iadd dL_law_847 ?_
      refine Ev_sld dL_law_848 rfl hw_1 ?_
      refine Ev_aload_n dL_law_849 0 rfl ?_
      refine Ev_iload_n dL_law_850 3 rfl ?_
      refine Ev_iconst (v := 2) dL_law_851 rfl ⟨by decide, by decide⟩ ?_
      refine Ev_iadd dL_law_852 ?_
      refine Ev_sld dL_law_853 rfl hw_2 ?_
      refine Ev_aload_n dL_law_854 0 rfl ?_
      refine Ev_iload_n dL_law_855 3 rfl ?_
      refine Ev_iconst (v := 3) dL_law_856 rfl ⟨by decide, by decide⟩ ?_
      refine Ev_iadd dL_law_857 ?_
      refine Ev_sld dL_law_858 rfl hw_3 ?_
      have h : w_X9_tells s_2 (xs (w32 (v3_1 + 1)).toNat) (xs (w32 (v3_1 + 2)).toNat) (xs (w32 (v3_1 + 3)).toNat) (fun r1 s1 => w_X10_tells s1 (xs (w32 (v3_1 + 1)).toNat) (xs (w32 (v3_1 + 2)).toNat) (xs (w32 (v3_1 + 3)).toNat) (fun r2 s2 => r1 = r2 ∧ Base s2 ∧ Keep s_2 s2)) := T_tells hI.1
      refine Ev_invV (d' := 5) [(0, xs (w32 (v3_1 + 1)).toNat), (0, xs (w32 (v3_1 + 2)).toNat), (0, xs (w32 (v3_1 + 3)).toNat)] 0 dL_law_859 M_X9_tells q_799 (by decide) rfl rfl sh_0 rfl (Nat.le_of_ble_eq_true rfl) (k_X9_tells h) ?_
      rintro _ s_172 ⟨r_171, rfl, h⟩
      refine Ev_aload_n dL_law_862 2 rfl ?_
      refine Ev_aload_n dL_law_863 0 rfl ?_
      refine Ev_iload_n dL_law_864 3 rfl ?_
      refine Ev_iconst (v := 1) dL_law_865 rfl ⟨by decide, by decide⟩ ?_
      refine Ev_iadd dL_law_866 ?_
      refine Ev_sld dL_law_867 rfl hw_1 ?_
      refine Ev_aload_n dL_law_868 0 rfl ?_
      refine Ev_iload_n dL_law_869 3 rfl ?_
      refine Ev_iconst (v := 2) dL_law_870 rfl ⟨by decide, by decide⟩ ?_
      refine Ev_iadd dL_law_871 ?_
      refine Ev_sld dL_law_872 rfl hw_2 ?_
      refine Ev_aload_n dL_law_873 0 rfl ?_
      refine Ev_iload_n dL_law_874 3 rfl ?_
      refine Ev_iconst (v := 3) dL_law_875 rfl ⟨by decide, by decide⟩ ?_
      refine Ev_iadd dL_law_876 ?_
      refine Ev_sld dL_law_877 rfl hw_3 ?_
      refine Ev_invV (d' := 4) [(0, xs (w32 (v3_1 + 1)).toNat), (0, xs (w32 (v3_1 + 2)).toNat), (0, xs (w32 (v3_1 + 3)).toNat)] 68 dL_law_878 M_X10_tells q_1346 (by decide) rfl rfl sh_68 rfl (Nat.le_of_ble_eq_true rfl) (k_X10_tells h) ?_
      rintro _ s_177 ⟨r_176, rfl, h⟩
      refine Ev_icmp_eq (tgt := 1147) dL_law_881 (by decide) (fun hc => ?_) (fun hc => ?_)
      · exact go _ (Inv_keep hI h.2.1 h.2.2)
      · exact absurd h.1 hc
    · refine Ev_tabIn (tgt := 886) (off := 853) dL_law_33 (by omega) (by omega) (by rw [hc]; rfl) (by decide) ?_
      refine Ev_aload_n dL_law_886 1 rfl ?_
      refine Ev_aload_n dL_law_887 0 rfl ?_
      refine Ev_iload_n dL_law_888 3 rfl ?_
      refine Ev_iconst (v := 1) dL_law_889 rfl ⟨by decide, by decide⟩ ?_
      refine Ev_iadd dL_law_890 ?_
      refine Ev_sld dL_law_891 rfl hw_1 ?_
      refine Ev_aload_n dL_law_892 0 rfl ?_
      refine Ev_iload_n dL_law_893 3 rfl ?_
      refine Ev_iconst (v := 2) dL_law_894 rfl ⟨by decide, by decide⟩ ?_
      refine Ev_iadd dL_law_895 ?_
      refine Ev_sld dL_law_896 rfl hw_2 ?_
      have h : w_X9_film s_2 (xs (w32 (v3_1 + 1)).toNat) (xs (w32 (v3_1 + 2)).toNat) (fun r1 s1 => w_X10_film s1 (xs (w32 (v3_1 + 1)).toNat) (xs (w32 (v3_1 + 2)).toNat) (fun r2 s2 => r1 = r2 ∧ Base s2 ∧ Keep s_2 s2)) := T_film hI.1
      refine Ev_invV (d' := 4) [(0, xs (w32 (v3_1 + 1)).toNat), (0, xs (w32 (v3_1 + 2)).toNat)] 0 dL_law_897 M_X9_film q_827 (by decide) rfl rfl sh_0 rfl (Nat.le_of_ble_eq_true rfl) (k_X9_film h) ?_
      rintro _ s_181 ⟨r_180, rfl, h⟩
      refine Ev_aload_n dL_law_900 2 rfl ?_
      refine Ev_aload_n dL_law_901 0 rfl ?_
      refine Ev_iload_n dL_law_902 3 rfl ?_
      refine Ev_iconst (v := 1) dL_law_903 rfl ⟨by decide, by decide⟩ ?_
      refine Ev_iadd dL_law_904 ?_
      refine Ev_sld dL_law_905 rfl hw_1 ?_
      refine Ev_aload_n dL_law_906 0 rfl ?_
      refine Ev_iload_n dL_law_907 3 rfl ?_
      refine Ev_iconst (v := 2) dL_law_908 rfl ⟨by decide, by decide⟩ ?_
      refine Ev_iadd dL_law_909 ?_
      refine Ev_sld dL_law_910 rfl hw_2 ?_
      refine Ev_invV (d' := 3) [(0, xs (w32 (v3_1 + 1)).toNat), (0, xs (w32 (v3_1 + 2)).toNat)] 68 dL_law_911 M_X10_film q_1357 (by decide) rfl rfl sh_68 rfl (Nat.le_of_ble_eq_true rfl) (k_X10_film h) ?_
      rintro _ s_185 ⟨r_184, rfl, h⟩
      refine Ev_icmp_eq (tgt := 1147) dL_law_914 (by decide) (fun hc => ?_) (fun hc => ?_)
      · exact go _ (Inv_keep hI h.2.1 h.2.2)
      · exact absurd h.1 hc
    · refine Ev_tabIn (tgt := 919) (off := 886) dL_law_33 (by omega) (by omega) (by rw [hc]; rfl) (by decide) ?_
      refine Ev_aload_n dL_law_919 1 rfl ?_
      have h : w_X9_image s_2  (fun r1 s1 => w_X10_image s1  (fun r2 s2 => r1 = r2 ∧ Base s2 ∧ Keep s_2 s2)) := T_image hI.1
      refine Ev_invV (d' := 1) [] 0 dL_law_920 M_X9_image q_839 (by decide) rfl rfl sh_0 rfl (Nat.le_of_ble_eq_true rfl) (k_X9_image h) ?_
      rintro _ s_187 ⟨r_186, rfl, h⟩
      refine Ev_aload_n dL_law_923 2 rfl ?_
      refine Ev_invV (d' := 3) [] 68 dL_law_924 M_X10_image q_1361 (by decide) rfl rfl sh_68 rfl (Nat.le_of_ble_eq_true rfl) (k_X10_image h) ?_
      rintro _ s_189 ⟨r_188, rfl, h⟩
      refine Ev_icmp_eq (tgt := 1147) dL_law_927 (by decide) (fun hc => ?_) (fun hc => ?_)
      · exact go _ (Inv_keep hI h.2.1 h.2.2)
      · exact absurd h.1 hc
    · refine Ev_tabIn (tgt := 932) (off := 899) dL_law_33 (by omega) (by omega) (by rw [hc]; rfl) (by decide) ?_
      refine Ev_aload_n dL_law_932 1 rfl ?_
      have h : w_X9_back s_2  (fun r1 s1 => w_X10_back s1  (fun r2 s2 => r1 = r2 ∧ Base s2 ∧ Keep s_2 s2)) := T_back hI.1
      refine Ev_invV (d' := 1) [] 0 dL_law_933 M_X9_back q_843 (by decide) rfl rfl sh_0 rfl (Nat.le_of_ble_eq_true rfl) (k_X9_back h) ?_
      rintro _ s_191 ⟨r_190, rfl, h⟩
      refine Ev_aload_n dL_law_936 2 rfl ?_
      refine Ev_invV (d' := 3) [] 68 dL_law_937 M_X10_back q_1365 (by decide) rfl rfl sh_68 rfl (Nat.le_of_ble_eq_true rfl) (k_X10_back h) ?_
      rintro _ s_193 ⟨r_192, rfl, h⟩
      refine Ev_icmp_eq (tgt := 1147) dL_law_940 (by decide) (fun hc => ?_) (fun hc => ?_)
      · exact go _ (Inv_keep hI h.2.1 h.2.2)
      · exact absurd h.1 hc
    · refine Ev_tabIn (tgt := 945) (off := 912) dL_law_33 (by omega) (by omega) (by rw [hc]; rfl) (by decide) ?_
      refine Ev_aload_n dL_law_945 1 rfl ?_
      refine Ev_aload_n dL_law_946 0 rfl ?_
      refine Ev_iload_n dL_law_947 3 rfl ?_
      refine Ev_iconst (v := 1) dL_law_948 rfl ⟨by decide, by decide⟩ ?_
      refine Ev_iadd dL_law_949 ?_
      refine Ev_sld dL_law_950 rfl hw_1 ?_
      refine Ev_aload_n dL_law_951 0 rfl ?_
      refine Ev_iload_n dL_law_952 3 rfl ?_
      refine Ev_iconst (v := 2) dL_law_953 rfl ⟨by decide, by decide⟩ ?_
      refine Ev_iadd dL_law_954 ?_
      refine Ev_sld dL_law_955 rfl hw_2 ?_
      refine Ev_aload_n dL_law_956 0 rfl ?_
      refine Ev_iload_n dL_law_957 3 rfl ?_
      refine Ev_iconst (v := 3) dL_law_958 rfl ⟨by decide, by decide⟩ ?_
      refine Ev_iadd dL_law_959 ?_
      refine Ev_sld dL_law_960 rfl hw_3 ?_
      have h : w_X9_sheet s_2 (xs (w32 (v3_1 + 1)).toNat) (xs (w32 (v3_1 + 2)).toNat) (xs (w32 (v3_1 + 3)).toNat) (fun r1 s1 => w_X10_sheet s1 (xs (w32 (v3_1 + 1)).toNat) (xs (w32 (v3_1 + 2)).toNat) (xs (w32 (v3_1 + 3)).toNat) (fun r2 s2 => r1 = r2 ∧ Base s2 ∧ Keep s_2 s2)) := T_sheet hI.1
      refine Ev_invV (d' := 1) [(0, xs (w32 (v3_1 + 1)).toNat), (0, xs (w32 (v3_1 + 2)).toNat), (0, xs (w32 (v3_1 + 3)).toNat)] 0 dL_law_961 M_X9_sheet q_847 (by decide) rfl rfl sh_0 rfl (Nat.le_of_ble_eq_true rfl) (k_X9_sheet h) ?_
      rintro _ s_198 ⟨r_197, rfl, h⟩
      refine Ev_aload_n dL_law_964 2 rfl ?_
      refine Ev_aload_n dL_law_965 0 rfl ?_
      refine Ev_iload_n dL_law_966 3 rfl ?_
      refine Ev_iconst (v := 1) dL_law_967 rfl ⟨by decide, by decide⟩ ?_
      refine Ev_iadd dL_law_968 ?_
      refine Ev_sld dL_law_969 rfl hw_1 ?_
      refine Ev_aload_n dL_law_970 0 rfl ?_
      refine Ev_iload_n dL_law_971 3 rfl ?_
      refine Ev_iconst (v := 2) dL_law_972 rfl ⟨by decide, by decide⟩ ?_
      refine Ev_iadd dL_law_973 ?_
      refine Ev_sld dL_law_974 rfl hw_2 ?_
      refine Ev_aload_n dL_law_975 0 rfl ?_
      refine Ev_iload_n dL_law_976 3 rfl ?_
      refine Ev_iconst (v := 3) dL_law_977 rfl ⟨by decide, by decide⟩ ?_
      refine Ev_iadd dL_law_978 ?_
      refine Ev_sld dL_law_979 rfl hw_3 ?_
      refine Ev_invV (d' := 2) [(0, xs (w32 (v3_1 + 1)).toNat), (0, xs (w32 (v3_1 + 2)).toNat), (0, xs (w32 (v3_1 + 3)).toNat)] 68 dL_law_980 M_X10_sheet q_1369 (by decide) rfl rfl sh_68 rfl (Nat.le_of_ble_eq_true rfl) (k_X10_sheet h) ?_
      rintro _ s_203 ⟨r_202, rfl, h⟩
      refine Ev_icmp_eq (tgt := 1147) dL_law_983 (by decide) (fun hc => ?_) (fun hc => ?_)
      · exact go _ (Inv_keep hI h.2.1 h.2.2)
      · exact absurd h.1 hc
    · refine Ev_tabIn (tgt := 988) (off := 955) dL_law_33 (by omega) (by omega) (by rw [hc]; rfl) (by decide) ?_
      refine Ev_aload_n dL_law_988 1 rfl ?_
      refine Ev_aload_n dL_law_989 0 rfl ?_
      refine Ev_iload_n dL_law_990 3 rfl ?_
      refine Ev_iconst (v := 1) dL_law_991 rfl ⟨by decide, by decide⟩ ?_
      refine Ev_iadd dL_law_992 ?_
      refine Ev_sld dL_law_993 rfl hw_1 ?_
      refine Ev_aload_n dL_law_994 0 rfl ?_
      refine Ev_iload_n dL_law_995 3 rfl ?_
      refine Ev_iconst (v := 2) dL_law_996 rfl ⟨by decide, by decide⟩ ?_
      refine Ev_iadd dL_law_997 ?_
      refine Ev_sld dL_law_998 rfl hw_2 ?_
      refine Ev_aload_n dL_law_999 0 rfl ?_
      refine Ev_iload_n dL_law_1000 3 rfl ?_
      refine Ev_iconst (v := 3) dL_law_1001 rfl ⟨by decide, by decide⟩ ?_
      refine Ev_iadd dL_law_1002 ?_
      refine Ev_sld dL_law_1003 rfl hw_3 ?_
      have h : w_X9_put s_2 (xs (w32 (v3_1 + 1)).toNat) (xs (w32 (v3_1 + 2)).toNat) (xs (w32 (v3_1 + 3)).toNat) (fun r1 s1 => w_X10_put s1 (xs (w32 (v3_1 + 1)).toNat) (xs (w32 (v3_1 + 2)).toNat) (xs (w32 (v3_1 + 3)).toNat) (fun r2 s2 => r1 = r2 ∧ Base s2 ∧ Keep s_2 s2)) := T_put hI.1
      refine Ev_invV (d' := 1) [(0, xs (w32 (v3_1 + 1)).toNat), (0, xs (w32 (v3_1 + 2)).toNat), (0, xs (w32 (v3_1 + 3)).toNat)] 0 dL_law_1004 M_X9_put q_855 (by decide) rfl rfl sh_0 rfl (Nat.le_of_ble_eq_true rfl) (k_X9_put h) ?_
      rintro _ s_208 ⟨r_207, rfl, h⟩
      refine Ev_aload_n dL_law_1007 2 rfl ?_
      refine Ev_aload_n dL_law_1008 0 rfl ?_
      refine Ev_iload_n dL_law_1009 3 rfl ?_
      refine Ev_iconst (v := 1) dL_law_1010 rfl ⟨by decide, by decide⟩ ?_
      refine Ev_iadd dL_law_1011 ?_
      refine Ev_sld dL_law_1012 rfl hw_1 ?_
      refine Ev_aload_n dL_law_1013 0 rfl ?_
      refine Ev_iload_n dL_law_1014 3 rfl ?_
      refine Ev_iconst (v := 2) dL_law_1015 rfl ⟨by decide, by decide⟩ ?_
      refine Ev_iadd dL_law_1016 ?_
      refine Ev_sld dL_law_1017 rfl hw_2 ?_
      refine Ev_aload_n dL_law_1018 0 rfl ?_
      refine Ev_iload_n dL_law_1019 3 rfl ?_
      refine Ev_iconst (v := 3) dL_law_1020 rfl ⟨by decide, by decide⟩ ?_
      refine Ev_iadd dL_law_1021 ?_
      refine Ev_sld dL_law_1022 rfl hw_3 ?_
      refine Ev_invV (d' := 2) [(0, xs (w32 (v3_1 + 1)).toNat), (0, xs (w32 (v3_1 + 2)).toNat), (0, xs (w32 (v3_1 + 3)).toNat)] 68 dL_law_1023 M_X10_put q_1373 (by decide) rfl rfl sh_68 rfl (Nat.le_of_ble_eq_true rfl) (k_X10_put h) ?_
      rintro _ s_213 ⟨r_212, rfl, h⟩
      refine Ev_icmp_eq (tgt := 1147) dL_law_1026 (by decide) (fun hc => ?_) (fun hc => ?_)
      · exact go _ (Inv_keep hI h.2.1 h.2.2)
      · exact absurd h.1 hc
    · refine Ev_tabIn (tgt := 1031) (off := 998) dL_law_33 (by omega) (by omega) (by rw [hc]; rfl) (by decide) ?_
      refine Ev_aload_n dL_law_1031 1 rfl ?_
      refine Ev_aload_n dL_law_1032 0 rfl ?_
      refine Ev_iload_n dL_law_1033 3 rfl ?_
      refine Ev_iconst (v := 1) dL_law_1034 rfl ⟨by decide, by decide⟩ ?_
      refine Ev_iadd dL_law_1035 ?_
      refine Ev_sld dL_law_1036 rfl hw_1 ?_
      refine Ev_aload_n dL_law_1037 0 rfl ?_
      refine Ev_iload_n dL_law_1038 3 rfl ?_
      refine Ev_iconst (v := 2) dL_law_1039 rfl ⟨by decide, by decide⟩ ?_
      refine Ev_iadd dL_law_1040 ?_
      refine Ev_sld dL_law_1041 rfl hw_2 ?_
      refine Ev_aload_n dL_law_1042 0 rfl ?_
      refine Ev_iload_n dL_law_1043 3 rfl ?_
      refine Ev_iconst (v := 3) dL_law_1044 rfl ⟨by decide, by decide⟩ ?_
      refine Ev_iadd dL_law_1045 ?_
      refine Ev_sld dL_law_1046 rfl hw_3 ?_
      refine Ev_aload_n dL_law_1047 0 rfl ?_
      refine Ev_iload_n dL_law_1048 3 rfl ?_
      refine Ev_iconst (v := 4) dL_law_1049 rfl ⟨by decide, by decide⟩ ?_
      refine Ev_iadd dL_law_1050 ?_
      refine Ev_sld dL_law_1051 rfl hw_4 ?_
      refine Ev_aload_n dL_law_1052 0 rfl ?_
      refine Ev_iload_n dL_law_1053 3 rfl ?_
      refine Ev_iconst (v := 5) dL_law_1054 rfl ⟨by decide, by decide⟩ ?_
      refine Ev_iadd dL_law_1055 ?_
      refine Ev_sld dL_law_1056 rfl hw_5 ?_
      have h : w_X9_copy s_2 (xs (w32 (v3_1 + 1)).toNat) (xs (w32 (v3_1 + 2)).toNat) (xs (w32 (v3_1 + 3)).toNat) (xs (w32 (v3_1 + 4)).toNat) (xs (w32 (v3_1 + 5)).toNat) (fun r1 s1 => w_X10_copy s1 (xs (w32 (v3_1 + 1)).toNat) (xs (w32 (v3_1 + 2)).toNat) (xs (w32 (v3_1 + 3)).toNat) (xs (w32 (v3_1 + 4)).toNat) (xs (w32 (v3_1 + 5)).toNat) (fun r2 s2 => r1 = r2 ∧ Base s2 ∧ Keep s_2 s2)) := T_copy hI.1 (hxs _)
      refine Ev_invV (d' := 2) [(0, xs (w32 (v3_1 + 1)).toNat), (0, xs (w32 (v3_1 + 2)).toNat), (0, xs (w32 (v3_1 + 3)).toNat), (0, xs (w32 (v3_1 + 4)).toNat), (0, xs (w32 (v3_1 + 5)).toNat)] 0 dL_law_1057 M_X9_copy q_859 (by decide) rfl rfl sh_0 rfl (Nat.le_of_ble_eq_true rfl) (k_X9_copy h) ?_
      rintro _ s_220 ⟨r_219, rfl, h⟩
      refine Ev_aload_n dL_law_1060 2 rfl ?_
      refine Ev_aload_n dL_law_1061 0 rfl ?_
      refine Ev_iload_n dL_law_1062 3 rfl ?_
      refine Ev_iconst (v := 1) dL_law_1063 rfl ⟨by decide, by decide⟩ ?_
      refine Ev_iadd dL_law_1064 ?_
      refine Ev_sld dL_law_1065 rfl hw_1 ?_
      refine Ev_aload_n dL_law_1066 0 rfl ?_
      refine Ev_iload_n dL_law_1067 3 rfl ?_
      refine Ev_iconst (v := 2) dL_law_1068 rfl ⟨by decide, by decide⟩ ?_
      refine Ev_iadd dL_law_1069 ?_
      refine Ev_sld dL_law_1070 rfl hw_2 ?_
      refine Ev_aload_n dL_law_1071 0 rfl ?_
      refine Ev_iload_n dL_law_1072 3 rfl ?_
      refine Ev_iconst (v := 3) dL_law_1073 rfl ⟨by decide, by decide⟩ ?_
      refine Ev_iadd dL_law_1074 ?_
      refine Ev_sld dL_law_1075 rfl hw_3 ?_
      refine Ev_aload_n dL_law_1076 0 rfl ?_
      refine Ev_iload_n dL_law_1077 3 rfl ?_
      refine Ev_iconst (v := 4) dL_law_1078 rfl ⟨by decide, by decide⟩ ?_
      refine Ev_iadd dL_law_1079 ?_
      refine Ev_sld dL_law_1080 rfl hw_4 ?_
      refine Ev_aload_n dL_law_1081 0 rfl ?_
      refine Ev_iload_n dL_law_1082 3 rfl ?_
      refine Ev_iconst (v := 5) dL_law_1083 rfl ⟨by decide, by decide⟩ ?_
      refine Ev_iadd dL_law_1084 ?_
      refine Ev_sld dL_law_1085 rfl hw_5 ?_
      refine Ev_invV (d' := 2) [(0, xs (w32 (v3_1 + 1)).toNat), (0, xs (w32 (v3_1 + 2)).toNat), (0, xs (w32 (v3_1 + 3)).toNat), (0, xs (w32 (v3_1 + 4)).toNat), (0, xs (w32 (v3_1 + 5)).toNat)] 68 dL_law_1086 M_X10_copy q_1377 (by decide) rfl rfl sh_68 rfl (Nat.le_of_ble_eq_true rfl) (k_X10_copy h) ?_
      rintro _ s_227 ⟨r_226, rfl, h⟩
      refine Ev_icmp_eq (tgt := 1147) dL_law_1089 (by decide) (fun hc => ?_) (fun hc => ?_)
      · exact go _ (Inv_keep hI h.2.1 h.2.2)
      · exact absurd h.1 hc
    · refine Ev_tabIn (tgt := 1094) (off := 1061) dL_law_33 (by omega) (by omega) (by rw [hc]; rfl) (by decide) ?_
      refine Ev_aload_n dL_law_1094 1 rfl ?_
      refine Ev_aload_n dL_law_1095 0 rfl ?_
      refine Ev_iload_n dL_law_1096 3 rfl ?_
      refine Ev_iconst (v := 1) dL_law_1097 rfl ⟨by decide, by decide⟩ ?_
      refine Ev_iadd dL_law_1098 ?_
      refine Ev_sld dL_law_1099 rfl hw_1 ?_
      refine Ev_aload_n dL_law_1100 0 rfl ?_
      refine Ev_iload_n dL_law_1101 3 rfl ?_
      refine Ev_iconst (v := 2) dL_law_1102 rfl ⟨by decide, by decide⟩ ?_
      refine Ev_iadd dL_law_1103 ?_
      refine Ev_sld dL_law_1104 rfl hw_2 ?_
      refine Ev_aload_n dL_law_1105 0 rfl ?_
      refine Ev_iload_n dL_law_1106 3 rfl ?_
      refine Ev_iconst (v := 3) dL_law_1107 rfl ⟨by decide, by decide⟩ ?_
      refine Ev_iadd dL_law_1108 ?_
      refine Ev_sld dL_law_1109 rfl hw_3 ?_
      refine Ev_aload_n dL_law_1110 0 rfl ?_
      refine Ev_iload_n dL_law_1111 3 rfl ?_
      refine Ev_iconst (v := 4) dL_law_1112 rfl ⟨by decide, by decide⟩ ?_
      refine Ev_iadd dL_law_1113 ?_
      refine Ev_sld dL_law_1114 rfl hw_4 ?_
      have h : w_X9_load s_2 (xs (w32 (v3_1 + 1)).toNat) (xs (w32 (v3_1 + 2)).toNat) (xs (w32 (v3_1 + 3)).toNat) (xs (w32 (v3_1 + 4)).toNat) (fun r1 s1 => w_X10_load s1 (xs (w32 (v3_1 + 1)).toNat) (xs (w32 (v3_1 + 2)).toNat) (xs (w32 (v3_1 + 3)).toNat) (xs (w32 (v3_1 + 4)).toNat) (fun r2 s2 => r1 = r2 ∧ Base s2 ∧ Keep s_2 s2)) := T_load hI.1 (hxs _)
      refine Ev_invV (d' := 4) [(0, xs (w32 (v3_1 + 1)).toNat), (0, xs (w32 (v3_1 + 2)).toNat), (0, xs (w32 (v3_1 + 3)).toNat), (0, xs (w32 (v3_1 + 4)).toNat)] 0 dL_law_1115 M_X9_load q_870 (by decide) rfl rfl sh_0 rfl (Nat.le_of_ble_eq_true rfl) (k_X9_load h) ?_
      rintro _ s_233 ⟨r_232, rfl, h⟩
      refine Ev_aload_n dL_law_1118 2 rfl ?_
      refine Ev_aload_n dL_law_1119 0 rfl ?_
      refine Ev_iload_n dL_law_1120 3 rfl ?_
      refine Ev_iconst (v := 1) dL_law_1121 rfl ⟨by decide, by decide⟩ ?_
      refine Ev_iadd dL_law_1122 ?_
      refine Ev_sld dL_law_1123 rfl hw_1 ?_
      refine Ev_aload_n dL_law_1124 0 rfl ?_
      refine Ev_iload_n dL_law_1125 3 rfl ?_
      refine Ev_iconst (v := 2) dL_law_1126 rfl ⟨by decide, by decide⟩ ?_
      refine Ev_iadd dL_law_1127 ?_
      refine Ev_sld dL_law_1128 rfl hw_2 ?_
      refine Ev_aload_n dL_law_1129 0 rfl ?_
      refine Ev_iload_n dL_law_1130 3 rfl ?_
      refine Ev_iconst (v := 3) dL_law_1131 rfl ⟨by decide, by decide⟩ ?_
      refine Ev_iadd dL_law_1132 ?_
      refine Ev_sld dL_law_1133 rfl hw_3 ?_
      refine Ev_aload_n dL_law_1134 0 rfl ?_
      refine Ev_iload_n dL_law_1135 3 rfl ?_
      refine Ev_iconst (v := 4) dL_law_1136 rfl ⟨by decide, by decide⟩ ?_
      refine Ev_iadd dL_law_1137 ?_
      refine Ev_sld dL_law_1138 rfl hw_4 ?_
      refine Ev_invV (d' := 3) [(0, xs (w32 (v3_1 + 1)).toNat), (0, xs (w32 (v3_1 + 2)).toNat), (0, xs (w32 (v3_1 + 3)).toNat), (0, xs (w32 (v3_1 + 4)).toNat)] 68 dL_law_1139 M_X10_load q_1381 (by decide) rfl rfl sh_68 rfl (Nat.le_of_ble_eq_true rfl) (k_X10_load h) ?_
      rintro _ s_239 ⟨r_238, rfl, h⟩
      refine Ev_icmp_eq (tgt := 1147) dL_law_1142 (by decide) (fun hc => ?_) (fun hc => ?_)
      · exact go _ (Inv_keep hI h.2.1 h.2.2)
      · exact absurd h.1 hc
    · refine Ev_tabOut (tgt := 1147) dL_law_33 hc (by decide) ?_
      exact go _ hI
theorem law_main (L : Nat) (xs : Nat → Int) (hL : L ≤ 3072) (hxs : ∀ j, ok32 (xs j)) (hI : Inv sgB) : Ev (mL L xs) 1000 16 [(2, (2, 68)), (1, (2, 0)), (0, (2, 192))] [] sgB (poIs 0 (fun r _ => r = 1)) := by
  refine Ev_iconst (v := 0) dL_law_16 rfl ⟨by decide, by decide⟩ ?_
  refine Ev_istore_n dL_law_17 (show (3 : Nat) < 4 by decide) rfl ?_
  refine Ev_sub [3, 2, 1, 0] rfl ?_
  exact law_loop hL hxs _ 0 sgB rfl (Int.le_refl _) (by omega) hI

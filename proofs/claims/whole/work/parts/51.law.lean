theorem lcmp_self (x : Int64) : lg_cmp x x = 0 := by simp [lg_cmp]
set_option maxRecDepth 100000 in
set_option maxHeartbeats 4000000 in
/-- the law's loop -/
theorem law_loop {p : Program} {l : Launch} {e : Env} {s : State} {m : MethodId} {below : List Frame} {meth : Method} {c : Code} {b L0 : Nat} {xs : Nat → Int32} {A : Nat → Prop} {D : va_G} {cA cB : ClassId} {aC aR : Nat → Nat} {tt kc ks : Nat} {σ0 τ0 : St} {Q : State → Prop} (hL : L0 ≤ 2048) (C : ZFix p m c cL_law 4 s #[Value.ref b] RL) (hX : va_X b L0 xs s s.heap) (hbl : b < s.heap.size) (hbA : ¬ A b) (hKC : va_K D vwCl [(cA, .int), (cB, .object RX3)] s) (hKR : va_K D vwCl [(cA, .int)] s) (hIC : Inj 67 aC) (hIR : Inj 17 aR) (hAC : ∀ i, i < 67 → A (aC i)) (hAR : ∀ i, i < 17 → A (aR i)) (hdis : ∀ i j, i < 67 → j < 17 → aC i ≠ aR j) (hAs : ∀ q, A q → s.heap.size ≤ q) (hZ : va_Z "WheelShop" "TRACE_OF_KIND" "[I" (.ref tt) A s s.heap) (hTt : va_T .int tt 3 tkV A s s.heap) (hR0 : RB 0 σ0 τ0) (hkc : kc ≤ 600000) (hks : ks ≤ 7302250)
    (hend1 : ∀ σ τ L, Zj p l e room_1 s m #[Value.ref b] below meth c 4 A kc ks Q (HB D cA cB aC aR σ τ) 808 L [.int 1]) :
    Zj p l e room_1 s m #[Value.ref b] below meth c 4 A kc ks Q (HB D cA cB aC aR σ0 τ0) 18 [.ref b, .ref (aC 0), .ref (aR 0), .int 0] [] := by
  refine g_loop (τ := Nat × St × St) (fun t => 2048 - 4 * t.1) (fun t => 4 * t.1 ≤ 2048 ∧ RB t.1 t.2.1 t.2.2) (fun t => HB D cA cB aC aR t.2.1 t.2.2) (fun t => [.ref b, .ref (aC 0), .ref (aR 0), .int (nI (4 * t.1))]) (0, σ0, τ0) ⟨by omega, hR0⟩ (fun _ h => h) ⟨[], rfl⟩ ?_
  intro ⟨t, σ, τ⟩ hI ih
  try dsimp only at hI ih ⊢
  obtain ⟨ht4, hR⟩ := hI
  refine z_iload_n C dL_law_18 (pc' := 19) rfl rfl rfl ?_
  refine z_aload_n C dL_law_19 (pc' := 20) rfl rfl rfl ?_
  refine g_slen C hX hbl hbA dL_law_20 (pc' := 21) rfl ?_
  refine z_iconst C dL_law_21 (pc' := 22) rfl (v := 4) (by decide) ?_
  refine z_isub C dL_law_22 (pc' := 23) rfl rfl ?_
  refine z_icmp_gt (tgt := 807) C dL_law_23 (pc' := 26) (by decide) rfl (fun c_23 => ?_) (fun c_23 => ?_)
  ·
    refine z_iconst C dL_law_807 (pc' := 808) rfl (v := 1) (by decide) ?_
    exact hend1 σ τ _
  ·
    have hlt : 4 * t + 4 ≤ L0 := by
      have e1 := pk_sub_toInt (a := L0) (b := 4) (by omega) (by omega)
      have e2 := nI_toInt (n := 4 * t) (by omega)
      rw [i32_lt] at c_23
      have e3 : (nI L0 - 4).toInt = (L0 : Int) - 4 := e1
      omega
    have hend : ∀ u1 u2 : St, RB (t + 1) u1 u2 → Zj p l e room_1 s m #[Value.ref b] below meth c 4 A kc ks Q (HB D cA cB aC aR u1 u2) 801 [.ref b, .ref (aC 0), .ref (aR 0), .int (nI (4 * t))] [] := by
      intro u1 u2 hR2
      refine z_iinc (L' := [.ref _, .ref _, .ref _, .int _]) C dL_law_801 (pc' := 804) rfl rfl (v := nI (4 * (t + 1))) (nI_add (4 * t) 4) (by decide) (Nat.le_of_ble_eq_true rfl) rfl ?_
      refine z_goto C dL_law_804 (pc' := 18) (by decide) ?_
      exact ih (t + 1, u1, u2) ⟨by omega, hR2⟩ (by show 2048 - 4 * (t + 1) < 2048 - 4 * t; omega)
    refine z_aload_n C dL_law_26 (pc' := 27) rfl rfl rfl ?_
    refine z_iload_n C dL_law_27 (pc' := 28) rfl rfl rfl ?_
    refine g_sld C hX hbl hbA rfl (by omega) (by omega) dL_law_28 (pc' := 29) rfl ?_
    refine z_bipush C dL_law_29 (pc' := 31) rfl (v := 31) (by decide) ?_
    obtain ⟨j, hj, ej⟩ := pk_andE (xs (4 * t)) (m := 31) 5 (by decide)
    refine z_iand C dL_law_31 (pc' := 32) rfl (z := nI j) ej ?_
    have hj32 : j < 32 := hj
    rcases (show j = 0 ∨ j = 1 ∨ j = 2 ∨ j = 3 ∨ j = 4 ∨ j = 5 ∨ j = 6 ∨ j = 7 ∨ j = 8 ∨ j = 9 ∨ j = 10 ∨ j = 11 ∨ j = 12 ∨ j = 13 ∨ j = 14 ∨ j = 15 ∨ j = 16 ∨ j = 17 ∨ j = 18 ∨ j = 19 ∨ j = 20 ∨ j = 21 ∨ j = 22 ∨ j = 23 ∨ j = 24 ∨ j = 25 ∨ j = 26 ∨ j = 27 ∨ j = 28 ∨ j = 29 ∨ j = 30 ∨ j = 31 by omega) with rfl | rfl | rfl | rfl | rfl | rfl | rfl | rfl | rfl | rfl | rfl | rfl | rfl | rfl | rfl | rfl | rfl | rfl | rfl | rfl | rfl | rfl | rfl | rfl | rfl | rfl | rfl | rfl | rfl | rfl | rfl | rfl
    ·
      refine z_tin C dL_law_32 (by decide) (by decide) (off := 120) (by decide) (pc' := 152) (by decide) ?_
      refine z_aload_n C dL_law_152 (pc' := 153) rfl rfl rfl ?_
      refine z_aload_n C dL_law_153 (pc' := 154) rfl rfl rfl ?_
      refine z_iload_n C dL_law_154 (pc' := 155) rfl rfl rfl ?_
      refine z_iconst C dL_law_155 (pc' := 156) rfl (v := 1) (by decide) ?_
      refine z_iadd C dL_law_156 (pc' := 157) rfl (nI_add (4 * t) 1) ?_
      refine g_sld C hX hbl hbA rfl (by omega) (by omega) dL_law_157 (pc' := 158) rfl ?_
      refine z_aload_n C dL_law_158 (pc' := 159) rfl rfl rfl ?_
      refine z_iload_n C dL_law_159 (pc' := 160) rfl rfl rfl ?_
      refine z_iconst C dL_law_160 (pc' := 161) rfl (v := 2) (by decide) ?_
      refine z_iadd C dL_law_161 (pc' := 162) rfl (nI_add (4 * t) 2) ?_
      refine g_sld C hX hbl hbA rfl (by omega) (by omega) dL_law_162 (pc' := 163) rfl ?_
      refine g_callI C hKC (fun u => HB D cA cB aC aR u τ) (m_X4_size l hIC σ  _ _) hAC (fun H h => h.1) (HB_C hdis) aw_173 aw_174 aw_175 aw_27 aw_176 (by decide) kC_0 rfl (nA := 2) (by decide +kernel) rfl ⟨Nat.le_of_ble_eq_true rfl, Nat.le_of_ble_eq_true rfl⟩ (rest := []) rfl (Nat.le_of_ble_eq_true rfl) ⟨hkc, hks⟩ dL_law_163 (pc' := 166) rfl (fun r1 u1 h1 => ?_)
      refine z_aload_n C dL_law_166 (pc' := 167) rfl rfl rfl ?_
      refine z_aload_n C dL_law_167 (pc' := 168) rfl rfl rfl ?_
      refine z_iload_n C dL_law_168 (pc' := 169) rfl rfl rfl ?_
      refine z_iconst C dL_law_169 (pc' := 170) rfl (v := 1) (by decide) ?_
      refine z_iadd C dL_law_170 (pc' := 171) rfl (nI_add (4 * t) 1) ?_
      refine g_sld C hX hbl hbA rfl (by omega) (by omega) dL_law_171 (pc' := 172) rfl ?_
      refine z_aload_n C dL_law_172 (pc' := 173) rfl rfl rfl ?_
      refine z_iload_n C dL_law_173 (pc' := 174) rfl rfl rfl ?_
      refine z_iconst C dL_law_174 (pc' := 175) rfl (v := 2) (by decide) ?_
      refine z_iadd C dL_law_175 (pc' := 176) rfl (nI_add (4 * t) 2) ?_
      refine g_sld C hX hbl hbA rfl (by omega) (by omega) dL_law_176 (pc' := 177) rfl ?_
      refine g_callI C hKR (fun u => HB D cA cB aC aR u1 u) (m_X5_size l hIR τ  _ _) hAR (fun H h => h.2) (HB_R hdis) aw_522 aw_523 aw_524 aw_32 aw_525 (by decide) kR_0 rfl (nA := 2) (by decide +kernel) rfl ⟨Nat.le_of_ble_eq_true rfl, Nat.le_of_ble_eq_true rfl⟩ (rest := [.int r1]) rfl (Nat.le_of_ble_eq_true rfl) ⟨hkc, hks⟩ dL_law_177 (pc' := 180) rfl (fun r2 u2 h2 => ?_)
      obtain ⟨hr, hR2⟩ := st_size hR  _ _ h1 h2 (by omega)
      refine z_icmp_eq (tgt := 801) C dL_law_180 (pc' := 183) (by decide) rfl (fun _ => ?_) (fun q => absurd hr q)
      exact hend u1 u2 hR2
    ·
      refine z_tin C dL_law_32 (by decide) (by decide) (off := 153) (by decide) (pc' := 185) (by decide) ?_
      refine z_aload_n C dL_law_185 (pc' := 186) rfl rfl rfl ?_
      refine z_aload_n C dL_law_186 (pc' := 187) rfl rfl rfl ?_
      refine z_iload_n C dL_law_187 (pc' := 188) rfl rfl rfl ?_
      refine z_iconst C dL_law_188 (pc' := 189) rfl (v := 1) (by decide) ?_
      refine z_iadd C dL_law_189 (pc' := 190) rfl (nI_add (4 * t) 1) ?_
      refine g_sld C hX hbl hbA rfl (by omega) (by omega) dL_law_190 (pc' := 191) rfl ?_
      refine z_aload_n C dL_law_191 (pc' := 192) rfl rfl rfl ?_
      refine z_iload_n C dL_law_192 (pc' := 193) rfl rfl rfl ?_
      refine z_iconst C dL_law_193 (pc' := 194) rfl (v := 2) (by decide) ?_
      refine z_iadd C dL_law_194 (pc' := 195) rfl (nI_add (4 * t) 2) ?_
      refine g_sld C hX hbl hbA rfl (by omega) (by omega) dL_law_195 (pc' := 196) rfl ?_
      refine z_aload_n C dL_law_196 (pc' := 197) rfl rfl rfl ?_
      refine z_iload_n C dL_law_197 (pc' := 198) rfl rfl rfl ?_
      refine z_iconst C dL_law_198 (pc' := 199) rfl (v := 3) (by decide) ?_
      refine z_iadd C dL_law_199 (pc' := 200) rfl (nI_add (4 * t) 3) ?_
      refine g_sld C hX hbl hbA rfl (by omega) (by omega) dL_law_200 (pc' := 201) rfl ?_
      refine g_callI C hKC (fun u => HB D cA cB aC aR u τ) (m_X4_depth l hIC σ  _ _ _) hAC (fun H h => h.1) (HB_C hdis) aw_183 aw_184 aw_185 aw_27 aw_186 (by decide) kC_0 rfl (nA := 3) (by decide +kernel) rfl ⟨Nat.le_of_ble_eq_true rfl, Nat.le_of_ble_eq_true rfl⟩ (rest := []) rfl (Nat.le_of_ble_eq_true rfl) ⟨hkc, hks⟩ dL_law_201 (pc' := 204) rfl (fun r1 u1 h1 => ?_)
      refine z_aload_n C dL_law_204 (pc' := 205) rfl rfl rfl ?_
      refine z_aload_n C dL_law_205 (pc' := 206) rfl rfl rfl ?_
      refine z_iload_n C dL_law_206 (pc' := 207) rfl rfl rfl ?_
      refine z_iconst C dL_law_207 (pc' := 208) rfl (v := 1) (by decide) ?_
      refine z_iadd C dL_law_208 (pc' := 209) rfl (nI_add (4 * t) 1) ?_
      refine g_sld C hX hbl hbA rfl (by omega) (by omega) dL_law_209 (pc' := 210) rfl ?_
      refine z_aload_n C dL_law_210 (pc' := 211) rfl rfl rfl ?_
      refine z_iload_n C dL_law_211 (pc' := 212) rfl rfl rfl ?_
      refine z_iconst C dL_law_212 (pc' := 213) rfl (v := 2) (by decide) ?_
      refine z_iadd C dL_law_213 (pc' := 214) rfl (nI_add (4 * t) 2) ?_
      refine g_sld C hX hbl hbA rfl (by omega) (by omega) dL_law_214 (pc' := 215) rfl ?_
      refine z_aload_n C dL_law_215 (pc' := 216) rfl rfl rfl ?_
      refine z_iload_n C dL_law_216 (pc' := 217) rfl rfl rfl ?_
      refine z_iconst C dL_law_217 (pc' := 218) rfl (v := 3) (by decide) ?_
      refine z_iadd C dL_law_218 (pc' := 219) rfl (nI_add (4 * t) 3) ?_
      refine g_sld C hX hbl hbA rfl (by omega) (by omega) dL_law_219 (pc' := 220) rfl ?_
      refine g_callI C hKR (fun u => HB D cA cB aC aR u1 u) (m_X5_depth l hIR τ  _ _ _) hAR (fun H h => h.2) (HB_R hdis) aw_532 aw_533 aw_534 aw_32 aw_535 (by decide) kR_0 rfl (nA := 3) (by decide +kernel) rfl ⟨Nat.le_of_ble_eq_true rfl, Nat.le_of_ble_eq_true rfl⟩ (rest := [.int r1]) rfl (Nat.le_of_ble_eq_true rfl) ⟨hkc, hks⟩ dL_law_220 (pc' := 223) rfl (fun r2 u2 h2 => ?_)
      obtain ⟨hr, hR2⟩ := st_depth hR  _ _ _ h1 h2 (by omega)
      refine z_icmp_eq (tgt := 801) C dL_law_223 (pc' := 226) (by decide) rfl (fun _ => ?_) (fun q => absurd hr q)
      exact hend u1 u2 hR2
    ·
      refine z_tin C dL_law_32 (by decide) (by decide) (off := 196) (by decide) (pc' := 228) (by decide) ?_
      refine z_aload_n C dL_law_228 (pc' := 229) rfl rfl rfl ?_
      refine z_aload_n C dL_law_229 (pc' := 230) rfl rfl rfl ?_
      refine z_iload_n C dL_law_230 (pc' := 231) rfl rfl rfl ?_
      refine z_iconst C dL_law_231 (pc' := 232) rfl (v := 1) (by decide) ?_
      refine z_iadd C dL_law_232 (pc' := 233) rfl (nI_add (4 * t) 1) ?_
      refine g_sld C hX hbl hbA rfl (by omega) (by omega) dL_law_233 (pc' := 234) rfl ?_
      refine z_aload_n C dL_law_234 (pc' := 235) rfl rfl rfl ?_
      refine z_iload_n C dL_law_235 (pc' := 236) rfl rfl rfl ?_
      refine z_iconst C dL_law_236 (pc' := 237) rfl (v := 2) (by decide) ?_
      refine z_iadd C dL_law_237 (pc' := 238) rfl (nI_add (4 * t) 2) ?_
      refine g_sld C hX hbl hbA rfl (by omega) (by omega) dL_law_238 (pc' := 239) rfl ?_
      refine g_callI C hKC (fun u => HB D cA cB aC aR u τ) (m_X4_wear l hIC σ  _ _) hAC (fun H h => h.1) (HB_C hdis) aw_187 aw_188 aw_189 aw_27 aw_190 (by decide) kC_0 rfl (nA := 2) (by decide +kernel) rfl ⟨Nat.le_of_ble_eq_true rfl, Nat.le_of_ble_eq_true rfl⟩ (rest := []) rfl (Nat.le_of_ble_eq_true rfl) ⟨hkc, hks⟩ dL_law_239 (pc' := 242) rfl (fun r1 u1 h1 => ?_)
      refine z_aload_n C dL_law_242 (pc' := 243) rfl rfl rfl ?_
      refine z_aload_n C dL_law_243 (pc' := 244) rfl rfl rfl ?_
      refine z_iload_n C dL_law_244 (pc' := 245) rfl rfl rfl ?_
      refine z_iconst C dL_law_245 (pc' := 246) rfl (v := 1) (by decide) ?_
      refine z_iadd C dL_law_246 (pc' := 247) rfl (nI_add (4 * t) 1) ?_
      refine g_sld C hX hbl hbA rfl (by omega) (by omega) dL_law_247 (pc' := 248) rfl ?_
      refine z_aload_n C dL_law_248 (pc' := 249) rfl rfl rfl ?_
      refine z_iload_n C dL_law_249 (pc' := 250) rfl rfl rfl ?_
      refine z_iconst C dL_law_250 (pc' := 251) rfl (v := 2) (by decide) ?_
      refine z_iadd C dL_law_251 (pc' := 252) rfl (nI_add (4 * t) 2) ?_
      refine g_sld C hX hbl hbA rfl (by omega) (by omega) dL_law_252 (pc' := 253) rfl ?_
      refine g_callI C hKR (fun u => HB D cA cB aC aR u1 u) (m_X5_wear l hIR τ  _ _) hAR (fun H h => h.2) (HB_R hdis) aw_536 aw_537 aw_538 aw_32 aw_539 (by decide) kR_0 rfl (nA := 2) (by decide +kernel) rfl ⟨Nat.le_of_ble_eq_true rfl, Nat.le_of_ble_eq_true rfl⟩ (rest := [.int r1]) rfl (Nat.le_of_ble_eq_true rfl) ⟨hkc, hks⟩ dL_law_253 (pc' := 256) rfl (fun r2 u2 h2 => ?_)
      obtain ⟨hr, hR2⟩ := st_wear hR  _ _ h1 h2 (by omega)
      refine z_icmp_eq (tgt := 801) C dL_law_256 (pc' := 259) (by decide) rfl (fun _ => ?_) (fun q => absurd hr q)
      exact hend u1 u2 hR2
    ·
      refine z_tin C dL_law_32 (by decide) (by decide) (off := 229) (by decide) (pc' := 261) (by decide) ?_
      refine z_aload_n C dL_law_261 (pc' := 262) rfl rfl rfl ?_
      refine z_aload_n C dL_law_262 (pc' := 263) rfl rfl rfl ?_
      refine z_iload_n C dL_law_263 (pc' := 264) rfl rfl rfl ?_
      refine z_iconst C dL_law_264 (pc' := 265) rfl (v := 1) (by decide) ?_
      refine z_iadd C dL_law_265 (pc' := 266) rfl (nI_add (4 * t) 1) ?_
      refine g_sld C hX hbl hbA rfl (by omega) (by omega) dL_law_266 (pc' := 267) rfl ?_
      refine z_aload_n C dL_law_267 (pc' := 268) rfl rfl rfl ?_
      refine z_iload_n C dL_law_268 (pc' := 269) rfl rfl rfl ?_
      refine z_iconst C dL_law_269 (pc' := 270) rfl (v := 2) (by decide) ?_
      refine z_iadd C dL_law_270 (pc' := 271) rfl (nI_add (4 * t) 2) ?_
      refine g_sld C hX hbl hbA rfl (by omega) (by omega) dL_law_271 (pc' := 272) rfl ?_
      refine g_callI C hKC (fun u => HB D cA cB aC aR u τ) (m_X4_about l hIC σ  _ _) hAC (fun H h => h.1) (HB_C hdis) aw_191 aw_192 aw_193 aw_27 aw_194 (by decide) kC_0 rfl (nA := 2) (by decide +kernel) rfl ⟨Nat.le_of_ble_eq_true rfl, Nat.le_of_ble_eq_true rfl⟩ (rest := []) rfl (Nat.le_of_ble_eq_true rfl) ⟨hkc, hks⟩ dL_law_272 (pc' := 275) rfl (fun r1 u1 h1 => ?_)
      refine z_aload_n C dL_law_275 (pc' := 276) rfl rfl rfl ?_
      refine z_aload_n C dL_law_276 (pc' := 277) rfl rfl rfl ?_
      refine z_iload_n C dL_law_277 (pc' := 278) rfl rfl rfl ?_
      refine z_iconst C dL_law_278 (pc' := 279) rfl (v := 1) (by decide) ?_
      refine z_iadd C dL_law_279 (pc' := 280) rfl (nI_add (4 * t) 1) ?_
      refine g_sld C hX hbl hbA rfl (by omega) (by omega) dL_law_280 (pc' := 281) rfl ?_
      refine z_aload_n C dL_law_281 (pc' := 282) rfl rfl rfl ?_
      refine z_iload_n C dL_law_282 (pc' := 283) rfl rfl rfl ?_
      refine z_iconst C dL_law_283 (pc' := 284) rfl (v := 2) (by decide) ?_
      refine z_iadd C dL_law_284 (pc' := 285) rfl (nI_add (4 * t) 2) ?_
      refine g_sld C hX hbl hbA rfl (by omega) (by omega) dL_law_285 (pc' := 286) rfl ?_
      refine g_callI C hKR (fun u => HB D cA cB aC aR u1 u) (m_X5_about l hIR τ  _ _) hAR (fun H h => h.2) (HB_R hdis) aw_540 aw_541 aw_542 aw_32 aw_543 (by decide) kR_0 rfl (nA := 2) (by decide +kernel) rfl ⟨Nat.le_of_ble_eq_true rfl, Nat.le_of_ble_eq_true rfl⟩ (rest := [.int r1]) rfl (Nat.le_of_ble_eq_true rfl) ⟨hkc, hks⟩ dL_law_286 (pc' := 289) rfl (fun r2 u2 h2 => ?_)
      obtain ⟨hr, hR2⟩ := st_about hR  _ _ h1 h2 (by omega)
      refine z_icmp_eq (tgt := 801) C dL_law_289 (pc' := 292) (by decide) rfl (fun _ => ?_) (fun q => absurd hr q)
      exact hend u1 u2 hR2
    ·
      refine z_tin C dL_law_32 (by decide) (by decide) (off := 262) (by decide) (pc' := 294) (by decide) ?_
      refine z_aload_n C dL_law_294 (pc' := 295) rfl rfl rfl ?_
      refine z_aload_n C dL_law_295 (pc' := 296) rfl rfl rfl ?_
      refine z_iload_n C dL_law_296 (pc' := 297) rfl rfl rfl ?_
      refine z_iconst C dL_law_297 (pc' := 298) rfl (v := 1) (by decide) ?_
      refine z_iadd C dL_law_298 (pc' := 299) rfl (nI_add (4 * t) 1) ?_
      refine g_sld C hX hbl hbA rfl (by omega) (by omega) dL_law_299 (pc' := 300) rfl ?_
      refine g_callI C hKC (fun u => HB D cA cB aC aR u τ) (m_X4_thinning l hIC σ  _) hAC (fun H h => h.1) (HB_C hdis) aw_195 aw_196 aw_197 aw_27 aw_198 (by decide) kC_0 rfl (nA := 1) (by decide +kernel) rfl ⟨Nat.le_of_ble_eq_true rfl, Nat.le_of_ble_eq_true rfl⟩ (rest := []) rfl (Nat.le_of_ble_eq_true rfl) ⟨hkc, hks⟩ dL_law_300 (pc' := 303) rfl (fun r1 u1 h1 => ?_)
      refine z_aload_n C dL_law_303 (pc' := 304) rfl rfl rfl ?_
      refine z_aload_n C dL_law_304 (pc' := 305) rfl rfl rfl ?_
      refine z_iload_n C dL_law_305 (pc' := 306) rfl rfl rfl ?_
      refine z_iconst C dL_law_306 (pc' := 307) rfl (v := 1) (by decide) ?_
      refine z_iadd C dL_law_307 (pc' := 308) rfl (nI_add (4 * t) 1) ?_
      refine g_sld C hX hbl hbA rfl (by omega) (by omega) dL_law_308 (pc' := 309) rfl ?_
      refine g_callI C hKR (fun u => HB D cA cB aC aR u1 u) (m_X5_thinning l hIR τ  _) hAR (fun H h => h.2) (HB_R hdis) aw_544 aw_545 aw_546 aw_32 aw_547 (by decide) kR_0 rfl (nA := 1) (by decide +kernel) rfl ⟨Nat.le_of_ble_eq_true rfl, Nat.le_of_ble_eq_true rfl⟩ (rest := [.int r1]) rfl (Nat.le_of_ble_eq_true rfl) ⟨hkc, hks⟩ dL_law_309 (pc' := 312) rfl (fun r2 u2 h2 => ?_)
      obtain ⟨hr, hR2⟩ := st_thinning hR  _ h1 h2 (by omega)
      refine z_icmp_eq (tgt := 801) C dL_law_312 (pc' := 315) (by decide) rfl (fun _ => ?_) (fun q => absurd hr q)
      exact hend u1 u2 hR2
    ·
      refine z_tin C dL_law_32 (by decide) (by decide) (off := 285) (by decide) (pc' := 317) (by decide) ?_
      refine z_aload_n C dL_law_317 (pc' := 318) rfl rfl rfl ?_
      refine z_aload_n C dL_law_318 (pc' := 319) rfl rfl rfl ?_
      refine z_iload_n C dL_law_319 (pc' := 320) rfl rfl rfl ?_
      refine z_iconst C dL_law_320 (pc' := 321) rfl (v := 1) (by decide) ?_
      refine z_iadd C dL_law_321 (pc' := 322) rfl (nI_add (4 * t) 1) ?_
      refine g_sld C hX hbl hbA rfl (by omega) (by omega) dL_law_322 (pc' := 323) rfl ?_
      refine z_aload_n C dL_law_323 (pc' := 324) rfl rfl rfl ?_
      refine z_iload_n C dL_law_324 (pc' := 325) rfl rfl rfl ?_
      refine z_iconst C dL_law_325 (pc' := 326) rfl (v := 2) (by decide) ?_
      refine z_iadd C dL_law_326 (pc' := 327) rfl (nI_add (4 * t) 2) ?_
      refine g_sld C hX hbl hbA rfl (by omega) (by omega) dL_law_327 (pc' := 328) rfl ?_
      obtain ⟨z, hz, e3, e3b⟩ := hR.e3
      refine g_callX C hKC (fun u => HB D cA cB aC aR u τ) (m_X4_cut l hIC σ (z := z) hz e3 (t := tt) _ _) hAC hAs hZ hTt (fun H h => h.1) (HB_C hdis) aw_199 aw_200 aw_201 aw_27 aw_202 (by decide) kC_0 rfl (nA := 2) (by decide +kernel) rfl ⟨Nat.le_of_ble_eq_true rfl, Nat.le_of_ble_eq_true rfl⟩ (rest := []) rfl (Nat.le_of_ble_eq_true rfl) ⟨hkc, hks⟩ dL_law_328 (pc' := 331) rfl (fun r1 u1 h1 => ?_)
      refine z_aload_n C dL_law_331 (pc' := 332) rfl rfl rfl ?_
      refine z_aload_n C dL_law_332 (pc' := 333) rfl rfl rfl ?_
      refine z_iload_n C dL_law_333 (pc' := 334) rfl rfl rfl ?_
      refine z_iconst C dL_law_334 (pc' := 335) rfl (v := 1) (by decide) ?_
      refine z_iadd C dL_law_335 (pc' := 336) rfl (nI_add (4 * t) 1) ?_
      refine g_sld C hX hbl hbA rfl (by omega) (by omega) dL_law_336 (pc' := 337) rfl ?_
      refine z_aload_n C dL_law_337 (pc' := 338) rfl rfl rfl ?_
      refine z_iload_n C dL_law_338 (pc' := 339) rfl rfl rfl ?_
      refine z_iconst C dL_law_339 (pc' := 340) rfl (v := 2) (by decide) ?_
      refine z_iadd C dL_law_340 (pc' := 341) rfl (nI_add (4 * t) 2) ?_
      refine g_sld C hX hbl hbA rfl (by omega) (by omega) dL_law_341 (pc' := 342) rfl ?_
      refine g_callI C hKR (fun u => HB D cA cB aC aR u1 u) (m_X5_cut l hIR τ (z := z) hz e3b _ _) hAR (fun H h => h.2) (HB_R hdis) aw_548 aw_549 aw_550 aw_32 aw_551 (by decide) kR_0 rfl (nA := 2) (by decide +kernel) rfl ⟨Nat.le_of_ble_eq_true rfl, Nat.le_of_ble_eq_true rfl⟩ (rest := [.int r1]) rfl (Nat.le_of_ble_eq_true rfl) ⟨hkc, hks⟩ dL_law_342 (pc' := 345) rfl (fun r2 u2 h2 => ?_)
      obtain ⟨hr, hR2⟩ := st_cut hR hz e3 _ _ h1 h2 (by omega)
      refine z_icmp_eq (tgt := 801) C dL_law_345 (pc' := 348) (by decide) rfl (fun _ => ?_) (fun q => absurd hr q)
      exact hend u1 u2 hR2
    ·
      refine z_tin C dL_law_32 (by decide) (by decide) (off := 318) (by decide) (pc' := 350) (by decide) ?_
      refine z_aload_n C dL_law_350 (pc' := 351) rfl rfl rfl ?_
      refine z_aload_n C dL_law_351 (pc' := 352) rfl rfl rfl ?_
      refine z_iload_n C dL_law_352 (pc' := 353) rfl rfl rfl ?_
      refine z_iconst C dL_law_353 (pc' := 354) rfl (v := 1) (by decide) ?_
      refine z_iadd C dL_law_354 (pc' := 355) rfl (nI_add (4 * t) 1) ?_
      refine g_sld C hX hbl hbA rfl (by omega) (by omega) dL_law_355 (pc' := 356) rfl ?_
      refine z_aload_n C dL_law_356 (pc' := 357) rfl rfl rfl ?_
      refine z_iload_n C dL_law_357 (pc' := 358) rfl rfl rfl ?_
      refine z_iconst C dL_law_358 (pc' := 359) rfl (v := 2) (by decide) ?_
      refine z_iadd C dL_law_359 (pc' := 360) rfl (nI_add (4 * t) 2) ?_
      refine g_sld C hX hbl hbA rfl (by omega) (by omega) dL_law_360 (pc' := 361) rfl ?_
      refine g_callI C hKC (fun u => HB D cA cB aC aR u τ) (m_X4_turn l hIC σ  _ _) hAC (fun H h => h.1) (HB_C hdis) aw_238 aw_239 aw_240 aw_27 aw_241 (by decide) kC_0 rfl (nA := 2) (by decide +kernel) rfl ⟨Nat.le_of_ble_eq_true rfl, Nat.le_of_ble_eq_true rfl⟩ (rest := []) rfl (Nat.le_of_ble_eq_true rfl) ⟨hkc, hks⟩ dL_law_361 (pc' := 364) rfl (fun r1 u1 h1 => ?_)
      refine z_aload_n C dL_law_364 (pc' := 365) rfl rfl rfl ?_
      refine z_aload_n C dL_law_365 (pc' := 366) rfl rfl rfl ?_
      refine z_iload_n C dL_law_366 (pc' := 367) rfl rfl rfl ?_
      refine z_iconst C dL_law_367 (pc' := 368) rfl (v := 1) (by decide) ?_
      refine z_iadd C dL_law_368 (pc' := 369) rfl (nI_add (4 * t) 1) ?_
      refine g_sld C hX hbl hbA rfl (by omega) (by omega) dL_law_369 (pc' := 370) rfl ?_
      refine z_aload_n C dL_law_370 (pc' := 371) rfl rfl rfl ?_
      refine z_iload_n C dL_law_371 (pc' := 372) rfl rfl rfl ?_
      refine z_iconst C dL_law_372 (pc' := 373) rfl (v := 2) (by decide) ?_
      refine z_iadd C dL_law_373 (pc' := 374) rfl (nI_add (4 * t) 2) ?_
      refine g_sld C hX hbl hbA rfl (by omega) (by omega) dL_law_374 (pc' := 375) rfl ?_
      refine g_callI C hKR (fun u => HB D cA cB aC aR u1 u) (m_X5_turn l hIR τ  _ _) hAR (fun H h => h.2) (HB_R hdis) aw_566 aw_567 aw_568 aw_32 aw_569 (by decide) kR_0 rfl (nA := 2) (by decide +kernel) rfl ⟨Nat.le_of_ble_eq_true rfl, Nat.le_of_ble_eq_true rfl⟩ (rest := [.int r1]) rfl (Nat.le_of_ble_eq_true rfl) ⟨hkc, hks⟩ dL_law_375 (pc' := 378) rfl (fun r2 u2 h2 => ?_)
      obtain ⟨hr, hR2⟩ := st_turn hR  _ _ h1 h2 (by omega)
      refine z_icmp_eq (tgt := 801) C dL_law_378 (pc' := 381) (by decide) rfl (fun _ => ?_) (fun q => absurd hr q)
      exact hend u1 u2 hR2
    ·
      refine z_tin C dL_law_32 (by decide) (by decide) (off := 351) (by decide) (pc' := 383) (by decide) ?_
      refine z_aload_n C dL_law_383 (pc' := 384) rfl rfl rfl ?_
      refine z_aload_n C dL_law_384 (pc' := 385) rfl rfl rfl ?_
      refine z_iload_n C dL_law_385 (pc' := 386) rfl rfl rfl ?_
      refine z_iconst C dL_law_386 (pc' := 387) rfl (v := 1) (by decide) ?_
      refine z_iadd C dL_law_387 (pc' := 388) rfl (nI_add (4 * t) 1) ?_
      refine g_sld C hX hbl hbA rfl (by omega) (by omega) dL_law_388 (pc' := 389) rfl ?_
      refine g_callI C hKC (fun u => HB D cA cB aC aR u τ) (m_X4_miles l hIC σ  _) hAC (fun H h => h.1) (HB_C hdis) aw_246 aw_247 aw_248 aw_27 aw_249 (by decide) kC_0 rfl (nA := 1) (by decide +kernel) rfl ⟨Nat.le_of_ble_eq_true rfl, Nat.le_of_ble_eq_true rfl⟩ (rest := []) rfl (Nat.le_of_ble_eq_true rfl) ⟨hkc, hks⟩ dL_law_389 (pc' := 392) rfl (fun r1 u1 h1 => ?_)
      refine z_aload_n C dL_law_392 (pc' := 393) rfl rfl rfl ?_
      refine z_aload_n C dL_law_393 (pc' := 394) rfl rfl rfl ?_
      refine z_iload_n C dL_law_394 (pc' := 395) rfl rfl rfl ?_
      refine z_iconst C dL_law_395 (pc' := 396) rfl (v := 1) (by decide) ?_
      refine z_iadd C dL_law_396 (pc' := 397) rfl (nI_add (4 * t) 1) ?_
      refine g_sld C hX hbl hbA rfl (by omega) (by omega) dL_law_397 (pc' := 398) rfl ?_
      refine g_callI C hKR (fun u => HB D cA cB aC aR u1 u) (m_X5_miles l hIR τ  _) hAR (fun H h => h.2) (HB_R hdis) aw_570 aw_571 aw_572 aw_32 aw_573 (by decide) kR_0 rfl (nA := 1) (by decide +kernel) rfl ⟨Nat.le_of_ble_eq_true rfl, Nat.le_of_ble_eq_true rfl⟩ (rest := [.int r1]) rfl (Nat.le_of_ble_eq_true rfl) ⟨hkc, hks⟩ dL_law_398 (pc' := 401) rfl (fun r2 u2 h2 => ?_)
      obtain ⟨hr, hR2⟩ := st_miles hR  _ h1 h2 (by omega)
      refine z_icmp_eq (tgt := 801) C dL_law_401 (pc' := 404) (by decide) rfl (fun _ => ?_) (fun q => absurd hr q)
      exact hend u1 u2 hR2
    ·
      refine z_tin C dL_law_32 (by decide) (by decide) (off := 374) (by decide) (pc' := 406) (by decide) ?_
      refine z_aload_n C dL_law_406 (pc' := 407) rfl rfl rfl ?_
      refine z_aload_n C dL_law_407 (pc' := 408) rfl rfl rfl ?_
      refine z_iload_n C dL_law_408 (pc' := 409) rfl rfl rfl ?_
      refine z_iconst C dL_law_409 (pc' := 410) rfl (v := 1) (by decide) ?_
      refine z_iadd C dL_law_410 (pc' := 411) rfl (nI_add (4 * t) 1) ?_
      refine g_sld C hX hbl hbA rfl (by omega) (by omega) dL_law_411 (pc' := 412) rfl ?_
      refine z_aload_n C dL_law_412 (pc' := 413) rfl rfl rfl ?_
      refine z_iload_n C dL_law_413 (pc' := 414) rfl rfl rfl ?_
      refine z_iconst C dL_law_414 (pc' := 415) rfl (v := 2) (by decide) ?_
      refine z_iadd C dL_law_415 (pc' := 416) rfl (nI_add (4 * t) 2) ?_
      refine g_sld C hX hbl hbA rfl (by omega) (by omega) dL_law_416 (pc' := 417) rfl ?_
      refine g_callI C hKC (fun u => HB D cA cB aC aR u τ) (m_X4_law l hIC σ  _ _) hAC (fun H h => h.1) (HB_C hdis) aw_258 aw_259 aw_260 aw_27 aw_261 (by decide) kC_0 rfl (nA := 2) (by decide +kernel) rfl ⟨Nat.le_of_ble_eq_true rfl, Nat.le_of_ble_eq_true rfl⟩ (rest := []) rfl (Nat.le_of_ble_eq_true rfl) ⟨hkc, hks⟩ dL_law_417 (pc' := 420) rfl (fun r1 u1 h1 => ?_)
      refine z_aload_n C dL_law_420 (pc' := 421) rfl rfl rfl ?_
      refine z_aload_n C dL_law_421 (pc' := 422) rfl rfl rfl ?_
      refine z_iload_n C dL_law_422 (pc' := 423) rfl rfl rfl ?_
      refine z_iconst C dL_law_423 (pc' := 424) rfl (v := 1) (by decide) ?_
      refine z_iadd C dL_law_424 (pc' := 425) rfl (nI_add (4 * t) 1) ?_
      refine g_sld C hX hbl hbA rfl (by omega) (by omega) dL_law_425 (pc' := 426) rfl ?_
      refine z_aload_n C dL_law_426 (pc' := 427) rfl rfl rfl ?_
      refine z_iload_n C dL_law_427 (pc' := 428) rfl rfl rfl ?_
      refine z_iconst C dL_law_428 (pc' := 429) rfl (v := 2) (by decide) ?_
      refine z_iadd C dL_law_429 (pc' := 430) rfl (nI_add (4 * t) 2) ?_
      refine g_sld C hX hbl hbA rfl (by omega) (by omega) dL_law_430 (pc' := 431) rfl ?_
      refine g_callI C hKR (fun u => HB D cA cB aC aR u1 u) (m_X5_law l hIR τ  _ _) hAR (fun H h => h.2) (HB_R hdis) aw_574 aw_575 aw_576 aw_32 aw_577 (by decide) kR_0 rfl (nA := 2) (by decide +kernel) rfl ⟨Nat.le_of_ble_eq_true rfl, Nat.le_of_ble_eq_true rfl⟩ (rest := [.int r1]) rfl (Nat.le_of_ble_eq_true rfl) ⟨hkc, hks⟩ dL_law_431 (pc' := 434) rfl (fun r2 u2 h2 => ?_)
      obtain ⟨hr, hR2⟩ := st_law hR  _ _ h1 h2 (by omega)
      refine z_icmp_eq (tgt := 801) C dL_law_434 (pc' := 437) (by decide) rfl (fun _ => ?_) (fun q => absurd hr q)
      exact hend u1 u2 hR2
    ·
      refine z_tin C dL_law_32 (by decide) (by decide) (off := 407) (by decide) (pc' := 439) (by decide) ?_
      refine z_aload_n C dL_law_439 (pc' := 440) rfl rfl rfl ?_
      refine g_callI C hKC (fun u => HB D cA cB aC aR u τ) (m_X4_broken l hIC σ ) hAC (fun H h => h.1) (HB_C hdis) aw_262 aw_263 aw_264 aw_27 aw_265 (by decide) kC_0 rfl (nA := 0) (by decide +kernel) rfl ⟨Nat.le_of_ble_eq_true rfl, Nat.le_of_ble_eq_true rfl⟩ (rest := []) rfl (Nat.le_of_ble_eq_true rfl) ⟨hkc, hks⟩ dL_law_440 (pc' := 443) rfl (fun r1 u1 h1 => ?_)
      refine z_aload_n C dL_law_443 (pc' := 444) rfl rfl rfl ?_
      refine g_callI C hKR (fun u => HB D cA cB aC aR u1 u) (m_X5_broken l hIR τ ) hAR (fun H h => h.2) (HB_R hdis) aw_578 aw_579 aw_580 aw_32 aw_581 (by decide) kR_0 rfl (nA := 0) (by decide +kernel) rfl ⟨Nat.le_of_ble_eq_true rfl, Nat.le_of_ble_eq_true rfl⟩ (rest := [.int r1]) rfl (Nat.le_of_ble_eq_true rfl) ⟨hkc, hks⟩ dL_law_444 (pc' := 447) rfl (fun r2 u2 h2 => ?_)
      obtain ⟨hr, hR2⟩ := st_broken hR  h1 h2 (by omega)
      refine z_icmp_eq (tgt := 801) C dL_law_447 (pc' := 450) (by decide) rfl (fun _ => ?_) (fun q => absurd hr q)
      exact hend u1 u2 hR2
    ·
      refine z_tin C dL_law_32 (by decide) (by decide) (off := 420) (by decide) (pc' := 452) (by decide) ?_
      refine z_aload_n C dL_law_452 (pc' := 453) rfl rfl rfl ?_
      refine z_aload_n C dL_law_453 (pc' := 454) rfl rfl rfl ?_
      refine z_iload_n C dL_law_454 (pc' := 455) rfl rfl rfl ?_
      refine z_iconst C dL_law_455 (pc' := 456) rfl (v := 1) (by decide) ?_
      refine z_iadd C dL_law_456 (pc' := 457) rfl (nI_add (4 * t) 1) ?_
      refine g_sld C hX hbl hbA rfl (by omega) (by omega) dL_law_457 (pc' := 458) rfl ?_
      obtain ⟨N, hN⟩ := fix_ex hR
      refine g_callI C hKC (fun u => HB D cA cB aC aR u τ) (m_X4_kept l hIC σ  _) hAC (fun H h => h.1) (HB_C hdis) aw_281 aw_282 aw_283 aw_27 aw_284 (by decide) kC_0 rfl (nA := 1) (by decide +kernel) rfl ⟨Nat.le_of_ble_eq_true rfl, Nat.le_of_ble_eq_true rfl⟩ (rest := []) rfl (Nat.le_of_ble_eq_true rfl) ⟨hkc, hks⟩ dL_law_458 (pc' := 461) rfl (fun r1 u1 h1 => ?_)
      refine z_aload_n C dL_law_461 (pc' := 462) rfl rfl rfl ?_
      refine z_aload_n C dL_law_462 (pc' := 463) rfl rfl rfl ?_
      refine z_iload_n C dL_law_463 (pc' := 464) rfl rfl rfl ?_
      refine z_iconst C dL_law_464 (pc' := 465) rfl (v := 1) (by decide) ?_
      refine z_iadd C dL_law_465 (pc' := 466) rfl (nI_add (4 * t) 1) ?_
      refine g_sld C hX hbl hbA rfl (by omega) (by omega) dL_law_466 (pc' := 467) rfl ?_
      refine g_callI C hKR (fun u => HB D cA cB aC aR u1 u) (m_X5_kept l hIR τ (N := N) hN _) hAR (fun H h => h.2) (HB_R hdis) aw_586 aw_587 aw_588 aw_32 aw_589 (by decide) kR_0 rfl (nA := 1) (by decide +kernel) rfl ⟨Nat.le_of_ble_eq_true rfl, Nat.le_of_ble_eq_true rfl⟩ (rest := [.int r1]) rfl (Nat.le_of_ble_eq_true rfl) ⟨hkc, hks⟩ dL_law_467 (pc' := 470) rfl (fun r2 u2 h2 => ?_)
      obtain ⟨hr, hR2⟩ := st_kept hR  _ h1 h2 (by omega)
      refine z_icmp_eq (tgt := 801) C dL_law_470 (pc' := 473) (by decide) rfl (fun _ => ?_) (fun q => absurd hr q)
      exact hend u1 u2 hR2
    ·
      refine z_tin C dL_law_32 (by decide) (by decide) (off := 443) (by decide) (pc' := 475) (by decide) ?_
      refine z_aload_n C dL_law_475 (pc' := 476) rfl rfl rfl ?_
      obtain ⟨N, hN⟩ := fix_ex hR
      refine g_callI C hKC (fun u => HB D cA cB aC aR u τ) (m_X4_steel l hIC σ ) hAC (fun H h => h.1) (HB_C hdis) aw_297 aw_298 aw_299 aw_27 aw_300 (by decide) kC_0 rfl (nA := 0) (by decide +kernel) rfl ⟨Nat.le_of_ble_eq_true rfl, Nat.le_of_ble_eq_true rfl⟩ (rest := []) rfl (Nat.le_of_ble_eq_true rfl) ⟨hkc, hks⟩ dL_law_476 (pc' := 479) rfl (fun r1 u1 h1 => ?_)
      refine z_aload_n C dL_law_479 (pc' := 480) rfl rfl rfl ?_
      refine g_callI C hKR (fun u => HB D cA cB aC aR u1 u) (m_X5_steel l hIR τ (N := N) hN) hAR (fun H h => h.2) (HB_R hdis) aw_594 aw_595 aw_596 aw_32 aw_597 (by decide) kR_0 rfl (nA := 0) (by decide +kernel) rfl ⟨Nat.le_of_ble_eq_true rfl, Nat.le_of_ble_eq_true rfl⟩ (rest := [.int r1]) rfl (Nat.le_of_ble_eq_true rfl) ⟨hkc, hks⟩ dL_law_480 (pc' := 483) rfl (fun r2 u2 h2 => ?_)
      obtain ⟨hr, hR2⟩ := st_steel hR  h1 h2 (by omega)
      refine z_icmp_eq (tgt := 801) C dL_law_483 (pc' := 486) (by decide) rfl (fun _ => ?_) (fun q => absurd hr q)
      exact hend u1 u2 hR2
    ·
      refine z_tin C dL_law_32 (by decide) (by decide) (off := 456) (by decide) (pc' := 488) (by decide) ?_
      refine z_aload_n C dL_law_488 (pc' := 489) rfl rfl rfl ?_
      obtain ⟨N, hN⟩ := fix_ex hR
      refine g_callI C hKC (fun u => HB D cA cB aC aR u τ) (m_X4_even l hIC σ ) hAC (fun H h => h.1) (HB_C hdis) aw_301 aw_302 aw_303 aw_27 aw_304 (by decide) kC_0 rfl (nA := 0) (by decide +kernel) rfl ⟨Nat.le_of_ble_eq_true rfl, Nat.le_of_ble_eq_true rfl⟩ (rest := []) rfl (Nat.le_of_ble_eq_true rfl) ⟨hkc, hks⟩ dL_law_489 (pc' := 492) rfl (fun r1 u1 h1 => ?_)
      refine z_aload_n C dL_law_492 (pc' := 493) rfl rfl rfl ?_
      refine g_callI C hKR (fun u => HB D cA cB aC aR u1 u) (m_X5_even l hIR τ (N := N) hN) hAR (fun H h => h.2) (HB_R hdis) aw_598 aw_599 aw_600 aw_32 aw_601 (by decide) kR_0 rfl (nA := 0) (by decide +kernel) rfl ⟨Nat.le_of_ble_eq_true rfl, Nat.le_of_ble_eq_true rfl⟩ (rest := [.int r1]) rfl (Nat.le_of_ble_eq_true rfl) ⟨hkc, hks⟩ dL_law_493 (pc' := 496) rfl (fun r2 u2 h2 => ?_)
      obtain ⟨hr, hR2⟩ := st_even hR  h1 h2 (by omega)
      refine z_icmp_eq (tgt := 801) C dL_law_496 (pc' := 499) (by decide) rfl (fun _ => ?_) (fun q => absurd hr q)
      exact hend u1 u2 hR2
    ·
      refine z_tin C dL_law_32 (by decide) (by decide) (off := 469) (by decide) (pc' := 501) (by decide) ?_
      refine z_aload_n C dL_law_501 (pc' := 502) rfl rfl rfl ?_
      refine z_aload_n C dL_law_502 (pc' := 503) rfl rfl rfl ?_
      refine z_iload_n C dL_law_503 (pc' := 504) rfl rfl rfl ?_
      refine z_iconst C dL_law_504 (pc' := 505) rfl (v := 1) (by decide) ?_
      refine z_iadd C dL_law_505 (pc' := 506) rfl (nI_add (4 * t) 1) ?_
      refine g_sld C hX hbl hbA rfl (by omega) (by omega) dL_law_506 (pc' := 507) rfl ?_
      obtain ⟨n, hn, e4, e4b⟩ := hR.e4
      refine g_callI C hKC (fun u => HB D cA cB aC aR u τ) (m_X4_spare l hIC σ (n := n) hn e4 _) hAC (fun H h => h.1) (HB_C hdis) aw_305 aw_306 aw_307 aw_27 aw_308 (by decide) kC_0 rfl (nA := 1) (by decide +kernel) rfl ⟨Nat.le_of_ble_eq_true rfl, Nat.le_of_ble_eq_true rfl⟩ (rest := []) rfl (Nat.le_of_ble_eq_true rfl) ⟨hkc, hks⟩ dL_law_507 (pc' := 510) rfl (fun r1 u1 h1 => ?_)
      refine z_aload_n C dL_law_510 (pc' := 511) rfl rfl rfl ?_
      refine z_aload_n C dL_law_511 (pc' := 512) rfl rfl rfl ?_
      refine z_iload_n C dL_law_512 (pc' := 513) rfl rfl rfl ?_
      refine z_iconst C dL_law_513 (pc' := 514) rfl (v := 1) (by decide) ?_
      refine z_iadd C dL_law_514 (pc' := 515) rfl (nI_add (4 * t) 1) ?_
      refine g_sld C hX hbl hbA rfl (by omega) (by omega) dL_law_515 (pc' := 516) rfl ?_
      refine g_callI C hKR (fun u => HB D cA cB aC aR u1 u) (m_X5_spare l hIR τ (n := n) hn e4b _) hAR (fun H h => h.2) (HB_R hdis) aw_602 aw_603 aw_604 aw_32 aw_605 (by decide) kR_0 rfl (nA := 1) (by decide +kernel) rfl ⟨Nat.le_of_ble_eq_true rfl, Nat.le_of_ble_eq_true rfl⟩ (rest := [.int r1]) rfl (Nat.le_of_ble_eq_true rfl) ⟨hkc, hks⟩ dL_law_516 (pc' := 519) rfl (fun r2 u2 h2 => ?_)
      obtain ⟨hr, hR2⟩ := st_spare hR hn e4 _ h1 h2 (by omega)
      refine z_icmp_eq (tgt := 801) C dL_law_519 (pc' := 522) (by decide) rfl (fun _ => ?_) (fun q => absurd hr q)
      exact hend u1 u2 hR2
    ·
      refine z_tin C dL_law_32 (by decide) (by decide) (off := 492) (by decide) (pc' := 524) (by decide) ?_
      refine z_aload_n C dL_law_524 (pc' := 525) rfl rfl rfl ?_
      refine g_callI C hKC (fun u => HB D cA cB aC aR u τ) (m_X4_sell l hIC σ ) hAC (fun H h => h.1) (HB_C hdis) aw_313 aw_314 aw_315 aw_27 aw_316 (by decide) kC_0 rfl (nA := 0) (by decide +kernel) rfl ⟨Nat.le_of_ble_eq_true rfl, Nat.le_of_ble_eq_true rfl⟩ (rest := []) rfl (Nat.le_of_ble_eq_true rfl) ⟨hkc, hks⟩ dL_law_525 (pc' := 528) rfl (fun r1 u1 h1 => ?_)
      refine z_aload_n C dL_law_528 (pc' := 529) rfl rfl rfl ?_
      refine g_callI C hKR (fun u => HB D cA cB aC aR u1 u) (m_X5_sell l hIR τ ) hAR (fun H h => h.2) (HB_R hdis) aw_606 aw_607 aw_608 aw_32 aw_609 (by decide) kR_0 rfl (nA := 0) (by decide +kernel) rfl ⟨Nat.le_of_ble_eq_true rfl, Nat.le_of_ble_eq_true rfl⟩ (rest := [.int r1]) rfl (Nat.le_of_ble_eq_true rfl) ⟨hkc, hks⟩ dL_law_529 (pc' := 532) rfl (fun r2 u2 h2 => ?_)
      obtain ⟨hr, hR2⟩ := st_sell hR  h1 h2 (by omega)
      refine z_icmp_eq (tgt := 801) C dL_law_532 (pc' := 535) (by decide) rfl (fun _ => ?_) (fun q => absurd hr q)
      exact hend u1 u2 hR2
    ·
      refine z_tin C dL_law_32 (by decide) (by decide) (off := 505) (by decide) (pc' := 537) (by decide) ?_
      refine z_aload_n C dL_law_537 (pc' := 538) rfl rfl rfl ?_
      refine z_aload_n C dL_law_538 (pc' := 539) rfl rfl rfl ?_
      refine z_iload_n C dL_law_539 (pc' := 540) rfl rfl rfl ?_
      refine z_iconst C dL_law_540 (pc' := 541) rfl (v := 1) (by decide) ?_
      refine z_iadd C dL_law_541 (pc' := 542) rfl (nI_add (4 * t) 1) ?_
      refine g_sld C hX hbl hbA rfl (by omega) (by omega) dL_law_542 (pc' := 543) rfl ?_
      obtain ⟨n, hn, e4, e4b⟩ := hR.e4
      refine g_callI C hKC (fun u => HB D cA cB aC aR u τ) (m_X4_pairs l hIC σ (n := n) hn e4 _) hAC (fun H h => h.1) (HB_C hdis) aw_317 aw_318 aw_319 aw_27 aw_320 (by decide) kC_0 rfl (nA := 1) (by decide +kernel) rfl ⟨Nat.le_of_ble_eq_true rfl, Nat.le_of_ble_eq_true rfl⟩ (rest := []) rfl (Nat.le_of_ble_eq_true rfl) ⟨hkc, hks⟩ dL_law_543 (pc' := 546) rfl (fun r1 u1 h1 => ?_)
      refine z_aload_n C dL_law_546 (pc' := 547) rfl rfl rfl ?_
      refine z_aload_n C dL_law_547 (pc' := 548) rfl rfl rfl ?_
      refine z_iload_n C dL_law_548 (pc' := 549) rfl rfl rfl ?_
      refine z_iconst C dL_law_549 (pc' := 550) rfl (v := 1) (by decide) ?_
      refine z_iadd C dL_law_550 (pc' := 551) rfl (nI_add (4 * t) 1) ?_
      refine g_sld C hX hbl hbA rfl (by omega) (by omega) dL_law_551 (pc' := 552) rfl ?_
      refine g_callI C hKR (fun u => HB D cA cB aC aR u1 u) (m_X5_pairs l hIR τ (n := n) hn e4b _) hAR (fun H h => h.2) (HB_R hdis) aw_610 aw_611 aw_612 aw_32 aw_613 (by decide) kR_0 rfl (nA := 1) (by decide +kernel) rfl ⟨Nat.le_of_ble_eq_true rfl, Nat.le_of_ble_eq_true rfl⟩ (rest := [.int r1]) rfl (Nat.le_of_ble_eq_true rfl) ⟨hkc, hks⟩ dL_law_552 (pc' := 555) rfl (fun r2 u2 h2 => ?_)
      obtain ⟨hr, hR2⟩ := st_pairs hR hn e4 _ h1 h2 (by omega)
      refine z_icmp_eq (tgt := 801) C dL_law_555 (pc' := 558) (by decide) rfl (fun _ => ?_) (fun q => absurd hr q)
      exact hend u1 u2 hR2
    ·
      refine z_tin C dL_law_32 (by decide) (by decide) (off := 528) (by decide) (pc' := 560) (by decide) ?_
      refine z_aload_n C dL_law_560 (pc' := 561) rfl rfl rfl ?_
      refine z_aload_n C dL_law_561 (pc' := 562) rfl rfl rfl ?_
      refine z_iload_n C dL_law_562 (pc' := 563) rfl rfl rfl ?_
      refine z_iconst C dL_law_563 (pc' := 564) rfl (v := 1) (by decide) ?_
      refine z_iadd C dL_law_564 (pc' := 565) rfl (nI_add (4 * t) 1) ?_
      refine g_sld C hX hbl hbA rfl (by omega) (by omega) dL_law_565 (pc' := 566) rfl ?_
      refine z_aload_n C dL_law_566 (pc' := 567) rfl rfl rfl ?_
      refine z_iload_n C dL_law_567 (pc' := 568) rfl rfl rfl ?_
      refine z_iconst C dL_law_568 (pc' := 569) rfl (v := 2) (by decide) ?_
      refine z_iadd C dL_law_569 (pc' := 570) rfl (nI_add (4 * t) 2) ?_
      refine g_sld C hX hbl hbA rfl (by omega) (by omega) dL_law_570 (pc' := 571) rfl ?_
      refine z_aload_n C dL_law_571 (pc' := 572) rfl rfl rfl ?_
      refine z_iload_n C dL_law_572 (pc' := 573) rfl rfl rfl ?_
      refine z_iconst C dL_law_573 (pc' := 574) rfl (v := 3) (by decide) ?_
      refine z_iadd C dL_law_574 (pc' := 575) rfl (nI_add (4 * t) 3) ?_
      refine g_sld C hX hbl hbA rfl (by omega) (by omega) dL_law_575 (pc' := 576) rfl ?_
      obtain ⟨n, hn, e5, e5b, hT1, hT2⟩ := hR.e5
      refine g_callI C hKC (fun u => HB D cA cB aC aR u τ) (m_X4_read l hIC σ (n := n) hn e5 _ _ _) hAC (fun H h => h.1) (HB_C hdis) aw_341 aw_342 aw_343 aw_27 aw_344 (by decide) kC_0 rfl (nA := 3) (by decide +kernel) rfl ⟨Nat.le_of_ble_eq_true rfl, Nat.le_of_ble_eq_true rfl⟩ (rest := []) rfl (Nat.le_of_ble_eq_true rfl) ⟨hkc, hks⟩ dL_law_576 (pc' := 579) rfl (fun r1 u1 h1 => ?_)
      refine z_aload_n C dL_law_579 (pc' := 580) rfl rfl rfl ?_
      refine z_aload_n C dL_law_580 (pc' := 581) rfl rfl rfl ?_
      refine z_iload_n C dL_law_581 (pc' := 582) rfl rfl rfl ?_
      refine z_iconst C dL_law_582 (pc' := 583) rfl (v := 1) (by decide) ?_
      refine z_iadd C dL_law_583 (pc' := 584) rfl (nI_add (4 * t) 1) ?_
      refine g_sld C hX hbl hbA rfl (by omega) (by omega) dL_law_584 (pc' := 585) rfl ?_
      refine z_aload_n C dL_law_585 (pc' := 586) rfl rfl rfl ?_
      refine z_iload_n C dL_law_586 (pc' := 587) rfl rfl rfl ?_
      refine z_iconst C dL_law_587 (pc' := 588) rfl (v := 2) (by decide) ?_
      refine z_iadd C dL_law_588 (pc' := 589) rfl (nI_add (4 * t) 2) ?_
      refine g_sld C hX hbl hbA rfl (by omega) (by omega) dL_law_589 (pc' := 590) rfl ?_
      refine z_aload_n C dL_law_590 (pc' := 591) rfl rfl rfl ?_
      refine z_iload_n C dL_law_591 (pc' := 592) rfl rfl rfl ?_
      refine z_iconst C dL_law_592 (pc' := 593) rfl (v := 3) (by decide) ?_
      refine z_iadd C dL_law_593 (pc' := 594) rfl (nI_add (4 * t) 3) ?_
      refine g_sld C hX hbl hbA rfl (by omega) (by omega) dL_law_594 (pc' := 595) rfl ?_
      refine g_callI C hKR (fun u => HB D cA cB aC aR u1 u) (m_X5_read l hIR τ (n := n) hn e5b _ _ _) hAR (fun H h => h.2) (HB_R hdis) aw_614 aw_615 aw_616 aw_32 aw_617 (by decide) kR_0 rfl (nA := 3) (by decide +kernel) rfl ⟨Nat.le_of_ble_eq_true rfl, Nat.le_of_ble_eq_true rfl⟩ (rest := [.int r1]) rfl (Nat.le_of_ble_eq_true rfl) ⟨hkc, hks⟩ dL_law_595 (pc' := 598) rfl (fun r2 u2 h2 => ?_)
      obtain ⟨hr, hR2⟩ := st_read hR hn e5 _ _ _ h1 h2 (by omega)
      refine z_icmp_eq (tgt := 801) C dL_law_598 (pc' := 601) (by decide) rfl (fun _ => ?_) (fun q => absurd hr q)
      exact hend u1 u2 hR2
    ·
      refine z_tin C dL_law_32 (by decide) (by decide) (off := 571) (by decide) (pc' := 603) (by decide) ?_
      refine z_aload_n C dL_law_603 (pc' := 604) rfl rfl rfl ?_
      refine g_callI C hKC (fun u => HB D cA cB aC aR u τ) (m_X4_forget l hIC σ ) hAC (fun H h => h.1) (HB_C hdis) aw_349 aw_350 aw_351 aw_27 aw_352 (by decide) kC_0 rfl (nA := 0) (by decide +kernel) rfl ⟨Nat.le_of_ble_eq_true rfl, Nat.le_of_ble_eq_true rfl⟩ (rest := []) rfl (Nat.le_of_ble_eq_true rfl) ⟨hkc, hks⟩ dL_law_604 (pc' := 607) rfl (fun r1 u1 h1 => ?_)
      refine z_aload_n C dL_law_607 (pc' := 608) rfl rfl rfl ?_
      refine g_callI C hKR (fun u => HB D cA cB aC aR u1 u) (m_X5_forget l hIR τ ) hAR (fun H h => h.2) (HB_R hdis) aw_618 aw_619 aw_620 aw_32 aw_621 (by decide) kR_0 rfl (nA := 0) (by decide +kernel) rfl ⟨Nat.le_of_ble_eq_true rfl, Nat.le_of_ble_eq_true rfl⟩ (rest := [.int r1]) rfl (Nat.le_of_ble_eq_true rfl) ⟨hkc, hks⟩ dL_law_608 (pc' := 611) rfl (fun r2 u2 h2 => ?_)
      obtain ⟨hr, hR2⟩ := st_forget hR  h1 h2 (by omega)
      refine z_icmp_eq (tgt := 801) C dL_law_611 (pc' := 614) (by decide) rfl (fun _ => ?_) (fun q => absurd hr q)
      exact hend u1 u2 hR2
    ·
      refine z_tin C dL_law_32 (by decide) (by decide) (off := 584) (by decide) (pc' := 616) (by decide) ?_
      refine z_aload_n C dL_law_616 (pc' := 617) rfl rfl rfl ?_
      refine z_aload_n C dL_law_617 (pc' := 618) rfl rfl rfl ?_
      refine z_iload_n C dL_law_618 (pc' := 619) rfl rfl rfl ?_
      refine z_iconst C dL_law_619 (pc' := 620) rfl (v := 1) (by decide) ?_
      refine z_iadd C dL_law_620 (pc' := 621) rfl (nI_add (4 * t) 1) ?_
      refine g_sld C hX hbl hbA rfl (by omega) (by omega) dL_law_621 (pc' := 622) rfl ?_
      obtain ⟨n, hn, e5, e5b, hT1, hT2⟩ := hR.e5
      refine g_callI C hKC (fun u => HB D cA cB aC aR u τ) (m_X4_offset l hIC σ (n := n) hn e5 hT1 _) hAC (fun H h => h.1) (HB_C hdis) aw_353 aw_354 aw_355 aw_27 aw_356 (by decide) kC_0 rfl (nA := 1) (by decide +kernel) rfl ⟨Nat.le_of_ble_eq_true rfl, Nat.le_of_ble_eq_true rfl⟩ (rest := []) rfl (Nat.le_of_ble_eq_true rfl) ⟨hkc, hks⟩ dL_law_622 (pc' := 625) rfl (fun r1 u1 h1 => ?_)
      refine z_aload_n C dL_law_625 (pc' := 626) rfl rfl rfl ?_
      refine z_aload_n C dL_law_626 (pc' := 627) rfl rfl rfl ?_
      refine z_iload_n C dL_law_627 (pc' := 628) rfl rfl rfl ?_
      refine z_iconst C dL_law_628 (pc' := 629) rfl (v := 1) (by decide) ?_
      refine z_iadd C dL_law_629 (pc' := 630) rfl (nI_add (4 * t) 1) ?_
      refine g_sld C hX hbl hbA rfl (by omega) (by omega) dL_law_630 (pc' := 631) rfl ?_
      refine g_callI C hKR (fun u => HB D cA cB aC aR u1 u) (m_X5_offset l hIR τ (n := n) hn e5b hT2 _) hAR (fun H h => h.2) (HB_R hdis) aw_622 aw_623 aw_624 aw_32 aw_625 (by decide) kR_0 rfl (nA := 1) (by decide +kernel) rfl ⟨Nat.le_of_ble_eq_true rfl, Nat.le_of_ble_eq_true rfl⟩ (rest := [.int r1]) rfl (Nat.le_of_ble_eq_true rfl) ⟨hkc, hks⟩ dL_law_631 (pc' := 634) rfl (fun r2 u2 h2 => ?_)
      obtain ⟨hr, hR2⟩ := st_offset hR hn e5 _ h1 h2 (by omega)
      refine z_icmp_eq (tgt := 801) C dL_law_634 (pc' := 637) (by decide) rfl (fun _ => ?_) (fun q => absurd hr q)
      exact hend u1 u2 hR2
    ·
      refine z_tin C dL_law_32 (by decide) (by decide) (off := 607) (by decide) (pc' := 639) (by decide) ?_
      refine z_aload_n C dL_law_639 (pc' := 640) rfl rfl rfl ?_
      refine z_aload_n C dL_law_640 (pc' := 641) rfl rfl rfl ?_
      refine z_iload_n C dL_law_641 (pc' := 642) rfl rfl rfl ?_
      refine z_iconst C dL_law_642 (pc' := 643) rfl (v := 1) (by decide) ?_
      refine z_iadd C dL_law_643 (pc' := 644) rfl (nI_add (4 * t) 1) ?_
      refine g_sld C hX hbl hbA rfl (by omega) (by omega) dL_law_644 (pc' := 645) rfl ?_
      refine z_aload_n C dL_law_645 (pc' := 646) rfl rfl rfl ?_
      refine z_iload_n C dL_law_646 (pc' := 647) rfl rfl rfl ?_
      refine z_iconst C dL_law_647 (pc' := 648) rfl (v := 2) (by decide) ?_
      refine z_iadd C dL_law_648 (pc' := 649) rfl (nI_add (4 * t) 2) ?_
      refine g_sld C hX hbl hbA rfl (by omega) (by omega) dL_law_649 (pc' := 650) rfl ?_
      refine g_callI C hKC (fun u => HB D cA cB aC aR u τ) (m_X4_pass l hIC σ hR.okB hR.okO _ _) hAC (fun H h => h.1) (HB_C hdis) aw_402 aw_403 aw_404 aw_27 aw_405 (by decide) kC_0 rfl (nA := 2) (by decide +kernel) rfl ⟨Nat.le_of_ble_eq_true rfl, Nat.le_of_ble_eq_true rfl⟩ (rest := []) rfl (Nat.le_of_ble_eq_true rfl) ⟨hkc, hks⟩ dL_law_650 (pc' := 653) rfl (fun r1 u1 h1 => ?_)
      refine z_aload_n C dL_law_653 (pc' := 654) rfl rfl rfl ?_
      refine z_aload_n C dL_law_654 (pc' := 655) rfl rfl rfl ?_
      refine z_iload_n C dL_law_655 (pc' := 656) rfl rfl rfl ?_
      refine z_iconst C dL_law_656 (pc' := 657) rfl (v := 1) (by decide) ?_
      refine z_iadd C dL_law_657 (pc' := 658) rfl (nI_add (4 * t) 1) ?_
      refine g_sld C hX hbl hbA rfl (by omega) (by omega) dL_law_658 (pc' := 659) rfl ?_
      refine z_aload_n C dL_law_659 (pc' := 660) rfl rfl rfl ?_
      refine z_iload_n C dL_law_660 (pc' := 661) rfl rfl rfl ?_
      refine z_iconst C dL_law_661 (pc' := 662) rfl (v := 2) (by decide) ?_
      refine z_iadd C dL_law_662 (pc' := 663) rfl (nI_add (4 * t) 2) ?_
      refine g_sld C hX hbl hbA rfl (by omega) (by omega) dL_law_663 (pc' := 664) rfl ?_
      refine g_callI C hKR (fun u => HB D cA cB aC aR u1 u) (m_X5_pass l hIR τ hR.okP _ _) hAR (fun H h => h.2) (HB_R hdis) aw_642 aw_643 aw_644 aw_32 aw_645 (by decide) kR_0 rfl (nA := 2) (by decide +kernel) rfl ⟨Nat.le_of_ble_eq_true rfl, Nat.le_of_ble_eq_true rfl⟩ (rest := [.int r1]) rfl (Nat.le_of_ble_eq_true rfl) ⟨hkc, hks⟩ dL_law_664 (pc' := 667) rfl (fun r2 u2 h2 => ?_)
      obtain ⟨hr, hR2⟩ := st_pass hR  _ _ h1 h2 (by omega)
      refine z_icmp_eq (tgt := 801) C dL_law_667 (pc' := 670) (by decide) rfl (fun _ => ?_) (fun q => absurd hr q)
      exact hend u1 u2 hR2
    ·
      refine z_tin C dL_law_32 (by decide) (by decide) (off := 640) (by decide) (pc' := 672) (by decide) ?_
      refine z_aload_n C dL_law_672 (pc' := 673) rfl rfl rfl ?_
      refine z_aload_n C dL_law_673 (pc' := 674) rfl rfl rfl ?_
      refine z_iload_n C dL_law_674 (pc' := 675) rfl rfl rfl ?_
      refine z_iconst C dL_law_675 (pc' := 676) rfl (v := 1) (by decide) ?_
      refine z_iadd C dL_law_676 (pc' := 677) rfl (nI_add (4 * t) 1) ?_
      refine g_sld C hX hbl hbA rfl (by omega) (by omega) dL_law_677 (pc' := 678) rfl ?_
      refine g_callI C hKC (fun u => HB D cA cB aC aR u τ) (m_X4_bar l hIC σ  _) hAC (fun H h => h.1) (HB_C hdis) aw_418 aw_419 aw_420 aw_27 aw_421 (by decide) kC_0 rfl (nA := 1) (by decide +kernel) rfl ⟨Nat.le_of_ble_eq_true rfl, Nat.le_of_ble_eq_true rfl⟩ (rest := []) rfl (Nat.le_of_ble_eq_true rfl) ⟨hkc, hks⟩ dL_law_678 (pc' := 681) rfl (fun r1 u1 h1 => ?_)
      refine z_aload_n C dL_law_681 (pc' := 682) rfl rfl rfl ?_
      refine z_aload_n C dL_law_682 (pc' := 683) rfl rfl rfl ?_
      refine z_iload_n C dL_law_683 (pc' := 684) rfl rfl rfl ?_
      refine z_iconst C dL_law_684 (pc' := 685) rfl (v := 1) (by decide) ?_
      refine z_iadd C dL_law_685 (pc' := 686) rfl (nI_add (4 * t) 1) ?_
      refine g_sld C hX hbl hbA rfl (by omega) (by omega) dL_law_686 (pc' := 687) rfl ?_
      refine g_callI C hKR (fun u => HB D cA cB aC aR u1 u) (m_X5_bar l hIR τ  _) hAR (fun H h => h.2) (HB_R hdis) aw_650 aw_651 aw_652 aw_32 aw_653 (by decide) kR_0 rfl (nA := 1) (by decide +kernel) rfl ⟨Nat.le_of_ble_eq_true rfl, Nat.le_of_ble_eq_true rfl⟩ (rest := [.int r1]) rfl (Nat.le_of_ble_eq_true rfl) ⟨hkc, hks⟩ dL_law_687 (pc' := 690) rfl (fun r2 u2 h2 => ?_)
      obtain ⟨hr, hR2⟩ := st_bar hR  _ h1 h2 (by omega)
      refine z_icmp_eq (tgt := 801) C dL_law_690 (pc' := 693) (by decide) rfl (fun _ => ?_) (fun q => absurd hr q)
      exact hend u1 u2 hR2
    ·
      refine z_tin C dL_law_32 (by decide) (by decide) (off := 663) (by decide) (pc' := 695) (by decide) ?_
      refine z_aload_n C dL_law_695 (pc' := 696) rfl rfl rfl ?_
      refine z_aload_n C dL_law_696 (pc' := 697) rfl rfl rfl ?_
      refine z_iload_n C dL_law_697 (pc' := 698) rfl rfl rfl ?_
      refine z_iconst C dL_law_698 (pc' := 699) rfl (v := 1) (by decide) ?_
      refine z_iadd C dL_law_699 (pc' := 700) rfl (nI_add (4 * t) 1) ?_
      refine g_sld C hX hbl hbA rfl (by omega) (by omega) dL_law_700 (pc' := 701) rfl ?_
      refine g_callI C hKC (fun u => HB D cA cB aC aR u τ) (m_X4_flat l hIC σ hR.okB _) hAC (fun H h => h.1) (HB_C hdis) aw_422 aw_423 aw_424 aw_27 aw_425 (by decide) kC_0 rfl (nA := 1) (by decide +kernel) rfl ⟨Nat.le_of_ble_eq_true rfl, Nat.le_of_ble_eq_true rfl⟩ (rest := []) rfl (Nat.le_of_ble_eq_true rfl) ⟨hkc, hks⟩ dL_law_701 (pc' := 704) rfl (fun r1 u1 h1 => ?_)
      refine z_aload_n C dL_law_704 (pc' := 705) rfl rfl rfl ?_
      refine z_aload_n C dL_law_705 (pc' := 706) rfl rfl rfl ?_
      refine z_iload_n C dL_law_706 (pc' := 707) rfl rfl rfl ?_
      refine z_iconst C dL_law_707 (pc' := 708) rfl (v := 1) (by decide) ?_
      refine z_iadd C dL_law_708 (pc' := 709) rfl (nI_add (4 * t) 1) ?_
      refine g_sld C hX hbl hbA rfl (by omega) (by omega) dL_law_709 (pc' := 710) rfl ?_
      refine g_callI C hKR (fun u => HB D cA cB aC aR u1 u) (m_X5_flat l hIR τ hR.okP _) hAR (fun H h => h.2) (HB_R hdis) aw_654 aw_655 aw_656 aw_32 aw_657 (by decide) kR_0 rfl (nA := 1) (by decide +kernel) rfl ⟨Nat.le_of_ble_eq_true rfl, Nat.le_of_ble_eq_true rfl⟩ (rest := [.int r1]) rfl (Nat.le_of_ble_eq_true rfl) ⟨hkc, hks⟩ dL_law_710 (pc' := 713) rfl (fun r2 u2 h2 => ?_)
      obtain ⟨hr, hR2⟩ := st_flat hR  _ h1 h2 (by omega)
      refine z_icmp_eq (tgt := 801) C dL_law_713 (pc' := 716) (by decide) rfl (fun _ => ?_) (fun q => absurd hr q)
      exact hend u1 u2 hR2
    ·
      refine z_tin C dL_law_32 (by decide) (by decide) (off := 686) (by decide) (pc' := 718) (by decide) ?_
      refine z_aload_n C dL_law_718 (pc' := 719) rfl rfl rfl ?_
      refine z_aload_n C dL_law_719 (pc' := 720) rfl rfl rfl ?_
      refine z_iload_n C dL_law_720 (pc' := 721) rfl rfl rfl ?_
      refine z_iconst C dL_law_721 (pc' := 722) rfl (v := 1) (by decide) ?_
      refine z_iadd C dL_law_722 (pc' := 723) rfl (nI_add (4 * t) 1) ?_
      refine g_sld C hX hbl hbA rfl (by omega) (by omega) dL_law_723 (pc' := 724) rfl ?_
      refine g_callI C hKC (fun u => HB D cA cB aC aR u τ) (m_X4_look l hIC σ  _) hAC (fun H h => h.1) (HB_C hdis) aw_426 aw_427 aw_428 aw_27 aw_429 (by decide) kC_0 rfl (nA := 1) (by decide +kernel) rfl ⟨Nat.le_of_ble_eq_true rfl, Nat.le_of_ble_eq_true rfl⟩ (rest := []) rfl (Nat.le_of_ble_eq_true rfl) ⟨hkc, hks⟩ dL_law_724 (pc' := 727) rfl (fun r1 u1 h1 => ?_)
      refine z_aload_n C dL_law_727 (pc' := 728) rfl rfl rfl ?_
      refine z_aload_n C dL_law_728 (pc' := 729) rfl rfl rfl ?_
      refine z_iload_n C dL_law_729 (pc' := 730) rfl rfl rfl ?_
      refine z_iconst C dL_law_730 (pc' := 731) rfl (v := 1) (by decide) ?_
      refine z_iadd C dL_law_731 (pc' := 732) rfl (nI_add (4 * t) 1) ?_
      refine g_sld C hX hbl hbA rfl (by omega) (by omega) dL_law_732 (pc' := 733) rfl ?_
      refine g_callI C hKR (fun u => HB D cA cB aC aR u1 u) (m_X5_look l hIR τ  _) hAR (fun H h => h.2) (HB_R hdis) aw_658 aw_659 aw_660 aw_32 aw_661 (by decide) kR_0 rfl (nA := 1) (by decide +kernel) rfl ⟨Nat.le_of_ble_eq_true rfl, Nat.le_of_ble_eq_true rfl⟩ (rest := [.int r1]) rfl (Nat.le_of_ble_eq_true rfl) ⟨hkc, hks⟩ dL_law_733 (pc' := 736) rfl (fun r2 u2 h2 => ?_)
      obtain ⟨hr, hR2⟩ := st_look hR  _ h1 h2 (by omega)
      refine z_icmp_eq (tgt := 801) C dL_law_736 (pc' := 739) (by decide) rfl (fun _ => ?_) (fun q => absurd hr q)
      exact hend u1 u2 hR2
    ·
      refine z_tin C dL_law_32 (by decide) (by decide) (off := 709) (by decide) (pc' := 741) (by decide) ?_
      refine z_aload_n C dL_law_741 (pc' := 742) rfl rfl rfl ?_
      refine z_aload_n C dL_law_742 (pc' := 743) rfl rfl rfl ?_
      refine z_iload_n C dL_law_743 (pc' := 744) rfl rfl rfl ?_
      refine z_iconst C dL_law_744 (pc' := 745) rfl (v := 1) (by decide) ?_
      refine z_iadd C dL_law_745 (pc' := 746) rfl (nI_add (4 * t) 1) ?_
      refine g_sld C hX hbl hbA rfl (by omega) (by omega) dL_law_746 (pc' := 747) rfl ?_
      refine g_callI C hKC (fun u => HB D cA cB aC aR u τ) (m_X4_due l hIC σ  _) hAC (fun H h => h.1) (HB_C hdis) aw_430 aw_431 aw_432 aw_27 aw_433 (by decide) kC_0 rfl (nA := 1) (by decide +kernel) rfl ⟨Nat.le_of_ble_eq_true rfl, Nat.le_of_ble_eq_true rfl⟩ (rest := []) rfl (Nat.le_of_ble_eq_true rfl) ⟨hkc, hks⟩ dL_law_747 (pc' := 750) rfl (fun r1 u1 h1 => ?_)
      refine z_aload_n C dL_law_750 (pc' := 751) rfl rfl rfl ?_
      refine z_aload_n C dL_law_751 (pc' := 752) rfl rfl rfl ?_
      refine z_iload_n C dL_law_752 (pc' := 753) rfl rfl rfl ?_
      refine z_iconst C dL_law_753 (pc' := 754) rfl (v := 1) (by decide) ?_
      refine z_iadd C dL_law_754 (pc' := 755) rfl (nI_add (4 * t) 1) ?_
      refine g_sld C hX hbl hbA rfl (by omega) (by omega) dL_law_755 (pc' := 756) rfl ?_
      refine g_callI C hKR (fun u => HB D cA cB aC aR u1 u) (m_X5_due l hIR τ  _) hAR (fun H h => h.2) (HB_R hdis) aw_662 aw_663 aw_664 aw_32 aw_665 (by decide) kR_0 rfl (nA := 1) (by decide +kernel) rfl ⟨Nat.le_of_ble_eq_true rfl, Nat.le_of_ble_eq_true rfl⟩ (rest := [.int r1]) rfl (Nat.le_of_ble_eq_true rfl) ⟨hkc, hks⟩ dL_law_756 (pc' := 759) rfl (fun r2 u2 h2 => ?_)
      obtain ⟨hr, hR2⟩ := st_due hR  _ h1 h2 (by omega)
      refine z_icmp_eq (tgt := 801) C dL_law_759 (pc' := 762) (by decide) rfl (fun _ => ?_) (fun q => absurd hr q)
      exact hend u1 u2 hR2
    ·
      refine z_tin C dL_law_32 (by decide) (by decide) (off := 732) (by decide) (pc' := 764) (by decide) ?_
      refine z_aload_n C dL_law_764 (pc' := 765) rfl rfl rfl ?_
      refine z_aload_n C dL_law_765 (pc' := 766) rfl rfl rfl ?_
      refine z_iload_n C dL_law_766 (pc' := 767) rfl rfl rfl ?_
      refine z_iconst C dL_law_767 (pc' := 768) rfl (v := 1) (by decide) ?_
      refine z_iadd C dL_law_768 (pc' := 769) rfl (nI_add (4 * t) 1) ?_
      refine g_sld C hX hbl hbA rfl (by omega) (by omega) dL_law_769 (pc' := 770) rfl ?_
      refine g_callI C hKC (fun u => HB D cA cB aC aR u τ) (m_X4_count l hIC σ hR.okB _) hAC (fun H h => h.1) (HB_C hdis) aw_434 aw_435 aw_436 aw_27 aw_437 (by decide) kC_0 rfl (nA := 1) (by decide +kernel) rfl ⟨Nat.le_of_ble_eq_true rfl, Nat.le_of_ble_eq_true rfl⟩ (rest := []) rfl (Nat.le_of_ble_eq_true rfl) ⟨hkc, hks⟩ dL_law_770 (pc' := 773) rfl (fun r1 u1 h1 => ?_)
      refine z_aload_n C dL_law_773 (pc' := 774) rfl rfl rfl ?_
      refine z_aload_n C dL_law_774 (pc' := 775) rfl rfl rfl ?_
      refine z_iload_n C dL_law_775 (pc' := 776) rfl rfl rfl ?_
      refine z_iconst C dL_law_776 (pc' := 777) rfl (v := 1) (by decide) ?_
      refine z_iadd C dL_law_777 (pc' := 778) rfl (nI_add (4 * t) 1) ?_
      refine g_sld C hX hbl hbA rfl (by omega) (by omega) dL_law_778 (pc' := 779) rfl ?_
      refine g_callI C hKR (fun u => HB D cA cB aC aR u1 u) (m_X5_count l hIR τ hR.okP _) hAR (fun H h => h.2) (HB_R hdis) aw_666 aw_667 aw_668 aw_32 aw_669 (by decide) kR_0 rfl (nA := 1) (by decide +kernel) rfl ⟨Nat.le_of_ble_eq_true rfl, Nat.le_of_ble_eq_true rfl⟩ (rest := [.int r1]) rfl (Nat.le_of_ble_eq_true rfl) ⟨hkc, hks⟩ dL_law_779 (pc' := 782) rfl (fun r2 u2 h2 => ?_)
      obtain ⟨hr, hR2⟩ := st_count hR  _ h1 h2 (by omega)
      refine z_icmp_eq (tgt := 801) C dL_law_782 (pc' := 785) (by decide) rfl (fun _ => ?_) (fun q => absurd hr q)
      exact hend u1 u2 hR2
    ·
      refine z_tin C dL_law_32 (by decide) (by decide) (off := 755) (by decide) (pc' := 787) (by decide) ?_
      refine z_aload_n C dL_law_787 (pc' := 788) rfl rfl rfl ?_
      refine g_callL C hKC (fun u => HB D cA cB aC aR u τ) (m_X4_trace l hIC σ ) hAC (fun H h => h.1) (HB_C hdis) aw_442 aw_443 aw_444 aw_27 aw_445 (by decide) kC_0 rfl (nA := 0) (by decide +kernel) rfl ⟨Nat.le_of_ble_eq_true rfl, Nat.le_of_ble_eq_true rfl⟩ (rest := []) rfl (Nat.le_of_ble_eq_true rfl) ⟨hkc, hks⟩ dL_law_788 (pc' := 791) rfl (fun r1 u1 h1 => ?_)
      refine z_aload_n C dL_law_791 (pc' := 792) rfl rfl rfl ?_
      refine g_callL C hKR (fun u => HB D cA cB aC aR u1 u) (m_X5_trace l hIR τ ) hAR (fun H h => h.2) (HB_R hdis) aw_670 aw_671 aw_672 aw_32 aw_673 (by decide) kR_0 rfl (nA := 0) (by decide +kernel) rfl ⟨Nat.le_of_ble_eq_true rfl, Nat.le_of_ble_eq_true rfl⟩ (rest := [.long r1]) rfl (Nat.le_of_ble_eq_true rfl) ⟨hkc, hks⟩ dL_law_792 (pc' := 795) rfl (fun r2 u2 h2 => ?_)
      obtain ⟨hr, hR2⟩ := st_trace hR  h1 h2 (by omega)
      refine z_lcmp C dL_law_795 (pc' := 796) rfl ?_
      refine z_if_eq (tgt := 801) C dL_law_796 (pc' := 799) (by decide) rfl (fun _ => ?_) (fun q => absurd (by rw [hr]; exact lcmp_self r2) q)
      exact hend u1 u2 hR2
    ·
      refine z_tout C dL_law_32 (by decide) (pc' := 801) (by decide) ?_
      exact hend σ τ (rb_skip hR (by omega))
    ·
      refine z_tout C dL_law_32 (by decide) (pc' := 801) (by decide) ?_
      exact hend σ τ (rb_skip hR (by omega))
    ·
      refine z_tout C dL_law_32 (by decide) (pc' := 801) (by decide) ?_
      exact hend σ τ (rb_skip hR (by omega))
    ·
      refine z_tout C dL_law_32 (by decide) (pc' := 801) (by decide) ?_
      exact hend σ τ (rb_skip hR (by omega))
    ·
      refine z_tout C dL_law_32 (by decide) (pc' := 801) (by decide) ?_
      exact hend σ τ (rb_skip hR (by omega))
    ·
      refine z_tout C dL_law_32 (by decide) (pc' := 801) (by decide) ?_
      exact hend σ τ (rb_skip hR (by omega))


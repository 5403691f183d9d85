/-! THE LAW: what holds between its calls, and its cases -/
def INV (E : Et) (V : Vt) : Prop := ∃ (n gc tc sc tl ec m fr : Nat) (D on sn ti tx : Nat → Nat → Nat) (yb gl tn tbb es : Nat → Nat), WE E n gc tc ∧ IP E V n D on sn ∧ IS V n D on ∧ IE V n ec es ∧ IC V m fr yb ∧ IL V n m D ti ∧ IT V tl tbb ∧ IX E V tc tn tx ∧ IG E V gc tc gl ∧ IU E V sc tc ∧ tc ≤ gc + sc
def invIds : List Nat := ipIds ++ (cfIds ++ (ieIds ++ (icIds ++ [307, 1023, 700, 703, 1030, 1031, 800, 1032, 1033, 1034, 200, 202, 909, 1038, 1039, 1040, 1041, 907, 910, 1042, 1043, 1044])))
theorem INV.of {E : Et} {V V' : Vt} {S : List Nat} (h : INV E V) (hO : Of S V V') (hS : ∀ f, f ∈ invIds → f ∉ S) : INV E V' := by
  obtain ⟨n, gc, tc, sc, tl, ec, m, fr, D, on, sn, ti, tx, yb, gl, tn, tbb, es, hW, hI, hS', hX, hC, hL, hT, hTx, hG, hU, htc⟩ := h
  have a1 : ∀ f, f ∈ ipIds → f ∈ invIds := fun f hf => List.mem_append_left _ hf
  have a2 : ∀ f, f ∈ cfIds → f ∈ invIds := fun f hf => List.mem_append_right _ (List.mem_append_left _ hf)
  have a3 : ∀ f, f ∈ ieIds → f ∈ invIds := fun f hf => List.mem_append_right _ (List.mem_append_right _ (List.mem_append_left _ hf))
  have a4 : ∀ f, f ∈ icIds → f ∈ invIds := fun f hf => List.mem_append_right _ (List.mem_append_right _ (List.mem_append_right _ (List.mem_append_left _ hf)))
  refine ⟨n, gc, tc, sc, tl, ec, m, fr, D, on, sn, ti, tx, yb, gl, tn, tbb, es, hW, hI.of hO (fun f hf => hS f (a1 f hf)), hS'.of hO (fun f hf => hS f (a2 f hf)), hX.of hO (fun f hf => hS f (a3 f hf)), hC.of hO (fun f hf => hS f (a4 f hf)), hL.of hO (hS _ (by decide)) (hS _ (by decide)) rfl, hT.of hO (fun f hf => hS f ((show ∀ f, f ∈ ([700, 703, 1030, 1031] : List Nat) → f ∈ invIds by decide) f hf)), hTx.of hO (fun f hf => hS f ((show ∀ f, f ∈ ([800, 1032, 1033, 1034] : List Nat) → f ∈ invIds by decide) f hf)), hG.of hO (fun f hf => hS f ((show ∀ f, f ∈ ([200, 202, 909, 1038, 1039, 1040, 1041] : List Nat) → f ∈ invIds by decide) f hf)), hU.of hO (fun f hf => hS f ((show ∀ f, f ∈ ([907, 910, 1042, 1043, 1044] : List Nat) → f ∈ invIds by decide) f hf)), htc⟩
abbrev LLo (bs a8 a9 t : Nat) : List (Nat × Value) := [(0, .ref bs), (1, .ref a8), (2, .ref a9), (3, .int (nI (6 * t)))]
section Cases
variable {l : Launch} {G : Gt} {bs Ls : Nat} {xs : Nat → Int32} {E : Et} {k n : Nat} {V : Vt} {pc a8 a9 t : Nat} {st : List Value} {Q : Option Value → Et → Vt → Prop}
theorem l_arg {j : Nat} {z : Int} (h0 : decode cL_law pc = .ok (.aload_n 0, 1)) (h1 : decode cL_law (pc + 1) = .ok (.iload_n 3, 1)) (h2 : decode cL_law (pc + 1 + 1) = .ok (.iconst z, 1)) (hz : Int32.ofInt z = nI j) (h3 : decode cL_law (pc + 1 + 1 + 1) = .ok (.iadd, 1)) (h4 : decode cL_law (pc + 1 + 1 + 1 + 1) = .ok (.iaload, 1)) (hj : j < 6) (hb : 6 * t + 6 ≤ Ls) (hL : Ls ≤ 3072) (kk : EvL l G bs Ls xs E k n V (pc + 5) (LLo bs a8 a9 t) (.int (xs (6 * t + j)) :: st) Q) : EvL l G bs Ls xs E k n V pc (LLo bs a8 a9 t) st Q := by
  refine l_aload_n (v := .ref bs) h0 rfl (rl_ref _) ?_
  refine l_iload_n (x := nI (6 * t)) h1 rfl ?_
  refine l_iconst h2 hz ?_
  refine l_iadd h3 ?_
  rw [nI_add]
  refine l_sld h4 (inI (by omega) (by omega)) ?_
  rw [cl (by omega)]
  exact kk
theorem l_cVi {idx ci i na nY : Nat} {ll : List (Nat × Value)} {y : MethodName} {cy : ByteArray} {ry : Option FieldType} {rY : Room} {As rest : List Value} {K : Int32 → Vt → Prop} (hd : decode cL_law pc = .ok (.invokevirtual idx, 3)) (hm : MV y cy nY ry na) (hlink : Cond.methodLink RL idx y ∈ tb) (hcl : ∃ T N, cls[ci]? = some (y.cls, T, N)) (hlv : eL E ci i) (hrm : rY.frames + 1 ≤ room_1.frames ∧ 8 + (nY + 11) + rY.locals ≤ room_1.locals) (hcs : k + rY.cells ≤ room_1.cells ∧ n + rY.slots ≤ room_1.slots) (hna : As.length = na) (hst : st = As.reverse ++ .ref (eA E ci i) :: rest) (hcat : (rest.map fun v => v.category).sum ≤ 8)
    (hC : Cl l G y cy nY ry rY E V (.ref (eA E ci i) :: As) (Qi E K)) (kk : ∀ x V', K x V' → EvL l G bs Ls xs E (k + rY.cells) (n + rY.slots) V' (pc + 3) ll (.int x :: rest) Q) : EvL l G bs Ls xs E k n V pc ll st Q := by
  refine l_callV hd hm hlink hcl hlv hrm hcs hna hst hcat hC (fun r E' V' hq => ?_)
  obtain ⟨rfl, x, rfl, hk⟩ := hq
  exact kk x V' hk
theorem l_cVe {idx ci i na nY : Nat} {ll : List (Nat × Value)} {y : MethodName} {cy : ByteArray} {ry : Option FieldType} {rY : Room} {As rest : List Value} {K : Int32 → Et → Vt → Prop} (hd : decode cL_law pc = .ok (.invokevirtual idx, 3)) (hm : MV y cy nY ry na) (hlink : Cond.methodLink RL idx y ∈ tb) (hcl : ∃ T N, cls[ci]? = some (y.cls, T, N)) (hlv : eL E ci i) (hrm : rY.frames + 1 ≤ room_1.frames ∧ 8 + (nY + 11) + rY.locals ≤ room_1.locals) (hcs : k + rY.cells ≤ room_1.cells ∧ n + rY.slots ≤ room_1.slots) (hna : As.length = na) (hst : st = As.reverse ++ .ref (eA E ci i) :: rest) (hcat : (rest.map fun v => v.category).sum ≤ 8)
    (hC : Cl l G y cy nY ry rY E V (.ref (eA E ci i) :: As) (Qe K)) (kk : ∀ x E' V', K x E' V' → EvL l G bs Ls xs E' (k + rY.cells) (n + rY.slots) V' (pc + 3) ll (.int x :: rest) Q) : EvL l G bs Ls xs E k n V pc ll st Q := by
  refine l_callV hd hm hlink hcl hlv hrm hcs hna hst hcat hC (fun r E' V' hq => ?_)
  obtain ⟨x, rfl, hk⟩ := hq
  exact kk x E' V' hk

theorem la_part (hV : INV E V) (h8 : eA E 8 0 = a8) (h9 : eA E 9 0 = a9) (hk : k ≤ 5000) (hn : n ≤ 200000) (hb : 6 * t + 6 ≤ Ls) (hL3 : Ls ≤ 3072) (hN : ∀ E2 V2, INV E2 V2 → eA E2 8 0 = a8 → eA E2 9 0 = a9 → EvL l G bs Ls xs E2 (k + 5) (n + 104) V2 950 (LLo bs a8 a9 t) [] Q) : EvL l G bs Ls xs E k n V 152 (LLo bs a8 a9 t) [] Q := by
  obtain ⟨n0, gc, tc, sc, tl, ec, m, fr, D, on, sn, ti, tx, yb, gl, tn, tbb, es, hW, hI, hS, hX, hC, hL, hT, hTx, hG, hU, htc⟩ := And.intro True.intro hV |>.2
  have hE := hW.1
  refine l_aload_n (v := .ref a8) dL_law_152 rfl (rl_ref _) ?_
  refine l_arg (j := 1) dL_law_153 dL_law_154 dL_law_155 rfl dL_law_156 dL_law_157 (by decide) hb hL3 ?_
  refine l_arg (j := 2) dL_law_158 dL_law_159 dL_law_160 rfl dL_law_161 dL_law_162 (by decide) hb hL3 ?_
  refine l_arg (j := 3) dL_law_163 dL_law_164 dL_law_165 rfl dL_law_166 dL_law_167 (by decide) hb hL3 ?_
  refine l_cVe (ci := 8) (i := 0) (rY := rm_X8_part) (As := [.int (xs (6 * t + 1)), .int (xs (6 * t + 2)), .int (xs (6 * t + 3))]) (rest := []) dL_law_168 mv_X8_part ml_RL_13 ⟨_, _, rfl⟩ (hE.1 8 (by decide)) ⟨Nat.le_of_ble_eq_true rfl, Nat.le_of_ble_eq_true rfl⟩ ⟨by show k + 5 ≤ 600000; omega, by show n + 56 ≤ 7302250; omega⟩ rfl (by rw [h8]; try rfl) (Nat.le_of_ble_eq_true rfl) (bo_part (K := fun r r2 E2 V2 => r = r2 ∧ INV E2 V2) hW hI hS hX hC hL hTx hG hU (fun r => ⟨rfl, hV⟩) (fun r E2 V2 D2 on2 sn2 w a b c d e f g hO => ⟨rfl, n0 + 1, gc, tc, sc, tl, ec, m, fr, D2, on2, sn2, ti, tx, yb, gl, tn, tbb, es, w, a, b, c, hC.of hO (by decide), d, hT.of hO (by decide), e, f, g, htc⟩)) (fun r0 E1 V1 hq => ?_)
  obtain ⟨⟨e8, e9, eL1⟩, hC9⟩ := hq
  have hE1 : eL E1 9 0 := eL1 (hE.1 9 (by decide))
  refine l_aload_n (v := .ref a9) dL_law_171 rfl (rl_ref _) ?_
  refine l_arg (j := 1) dL_law_172 dL_law_173 dL_law_174 rfl dL_law_175 dL_law_176 (by decide) hb hL3 ?_
  refine l_arg (j := 2) dL_law_177 dL_law_178 dL_law_179 rfl dL_law_180 dL_law_181 (by decide) hb hL3 ?_
  refine l_arg (j := 3) dL_law_182 dL_law_183 dL_law_184 rfl dL_law_185 dL_law_186 (by decide) hb hL3 ?_
  refine l_cVi (ci := 9) (i := 0) (rY := rm_X9_part) (As := [.int (xs (6 * t + 1)), .int (xs (6 * t + 2)), .int (xs (6 * t + 3))]) (rest := [.int r0]) dL_law_187 mv_X9_part ml_RL_17 ⟨_, _, rfl⟩ hE1 ⟨Nat.le_of_ble_eq_true rfl, Nat.le_of_ble_eq_true rfl⟩ ⟨by show k + 5 + 0 ≤ 600000; omega, by show n + 56 + 0 ≤ 7302250; omega⟩ rfl (by rw [e9, h9]; try rfl) (Nat.le_of_ble_eq_true rfl) hC9 (fun r1 V2 hq => ?_)
  obtain ⟨rfl, hV2⟩ := hq
  refine l_icmp_eq 950 dL_law_190 (by decide) (fun _ => ?_) (fun z => absurd rfl z)
  exact l_widen (by show k + 5 + 0 ≤ k + 5; omega) (by show n + 56 + 0 ≤ n + 104; omega) (hN E1 V2 hV2 (e8.trans h8) (e9.trans h9))
theorem la_arch (hV : INV E V) (h8 : eA E 8 0 = a8) (h9 : eA E 9 0 = a9) (hk : k ≤ 5000) (hn : n ≤ 200000) (hb : 6 * t + 6 ≤ Ls) (hL3 : Ls ≤ 3072) (hN : ∀ E2 V2, INV E2 V2 → eA E2 8 0 = a8 → eA E2 9 0 = a9 → EvL l G bs Ls xs E2 (k + 5) (n + 104) V2 950 (LLo bs a8 a9 t) [] Q) : EvL l G bs Ls xs E k n V 195 (LLo bs a8 a9 t) [] Q := by
  obtain ⟨n0, gc, tc, sc, tl, ec, m, fr, D, on, sn, ti, tx, yb, gl, tn, tbb, es, hW, hI, hS, hX, hC, hL, hT, hTx, hG, hU, htc⟩ := And.intro True.intro hV |>.2
  have hE := hW.1
  refine l_aload_n (v := .ref a8) dL_law_195 rfl (rl_ref _) ?_
  refine l_arg (j := 1) dL_law_196 dL_law_197 dL_law_198 rfl dL_law_199 dL_law_200 (by decide) hb hL3 ?_
  refine l_arg (j := 2) dL_law_201 dL_law_202 dL_law_203 rfl dL_law_204 dL_law_205 (by decide) hb hL3 ?_
  refine l_arg (j := 3) dL_law_206 dL_law_207 dL_law_208 rfl dL_law_209 dL_law_210 (by decide) hb hL3 ?_
  refine l_arg (j := 4) dL_law_211 dL_law_212 dL_law_213 rfl dL_law_214 dL_law_215 (by decide) hb hL3 ?_
  refine l_arg (j := 5) dL_law_216 dL_law_217 dL_law_218 rfl dL_law_219 dL_law_220 (by decide) hb hL3 ?_
  refine l_cVe (ci := 8) (i := 0) (rY := rm_X8_arch) (As := [.int (xs (6 * t + 1)), .int (xs (6 * t + 2)), .int (xs (6 * t + 3)), .int (xs (6 * t + 4)), .int (xs (6 * t + 5))]) (rest := []) dL_law_221 mv_X8_arch ml_RL_18 ⟨_, _, rfl⟩ (hE.1 8 (by decide)) ⟨Nat.le_of_ble_eq_true rfl, Nat.le_of_ble_eq_true rfl⟩ ⟨by show k + 5 ≤ 600000; omega, by show n + 56 ≤ 7302250; omega⟩ rfl (by rw [h8]; try rfl) (Nat.le_of_ble_eq_true rfl) (bo_arch (K := fun r r2 E2 V2 => r = r2 ∧ INV E2 V2) hW hI hS hX hC hL hTx hG hU (fun r => ⟨rfl, hV⟩) (fun r E2 V2 D2 on2 sn2 w a b c d e f g hO => ⟨rfl, n0 + 1, gc, tc, sc, tl, ec, m, fr, D2, on2, sn2, ti, tx, yb, gl, tn, tbb, es, w, a, b, c, hC.of hO (by decide), d, hT.of hO (by decide), e, f, g, htc⟩)) (fun r0 E1 V1 hq => ?_)
  obtain ⟨⟨e8, e9, eL1⟩, hC9⟩ := hq
  have hE1 : eL E1 9 0 := eL1 (hE.1 9 (by decide))
  refine l_aload_n (v := .ref a9) dL_law_224 rfl (rl_ref _) ?_
  refine l_arg (j := 1) dL_law_225 dL_law_226 dL_law_227 rfl dL_law_228 dL_law_229 (by decide) hb hL3 ?_
  refine l_arg (j := 2) dL_law_230 dL_law_231 dL_law_232 rfl dL_law_233 dL_law_234 (by decide) hb hL3 ?_
  refine l_arg (j := 3) dL_law_235 dL_law_236 dL_law_237 rfl dL_law_238 dL_law_239 (by decide) hb hL3 ?_
  refine l_arg (j := 4) dL_law_240 dL_law_241 dL_law_242 rfl dL_law_243 dL_law_244 (by decide) hb hL3 ?_
  refine l_arg (j := 5) dL_law_245 dL_law_246 dL_law_247 rfl dL_law_248 dL_law_249 (by decide) hb hL3 ?_
  refine l_cVi (ci := 9) (i := 0) (rY := rm_X9_arch) (As := [.int (xs (6 * t + 1)), .int (xs (6 * t + 2)), .int (xs (6 * t + 3)), .int (xs (6 * t + 4)), .int (xs (6 * t + 5))]) (rest := [.int r0]) dL_law_250 mv_X9_arch ml_RL_22 ⟨_, _, rfl⟩ hE1 ⟨Nat.le_of_ble_eq_true rfl, Nat.le_of_ble_eq_true rfl⟩ ⟨by show k + 5 + 0 ≤ 600000; omega, by show n + 56 + 0 ≤ 7302250; omega⟩ rfl (by rw [e9, h9]; try rfl) (Nat.le_of_ble_eq_true rfl) hC9 (fun r1 V2 hq => ?_)
  obtain ⟨rfl, hV2⟩ := hq
  refine l_icmp_eq 950 dL_law_253 (by decide) (fun _ => ?_) (fun z => absurd rfl z)
  exact l_widen (by show k + 5 + 0 ≤ k + 5; omega) (by show n + 56 + 0 ≤ n + 104; omega) (hN E1 V2 hV2 (e8.trans h8) (e9.trans h9))
theorem la_bear (hV : INV E V) (h8 : eA E 8 0 = a8) (h9 : eA E 9 0 = a9) (hk : k ≤ 5000) (hn : n ≤ 200000) (hb : 6 * t + 6 ≤ Ls) (hL3 : Ls ≤ 3072) (hN : ∀ E2 V2, INV E2 V2 → eA E2 8 0 = a8 → eA E2 9 0 = a9 → EvL l G bs Ls xs E2 (k + 5) (n + 104) V2 950 (LLo bs a8 a9 t) [] Q) : EvL l G bs Ls xs E k n V 258 (LLo bs a8 a9 t) [] Q := by
  obtain ⟨n0, gc, tc, sc, tl, ec, m, fr, D, on, sn, ti, tx, yb, gl, tn, tbb, es, hW, hI, hS, hX, hC, hL, hT, hTx, hG, hU, htc⟩ := And.intro True.intro hV |>.2
  have hE := hW.1
  refine l_aload_n (v := .ref a8) dL_law_258 rfl (rl_ref _) ?_
  refine l_arg (j := 1) dL_law_259 dL_law_260 dL_law_261 rfl dL_law_262 dL_law_263 (by decide) hb hL3 ?_
  refine l_arg (j := 2) dL_law_264 dL_law_265 dL_law_266 rfl dL_law_267 dL_law_268 (by decide) hb hL3 ?_
  refine l_arg (j := 3) dL_law_269 dL_law_270 dL_law_271 rfl dL_law_272 dL_law_273 (by decide) hb hL3 ?_
  refine l_arg (j := 4) dL_law_274 dL_law_275 dL_law_276 rfl dL_law_277 dL_law_278 (by decide) hb hL3 ?_
  refine l_arg (j := 5) dL_law_279 dL_law_280 dL_law_281 rfl dL_law_282 dL_law_283 (by decide) hb hL3 ?_
  refine l_cVi (ci := 8) (i := 0) (rY := rm_X8_bear) (As := [.int (xs (6 * t + 1)), .int (xs (6 * t + 2)), .int (xs (6 * t + 3)), .int (xs (6 * t + 4)), .int (xs (6 * t + 5))]) (rest := []) dL_law_284 mv_X8_bear ml_RL_23 ⟨_, _, rfl⟩ (hE.1 8 (by decide)) ⟨Nat.le_of_ble_eq_true rfl, Nat.le_of_ble_eq_true rfl⟩ ⟨by show k + 0 ≤ 600000; omega, by show n + 0 ≤ 7302250; omega⟩ rfl (by rw [h8]; try rfl) (Nat.le_of_ble_eq_true rfl) (bo_bear (K := fun r r2 V2 => r = r2 ∧ INV E V2) hE hI hS hX (fun r V2 D2 on2 sn2 ec2 es2 a b c hO hD => ⟨rfl, n0, gc, tc, sc, tl, ec2, m, fr, D2, on2, sn2, ti, tx, yb, gl, tn, tbb, es2, hW, a, b, c, hC.of hO (by decide), hL.of hO (by decide) (by decide) (hD 4 (by decide)), hT.of hO (by decide), hTx.of hO (by decide), hG.of hO (by decide), hU.of hO (by decide), htc⟩)) (fun r0 V1 hC9 => ?_)
  refine l_aload_n (v := .ref a9) dL_law_287 rfl (rl_ref _) ?_
  refine l_arg (j := 1) dL_law_288 dL_law_289 dL_law_290 rfl dL_law_291 dL_law_292 (by decide) hb hL3 ?_
  refine l_arg (j := 2) dL_law_293 dL_law_294 dL_law_295 rfl dL_law_296 dL_law_297 (by decide) hb hL3 ?_
  refine l_arg (j := 3) dL_law_298 dL_law_299 dL_law_300 rfl dL_law_301 dL_law_302 (by decide) hb hL3 ?_
  refine l_arg (j := 4) dL_law_303 dL_law_304 dL_law_305 rfl dL_law_306 dL_law_307 (by decide) hb hL3 ?_
  refine l_arg (j := 5) dL_law_308 dL_law_309 dL_law_310 rfl dL_law_311 dL_law_312 (by decide) hb hL3 ?_
  refine l_cVi (ci := 9) (i := 0) (rY := rm_X9_bear) (As := [.int (xs (6 * t + 1)), .int (xs (6 * t + 2)), .int (xs (6 * t + 3)), .int (xs (6 * t + 4)), .int (xs (6 * t + 5))]) (rest := [.int r0]) dL_law_313 mv_X9_bear ml_RL_26 ⟨_, _, rfl⟩ (hE.1 9 (by decide)) ⟨Nat.le_of_ble_eq_true rfl, Nat.le_of_ble_eq_true rfl⟩ ⟨by show k + 0 + 0 ≤ 600000; omega, by show n + 0 + 0 ≤ 7302250; omega⟩ rfl (by rw [h9]; try rfl) (Nat.le_of_ble_eq_true rfl) hC9 (fun r1 V2 hq => ?_)
  obtain ⟨rfl, hV2⟩ := hq
  refine l_icmp_eq 950 dL_law_316 (by decide) (fun _ => ?_) (fun z => absurd rfl z)
  exact l_widen (by show k + 0 + 0 ≤ k + 5; omega) (by show n + 0 + 0 ≤ n + 104; omega) (hN E V2 hV2 h8 h9)
theorem la_edit (hV : INV E V) (h8 : eA E 8 0 = a8) (h9 : eA E 9 0 = a9) (hk : k ≤ 5000) (hn : n ≤ 200000) (hb : 6 * t + 6 ≤ Ls) (hL3 : Ls ≤ 3072) (hN : ∀ E2 V2, INV E2 V2 → eA E2 8 0 = a8 → eA E2 9 0 = a9 → EvL l G bs Ls xs E2 (k + 5) (n + 104) V2 950 (LLo bs a8 a9 t) [] Q) : EvL l G bs Ls xs E k n V 321 (LLo bs a8 a9 t) [] Q := by
  obtain ⟨n0, gc, tc, sc, tl, ec, m, fr, D, on, sn, ti, tx, yb, gl, tn, tbb, es, hW, hI, hS, hX, hC, hL, hT, hTx, hG, hU, htc⟩ := And.intro True.intro hV |>.2
  have hE := hW.1
  refine l_aload_n (v := .ref a8) dL_law_321 rfl (rl_ref _) ?_
  refine l_arg (j := 1) dL_law_322 dL_law_323 dL_law_324 rfl dL_law_325 dL_law_326 (by decide) hb hL3 ?_
  refine l_arg (j := 2) dL_law_327 dL_law_328 dL_law_329 rfl dL_law_330 dL_law_331 (by decide) hb hL3 ?_
  refine l_cVi (ci := 8) (i := 0) (rY := rm_X8_edit) (As := [.int (xs (6 * t + 1)), .int (xs (6 * t + 2))]) (rest := []) dL_law_332 mv_X8_edit ml_RL_27 ⟨_, _, rfl⟩ (hE.1 8 (by decide)) ⟨Nat.le_of_ble_eq_true rfl, Nat.le_of_ble_eq_true rfl⟩ ⟨by show k + 0 ≤ 600000; omega, by show n + 0 ≤ 7302250; omega⟩ rfl (by rw [h8]; try rfl) (Nat.le_of_ble_eq_true rfl) (bo_edit (K := fun r r2 V2 => r = r2 ∧ INV E V2) hE hI hS hX (fun r V2 D2 ec2 es2 a b c hO hD => ⟨rfl, n0, gc, tc, sc, tl, ec2, m, fr, D2, on, sn, ti, tx, yb, gl, tn, tbb, es2, hW, a, b, c, hC.of hO (by decide), hL.of hO (by decide) (by decide) (hD 4 (by decide)), hT.of hO (by decide), hTx.of hO (by decide), hG.of hO (by decide), hU.of hO (by decide), htc⟩)) (fun r0 V1 hC9 => ?_)
  refine l_aload_n (v := .ref a9) dL_law_335 rfl (rl_ref _) ?_
  refine l_arg (j := 1) dL_law_336 dL_law_337 dL_law_338 rfl dL_law_339 dL_law_340 (by decide) hb hL3 ?_
  refine l_arg (j := 2) dL_law_341 dL_law_342 dL_law_343 rfl dL_law_344 dL_law_345 (by decide) hb hL3 ?_
  refine l_cVi (ci := 9) (i := 0) (rY := rm_X9_edit) (As := [.int (xs (6 * t + 1)), .int (xs (6 * t + 2))]) (rest := [.int r0]) dL_law_346 mv_X9_edit ml_RL_31 ⟨_, _, rfl⟩ (hE.1 9 (by decide)) ⟨Nat.le_of_ble_eq_true rfl, Nat.le_of_ble_eq_true rfl⟩ ⟨by show k + 0 + 0 ≤ 600000; omega, by show n + 0 + 0 ≤ 7302250; omega⟩ rfl (by rw [h9]; try rfl) (Nat.le_of_ble_eq_true rfl) hC9 (fun r1 V2 hq => ?_)
  obtain ⟨rfl, hV2⟩ := hq
  refine l_icmp_eq 950 dL_law_349 (by decide) (fun _ => ?_) (fun z => absurd rfl z)
  exact l_widen (by show k + 0 + 0 ≤ k + 5; omega) (by show n + 0 + 0 ≤ n + 104; omega) (hN E V2 hV2 h8 h9)
theorem la_wanted (hV : INV E V) (h8 : eA E 8 0 = a8) (h9 : eA E 9 0 = a9) (hk : k ≤ 5000) (hn : n ≤ 200000) (hb : 6 * t + 6 ≤ Ls) (hL3 : Ls ≤ 3072) (hN : ∀ E2 V2, INV E2 V2 → eA E2 8 0 = a8 → eA E2 9 0 = a9 → EvL l G bs Ls xs E2 (k + 5) (n + 104) V2 950 (LLo bs a8 a9 t) [] Q) : EvL l G bs Ls xs E k n V 354 (LLo bs a8 a9 t) [] Q := by
  obtain ⟨n0, gc, tc, sc, tl, ec, m, fr, D, on, sn, ti, tx, yb, gl, tn, tbb, es, hW, hI, hS, hX, hC, hL, hT, hTx, hG, hU, htc⟩ := And.intro True.intro hV |>.2
  have hE := hW.1
  refine l_aload_n (v := .ref a8) dL_law_354 rfl (rl_ref _) ?_
  refine l_arg (j := 1) dL_law_355 dL_law_356 dL_law_357 rfl dL_law_358 dL_law_359 (by decide) hb hL3 ?_
  refine l_arg (j := 2) dL_law_360 dL_law_361 dL_law_362 rfl dL_law_363 dL_law_364 (by decide) hb hL3 ?_
  refine l_cVi (ci := 8) (i := 0) (rY := rm_X8_wanted) (As := [.int (xs (6 * t + 1)), .int (xs (6 * t + 2))]) (rest := []) dL_law_365 mv_X8_wanted ml_RL_32 ⟨_, _, rfl⟩ (hE.1 8 (by decide)) ⟨Nat.le_of_ble_eq_true rfl, Nat.le_of_ble_eq_true rfl⟩ ⟨by show k + 0 ≤ 600000; omega, by show n + 0 ≤ 7302250; omega⟩ rfl (by rw [h8]; try rfl) (Nat.le_of_ble_eq_true rfl) (bo_wanted (K := fun r r2 V2 => r = r2 ∧ INV E V2) hE hI hX (fun r => ⟨rfl, hV⟩)) (fun r0 V1 hC9 => ?_)
  refine l_aload_n (v := .ref a9) dL_law_368 rfl (rl_ref _) ?_
  refine l_arg (j := 1) dL_law_369 dL_law_370 dL_law_371 rfl dL_law_372 dL_law_373 (by decide) hb hL3 ?_
  refine l_arg (j := 2) dL_law_374 dL_law_375 dL_law_376 rfl dL_law_377 dL_law_378 (by decide) hb hL3 ?_
  refine l_cVi (ci := 9) (i := 0) (rY := rm_X9_wanted) (As := [.int (xs (6 * t + 1)), .int (xs (6 * t + 2))]) (rest := [.int r0]) dL_law_379 mv_X9_wanted ml_RL_35 ⟨_, _, rfl⟩ (hE.1 9 (by decide)) ⟨Nat.le_of_ble_eq_true rfl, Nat.le_of_ble_eq_true rfl⟩ ⟨by show k + 0 + 0 ≤ 600000; omega, by show n + 0 + 0 ≤ 7302250; omega⟩ rfl (by rw [h9]; try rfl) (Nat.le_of_ble_eq_true rfl) hC9 (fun r1 V2 hq => ?_)
  obtain ⟨rfl, hV2⟩ := hq
  refine l_icmp_eq 950 dL_law_382 (by decide) (fun _ => ?_) (fun z => absurd rfl z)
  exact l_widen (by show k + 0 + 0 ≤ k + 5; omega) (by show n + 0 + 0 ≤ n + 104; omega) (hN E V2 hV2 h8 h9)
theorem la_tell (hV : INV E V) (h8 : eA E 8 0 = a8) (h9 : eA E 9 0 = a9) (hk : k ≤ 5000) (hn : n ≤ 200000) (hb : 6 * t + 6 ≤ Ls) (hL3 : Ls ≤ 3072) (hN : ∀ E2 V2, INV E2 V2 → eA E2 8 0 = a8 → eA E2 9 0 = a9 → EvL l G bs Ls xs E2 (k + 5) (n + 104) V2 950 (LLo bs a8 a9 t) [] Q) : EvL l G bs Ls xs E k n V 387 (LLo bs a8 a9 t) [] Q := by
  obtain ⟨n0, gc, tc, sc, tl, ec, m, fr, D, on, sn, ti, tx, yb, gl, tn, tbb, es, hW, hI, hS, hX, hC, hL, hT, hTx, hG, hU, htc⟩ := And.intro True.intro hV |>.2
  have hE := hW.1
  refine l_aload_n (v := .ref a8) dL_law_387 rfl (rl_ref _) ?_
  refine l_arg (j := 1) dL_law_388 dL_law_389 dL_law_390 rfl dL_law_391 dL_law_392 (by decide) hb hL3 ?_
  refine l_arg (j := 2) dL_law_393 dL_law_394 dL_law_395 rfl dL_law_396 dL_law_397 (by decide) hb hL3 ?_
  refine l_arg (j := 3) dL_law_398 dL_law_399 dL_law_400 rfl dL_law_401 dL_law_402 (by decide) hb hL3 ?_
  refine l_cVi (ci := 8) (i := 0) (rY := rm_X8_tell) (As := [.int (xs (6 * t + 1)), .int (xs (6 * t + 2)), .int (xs (6 * t + 3))]) (rest := []) dL_law_403 mv_X8_tell ml_RL_36 ⟨_, _, rfl⟩ (hE.1 8 (by decide)) ⟨Nat.le_of_ble_eq_true rfl, Nat.le_of_ble_eq_true rfl⟩ ⟨by show k + 0 ≤ 600000; omega, by show n + 0 ≤ 7302250; omega⟩ rfl (by rw [h8]; try rfl) (Nat.le_of_ble_eq_true rfl) (bo_tell (K := fun r r2 V2 => r = r2 ∧ INV E V2) hE hI hS (fun r V2 D2 a b hO hD => ⟨rfl, n0, gc, tc, sc, tl, ec, m, fr, D2, on, sn, ti, tx, yb, gl, tn, tbb, es, hW, a, b, hX.of hO (by decide), hC.of hO (by decide), hL.of hO (by decide) (by decide) (hD 4 (by decide) (by decide)), hT.of hO (by decide), hTx.of hO (by decide), hG.of hO (by decide), hU.of hO (by decide), htc⟩)) (fun r0 V1 hC9 => ?_)
  refine l_aload_n (v := .ref a9) dL_law_406 rfl (rl_ref _) ?_
  refine l_arg (j := 1) dL_law_407 dL_law_408 dL_law_409 rfl dL_law_410 dL_law_411 (by decide) hb hL3 ?_
  refine l_arg (j := 2) dL_law_412 dL_law_413 dL_law_414 rfl dL_law_415 dL_law_416 (by decide) hb hL3 ?_
  refine l_arg (j := 3) dL_law_417 dL_law_418 dL_law_419 rfl dL_law_420 dL_law_421 (by decide) hb hL3 ?_
  refine l_cVi (ci := 9) (i := 0) (rY := rm_X9_tell) (As := [.int (xs (6 * t + 1)), .int (xs (6 * t + 2)), .int (xs (6 * t + 3))]) (rest := [.int r0]) dL_law_422 mv_X9_tell ml_RL_39 ⟨_, _, rfl⟩ (hE.1 9 (by decide)) ⟨Nat.le_of_ble_eq_true rfl, Nat.le_of_ble_eq_true rfl⟩ ⟨by show k + 0 + 0 ≤ 600000; omega, by show n + 0 + 0 ≤ 7302250; omega⟩ rfl (by rw [h9]; try rfl) (Nat.le_of_ble_eq_true rfl) hC9 (fun r1 V2 hq => ?_)
  obtain ⟨rfl, hV2⟩ := hq
  refine l_icmp_eq 950 dL_law_425 (by decide) (fun _ => ?_) (fun z => absurd rfl z)
  exact l_widen (by show k + 0 + 0 ≤ k + 5; omega) (by show n + 0 + 0 ≤ n + 104; omega) (hN E V2 hV2 h8 h9)
theorem la_lay (hV : INV E V) (h8 : eA E 8 0 = a8) (h9 : eA E 9 0 = a9) (hk : k ≤ 5000) (hn : n ≤ 200000) (hb : 6 * t + 6 ≤ Ls) (hL3 : Ls ≤ 3072) (hN : ∀ E2 V2, INV E2 V2 → eA E2 8 0 = a8 → eA E2 9 0 = a9 → EvL l G bs Ls xs E2 (k + 5) (n + 104) V2 950 (LLo bs a8 a9 t) [] Q) : EvL l G bs Ls xs E k n V 430 (LLo bs a8 a9 t) [] Q := by
  obtain ⟨n0, gc, tc, sc, tl, ec, m, fr, D, on, sn, ti, tx, yb, gl, tn, tbb, es, hW, hI, hS, hX, hC, hL, hT, hTx, hG, hU, htc⟩ := And.intro True.intro hV |>.2
  have hE := hW.1
  refine l_aload_n (v := .ref a8) dL_law_430 rfl (rl_ref _) ?_
  refine l_arg (j := 1) dL_law_431 dL_law_432 dL_law_433 rfl dL_law_434 dL_law_435 (by decide) hb hL3 ?_
  refine l_cVi (ci := 8) (i := 0) (rY := rm_X8_lay) (As := [.int (xs (6 * t + 1))]) (rest := []) dL_law_436 mv_X8_lay ml_RL_40 ⟨_, _, rfl⟩ (hE.1 8 (by decide)) ⟨Nat.le_of_ble_eq_true rfl, Nat.le_of_ble_eq_true rfl⟩ ⟨by show k + 0 ≤ 600000; omega, by show n + 0 ≤ 7302250; omega⟩ rfl (by rw [h8]; try rfl) (Nat.le_of_ble_eq_true rfl) (bo_lay (K := fun r r2 V2 => r = r2 ∧ INV E V2) hE hI hS hC hL hTx hG hU (fun r V2 D2 gl2 ti2 a b c d e hO hD => ⟨rfl, n0, gc, tc, sc, tl, ec, m, fr, D2, on, sn, ti2, tx, yb, gl2, tn, tbb, es, hW, a, b, hX.of hO (by decide), c, d, hT.of hO (by decide), hTx.of hO (by decide), e, hU.of hO (by decide), htc⟩)) (fun r0 V1 hC9 => ?_)
  refine l_aload_n (v := .ref a9) dL_law_439 rfl (rl_ref _) ?_
  refine l_arg (j := 1) dL_law_440 dL_law_441 dL_law_442 rfl dL_law_443 dL_law_444 (by decide) hb hL3 ?_
  refine l_cVi (ci := 9) (i := 0) (rY := rm_X9_lay) (As := [.int (xs (6 * t + 1))]) (rest := [.int r0]) dL_law_445 mv_X9_lay ml_RL_44 ⟨_, _, rfl⟩ (hE.1 9 (by decide)) ⟨Nat.le_of_ble_eq_true rfl, Nat.le_of_ble_eq_true rfl⟩ ⟨by show k + 0 + 0 ≤ 600000; omega, by show n + 0 + 0 ≤ 7302250; omega⟩ rfl (by rw [h9]; try rfl) (Nat.le_of_ble_eq_true rfl) hC9 (fun r1 V2 hq => ?_)
  obtain ⟨rfl, hV2⟩ := hq
  refine l_icmp_eq 950 dL_law_448 (by decide) (fun _ => ?_) (fun z => absurd rfl z)
  exact l_widen (by show k + 0 + 0 ≤ k + 5; omega) (by show n + 0 + 0 ≤ n + 104; omega) (hN E V2 hV2 h8 h9)
theorem la_may (hV : INV E V) (h8 : eA E 8 0 = a8) (h9 : eA E 9 0 = a9) (hk : k ≤ 5000) (hn : n ≤ 200000) (hb : 6 * t + 6 ≤ Ls) (hL3 : Ls ≤ 3072) (hN : ∀ E2 V2, INV E2 V2 → eA E2 8 0 = a8 → eA E2 9 0 = a9 → EvL l G bs Ls xs E2 (k + 5) (n + 104) V2 950 (LLo bs a8 a9 t) [] Q) : EvL l G bs Ls xs E k n V 453 (LLo bs a8 a9 t) [] Q := by
  obtain ⟨n0, gc, tc, sc, tl, ec, m, fr, D, on, sn, ti, tx, yb, gl, tn, tbb, es, hW, hI, hS, hX, hC, hL, hT, hTx, hG, hU, htc⟩ := And.intro True.intro hV |>.2
  have hE := hW.1
  refine l_aload_n (v := .ref a8) dL_law_453 rfl (rl_ref _) ?_
  refine l_arg (j := 1) dL_law_454 dL_law_455 dL_law_456 rfl dL_law_457 dL_law_458 (by decide) hb hL3 ?_
  refine l_cVi (ci := 8) (i := 0) (rY := rm_X8_may) (As := [.int (xs (6 * t + 1))]) (rest := []) dL_law_459 mv_X8_may ml_RL_45 ⟨_, _, rfl⟩ (hE.1 8 (by decide)) ⟨Nat.le_of_ble_eq_true rfl, Nat.le_of_ble_eq_true rfl⟩ ⟨by show k + 0 ≤ 600000; omega, by show n + 0 ≤ 7302250; omega⟩ rfl (by rw [h8]; try rfl) (Nat.le_of_ble_eq_true rfl) (bo_may (K := fun r r2 V2 => r = r2 ∧ INV E V2) hE hI hC hTx hG hU (fun r V2 hO => ⟨rfl, hV.of hO (by decide)⟩)) (fun r0 V1 hC9 => ?_)
  refine l_aload_n (v := .ref a9) dL_law_462 rfl (rl_ref _) ?_
  refine l_arg (j := 1) dL_law_463 dL_law_464 dL_law_465 rfl dL_law_466 dL_law_467 (by decide) hb hL3 ?_
  refine l_cVi (ci := 9) (i := 0) (rY := rm_X9_may) (As := [.int (xs (6 * t + 1))]) (rest := [.int r0]) dL_law_468 mv_X9_may ml_RL_48 ⟨_, _, rfl⟩ (hE.1 9 (by decide)) ⟨Nat.le_of_ble_eq_true rfl, Nat.le_of_ble_eq_true rfl⟩ ⟨by show k + 0 + 0 ≤ 600000; omega, by show n + 0 + 0 ≤ 7302250; omega⟩ rfl (by rw [h9]; try rfl) (Nat.le_of_ble_eq_true rfl) hC9 (fun r1 V2 hq => ?_)
  obtain ⟨rfl, hV2⟩ := hq
  refine l_icmp_eq 950 dL_law_471 (by decide) (fun _ => ?_) (fun z => absurd rfl z)
  exact l_widen (by show k + 0 + 0 ≤ k + 5; omega) (by show n + 0 + 0 ≤ n + 104; omega) (hN E V2 hV2 h8 h9)
theorem la_falls (hV : INV E V) (h8 : eA E 8 0 = a8) (h9 : eA E 9 0 = a9) (hk : k ≤ 5000) (hn : n ≤ 200000) (hb : 6 * t + 6 ≤ Ls) (hL3 : Ls ≤ 3072) (hN : ∀ E2 V2, INV E2 V2 → eA E2 8 0 = a8 → eA E2 9 0 = a9 → EvL l G bs Ls xs E2 (k + 5) (n + 104) V2 950 (LLo bs a8 a9 t) [] Q) : EvL l G bs Ls xs E k n V 476 (LLo bs a8 a9 t) [] Q := by
  obtain ⟨n0, gc, tc, sc, tl, ec, m, fr, D, on, sn, ti, tx, yb, gl, tn, tbb, es, hW, hI, hS, hX, hC, hL, hT, hTx, hG, hU, htc⟩ := And.intro True.intro hV |>.2
  have hE := hW.1
  refine l_aload_n (v := .ref a8) dL_law_476 rfl (rl_ref _) ?_
  refine l_arg (j := 1) dL_law_477 dL_law_478 dL_law_479 rfl dL_law_480 dL_law_481 (by decide) hb hL3 ?_
  refine l_cVi (ci := 8) (i := 0) (rY := rm_X8_falls) (As := [.int (xs (6 * t + 1))]) (rest := []) dL_law_482 mv_X8_falls ml_RL_49 ⟨_, _, rfl⟩ (hE.1 8 (by decide)) ⟨Nat.le_of_ble_eq_true rfl, Nat.le_of_ble_eq_true rfl⟩ ⟨by show k + 0 ≤ 600000; omega, by show n + 0 ≤ 7302250; omega⟩ rfl (by rw [h8]; try rfl) (Nat.le_of_ble_eq_true rfl) (bo_falls (K := fun r r2 V2 => r = r2 ∧ INV E V2) hE hI (fun r V2 hO => ⟨rfl, hV.of hO (by decide)⟩)) (fun r0 V1 hC9 => ?_)
  refine l_aload_n (v := .ref a9) dL_law_485 rfl (rl_ref _) ?_
  refine l_arg (j := 1) dL_law_486 dL_law_487 dL_law_488 rfl dL_law_489 dL_law_490 (by decide) hb hL3 ?_
  refine l_cVi (ci := 9) (i := 0) (rY := rm_X9_falls) (As := [.int (xs (6 * t + 1))]) (rest := [.int r0]) dL_law_491 mv_X9_falls ml_RL_52 ⟨_, _, rfl⟩ (hE.1 9 (by decide)) ⟨Nat.le_of_ble_eq_true rfl, Nat.le_of_ble_eq_true rfl⟩ ⟨by show k + 0 + 0 ≤ 600000; omega, by show n + 0 + 0 ≤ 7302250; omega⟩ rfl (by rw [h9]; try rfl) (Nat.le_of_ble_eq_true rfl) hC9 (fun r1 V2 hq => ?_)
  obtain ⟨rfl, hV2⟩ := hq
  refine l_icmp_eq 950 dL_law_494 (by decide) (fun _ => ?_) (fun z => absurd rfl z)
  exact l_widen (by show k + 0 + 0 ≤ k + 5; omega) (by show n + 0 + 0 ≤ n + 104; omega) (hN E V2 hV2 h8 h9)
theorem la_strike (hV : INV E V) (h8 : eA E 8 0 = a8) (h9 : eA E 9 0 = a9) (hk : k ≤ 5000) (hn : n ≤ 200000) (hb : 6 * t + 6 ≤ Ls) (hL3 : Ls ≤ 3072) (hN : ∀ E2 V2, INV E2 V2 → eA E2 8 0 = a8 → eA E2 9 0 = a9 → EvL l G bs Ls xs E2 (k + 5) (n + 104) V2 950 (LLo bs a8 a9 t) [] Q) : EvL l G bs Ls xs E k n V 499 (LLo bs a8 a9 t) [] Q := by
  obtain ⟨n0, gc, tc, sc, tl, ec, m, fr, D, on, sn, ti, tx, yb, gl, tn, tbb, es, hW, hI, hS, hX, hC, hL, hT, hTx, hG, hU, htc⟩ := And.intro True.intro hV |>.2
  have hE := hW.1
  refine l_aload_n (v := .ref a8) dL_law_499 rfl (rl_ref _) ?_
  refine l_arg (j := 1) dL_law_500 dL_law_501 dL_law_502 rfl dL_law_503 dL_law_504 (by decide) hb hL3 ?_
  refine l_cVi (ci := 8) (i := 0) (rY := rm_X8_strike) (As := [.int (xs (6 * t + 1))]) (rest := []) dL_law_505 mv_X8_strike ml_RL_53 ⟨_, _, rfl⟩ (hE.1 8 (by decide)) ⟨Nat.le_of_ble_eq_true rfl, Nat.le_of_ble_eq_true rfl⟩ ⟨by show k + 0 ≤ 600000; omega, by show n + 0 ≤ 7302250; omega⟩ rfl (by rw [h8]; try rfl) (Nat.le_of_ble_eq_true rfl) (bo_strike (K := fun r r2 V2 => r = r2 ∧ INV E V2) hE hI hS (fun r V2 a b hO => ⟨rfl, n0, gc, tc, sc, tl, ec, m, fr, D, on, sn, ti, tx, yb, gl, tn, tbb, es, hW, a, b, hX.of hO (by decide), hC.of hO (by decide), hL.of hO (by decide) (by decide) rfl, hT.of hO (by decide), hTx.of hO (by decide), hG.of hO (by decide), hU.of hO (by decide), htc⟩)) (fun r0 V1 hC9 => ?_)
  refine l_aload_n (v := .ref a9) dL_law_508 rfl (rl_ref _) ?_
  refine l_arg (j := 1) dL_law_509 dL_law_510 dL_law_511 rfl dL_law_512 dL_law_513 (by decide) hb hL3 ?_
  refine l_cVi (ci := 9) (i := 0) (rY := rm_X9_strike) (As := [.int (xs (6 * t + 1))]) (rest := [.int r0]) dL_law_514 mv_X9_strike ml_RL_56 ⟨_, _, rfl⟩ (hE.1 9 (by decide)) ⟨Nat.le_of_ble_eq_true rfl, Nat.le_of_ble_eq_true rfl⟩ ⟨by show k + 0 + 0 ≤ 600000; omega, by show n + 0 + 0 ≤ 7302250; omega⟩ rfl (by rw [h9]; try rfl) (Nat.le_of_ble_eq_true rfl) hC9 (fun r1 V2 hq => ?_)
  obtain ⟨rfl, hV2⟩ := hq
  refine l_icmp_eq 950 dL_law_517 (by decide) (fun _ => ?_) (fun z => absurd rfl z)
  exact l_widen (by show k + 0 + 0 ≤ k + 5; omega) (by show n + 0 + 0 ≤ n + 104; omega) (hN E V2 hV2 h8 h9)
theorem la_prop (hV : INV E V) (h8 : eA E 8 0 = a8) (h9 : eA E 9 0 = a9) (hk : k ≤ 5000) (hn : n ≤ 200000) (hb : 6 * t + 6 ≤ Ls) (hL3 : Ls ≤ 3072) (hN : ∀ E2 V2, INV E2 V2 → eA E2 8 0 = a8 → eA E2 9 0 = a9 → EvL l G bs Ls xs E2 (k + 5) (n + 104) V2 950 (LLo bs a8 a9 t) [] Q) : EvL l G bs Ls xs E k n V 522 (LLo bs a8 a9 t) [] Q := by
  obtain ⟨n0, gc, tc, sc, tl, ec, m, fr, D, on, sn, ti, tx, yb, gl, tn, tbb, es, hW, hI, hS, hX, hC, hL, hT, hTx, hG, hU, htc⟩ := And.intro True.intro hV |>.2
  have hE := hW.1
  refine l_aload_n (v := .ref a8) dL_law_522 rfl (rl_ref _) ?_
  refine l_arg (j := 1) dL_law_523 dL_law_524 dL_law_525 rfl dL_law_526 dL_law_527 (by decide) hb hL3 ?_
  refine l_arg (j := 2) dL_law_528 dL_law_529 dL_law_530 rfl dL_law_531 dL_law_532 (by decide) hb hL3 ?_
  refine l_cVi (ci := 8) (i := 0) (rY := rm_X8_prop) (As := [.int (xs (6 * t + 1)), .int (xs (6 * t + 2))]) (rest := []) dL_law_533 mv_X8_prop ml_RL_57 ⟨_, _, rfl⟩ (hE.1 8 (by decide)) ⟨Nat.le_of_ble_eq_true rfl, Nat.le_of_ble_eq_true rfl⟩ ⟨by show k + 0 ≤ 600000; omega, by show n + 0 ≤ 7302250; omega⟩ rfl (by rw [h8]; try rfl) (Nat.le_of_ble_eq_true rfl) (bo_prop (K := fun r r2 V2 => r = r2 ∧ INV E V2) hE hI hS (fun r V2 D2 a b hO hD => ⟨rfl, n0, gc, tc, sc, tl, ec, m, fr, D2, on, sn, ti, tx, yb, gl, tn, tbb, es, hW, a, b, hX.of hO (by decide), hC.of hO (by decide), hL.of hO (by decide) (by decide) (hD 4 (by decide)), hT.of hO (by decide), hTx.of hO (by decide), hG.of hO (by decide), hU.of hO (by decide), htc⟩)) (fun r0 V1 hC9 => ?_)
  refine l_aload_n (v := .ref a9) dL_law_536 rfl (rl_ref _) ?_
  refine l_arg (j := 1) dL_law_537 dL_law_538 dL_law_539 rfl dL_law_540 dL_law_541 (by decide) hb hL3 ?_
  refine l_arg (j := 2) dL_law_542 dL_law_543 dL_law_544 rfl dL_law_545 dL_law_546 (by decide) hb hL3 ?_
  refine l_cVi (ci := 9) (i := 0) (rY := rm_X9_prop) (As := [.int (xs (6 * t + 1)), .int (xs (6 * t + 2))]) (rest := [.int r0]) dL_law_547 mv_X9_prop ml_RL_60 ⟨_, _, rfl⟩ (hE.1 9 (by decide)) ⟨Nat.le_of_ble_eq_true rfl, Nat.le_of_ble_eq_true rfl⟩ ⟨by show k + 0 + 0 ≤ 600000; omega, by show n + 0 + 0 ≤ 7302250; omega⟩ rfl (by rw [h9]; try rfl) (Nat.le_of_ble_eq_true rfl) hC9 (fun r1 V2 hq => ?_)
  obtain ⟨rfl, hV2⟩ := hq
  refine l_icmp_eq 950 dL_law_550 (by decide) (fun _ => ?_) (fun z => absurd rfl z)
  exact l_widen (by show k + 0 + 0 ≤ k + 5; omega) (by show n + 0 + 0 ≤ n + 104; omega) (hN E V2 hV2 h8 h9)
theorem la_month (hV : INV E V) (h8 : eA E 8 0 = a8) (h9 : eA E 9 0 = a9) (hk : k ≤ 5000) (hn : n ≤ 200000) (hb : 6 * t + 6 ≤ Ls) (hL3 : Ls ≤ 3072) (hN : ∀ E2 V2, INV E2 V2 → eA E2 8 0 = a8 → eA E2 9 0 = a9 → EvL l G bs Ls xs E2 (k + 5) (n + 104) V2 950 (LLo bs a8 a9 t) [] Q) : EvL l G bs Ls xs E k n V 555 (LLo bs a8 a9 t) [] Q := by
  obtain ⟨n0, gc, tc, sc, tl, ec, m, fr, D, on, sn, ti, tx, yb, gl, tn, tbb, es, hW, hI, hS, hX, hC, hL, hT, hTx, hG, hU, htc⟩ := And.intro True.intro hV |>.2
  have hE := hW.1
  refine l_aload_n (v := .ref a8) dL_law_555 rfl (rl_ref _) ?_
  refine l_arg (j := 1) dL_law_556 dL_law_557 dL_law_558 rfl dL_law_559 dL_law_560 (by decide) hb hL3 ?_
  refine l_cVi (ci := 8) (i := 0) (rY := rm_X8_month) (As := [.int (xs (6 * t + 1))]) (rest := []) dL_law_561 mv_X8_month ml_RL_61 ⟨_, _, rfl⟩ (hE.1 8 (by decide)) ⟨Nat.le_of_ble_eq_true rfl, Nat.le_of_ble_eq_true rfl⟩ ⟨by show k + 0 ≤ 600000; omega, by show n + 0 ≤ 7302250; omega⟩ rfl (by rw [h8]; try rfl) (Nat.le_of_ble_eq_true rfl) (bo_month (K := fun r r2 V2 => r = r2 ∧ INV E V2) hE hI hC hL (fun r V2 m2 a b c hO => ⟨rfl, n0, gc, tc, sc, tl, ec, m2, fr, D, on, sn, ti, tx, yb, gl, tn, tbb, es, hW, a, hS.of hO (by decide), hX.of hO (by decide), b, c, hT.of hO (by decide), hTx.of hO (by decide), hG.of hO (by decide), hU.of hO (by decide), htc⟩)) (fun r0 V1 hC9 => ?_)
  refine l_aload_n (v := .ref a9) dL_law_564 rfl (rl_ref _) ?_
  refine l_arg (j := 1) dL_law_565 dL_law_566 dL_law_567 rfl dL_law_568 dL_law_569 (by decide) hb hL3 ?_
  refine l_cVi (ci := 9) (i := 0) (rY := rm_X9_month) (As := [.int (xs (6 * t + 1))]) (rest := [.int r0]) dL_law_570 mv_X9_month ml_RL_64 ⟨_, _, rfl⟩ (hE.1 9 (by decide)) ⟨Nat.le_of_ble_eq_true rfl, Nat.le_of_ble_eq_true rfl⟩ ⟨by show k + 0 + 0 ≤ 600000; omega, by show n + 0 + 0 ≤ 7302250; omega⟩ rfl (by rw [h9]; try rfl) (Nat.le_of_ble_eq_true rfl) hC9 (fun r1 V2 hq => ?_)
  obtain ⟨rfl, hV2⟩ := hq
  refine l_icmp_eq 950 dL_law_573 (by decide) (fun _ => ?_) (fun z => absurd rfl z)
  exact l_widen (by show k + 0 + 0 ≤ k + 5; omega) (by show n + 0 + 0 ≤ n + 104; omega) (hN E V2 hV2 h8 h9)
theorem la_frost (hV : INV E V) (h8 : eA E 8 0 = a8) (h9 : eA E 9 0 = a9) (hk : k ≤ 5000) (hn : n ≤ 200000) (hb : 6 * t + 6 ≤ Ls) (hL3 : Ls ≤ 3072) (hN : ∀ E2 V2, INV E2 V2 → eA E2 8 0 = a8 → eA E2 9 0 = a9 → EvL l G bs Ls xs E2 (k + 5) (n + 104) V2 950 (LLo bs a8 a9 t) [] Q) : EvL l G bs Ls xs E k n V 578 (LLo bs a8 a9 t) [] Q := by
  obtain ⟨n0, gc, tc, sc, tl, ec, m, fr, D, on, sn, ti, tx, yb, gl, tn, tbb, es, hW, hI, hS, hX, hC, hL, hT, hTx, hG, hU, htc⟩ := And.intro True.intro hV |>.2
  have hE := hW.1
  refine l_aload_n (v := .ref a8) dL_law_578 rfl (rl_ref _) ?_
  refine l_arg (j := 1) dL_law_579 dL_law_580 dL_law_581 rfl dL_law_582 dL_law_583 (by decide) hb hL3 ?_
  refine l_cVi (ci := 8) (i := 0) (rY := rm_X8_frost) (As := [.int (xs (6 * t + 1))]) (rest := []) dL_law_584 mv_X8_frost ml_RL_65 ⟨_, _, rfl⟩ (hE.1 8 (by decide)) ⟨Nat.le_of_ble_eq_true rfl, Nat.le_of_ble_eq_true rfl⟩ ⟨by show k + 0 ≤ 600000; omega, by show n + 0 ≤ 7302250; omega⟩ rfl (by rw [h8]; try rfl) (Nat.le_of_ble_eq_true rfl) (bo_frost (K := fun r r2 V2 => r = r2 ∧ INV E V2) hE hC (fun r V2 fr2 a hO => ⟨rfl, n0, gc, tc, sc, tl, ec, m, fr2, D, on, sn, ti, tx, yb, gl, tn, tbb, es, hW, hI.of hO (by decide), hS.of hO (by decide), hX.of hO (by decide), a, hL.of hO (by decide) (by decide) rfl, hT.of hO (by decide), hTx.of hO (by decide), hG.of hO (by decide), hU.of hO (by decide), htc⟩)) (fun r0 V1 hC9 => ?_)
  refine l_aload_n (v := .ref a9) dL_law_587 rfl (rl_ref _) ?_
  refine l_arg (j := 1) dL_law_588 dL_law_589 dL_law_590 rfl dL_law_591 dL_law_592 (by decide) hb hL3 ?_
  refine l_cVi (ci := 9) (i := 0) (rY := rm_X9_frost) (As := [.int (xs (6 * t + 1))]) (rest := [.int r0]) dL_law_593 mv_X9_frost ml_RL_68 ⟨_, _, rfl⟩ (hE.1 9 (by decide)) ⟨Nat.le_of_ble_eq_true rfl, Nat.le_of_ble_eq_true rfl⟩ ⟨by show k + 0 + 0 ≤ 600000; omega, by show n + 0 + 0 ≤ 7302250; omega⟩ rfl (by rw [h9]; try rfl) (Nat.le_of_ble_eq_true rfl) hC9 (fun r1 V2 hq => ?_)
  obtain ⟨rfl, hV2⟩ := hq
  refine l_icmp_eq 950 dL_law_596 (by decide) (fun _ => ?_) (fun z => absurd rfl z)
  exact l_widen (by show k + 0 + 0 ≤ k + 5; omega) (by show n + 0 + 0 ≤ n + 104; omega) (hN E V2 hV2 h8 h9)
theorem la_bitter (hV : INV E V) (h8 : eA E 8 0 = a8) (h9 : eA E 9 0 = a9) (hk : k ≤ 5000) (hn : n ≤ 200000) (hb : 6 * t + 6 ≤ Ls) (hL3 : Ls ≤ 3072) (hN : ∀ E2 V2, INV E2 V2 → eA E2 8 0 = a8 → eA E2 9 0 = a9 → EvL l G bs Ls xs E2 (k + 5) (n + 104) V2 950 (LLo bs a8 a9 t) [] Q) : EvL l G bs Ls xs E k n V 601 (LLo bs a8 a9 t) [] Q := by
  obtain ⟨n0, gc, tc, sc, tl, ec, m, fr, D, on, sn, ti, tx, yb, gl, tn, tbb, es, hW, hI, hS, hX, hC, hL, hT, hTx, hG, hU, htc⟩ := And.intro True.intro hV |>.2
  have hE := hW.1
  refine l_aload_n (v := .ref a8) dL_law_601 rfl (rl_ref _) ?_
  refine l_arg (j := 1) dL_law_602 dL_law_603 dL_law_604 rfl dL_law_605 dL_law_606 (by decide) hb hL3 ?_
  refine l_cVi (ci := 8) (i := 0) (rY := rm_X8_bitter) (As := [.int (xs (6 * t + 1))]) (rest := []) dL_law_607 mv_X8_bitter ml_RL_69 ⟨_, _, rfl⟩ (hE.1 8 (by decide)) ⟨Nat.le_of_ble_eq_true rfl, Nat.le_of_ble_eq_true rfl⟩ ⟨by show k + 0 ≤ 600000; omega, by show n + 0 ≤ 7302250; omega⟩ rfl (by rw [h8]; try rfl) (Nat.le_of_ble_eq_true rfl) (bo_bitter (K := fun r r2 V2 => r = r2 ∧ INV E V2) hE hC (fun r V2 yb2 a hO => ⟨rfl, n0, gc, tc, sc, tl, ec, m, fr, D, on, sn, ti, tx, yb2, gl, tn, tbb, es, hW, hI.of hO (by decide), hS.of hO (by decide), hX.of hO (by decide), a, hL.of hO (by decide) (by decide) rfl, hT.of hO (by decide), hTx.of hO (by decide), hG.of hO (by decide), hU.of hO (by decide), htc⟩)) (fun r0 V1 hC9 => ?_)
  refine l_aload_n (v := .ref a9) dL_law_610 rfl (rl_ref _) ?_
  refine l_arg (j := 1) dL_law_611 dL_law_612 dL_law_613 rfl dL_law_614 dL_law_615 (by decide) hb hL3 ?_
  refine l_cVi (ci := 9) (i := 0) (rY := rm_X9_bitter) (As := [.int (xs (6 * t + 1))]) (rest := [.int r0]) dL_law_616 mv_X9_bitter ml_RL_72 ⟨_, _, rfl⟩ (hE.1 9 (by decide)) ⟨Nat.le_of_ble_eq_true rfl, Nat.le_of_ble_eq_true rfl⟩ ⟨by show k + 0 + 0 ≤ 600000; omega, by show n + 0 + 0 ≤ 7302250; omega⟩ rfl (by rw [h9]; try rfl) (Nat.le_of_ble_eq_true rfl) hC9 (fun r1 V2 hq => ?_)
  obtain ⟨rfl, hV2⟩ := hq
  refine l_icmp_eq 950 dL_law_619 (by decide) (fun _ => ?_) (fun z => absurd rfl z)
  exact l_widen (by show k + 0 + 0 ≤ k + 5; omega) (by show n + 0 + 0 ≤ n + 104; omega) (hN E V2 hV2 h8 h9)
theorem la_feed (hV : INV E V) (h8 : eA E 8 0 = a8) (h9 : eA E 9 0 = a9) (hk : k ≤ 5000) (hn : n ≤ 200000) (hb : 6 * t + 6 ≤ Ls) (hL3 : Ls ≤ 3072) (hN : ∀ E2 V2, INV E2 V2 → eA E2 8 0 = a8 → eA E2 9 0 = a9 → EvL l G bs Ls xs E2 (k + 5) (n + 104) V2 950 (LLo bs a8 a9 t) [] Q) : EvL l G bs Ls xs E k n V 624 (LLo bs a8 a9 t) [] Q := by
  obtain ⟨n0, gc, tc, sc, tl, ec, m, fr, D, on, sn, ti, tx, yb, gl, tn, tbb, es, hW, hI, hS, hX, hC, hL, hT, hTx, hG, hU, htc⟩ := And.intro True.intro hV |>.2
  have hE := hW.1
  refine l_aload_n (v := .ref a8) dL_law_624 rfl (rl_ref _) ?_
  refine l_arg (j := 1) dL_law_625 dL_law_626 dL_law_627 rfl dL_law_628 dL_law_629 (by decide) hb hL3 ?_
  refine l_arg (j := 2) dL_law_630 dL_law_631 dL_law_632 rfl dL_law_633 dL_law_634 (by decide) hb hL3 ?_
  refine l_cVi (ci := 8) (i := 0) (rY := rm_X8_feed) (As := [.int (xs (6 * t + 1)), .int (xs (6 * t + 2))]) (rest := []) dL_law_635 mv_X8_feed ml_RL_73 ⟨_, _, rfl⟩ (hE.1 8 (by decide)) ⟨Nat.le_of_ble_eq_true rfl, Nat.le_of_ble_eq_true rfl⟩ ⟨by show k + 0 ≤ 600000; omega, by show n + 0 ≤ 7302250; omega⟩ rfl (by rw [h8]; try rfl) (Nat.le_of_ble_eq_true rfl) (bo_feed (K := fun r r2 V2 => r = r2 ∧ INV E V2) hE hT (fun r V2 tl2 tb2 a hO => ⟨rfl, n0, gc, tc, sc, tl2, ec, m, fr, D, on, sn, ti, tx, yb, gl, tn, tb2, es, hW, hI.of hO (by decide), hS.of hO (by decide), hX.of hO (by decide), hC.of hO (by decide), hL.of hO (by decide) (by decide) rfl, a, hTx.of hO (by decide), hG.of hO (by decide), hU.of hO (by decide), htc⟩)) (fun r0 V1 hC9 => ?_)
  refine l_aload_n (v := .ref a9) dL_law_638 rfl (rl_ref _) ?_
  refine l_arg (j := 1) dL_law_639 dL_law_640 dL_law_641 rfl dL_law_642 dL_law_643 (by decide) hb hL3 ?_
  refine l_arg (j := 2) dL_law_644 dL_law_645 dL_law_646 rfl dL_law_647 dL_law_648 (by decide) hb hL3 ?_
  refine l_cVi (ci := 9) (i := 0) (rY := rm_X9_feed) (As := [.int (xs (6 * t + 1)), .int (xs (6 * t + 2))]) (rest := [.int r0]) dL_law_649 mv_X9_feed ml_RL_76 ⟨_, _, rfl⟩ (hE.1 9 (by decide)) ⟨Nat.le_of_ble_eq_true rfl, Nat.le_of_ble_eq_true rfl⟩ ⟨by show k + 0 + 0 ≤ 600000; omega, by show n + 0 + 0 ≤ 7302250; omega⟩ rfl (by rw [h9]; try rfl) (Nat.le_of_ble_eq_true rfl) hC9 (fun r1 V2 hq => ?_)
  obtain ⟨rfl, hV2⟩ := hq
  refine l_icmp_eq 950 dL_law_652 (by decide) (fun _ => ?_) (fun z => absurd rfl z)
  exact l_widen (by show k + 0 + 0 ≤ k + 5; omega) (by show n + 0 + 0 ≤ n + 104; omega) (hN E V2 hV2 h8 h9)
theorem la_gift (hV : INV E V) (h8 : eA E 8 0 = a8) (h9 : eA E 9 0 = a9) (hk : k ≤ 5000) (hn : n ≤ 200000) (hb : 6 * t + 6 ≤ Ls) (hL3 : Ls ≤ 3072) (hN : ∀ E2 V2, INV E2 V2 → eA E2 8 0 = a8 → eA E2 9 0 = a9 → EvL l G bs Ls xs E2 (k + 5) (n + 104) V2 950 (LLo bs a8 a9 t) [] Q) : EvL l G bs Ls xs E k n V 657 (LLo bs a8 a9 t) [] Q := by
  obtain ⟨n0, gc, tc, sc, tl, ec, m, fr, D, on, sn, ti, tx, yb, gl, tn, tbb, es, hW, hI, hS, hX, hC, hL, hT, hTx, hG, hU, htc⟩ := And.intro True.intro hV |>.2
  have hE := hW.1
  refine l_aload_n (v := .ref a8) dL_law_657 rfl (rl_ref _) ?_
  refine l_arg (j := 1) dL_law_658 dL_law_659 dL_law_660 rfl dL_law_661 dL_law_662 (by decide) hb hL3 ?_
  refine l_cVe (ci := 8) (i := 0) (rY := rm_X8_gift) (As := [.int (xs (6 * t + 1))]) (rest := []) dL_law_663 mv_X8_gift ml_RL_77 ⟨_, _, rfl⟩ (hE.1 8 (by decide)) ⟨Nat.le_of_ble_eq_true rfl, Nat.le_of_ble_eq_true rfl⟩ ⟨by show k + 3 ≤ 600000; omega, by show n + 104 ≤ 7302250; omega⟩ rfl (by rw [h8]; try rfl) (Nat.le_of_ble_eq_true rfl) (bo_gift (K := fun r r2 E2 V2 => r = r2 ∧ INV E2 V2) hW hI hT hTx hG hU htc (fun r E2 V2 gc2 tc2 gl2 tn2 tx2 tl2 tb2 w a hO t x g u le => ⟨rfl, n0, gc2, tc2, sc, tl2, ec, m, fr, D, on, sn, ti, tx2, yb, gl2, tn2, tb2, es, w, a, hS.of hO (by decide), hX.of hO (by decide), hC.of hO (by decide), hL.of hO (by decide) (by decide) rfl, t, x, g, u, le⟩)) (fun r0 E1 V1 hq => ?_)
  obtain ⟨⟨e8, e9, eL1⟩, hC9⟩ := hq
  have hE1 : eL E1 9 0 := eL1 (hE.1 9 (by decide))
  refine l_aload_n (v := .ref a9) dL_law_666 rfl (rl_ref _) ?_
  refine l_arg (j := 1) dL_law_667 dL_law_668 dL_law_669 rfl dL_law_670 dL_law_671 (by decide) hb hL3 ?_
  refine l_cVi (ci := 9) (i := 0) (rY := rm_X9_gift) (As := [.int (xs (6 * t + 1))]) (rest := [.int r0]) dL_law_672 mv_X9_gift ml_RL_80 ⟨_, _, rfl⟩ hE1 ⟨Nat.le_of_ble_eq_true rfl, Nat.le_of_ble_eq_true rfl⟩ ⟨by show k + 3 + 0 ≤ 600000; omega, by show n + 104 + 0 ≤ 7302250; omega⟩ rfl (by rw [e9, h9]; try rfl) (Nat.le_of_ble_eq_true rfl) hC9 (fun r1 V2 hq => ?_)
  obtain ⟨rfl, hV2⟩ := hq
  refine l_icmp_eq 950 dL_law_675 (by decide) (fun _ => ?_) (fun z => absurd rfl z)
  exact l_widen (by show k + 3 + 0 ≤ k + 5; omega) (by show n + 104 + 0 ≤ n + 104; omega) (hN E1 V2 hV2 (e8.trans h8) (e9.trans h9))
theorem la_statute (hV : INV E V) (h8 : eA E 8 0 = a8) (h9 : eA E 9 0 = a9) (hk : k ≤ 5000) (hn : n ≤ 200000) (hb : 6 * t + 6 ≤ Ls) (hL3 : Ls ≤ 3072) (hN : ∀ E2 V2, INV E2 V2 → eA E2 8 0 = a8 → eA E2 9 0 = a9 → EvL l G bs Ls xs E2 (k + 5) (n + 104) V2 950 (LLo bs a8 a9 t) [] Q) : EvL l G bs Ls xs E k n V 680 (LLo bs a8 a9 t) [] Q := by
  obtain ⟨n0, gc, tc, sc, tl, ec, m, fr, D, on, sn, ti, tx, yb, gl, tn, tbb, es, hW, hI, hS, hX, hC, hL, hT, hTx, hG, hU, htc⟩ := And.intro True.intro hV |>.2
  have hE := hW.1
  refine l_aload_n (v := .ref a8) dL_law_680 rfl (rl_ref _) ?_
  refine l_arg (j := 1) dL_law_681 dL_law_682 dL_law_683 rfl dL_law_684 dL_law_685 (by decide) hb hL3 ?_
  refine l_cVe (ci := 8) (i := 0) (rY := rm_X8_statute) (As := [.int (xs (6 * t + 1))]) (rest := []) dL_law_686 mv_X8_statute ml_RL_81 ⟨_, _, rfl⟩ (hE.1 8 (by decide)) ⟨Nat.le_of_ble_eq_true rfl, Nat.le_of_ble_eq_true rfl⟩ ⟨by show k + 2 ≤ 600000; omega, by show n + 101 ≤ 7302250; omega⟩ rfl (by rw [h8]; try rfl) (Nat.le_of_ble_eq_true rfl) (bo_statute (K := fun r r2 E2 V2 => r = r2 ∧ INV E2 V2) hW hI hC hT hTx hG hU htc (fun r E2 V2 sc2 tc2 tn2 tx2 tl2 tb2 w a hO t x g u le => ⟨rfl, n0, gc, tc2, sc2, tl2, ec, m, fr, D, on, sn, ti, tx2, yb, gl, tn2, tb2, es, w, a, hS.of hO (by decide), hX.of hO (by decide), hC.of hO (by decide), hL.of hO (by decide) (by decide) rfl, t, x, g, u, le⟩)) (fun r0 E1 V1 hq => ?_)
  obtain ⟨⟨e8, e9, eL1⟩, hC9⟩ := hq
  have hE1 : eL E1 9 0 := eL1 (hE.1 9 (by decide))
  refine l_aload_n (v := .ref a9) dL_law_689 rfl (rl_ref _) ?_
  refine l_arg (j := 1) dL_law_690 dL_law_691 dL_law_692 rfl dL_law_693 dL_law_694 (by decide) hb hL3 ?_
  refine l_cVi (ci := 9) (i := 0) (rY := rm_X9_statute) (As := [.int (xs (6 * t + 1))]) (rest := [.int r0]) dL_law_695 mv_X9_statute ml_RL_84 ⟨_, _, rfl⟩ hE1 ⟨Nat.le_of_ble_eq_true rfl, Nat.le_of_ble_eq_true rfl⟩ ⟨by show k + 2 + 0 ≤ 600000; omega, by show n + 101 + 0 ≤ 7302250; omega⟩ rfl (by rw [e9, h9]; try rfl) (Nat.le_of_ble_eq_true rfl) hC9 (fun r1 V2 hq => ?_)
  obtain ⟨rfl, hV2⟩ := hq
  refine l_icmp_eq 950 dL_law_698 (by decide) (fun _ => ?_) (fun z => absurd rfl z)
  exact l_widen (by show k + 2 + 0 ≤ k + 5; omega) (by show n + 101 + 0 ≤ n + 104; omega) (hN E1 V2 hV2 (e8.trans h8) (e9.trans h9))
theorem la_end (hV : INV E V) (h8 : eA E 8 0 = a8) (h9 : eA E 9 0 = a9) (hk : k ≤ 5000) (hn : n ≤ 200000) (hb : 6 * t + 6 ≤ Ls) (hL3 : Ls ≤ 3072) (hN : ∀ E2 V2, INV E2 V2 → eA E2 8 0 = a8 → eA E2 9 0 = a9 → EvL l G bs Ls xs E2 (k + 5) (n + 104) V2 950 (LLo bs a8 a9 t) [] Q) : EvL l G bs Ls xs E k n V 703 (LLo bs a8 a9 t) [] Q := by
  obtain ⟨n0, gc, tc, sc, tl, ec, m, fr, D, on, sn, ti, tx, yb, gl, tn, tbb, es, hW, hI, hS, hX, hC, hL, hT, hTx, hG, hU, htc⟩ := And.intro True.intro hV |>.2
  have hE := hW.1
  refine l_aload_n (v := .ref a8) dL_law_703 rfl (rl_ref _) ?_
  refine l_arg (j := 1) dL_law_704 dL_law_705 dL_law_706 rfl dL_law_707 dL_law_708 (by decide) hb hL3 ?_
  refine l_arg (j := 2) dL_law_709 dL_law_710 dL_law_711 rfl dL_law_712 dL_law_713 (by decide) hb hL3 ?_
  refine l_cVi (ci := 8) (i := 0) (rY := rm_X8_end) (As := [.int (xs (6 * t + 1)), .int (xs (6 * t + 2))]) (rest := []) dL_law_714 mv_X8_end ml_RL_85 ⟨_, _, rfl⟩ (hE.1 8 (by decide)) ⟨Nat.le_of_ble_eq_true rfl, Nat.le_of_ble_eq_true rfl⟩ ⟨by show k + 0 ≤ 600000; omega, by show n + 0 ≤ 7302250; omega⟩ rfl (by rw [h8]; try rfl) (Nat.le_of_ble_eq_true rfl) (bo_end (K := fun r r2 V2 => r = r2 ∧ INV E V2) hE hI hC hTx hG (fun r V2 hO => ⟨rfl, hV.of hO (by decide)⟩)) (fun r0 V1 hC9 => ?_)
  refine l_aload_n (v := .ref a9) dL_law_717 rfl (rl_ref _) ?_
  refine l_arg (j := 1) dL_law_718 dL_law_719 dL_law_720 rfl dL_law_721 dL_law_722 (by decide) hb hL3 ?_
  refine l_arg (j := 2) dL_law_723 dL_law_724 dL_law_725 rfl dL_law_726 dL_law_727 (by decide) hb hL3 ?_
  refine l_cVi (ci := 9) (i := 0) (rY := rm_X9_end) (As := [.int (xs (6 * t + 1)), .int (xs (6 * t + 2))]) (rest := [.int r0]) dL_law_728 mv_X9_end ml_RL_88 ⟨_, _, rfl⟩ (hE.1 9 (by decide)) ⟨Nat.le_of_ble_eq_true rfl, Nat.le_of_ble_eq_true rfl⟩ ⟨by show k + 0 + 0 ≤ 600000; omega, by show n + 0 + 0 ≤ 7302250; omega⟩ rfl (by rw [h9]; try rfl) (Nat.le_of_ble_eq_true rfl) hC9 (fun r1 V2 hq => ?_)
  obtain ⟨rfl, hV2⟩ := hq
  refine l_icmp_eq 950 dL_law_731 (by decide) (fun _ => ?_) (fun z => absurd rfl z)
  exact l_widen (by show k + 0 + 0 ≤ k + 5; omega) (by show n + 0 + 0 ≤ n + 104; omega) (hN E V2 hV2 h8 h9)
theorem la_about (hV : INV E V) (h8 : eA E 8 0 = a8) (h9 : eA E 9 0 = a9) (hk : k ≤ 5000) (hn : n ≤ 200000) (hb : 6 * t + 6 ≤ Ls) (hL3 : Ls ≤ 3072) (hN : ∀ E2 V2, INV E2 V2 → eA E2 8 0 = a8 → eA E2 9 0 = a9 → EvL l G bs Ls xs E2 (k + 5) (n + 104) V2 950 (LLo bs a8 a9 t) [] Q) : EvL l G bs Ls xs E k n V 736 (LLo bs a8 a9 t) [] Q := by
  obtain ⟨n0, gc, tc, sc, tl, ec, m, fr, D, on, sn, ti, tx, yb, gl, tn, tbb, es, hW, hI, hS, hX, hC, hL, hT, hTx, hG, hU, htc⟩ := And.intro True.intro hV |>.2
  have hE := hW.1
  refine l_aload_n (v := .ref a8) dL_law_736 rfl (rl_ref _) ?_
  refine l_arg (j := 1) dL_law_737 dL_law_738 dL_law_739 rfl dL_law_740 dL_law_741 (by decide) hb hL3 ?_
  refine l_arg (j := 2) dL_law_742 dL_law_743 dL_law_744 rfl dL_law_745 dL_law_746 (by decide) hb hL3 ?_
  refine l_cVi (ci := 8) (i := 0) (rY := rm_X8_about) (As := [.int (xs (6 * t + 1)), .int (xs (6 * t + 2))]) (rest := []) dL_law_747 mv_X8_about ml_RL_89 ⟨_, _, rfl⟩ (hE.1 8 (by decide)) ⟨Nat.le_of_ble_eq_true rfl, Nat.le_of_ble_eq_true rfl⟩ ⟨by show k + 0 ≤ 600000; omega, by show n + 0 ≤ 7302250; omega⟩ rfl (by rw [h8]; try rfl) (Nat.le_of_ble_eq_true rfl) (bo_about (K := fun r r2 V2 => r = r2 ∧ INV E V2) hE hI (fun r V2 hO => ⟨rfl, hV.of hO (by decide)⟩)) (fun r0 V1 hC9 => ?_)
  refine l_aload_n (v := .ref a9) dL_law_750 rfl (rl_ref _) ?_
  refine l_arg (j := 1) dL_law_751 dL_law_752 dL_law_753 rfl dL_law_754 dL_law_755 (by decide) hb hL3 ?_
  refine l_arg (j := 2) dL_law_756 dL_law_757 dL_law_758 rfl dL_law_759 dL_law_760 (by decide) hb hL3 ?_
  refine l_cVi (ci := 9) (i := 0) (rY := rm_X9_about) (As := [.int (xs (6 * t + 1)), .int (xs (6 * t + 2))]) (rest := [.int r0]) dL_law_761 mv_X9_about ml_RL_92 ⟨_, _, rfl⟩ (hE.1 9 (by decide)) ⟨Nat.le_of_ble_eq_true rfl, Nat.le_of_ble_eq_true rfl⟩ ⟨by show k + 0 + 0 ≤ 600000; omega, by show n + 0 + 0 ≤ 7302250; omega⟩ rfl (by rw [h9]; try rfl) (Nat.le_of_ble_eq_true rfl) hC9 (fun r1 V2 hq => ?_)
  obtain ⟨rfl, hV2⟩ := hq
  refine l_icmp_eq 950 dL_law_764 (by decide) (fun _ => ?_) (fun z => absurd rfl z)
  exact l_widen (by show k + 0 + 0 ≤ k + 5; omega) (by show n + 0 + 0 ≤ n + 104; omega) (hN E V2 hV2 h8 h9)
theorem la_support (hV : INV E V) (h8 : eA E 8 0 = a8) (h9 : eA E 9 0 = a9) (hk : k ≤ 5000) (hn : n ≤ 200000) (hb : 6 * t + 6 ≤ Ls) (hL3 : Ls ≤ 3072) (hN : ∀ E2 V2, INV E2 V2 → eA E2 8 0 = a8 → eA E2 9 0 = a9 → EvL l G bs Ls xs E2 (k + 5) (n + 104) V2 950 (LLo bs a8 a9 t) [] Q) : EvL l G bs Ls xs E k n V 769 (LLo bs a8 a9 t) [] Q := by
  obtain ⟨n0, gc, tc, sc, tl, ec, m, fr, D, on, sn, ti, tx, yb, gl, tn, tbb, es, hW, hI, hS, hX, hC, hL, hT, hTx, hG, hU, htc⟩ := And.intro True.intro hV |>.2
  have hE := hW.1
  refine l_aload_n (v := .ref a8) dL_law_769 rfl (rl_ref _) ?_
  refine l_arg (j := 1) dL_law_770 dL_law_771 dL_law_772 rfl dL_law_773 dL_law_774 (by decide) hb hL3 ?_
  refine l_arg (j := 2) dL_law_775 dL_law_776 dL_law_777 rfl dL_law_778 dL_law_779 (by decide) hb hL3 ?_
  refine l_cVi (ci := 8) (i := 0) (rY := rm_X8_support) (As := [.int (xs (6 * t + 1)), .int (xs (6 * t + 2))]) (rest := []) dL_law_780 mv_X8_support ml_RL_93 ⟨_, _, rfl⟩ (hE.1 8 (by decide)) ⟨Nat.le_of_ble_eq_true rfl, Nat.le_of_ble_eq_true rfl⟩ ⟨by show k + 0 ≤ 600000; omega, by show n + 0 ≤ 7302250; omega⟩ rfl (by rw [h8]; try rfl) (Nat.le_of_ble_eq_true rfl) (bo_support (K := fun r r2 V2 => r = r2 ∧ INV E V2) hE hI (fun r => ⟨rfl, hV⟩)) (fun r0 V1 hC9 => ?_)
  refine l_aload_n (v := .ref a9) dL_law_783 rfl (rl_ref _) ?_
  refine l_arg (j := 1) dL_law_784 dL_law_785 dL_law_786 rfl dL_law_787 dL_law_788 (by decide) hb hL3 ?_
  refine l_arg (j := 2) dL_law_789 dL_law_790 dL_law_791 rfl dL_law_792 dL_law_793 (by decide) hb hL3 ?_
  refine l_cVi (ci := 9) (i := 0) (rY := rm_X9_support) (As := [.int (xs (6 * t + 1)), .int (xs (6 * t + 2))]) (rest := [.int r0]) dL_law_794 mv_X9_support ml_RL_96 ⟨_, _, rfl⟩ (hE.1 9 (by decide)) ⟨Nat.le_of_ble_eq_true rfl, Nat.le_of_ble_eq_true rfl⟩ ⟨by show k + 0 + 0 ≤ 600000; omega, by show n + 0 + 0 ≤ 7302250; omega⟩ rfl (by rw [h9]; try rfl) (Nat.le_of_ble_eq_true rfl) hC9 (fun r1 V2 hq => ?_)
  obtain ⟨rfl, hV2⟩ := hq
  refine l_icmp_eq 950 dL_law_797 (by decide) (fun _ => ?_) (fun z => absurd rfl z)
  exact l_widen (by show k + 0 + 0 ≤ k + 5; omega) (by show n + 0 + 0 ≤ n + 104; omega) (hN E V2 hV2 h8 h9)
theorem la_left (hV : INV E V) (h8 : eA E 8 0 = a8) (h9 : eA E 9 0 = a9) (hk : k ≤ 5000) (hn : n ≤ 200000) (hb : 6 * t + 6 ≤ Ls) (hL3 : Ls ≤ 3072) (hN : ∀ E2 V2, INV E2 V2 → eA E2 8 0 = a8 → eA E2 9 0 = a9 → EvL l G bs Ls xs E2 (k + 5) (n + 104) V2 950 (LLo bs a8 a9 t) [] Q) : EvL l G bs Ls xs E k n V 802 (LLo bs a8 a9 t) [] Q := by
  obtain ⟨n0, gc, tc, sc, tl, ec, m, fr, D, on, sn, ti, tx, yb, gl, tn, tbb, es, hW, hI, hS, hX, hC, hL, hT, hTx, hG, hU, htc⟩ := And.intro True.intro hV |>.2
  have hE := hW.1
  refine l_aload_n (v := .ref a8) dL_law_802 rfl (rl_ref _) ?_
  refine l_arg (j := 1) dL_law_803 dL_law_804 dL_law_805 rfl dL_law_806 dL_law_807 (by decide) hb hL3 ?_
  refine l_arg (j := 2) dL_law_808 dL_law_809 dL_law_810 rfl dL_law_811 dL_law_812 (by decide) hb hL3 ?_
  refine l_cVi (ci := 8) (i := 0) (rY := rm_X8_left) (As := [.int (xs (6 * t + 1)), .int (xs (6 * t + 2))]) (rest := []) dL_law_813 mv_X8_left ml_RL_97 ⟨_, _, rfl⟩ (hE.1 8 (by decide)) ⟨Nat.le_of_ble_eq_true rfl, Nat.le_of_ble_eq_true rfl⟩ ⟨by show k + 0 ≤ 600000; omega, by show n + 0 ≤ 7302250; omega⟩ rfl (by rw [h8]; try rfl) (Nat.le_of_ble_eq_true rfl) (bo_left (K := fun r r2 V2 => r = r2 ∧ INV E V2) hE hG (fun r => ⟨rfl, hV⟩)) (fun r0 V1 hC9 => ?_)
  refine l_aload_n (v := .ref a9) dL_law_816 rfl (rl_ref _) ?_
  refine l_arg (j := 1) dL_law_817 dL_law_818 dL_law_819 rfl dL_law_820 dL_law_821 (by decide) hb hL3 ?_
  refine l_arg (j := 2) dL_law_822 dL_law_823 dL_law_824 rfl dL_law_825 dL_law_826 (by decide) hb hL3 ?_
  refine l_cVi (ci := 9) (i := 0) (rY := rm_X9_left) (As := [.int (xs (6 * t + 1)), .int (xs (6 * t + 2))]) (rest := [.int r0]) dL_law_827 mv_X9_left ml_RL_100 ⟨_, _, rfl⟩ (hE.1 9 (by decide)) ⟨Nat.le_of_ble_eq_true rfl, Nat.le_of_ble_eq_true rfl⟩ ⟨by show k + 0 + 0 ≤ 600000; omega, by show n + 0 + 0 ≤ 7302250; omega⟩ rfl (by rw [h9]; try rfl) (Nat.le_of_ble_eq_true rfl) hC9 (fun r1 V2 hq => ?_)
  obtain ⟨rfl, hV2⟩ := hq
  refine l_icmp_eq 950 dL_law_830 (by decide) (fun _ => ?_) (fun z => absurd rfl z)
  exact l_widen (by show k + 0 + 0 ≤ k + 5; omega) (by show n + 0 + 0 ≤ n + 104; omega) (hN E V2 hV2 h8 h9)
theorem la_work (hV : INV E V) (h8 : eA E 8 0 = a8) (h9 : eA E 9 0 = a9) (hk : k ≤ 5000) (hn : n ≤ 200000) (hb : 6 * t + 6 ≤ Ls) (hL3 : Ls ≤ 3072) (hN : ∀ E2 V2, INV E2 V2 → eA E2 8 0 = a8 → eA E2 9 0 = a9 → EvL l G bs Ls xs E2 (k + 5) (n + 104) V2 950 (LLo bs a8 a9 t) [] Q) : EvL l G bs Ls xs E k n V 835 (LLo bs a8 a9 t) [] Q := by
  obtain ⟨n0, gc, tc, sc, tl, ec, m, fr, D, on, sn, ti, tx, yb, gl, tn, tbb, es, hW, hI, hS, hX, hC, hL, hT, hTx, hG, hU, htc⟩ := And.intro True.intro hV |>.2
  have hE := hW.1
  refine l_aload_n (v := .ref a8) dL_law_835 rfl (rl_ref _) ?_
  refine l_cVi (ci := 8) (i := 0) (rY := rm_X8_work) (As := []) (rest := []) dL_law_836 mv_X8_work ml_RL_101 ⟨_, _, rfl⟩ (hE.1 8 (by decide)) ⟨Nat.le_of_ble_eq_true rfl, Nat.le_of_ble_eq_true rfl⟩ ⟨by show k + 0 ≤ 600000; omega, by show n + 0 ≤ 7302250; omega⟩ rfl (by rw [h8]; try rfl) (Nat.le_of_ble_eq_true rfl) (bo_work (K := fun r r2 V2 => r = r2 ∧ INV E V2) hE hC hTx hU (fun r V2 hO => ⟨rfl, hV.of hO (by decide)⟩)) (fun r0 V1 hC9 => ?_)
  refine l_aload_n (v := .ref a9) dL_law_839 rfl (rl_ref _) ?_
  refine l_cVi (ci := 9) (i := 0) (rY := rm_X9_work) (As := []) (rest := [.int r0]) dL_law_840 mv_X9_work ml_RL_105 ⟨_, _, rfl⟩ (hE.1 9 (by decide)) ⟨Nat.le_of_ble_eq_true rfl, Nat.le_of_ble_eq_true rfl⟩ ⟨by show k + 0 + 0 ≤ 600000; omega, by show n + 0 + 0 ≤ 7302250; omega⟩ rfl (by rw [h9]; try rfl) (Nat.le_of_ble_eq_true rfl) hC9 (fun r1 V2 hq => ?_)
  obtain ⟨rfl, hV2⟩ := hq
  refine l_icmp_eq 950 dL_law_843 (by decide) (fun _ => ?_) (fun z => absurd rfl z)
  exact l_widen (by show k + 0 + 0 ≤ k + 5; omega) (by show n + 0 + 0 ≤ n + 104; omega) (hN E V2 hV2 h8 h9)
theorem la_as (hV : INV E V) (h8 : eA E 8 0 = a8) (h9 : eA E 9 0 = a9) (hk : k ≤ 5000) (hn : n ≤ 200000) (hb : 6 * t + 6 ≤ Ls) (hL3 : Ls ≤ 3072) (hN : ∀ E2 V2, INV E2 V2 → eA E2 8 0 = a8 → eA E2 9 0 = a9 → EvL l G bs Ls xs E2 (k + 5) (n + 104) V2 950 (LLo bs a8 a9 t) [] Q) : EvL l G bs Ls xs E k n V 848 (LLo bs a8 a9 t) [] Q := by
  obtain ⟨n0, gc, tc, sc, tl, ec, m, fr, D, on, sn, ti, tx, yb, gl, tn, tbb, es, hW, hI, hS, hX, hC, hL, hT, hTx, hG, hU, htc⟩ := And.intro True.intro hV |>.2
  have hE := hW.1
  refine l_aload_n (v := .ref a8) dL_law_848 rfl (rl_ref _) ?_
  refine l_arg (j := 1) dL_law_849 dL_law_850 dL_law_851 rfl dL_law_852 dL_law_853 (by decide) hb hL3 ?_
  refine l_arg (j := 2) dL_law_854 dL_law_855 dL_law_856 rfl dL_law_857 dL_law_858 (by decide) hb hL3 ?_
  refine l_cVi (ci := 8) (i := 0) (rY := rm_X8_as) (As := [.int (xs (6 * t + 1)), .int (xs (6 * t + 2))]) (rest := []) dL_law_859 mv_X8_as ml_RL_106 ⟨_, _, rfl⟩ (hE.1 8 (by decide)) ⟨Nat.le_of_ble_eq_true rfl, Nat.le_of_ble_eq_true rfl⟩ ⟨by show k + 0 ≤ 600000; omega, by show n + 0 ≤ 7302250; omega⟩ rfl (by rw [h8]; try rfl) (Nat.le_of_ble_eq_true rfl) (bo_as (K := fun r r2 V2 => r = r2 ∧ INV E V2) hE hI hC hL (fun r => ⟨rfl, hV⟩)) (fun r0 V1 hC9 => ?_)
  refine l_aload_n (v := .ref a9) dL_law_862 rfl (rl_ref _) ?_
  refine l_arg (j := 1) dL_law_863 dL_law_864 dL_law_865 rfl dL_law_866 dL_law_867 (by decide) hb hL3 ?_
  refine l_arg (j := 2) dL_law_868 dL_law_869 dL_law_870 rfl dL_law_871 dL_law_872 (by decide) hb hL3 ?_
  refine l_cVi (ci := 9) (i := 0) (rY := rm_X9_as) (As := [.int (xs (6 * t + 1)), .int (xs (6 * t + 2))]) (rest := [.int r0]) dL_law_873 mv_X9_as ml_RL_109 ⟨_, _, rfl⟩ (hE.1 9 (by decide)) ⟨Nat.le_of_ble_eq_true rfl, Nat.le_of_ble_eq_true rfl⟩ ⟨by show k + 0 + 0 ≤ 600000; omega, by show n + 0 + 0 ≤ 7302250; omega⟩ rfl (by rw [h9]; try rfl) (Nat.le_of_ble_eq_true rfl) hC9 (fun r1 V2 hq => ?_)
  obtain ⟨rfl, hV2⟩ := hq
  refine l_icmp_eq 950 dL_law_876 (by decide) (fun _ => ?_) (fun z => absurd rfl z)
  exact l_widen (by show k + 0 + 0 ≤ k + 5; omega) (by show n + 0 + 0 ≤ n + 104; omega) (hN E V2 hV2 h8 h9)
theorem la_down (hV : INV E V) (h8 : eA E 8 0 = a8) (h9 : eA E 9 0 = a9) (hk : k ≤ 5000) (hn : n ≤ 200000) (hb : 6 * t + 6 ≤ Ls) (hL3 : Ls ≤ 3072) (hN : ∀ E2 V2, INV E2 V2 → eA E2 8 0 = a8 → eA E2 9 0 = a9 → EvL l G bs Ls xs E2 (k + 5) (n + 104) V2 950 (LLo bs a8 a9 t) [] Q) : EvL l G bs Ls xs E k n V 881 (LLo bs a8 a9 t) [] Q := by
  obtain ⟨n0, gc, tc, sc, tl, ec, m, fr, D, on, sn, ti, tx, yb, gl, tn, tbb, es, hW, hI, hS, hX, hC, hL, hT, hTx, hG, hU, htc⟩ := And.intro True.intro hV |>.2
  have hE := hW.1
  refine l_aload_n (v := .ref a8) dL_law_881 rfl (rl_ref _) ?_
  refine l_arg (j := 1) dL_law_882 dL_law_883 dL_law_884 rfl dL_law_885 dL_law_886 (by decide) hb hL3 ?_
  refine l_cVi (ci := 8) (i := 0) (rY := rm_X8_down) (As := [.int (xs (6 * t + 1))]) (rest := []) dL_law_887 mv_X8_down ml_RL_110 ⟨_, _, rfl⟩ (hE.1 8 (by decide)) ⟨Nat.le_of_ble_eq_true rfl, Nat.le_of_ble_eq_true rfl⟩ ⟨by show k + 0 ≤ 600000; omega, by show n + 0 ≤ 7302250; omega⟩ rfl (by rw [h8]; try rfl) (Nat.le_of_ble_eq_true rfl) (bo_down (K := fun r r2 V2 => r = r2 ∧ INV E V2) hE hI (fun r V2 hO => ⟨rfl, hV.of hO (by decide)⟩)) (fun r0 V1 hC9 => ?_)
  refine l_aload_n (v := .ref a9) dL_law_890 rfl (rl_ref _) ?_
  refine l_arg (j := 1) dL_law_891 dL_law_892 dL_law_893 rfl dL_law_894 dL_law_895 (by decide) hb hL3 ?_
  refine l_cVi (ci := 9) (i := 0) (rY := rm_X9_down) (As := [.int (xs (6 * t + 1))]) (rest := [.int r0]) dL_law_896 mv_X9_down ml_RL_113 ⟨_, _, rfl⟩ (hE.1 9 (by decide)) ⟨Nat.le_of_ble_eq_true rfl, Nat.le_of_ble_eq_true rfl⟩ ⟨by show k + 0 + 0 ≤ 600000; omega, by show n + 0 + 0 ≤ 7302250; omega⟩ rfl (by rw [h9]; try rfl) (Nat.le_of_ble_eq_true rfl) hC9 (fun r1 V2 hq => ?_)
  obtain ⟨rfl, hV2⟩ := hq
  refine l_icmp_eq 950 dL_law_899 (by decide) (fun _ => ?_) (fun z => absurd rfl z)
  exact l_widen (by show k + 0 + 0 ≤ k + 5; omega) (by show n + 0 + 0 ≤ n + 104; omega) (hN E V2 hV2 h8 h9)
theorem la_needs (hV : INV E V) (h8 : eA E 8 0 = a8) (h9 : eA E 9 0 = a9) (hk : k ≤ 5000) (hn : n ≤ 200000) (hb : 6 * t + 6 ≤ Ls) (hL3 : Ls ≤ 3072) (hN : ∀ E2 V2, INV E2 V2 → eA E2 8 0 = a8 → eA E2 9 0 = a9 → EvL l G bs Ls xs E2 (k + 5) (n + 104) V2 950 (LLo bs a8 a9 t) [] Q) : EvL l G bs Ls xs E k n V 904 (LLo bs a8 a9 t) [] Q := by
  obtain ⟨n0, gc, tc, sc, tl, ec, m, fr, D, on, sn, ti, tx, yb, gl, tn, tbb, es, hW, hI, hS, hX, hC, hL, hT, hTx, hG, hU, htc⟩ := And.intro True.intro hV |>.2
  have hE := hW.1
  refine l_aload_n (v := .ref a8) dL_law_904 rfl (rl_ref _) ?_
  refine l_arg (j := 1) dL_law_905 dL_law_906 dL_law_907 rfl dL_law_908 dL_law_909 (by decide) hb hL3 ?_
  refine l_cVi (ci := 8) (i := 0) (rY := rm_X8_needs) (As := [.int (xs (6 * t + 1))]) (rest := []) dL_law_910 mv_X8_needs ml_RL_114 ⟨_, _, rfl⟩ (hE.1 8 (by decide)) ⟨Nat.le_of_ble_eq_true rfl, Nat.le_of_ble_eq_true rfl⟩ ⟨by show k + 0 ≤ 600000; omega, by show n + 0 ≤ 7302250; omega⟩ rfl (by rw [h8]; try rfl) (Nat.le_of_ble_eq_true rfl) (bo_needs (K := fun r r2 V2 => r = r2 ∧ INV E V2) hE hI (fun r V2 hO => ⟨rfl, hV.of hO (by decide)⟩)) (fun r0 V1 hC9 => ?_)
  refine l_aload_n (v := .ref a9) dL_law_913 rfl (rl_ref _) ?_
  refine l_arg (j := 1) dL_law_914 dL_law_915 dL_law_916 rfl dL_law_917 dL_law_918 (by decide) hb hL3 ?_
  refine l_cVi (ci := 9) (i := 0) (rY := rm_X9_needs) (As := [.int (xs (6 * t + 1))]) (rest := [.int r0]) dL_law_919 mv_X9_needs ml_RL_117 ⟨_, _, rfl⟩ (hE.1 9 (by decide)) ⟨Nat.le_of_ble_eq_true rfl, Nat.le_of_ble_eq_true rfl⟩ ⟨by show k + 0 + 0 ≤ 600000; omega, by show n + 0 + 0 ≤ 7302250; omega⟩ rfl (by rw [h9]; try rfl) (Nat.le_of_ble_eq_true rfl) hC9 (fun r1 V2 hq => ?_)
  obtain ⟨rfl, hV2⟩ := hq
  refine l_icmp_eq 950 dL_law_922 (by decide) (fun _ => ?_) (fun z => absurd rfl z)
  exact l_widen (by show k + 0 + 0 ≤ k + 5; omega) (by show n + 0 + 0 ≤ n + 104; omega) (hN E V2 hV2 h8 h9)
theorem la_count (hV : INV E V) (h8 : eA E 8 0 = a8) (h9 : eA E 9 0 = a9) (hk : k ≤ 5000) (hn : n ≤ 200000) (hb : 6 * t + 6 ≤ Ls) (hL3 : Ls ≤ 3072) (hN : ∀ E2 V2, INV E2 V2 → eA E2 8 0 = a8 → eA E2 9 0 = a9 → EvL l G bs Ls xs E2 (k + 5) (n + 104) V2 950 (LLo bs a8 a9 t) [] Q) : EvL l G bs Ls xs E k n V 927 (LLo bs a8 a9 t) [] Q := by
  obtain ⟨n0, gc, tc, sc, tl, ec, m, fr, D, on, sn, ti, tx, yb, gl, tn, tbb, es, hW, hI, hS, hX, hC, hL, hT, hTx, hG, hU, htc⟩ := And.intro True.intro hV |>.2
  have hE := hW.1
  refine l_aload_n (v := .ref a8) dL_law_927 rfl (rl_ref _) ?_
  refine l_arg (j := 1) dL_law_928 dL_law_929 dL_law_930 rfl dL_law_931 dL_law_932 (by decide) hb hL3 ?_
  refine l_cVi (ci := 8) (i := 0) (rY := rm_X8_count) (As := [.int (xs (6 * t + 1))]) (rest := []) dL_law_933 mv_X8_count ml_RL_118 ⟨_, _, rfl⟩ (hE.1 8 (by decide)) ⟨Nat.le_of_ble_eq_true rfl, Nat.le_of_ble_eq_true rfl⟩ ⟨by show k + 0 ≤ 600000; omega, by show n + 0 ≤ 7302250; omega⟩ rfl (by rw [h8]; try rfl) (Nat.le_of_ble_eq_true rfl) (bo_count (K := fun r r2 V2 => r = r2 ∧ INV E V2) hE hI hX hC hT hG hU (fun r => ⟨rfl, hV⟩)) (fun r0 V1 hC9 => ?_)
  refine l_aload_n (v := .ref a9) dL_law_936 rfl (rl_ref _) ?_
  refine l_arg (j := 1) dL_law_937 dL_law_938 dL_law_939 rfl dL_law_940 dL_law_941 (by decide) hb hL3 ?_
  refine l_cVi (ci := 9) (i := 0) (rY := rm_X9_count) (As := [.int (xs (6 * t + 1))]) (rest := [.int r0]) dL_law_942 mv_X9_count ml_RL_121 ⟨_, _, rfl⟩ (hE.1 9 (by decide)) ⟨Nat.le_of_ble_eq_true rfl, Nat.le_of_ble_eq_true rfl⟩ ⟨by show k + 0 + 0 ≤ 600000; omega, by show n + 0 + 0 ≤ 7302250; omega⟩ rfl (by rw [h9]; try rfl) (Nat.le_of_ble_eq_true rfl) hC9 (fun r1 V2 hq => ?_)
  obtain ⟨rfl, hV2⟩ := hq
  refine l_icmp_eq 950 dL_law_945 (by decide) (fun _ => ?_) (fun z => absurd rfl z)
  exact l_widen (by show k + 0 + 0 ≤ k + 5; omega) (by show n + 0 + 0 ≤ n + 104; omega) (hN E V2 hV2 h8 h9)
end Cases

noncomputable def bX7_digest_158 (F : Nat) (k158 : (Int64 × Int32 × gS) → Option (Int64 × gS)) (x1 : Int64) (x3 : Int32) (S : gS) : Option (Int64 × gS) := if (3 : Int32) < x3 then ((fX7_longer F S).bind (fun q2 : Int32 × gS => gl (((31 : Int64) * x1) + (q2.1).toInt64) (fun v3 : Int64 => (fX7_first F (0 : Int32) q2.2).bind (fun q4 : Int32 × gS => gl (((31 : Int64) * v3) + (q4.1).toInt64) (fun v5 : Int64 => (fX7_first F (1 : Int32) q4.2).bind (fun q6 : Int32 × gS => gl (((31 : Int64) * v5) + (q6.1).toInt64) (fun v7 : Int64 => (fX7_seekYard F q6.2).bind (fun q8 : gS => gl (((31 : Int64) * v7) + ((g_I q8 0 10)).toInt64) (fun v9 : Int64 => gl (((31 : Int64) * v9) + ((g_I q8 0 11)).toInt64) (fun v10 : Int64 => (fX7_falls F (0 : Int32) q8).bind (fun q11 : Int64 × gS => gl (((31 : Int64) * v10) + q11.1) (fun v12 : Int64 => (fX7_falls F (1 : Int32) q11.2).bind (fun q13 : Int64 × gS => gl (((31 : Int64) * v12) + q13.1) (fun v14 : Int64 => (fX7_left F (2 : Int32) (0 : Int32) q13.2).bind (fun q15 : Int64 × gS => gl (((31 : Int64) * v14) + q15.1) (fun v16 : Int64 => (fX7_left F (2 : Int32) (1 : Int32) q15.2).bind (fun q17 : Int64 × gS => gl (((31 : Int64) * v16) + q17.1) (fun v18 : Int64 => some (v18, q17.2))))))))))))))))))) else ((fX7_told F x3 S).bind (fun q19 : Int32 × gS => gl (((31 : Int64) * x1) + (q19.1).toInt64) (fun v20 : Int64 => gl (x3 + 1) (fun v21 : Int32 => k158 (v20, v21, q19.2)))))
set_option maxRecDepth 20000 in
theorem bX7_digest_158_ok {X : gX} {F : Nat} {k158 : (Int64 × Int32 × gS) → Option (Int64 × gS)} {R : Int64 × gS} (H158 : ∀ s : Int64 × Int32 × gS, k158 s = some R → G X RX7 cX7_digest 5 (some .long) 7 (some (.long R.1)) R.2 158 [(0, .ref (X.1 + 0)), (1, .long s.1), (3, .int s.2.1)] [] s.2.2) {x1 : Int64} {x3 : Int32} {S : gS} (h : bX7_digest_158 F k158 x1 x3 S = some R) : G X RX7 cX7_digest 5 (some .long) 7 (some (.long R.1)) R.2 158 [(0, .ref (X.1 + 0)), (1, .long x1), (3, .int x3)] [] S := by
  unfold bX7_digest_158 at h
  refine g_iload_n dX7_digest_158 2 rfl rfl ?_
  refine g_iconst (v := 3) dX7_digest_159 (by decide) ?_
  refine g_icmp_gt (tgt := 182) dX7_digest_160 (by decide) (fun hc1 => ?_) (fun hc1 => ?_)
  · replace h := git hc1 h
    refine g_ldc2 dX7_digest_182 ck_X7_305 ?_
    refine g_lload_n dX7_digest_185 1 rfl rfl ?_
    refine g_lmul dX7_digest_186 ?_
    refine g_aload_n dX7_digest_187 0 rfl rfl ?_
    obtain ⟨q2, hq2, h⟩ := gb h
    refine g_callVi [] [.long ((31 : Int64) * x1)] dX7_digest_188 mk_X7_322 so_0 (ctX7_longer hq2) rfl (by decide) rfl (Nat.le_of_ble_eq_true rfl) ?_
    refine g_i2l dX7_digest_191 ?_
    refine g_ladd dX7_digest_192 ?_
    obtain ⟨v3, ev3, h⟩ := gle h
    refine g_lstore_n (lv' := [(1, .long v3), (0, .ref (X.1 + 0)), (3, .int x3)]) dX7_digest_193 ev3 rfl (by decide) rfl ?_
    refine g_ldc2 dX7_digest_194 ck_X7_305 ?_
    refine g_lload_n dX7_digest_197 0 rfl rfl ?_
    refine g_lmul dX7_digest_198 ?_
    refine g_aload_n dX7_digest_199 1 rfl rfl ?_
    refine g_iconst (v := 0) dX7_digest_200 (by decide) ?_
    obtain ⟨q4, hq4, h⟩ := gb h
    refine g_callVi [.int (0 : Int32)] [.long ((31 : Int64) * v3)] dX7_digest_201 mk_X7_325 so_0 (ctX7_first hq4) rfl (by decide) rfl (Nat.le_of_ble_eq_true rfl) ?_
    refine g_i2l dX7_digest_204 ?_
    refine g_ladd dX7_digest_205 ?_
    obtain ⟨v5, ev5, h⟩ := gle h
    refine g_lstore_n (lv' := [(1, .long v5), (0, .ref (X.1 + 0)), (3, .int x3)]) dX7_digest_206 ev5 rfl (by decide) rfl ?_
    refine g_ldc2 dX7_digest_207 ck_X7_305 ?_
    refine g_lload_n dX7_digest_210 0 rfl rfl ?_
    refine g_lmul dX7_digest_211 ?_
    refine g_aload_n dX7_digest_212 1 rfl rfl ?_
    refine g_iconst (v := 1) dX7_digest_213 (by decide) ?_
    obtain ⟨q6, hq6, h⟩ := gb h
    refine g_callVi [.int (1 : Int32)] [.long ((31 : Int64) * v5)] dX7_digest_214 mk_X7_325 so_0 (ctX7_first hq6) rfl (by decide) rfl (Nat.le_of_ble_eq_true rfl) ?_
    refine g_i2l dX7_digest_217 ?_
    refine g_ladd dX7_digest_218 ?_
    obtain ⟨v7, ev7, h⟩ := gle h
    refine g_lstore_n (lv' := [(1, .long v7), (0, .ref (X.1 + 0)), (3, .int x3)]) dX7_digest_219 ev7 rfl (by decide) rfl ?_
    refine g_aload_n dX7_digest_220 1 rfl rfl ?_
    obtain ⟨q8, hq8, h⟩ := gb h
    refine g_callVv [] [] dX7_digest_221 mk_X7_222 so_0 (ctX7_seekYard hq8) rfl (by decide) rfl (Nat.le_of_ble_eq_true rfl) ?_
    refine g_ldc2 dX7_digest_224 ck_X7_305 ?_
    refine g_lload_n dX7_digest_227 0 rfl rfl ?_
    refine g_lmul dX7_digest_228 ?_
    refine g_aload_n dX7_digest_229 1 rfl rfl ?_
    refine g_geti dX7_digest_230 lk_X7_71 sf_0_10 ?_
    refine g_i2l dX7_digest_233 ?_
    refine g_ladd dX7_digest_234 ?_
    obtain ⟨v9, ev9, h⟩ := gle h
    refine g_lstore_n (lv' := [(1, .long v9), (0, .ref (X.1 + 0)), (3, .int x3)]) dX7_digest_235 ev9 rfl (by decide) rfl ?_
    refine g_ldc2 dX7_digest_236 ck_X7_305 ?_
    refine g_lload_n dX7_digest_239 0 rfl rfl ?_
    refine g_lmul dX7_digest_240 ?_
    refine g_aload_n dX7_digest_241 1 rfl rfl ?_
    refine g_geti dX7_digest_242 lk_X7_74 sf_0_11 ?_
    refine g_i2l dX7_digest_245 ?_
    refine g_ladd dX7_digest_246 ?_
    obtain ⟨v10, ev10, h⟩ := gle h
    refine g_lstore_n (lv' := [(1, .long v10), (0, .ref (X.1 + 0)), (3, .int x3)]) dX7_digest_247 ev10 rfl (by decide) rfl ?_
    refine g_ldc2 dX7_digest_248 ck_X7_305 ?_
    refine g_lload_n dX7_digest_251 0 rfl rfl ?_
    refine g_lmul dX7_digest_252 ?_
    refine g_aload_n dX7_digest_253 1 rfl rfl ?_
    refine g_iconst (v := 0) dX7_digest_254 (by decide) ?_
    obtain ⟨q11, hq11, h⟩ := gb h
    refine g_callVl [.int (0 : Int32)] [.long ((31 : Int64) * v10)] dX7_digest_255 mk_X7_328 so_0 (ctX7_falls hq11) rfl (by decide) rfl (Nat.le_of_ble_eq_true rfl) ?_
    refine g_ladd dX7_digest_258 ?_
    obtain ⟨v12, ev12, h⟩ := gle h
    refine g_lstore_n (lv' := [(1, .long v12), (0, .ref (X.1 + 0)), (3, .int x3)]) dX7_digest_259 ev12 rfl (by decide) rfl ?_
    refine g_ldc2 dX7_digest_260 ck_X7_305 ?_
    refine g_lload_n dX7_digest_263 0 rfl rfl ?_
    refine g_lmul dX7_digest_264 ?_
    refine g_aload_n dX7_digest_265 1 rfl rfl ?_
    refine g_iconst (v := 1) dX7_digest_266 (by decide) ?_
    obtain ⟨q13, hq13, h⟩ := gb h
    refine g_callVl [.int (1 : Int32)] [.long ((31 : Int64) * v12)] dX7_digest_267 mk_X7_328 so_0 (ctX7_falls hq13) rfl (by decide) rfl (Nat.le_of_ble_eq_true rfl) ?_
    refine g_ladd dX7_digest_270 ?_
    obtain ⟨v14, ev14, h⟩ := gle h
    refine g_lstore_n (lv' := [(1, .long v14), (0, .ref (X.1 + 0)), (3, .int x3)]) dX7_digest_271 ev14 rfl (by decide) rfl ?_
    refine g_ldc2 dX7_digest_272 ck_X7_305 ?_
    refine g_lload_n dX7_digest_275 0 rfl rfl ?_
    refine g_lmul dX7_digest_276 ?_
    refine g_aload_n dX7_digest_277 1 rfl rfl ?_
    refine g_iconst (v := 2) dX7_digest_278 (by decide) ?_
    refine g_iconst (v := 0) dX7_digest_279 (by decide) ?_
    obtain ⟨q15, hq15, h⟩ := gb h
    refine g_callVl [.int (2 : Int32), .int (0 : Int32)] [.long ((31 : Int64) * v14)] dX7_digest_280 mk_X7_225 so_0 (ctX7_left hq15) rfl (by decide) rfl (Nat.le_of_ble_eq_true rfl) ?_
    refine g_ladd dX7_digest_283 ?_
    obtain ⟨v16, ev16, h⟩ := gle h
    refine g_lstore_n (lv' := [(1, .long v16), (0, .ref (X.1 + 0)), (3, .int x3)]) dX7_digest_284 ev16 rfl (by decide) rfl ?_
    refine g_ldc2 dX7_digest_285 ck_X7_305 ?_
    refine g_lload_n dX7_digest_288 0 rfl rfl ?_
    refine g_lmul dX7_digest_289 ?_
    refine g_aload_n dX7_digest_290 1 rfl rfl ?_
    refine g_iconst (v := 2) dX7_digest_291 (by decide) ?_
    refine g_iconst (v := 1) dX7_digest_292 (by decide) ?_
    obtain ⟨q17, hq17, h⟩ := gb h
    refine g_callVl [.int (2 : Int32), .int (1 : Int32)] [.long ((31 : Int64) * v16)] dX7_digest_293 mk_X7_225 so_0 (ctX7_left hq17) rfl (by decide) rfl (Nat.le_of_ble_eq_true rfl) ?_
    refine g_ladd dX7_digest_296 ?_
    obtain ⟨v18, ev18, h⟩ := gle h
    refine g_lstore_n (lv' := [(1, .long v18), (0, .ref (X.1 + 0)), (3, .int x3)]) dX7_digest_297 ev18 rfl (by decide) rfl ?_
    refine g_lload_n dX7_digest_298 0 rfl rfl ?_
    obtain rfl := Option.some.inj h
    exact g_lret dX7_digest_299 rfl
  · replace h := gif hc1 h
    refine g_ldc2 dX7_digest_163 ck_X7_305 ?_
    refine g_lload_n dX7_digest_166 1 rfl rfl ?_
    refine g_lmul dX7_digest_167 ?_
    refine g_aload_n dX7_digest_168 0 rfl rfl ?_
    refine g_iload_n dX7_digest_169 2 rfl rfl ?_
    obtain ⟨q19, hq19, h⟩ := gb h
    refine g_callVi [.int x3] [.long ((31 : Int64) * x1)] dX7_digest_170 mk_X7_197 so_0 (ctX7_told hq19) rfl (by decide) rfl (Nat.le_of_ble_eq_true rfl) ?_
    refine g_i2l dX7_digest_173 ?_
    refine g_ladd dX7_digest_174 ?_
    obtain ⟨v20, ev20, h⟩ := gle h
    refine g_lstore_n (lv' := [(1, .long v20), (0, .ref (X.1 + 0)), (3, .int x3)]) dX7_digest_175 ev20 rfl (by decide) rfl ?_
    obtain ⟨v21, ev21, h⟩ := gle h
    refine g_iinc (q := 2) (v := v21) (lv' := [(3, .int v21), (1, .long v20), (0, .ref (X.1 + 0))]) dX7_digest_176 rfl (by rw [← ev21]; rfl) (by decide) rfl ?_
    refine g_goto (tgt := 158) dX7_digest_179 (by decide) ?_
    refine g_sub [2, 1, 0] rfl ?_
    exact H158 (v20, v21, q19.2) h
noncomputable def bX7_digest_158l (F : Nat) : Nat → (Int64 × Int32 × gS) → Option (Int64 × gS) := g_fix (fun k158 s => bX7_digest_158 F k158 s.1 s.2.1 s.2.2)
theorem bX7_digest_158l_ok {X : gX} {F : Nat} {R : Int64 × gS} : ∀ (n : Nat) (s : Int64 × Int32 × gS), bX7_digest_158l F n s = some R → G X RX7 cX7_digest 5 (some .long) 7 (some (.long R.1)) R.2 158 [(0, .ref (X.1 + 0)), (1, .long s.1), (3, .int s.2.1)] [] s.2.2 := by
  intro n
  induction n with
  | zero => intro s h; cases h
  | succ n ih => intro s h; exact bX7_digest_158_ok (F := F) ih h
noncomputable def bX7_digest_89 (F : Nat) (k89 : (Int64 × Int32 × gS) → Option (Int64 × gS)) (x1 : Int64) (x3 : Int32) (S : gS) : Option (Int64 × gS) := if (g_I S 9 2) ≤ x3 then ((fX7_tryMorning F (-1 : Int32) (-1 : Int32) S).bind (fun q2 : gS => bX7_digest_158l F F (x1, (0 : Int32), q2))) else ((fX7_straight F x3 S).bind (fun q3 : Int32 × gS => gl (((31 : Int64) * x1) + (q3.1).toInt64) (fun v4 : Int64 => g_chk x3 8 (g_chk x3 8 ((fX7_plan F (g_I q3.2 10 (x3).toNatClampNeg) (g_I q3.2 11 (x3).toNatClampNeg) (-1 : Int32) q3.2).bind (fun q7 : Int32 × gS => gl (((31 : Int64) * v4) + (q7.1).toInt64) (fun v8 : Int64 => gl (x3 + 1) (fun v9 : Int32 => k89 (v8, v9, q7.2)))))))))
set_option maxRecDepth 20000 in
theorem bX7_digest_89_ok {X : gX} {F : Nat} {k89 : (Int64 × Int32 × gS) → Option (Int64 × gS)} {R : Int64 × gS} (H89 : ∀ s : Int64 × Int32 × gS, k89 s = some R → G X RX7 cX7_digest 5 (some .long) 7 (some (.long R.1)) R.2 89 [(0, .ref (X.1 + 0)), (1, .long s.1), (3, .int s.2.1)] [] s.2.2) {x1 : Int64} {x3 : Int32} {S : gS} (h : bX7_digest_89 F k89 x1 x3 S = some R) : G X RX7 cX7_digest 5 (some .long) 7 (some (.long R.1)) R.2 89 [(0, .ref (X.1 + 0)), (1, .long x1), (3, .int x3)] [] S := by
  unfold bX7_digest_89 at h
  refine g_iload_n dX7_digest_89 2 rfl rfl ?_
  refine g_aload_n dX7_digest_90 0 rfl rfl ?_
  refine g_getr dX7_digest_91 lk_X7_26 sf_0_2 ?_
  refine g_geti dX7_digest_94 lk_X7_155 sf_9_2 ?_
  refine g_icmp_ge (tgt := 150) dX7_digest_97 (by decide) (fun hc1 => ?_) (fun hc1 => ?_)
  · replace h := git hc1 h
    refine g_aload_n dX7_digest_150 0 rfl rfl ?_
    refine g_iconst (v := -1) dX7_digest_151 (by decide) ?_
    refine g_iconst (v := -1) dX7_digest_152 (by decide) ?_
    obtain ⟨q2, hq2, h⟩ := gb h
    refine g_callVv [.int (-1 : Int32), .int (-1 : Int32)] [] dX7_digest_153 mk_X7_193 so_0 (ctX7_tryMorning hq2) rfl (by decide) rfl (Nat.le_of_ble_eq_true rfl) ?_
    refine g_iconst (v := 0) dX7_digest_156 (by decide) ?_
    refine g_istore_n (lv' := [(3, .int (0 : Int32)), (0, .ref (X.1 + 0)), (1, .long x1)]) dX7_digest_157 rfl rfl (by decide) rfl ?_
    refine g_sub [1, 2, 0] rfl ?_
    exact bX7_digest_158l_ok F (x1, (0 : Int32), q2) h
  · replace h := gif hc1 h
    refine g_ldc2 dX7_digest_100 ck_X7_305 ?_
    refine g_lload_n dX7_digest_103 1 rfl rfl ?_
    refine g_lmul dX7_digest_104 ?_
    refine g_aload_n dX7_digest_105 0 rfl rfl ?_
    refine g_iload_n dX7_digest_106 2 rfl rfl ?_
    obtain ⟨q3, hq3, h⟩ := gb h
    refine g_callVi [.int x3] [.long ((31 : Int64) * x1)] dX7_digest_107 mk_X7_316 so_0 (ctX7_straight hq3) rfl (by decide) rfl (Nat.le_of_ble_eq_true rfl) ?_
    refine g_i2l dX7_digest_110 ?_
    refine g_ladd dX7_digest_111 ?_
    obtain ⟨v4, ev4, h⟩ := gle h
    refine g_lstore_n (lv' := [(1, .long v4), (0, .ref (X.1 + 0)), (3, .int x3)]) dX7_digest_112 ev4 rfl (by decide) rfl ?_
    refine g_ldc2 dX7_digest_113 ck_X7_305 ?_
    refine g_lload_n dX7_digest_116 0 rfl rfl ?_
    refine g_lmul dX7_digest_117 ?_
    refine g_aload_n dX7_digest_118 1 rfl rfl ?_
    refine g_aload_n dX7_digest_119 1 rfl rfl ?_
    refine g_getr dX7_digest_120 lk_X7_26 sf_0_2 ?_
    refine g_getr dX7_digest_123 lk_X7_176 sf_9_0 ?_
    refine g_iload_n dX7_digest_126 2 rfl rfl ?_
    obtain ⟨hv5, h⟩ := gchk h
    refine g_iald dX7_digest_127 sa_10 hv5 ?_
    refine g_aload_n dX7_digest_128 1 rfl rfl ?_
    refine g_getr dX7_digest_129 lk_X7_26 sf_0_2 ?_
    refine g_getr dX7_digest_132 lk_X7_179 sf_9_1 ?_
    refine g_iload_n dX7_digest_135 2 rfl rfl ?_
    obtain ⟨hv6, h⟩ := gchk h
    refine g_iald dX7_digest_136 sa_11 hv6 ?_
    refine g_iconst (v := -1) dX7_digest_137 (by decide) ?_
    obtain ⟨q7, hq7, h⟩ := gb h
    refine g_callVi [.int (g_I q3.2 10 (x3).toNatClampNeg), .int (g_I q3.2 11 (x3).toNatClampNeg), .int (-1 : Int32)] [.long ((31 : Int64) * v4)] dX7_digest_138 mk_X7_319 so_0 (ctX7_plan hq7) rfl (by decide) rfl (Nat.le_of_ble_eq_true rfl) ?_
    refine g_i2l dX7_digest_141 ?_
    refine g_ladd dX7_digest_142 ?_
    obtain ⟨v8, ev8, h⟩ := gle h
    refine g_lstore_n (lv' := [(1, .long v8), (0, .ref (X.1 + 0)), (3, .int x3)]) dX7_digest_143 ev8 rfl (by decide) rfl ?_
    obtain ⟨v9, ev9, h⟩ := gle h
    refine g_iinc (q := 2) (v := v9) (lv' := [(3, .int v9), (1, .long v8), (0, .ref (X.1 + 0))]) dX7_digest_144 rfl (by rw [← ev9]; rfl) (by decide) rfl ?_
    refine g_goto (tgt := 89) dX7_digest_147 (by decide) ?_
    refine g_sub [2, 1, 0] rfl ?_
    exact H89 (v8, v9, q7.2) h
noncomputable def bX7_digest_89l (F : Nat) : Nat → (Int64 × Int32 × gS) → Option (Int64 × gS) := g_fix (fun k89 s => bX7_digest_89 F k89 s.1 s.2.1 s.2.2)
theorem bX7_digest_89l_ok {X : gX} {F : Nat} {R : Int64 × gS} : ∀ (n : Nat) (s : Int64 × Int32 × gS), bX7_digest_89l F n s = some R → G X RX7 cX7_digest 5 (some .long) 7 (some (.long R.1)) R.2 89 [(0, .ref (X.1 + 0)), (1, .long s.1), (3, .int s.2.1)] [] s.2.2 := by
  intro n
  induction n with
  | zero => intro s h; cases h
  | succ n ih => intro s h; exact bX7_digest_89_ok (F := F) ih h
noncomputable def bX7_digest_54 (F : Nat) (k45 : (Int64 × Int32 × gS) → Option (Int64 × gS)) (k54 : (Int64 × Int32 × Int32 × gS) → Option (Int64 × gS)) (x1 : Int64) (x3 : Int32) (x4 : Int32) (S : gS) : Option (Int64 × gS) := if (4 : Int32) < x4 then (gl (x3 + 1) (fun v2 : Int32 => k45 (x1, v2, S))) else ((fX7_cell F x3 x4 S).bind (fun q3 : Int32 × gS => gl (((31 : Int64) * x1) + (q3.1).toInt64) (fun v4 : Int64 => gl (x4 + 1) (fun v5 : Int32 => k54 (v4, x3, v5, q3.2)))))
set_option maxRecDepth 20000 in
theorem bX7_digest_54_ok {X : gX} {F : Nat} {k45 : (Int64 × Int32 × gS) → Option (Int64 × gS)} {k54 : (Int64 × Int32 × Int32 × gS) → Option (Int64 × gS)} {R : Int64 × gS} (H45 : ∀ s : Int64 × Int32 × gS, k45 s = some R → G X RX7 cX7_digest 5 (some .long) 7 (some (.long R.1)) R.2 45 [(0, .ref (X.1 + 0)), (1, .long s.1), (3, .int s.2.1)] [] s.2.2) (H54 : ∀ s : Int64 × Int32 × Int32 × gS, k54 s = some R → G X RX7 cX7_digest 5 (some .long) 7 (some (.long R.1)) R.2 54 [(0, .ref (X.1 + 0)), (1, .long s.1), (3, .int s.2.1), (4, .int s.2.2.1)] [] s.2.2.2) {x1 : Int64} {x3 : Int32} {x4 : Int32} {S : gS} (h : bX7_digest_54 F k45 k54 x1 x3 x4 S = some R) : G X RX7 cX7_digest 5 (some .long) 7 (some (.long R.1)) R.2 54 [(0, .ref (X.1 + 0)), (1, .long x1), (3, .int x3), (4, .int x4)] [] S := by
  unfold bX7_digest_54 at h
  refine g_iload dX7_digest_54 3 rfl ?_
  refine g_iconst (v := 4) dX7_digest_56 (by decide) ?_
  refine g_icmp_gt (tgt := 81) dX7_digest_57 (by decide) (fun hc1 => ?_) (fun hc1 => ?_)
  · replace h := git hc1 h
    obtain ⟨v2, ev2, h⟩ := gle h
    refine g_iinc (q := 2) (v := v2) (lv' := [(3, .int v2), (0, .ref (X.1 + 0)), (1, .long x1), (4, .int x4)]) dX7_digest_81 rfl (by rw [← ev2]; rfl) (by decide) rfl ?_
    refine g_goto (tgt := 45) dX7_digest_84 (by decide) ?_
    refine g_sub [1, 2, 0] rfl ?_
    exact H45 (x1, v2, S) h
  · replace h := gif hc1 h
    refine g_ldc2 dX7_digest_60 ck_X7_305 ?_
    refine g_lload_n dX7_digest_63 1 rfl rfl ?_
    refine g_lmul dX7_digest_64 ?_
    refine g_aload_n dX7_digest_65 0 rfl rfl ?_
    refine g_iload_n dX7_digest_66 2 rfl rfl ?_
    refine g_iload dX7_digest_67 3 rfl ?_
    obtain ⟨q3, hq3, h⟩ := gb h
    refine g_callVi [.int x3, .int x4] [.long ((31 : Int64) * x1)] dX7_digest_69 mk_X7_313 so_0 (ctX7_cell hq3) rfl (by decide) rfl (Nat.le_of_ble_eq_true rfl) ?_
    refine g_i2l dX7_digest_72 ?_
    refine g_ladd dX7_digest_73 ?_
    obtain ⟨v4, ev4, h⟩ := gle h
    refine g_lstore_n (lv' := [(1, .long v4), (0, .ref (X.1 + 0)), (3, .int x3), (4, .int x4)]) dX7_digest_74 ev4 rfl (by decide) rfl ?_
    obtain ⟨v5, ev5, h⟩ := gle h
    refine g_iinc (q := 3) (v := v5) (lv' := [(4, .int v5), (1, .long v4), (0, .ref (X.1 + 0)), (3, .int x3)]) dX7_digest_75 rfl (by rw [← ev5]; rfl) (by decide) rfl ?_
    refine g_goto (tgt := 54) dX7_digest_78 (by decide) ?_
    refine g_sub [2, 1, 3, 0] rfl ?_
    exact H54 (v4, x3, v5, q3.2) h
noncomputable def bX7_digest_54l (F : Nat) (k45 : (Int64 × Int32 × gS) → Option (Int64 × gS)) : Nat → (Int64 × Int32 × Int32 × gS) → Option (Int64 × gS) := g_fix (fun k54 s => bX7_digest_54 F k45 k54 s.1 s.2.1 s.2.2.1 s.2.2.2)
theorem bX7_digest_54l_ok {X : gX} {F : Nat} {k45 : (Int64 × Int32 × gS) → Option (Int64 × gS)} {R : Int64 × gS} (H45 : ∀ s : Int64 × Int32 × gS, k45 s = some R → G X RX7 cX7_digest 5 (some .long) 7 (some (.long R.1)) R.2 45 [(0, .ref (X.1 + 0)), (1, .long s.1), (3, .int s.2.1)] [] s.2.2) : ∀ (n : Nat) (s : Int64 × Int32 × Int32 × gS), bX7_digest_54l F k45 n s = some R → G X RX7 cX7_digest 5 (some .long) 7 (some (.long R.1)) R.2 54 [(0, .ref (X.1 + 0)), (1, .long s.1), (3, .int s.2.1), (4, .int s.2.2.1)] [] s.2.2.2 := by
  intro n
  induction n with
  | zero => intro s h; cases h
  | succ n ih => intro s h; exact bX7_digest_54_ok (F := F) H45 ih h
noncomputable def bX7_digest_45 (F : Nat) (k45 : (Int64 × Int32 × gS) → Option (Int64 × gS)) (x1 : Int64) (x3 : Int32) (S : gS) : Option (Int64 × gS) := if (64 : Int32) ≤ x3 then (bX7_digest_89l F F (x1, (0 : Int32), S)) else (bX7_digest_54l F k45 F (x1, x3, (0 : Int32), S))
set_option maxRecDepth 20000 in
theorem bX7_digest_45_ok {X : gX} {F : Nat} {k45 : (Int64 × Int32 × gS) → Option (Int64 × gS)} {R : Int64 × gS} (H45 : ∀ s : Int64 × Int32 × gS, k45 s = some R → G X RX7 cX7_digest 5 (some .long) 7 (some (.long R.1)) R.2 45 [(0, .ref (X.1 + 0)), (1, .long s.1), (3, .int s.2.1)] [] s.2.2) {x1 : Int64} {x3 : Int32} {S : gS} (h : bX7_digest_45 F k45 x1 x3 S = some R) : G X RX7 cX7_digest 5 (some .long) 7 (some (.long R.1)) R.2 45 [(0, .ref (X.1 + 0)), (1, .long x1), (3, .int x3)] [] S := by
  unfold bX7_digest_45 at h
  refine g_iload_n dX7_digest_45 2 rfl rfl ?_
  refine g_bipush (v := 64) dX7_digest_46 (by decide) ?_
  refine g_icmp_ge (tgt := 87) dX7_digest_48 (by decide) (fun hc1 => ?_) (fun hc1 => ?_)
  · replace h := git hc1 h
    refine g_iconst (v := 0) dX7_digest_87 (by decide) ?_
    refine g_istore_n (lv' := [(3, .int (0 : Int32)), (0, .ref (X.1 + 0)), (1, .long x1)]) dX7_digest_88 rfl rfl (by decide) rfl ?_
    refine g_sub [1, 2, 0] rfl ?_
    exact bX7_digest_89l_ok F (x1, (0 : Int32), S) h
  · replace h := gif hc1 h
    refine g_iconst (v := 0) dX7_digest_51 (by decide) ?_
    refine g_istore (lv' := [(4, .int (0 : Int32)), (0, .ref (X.1 + 0)), (1, .long x1), (3, .int x3)]) dX7_digest_52 rfl (by decide) rfl ?_
    refine g_sub [1, 2, 3, 0] rfl ?_
    exact bX7_digest_54l_ok H45 F (x1, x3, (0 : Int32), S) h
noncomputable def bX7_digest_45l (F : Nat) : Nat → (Int64 × Int32 × gS) → Option (Int64 × gS) := g_fix (fun k45 s => bX7_digest_45 F k45 s.1 s.2.1 s.2.2)
theorem bX7_digest_45l_ok {X : gX} {F : Nat} {R : Int64 × gS} : ∀ (n : Nat) (s : Int64 × Int32 × gS), bX7_digest_45l F n s = some R → G X RX7 cX7_digest 5 (some .long) 7 (some (.long R.1)) R.2 45 [(0, .ref (X.1 + 0)), (1, .long s.1), (3, .int s.2.1)] [] s.2.2 := by
  intro n
  induction n with
  | zero => intro s h; cases h
  | succ n ih => intro s h; exact bX7_digest_45_ok (F := F) ih h
noncomputable def bX7_digest_6 (F : Nat) (k6 : (Int64 × Int32 × gS) → Option (Int64 × gS)) (x1 : Int64) (x3 : Int32) (S : gS) : Option (Int64 × gS) := if (7 : Int32) < x3 then ((fX7_fault F S).bind (fun q2 : Int32 × gS => gl (((31 : Int64) * x1) + (q2.1).toInt64) (fun v3 : Int64 => bX7_digest_45l F F (v3, (0 : Int32), q2.2)))) else ((fX7_count F x3 S).bind (fun q4 : Int32 × gS => gl (((31 : Int64) * x1) + (q4.1).toInt64) (fun v5 : Int64 => gl (x3 + 1) (fun v6 : Int32 => k6 (v5, v6, q4.2)))))
set_option maxRecDepth 20000 in
theorem bX7_digest_6_ok {X : gX} {F : Nat} {k6 : (Int64 × Int32 × gS) → Option (Int64 × gS)} {R : Int64 × gS} (H6 : ∀ s : Int64 × Int32 × gS, k6 s = some R → G X RX7 cX7_digest 5 (some .long) 7 (some (.long R.1)) R.2 6 [(0, .ref (X.1 + 0)), (1, .long s.1), (3, .int s.2.1)] [] s.2.2) {x1 : Int64} {x3 : Int32} {S : gS} (h : bX7_digest_6 F k6 x1 x3 S = some R) : G X RX7 cX7_digest 5 (some .long) 7 (some (.long R.1)) R.2 6 [(0, .ref (X.1 + 0)), (1, .long x1), (3, .int x3)] [] S := by
  unfold bX7_digest_6 at h
  refine g_iload_n dX7_digest_6 2 rfl rfl ?_
  refine g_bipush (v := 7) dX7_digest_7 (by decide) ?_
  refine g_icmp_gt (tgt := 31) dX7_digest_9 (by decide) (fun hc1 => ?_) (fun hc1 => ?_)
  · replace h := git hc1 h
    refine g_ldc2 dX7_digest_31 ck_X7_305 ?_
    refine g_lload_n dX7_digest_34 1 rfl rfl ?_
    refine g_lmul dX7_digest_35 ?_
    refine g_aload_n dX7_digest_36 0 rfl rfl ?_
    obtain ⟨q2, hq2, h⟩ := gb h
    refine g_callVi [] [.long ((31 : Int64) * x1)] dX7_digest_37 mk_X7_310 so_0 (ctX7_fault hq2) rfl (by decide) rfl (Nat.le_of_ble_eq_true rfl) ?_
    refine g_i2l dX7_digest_40 ?_
    refine g_ladd dX7_digest_41 ?_
    obtain ⟨v3, ev3, h⟩ := gle h
    refine g_lstore_n (lv' := [(1, .long v3), (0, .ref (X.1 + 0)), (3, .int x3)]) dX7_digest_42 ev3 rfl (by decide) rfl ?_
    refine g_iconst (v := 0) dX7_digest_43 (by decide) ?_
    refine g_istore_n (lv' := [(3, .int (0 : Int32)), (1, .long v3), (0, .ref (X.1 + 0))]) dX7_digest_44 rfl rfl (by decide) rfl ?_
    refine g_sub [2, 1, 0] rfl ?_
    exact bX7_digest_45l_ok F (v3, (0 : Int32), q2.2) h
  · replace h := gif hc1 h
    refine g_ldc2 dX7_digest_12 ck_X7_305 ?_
    refine g_lload_n dX7_digest_15 1 rfl rfl ?_
    refine g_lmul dX7_digest_16 ?_
    refine g_aload_n dX7_digest_17 0 rfl rfl ?_
    refine g_iload_n dX7_digest_18 2 rfl rfl ?_
    obtain ⟨q4, hq4, h⟩ := gb h
    refine g_callVi [.int x3] [.long ((31 : Int64) * x1)] dX7_digest_19 mk_X7_307 so_0 (ctX7_count hq4) rfl (by decide) rfl (Nat.le_of_ble_eq_true rfl) ?_
    refine g_i2l dX7_digest_22 ?_
    refine g_ladd dX7_digest_23 ?_
    obtain ⟨v5, ev5, h⟩ := gle h
    refine g_lstore_n (lv' := [(1, .long v5), (0, .ref (X.1 + 0)), (3, .int x3)]) dX7_digest_24 ev5 rfl (by decide) rfl ?_
    obtain ⟨v6, ev6, h⟩ := gle h
    refine g_iinc (q := 2) (v := v6) (lv' := [(3, .int v6), (1, .long v5), (0, .ref (X.1 + 0))]) dX7_digest_25 rfl (by rw [← ev6]; rfl) (by decide) rfl ?_
    refine g_goto (tgt := 6) dX7_digest_28 (by decide) ?_
    refine g_sub [2, 1, 0] rfl ?_
    exact H6 (v5, v6, q4.2) h
noncomputable def bX7_digest_6l (F : Nat) : Nat → (Int64 × Int32 × gS) → Option (Int64 × gS) := g_fix (fun k6 s => bX7_digest_6 F k6 s.1 s.2.1 s.2.2)
theorem bX7_digest_6l_ok {X : gX} {F : Nat} {R : Int64 × gS} : ∀ (n : Nat) (s : Int64 × Int32 × gS), bX7_digest_6l F n s = some R → G X RX7 cX7_digest 5 (some .long) 7 (some (.long R.1)) R.2 6 [(0, .ref (X.1 + 0)), (1, .long s.1), (3, .int s.2.1)] [] s.2.2 := by
  intro n
  induction n with
  | zero => intro s h; cases h
  | succ n ih => intro s h; exact bX7_digest_6_ok (F := F) ih h
noncomputable def fX7_digest (F : Nat) (S : gS) : Option (Int64 × gS) := bX7_digest_6l F F ((17 : Int64), (0 : Int32), S)
set_option maxRecDepth 20000 in
theorem fX7_digest_ok {X : gX} {F : Nat} {R : Int64 × gS} {S : gS} (h : fX7_digest F S = some R) : G X RX7 cX7_digest 5 (some .long) 7 (some (.long R.1)) R.2 0 [(0, .ref (X.1 + 0))] [] S := by
  unfold fX7_digest at h
  refine g_ldc2 dX7_digest_0 ck_X7_303 ?_
  refine g_lstore_n (lv' := [(1, .long (17 : Int64)), (0, .ref (X.1 + 0))]) dX7_digest_3 rfl rfl (by decide) rfl ?_
  refine g_iconst (v := 0) dX7_digest_4 (by decide) ?_
  refine g_istore_n (lv' := [(3, .int (0 : Int32)), (1, .long (17 : Int64)), (0, .ref (X.1 + 0))]) dX7_digest_5 rfl rfl (by decide) rfl ?_
  refine g_sub [2, 1, 0] rfl ?_
  exact bX7_digest_6l_ok F ((17 : Int64), (0 : Int32), S) h
theorem ctX7_digest {X : gX} {F : Nat} {R : Int64 × gS} {S : gS} (h : fX7_digest F S = some R) : g_C X yX7_digest cX7_digest 5 (some .long) 7 [.ref (X.1 + 0)] S (some (.long R.1)) R.2 :=
  g_met (by decide) (Nat.le_of_ble_eq_true rfl) (fX7_digest_ok h)

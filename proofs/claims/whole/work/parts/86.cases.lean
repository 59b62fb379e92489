/-! the law: its calls -/
def lC (X : gX) (p : Program) (s : State) (m : MethodId) (c : Code) (b L : Nat) (xs : Nat → Int32) (x3 : Int32) : Prop :=
  g_At X RL cL_law 4 p s m #[Value.ref b] c ∧ va_X b L xs s s.heap ∧ b < s.heap.size ∧ X.1 = s.heap.size ∧ vp_in (x3 + 1) L ∧ vp_in (x3 + 2) L ∧ vp_in (x3 + 3) L ∧ vp_in (x3 + 4) L ∧ vp_in (x3 + 5) L
section LA
variable {p : Program} {l : Launch} {e : Env} {s : State} {m : MethodId} {below : List Frame} {meth : Method} {c : Code} {b L : Nat} {xs : Nat → Int32} {x3 : Int32} {X : gX} {S : gS} {H : Heap} {locs : List Loc} {ls : Array Slot} {Q : State → Prop}
set_option maxRecDepth 100000 in
theorem la_0 (C : lC X p s m c b L xs x3) (hP : gP X S H) (hS : va_S (gA X) s.heap H locs) (hI : Inv S S) (hl : lv_has ls 4 [(0, .ref b), (1, .ref (X.1 + 0)), (2, .ref (X.1 + 51)), (3, .int x3)])
    (kk : ∀ (H1 : Heap) (locs1 : List Loc) (S1 : gS), gP X S1 H1 → va_S (gA X) s.heap H1 locs1 → Inv S1 S1 → W p l e room_1 s m #[Value.ref b] below meth c H1 locs1 73 3089 Q (F0 m 1146 ls [])) : W p l e room_1 s m #[Value.ref b] below meth c H locs 73 3089 Q (F0 m 188 ls []) := by
  obtain ⟨A, hX, hbl, hXB, h1, h2, h3, h4, h5⟩ := C
  have hbA : ¬ gA X b := by show ¬ X.1 ≤ b; omega
  obtain ⟨r, S1, S2, e1, e2, hI2⟩ := (op_type (F := 20000001) (by decide) (xs (x3 + 1).toNatClampNeg)).use hI
  refine lv_aload_n A.1 A.2.1 dL_law_188 rfl (lv_at hl 1 rfl) ?_
  refine lv_aload_n A.1 A.2.1 dL_law_189 rfl (lv_at hl 0 rfl) ?_
  refine lv_iload_n A.1 A.2.1 dL_law_190 rfl (lv_at hl 3 rfl) ?_
  refine lv_iconst (v := 1) A.1 A.2.1 dL_law_191 (by decide) ?_
  refine lv_iadd A.1 A.2.1 dL_law_192 ?_
  refine va_sld A.1 A.2.1 hX hbl hbA hS h1 dL_law_193 ?_
  refine w_callV (i := 0) (As := [.int (xs (x3 + 1).toNatClampNeg)]) (rest := []) A hl.1 hP hS mk_L_13 so_0 (show g_C X yX7_type cX7_type 2 (some .int) 4 [.ref (X.1 + 0), .int (xs (x3 + 1).toNatClampNeg)] S (some (.int r)) S1 from ctX7_type e1) rfl ⟨Nat.le_of_ble_eq_true rfl, Nat.le_of_ble_eq_true rfl⟩ ⟨Nat.le_of_ble_eq_true rfl, Nat.le_of_ble_eq_true rfl⟩ rfl (Nat.le_of_ble_eq_true rfl) dL_law_194 (fun H locs hP hS => ?_)
  refine W.eq (g2 := F0 m 197 ls [.int r]) rfl ?_
  refine lv_aload_n A.1 A.2.1 dL_law_197 rfl (lv_at hl 2 rfl) ?_
  refine lv_aload_n A.1 A.2.1 dL_law_198 rfl (lv_at hl 0 rfl) ?_
  refine lv_iload_n A.1 A.2.1 dL_law_199 rfl (lv_at hl 3 rfl) ?_
  refine lv_iconst (v := 1) A.1 A.2.1 dL_law_200 (by decide) ?_
  refine lv_iadd A.1 A.2.1 dL_law_201 ?_
  refine va_sld A.1 A.2.1 hX hbl hbA hS h1 dL_law_202 ?_
  refine w_callV (i := 51) (As := [.int (xs (x3 + 1).toNatClampNeg)]) (rest := [.int r]) A hl.1 hP hS mk_L_17 so_51 (show g_C X yX8_type cX8_type 2 (some .int) 1 [.ref (X.1 + 51), .int (xs (x3 + 1).toNatClampNeg)] S1 (some (.int r)) S2 from ctX8_type e2) rfl ⟨Nat.le_of_ble_eq_true rfl, Nat.le_of_ble_eq_true rfl⟩ ⟨Nat.le_of_ble_eq_true rfl, Nat.le_of_ble_eq_true rfl⟩ rfl (Nat.le_of_ble_eq_true rfl) dL_law_203 (fun H locs hP hS => ?_)
  refine W.eq (g2 := F0 m 206 ls [.int r, .int r]) rfl ?_
  refine lv_icmp_eq (tgt := 1146) A.1 A.2.1 dL_law_206 (by decide) (fun _ => ?_) (fun h => absurd rfl h)
  exact kk H locs S2 hP hS hI2
set_option maxRecDepth 100000 in
theorem la_1 (C : lC X p s m c b L xs x3) (hP : gP X S H) (hS : va_S (gA X) s.heap H locs) (hI : Inv S S) (hl : lv_has ls 4 [(0, .ref b), (1, .ref (X.1 + 0)), (2, .ref (X.1 + 51)), (3, .int x3)])
    (kk : ∀ (H1 : Heap) (locs1 : List Loc) (S1 : gS), gP X S1 H1 → va_S (gA X) s.heap H1 locs1 → Inv S1 S1 → W p l e room_1 s m #[Value.ref b] below meth c H1 locs1 73 3089 Q (F0 m 1146 ls [])) : W p l e room_1 s m #[Value.ref b] below meth c H locs 73 3089 Q (F0 m 211 ls []) := by
  obtain ⟨A, hX, hbl, hXB, h1, h2, h3, h4, h5⟩ := C
  have hbA : ¬ gA X b := by show ¬ X.1 ≤ b; omega
  obtain ⟨r, S1, S2, e1, e2, hI2⟩ := (op_wipe (F := 20000001) (by decide) ).use hI
  refine lv_aload_n A.1 A.2.1 dL_law_211 rfl (lv_at hl 1 rfl) ?_
  refine w_callV (i := 0) (As := []) (rest := []) A hl.1 hP hS mk_L_18 so_0 (show g_C X yX7_wipe cX7_wipe 2 (some .int) 4 [.ref (X.1 + 0)] S (some (.int r)) S1 from ctX7_wipe e1) rfl ⟨Nat.le_of_ble_eq_true rfl, Nat.le_of_ble_eq_true rfl⟩ ⟨Nat.le_of_ble_eq_true rfl, Nat.le_of_ble_eq_true rfl⟩ rfl (Nat.le_of_ble_eq_true rfl) dL_law_212 (fun H locs hP hS => ?_)
  refine W.eq (g2 := F0 m 215 ls [.int r]) rfl ?_
  refine lv_aload_n A.1 A.2.1 dL_law_215 rfl (lv_at hl 2 rfl) ?_
  refine w_callV (i := 51) (As := []) (rest := [.int r]) A hl.1 hP hS mk_L_22 so_51 (show g_C X yX8_wipe cX8_wipe 2 (some .int) 0 [.ref (X.1 + 51)] S1 (some (.int r)) S2 from ctX8_wipe e2) rfl ⟨Nat.le_of_ble_eq_true rfl, Nat.le_of_ble_eq_true rfl⟩ ⟨Nat.le_of_ble_eq_true rfl, Nat.le_of_ble_eq_true rfl⟩ rfl (Nat.le_of_ble_eq_true rfl) dL_law_216 (fun H locs hP hS => ?_)
  refine W.eq (g2 := F0 m 219 ls [.int r, .int r]) rfl ?_
  refine lv_icmp_eq (tgt := 1146) A.1 A.2.1 dL_law_219 (by decide) (fun _ => ?_) (fun h => absurd rfl h)
  exact kk H locs S2 hP hS hI2
set_option maxRecDepth 100000 in
theorem la_2 (C : lC X p s m c b L xs x3) (hP : gP X S H) (hS : va_S (gA X) s.heap H locs) (hI : Inv S S) (hl : lv_has ls 4 [(0, .ref b), (1, .ref (X.1 + 0)), (2, .ref (X.1 + 51)), (3, .int x3)])
    (kk : ∀ (H1 : Heap) (locs1 : List Loc) (S1 : gS), gP X S1 H1 → va_S (gA X) s.heap H1 locs1 → Inv S1 S1 → W p l e room_1 s m #[Value.ref b] below meth c H1 locs1 73 3089 Q (F0 m 1146 ls [])) : W p l e room_1 s m #[Value.ref b] below meth c H locs 73 3089 Q (F0 m 224 ls []) := by
  obtain ⟨A, hX, hbl, hXB, h1, h2, h3, h4, h5⟩ := C
  have hbA : ¬ gA X b := by show ¬ X.1 ≤ b; omega
  obtain ⟨r, S1, S2, e1, e2, hI2⟩ := (op_fault (F := 20000001) (by decide) ).use hI
  refine lv_aload_n A.1 A.2.1 dL_law_224 rfl (lv_at hl 1 rfl) ?_
  refine w_callV (i := 0) (As := []) (rest := []) A hl.1 hP hS mk_L_23 so_0 (show g_C X yX7_fault cX7_fault 1 (some .int) 0 [.ref (X.1 + 0)] S (some (.int r)) S1 from ctX7_fault e1) rfl ⟨Nat.le_of_ble_eq_true rfl, Nat.le_of_ble_eq_true rfl⟩ ⟨Nat.le_of_ble_eq_true rfl, Nat.le_of_ble_eq_true rfl⟩ rfl (Nat.le_of_ble_eq_true rfl) dL_law_225 (fun H locs hP hS => ?_)
  refine W.eq (g2 := F0 m 228 ls [.int r]) rfl ?_
  refine lv_aload_n A.1 A.2.1 dL_law_228 rfl (lv_at hl 2 rfl) ?_
  refine w_callV (i := 51) (As := []) (rest := [.int r]) A hl.1 hP hS mk_L_26 so_51 (show g_C X yX8_fault cX8_fault 1 (some .int) 3 [.ref (X.1 + 51)] S1 (some (.int r)) S2 from ctX8_fault e2) rfl ⟨Nat.le_of_ble_eq_true rfl, Nat.le_of_ble_eq_true rfl⟩ ⟨Nat.le_of_ble_eq_true rfl, Nat.le_of_ble_eq_true rfl⟩ rfl (Nat.le_of_ble_eq_true rfl) dL_law_229 (fun H locs hP hS => ?_)
  refine W.eq (g2 := F0 m 232 ls [.int r, .int r]) rfl ?_
  refine lv_icmp_eq (tgt := 1146) A.1 A.2.1 dL_law_232 (by decide) (fun _ => ?_) (fun h => absurd rfl h)
  exact kk H locs S2 hP hS hI2
set_option maxRecDepth 100000 in
theorem la_3 (C : lC X p s m c b L xs x3) (hP : gP X S H) (hS : va_S (gA X) s.heap H locs) (hI : Inv S S) (hl : lv_has ls 4 [(0, .ref b), (1, .ref (X.1 + 0)), (2, .ref (X.1 + 51)), (3, .int x3)])
    (kk : ∀ (H1 : Heap) (locs1 : List Loc) (S1 : gS), gP X S1 H1 → va_S (gA X) s.heap H1 locs1 → Inv S1 S1 → W p l e room_1 s m #[Value.ref b] below meth c H1 locs1 73 3089 Q (F0 m 1146 ls [])) : W p l e room_1 s m #[Value.ref b] below meth c H locs 73 3089 Q (F0 m 237 ls []) := by
  obtain ⟨A, hX, hbl, hXB, h1, h2, h3, h4, h5⟩ := C
  have hbA : ¬ gA X b := by show ¬ X.1 ≤ b; omega
  obtain ⟨r, S1, S2, e1, e2, hI2⟩ := (op_cell (F := 20000001) (by decide) (xs (x3 + 1).toNatClampNeg) (xs (x3 + 2).toNatClampNeg)).use hI
  refine lv_aload_n A.1 A.2.1 dL_law_237 rfl (lv_at hl 1 rfl) ?_
  refine lv_aload_n A.1 A.2.1 dL_law_238 rfl (lv_at hl 0 rfl) ?_
  refine lv_iload_n A.1 A.2.1 dL_law_239 rfl (lv_at hl 3 rfl) ?_
  refine lv_iconst (v := 1) A.1 A.2.1 dL_law_240 (by decide) ?_
  refine lv_iadd A.1 A.2.1 dL_law_241 ?_
  refine va_sld A.1 A.2.1 hX hbl hbA hS h1 dL_law_242 ?_
  refine lv_aload_n A.1 A.2.1 dL_law_243 rfl (lv_at hl 0 rfl) ?_
  refine lv_iload_n A.1 A.2.1 dL_law_244 rfl (lv_at hl 3 rfl) ?_
  refine lv_iconst (v := 2) A.1 A.2.1 dL_law_245 (by decide) ?_
  refine lv_iadd A.1 A.2.1 dL_law_246 ?_
  refine va_sld A.1 A.2.1 hX hbl hbA hS h2 dL_law_247 ?_
  refine w_callV (i := 0) (As := [.int (xs (x3 + 1).toNatClampNeg), .int (xs (x3 + 2).toNatClampNeg)]) (rest := []) A hl.1 hP hS mk_L_27 so_0 (show g_C X yX7_cell cX7_cell 3 (some .int) 2 [.ref (X.1 + 0), .int (xs (x3 + 1).toNatClampNeg), .int (xs (x3 + 2).toNatClampNeg)] S (some (.int r)) S1 from ctX7_cell e1) rfl ⟨Nat.le_of_ble_eq_true rfl, Nat.le_of_ble_eq_true rfl⟩ ⟨Nat.le_of_ble_eq_true rfl, Nat.le_of_ble_eq_true rfl⟩ rfl (Nat.le_of_ble_eq_true rfl) dL_law_248 (fun H locs hP hS => ?_)
  refine W.eq (g2 := F0 m 251 ls [.int r]) rfl ?_
  refine lv_aload_n A.1 A.2.1 dL_law_251 rfl (lv_at hl 2 rfl) ?_
  refine lv_aload_n A.1 A.2.1 dL_law_252 rfl (lv_at hl 0 rfl) ?_
  refine lv_iload_n A.1 A.2.1 dL_law_253 rfl (lv_at hl 3 rfl) ?_
  refine lv_iconst (v := 1) A.1 A.2.1 dL_law_254 (by decide) ?_
  refine lv_iadd A.1 A.2.1 dL_law_255 ?_
  refine va_sld A.1 A.2.1 hX hbl hbA hS h1 dL_law_256 ?_
  refine lv_aload_n A.1 A.2.1 dL_law_257 rfl (lv_at hl 0 rfl) ?_
  refine lv_iload_n A.1 A.2.1 dL_law_258 rfl (lv_at hl 3 rfl) ?_
  refine lv_iconst (v := 2) A.1 A.2.1 dL_law_259 (by decide) ?_
  refine lv_iadd A.1 A.2.1 dL_law_260 ?_
  refine va_sld A.1 A.2.1 hX hbl hbA hS h2 dL_law_261 ?_
  refine w_callV (i := 51) (As := [.int (xs (x3 + 1).toNatClampNeg), .int (xs (x3 + 2).toNatClampNeg)]) (rest := [.int r]) A hl.1 hP hS mk_L_31 so_51 (show g_C X yX8_cell cX8_cell 3 (some .int) 4 [.ref (X.1 + 51), .int (xs (x3 + 1).toNatClampNeg), .int (xs (x3 + 2).toNatClampNeg)] S1 (some (.int r)) S2 from ctX8_cell e2) rfl ⟨Nat.le_of_ble_eq_true rfl, Nat.le_of_ble_eq_true rfl⟩ ⟨Nat.le_of_ble_eq_true rfl, Nat.le_of_ble_eq_true rfl⟩ rfl (Nat.le_of_ble_eq_true rfl) dL_law_262 (fun H locs hP hS => ?_)
  refine W.eq (g2 := F0 m 265 ls [.int r, .int r]) rfl ?_
  refine lv_icmp_eq (tgt := 1146) A.1 A.2.1 dL_law_265 (by decide) (fun _ => ?_) (fun h => absurd rfl h)
  exact kk H locs S2 hP hS hI2
set_option maxRecDepth 100000 in
theorem la_4 (C : lC X p s m c b L xs x3) (hP : gP X S H) (hS : va_S (gA X) s.heap H locs) (hI : Inv S S) (hl : lv_has ls 4 [(0, .ref b), (1, .ref (X.1 + 0)), (2, .ref (X.1 + 51)), (3, .int x3)])
    (kk : ∀ (H1 : Heap) (locs1 : List Loc) (S1 : gS), gP X S1 H1 → va_S (gA X) s.heap H1 locs1 → Inv S1 S1 → W p l e room_1 s m #[Value.ref b] below meth c H1 locs1 73 3089 Q (F0 m 1146 ls [])) : W p l e room_1 s m #[Value.ref b] below meth c H locs 73 3089 Q (F0 m 270 ls []) := by
  obtain ⟨A, hX, hbl, hXB, h1, h2, h3, h4, h5⟩ := C
  have hbA : ¬ gA X b := by show ¬ X.1 ≤ b; omega
  obtain ⟨r, S1, S2, e1, e2, hI2⟩ := (op_snows (F := 20000001) (by decide) (xs (x3 + 1).toNatClampNeg)).use hI
  refine lv_aload_n A.1 A.2.1 dL_law_270 rfl (lv_at hl 1 rfl) ?_
  refine lv_aload_n A.1 A.2.1 dL_law_271 rfl (lv_at hl 0 rfl) ?_
  refine lv_iload_n A.1 A.2.1 dL_law_272 rfl (lv_at hl 3 rfl) ?_
  refine lv_iconst (v := 1) A.1 A.2.1 dL_law_273 (by decide) ?_
  refine lv_iadd A.1 A.2.1 dL_law_274 ?_
  refine va_sld A.1 A.2.1 hX hbl hbA hS h1 dL_law_275 ?_
  refine w_callV (i := 0) (As := [.int (xs (x3 + 1).toNatClampNeg)]) (rest := []) A hl.1 hP hS mk_L_32 so_0 (show g_C X yX7_snows cX7_snows 2 (some .int) 2 [.ref (X.1 + 0), .int (xs (x3 + 1).toNatClampNeg)] S (some (.int r)) S1 from ctX7_snows e1) rfl ⟨Nat.le_of_ble_eq_true rfl, Nat.le_of_ble_eq_true rfl⟩ ⟨Nat.le_of_ble_eq_true rfl, Nat.le_of_ble_eq_true rfl⟩ rfl (Nat.le_of_ble_eq_true rfl) dL_law_276 (fun H locs hP hS => ?_)
  refine W.eq (g2 := F0 m 279 ls [.int r]) rfl ?_
  refine lv_aload_n A.1 A.2.1 dL_law_279 rfl (lv_at hl 2 rfl) ?_
  refine lv_aload_n A.1 A.2.1 dL_law_280 rfl (lv_at hl 0 rfl) ?_
  refine lv_iload_n A.1 A.2.1 dL_law_281 rfl (lv_at hl 3 rfl) ?_
  refine lv_iconst (v := 1) A.1 A.2.1 dL_law_282 (by decide) ?_
  refine lv_iadd A.1 A.2.1 dL_law_283 ?_
  refine va_sld A.1 A.2.1 hX hbl hbA hS h1 dL_law_284 ?_
  refine w_callV (i := 51) (As := [.int (xs (x3 + 1).toNatClampNeg)]) (rest := [.int r]) A hl.1 hP hS mk_L_35 so_51 (show g_C X yX8_snows cX8_snows 5 (some .int) 3 [.ref (X.1 + 51), .int (xs (x3 + 1).toNatClampNeg)] S1 (some (.int r)) S2 from ctX8_snows e2) rfl ⟨Nat.le_of_ble_eq_true rfl, Nat.le_of_ble_eq_true rfl⟩ ⟨Nat.le_of_ble_eq_true rfl, Nat.le_of_ble_eq_true rfl⟩ rfl (Nat.le_of_ble_eq_true rfl) dL_law_285 (fun H locs hP hS => ?_)
  refine W.eq (g2 := F0 m 288 ls [.int r, .int r]) rfl ?_
  refine lv_icmp_eq (tgt := 1146) A.1 A.2.1 dL_law_288 (by decide) (fun _ => ?_) (fun h => absurd rfl h)
  exact kk H locs S2 hP hS hI2
set_option maxRecDepth 100000 in
theorem la_5 (C : lC X p s m c b L xs x3) (hP : gP X S H) (hS : va_S (gA X) s.heap H locs) (hI : Inv S S) (hl : lv_has ls 4 [(0, .ref b), (1, .ref (X.1 + 0)), (2, .ref (X.1 + 51)), (3, .int x3)])
    (kk : ∀ (H1 : Heap) (locs1 : List Loc) (S1 : gS), gP X S1 H1 → va_S (gA X) s.heap H1 locs1 → Inv S1 S1 → W p l e room_1 s m #[Value.ref b] below meth c H1 locs1 73 3089 Q (F0 m 1146 ls [])) : W p l e room_1 s m #[Value.ref b] below meth c H locs 73 3089 Q (F0 m 293 ls []) := by
  obtain ⟨A, hX, hbl, hXB, h1, h2, h3, h4, h5⟩ := C
  have hbA : ¬ gA X b := by show ¬ X.1 ≤ b; omega
  obtain ⟨r, S1, S2, e1, e2, hI2⟩ := (op_thaws (F := 20000001) (by decide) (xs (x3 + 1).toNatClampNeg)).use hI
  refine lv_aload_n A.1 A.2.1 dL_law_293 rfl (lv_at hl 1 rfl) ?_
  refine lv_aload_n A.1 A.2.1 dL_law_294 rfl (lv_at hl 0 rfl) ?_
  refine lv_iload_n A.1 A.2.1 dL_law_295 rfl (lv_at hl 3 rfl) ?_
  refine lv_iconst (v := 1) A.1 A.2.1 dL_law_296 (by decide) ?_
  refine lv_iadd A.1 A.2.1 dL_law_297 ?_
  refine va_sld A.1 A.2.1 hX hbl hbA hS h1 dL_law_298 ?_
  refine w_callV (i := 0) (As := [.int (xs (x3 + 1).toNatClampNeg)]) (rest := []) A hl.1 hP hS mk_L_36 so_0 (show g_C X yX7_thaws cX7_thaws 2 (some .int) 2 [.ref (X.1 + 0), .int (xs (x3 + 1).toNatClampNeg)] S (some (.int r)) S1 from ctX7_thaws e1) rfl ⟨Nat.le_of_ble_eq_true rfl, Nat.le_of_ble_eq_true rfl⟩ ⟨Nat.le_of_ble_eq_true rfl, Nat.le_of_ble_eq_true rfl⟩ rfl (Nat.le_of_ble_eq_true rfl) dL_law_299 (fun H locs hP hS => ?_)
  refine W.eq (g2 := F0 m 302 ls [.int r]) rfl ?_
  refine lv_aload_n A.1 A.2.1 dL_law_302 rfl (lv_at hl 2 rfl) ?_
  refine lv_aload_n A.1 A.2.1 dL_law_303 rfl (lv_at hl 0 rfl) ?_
  refine lv_iload_n A.1 A.2.1 dL_law_304 rfl (lv_at hl 3 rfl) ?_
  refine lv_iconst (v := 1) A.1 A.2.1 dL_law_305 (by decide) ?_
  refine lv_iadd A.1 A.2.1 dL_law_306 ?_
  refine va_sld A.1 A.2.1 hX hbl hbA hS h1 dL_law_307 ?_
  refine w_callV (i := 51) (As := [.int (xs (x3 + 1).toNatClampNeg)]) (rest := [.int r]) A hl.1 hP hS mk_L_39 so_51 (show g_C X yX8_thaws cX8_thaws 4 (some .int) 1 [.ref (X.1 + 51), .int (xs (x3 + 1).toNatClampNeg)] S1 (some (.int r)) S2 from ctX8_thaws e2) rfl ⟨Nat.le_of_ble_eq_true rfl, Nat.le_of_ble_eq_true rfl⟩ ⟨Nat.le_of_ble_eq_true rfl, Nat.le_of_ble_eq_true rfl⟩ rfl (Nat.le_of_ble_eq_true rfl) dL_law_308 (fun H locs hP hS => ?_)
  refine W.eq (g2 := F0 m 311 ls [.int r, .int r]) rfl ?_
  refine lv_icmp_eq (tgt := 1146) A.1 A.2.1 dL_law_311 (by decide) (fun _ => ?_) (fun h => absurd rfl h)
  exact kk H locs S2 hP hS hI2
set_option maxRecDepth 100000 in
theorem la_6 (C : lC X p s m c b L xs x3) (hP : gP X S H) (hS : va_S (gA X) s.heap H locs) (hI : Inv S S) (hl : lv_has ls 4 [(0, .ref b), (1, .ref (X.1 + 0)), (2, .ref (X.1 + 51)), (3, .int x3)])
    (kk : ∀ (H1 : Heap) (locs1 : List Loc) (S1 : gS), gP X S1 H1 → va_S (gA X) s.heap H1 locs1 → Inv S1 S1 → W p l e room_1 s m #[Value.ref b] below meth c H1 locs1 73 3089 Q (F0 m 1146 ls [])) : W p l e room_1 s m #[Value.ref b] below meth c H locs 73 3089 Q (F0 m 316 ls []) := by
  obtain ⟨A, hX, hbl, hXB, h1, h2, h3, h4, h5⟩ := C
  have hbA : ¬ gA X b := by show ¬ X.1 ≤ b; omega
  obtain ⟨r, S1, S2, e1, e2, hI2⟩ := (op_freezes (F := 20000001) (by decide) ).use hI
  refine lv_aload_n A.1 A.2.1 dL_law_316 rfl (lv_at hl 1 rfl) ?_
  refine w_callV (i := 0) (As := []) (rest := []) A hl.1 hP hS mk_L_40 so_0 (show g_C X yX7_freezes cX7_freezes 1 (some .int) 1 [.ref (X.1 + 0)] S (some (.int r)) S1 from ctX7_freezes e1) rfl ⟨Nat.le_of_ble_eq_true rfl, Nat.le_of_ble_eq_true rfl⟩ ⟨Nat.le_of_ble_eq_true rfl, Nat.le_of_ble_eq_true rfl⟩ rfl (Nat.le_of_ble_eq_true rfl) dL_law_317 (fun H locs hP hS => ?_)
  refine W.eq (g2 := F0 m 320 ls [.int r]) rfl ?_
  refine lv_aload_n A.1 A.2.1 dL_law_320 rfl (lv_at hl 2 rfl) ?_
  refine w_callV (i := 51) (As := []) (rest := [.int r]) A hl.1 hP hS mk_L_43 so_51 (show g_C X yX8_freezes cX8_freezes 3 (some .int) 0 [.ref (X.1 + 51)] S1 (some (.int r)) S2 from ctX8_freezes e2) rfl ⟨Nat.le_of_ble_eq_true rfl, Nat.le_of_ble_eq_true rfl⟩ ⟨Nat.le_of_ble_eq_true rfl, Nat.le_of_ble_eq_true rfl⟩ rfl (Nat.le_of_ble_eq_true rfl) dL_law_321 (fun H locs hP hS => ?_)
  refine W.eq (g2 := F0 m 324 ls [.int r, .int r]) rfl ?_
  refine lv_icmp_eq (tgt := 1146) A.1 A.2.1 dL_law_324 (by decide) (fun _ => ?_) (fun h => absurd rfl h)
  exact kk H locs S2 hP hS hI2
set_option maxRecDepth 100000 in
theorem la_7 (C : lC X p s m c b L xs x3) (hP : gP X S H) (hS : va_S (gA X) s.heap H locs) (hI : Inv S S) (hl : lv_has ls 4 [(0, .ref b), (1, .ref (X.1 + 0)), (2, .ref (X.1 + 51)), (3, .int x3)])
    (kk : ∀ (H1 : Heap) (locs1 : List Loc) (S1 : gS), gP X S1 H1 → va_S (gA X) s.heap H1 locs1 → Inv S1 S1 → W p l e room_1 s m #[Value.ref b] below meth c H1 locs1 73 3089 Q (F0 m 1146 ls [])) : W p l e room_1 s m #[Value.ref b] below meth c H locs 73 3089 Q (F0 m 329 ls []) := by
  obtain ⟨A, hX, hbl, hXB, h1, h2, h3, h4, h5⟩ := C
  have hbA : ¬ gA X b := by show ¬ X.1 ≤ b; omega
  obtain ⟨r, S1, S2, e1, e2, hI2⟩ := (op_clear (F := 20000001) (by decide) (xs (x3 + 1).toNatClampNeg) (xs (x3 + 2).toNatClampNeg)).use hI
  refine lv_aload_n A.1 A.2.1 dL_law_329 rfl (lv_at hl 1 rfl) ?_
  refine lv_aload_n A.1 A.2.1 dL_law_330 rfl (lv_at hl 0 rfl) ?_
  refine lv_iload_n A.1 A.2.1 dL_law_331 rfl (lv_at hl 3 rfl) ?_
  refine lv_iconst (v := 1) A.1 A.2.1 dL_law_332 (by decide) ?_
  refine lv_iadd A.1 A.2.1 dL_law_333 ?_
  refine va_sld A.1 A.2.1 hX hbl hbA hS h1 dL_law_334 ?_
  refine lv_aload_n A.1 A.2.1 dL_law_335 rfl (lv_at hl 0 rfl) ?_
  refine lv_iload_n A.1 A.2.1 dL_law_336 rfl (lv_at hl 3 rfl) ?_
  refine lv_iconst (v := 2) A.1 A.2.1 dL_law_337 (by decide) ?_
  refine lv_iadd A.1 A.2.1 dL_law_338 ?_
  refine va_sld A.1 A.2.1 hX hbl hbA hS h2 dL_law_339 ?_
  refine w_callV (i := 0) (As := [.int (xs (x3 + 1).toNatClampNeg), .int (xs (x3 + 2).toNatClampNeg)]) (rest := []) A hl.1 hP hS mk_L_44 so_0 (show g_C X yX7_clear cX7_clear 4 (some .int) 2 [.ref (X.1 + 0), .int (xs (x3 + 1).toNatClampNeg), .int (xs (x3 + 2).toNatClampNeg)] S (some (.int r)) S1 from ctX7_clear e1) rfl ⟨Nat.le_of_ble_eq_true rfl, Nat.le_of_ble_eq_true rfl⟩ ⟨Nat.le_of_ble_eq_true rfl, Nat.le_of_ble_eq_true rfl⟩ rfl (Nat.le_of_ble_eq_true rfl) dL_law_340 (fun H locs hP hS => ?_)
  refine W.eq (g2 := F0 m 343 ls [.int r]) rfl ?_
  refine lv_aload_n A.1 A.2.1 dL_law_343 rfl (lv_at hl 2 rfl) ?_
  refine lv_aload_n A.1 A.2.1 dL_law_344 rfl (lv_at hl 0 rfl) ?_
  refine lv_iload_n A.1 A.2.1 dL_law_345 rfl (lv_at hl 3 rfl) ?_
  refine lv_iconst (v := 1) A.1 A.2.1 dL_law_346 (by decide) ?_
  refine lv_iadd A.1 A.2.1 dL_law_347 ?_
  refine va_sld A.1 A.2.1 hX hbl hbA hS h1 dL_law_348 ?_
  refine lv_aload_n A.1 A.2.1 dL_law_349 rfl (lv_at hl 0 rfl) ?_
  refine lv_iload_n A.1 A.2.1 dL_law_350 rfl (lv_at hl 3 rfl) ?_
  refine lv_iconst (v := 2) A.1 A.2.1 dL_law_351 (by decide) ?_
  refine lv_iadd A.1 A.2.1 dL_law_352 ?_
  refine va_sld A.1 A.2.1 hX hbl hbA hS h2 dL_law_353 ?_
  refine w_callV (i := 51) (As := [.int (xs (x3 + 1).toNatClampNeg), .int (xs (x3 + 2).toNatClampNeg)]) (rest := [.int r]) A hl.1 hP hS mk_L_47 so_51 (show g_C X yX8_clear cX8_clear 5 (some .int) 3 [.ref (X.1 + 51), .int (xs (x3 + 1).toNatClampNeg), .int (xs (x3 + 2).toNatClampNeg)] S1 (some (.int r)) S2 from ctX8_clear e2) rfl ⟨Nat.le_of_ble_eq_true rfl, Nat.le_of_ble_eq_true rfl⟩ ⟨Nat.le_of_ble_eq_true rfl, Nat.le_of_ble_eq_true rfl⟩ rfl (Nat.le_of_ble_eq_true rfl) dL_law_354 (fun H locs hP hS => ?_)
  refine W.eq (g2 := F0 m 357 ls [.int r, .int r]) rfl ?_
  refine lv_icmp_eq (tgt := 1146) A.1 A.2.1 dL_law_357 (by decide) (fun _ => ?_) (fun h => absurd rfl h)
  exact kk H locs S2 hP hS hI2
set_option maxRecDepth 100000 in
theorem la_8 (C : lC X p s m c b L xs x3) (hP : gP X S H) (hS : va_S (gA X) s.heap H locs) (hI : Inv S S) (hl : lv_has ls 4 [(0, .ref b), (1, .ref (X.1 + 0)), (2, .ref (X.1 + 51)), (3, .int x3)])
    (kk : ∀ (H1 : Heap) (locs1 : List Loc) (S1 : gS), gP X S1 H1 → va_S (gA X) s.heap H1 locs1 → Inv S1 S1 → W p l e room_1 s m #[Value.ref b] below meth c H1 locs1 73 3089 Q (F0 m 1146 ls [])) : W p l e room_1 s m #[Value.ref b] below meth c H locs 73 3089 Q (F0 m 362 ls []) := by
  obtain ⟨A, hX, hbl, hXB, h1, h2, h3, h4, h5⟩ := C
  have hbA : ¬ gA X b := by show ¬ X.1 ≤ b; omega
  obtain ⟨r, S1, S2, e1, e2, hI2⟩ := (op_read (F := 20000001) (by decide) (xs (x3 + 1).toNatClampNeg)).use hI
  refine lv_aload_n A.1 A.2.1 dL_law_362 rfl (lv_at hl 1 rfl) ?_
  refine lv_aload_n A.1 A.2.1 dL_law_363 rfl (lv_at hl 0 rfl) ?_
  refine lv_iload_n A.1 A.2.1 dL_law_364 rfl (lv_at hl 3 rfl) ?_
  refine lv_iconst (v := 1) A.1 A.2.1 dL_law_365 (by decide) ?_
  refine lv_iadd A.1 A.2.1 dL_law_366 ?_
  refine va_sld A.1 A.2.1 hX hbl hbA hS h1 dL_law_367 ?_
  refine w_callV (i := 0) (As := [.int (xs (x3 + 1).toNatClampNeg)]) (rest := []) A hl.1 hP hS mk_L_48 so_0 (show g_C X yX7_read cX7_read 2 (some .int) 1 [.ref (X.1 + 0), .int (xs (x3 + 1).toNatClampNeg)] S (some (.int r)) S1 from ctX7_read e1) rfl ⟨Nat.le_of_ble_eq_true rfl, Nat.le_of_ble_eq_true rfl⟩ ⟨Nat.le_of_ble_eq_true rfl, Nat.le_of_ble_eq_true rfl⟩ rfl (Nat.le_of_ble_eq_true rfl) dL_law_368 (fun H locs hP hS => ?_)
  refine W.eq (g2 := F0 m 371 ls [.int r]) rfl ?_
  refine lv_aload_n A.1 A.2.1 dL_law_371 rfl (lv_at hl 2 rfl) ?_
  refine lv_aload_n A.1 A.2.1 dL_law_372 rfl (lv_at hl 0 rfl) ?_
  refine lv_iload_n A.1 A.2.1 dL_law_373 rfl (lv_at hl 3 rfl) ?_
  refine lv_iconst (v := 1) A.1 A.2.1 dL_law_374 (by decide) ?_
  refine lv_iadd A.1 A.2.1 dL_law_375 ?_
  refine va_sld A.1 A.2.1 hX hbl hbA hS h1 dL_law_376 ?_
  refine w_callV (i := 51) (As := [.int (xs (x3 + 1).toNatClampNeg)]) (rest := [.int r]) A hl.1 hP hS mk_L_51 so_51 (show g_C X yX8_read cX8_read 3 (some .int) 2 [.ref (X.1 + 51), .int (xs (x3 + 1).toNatClampNeg)] S1 (some (.int r)) S2 from ctX8_read e2) rfl ⟨Nat.le_of_ble_eq_true rfl, Nat.le_of_ble_eq_true rfl⟩ ⟨Nat.le_of_ble_eq_true rfl, Nat.le_of_ble_eq_true rfl⟩ rfl (Nat.le_of_ble_eq_true rfl) dL_law_377 (fun H locs hP hS => ?_)
  refine W.eq (g2 := F0 m 380 ls [.int r, .int r]) rfl ?_
  refine lv_icmp_eq (tgt := 1146) A.1 A.2.1 dL_law_380 (by decide) (fun _ => ?_) (fun h => absurd rfl h)
  exact kk H locs S2 hP hS hI2
set_option maxRecDepth 100000 in
theorem la_9 (C : lC X p s m c b L xs x3) (hP : gP X S H) (hS : va_S (gA X) s.heap H locs) (hI : Inv S S) (hl : lv_has ls 4 [(0, .ref b), (1, .ref (X.1 + 0)), (2, .ref (X.1 + 51)), (3, .int x3)])
    (kk : ∀ (H1 : Heap) (locs1 : List Loc) (S1 : gS), gP X S1 H1 → va_S (gA X) s.heap H1 locs1 → Inv S1 S1 → W p l e room_1 s m #[Value.ref b] below meth c H1 locs1 73 3089 Q (F0 m 1146 ls [])) : W p l e room_1 s m #[Value.ref b] below meth c H locs 73 3089 Q (F0 m 385 ls []) := by
  obtain ⟨A, hX, hbl, hXB, h1, h2, h3, h4, h5⟩ := C
  have hbA : ¬ gA X b := by show ¬ X.1 ≤ b; omega
  obtain ⟨r, S1, S2, e1, e2, hI2⟩ := (op_walker (F := 20000001) (xs (x3 + 1).toNatClampNeg) (xs (x3 + 2).toNatClampNeg)).use hI
  refine lv_aload_n A.1 A.2.1 dL_law_385 rfl (lv_at hl 1 rfl) ?_
  refine lv_aload_n A.1 A.2.1 dL_law_386 rfl (lv_at hl 0 rfl) ?_
  refine lv_iload_n A.1 A.2.1 dL_law_387 rfl (lv_at hl 3 rfl) ?_
  refine lv_iconst (v := 1) A.1 A.2.1 dL_law_388 (by decide) ?_
  refine lv_iadd A.1 A.2.1 dL_law_389 ?_
  refine va_sld A.1 A.2.1 hX hbl hbA hS h1 dL_law_390 ?_
  refine lv_aload_n A.1 A.2.1 dL_law_391 rfl (lv_at hl 0 rfl) ?_
  refine lv_iload_n A.1 A.2.1 dL_law_392 rfl (lv_at hl 3 rfl) ?_
  refine lv_iconst (v := 2) A.1 A.2.1 dL_law_393 (by decide) ?_
  refine lv_iadd A.1 A.2.1 dL_law_394 ?_
  refine va_sld A.1 A.2.1 hX hbl hbA hS h2 dL_law_395 ?_
  refine w_callV (i := 0) (As := [.int (xs (x3 + 1).toNatClampNeg), .int (xs (x3 + 2).toNatClampNeg)]) (rest := []) A hl.1 hP hS mk_L_52 so_0 (show g_C X yX7_walker cX7_walker 3 (some .int) 1 [.ref (X.1 + 0), .int (xs (x3 + 1).toNatClampNeg), .int (xs (x3 + 2).toNatClampNeg)] S (some (.int r)) S1 from ctX7_walker e1) rfl ⟨Nat.le_of_ble_eq_true rfl, Nat.le_of_ble_eq_true rfl⟩ ⟨Nat.le_of_ble_eq_true rfl, Nat.le_of_ble_eq_true rfl⟩ rfl (Nat.le_of_ble_eq_true rfl) dL_law_396 (fun H locs hP hS => ?_)
  refine W.eq (g2 := F0 m 399 ls [.int r]) rfl ?_
  refine lv_aload_n A.1 A.2.1 dL_law_399 rfl (lv_at hl 2 rfl) ?_
  refine lv_aload_n A.1 A.2.1 dL_law_400 rfl (lv_at hl 0 rfl) ?_
  refine lv_iload_n A.1 A.2.1 dL_law_401 rfl (lv_at hl 3 rfl) ?_
  refine lv_iconst (v := 1) A.1 A.2.1 dL_law_402 (by decide) ?_
  refine lv_iadd A.1 A.2.1 dL_law_403 ?_
  refine va_sld A.1 A.2.1 hX hbl hbA hS h1 dL_law_404 ?_
  refine lv_aload_n A.1 A.2.1 dL_law_405 rfl (lv_at hl 0 rfl) ?_
  refine lv_iload_n A.1 A.2.1 dL_law_406 rfl (lv_at hl 3 rfl) ?_
  refine lv_iconst (v := 2) A.1 A.2.1 dL_law_407 (by decide) ?_
  refine lv_iadd A.1 A.2.1 dL_law_408 ?_
  refine va_sld A.1 A.2.1 hX hbl hbA hS h2 dL_law_409 ?_
  refine w_callV (i := 51) (As := [.int (xs (x3 + 1).toNatClampNeg), .int (xs (x3 + 2).toNatClampNeg)]) (rest := [.int r]) A hl.1 hP hS mk_L_55 so_51 (show g_C X yX8_walker cX8_walker 3 (some .int) 2 [.ref (X.1 + 51), .int (xs (x3 + 1).toNatClampNeg), .int (xs (x3 + 2).toNatClampNeg)] S1 (some (.int r)) S2 from ctX8_walker e2) rfl ⟨Nat.le_of_ble_eq_true rfl, Nat.le_of_ble_eq_true rfl⟩ ⟨Nat.le_of_ble_eq_true rfl, Nat.le_of_ble_eq_true rfl⟩ rfl (Nat.le_of_ble_eq_true rfl) dL_law_410 (fun H locs hP hS => ?_)
  refine W.eq (g2 := F0 m 413 ls [.int r, .int r]) rfl ?_
  refine lv_icmp_eq (tgt := 1146) A.1 A.2.1 dL_law_413 (by decide) (fun _ => ?_) (fun h => absurd rfl h)
  exact kk H locs S2 hP hS hI2
set_option maxRecDepth 100000 in
theorem la_10 (C : lC X p s m c b L xs x3) (hP : gP X S H) (hS : va_S (gA X) s.heap H locs) (hI : Inv S S) (hl : lv_has ls 4 [(0, .ref b), (1, .ref (X.1 + 0)), (2, .ref (X.1 + 51)), (3, .int x3)])
    (kk : ∀ (H1 : Heap) (locs1 : List Loc) (S1 : gS), gP X S1 H1 → va_S (gA X) s.heap H1 locs1 → Inv S1 S1 → W p l e room_1 s m #[Value.ref b] below meth c H1 locs1 73 3089 Q (F0 m 1146 ls [])) : W p l e room_1 s m #[Value.ref b] below meth c H locs 73 3089 Q (F0 m 418 ls []) := by
  obtain ⟨A, hX, hbl, hXB, h1, h2, h3, h4, h5⟩ := C
  have hbA : ¬ gA X b := by show ¬ X.1 ≤ b; omega
  obtain ⟨r, S1, S2, e1, e2, hI2⟩ := (op_gone (F := 20000001) ).use hI
  refine lv_aload_n A.1 A.2.1 dL_law_418 rfl (lv_at hl 1 rfl) ?_
  refine w_callV (i := 0) (As := []) (rest := []) A hl.1 hP hS mk_L_56 so_0 (show g_C X yX7_gone cX7_gone 2 (some .int) 0 [.ref (X.1 + 0)] S (some (.int r)) S1 from ctX7_gone e1) rfl ⟨Nat.le_of_ble_eq_true rfl, Nat.le_of_ble_eq_true rfl⟩ ⟨Nat.le_of_ble_eq_true rfl, Nat.le_of_ble_eq_true rfl⟩ rfl (Nat.le_of_ble_eq_true rfl) dL_law_419 (fun H locs hP hS => ?_)
  refine W.eq (g2 := F0 m 422 ls [.int r]) rfl ?_
  refine lv_aload_n A.1 A.2.1 dL_law_422 rfl (lv_at hl 2 rfl) ?_
  refine w_callV (i := 51) (As := []) (rest := [.int r]) A hl.1 hP hS mk_L_59 so_51 (show g_C X yX8_gone cX8_gone 2 (some .int) 0 [.ref (X.1 + 51)] S1 (some (.int r)) S2 from ctX8_gone e2) rfl ⟨Nat.le_of_ble_eq_true rfl, Nat.le_of_ble_eq_true rfl⟩ ⟨Nat.le_of_ble_eq_true rfl, Nat.le_of_ble_eq_true rfl⟩ rfl (Nat.le_of_ble_eq_true rfl) dL_law_423 (fun H locs hP hS => ?_)
  refine W.eq (g2 := F0 m 426 ls [.int r, .int r]) rfl ?_
  refine lv_icmp_eq (tgt := 1146) A.1 A.2.1 dL_law_426 (by decide) (fun _ => ?_) (fun h => absurd rfl h)
  exact kk H locs S2 hP hS hI2
set_option maxRecDepth 100000 in
theorem la_11 (C : lC X p s m c b L xs x3) (hP : gP X S H) (hS : va_S (gA X) s.heap H locs) (hI : Inv S S) (hl : lv_has ls 4 [(0, .ref b), (1, .ref (X.1 + 0)), (2, .ref (X.1 + 51)), (3, .int x3)])
    (kk : ∀ (H1 : Heap) (locs1 : List Loc) (S1 : gS), gP X S1 H1 → va_S (gA X) s.heap H1 locs1 → Inv S1 S1 → W p l e room_1 s m #[Value.ref b] below meth c H1 locs1 73 3089 Q (F0 m 1146 ls [])) : W p l e room_1 s m #[Value.ref b] below meth c H locs 73 3089 Q (F0 m 431 ls []) := by
  obtain ⟨A, hX, hbl, hXB, h1, h2, h3, h4, h5⟩ := C
  have hbA : ¬ gA X b := by show ¬ X.1 ≤ b; omega
  obtain ⟨r, S1, S2, e1, e2, hI2⟩ := (op_plan (F := 20000001) (by decide) (xs (x3 + 1).toNatClampNeg) (xs (x3 + 2).toNatClampNeg) (xs (x3 + 3).toNatClampNeg)).use hI
  refine lv_aload_n A.1 A.2.1 dL_law_431 rfl (lv_at hl 1 rfl) ?_
  refine lv_aload_n A.1 A.2.1 dL_law_432 rfl (lv_at hl 0 rfl) ?_
  refine lv_iload_n A.1 A.2.1 dL_law_433 rfl (lv_at hl 3 rfl) ?_
  refine lv_iconst (v := 1) A.1 A.2.1 dL_law_434 (by decide) ?_
  refine lv_iadd A.1 A.2.1 dL_law_435 ?_
  refine va_sld A.1 A.2.1 hX hbl hbA hS h1 dL_law_436 ?_
  refine lv_aload_n A.1 A.2.1 dL_law_437 rfl (lv_at hl 0 rfl) ?_
  refine lv_iload_n A.1 A.2.1 dL_law_438 rfl (lv_at hl 3 rfl) ?_
  refine lv_iconst (v := 2) A.1 A.2.1 dL_law_439 (by decide) ?_
  refine lv_iadd A.1 A.2.1 dL_law_440 ?_
  refine va_sld A.1 A.2.1 hX hbl hbA hS h2 dL_law_441 ?_
  refine lv_aload_n A.1 A.2.1 dL_law_442 rfl (lv_at hl 0 rfl) ?_
  refine lv_iload_n A.1 A.2.1 dL_law_443 rfl (lv_at hl 3 rfl) ?_
  refine lv_iconst (v := 3) A.1 A.2.1 dL_law_444 (by decide) ?_
  refine lv_iadd A.1 A.2.1 dL_law_445 ?_
  refine va_sld A.1 A.2.1 hX hbl hbA hS h3 dL_law_446 ?_
  refine w_callV (i := 0) (As := [.int (xs (x3 + 1).toNatClampNeg), .int (xs (x3 + 2).toNatClampNeg), .int (xs (x3 + 3).toNatClampNeg)]) (rest := []) A hl.1 hP hS mk_L_60 so_0 (show g_C X yX7_plan cX7_plan 5 (some .int) 3 [.ref (X.1 + 0), .int (xs (x3 + 1).toNatClampNeg), .int (xs (x3 + 2).toNatClampNeg), .int (xs (x3 + 3).toNatClampNeg)] S (some (.int r)) S1 from ctX7_plan e1) rfl ⟨Nat.le_of_ble_eq_true rfl, Nat.le_of_ble_eq_true rfl⟩ ⟨Nat.le_of_ble_eq_true rfl, Nat.le_of_ble_eq_true rfl⟩ rfl (Nat.le_of_ble_eq_true rfl) dL_law_447 (fun H locs hP hS => ?_)
  refine W.eq (g2 := F0 m 450 ls [.int r]) rfl ?_
  refine lv_aload_n A.1 A.2.1 dL_law_450 rfl (lv_at hl 2 rfl) ?_
  refine lv_aload_n A.1 A.2.1 dL_law_451 rfl (lv_at hl 0 rfl) ?_
  refine lv_iload_n A.1 A.2.1 dL_law_452 rfl (lv_at hl 3 rfl) ?_
  refine lv_iconst (v := 1) A.1 A.2.1 dL_law_453 (by decide) ?_
  refine lv_iadd A.1 A.2.1 dL_law_454 ?_
  refine va_sld A.1 A.2.1 hX hbl hbA hS h1 dL_law_455 ?_
  refine lv_aload_n A.1 A.2.1 dL_law_456 rfl (lv_at hl 0 rfl) ?_
  refine lv_iload_n A.1 A.2.1 dL_law_457 rfl (lv_at hl 3 rfl) ?_
  refine lv_iconst (v := 2) A.1 A.2.1 dL_law_458 (by decide) ?_
  refine lv_iadd A.1 A.2.1 dL_law_459 ?_
  refine va_sld A.1 A.2.1 hX hbl hbA hS h2 dL_law_460 ?_
  refine lv_aload_n A.1 A.2.1 dL_law_461 rfl (lv_at hl 0 rfl) ?_
  refine lv_iload_n A.1 A.2.1 dL_law_462 rfl (lv_at hl 3 rfl) ?_
  refine lv_iconst (v := 3) A.1 A.2.1 dL_law_463 (by decide) ?_
  refine lv_iadd A.1 A.2.1 dL_law_464 ?_
  refine va_sld A.1 A.2.1 hX hbl hbA hS h3 dL_law_465 ?_
  refine w_callV (i := 51) (As := [.int (xs (x3 + 1).toNatClampNeg), .int (xs (x3 + 2).toNatClampNeg), .int (xs (x3 + 3).toNatClampNeg)]) (rest := [.int r]) A hl.1 hP hS mk_L_64 so_51 (show g_C X yX8_plan cX8_plan 4 (some .int) 5 [.ref (X.1 + 51), .int (xs (x3 + 1).toNatClampNeg), .int (xs (x3 + 2).toNatClampNeg), .int (xs (x3 + 3).toNatClampNeg)] S1 (some (.int r)) S2 from ctX8_plan e2) rfl ⟨Nat.le_of_ble_eq_true rfl, Nat.le_of_ble_eq_true rfl⟩ ⟨Nat.le_of_ble_eq_true rfl, Nat.le_of_ble_eq_true rfl⟩ rfl (Nat.le_of_ble_eq_true rfl) dL_law_466 (fun H locs hP hS => ?_)
  refine W.eq (g2 := F0 m 469 ls [.int r, .int r]) rfl ?_
  refine lv_icmp_eq (tgt := 1146) A.1 A.2.1 dL_law_469 (by decide) (fun _ => ?_) (fun h => absurd rfl h)
  exact kk H locs S2 hP hS hI2
set_option maxRecDepth 100000 in
theorem la_12 (C : lC X p s m c b L xs x3) (hP : gP X S H) (hS : va_S (gA X) s.heap H locs) (hI : Inv S S) (hl : lv_has ls 4 [(0, .ref b), (1, .ref (X.1 + 0)), (2, .ref (X.1 + 51)), (3, .int x3)])
    (kk : ∀ (H1 : Heap) (locs1 : List Loc) (S1 : gS), gP X S1 H1 → va_S (gA X) s.heap H1 locs1 → Inv S1 S1 → W p l e room_1 s m #[Value.ref b] below meth c H1 locs1 73 3089 Q (F0 m 1146 ls [])) : W p l e room_1 s m #[Value.ref b] below meth c H locs 73 3089 Q (F0 m 474 ls []) := by
  obtain ⟨A, hX, hbl, hXB, h1, h2, h3, h4, h5⟩ := C
  have hbA : ¬ gA X b := by show ¬ X.1 ≤ b; omega
  obtain ⟨r, S1, S2, e1, e2, hI2⟩ := (op_walk (F := 20000001) (by decide) (xs (x3 + 1).toNatClampNeg)).use hI
  refine lv_aload_n A.1 A.2.1 dL_law_474 rfl (lv_at hl 1 rfl) ?_
  refine lv_aload_n A.1 A.2.1 dL_law_475 rfl (lv_at hl 0 rfl) ?_
  refine lv_iload_n A.1 A.2.1 dL_law_476 rfl (lv_at hl 3 rfl) ?_
  refine lv_iconst (v := 1) A.1 A.2.1 dL_law_477 (by decide) ?_
  refine lv_iadd A.1 A.2.1 dL_law_478 ?_
  refine va_sld A.1 A.2.1 hX hbl hbA hS h1 dL_law_479 ?_
  refine w_callV (i := 0) (As := [.int (xs (x3 + 1).toNatClampNeg)]) (rest := []) A hl.1 hP hS mk_L_65 so_0 (show g_C X yX7_walk cX7_walk 2 (some .int) 4 [.ref (X.1 + 0), .int (xs (x3 + 1).toNatClampNeg)] S (some (.int r)) S1 from ctX7_walk e1) rfl ⟨Nat.le_of_ble_eq_true rfl, Nat.le_of_ble_eq_true rfl⟩ ⟨Nat.le_of_ble_eq_true rfl, Nat.le_of_ble_eq_true rfl⟩ rfl (Nat.le_of_ble_eq_true rfl) dL_law_480 (fun H locs hP hS => ?_)
  refine W.eq (g2 := F0 m 483 ls [.int r]) rfl ?_
  refine lv_aload_n A.1 A.2.1 dL_law_483 rfl (lv_at hl 2 rfl) ?_
  refine lv_aload_n A.1 A.2.1 dL_law_484 rfl (lv_at hl 0 rfl) ?_
  refine lv_iload_n A.1 A.2.1 dL_law_485 rfl (lv_at hl 3 rfl) ?_
  refine lv_iconst (v := 1) A.1 A.2.1 dL_law_486 (by decide) ?_
  refine lv_iadd A.1 A.2.1 dL_law_487 ?_
  refine va_sld A.1 A.2.1 hX hbl hbA hS h1 dL_law_488 ?_
  refine w_callV (i := 51) (As := [.int (xs (x3 + 1).toNatClampNeg)]) (rest := [.int r]) A hl.1 hP hS mk_L_68 so_51 (show g_C X yX8_walk cX8_walk 2 (some .int) 4 [.ref (X.1 + 51), .int (xs (x3 + 1).toNatClampNeg)] S1 (some (.int r)) S2 from ctX8_walk e2) rfl ⟨Nat.le_of_ble_eq_true rfl, Nat.le_of_ble_eq_true rfl⟩ ⟨Nat.le_of_ble_eq_true rfl, Nat.le_of_ble_eq_true rfl⟩ rfl (Nat.le_of_ble_eq_true rfl) dL_law_489 (fun H locs hP hS => ?_)
  refine W.eq (g2 := F0 m 492 ls [.int r, .int r]) rfl ?_
  refine lv_icmp_eq (tgt := 1146) A.1 A.2.1 dL_law_492 (by decide) (fun _ => ?_) (fun h => absurd rfl h)
  exact kk H locs S2 hP hS hI2
set_option maxRecDepth 100000 in
theorem la_13 (C : lC X p s m c b L xs x3) (hP : gP X S H) (hS : va_S (gA X) s.heap H locs) (hI : Inv S S) (hl : lv_has ls 4 [(0, .ref b), (1, .ref (X.1 + 0)), (2, .ref (X.1 + 51)), (3, .int x3)])
    (kk : ∀ (H1 : Heap) (locs1 : List Loc) (S1 : gS), gP X S1 H1 → va_S (gA X) s.heap H1 locs1 → Inv S1 S1 → W p l e room_1 s m #[Value.ref b] below meth c H1 locs1 73 3089 Q (F0 m 1146 ls [])) : W p l e room_1 s m #[Value.ref b] below meth c H locs 73 3089 Q (F0 m 497 ls []) := by
  obtain ⟨A, hX, hbl, hXB, h1, h2, h3, h4, h5⟩ := C
  have hbA : ¬ gA X b := by show ¬ X.1 ≤ b; omega
  obtain ⟨r, S1, S2, e1, e2, hI2⟩ := (op_morning (F := 20000001) (by decide) ).use hI
  refine lv_aload_n A.1 A.2.1 dL_law_497 rfl (lv_at hl 1 rfl) ?_
  refine w_callV (i := 0) (As := []) (rest := []) A hl.1 hP hS mk_L_69 so_0 (show g_C X yX7_morning cX7_morning 1 (some .int) 5 [.ref (X.1 + 0)] S (some (.int r)) S1 from ctX7_morning e1) rfl ⟨Nat.le_of_ble_eq_true rfl, Nat.le_of_ble_eq_true rfl⟩ ⟨Nat.le_of_ble_eq_true rfl, Nat.le_of_ble_eq_true rfl⟩ rfl (Nat.le_of_ble_eq_true rfl) dL_law_498 (fun H locs hP hS => ?_)
  refine W.eq (g2 := F0 m 501 ls [.int r]) rfl ?_
  refine lv_aload_n A.1 A.2.1 dL_law_501 rfl (lv_at hl 2 rfl) ?_
  refine w_callV (i := 51) (As := []) (rest := [.int r]) A hl.1 hP hS mk_L_72 so_51 (show g_C X yX8_morning cX8_morning 1 (some .int) 5 [.ref (X.1 + 51)] S1 (some (.int r)) S2 from ctX8_morning e2) rfl ⟨Nat.le_of_ble_eq_true rfl, Nat.le_of_ble_eq_true rfl⟩ ⟨Nat.le_of_ble_eq_true rfl, Nat.le_of_ble_eq_true rfl⟩ rfl (Nat.le_of_ble_eq_true rfl) dL_law_502 (fun H locs hP hS => ?_)
  refine W.eq (g2 := F0 m 505 ls [.int r, .int r]) rfl ?_
  refine lv_icmp_eq (tgt := 1146) A.1 A.2.1 dL_law_505 (by decide) (fun _ => ?_) (fun h => absurd rfl h)
  exact kk H locs S2 hP hS hI2
set_option maxRecDepth 100000 in
theorem la_14 (C : lC X p s m c b L xs x3) (hP : gP X S H) (hS : va_S (gA X) s.heap H locs) (hI : Inv S S) (hl : lv_has ls 4 [(0, .ref b), (1, .ref (X.1 + 0)), (2, .ref (X.1 + 51)), (3, .int x3)])
    (kk : ∀ (H1 : Heap) (locs1 : List Loc) (S1 : gS), gP X S1 H1 → va_S (gA X) s.heap H1 locs1 → Inv S1 S1 → W p l e room_1 s m #[Value.ref b] below meth c H1 locs1 73 3089 Q (F0 m 1146 ls [])) : W p l e room_1 s m #[Value.ref b] below meth c H locs 73 3089 Q (F0 m 510 ls []) := by
  obtain ⟨A, hX, hbl, hXB, h1, h2, h3, h4, h5⟩ := C
  have hbA : ¬ gA X b := by show ¬ X.1 ≤ b; omega
  obtain ⟨r, S1, S2, e1, e2, hI2⟩ := (op_all (F := 20000001) (by decide) (xs (x3 + 1).toNatClampNeg)).use hI
  refine lv_aload_n A.1 A.2.1 dL_law_510 rfl (lv_at hl 1 rfl) ?_
  refine lv_aload_n A.1 A.2.1 dL_law_511 rfl (lv_at hl 0 rfl) ?_
  refine lv_iload_n A.1 A.2.1 dL_law_512 rfl (lv_at hl 3 rfl) ?_
  refine lv_iconst (v := 1) A.1 A.2.1 dL_law_513 (by decide) ?_
  refine lv_iadd A.1 A.2.1 dL_law_514 ?_
  refine va_sld A.1 A.2.1 hX hbl hbA hS h1 dL_law_515 ?_
  refine w_callV (i := 0) (As := [.int (xs (x3 + 1).toNatClampNeg)]) (rest := []) A hl.1 hP hS mk_L_73 so_0 (show g_C X yX7_all cX7_all 2 (some .int) 5 [.ref (X.1 + 0), .int (xs (x3 + 1).toNatClampNeg)] S (some (.int r)) S1 from ctX7_all e1) rfl ⟨Nat.le_of_ble_eq_true rfl, Nat.le_of_ble_eq_true rfl⟩ ⟨Nat.le_of_ble_eq_true rfl, Nat.le_of_ble_eq_true rfl⟩ rfl (Nat.le_of_ble_eq_true rfl) dL_law_516 (fun H locs hP hS => ?_)
  refine W.eq (g2 := F0 m 519 ls [.int r]) rfl ?_
  refine lv_aload_n A.1 A.2.1 dL_law_519 rfl (lv_at hl 2 rfl) ?_
  refine lv_aload_n A.1 A.2.1 dL_law_520 rfl (lv_at hl 0 rfl) ?_
  refine lv_iload_n A.1 A.2.1 dL_law_521 rfl (lv_at hl 3 rfl) ?_
  refine lv_iconst (v := 1) A.1 A.2.1 dL_law_522 (by decide) ?_
  refine lv_iadd A.1 A.2.1 dL_law_523 ?_
  refine va_sld A.1 A.2.1 hX hbl hbA hS h1 dL_law_524 ?_
  refine w_callV (i := 51) (As := [.int (xs (x3 + 1).toNatClampNeg)]) (rest := [.int r]) A hl.1 hP hS mk_L_76 so_51 (show g_C X yX8_all cX8_all 2 (some .int) 6 [.ref (X.1 + 51), .int (xs (x3 + 1).toNatClampNeg)] S1 (some (.int r)) S2 from ctX8_all e2) rfl ⟨Nat.le_of_ble_eq_true rfl, Nat.le_of_ble_eq_true rfl⟩ ⟨Nat.le_of_ble_eq_true rfl, Nat.le_of_ble_eq_true rfl⟩ rfl (Nat.le_of_ble_eq_true rfl) dL_law_525 (fun H locs hP hS => ?_)
  refine W.eq (g2 := F0 m 528 ls [.int r, .int r]) rfl ?_
  refine lv_icmp_eq (tgt := 1146) A.1 A.2.1 dL_law_528 (by decide) (fun _ => ?_) (fun h => absurd rfl h)
  exact kk H locs S2 hP hS hI2
set_option maxRecDepth 100000 in
theorem la_15 (C : lC X p s m c b L xs x3) (hP : gP X S H) (hS : va_S (gA X) s.heap H locs) (hI : Inv S S) (hl : lv_has ls 4 [(0, .ref b), (1, .ref (X.1 + 0)), (2, .ref (X.1 + 51)), (3, .int x3)])
    (kk : ∀ (H1 : Heap) (locs1 : List Loc) (S1 : gS), gP X S1 H1 → va_S (gA X) s.heap H1 locs1 → Inv S1 S1 → W p l e room_1 s m #[Value.ref b] below meth c H1 locs1 73 3089 Q (F0 m 1146 ls [])) : W p l e room_1 s m #[Value.ref b] below meth c H locs 73 3089 Q (F0 m 533 ls []) := by
  obtain ⟨A, hX, hbl, hXB, h1, h2, h3, h4, h5⟩ := C
  have hbA : ¬ gA X b := by show ¬ X.1 ≤ b; omega
  obtain ⟨r, S1, S2, e1, e2, hI2⟩ := (op_straight (F := 20000001) (by decide) (xs (x3 + 1).toNatClampNeg)).use hI
  refine lv_aload_n A.1 A.2.1 dL_law_533 rfl (lv_at hl 1 rfl) ?_
  refine lv_aload_n A.1 A.2.1 dL_law_534 rfl (lv_at hl 0 rfl) ?_
  refine lv_iload_n A.1 A.2.1 dL_law_535 rfl (lv_at hl 3 rfl) ?_
  refine lv_iconst (v := 1) A.1 A.2.1 dL_law_536 (by decide) ?_
  refine lv_iadd A.1 A.2.1 dL_law_537 ?_
  refine va_sld A.1 A.2.1 hX hbl hbA hS h1 dL_law_538 ?_
  refine w_callV (i := 0) (As := [.int (xs (x3 + 1).toNatClampNeg)]) (rest := []) A hl.1 hP hS mk_L_77 so_0 (show g_C X yX7_straight cX7_straight 2 (some .int) 4 [.ref (X.1 + 0), .int (xs (x3 + 1).toNatClampNeg)] S (some (.int r)) S1 from ctX7_straight e1) rfl ⟨Nat.le_of_ble_eq_true rfl, Nat.le_of_ble_eq_true rfl⟩ ⟨Nat.le_of_ble_eq_true rfl, Nat.le_of_ble_eq_true rfl⟩ rfl (Nat.le_of_ble_eq_true rfl) dL_law_539 (fun H locs hP hS => ?_)
  refine W.eq (g2 := F0 m 542 ls [.int r]) rfl ?_
  refine lv_aload_n A.1 A.2.1 dL_law_542 rfl (lv_at hl 2 rfl) ?_
  refine lv_aload_n A.1 A.2.1 dL_law_543 rfl (lv_at hl 0 rfl) ?_
  refine lv_iload_n A.1 A.2.1 dL_law_544 rfl (lv_at hl 3 rfl) ?_
  refine lv_iconst (v := 1) A.1 A.2.1 dL_law_545 (by decide) ?_
  refine lv_iadd A.1 A.2.1 dL_law_546 ?_
  refine va_sld A.1 A.2.1 hX hbl hbA hS h1 dL_law_547 ?_
  refine w_callV (i := 51) (As := [.int (xs (x3 + 1).toNatClampNeg)]) (rest := [.int r]) A hl.1 hP hS mk_L_80 so_51 (show g_C X yX8_straight cX8_straight 2 (some .int) 4 [.ref (X.1 + 51), .int (xs (x3 + 1).toNatClampNeg)] S1 (some (.int r)) S2 from ctX8_straight e2) rfl ⟨Nat.le_of_ble_eq_true rfl, Nat.le_of_ble_eq_true rfl⟩ ⟨Nat.le_of_ble_eq_true rfl, Nat.le_of_ble_eq_true rfl⟩ rfl (Nat.le_of_ble_eq_true rfl) dL_law_548 (fun H locs hP hS => ?_)
  refine W.eq (g2 := F0 m 551 ls [.int r, .int r]) rfl ?_
  refine lv_icmp_eq (tgt := 1146) A.1 A.2.1 dL_law_551 (by decide) (fun _ => ?_) (fun h => absurd rfl h)
  exact kk H locs S2 hP hS hI2
set_option maxRecDepth 100000 in
theorem la_16 (C : lC X p s m c b L xs x3) (hP : gP X S H) (hS : va_S (gA X) s.heap H locs) (hI : Inv S S) (hl : lv_has ls 4 [(0, .ref b), (1, .ref (X.1 + 0)), (2, .ref (X.1 + 51)), (3, .int x3)])
    (kk : ∀ (H1 : Heap) (locs1 : List Loc) (S1 : gS), gP X S1 H1 → va_S (gA X) s.heap H1 locs1 → Inv S1 S1 → W p l e room_1 s m #[Value.ref b] below meth c H1 locs1 73 3089 Q (F0 m 1146 ls [])) : W p l e room_1 s m #[Value.ref b] below meth c H locs 73 3089 Q (F0 m 556 ls []) := by
  obtain ⟨A, hX, hbl, hXB, h1, h2, h3, h4, h5⟩ := C
  have hbA : ¬ gA X b := by show ¬ X.1 ≤ b; omega
  obtain ⟨r, S1, S2, e1, e2, hI2⟩ := (op_longer (F := 20000001) (by decide) ).use hI
  refine lv_aload_n A.1 A.2.1 dL_law_556 rfl (lv_at hl 1 rfl) ?_
  refine w_callV (i := 0) (As := []) (rest := []) A hl.1 hP hS mk_L_81 so_0 (show g_C X yX7_longer cX7_longer 4 (some .int) 4 [.ref (X.1 + 0)] S (some (.int r)) S1 from ctX7_longer e1) rfl ⟨Nat.le_of_ble_eq_true rfl, Nat.le_of_ble_eq_true rfl⟩ ⟨Nat.le_of_ble_eq_true rfl, Nat.le_of_ble_eq_true rfl⟩ rfl (Nat.le_of_ble_eq_true rfl) dL_law_557 (fun H locs hP hS => ?_)
  refine W.eq (g2 := F0 m 560 ls [.int r]) rfl ?_
  refine lv_aload_n A.1 A.2.1 dL_law_560 rfl (lv_at hl 2 rfl) ?_
  refine w_callV (i := 51) (As := []) (rest := [.int r]) A hl.1 hP hS mk_L_84 so_51 (show g_C X yX8_longer cX8_longer 1 (some .int) 6 [.ref (X.1 + 51)] S1 (some (.int r)) S2 from ctX8_longer e2) rfl ⟨Nat.le_of_ble_eq_true rfl, Nat.le_of_ble_eq_true rfl⟩ ⟨Nat.le_of_ble_eq_true rfl, Nat.le_of_ble_eq_true rfl⟩ rfl (Nat.le_of_ble_eq_true rfl) dL_law_561 (fun H locs hP hS => ?_)
  refine W.eq (g2 := F0 m 564 ls [.int r, .int r]) rfl ?_
  refine lv_icmp_eq (tgt := 1146) A.1 A.2.1 dL_law_564 (by decide) (fun _ => ?_) (fun h => absurd rfl h)
  exact kk H locs S2 hP hS hI2
set_option maxRecDepth 100000 in
theorem la_17 (C : lC X p s m c b L xs x3) (hP : gP X S H) (hS : va_S (gA X) s.heap H locs) (hI : Inv S S) (hl : lv_has ls 4 [(0, .ref b), (1, .ref (X.1 + 0)), (2, .ref (X.1 + 51)), (3, .int x3)])
    (kk : ∀ (H1 : Heap) (locs1 : List Loc) (S1 : gS), gP X S1 H1 → va_S (gA X) s.heap H1 locs1 → Inv S1 S1 → W p l e room_1 s m #[Value.ref b] below meth c H1 locs1 73 3089 Q (F0 m 1146 ls [])) : W p l e room_1 s m #[Value.ref b] below meth c H locs 73 3089 Q (F0 m 569 ls []) := by
  obtain ⟨A, hX, hbl, hXB, h1, h2, h3, h4, h5⟩ := C
  have hbA : ¬ gA X b := by show ¬ X.1 ≤ b; omega
  obtain ⟨r, S1, S2, e1, e2, hI2⟩ := (op_orders (F := 20000001) (by decide) (xs (x3 + 1).toNatClampNeg)).use hI
  refine lv_aload_n A.1 A.2.1 dL_law_569 rfl (lv_at hl 1 rfl) ?_
  refine lv_aload_n A.1 A.2.1 dL_law_570 rfl (lv_at hl 0 rfl) ?_
  refine lv_iload_n A.1 A.2.1 dL_law_571 rfl (lv_at hl 3 rfl) ?_
  refine lv_iconst (v := 1) A.1 A.2.1 dL_law_572 (by decide) ?_
  refine lv_iadd A.1 A.2.1 dL_law_573 ?_
  refine va_sld A.1 A.2.1 hX hbl hbA hS h1 dL_law_574 ?_
  refine w_callV (i := 0) (As := [.int (xs (x3 + 1).toNatClampNeg)]) (rest := []) A hl.1 hP hS mk_L_85 so_0 (show g_C X yX7_orders cX7_orders 2 (some .int) 6 [.ref (X.1 + 0), .int (xs (x3 + 1).toNatClampNeg)] S (some (.int r)) S1 from ctX7_orders e1) rfl ⟨Nat.le_of_ble_eq_true rfl, Nat.le_of_ble_eq_true rfl⟩ ⟨Nat.le_of_ble_eq_true rfl, Nat.le_of_ble_eq_true rfl⟩ rfl (Nat.le_of_ble_eq_true rfl) dL_law_575 (fun H locs hP hS => ?_)
  refine W.eq (g2 := F0 m 578 ls [.int r]) rfl ?_
  refine lv_aload_n A.1 A.2.1 dL_law_578 rfl (lv_at hl 2 rfl) ?_
  refine lv_aload_n A.1 A.2.1 dL_law_579 rfl (lv_at hl 0 rfl) ?_
  refine lv_iload_n A.1 A.2.1 dL_law_580 rfl (lv_at hl 3 rfl) ?_
  refine lv_iconst (v := 1) A.1 A.2.1 dL_law_581 (by decide) ?_
  refine lv_iadd A.1 A.2.1 dL_law_582 ?_
  refine va_sld A.1 A.2.1 hX hbl hbA hS h1 dL_law_583 ?_
  refine w_callV (i := 51) (As := [.int (xs (x3 + 1).toNatClampNeg)]) (rest := [.int r]) A hl.1 hP hS mk_L_88 so_51 (show g_C X yX8_orders cX8_orders 2 (some .int) 6 [.ref (X.1 + 51), .int (xs (x3 + 1).toNatClampNeg)] S1 (some (.int r)) S2 from ctX8_orders e2) rfl ⟨Nat.le_of_ble_eq_true rfl, Nat.le_of_ble_eq_true rfl⟩ ⟨Nat.le_of_ble_eq_true rfl, Nat.le_of_ble_eq_true rfl⟩ rfl (Nat.le_of_ble_eq_true rfl) dL_law_584 (fun H locs hP hS => ?_)
  refine W.eq (g2 := F0 m 587 ls [.int r, .int r]) rfl ?_
  refine lv_icmp_eq (tgt := 1146) A.1 A.2.1 dL_law_587 (by decide) (fun _ => ?_) (fun h => absurd rfl h)
  exact kk H locs S2 hP hS hI2
set_option maxRecDepth 100000 in
theorem la_18 (C : lC X p s m c b L xs x3) (hP : gP X S H) (hS : va_S (gA X) s.heap H locs) (hI : Inv S S) (hl : lv_has ls 4 [(0, .ref b), (1, .ref (X.1 + 0)), (2, .ref (X.1 + 51)), (3, .int x3)])
    (kk : ∀ (H1 : Heap) (locs1 : List Loc) (S1 : gS), gP X S1 H1 → va_S (gA X) s.heap H1 locs1 → Inv S1 S1 → W p l e room_1 s m #[Value.ref b] below meth c H1 locs1 73 3089 Q (F0 m 1146 ls [])) : W p l e room_1 s m #[Value.ref b] below meth c H locs 73 3089 Q (F0 m 592 ls []) := by
  obtain ⟨A, hX, hbl, hXB, h1, h2, h3, h4, h5⟩ := C
  have hbA : ¬ gA X b := by show ¬ X.1 ≤ b; omega
  obtain ⟨r, S1, S2, e1, e2, hI2⟩ := (op_order (F := 20000001) (by decide) (xs (x3 + 1).toNatClampNeg)).use hI
  refine lv_aload_n A.1 A.2.1 dL_law_592 rfl (lv_at hl 1 rfl) ?_
  refine lv_aload_n A.1 A.2.1 dL_law_593 rfl (lv_at hl 0 rfl) ?_
  refine lv_iload_n A.1 A.2.1 dL_law_594 rfl (lv_at hl 3 rfl) ?_
  refine lv_iconst (v := 1) A.1 A.2.1 dL_law_595 (by decide) ?_
  refine lv_iadd A.1 A.2.1 dL_law_596 ?_
  refine va_sld A.1 A.2.1 hX hbl hbA hS h1 dL_law_597 ?_
  refine w_callV (i := 0) (As := [.int (xs (x3 + 1).toNatClampNeg)]) (rest := []) A hl.1 hP hS mk_L_89 so_0 (show g_C X yX7_order cX7_order 2 (some .int) 6 [.ref (X.1 + 0), .int (xs (x3 + 1).toNatClampNeg)] S (some (.int r)) S1 from ctX7_order e1) rfl ⟨Nat.le_of_ble_eq_true rfl, Nat.le_of_ble_eq_true rfl⟩ ⟨Nat.le_of_ble_eq_true rfl, Nat.le_of_ble_eq_true rfl⟩ rfl (Nat.le_of_ble_eq_true rfl) dL_law_598 (fun H locs hP hS => ?_)
  refine W.eq (g2 := F0 m 601 ls [.int r]) rfl ?_
  refine lv_aload_n A.1 A.2.1 dL_law_601 rfl (lv_at hl 2 rfl) ?_
  refine lv_aload_n A.1 A.2.1 dL_law_602 rfl (lv_at hl 0 rfl) ?_
  refine lv_iload_n A.1 A.2.1 dL_law_603 rfl (lv_at hl 3 rfl) ?_
  refine lv_iconst (v := 1) A.1 A.2.1 dL_law_604 (by decide) ?_
  refine lv_iadd A.1 A.2.1 dL_law_605 ?_
  refine va_sld A.1 A.2.1 hX hbl hbA hS h1 dL_law_606 ?_
  refine w_callV (i := 51) (As := [.int (xs (x3 + 1).toNatClampNeg)]) (rest := [.int r]) A hl.1 hP hS mk_L_92 so_51 (show g_C X yX8_order cX8_order 2 (some .int) 6 [.ref (X.1 + 51), .int (xs (x3 + 1).toNatClampNeg)] S1 (some (.int r)) S2 from ctX8_order e2) rfl ⟨Nat.le_of_ble_eq_true rfl, Nat.le_of_ble_eq_true rfl⟩ ⟨Nat.le_of_ble_eq_true rfl, Nat.le_of_ble_eq_true rfl⟩ rfl (Nat.le_of_ble_eq_true rfl) dL_law_607 (fun H locs hP hS => ?_)
  refine W.eq (g2 := F0 m 610 ls [.int r, .int r]) rfl ?_
  refine lv_icmp_eq (tgt := 1146) A.1 A.2.1 dL_law_610 (by decide) (fun _ => ?_) (fun h => absurd rfl h)
  exact kk H locs S2 hP hS hI2
set_option maxRecDepth 100000 in
theorem la_19 (C : lC X p s m c b L xs x3) (hP : gP X S H) (hS : va_S (gA X) s.heap H locs) (hI : Inv S S) (hl : lv_has ls 4 [(0, .ref b), (1, .ref (X.1 + 0)), (2, .ref (X.1 + 51)), (3, .int x3)])
    (kk : ∀ (H1 : Heap) (locs1 : List Loc) (S1 : gS), gP X S1 H1 → va_S (gA X) s.heap H1 locs1 → Inv S1 S1 → W p l e room_1 s m #[Value.ref b] below meth c H1 locs1 73 3089 Q (F0 m 1146 ls [])) : W p l e room_1 s m #[Value.ref b] below meth c H locs 73 3089 Q (F0 m 615 ls []) := by
  obtain ⟨A, hX, hbl, hXB, h1, h2, h3, h4, h5⟩ := C
  have hbA : ¬ gA X b := by show ¬ X.1 ≤ b; omega
  obtain ⟨r, S1, S2, e1, e2, hI2⟩ := (op_first (F := 20000001) (by decide) (xs (x3 + 1).toNatClampNeg)).use hI
  refine lv_aload_n A.1 A.2.1 dL_law_615 rfl (lv_at hl 1 rfl) ?_
  refine lv_aload_n A.1 A.2.1 dL_law_616 rfl (lv_at hl 0 rfl) ?_
  refine lv_iload_n A.1 A.2.1 dL_law_617 rfl (lv_at hl 3 rfl) ?_
  refine lv_iconst (v := 1) A.1 A.2.1 dL_law_618 (by decide) ?_
  refine lv_iadd A.1 A.2.1 dL_law_619 ?_
  refine va_sld A.1 A.2.1 hX hbl hbA hS h1 dL_law_620 ?_
  refine w_callV (i := 0) (As := [.int (xs (x3 + 1).toNatClampNeg)]) (rest := []) A hl.1 hP hS mk_L_93 so_0 (show g_C X yX7_first cX7_first 2 (some .int) 6 [.ref (X.1 + 0), .int (xs (x3 + 1).toNatClampNeg)] S (some (.int r)) S1 from ctX7_first e1) rfl ⟨Nat.le_of_ble_eq_true rfl, Nat.le_of_ble_eq_true rfl⟩ ⟨Nat.le_of_ble_eq_true rfl, Nat.le_of_ble_eq_true rfl⟩ rfl (Nat.le_of_ble_eq_true rfl) dL_law_621 (fun H locs hP hS => ?_)
  refine W.eq (g2 := F0 m 624 ls [.int r]) rfl ?_
  refine lv_aload_n A.1 A.2.1 dL_law_624 rfl (lv_at hl 2 rfl) ?_
  refine lv_aload_n A.1 A.2.1 dL_law_625 rfl (lv_at hl 0 rfl) ?_
  refine lv_iload_n A.1 A.2.1 dL_law_626 rfl (lv_at hl 3 rfl) ?_
  refine lv_iconst (v := 1) A.1 A.2.1 dL_law_627 (by decide) ?_
  refine lv_iadd A.1 A.2.1 dL_law_628 ?_
  refine va_sld A.1 A.2.1 hX hbl hbA hS h1 dL_law_629 ?_
  refine w_callV (i := 51) (As := [.int (xs (x3 + 1).toNatClampNeg)]) (rest := [.int r]) A hl.1 hP hS mk_L_96 so_51 (show g_C X yX8_first cX8_first 2 (some .int) 5 [.ref (X.1 + 51), .int (xs (x3 + 1).toNatClampNeg)] S1 (some (.int r)) S2 from ctX8_first e2) rfl ⟨Nat.le_of_ble_eq_true rfl, Nat.le_of_ble_eq_true rfl⟩ ⟨Nat.le_of_ble_eq_true rfl, Nat.le_of_ble_eq_true rfl⟩ rfl (Nat.le_of_ble_eq_true rfl) dL_law_630 (fun H locs hP hS => ?_)
  refine W.eq (g2 := F0 m 633 ls [.int r, .int r]) rfl ?_
  refine lv_icmp_eq (tgt := 1146) A.1 A.2.1 dL_law_633 (by decide) (fun _ => ?_) (fun h => absurd rfl h)
  exact kk H locs S2 hP hS hI2
set_option maxRecDepth 100000 in
theorem la_20 (C : lC X p s m c b L xs x3) (hP : gP X S H) (hS : va_S (gA X) s.heap H locs) (hI : Inv S S) (hl : lv_has ls 4 [(0, .ref b), (1, .ref (X.1 + 0)), (2, .ref (X.1 + 51)), (3, .int x3)])
    (kk : ∀ (H1 : Heap) (locs1 : List Loc) (S1 : gS), gP X S1 H1 → va_S (gA X) s.heap H1 locs1 → Inv S1 S1 → W p l e room_1 s m #[Value.ref b] below meth c H1 locs1 73 3089 Q (F0 m 1146 ls [])) : W p l e room_1 s m #[Value.ref b] below meth c H locs 73 3089 Q (F0 m 638 ls []) := by
  obtain ⟨A, hX, hbl, hXB, h1, h2, h3, h4, h5⟩ := C
  have hbA : ¬ gA X b := by show ¬ X.1 ≤ b; omega
  obtain ⟨r, S1, S2, e1, e2, hI2⟩ := (op_yard (F := 20000001) (by decide) (xs (x3 + 1).toNatClampNeg)).use hI
  refine lv_aload_n A.1 A.2.1 dL_law_638 rfl (lv_at hl 1 rfl) ?_
  refine lv_aload_n A.1 A.2.1 dL_law_639 rfl (lv_at hl 0 rfl) ?_
  refine lv_iload_n A.1 A.2.1 dL_law_640 rfl (lv_at hl 3 rfl) ?_
  refine lv_iconst (v := 1) A.1 A.2.1 dL_law_641 (by decide) ?_
  refine lv_iadd A.1 A.2.1 dL_law_642 ?_
  refine va_sld A.1 A.2.1 hX hbl hbA hS h1 dL_law_643 ?_
  refine w_callV (i := 0) (As := [.int (xs (x3 + 1).toNatClampNeg)]) (rest := []) A hl.1 hP hS mk_L_97 so_0 (show g_C X yX7_yard cX7_yard 2 (some .int) 6 [.ref (X.1 + 0), .int (xs (x3 + 1).toNatClampNeg)] S (some (.int r)) S1 from ctX7_yard e1) rfl ⟨Nat.le_of_ble_eq_true rfl, Nat.le_of_ble_eq_true rfl⟩ ⟨Nat.le_of_ble_eq_true rfl, Nat.le_of_ble_eq_true rfl⟩ rfl (Nat.le_of_ble_eq_true rfl) dL_law_644 (fun H locs hP hS => ?_)
  refine W.eq (g2 := F0 m 647 ls [.int r]) rfl ?_
  refine lv_aload_n A.1 A.2.1 dL_law_647 rfl (lv_at hl 2 rfl) ?_
  refine lv_aload_n A.1 A.2.1 dL_law_648 rfl (lv_at hl 0 rfl) ?_
  refine lv_iload_n A.1 A.2.1 dL_law_649 rfl (lv_at hl 3 rfl) ?_
  refine lv_iconst (v := 1) A.1 A.2.1 dL_law_650 (by decide) ?_
  refine lv_iadd A.1 A.2.1 dL_law_651 ?_
  refine va_sld A.1 A.2.1 hX hbl hbA hS h1 dL_law_652 ?_
  refine w_callV (i := 51) (As := [.int (xs (x3 + 1).toNatClampNeg)]) (rest := [.int r]) A hl.1 hP hS mk_L_100 so_51 (show g_C X yX8_yard cX8_yard 2 (some .int) 6 [.ref (X.1 + 51), .int (xs (x3 + 1).toNatClampNeg)] S1 (some (.int r)) S2 from ctX8_yard e2) rfl ⟨Nat.le_of_ble_eq_true rfl, Nat.le_of_ble_eq_true rfl⟩ ⟨Nat.le_of_ble_eq_true rfl, Nat.le_of_ble_eq_true rfl⟩ rfl (Nat.le_of_ble_eq_true rfl) dL_law_653 (fun H locs hP hS => ?_)
  refine W.eq (g2 := F0 m 656 ls [.int r, .int r]) rfl ?_
  refine lv_icmp_eq (tgt := 1146) A.1 A.2.1 dL_law_656 (by decide) (fun _ => ?_) (fun h => absurd rfl h)
  exact kk H locs S2 hP hS hI2
set_option maxRecDepth 100000 in
theorem la_21 (C : lC X p s m c b L xs x3) (hP : gP X S H) (hS : va_S (gA X) s.heap H locs) (hI : Inv S S) (hl : lv_has ls 4 [(0, .ref b), (1, .ref (X.1 + 0)), (2, .ref (X.1 + 51)), (3, .int x3)])
    (kk : ∀ (H1 : Heap) (locs1 : List Loc) (S1 : gS), gP X S1 H1 → va_S (gA X) s.heap H1 locs1 → Inv S1 S1 → W p l e room_1 s m #[Value.ref b] below meth c H1 locs1 73 3089 Q (F0 m 1146 ls [])) : W p l e room_1 s m #[Value.ref b] below meth c H locs 73 3089 Q (F0 m 661 ls []) := by
  obtain ⟨A, hX, hbl, hXB, h1, h2, h3, h4, h5⟩ := C
  have hbA : ¬ gA X b := by show ¬ X.1 ≤ b; omega
  obtain ⟨r, S1, S2, e1, e2, hI2⟩ := (op_falls (F := 20000001) (by decide) (xs (x3 + 1).toNatClampNeg)).use hI
  refine lv_aload_n A.1 A.2.1 dL_law_661 rfl (lv_at hl 1 rfl) ?_
  refine lv_aload_n A.1 A.2.1 dL_law_662 rfl (lv_at hl 0 rfl) ?_
  refine lv_iload_n A.1 A.2.1 dL_law_663 rfl (lv_at hl 3 rfl) ?_
  refine lv_iconst (v := 1) A.1 A.2.1 dL_law_664 (by decide) ?_
  refine lv_iadd A.1 A.2.1 dL_law_665 ?_
  refine va_sld A.1 A.2.1 hX hbl hbA hS h1 dL_law_666 ?_
  refine w_callV (i := 0) (As := [.int (xs (x3 + 1).toNatClampNeg)]) (rest := []) A hl.1 hP hS mk_L_101 so_0 (show g_C X yX7_falls cX7_falls 2 (some .long) 6 [.ref (X.1 + 0), .int (xs (x3 + 1).toNatClampNeg)] S (some (.long r)) S1 from ctX7_falls e1) rfl ⟨Nat.le_of_ble_eq_true rfl, Nat.le_of_ble_eq_true rfl⟩ ⟨Nat.le_of_ble_eq_true rfl, Nat.le_of_ble_eq_true rfl⟩ rfl (Nat.le_of_ble_eq_true rfl) dL_law_667 (fun H locs hP hS => ?_)
  refine W.eq (g2 := F0 m 670 ls [.long r]) rfl ?_
  refine lv_aload_n A.1 A.2.1 dL_law_670 rfl (lv_at hl 2 rfl) ?_
  refine lv_aload_n A.1 A.2.1 dL_law_671 rfl (lv_at hl 0 rfl) ?_
  refine lv_iload_n A.1 A.2.1 dL_law_672 rfl (lv_at hl 3 rfl) ?_
  refine lv_iconst (v := 1) A.1 A.2.1 dL_law_673 (by decide) ?_
  refine lv_iadd A.1 A.2.1 dL_law_674 ?_
  refine va_sld A.1 A.2.1 hX hbl hbA hS h1 dL_law_675 ?_
  refine w_callV (i := 51) (As := [.int (xs (x3 + 1).toNatClampNeg)]) (rest := [.long r]) A hl.1 hP hS mk_L_105 so_51 (show g_C X yX8_falls cX8_falls 2 (some .long) 7 [.ref (X.1 + 51), .int (xs (x3 + 1).toNatClampNeg)] S1 (some (.long r)) S2 from ctX8_falls e2) rfl ⟨Nat.le_of_ble_eq_true rfl, Nat.le_of_ble_eq_true rfl⟩ ⟨Nat.le_of_ble_eq_true rfl, Nat.le_of_ble_eq_true rfl⟩ rfl (Nat.le_of_ble_eq_true rfl) dL_law_676 (fun H locs hP hS => ?_)
  refine W.eq (g2 := F0 m 679 ls [.long r, .long r]) rfl ?_
  refine W.lcmp A.1 A.2.1 dL_law_679 ?_
  refine lv_if_eq (tgt := 1146) A.1 A.2.1 dL_law_680 (by decide) (fun _ => ?_) (fun h => absurd ((lg_cmp_eq r r).mpr rfl) h)
  exact kk H locs S2 hP hS hI2
set_option maxRecDepth 100000 in
theorem la_22 (C : lC X p s m c b L xs x3) (hP : gP X S H) (hS : va_S (gA X) s.heap H locs) (hI : Inv S S) (hl : lv_has ls 4 [(0, .ref b), (1, .ref (X.1 + 0)), (2, .ref (X.1 + 51)), (3, .int x3)])
    (kk : ∀ (H1 : Heap) (locs1 : List Loc) (S1 : gS), gP X S1 H1 → va_S (gA X) s.heap H1 locs1 → Inv S1 S1 → W p l e room_1 s m #[Value.ref b] below meth c H1 locs1 73 3089 Q (F0 m 1146 ls [])) : W p l e room_1 s m #[Value.ref b] below meth c H locs 73 3089 Q (F0 m 685 ls []) := by
  obtain ⟨A, hX, hbl, hXB, h1, h2, h3, h4, h5⟩ := C
  have hbA : ¬ gA X b := by show ¬ X.1 ≤ b; omega
  obtain ⟨r, S1, S2, e1, e2, hI2⟩ := (op_grit (F := 20000001) (by decide) (xs (x3 + 1).toNatClampNeg) (xs (x3 + 2).toNatClampNeg)).use hI
  refine lv_aload_n A.1 A.2.1 dL_law_685 rfl (lv_at hl 1 rfl) ?_
  refine lv_aload_n A.1 A.2.1 dL_law_686 rfl (lv_at hl 0 rfl) ?_
  refine lv_iload_n A.1 A.2.1 dL_law_687 rfl (lv_at hl 3 rfl) ?_
  refine lv_iconst (v := 1) A.1 A.2.1 dL_law_688 (by decide) ?_
  refine lv_iadd A.1 A.2.1 dL_law_689 ?_
  refine va_sld A.1 A.2.1 hX hbl hbA hS h1 dL_law_690 ?_
  refine lv_aload_n A.1 A.2.1 dL_law_691 rfl (lv_at hl 0 rfl) ?_
  refine lv_iload_n A.1 A.2.1 dL_law_692 rfl (lv_at hl 3 rfl) ?_
  refine lv_iconst (v := 2) A.1 A.2.1 dL_law_693 (by decide) ?_
  refine lv_iadd A.1 A.2.1 dL_law_694 ?_
  refine va_sld A.1 A.2.1 hX hbl hbA hS h2 dL_law_695 ?_
  refine w_callV (i := 0) (As := [.int (xs (x3 + 1).toNatClampNeg), .int (xs (x3 + 2).toNatClampNeg)]) (rest := []) A hl.1 hP hS mk_L_106 so_0 (show g_C X yX7_grit cX7_grit 7 (some .int) 5 [.ref (X.1 + 0), .int (xs (x3 + 1).toNatClampNeg), .int (xs (x3 + 2).toNatClampNeg)] S (some (.int r)) S1 from ctX7_grit e1) rfl ⟨Nat.le_of_ble_eq_true rfl, Nat.le_of_ble_eq_true rfl⟩ ⟨Nat.le_of_ble_eq_true rfl, Nat.le_of_ble_eq_true rfl⟩ rfl (Nat.le_of_ble_eq_true rfl) dL_law_696 (fun H locs hP hS => ?_)
  refine W.eq (g2 := F0 m 699 ls [.int r]) rfl ?_
  refine lv_aload_n A.1 A.2.1 dL_law_699 rfl (lv_at hl 2 rfl) ?_
  refine lv_aload_n A.1 A.2.1 dL_law_700 rfl (lv_at hl 0 rfl) ?_
  refine lv_iload_n A.1 A.2.1 dL_law_701 rfl (lv_at hl 3 rfl) ?_
  refine lv_iconst (v := 1) A.1 A.2.1 dL_law_702 (by decide) ?_
  refine lv_iadd A.1 A.2.1 dL_law_703 ?_
  refine va_sld A.1 A.2.1 hX hbl hbA hS h1 dL_law_704 ?_
  refine lv_aload_n A.1 A.2.1 dL_law_705 rfl (lv_at hl 0 rfl) ?_
  refine lv_iload_n A.1 A.2.1 dL_law_706 rfl (lv_at hl 3 rfl) ?_
  refine lv_iconst (v := 2) A.1 A.2.1 dL_law_707 (by decide) ?_
  refine lv_iadd A.1 A.2.1 dL_law_708 ?_
  refine va_sld A.1 A.2.1 hX hbl hbA hS h2 dL_law_709 ?_
  refine w_callV (i := 51) (As := [.int (xs (x3 + 1).toNatClampNeg), .int (xs (x3 + 2).toNatClampNeg)]) (rest := [.int r]) A hl.1 hP hS mk_L_109 so_51 (show g_C X yX8_grit cX8_grit 3 (some .int) 6 [.ref (X.1 + 51), .int (xs (x3 + 1).toNatClampNeg), .int (xs (x3 + 2).toNatClampNeg)] S1 (some (.int r)) S2 from ctX8_grit e2) rfl ⟨Nat.le_of_ble_eq_true rfl, Nat.le_of_ble_eq_true rfl⟩ ⟨Nat.le_of_ble_eq_true rfl, Nat.le_of_ble_eq_true rfl⟩ rfl (Nat.le_of_ble_eq_true rfl) dL_law_710 (fun H locs hP hS => ?_)
  refine W.eq (g2 := F0 m 713 ls [.int r, .int r]) rfl ?_
  refine lv_icmp_eq (tgt := 1146) A.1 A.2.1 dL_law_713 (by decide) (fun _ => ?_) (fun h => absurd rfl h)
  exact kk H locs S2 hP hS hI2
set_option maxRecDepth 100000 in
theorem la_23 (C : lC X p s m c b L xs x3) (hP : gP X S H) (hS : va_S (gA X) s.heap H locs) (hI : Inv S S) (hl : lv_has ls 4 [(0, .ref b), (1, .ref (X.1 + 0)), (2, .ref (X.1 + 51)), (3, .int x3)])
    (kk : ∀ (H1 : Heap) (locs1 : List Loc) (S1 : gS), gP X S1 H1 → va_S (gA X) s.heap H1 locs1 → Inv S1 S1 → W p l e room_1 s m #[Value.ref b] below meth c H1 locs1 73 3089 Q (F0 m 1146 ls [])) : W p l e room_1 s m #[Value.ref b] below meth c H locs 73 3089 Q (F0 m 718 ls []) := by
  obtain ⟨A, hX, hbl, hXB, h1, h2, h3, h4, h5⟩ := C
  have hbA : ¬ gA X b := by show ¬ X.1 ≤ b; omega
  obtain ⟨r, S1, S2, e1, e2, hI2⟩ := (op_left (F := 20000001) (by decide) (xs (x3 + 1).toNatClampNeg) (xs (x3 + 2).toNatClampNeg)).use hI
  refine lv_aload_n A.1 A.2.1 dL_law_718 rfl (lv_at hl 1 rfl) ?_
  refine lv_aload_n A.1 A.2.1 dL_law_719 rfl (lv_at hl 0 rfl) ?_
  refine lv_iload_n A.1 A.2.1 dL_law_720 rfl (lv_at hl 3 rfl) ?_
  refine lv_iconst (v := 1) A.1 A.2.1 dL_law_721 (by decide) ?_
  refine lv_iadd A.1 A.2.1 dL_law_722 ?_
  refine va_sld A.1 A.2.1 hX hbl hbA hS h1 dL_law_723 ?_
  refine lv_aload_n A.1 A.2.1 dL_law_724 rfl (lv_at hl 0 rfl) ?_
  refine lv_iload_n A.1 A.2.1 dL_law_725 rfl (lv_at hl 3 rfl) ?_
  refine lv_iconst (v := 2) A.1 A.2.1 dL_law_726 (by decide) ?_
  refine lv_iadd A.1 A.2.1 dL_law_727 ?_
  refine va_sld A.1 A.2.1 hX hbl hbA hS h2 dL_law_728 ?_
  refine w_callV (i := 0) (As := [.int (xs (x3 + 1).toNatClampNeg), .int (xs (x3 + 2).toNatClampNeg)]) (rest := []) A hl.1 hP hS mk_L_110 so_0 (show g_C X yX7_left cX7_left 3 (some .long) 5 [.ref (X.1 + 0), .int (xs (x3 + 1).toNatClampNeg), .int (xs (x3 + 2).toNatClampNeg)] S (some (.long r)) S1 from ctX7_left e1) rfl ⟨Nat.le_of_ble_eq_true rfl, Nat.le_of_ble_eq_true rfl⟩ ⟨Nat.le_of_ble_eq_true rfl, Nat.le_of_ble_eq_true rfl⟩ rfl (Nat.le_of_ble_eq_true rfl) dL_law_729 (fun H locs hP hS => ?_)
  refine W.eq (g2 := F0 m 732 ls [.long r]) rfl ?_
  refine lv_aload_n A.1 A.2.1 dL_law_732 rfl (lv_at hl 2 rfl) ?_
  refine lv_aload_n A.1 A.2.1 dL_law_733 rfl (lv_at hl 0 rfl) ?_
  refine lv_iload_n A.1 A.2.1 dL_law_734 rfl (lv_at hl 3 rfl) ?_
  refine lv_iconst (v := 1) A.1 A.2.1 dL_law_735 (by decide) ?_
  refine lv_iadd A.1 A.2.1 dL_law_736 ?_
  refine va_sld A.1 A.2.1 hX hbl hbA hS h1 dL_law_737 ?_
  refine lv_aload_n A.1 A.2.1 dL_law_738 rfl (lv_at hl 0 rfl) ?_
  refine lv_iload_n A.1 A.2.1 dL_law_739 rfl (lv_at hl 3 rfl) ?_
  refine lv_iconst (v := 2) A.1 A.2.1 dL_law_740 (by decide) ?_
  refine lv_iadd A.1 A.2.1 dL_law_741 ?_
  refine va_sld A.1 A.2.1 hX hbl hbA hS h2 dL_law_742 ?_
  refine w_callV (i := 51) (As := [.int (xs (x3 + 1).toNatClampNeg), .int (xs (x3 + 2).toNatClampNeg)]) (rest := [.long r]) A hl.1 hP hS mk_L_114 so_51 (show g_C X yX8_left cX8_left 3 (some .long) 7 [.ref (X.1 + 51), .int (xs (x3 + 1).toNatClampNeg), .int (xs (x3 + 2).toNatClampNeg)] S1 (some (.long r)) S2 from ctX8_left e2) rfl ⟨Nat.le_of_ble_eq_true rfl, Nat.le_of_ble_eq_true rfl⟩ ⟨Nat.le_of_ble_eq_true rfl, Nat.le_of_ble_eq_true rfl⟩ rfl (Nat.le_of_ble_eq_true rfl) dL_law_743 (fun H locs hP hS => ?_)
  refine W.eq (g2 := F0 m 746 ls [.long r, .long r]) rfl ?_
  refine W.lcmp A.1 A.2.1 dL_law_746 ?_
  refine lv_if_eq (tgt := 1146) A.1 A.2.1 dL_law_747 (by decide) (fun _ => ?_) (fun h => absurd ((lg_cmp_eq r r).mpr rfl) h)
  exact kk H locs S2 hP hS hI2
set_option maxRecDepth 100000 in
theorem la_24 (C : lC X p s m c b L xs x3) (hP : gP X S H) (hS : va_S (gA X) s.heap H locs) (hI : Inv S S) (hl : lv_has ls 4 [(0, .ref b), (1, .ref (X.1 + 0)), (2, .ref (X.1 + 51)), (3, .int x3)])
    (kk : ∀ (H1 : Heap) (locs1 : List Loc) (S1 : gS), gP X S1 H1 → va_S (gA X) s.heap H1 locs1 → Inv S1 S1 → W p l e room_1 s m #[Value.ref b] below meth c H1 locs1 73 3089 Q (F0 m 1146 ls [])) : W p l e room_1 s m #[Value.ref b] below meth c H locs 73 3089 Q (F0 m 752 ls []) := by
  obtain ⟨A, hX, hbl, hXB, h1, h2, h3, h4, h5⟩ := C
  have hbA : ¬ gA X b := by show ¬ X.1 ≤ b; omega
  obtain ⟨r, S1, S2, e1, e2, hI2⟩ := (op_tower (F := 20000001) (by decide) (xs (x3 + 1).toNatClampNeg) (xs (x3 + 2).toNatClampNeg)).use hI
  refine lv_aload_n A.1 A.2.1 dL_law_752 rfl (lv_at hl 1 rfl) ?_
  refine lv_aload_n A.1 A.2.1 dL_law_753 rfl (lv_at hl 0 rfl) ?_
  refine lv_iload_n A.1 A.2.1 dL_law_754 rfl (lv_at hl 3 rfl) ?_
  refine lv_iconst (v := 1) A.1 A.2.1 dL_law_755 (by decide) ?_
  refine lv_iadd A.1 A.2.1 dL_law_756 ?_
  refine va_sld A.1 A.2.1 hX hbl hbA hS h1 dL_law_757 ?_
  refine lv_aload_n A.1 A.2.1 dL_law_758 rfl (lv_at hl 0 rfl) ?_
  refine lv_iload_n A.1 A.2.1 dL_law_759 rfl (lv_at hl 3 rfl) ?_
  refine lv_iconst (v := 2) A.1 A.2.1 dL_law_760 (by decide) ?_
  refine lv_iadd A.1 A.2.1 dL_law_761 ?_
  refine va_sld A.1 A.2.1 hX hbl hbA hS h2 dL_law_762 ?_
  refine w_callV (i := 0) (As := [.int (xs (x3 + 1).toNatClampNeg), .int (xs (x3 + 2).toNatClampNeg)]) (rest := []) A hl.1 hP hS mk_L_115 so_0 (show g_C X yX7_tower cX7_tower 3 (some .int) 6 [.ref (X.1 + 0), .int (xs (x3 + 1).toNatClampNeg), .int (xs (x3 + 2).toNatClampNeg)] S (some (.int r)) S1 from ctX7_tower e1) rfl ⟨Nat.le_of_ble_eq_true rfl, Nat.le_of_ble_eq_true rfl⟩ ⟨Nat.le_of_ble_eq_true rfl, Nat.le_of_ble_eq_true rfl⟩ rfl (Nat.le_of_ble_eq_true rfl) dL_law_763 (fun H locs hP hS => ?_)
  refine W.eq (g2 := F0 m 766 ls [.int r]) rfl ?_
  refine lv_aload_n A.1 A.2.1 dL_law_766 rfl (lv_at hl 2 rfl) ?_
  refine lv_aload_n A.1 A.2.1 dL_law_767 rfl (lv_at hl 0 rfl) ?_
  refine lv_iload_n A.1 A.2.1 dL_law_768 rfl (lv_at hl 3 rfl) ?_
  refine lv_iconst (v := 1) A.1 A.2.1 dL_law_769 (by decide) ?_
  refine lv_iadd A.1 A.2.1 dL_law_770 ?_
  refine va_sld A.1 A.2.1 hX hbl hbA hS h1 dL_law_771 ?_
  refine lv_aload_n A.1 A.2.1 dL_law_772 rfl (lv_at hl 0 rfl) ?_
  refine lv_iload_n A.1 A.2.1 dL_law_773 rfl (lv_at hl 3 rfl) ?_
  refine lv_iconst (v := 2) A.1 A.2.1 dL_law_774 (by decide) ?_
  refine lv_iadd A.1 A.2.1 dL_law_775 ?_
  refine va_sld A.1 A.2.1 hX hbl hbA hS h2 dL_law_776 ?_
  refine w_callV (i := 51) (As := [.int (xs (x3 + 1).toNatClampNeg), .int (xs (x3 + 2).toNatClampNeg)]) (rest := [.int r]) A hl.1 hP hS mk_L_118 so_51 (show g_C X yX8_tower cX8_tower 3 (some .int) 6 [.ref (X.1 + 51), .int (xs (x3 + 1).toNatClampNeg), .int (xs (x3 + 2).toNatClampNeg)] S1 (some (.int r)) S2 from ctX8_tower e2) rfl ⟨Nat.le_of_ble_eq_true rfl, Nat.le_of_ble_eq_true rfl⟩ ⟨Nat.le_of_ble_eq_true rfl, Nat.le_of_ble_eq_true rfl⟩ rfl (Nat.le_of_ble_eq_true rfl) dL_law_777 (fun H locs hP hS => ?_)
  refine W.eq (g2 := F0 m 780 ls [.int r, .int r]) rfl ?_
  refine lv_icmp_eq (tgt := 1146) A.1 A.2.1 dL_law_780 (by decide) (fun _ => ?_) (fun h => absurd rfl h)
  exact kk H locs S2 hP hS hI2
set_option maxRecDepth 100000 in
theorem la_25 (C : lC X p s m c b L xs x3) (hP : gP X S H) (hS : va_S (gA X) s.heap H locs) (hI : Inv S S) (hl : lv_has ls 4 [(0, .ref b), (1, .ref (X.1 + 0)), (2, .ref (X.1 + 51)), (3, .int x3)])
    (kk : ∀ (H1 : Heap) (locs1 : List Loc) (S1 : gS), gP X S1 H1 → va_S (gA X) s.heap H1 locs1 → Inv S1 S1 → W p l e room_1 s m #[Value.ref b] below meth c H1 locs1 73 3089 Q (F0 m 1146 ls [])) : W p l e room_1 s m #[Value.ref b] below meth c H locs 73 3089 Q (F0 m 785 ls []) := by
  obtain ⟨A, hX, hbl, hXB, h1, h2, h3, h4, h5⟩ := C
  have hbA : ¬ gA X b := by show ¬ X.1 ≤ b; omega
  obtain ⟨r, S1, S2, e1, e2, hI2⟩ := (op_towerOrder (F := 20000001) (by decide) (xs (x3 + 1).toNatClampNeg) (xs (x3 + 2).toNatClampNeg)).use hI
  refine lv_aload_n A.1 A.2.1 dL_law_785 rfl (lv_at hl 1 rfl) ?_
  refine lv_aload_n A.1 A.2.1 dL_law_786 rfl (lv_at hl 0 rfl) ?_
  refine lv_iload_n A.1 A.2.1 dL_law_787 rfl (lv_at hl 3 rfl) ?_
  refine lv_iconst (v := 1) A.1 A.2.1 dL_law_788 (by decide) ?_
  refine lv_iadd A.1 A.2.1 dL_law_789 ?_
  refine va_sld A.1 A.2.1 hX hbl hbA hS h1 dL_law_790 ?_
  refine lv_aload_n A.1 A.2.1 dL_law_791 rfl (lv_at hl 0 rfl) ?_
  refine lv_iload_n A.1 A.2.1 dL_law_792 rfl (lv_at hl 3 rfl) ?_
  refine lv_iconst (v := 2) A.1 A.2.1 dL_law_793 (by decide) ?_
  refine lv_iadd A.1 A.2.1 dL_law_794 ?_
  refine va_sld A.1 A.2.1 hX hbl hbA hS h2 dL_law_795 ?_
  refine w_callV (i := 0) (As := [.int (xs (x3 + 1).toNatClampNeg), .int (xs (x3 + 2).toNatClampNeg)]) (rest := []) A hl.1 hP hS mk_L_119 so_0 (show g_C X yX7_towerOrder cX7_towerOrder 3 (some .int) 6 [.ref (X.1 + 0), .int (xs (x3 + 1).toNatClampNeg), .int (xs (x3 + 2).toNatClampNeg)] S (some (.int r)) S1 from ctX7_towerOrder e1) rfl ⟨Nat.le_of_ble_eq_true rfl, Nat.le_of_ble_eq_true rfl⟩ ⟨Nat.le_of_ble_eq_true rfl, Nat.le_of_ble_eq_true rfl⟩ rfl (Nat.le_of_ble_eq_true rfl) dL_law_796 (fun H locs hP hS => ?_)
  refine W.eq (g2 := F0 m 799 ls [.int r]) rfl ?_
  refine lv_aload_n A.1 A.2.1 dL_law_799 rfl (lv_at hl 2 rfl) ?_
  refine lv_aload_n A.1 A.2.1 dL_law_800 rfl (lv_at hl 0 rfl) ?_
  refine lv_iload_n A.1 A.2.1 dL_law_801 rfl (lv_at hl 3 rfl) ?_
  refine lv_iconst (v := 1) A.1 A.2.1 dL_law_802 (by decide) ?_
  refine lv_iadd A.1 A.2.1 dL_law_803 ?_
  refine va_sld A.1 A.2.1 hX hbl hbA hS h1 dL_law_804 ?_
  refine lv_aload_n A.1 A.2.1 dL_law_805 rfl (lv_at hl 0 rfl) ?_
  refine lv_iload_n A.1 A.2.1 dL_law_806 rfl (lv_at hl 3 rfl) ?_
  refine lv_iconst (v := 2) A.1 A.2.1 dL_law_807 (by decide) ?_
  refine lv_iadd A.1 A.2.1 dL_law_808 ?_
  refine va_sld A.1 A.2.1 hX hbl hbA hS h2 dL_law_809 ?_
  refine w_callV (i := 51) (As := [.int (xs (x3 + 1).toNatClampNeg), .int (xs (x3 + 2).toNatClampNeg)]) (rest := [.int r]) A hl.1 hP hS mk_L_122 so_51 (show g_C X yX8_towerOrder cX8_towerOrder 3 (some .int) 6 [.ref (X.1 + 51), .int (xs (x3 + 1).toNatClampNeg), .int (xs (x3 + 2).toNatClampNeg)] S1 (some (.int r)) S2 from ctX8_towerOrder e2) rfl ⟨Nat.le_of_ble_eq_true rfl, Nat.le_of_ble_eq_true rfl⟩ ⟨Nat.le_of_ble_eq_true rfl, Nat.le_of_ble_eq_true rfl⟩ rfl (Nat.le_of_ble_eq_true rfl) dL_law_810 (fun H locs hP hS => ?_)
  refine W.eq (g2 := F0 m 813 ls [.int r, .int r]) rfl ?_
  refine lv_icmp_eq (tgt := 1146) A.1 A.2.1 dL_law_813 (by decide) (fun _ => ?_) (fun h => absurd rfl h)
  exact kk H locs S2 hP hS hI2
set_option maxRecDepth 100000 in
theorem la_26 (C : lC X p s m c b L xs x3) (hP : gP X S H) (hS : va_S (gA X) s.heap H locs) (hI : Inv S S) (hl : lv_has ls 4 [(0, .ref b), (1, .ref (X.1 + 0)), (2, .ref (X.1 + 51)), (3, .int x3)])
    (kk : ∀ (H1 : Heap) (locs1 : List Loc) (S1 : gS), gP X S1 H1 → va_S (gA X) s.heap H1 locs1 → Inv S1 S1 → W p l e room_1 s m #[Value.ref b] below meth c H1 locs1 73 3089 Q (F0 m 1146 ls [])) : W p l e room_1 s m #[Value.ref b] below meth c H locs 73 3089 Q (F0 m 818 ls []) := by
  obtain ⟨A, hX, hbl, hXB, h1, h2, h3, h4, h5⟩ := C
  have hbA : ¬ gA X b := by show ¬ X.1 ≤ b; omega
  obtain ⟨r, S1, S2, e1, e2, hI2⟩ := (op_hints (F := 20000001) (by decide) (xs (x3 + 1).toNatClampNeg) (xs (x3 + 2).toNatClampNeg) (xs (x3 + 3).toNatClampNeg)).use hI
  refine lv_aload_n A.1 A.2.1 dL_law_818 rfl (lv_at hl 1 rfl) ?_
  refine lv_aload_n A.1 A.2.1 dL_law_819 rfl (lv_at hl 0 rfl) ?_
  refine lv_iload_n A.1 A.2.1 dL_law_820 rfl (lv_at hl 3 rfl) ?_
  refine lv_iconst (v := 1) A.1 A.2.1 dL_law_821 (by decide) ?_
  refine lv_iadd A.1 A.2.1 dL_law_822 ?_
  refine va_sld A.1 A.2.1 hX hbl hbA hS h1 dL_law_823 ?_
  refine lv_aload_n A.1 A.2.1 dL_law_824 rfl (lv_at hl 0 rfl) ?_
  refine lv_iload_n A.1 A.2.1 dL_law_825 rfl (lv_at hl 3 rfl) ?_
  refine lv_iconst (v := 2) A.1 A.2.1 dL_law_826 (by decide) ?_
  refine lv_iadd A.1 A.2.1 dL_law_827 ?_
  refine va_sld A.1 A.2.1 hX hbl hbA hS h2 dL_law_828 ?_
  refine lv_aload_n A.1 A.2.1 dL_law_829 rfl (lv_at hl 0 rfl) ?_
  refine lv_iload_n A.1 A.2.1 dL_law_830 rfl (lv_at hl 3 rfl) ?_
  refine lv_iconst (v := 3) A.1 A.2.1 dL_law_831 (by decide) ?_
  refine lv_iadd A.1 A.2.1 dL_law_832 ?_
  refine va_sld A.1 A.2.1 hX hbl hbA hS h3 dL_law_833 ?_
  refine w_callV (i := 0) (As := [.int (xs (x3 + 1).toNatClampNeg), .int (xs (x3 + 2).toNatClampNeg), .int (xs (x3 + 3).toNatClampNeg)]) (rest := []) A hl.1 hP hS mk_L_123 so_0 (show g_C X yX7_hints cX7_hints 7 (some .int) 5 [.ref (X.1 + 0), .int (xs (x3 + 1).toNatClampNeg), .int (xs (x3 + 2).toNatClampNeg), .int (xs (x3 + 3).toNatClampNeg)] S (some (.int r)) S1 from ctX7_hints e1) rfl ⟨Nat.le_of_ble_eq_true rfl, Nat.le_of_ble_eq_true rfl⟩ ⟨Nat.le_of_ble_eq_true rfl, Nat.le_of_ble_eq_true rfl⟩ rfl (Nat.le_of_ble_eq_true rfl) dL_law_834 (fun H locs hP hS => ?_)
  refine W.eq (g2 := F0 m 837 ls [.int r]) rfl ?_
  refine lv_aload_n A.1 A.2.1 dL_law_837 rfl (lv_at hl 2 rfl) ?_
  refine lv_aload_n A.1 A.2.1 dL_law_838 rfl (lv_at hl 0 rfl) ?_
  refine lv_iload_n A.1 A.2.1 dL_law_839 rfl (lv_at hl 3 rfl) ?_
  refine lv_iconst (v := 1) A.1 A.2.1 dL_law_840 (by decide) ?_
  refine lv_iadd A.1 A.2.1 dL_law_841 ?_
  refine va_sld A.1 A.2.1 hX hbl hbA hS h1 dL_law_842 ?_
  refine lv_aload_n A.1 A.2.1 dL_law_843 rfl (lv_at hl 0 rfl) ?_
  refine lv_iload_n A.1 A.2.1 dL_law_844 rfl (lv_at hl 3 rfl) ?_
  refine lv_iconst (v := 2) A.1 A.2.1 dL_law_845 (by decide) ?_
  refine lv_iadd A.1 A.2.1 dL_law_846 ?_
  refine va_sld A.1 A.2.1 hX hbl hbA hS h2 dL_law_847 ?_
  refine lv_aload_n A.1 A.2.1 dL_law_848 rfl (lv_at hl 0 rfl) ?_
  refine lv_iload_n A.1 A.2.1 dL_law_849 rfl (lv_at hl 3 rfl) ?_
  refine lv_iconst (v := 3) A.1 A.2.1 dL_law_850 (by decide) ?_
  refine lv_iadd A.1 A.2.1 dL_law_851 ?_
  refine va_sld A.1 A.2.1 hX hbl hbA hS h3 dL_law_852 ?_
  refine w_callV (i := 51) (As := [.int (xs (x3 + 1).toNatClampNeg), .int (xs (x3 + 2).toNatClampNeg), .int (xs (x3 + 3).toNatClampNeg)]) (rest := [.int r]) A hl.1 hP hS mk_L_126 so_51 (show g_C X yX8_hints cX8_hints 8 (some .int) 4 [.ref (X.1 + 51), .int (xs (x3 + 1).toNatClampNeg), .int (xs (x3 + 2).toNatClampNeg), .int (xs (x3 + 3).toNatClampNeg)] S1 (some (.int r)) S2 from ctX8_hints e2) rfl ⟨Nat.le_of_ble_eq_true rfl, Nat.le_of_ble_eq_true rfl⟩ ⟨Nat.le_of_ble_eq_true rfl, Nat.le_of_ble_eq_true rfl⟩ rfl (Nat.le_of_ble_eq_true rfl) dL_law_853 (fun H locs hP hS => ?_)
  refine W.eq (g2 := F0 m 856 ls [.int r, .int r]) rfl ?_
  refine lv_icmp_eq (tgt := 1146) A.1 A.2.1 dL_law_856 (by decide) (fun _ => ?_) (fun h => absurd rfl h)
  exact kk H locs S2 hP hS hI2
set_option maxRecDepth 100000 in
theorem la_27 (C : lC X p s m c b L xs x3) (hP : gP X S H) (hS : va_S (gA X) s.heap H locs) (hI : Inv S S) (hl : lv_has ls 4 [(0, .ref b), (1, .ref (X.1 + 0)), (2, .ref (X.1 + 51)), (3, .int x3)])
    (kk : ∀ (H1 : Heap) (locs1 : List Loc) (S1 : gS), gP X S1 H1 → va_S (gA X) s.heap H1 locs1 → Inv S1 S1 → W p l e room_1 s m #[Value.ref b] below meth c H1 locs1 73 3089 Q (F0 m 1146 ls [])) : W p l e room_1 s m #[Value.ref b] below meth c H locs 73 3089 Q (F0 m 861 ls []) := by
  obtain ⟨A, hX, hbl, hXB, h1, h2, h3, h4, h5⟩ := C
  have hbA : ¬ gA X b := by show ¬ X.1 ≤ b; omega
  obtain ⟨r, S1, S2, e1, e2, hI2⟩ := (op_sheet (F := 20000001) (by decide) (xs (x3 + 1).toNatClampNeg) (xs (x3 + 2).toNatClampNeg) (xs (x3 + 3).toNatClampNeg)).use hI
  refine lv_aload_n A.1 A.2.1 dL_law_861 rfl (lv_at hl 1 rfl) ?_
  refine lv_aload_n A.1 A.2.1 dL_law_862 rfl (lv_at hl 0 rfl) ?_
  refine lv_iload_n A.1 A.2.1 dL_law_863 rfl (lv_at hl 3 rfl) ?_
  refine lv_iconst (v := 1) A.1 A.2.1 dL_law_864 (by decide) ?_
  refine lv_iadd A.1 A.2.1 dL_law_865 ?_
  refine va_sld A.1 A.2.1 hX hbl hbA hS h1 dL_law_866 ?_
  refine lv_aload_n A.1 A.2.1 dL_law_867 rfl (lv_at hl 0 rfl) ?_
  refine lv_iload_n A.1 A.2.1 dL_law_868 rfl (lv_at hl 3 rfl) ?_
  refine lv_iconst (v := 2) A.1 A.2.1 dL_law_869 (by decide) ?_
  refine lv_iadd A.1 A.2.1 dL_law_870 ?_
  refine va_sld A.1 A.2.1 hX hbl hbA hS h2 dL_law_871 ?_
  refine lv_aload_n A.1 A.2.1 dL_law_872 rfl (lv_at hl 0 rfl) ?_
  refine lv_iload_n A.1 A.2.1 dL_law_873 rfl (lv_at hl 3 rfl) ?_
  refine lv_iconst (v := 3) A.1 A.2.1 dL_law_874 (by decide) ?_
  refine lv_iadd A.1 A.2.1 dL_law_875 ?_
  refine va_sld A.1 A.2.1 hX hbl hbA hS h3 dL_law_876 ?_
  refine w_callV (i := 0) (As := [.int (xs (x3 + 1).toNatClampNeg), .int (xs (x3 + 2).toNatClampNeg), .int (xs (x3 + 3).toNatClampNeg)]) (rest := []) A hl.1 hP hS mk_L_127 so_0 (show g_C X yX7_sheet cX7_sheet 4 (some .int) 2 [.ref (X.1 + 0), .int (xs (x3 + 1).toNatClampNeg), .int (xs (x3 + 2).toNatClampNeg), .int (xs (x3 + 3).toNatClampNeg)] S (some (.int r)) S1 from ctX7_sheet e1) rfl ⟨Nat.le_of_ble_eq_true rfl, Nat.le_of_ble_eq_true rfl⟩ ⟨Nat.le_of_ble_eq_true rfl, Nat.le_of_ble_eq_true rfl⟩ rfl (Nat.le_of_ble_eq_true rfl) dL_law_877 (fun H locs hP hS => ?_)
  refine W.eq (g2 := F0 m 880 ls [.int r]) rfl ?_
  refine lv_aload_n A.1 A.2.1 dL_law_880 rfl (lv_at hl 2 rfl) ?_
  refine lv_aload_n A.1 A.2.1 dL_law_881 rfl (lv_at hl 0 rfl) ?_
  refine lv_iload_n A.1 A.2.1 dL_law_882 rfl (lv_at hl 3 rfl) ?_
  refine lv_iconst (v := 1) A.1 A.2.1 dL_law_883 (by decide) ?_
  refine lv_iadd A.1 A.2.1 dL_law_884 ?_
  refine va_sld A.1 A.2.1 hX hbl hbA hS h1 dL_law_885 ?_
  refine lv_aload_n A.1 A.2.1 dL_law_886 rfl (lv_at hl 0 rfl) ?_
  refine lv_iload_n A.1 A.2.1 dL_law_887 rfl (lv_at hl 3 rfl) ?_
  refine lv_iconst (v := 2) A.1 A.2.1 dL_law_888 (by decide) ?_
  refine lv_iadd A.1 A.2.1 dL_law_889 ?_
  refine va_sld A.1 A.2.1 hX hbl hbA hS h2 dL_law_890 ?_
  refine lv_aload_n A.1 A.2.1 dL_law_891 rfl (lv_at hl 0 rfl) ?_
  refine lv_iload_n A.1 A.2.1 dL_law_892 rfl (lv_at hl 3 rfl) ?_
  refine lv_iconst (v := 3) A.1 A.2.1 dL_law_893 (by decide) ?_
  refine lv_iadd A.1 A.2.1 dL_law_894 ?_
  refine va_sld A.1 A.2.1 hX hbl hbA hS h3 dL_law_895 ?_
  refine w_callV (i := 51) (As := [.int (xs (x3 + 1).toNatClampNeg), .int (xs (x3 + 2).toNatClampNeg), .int (xs (x3 + 3).toNatClampNeg)]) (rest := [.int r]) A hl.1 hP hS mk_L_130 so_51 (show g_C X yX8_sheet cX8_sheet 5 (some .int) 2 [.ref (X.1 + 51), .int (xs (x3 + 1).toNatClampNeg), .int (xs (x3 + 2).toNatClampNeg), .int (xs (x3 + 3).toNatClampNeg)] S1 (some (.int r)) S2 from ctX8_sheet e2) rfl ⟨Nat.le_of_ble_eq_true rfl, Nat.le_of_ble_eq_true rfl⟩ ⟨Nat.le_of_ble_eq_true rfl, Nat.le_of_ble_eq_true rfl⟩ rfl (Nat.le_of_ble_eq_true rfl) dL_law_896 (fun H locs hP hS => ?_)
  refine W.eq (g2 := F0 m 899 ls [.int r, .int r]) rfl ?_
  refine lv_icmp_eq (tgt := 1146) A.1 A.2.1 dL_law_899 (by decide) (fun _ => ?_) (fun h => absurd rfl h)
  exact kk H locs S2 hP hS hI2
set_option maxRecDepth 100000 in
theorem la_28 (C : lC X p s m c b L xs x3) (hP : gP X S H) (hS : va_S (gA X) s.heap H locs) (hI : Inv S S) (hl : lv_has ls 4 [(0, .ref b), (1, .ref (X.1 + 0)), (2, .ref (X.1 + 51)), (3, .int x3)])
    (kk : ∀ (H1 : Heap) (locs1 : List Loc) (S1 : gS), gP X S1 H1 → va_S (gA X) s.heap H1 locs1 → Inv S1 S1 → W p l e room_1 s m #[Value.ref b] below meth c H1 locs1 73 3089 Q (F0 m 1146 ls [])) : W p l e room_1 s m #[Value.ref b] below meth c H locs 73 3089 Q (F0 m 904 ls []) := by
  obtain ⟨A, hX, hbl, hXB, h1, h2, h3, h4, h5⟩ := C
  have hbA : ¬ gA X b := by show ¬ X.1 ≤ b; omega
  obtain ⟨r, S1, S2, e1, e2, hI2⟩ := (op_lose (F := 20000001) (by decide) (xs (x3 + 1).toNatClampNeg)).use hI
  refine lv_aload_n A.1 A.2.1 dL_law_904 rfl (lv_at hl 1 rfl) ?_
  refine lv_aload_n A.1 A.2.1 dL_law_905 rfl (lv_at hl 0 rfl) ?_
  refine lv_iload_n A.1 A.2.1 dL_law_906 rfl (lv_at hl 3 rfl) ?_
  refine lv_iconst (v := 1) A.1 A.2.1 dL_law_907 (by decide) ?_
  refine lv_iadd A.1 A.2.1 dL_law_908 ?_
  refine va_sld A.1 A.2.1 hX hbl hbA hS h1 dL_law_909 ?_
  refine w_callV (i := 0) (As := [.int (xs (x3 + 1).toNatClampNeg)]) (rest := []) A hl.1 hP hS mk_L_131 so_0 (show g_C X yX7_lose cX7_lose 3 (some .int) 2 [.ref (X.1 + 0), .int (xs (x3 + 1).toNatClampNeg)] S (some (.int r)) S1 from ctX7_lose e1) rfl ⟨Nat.le_of_ble_eq_true rfl, Nat.le_of_ble_eq_true rfl⟩ ⟨Nat.le_of_ble_eq_true rfl, Nat.le_of_ble_eq_true rfl⟩ rfl (Nat.le_of_ble_eq_true rfl) dL_law_910 (fun H locs hP hS => ?_)
  refine W.eq (g2 := F0 m 913 ls [.int r]) rfl ?_
  refine lv_aload_n A.1 A.2.1 dL_law_913 rfl (lv_at hl 2 rfl) ?_
  refine lv_aload_n A.1 A.2.1 dL_law_914 rfl (lv_at hl 0 rfl) ?_
  refine lv_iload_n A.1 A.2.1 dL_law_915 rfl (lv_at hl 3 rfl) ?_
  refine lv_iconst (v := 1) A.1 A.2.1 dL_law_916 (by decide) ?_
  refine lv_iadd A.1 A.2.1 dL_law_917 ?_
  refine va_sld A.1 A.2.1 hX hbl hbA hS h1 dL_law_918 ?_
  refine w_callV (i := 51) (As := [.int (xs (x3 + 1).toNatClampNeg)]) (rest := [.int r]) A hl.1 hP hS mk_L_134 so_51 (show g_C X yX8_lose cX8_lose 2 (some .int) 2 [.ref (X.1 + 51), .int (xs (x3 + 1).toNatClampNeg)] S1 (some (.int r)) S2 from ctX8_lose e2) rfl ⟨Nat.le_of_ble_eq_true rfl, Nat.le_of_ble_eq_true rfl⟩ ⟨Nat.le_of_ble_eq_true rfl, Nat.le_of_ble_eq_true rfl⟩ rfl (Nat.le_of_ble_eq_true rfl) dL_law_919 (fun H locs hP hS => ?_)
  refine W.eq (g2 := F0 m 922 ls [.int r, .int r]) rfl ?_
  refine lv_icmp_eq (tgt := 1146) A.1 A.2.1 dL_law_922 (by decide) (fun _ => ?_) (fun h => absurd rfl h)
  exact kk H locs S2 hP hS hI2
set_option maxRecDepth 100000 in
theorem la_29 (C : lC X p s m c b L xs x3) (hP : gP X S H) (hS : va_S (gA X) s.heap H locs) (hI : Inv S S) (hl : lv_has ls 4 [(0, .ref b), (1, .ref (X.1 + 0)), (2, .ref (X.1 + 51)), (3, .int x3)])
    (kk : ∀ (H1 : Heap) (locs1 : List Loc) (S1 : gS), gP X S1 H1 → va_S (gA X) s.heap H1 locs1 → Inv S1 S1 → W p l e room_1 s m #[Value.ref b] below meth c H1 locs1 73 3089 Q (F0 m 1146 ls [])) : W p l e room_1 s m #[Value.ref b] below meth c H locs 73 3089 Q (F0 m 927 ls []) := by
  obtain ⟨A, hX, hbl, hXB, h1, h2, h3, h4, h5⟩ := C
  have hbA : ¬ gA X b := by show ¬ X.1 ≤ b; omega
  obtain ⟨r, S1, S2, e1, e2, hI2⟩ := (op_lay (F := 20000001) (xs (x3 + 1).toNatClampNeg) (xs (x3 + 2).toNatClampNeg) (xs (x3 + 3).toNatClampNeg) (xs (x3 + 4).toNatClampNeg)).use hI
  refine lv_aload_n A.1 A.2.1 dL_law_927 rfl (lv_at hl 1 rfl) ?_
  refine lv_aload_n A.1 A.2.1 dL_law_928 rfl (lv_at hl 0 rfl) ?_
  refine lv_iload_n A.1 A.2.1 dL_law_929 rfl (lv_at hl 3 rfl) ?_
  refine lv_iconst (v := 1) A.1 A.2.1 dL_law_930 (by decide) ?_
  refine lv_iadd A.1 A.2.1 dL_law_931 ?_
  refine va_sld A.1 A.2.1 hX hbl hbA hS h1 dL_law_932 ?_
  refine lv_aload_n A.1 A.2.1 dL_law_933 rfl (lv_at hl 0 rfl) ?_
  refine lv_iload_n A.1 A.2.1 dL_law_934 rfl (lv_at hl 3 rfl) ?_
  refine lv_iconst (v := 2) A.1 A.2.1 dL_law_935 (by decide) ?_
  refine lv_iadd A.1 A.2.1 dL_law_936 ?_
  refine va_sld A.1 A.2.1 hX hbl hbA hS h2 dL_law_937 ?_
  refine lv_aload_n A.1 A.2.1 dL_law_938 rfl (lv_at hl 0 rfl) ?_
  refine lv_iload_n A.1 A.2.1 dL_law_939 rfl (lv_at hl 3 rfl) ?_
  refine lv_iconst (v := 3) A.1 A.2.1 dL_law_940 (by decide) ?_
  refine lv_iadd A.1 A.2.1 dL_law_941 ?_
  refine va_sld A.1 A.2.1 hX hbl hbA hS h3 dL_law_942 ?_
  refine lv_aload_n A.1 A.2.1 dL_law_943 rfl (lv_at hl 0 rfl) ?_
  refine lv_iload_n A.1 A.2.1 dL_law_944 rfl (lv_at hl 3 rfl) ?_
  refine lv_iconst (v := 4) A.1 A.2.1 dL_law_945 (by decide) ?_
  refine lv_iadd A.1 A.2.1 dL_law_946 ?_
  refine va_sld A.1 A.2.1 hX hbl hbA hS h4 dL_law_947 ?_
  refine w_callV (i := 0) (As := [.int (xs (x3 + 1).toNatClampNeg), .int (xs (x3 + 2).toNatClampNeg), .int (xs (x3 + 3).toNatClampNeg), .int (xs (x3 + 4).toNatClampNeg)]) (rest := []) A hl.1 hP hS mk_L_135 so_0 (show g_C X yX7_lay cX7_lay 6 (some .int) 2 [.ref (X.1 + 0), .int (xs (x3 + 1).toNatClampNeg), .int (xs (x3 + 2).toNatClampNeg), .int (xs (x3 + 3).toNatClampNeg), .int (xs (x3 + 4).toNatClampNeg)] S (some (.int r)) S1 from ctX7_lay e1) rfl ⟨Nat.le_of_ble_eq_true rfl, Nat.le_of_ble_eq_true rfl⟩ ⟨Nat.le_of_ble_eq_true rfl, Nat.le_of_ble_eq_true rfl⟩ rfl (Nat.le_of_ble_eq_true rfl) dL_law_948 (fun H locs hP hS => ?_)
  refine W.eq (g2 := F0 m 951 ls [.int r]) rfl ?_
  refine lv_aload_n A.1 A.2.1 dL_law_951 rfl (lv_at hl 2 rfl) ?_
  refine lv_aload_n A.1 A.2.1 dL_law_952 rfl (lv_at hl 0 rfl) ?_
  refine lv_iload_n A.1 A.2.1 dL_law_953 rfl (lv_at hl 3 rfl) ?_
  refine lv_iconst (v := 1) A.1 A.2.1 dL_law_954 (by decide) ?_
  refine lv_iadd A.1 A.2.1 dL_law_955 ?_
  refine va_sld A.1 A.2.1 hX hbl hbA hS h1 dL_law_956 ?_
  refine lv_aload_n A.1 A.2.1 dL_law_957 rfl (lv_at hl 0 rfl) ?_
  refine lv_iload_n A.1 A.2.1 dL_law_958 rfl (lv_at hl 3 rfl) ?_
  refine lv_iconst (v := 2) A.1 A.2.1 dL_law_959 (by decide) ?_
  refine lv_iadd A.1 A.2.1 dL_law_960 ?_
  refine va_sld A.1 A.2.1 hX hbl hbA hS h2 dL_law_961 ?_
  refine lv_aload_n A.1 A.2.1 dL_law_962 rfl (lv_at hl 0 rfl) ?_
  refine lv_iload_n A.1 A.2.1 dL_law_963 rfl (lv_at hl 3 rfl) ?_
  refine lv_iconst (v := 3) A.1 A.2.1 dL_law_964 (by decide) ?_
  refine lv_iadd A.1 A.2.1 dL_law_965 ?_
  refine va_sld A.1 A.2.1 hX hbl hbA hS h3 dL_law_966 ?_
  refine lv_aload_n A.1 A.2.1 dL_law_967 rfl (lv_at hl 0 rfl) ?_
  refine lv_iload_n A.1 A.2.1 dL_law_968 rfl (lv_at hl 3 rfl) ?_
  refine lv_iconst (v := 4) A.1 A.2.1 dL_law_969 (by decide) ?_
  refine lv_iadd A.1 A.2.1 dL_law_970 ?_
  refine va_sld A.1 A.2.1 hX hbl hbA hS h4 dL_law_971 ?_
  refine w_callV (i := 51) (As := [.int (xs (x3 + 1).toNatClampNeg), .int (xs (x3 + 2).toNatClampNeg), .int (xs (x3 + 3).toNatClampNeg), .int (xs (x3 + 4).toNatClampNeg)]) (rest := [.int r]) A hl.1 hP hS mk_L_139 so_51 (show g_C X yX8_lay cX8_lay 6 (some .int) 2 [.ref (X.1 + 51), .int (xs (x3 + 1).toNatClampNeg), .int (xs (x3 + 2).toNatClampNeg), .int (xs (x3 + 3).toNatClampNeg), .int (xs (x3 + 4).toNatClampNeg)] S1 (some (.int r)) S2 from ctX8_lay e2) rfl ⟨Nat.le_of_ble_eq_true rfl, Nat.le_of_ble_eq_true rfl⟩ ⟨Nat.le_of_ble_eq_true rfl, Nat.le_of_ble_eq_true rfl⟩ rfl (Nat.le_of_ble_eq_true rfl) dL_law_972 (fun H locs hP hS => ?_)
  refine W.eq (g2 := F0 m 975 ls [.int r, .int r]) rfl ?_
  refine lv_icmp_eq (tgt := 1146) A.1 A.2.1 dL_law_975 (by decide) (fun _ => ?_) (fun h => absurd rfl h)
  exact kk H locs S2 hP hS hI2
set_option maxRecDepth 100000 in
theorem la_30 (C : lC X p s m c b L xs x3) (hP : gP X S H) (hS : va_S (gA X) s.heap H locs) (hI : Inv S S) (hl : lv_has ls 4 [(0, .ref b), (1, .ref (X.1 + 0)), (2, .ref (X.1 + 51)), (3, .int x3)])
    (kk : ∀ (H1 : Heap) (locs1 : List Loc) (S1 : gS), gP X S1 H1 → va_S (gA X) s.heap H1 locs1 → Inv S1 S1 → W p l e room_1 s m #[Value.ref b] below meth c H1 locs1 73 3089 Q (F0 m 1146 ls [])) : W p l e room_1 s m #[Value.ref b] below meth c H locs 73 3089 Q (F0 m 980 ls []) := by
  obtain ⟨A, hX, hbl, hXB, h1, h2, h3, h4, h5⟩ := C
  have hbA : ¬ gA X b := by show ¬ X.1 ≤ b; omega
  obtain ⟨r, S1, S2, e1, e2, hI2⟩ := (op_get (F := 20000001) (xs (x3 + 1).toNatClampNeg) (xs (x3 + 2).toNatClampNeg) (xs (x3 + 3).toNatClampNeg)).use hI
  refine lv_aload_n A.1 A.2.1 dL_law_980 rfl (lv_at hl 1 rfl) ?_
  refine lv_aload_n A.1 A.2.1 dL_law_981 rfl (lv_at hl 0 rfl) ?_
  refine lv_iload_n A.1 A.2.1 dL_law_982 rfl (lv_at hl 3 rfl) ?_
  refine lv_iconst (v := 1) A.1 A.2.1 dL_law_983 (by decide) ?_
  refine lv_iadd A.1 A.2.1 dL_law_984 ?_
  refine va_sld A.1 A.2.1 hX hbl hbA hS h1 dL_law_985 ?_
  refine lv_aload_n A.1 A.2.1 dL_law_986 rfl (lv_at hl 0 rfl) ?_
  refine lv_iload_n A.1 A.2.1 dL_law_987 rfl (lv_at hl 3 rfl) ?_
  refine lv_iconst (v := 2) A.1 A.2.1 dL_law_988 (by decide) ?_
  refine lv_iadd A.1 A.2.1 dL_law_989 ?_
  refine va_sld A.1 A.2.1 hX hbl hbA hS h2 dL_law_990 ?_
  refine lv_aload_n A.1 A.2.1 dL_law_991 rfl (lv_at hl 0 rfl) ?_
  refine lv_iload_n A.1 A.2.1 dL_law_992 rfl (lv_at hl 3 rfl) ?_
  refine lv_iconst (v := 3) A.1 A.2.1 dL_law_993 (by decide) ?_
  refine lv_iadd A.1 A.2.1 dL_law_994 ?_
  refine va_sld A.1 A.2.1 hX hbl hbA hS h3 dL_law_995 ?_
  refine w_callV (i := 0) (As := [.int (xs (x3 + 1).toNatClampNeg), .int (xs (x3 + 2).toNatClampNeg), .int (xs (x3 + 3).toNatClampNeg)]) (rest := []) A hl.1 hP hS mk_L_140 so_0 (show g_C X yX7_get cX7_get 4 (some .int) 2 [.ref (X.1 + 0), .int (xs (x3 + 1).toNatClampNeg), .int (xs (x3 + 2).toNatClampNeg), .int (xs (x3 + 3).toNatClampNeg)] S (some (.int r)) S1 from ctX7_get e1) rfl ⟨Nat.le_of_ble_eq_true rfl, Nat.le_of_ble_eq_true rfl⟩ ⟨Nat.le_of_ble_eq_true rfl, Nat.le_of_ble_eq_true rfl⟩ rfl (Nat.le_of_ble_eq_true rfl) dL_law_996 (fun H locs hP hS => ?_)
  refine W.eq (g2 := F0 m 999 ls [.int r]) rfl ?_
  refine lv_aload_n A.1 A.2.1 dL_law_999 rfl (lv_at hl 2 rfl) ?_
  refine lv_aload_n A.1 A.2.1 dL_law_1000 rfl (lv_at hl 0 rfl) ?_
  refine lv_iload_n A.1 A.2.1 dL_law_1001 rfl (lv_at hl 3 rfl) ?_
  refine lv_iconst (v := 1) A.1 A.2.1 dL_law_1002 (by decide) ?_
  refine lv_iadd A.1 A.2.1 dL_law_1003 ?_
  refine va_sld A.1 A.2.1 hX hbl hbA hS h1 dL_law_1004 ?_
  refine lv_aload_n A.1 A.2.1 dL_law_1005 rfl (lv_at hl 0 rfl) ?_
  refine lv_iload_n A.1 A.2.1 dL_law_1006 rfl (lv_at hl 3 rfl) ?_
  refine lv_iconst (v := 2) A.1 A.2.1 dL_law_1007 (by decide) ?_
  refine lv_iadd A.1 A.2.1 dL_law_1008 ?_
  refine va_sld A.1 A.2.1 hX hbl hbA hS h2 dL_law_1009 ?_
  refine lv_aload_n A.1 A.2.1 dL_law_1010 rfl (lv_at hl 0 rfl) ?_
  refine lv_iload_n A.1 A.2.1 dL_law_1011 rfl (lv_at hl 3 rfl) ?_
  refine lv_iconst (v := 3) A.1 A.2.1 dL_law_1012 (by decide) ?_
  refine lv_iadd A.1 A.2.1 dL_law_1013 ?_
  refine va_sld A.1 A.2.1 hX hbl hbA hS h3 dL_law_1014 ?_
  refine w_callV (i := 51) (As := [.int (xs (x3 + 1).toNatClampNeg), .int (xs (x3 + 2).toNatClampNeg), .int (xs (x3 + 3).toNatClampNeg)]) (rest := [.int r]) A hl.1 hP hS mk_L_143 so_51 (show g_C X yX8_get cX8_get 4 (some .int) 2 [.ref (X.1 + 51), .int (xs (x3 + 1).toNatClampNeg), .int (xs (x3 + 2).toNatClampNeg), .int (xs (x3 + 3).toNatClampNeg)] S1 (some (.int r)) S2 from ctX8_get e2) rfl ⟨Nat.le_of_ble_eq_true rfl, Nat.le_of_ble_eq_true rfl⟩ ⟨Nat.le_of_ble_eq_true rfl, Nat.le_of_ble_eq_true rfl⟩ rfl (Nat.le_of_ble_eq_true rfl) dL_law_1015 (fun H locs hP hS => ?_)
  refine W.eq (g2 := F0 m 1018 ls [.int r, .int r]) rfl ?_
  refine lv_icmp_eq (tgt := 1146) A.1 A.2.1 dL_law_1018 (by decide) (fun _ => ?_) (fun h => absurd rfl h)
  exact kk H locs S2 hP hS hI2
set_option maxRecDepth 100000 in
theorem la_31 (C : lC X p s m c b L xs x3) (hP : gP X S H) (hS : va_S (gA X) s.heap H locs) (hI : Inv S S) (hl : lv_has ls 4 [(0, .ref b), (1, .ref (X.1 + 0)), (2, .ref (X.1 + 51)), (3, .int x3)])
    (kk : ∀ (H1 : Heap) (locs1 : List Loc) (S1 : gS), gP X S1 H1 → va_S (gA X) s.heap H1 locs1 → Inv S1 S1 → W p l e room_1 s m #[Value.ref b] below meth c H1 locs1 73 3089 Q (F0 m 1146 ls [])) : W p l e room_1 s m #[Value.ref b] below meth c H locs 73 3089 Q (F0 m 1023 ls []) := by
  obtain ⟨A, hX, hbl, hXB, h1, h2, h3, h4, h5⟩ := C
  have hbA : ¬ gA X b := by show ¬ X.1 ≤ b; omega
  obtain ⟨r, S1, S2, e1, e2, hI2⟩ := (op_copy (F := 20000001) (by decide) (xs (x3 + 1).toNatClampNeg) (xs (x3 + 2).toNatClampNeg) (xs (x3 + 3).toNatClampNeg) (xs (x3 + 4).toNatClampNeg) (xs (x3 + 5).toNatClampNeg)).use hI
  refine lv_aload_n A.1 A.2.1 dL_law_1023 rfl (lv_at hl 1 rfl) ?_
  refine lv_aload_n A.1 A.2.1 dL_law_1024 rfl (lv_at hl 0 rfl) ?_
  refine lv_iload_n A.1 A.2.1 dL_law_1025 rfl (lv_at hl 3 rfl) ?_
  refine lv_iconst (v := 1) A.1 A.2.1 dL_law_1026 (by decide) ?_
  refine lv_iadd A.1 A.2.1 dL_law_1027 ?_
  refine va_sld A.1 A.2.1 hX hbl hbA hS h1 dL_law_1028 ?_
  refine lv_aload_n A.1 A.2.1 dL_law_1029 rfl (lv_at hl 0 rfl) ?_
  refine lv_iload_n A.1 A.2.1 dL_law_1030 rfl (lv_at hl 3 rfl) ?_
  refine lv_iconst (v := 2) A.1 A.2.1 dL_law_1031 (by decide) ?_
  refine lv_iadd A.1 A.2.1 dL_law_1032 ?_
  refine va_sld A.1 A.2.1 hX hbl hbA hS h2 dL_law_1033 ?_
  refine lv_aload_n A.1 A.2.1 dL_law_1034 rfl (lv_at hl 0 rfl) ?_
  refine lv_iload_n A.1 A.2.1 dL_law_1035 rfl (lv_at hl 3 rfl) ?_
  refine lv_iconst (v := 3) A.1 A.2.1 dL_law_1036 (by decide) ?_
  refine lv_iadd A.1 A.2.1 dL_law_1037 ?_
  refine va_sld A.1 A.2.1 hX hbl hbA hS h3 dL_law_1038 ?_
  refine lv_aload_n A.1 A.2.1 dL_law_1039 rfl (lv_at hl 0 rfl) ?_
  refine lv_iload_n A.1 A.2.1 dL_law_1040 rfl (lv_at hl 3 rfl) ?_
  refine lv_iconst (v := 4) A.1 A.2.1 dL_law_1041 (by decide) ?_
  refine lv_iadd A.1 A.2.1 dL_law_1042 ?_
  refine va_sld A.1 A.2.1 hX hbl hbA hS h4 dL_law_1043 ?_
  refine lv_aload_n A.1 A.2.1 dL_law_1044 rfl (lv_at hl 0 rfl) ?_
  refine lv_iload_n A.1 A.2.1 dL_law_1045 rfl (lv_at hl 3 rfl) ?_
  refine lv_iconst (v := 5) A.1 A.2.1 dL_law_1046 (by decide) ?_
  refine lv_iadd A.1 A.2.1 dL_law_1047 ?_
  refine va_sld A.1 A.2.1 hX hbl hbA hS h5 dL_law_1048 ?_
  refine w_callV (i := 0) (As := [.int (xs (x3 + 1).toNatClampNeg), .int (xs (x3 + 2).toNatClampNeg), .int (xs (x3 + 3).toNatClampNeg), .int (xs (x3 + 4).toNatClampNeg), .int (xs (x3 + 5).toNatClampNeg)]) (rest := []) A hl.1 hP hS mk_L_144 so_0 (show g_C X yX7_copy cX7_copy 6 (some .int) 1 [.ref (X.1 + 0), .int (xs (x3 + 1).toNatClampNeg), .int (xs (x3 + 2).toNatClampNeg), .int (xs (x3 + 3).toNatClampNeg), .int (xs (x3 + 4).toNatClampNeg), .int (xs (x3 + 5).toNatClampNeg)] S (some (.int r)) S1 from ctX7_copy e1) rfl ⟨Nat.le_of_ble_eq_true rfl, Nat.le_of_ble_eq_true rfl⟩ ⟨Nat.le_of_ble_eq_true rfl, Nat.le_of_ble_eq_true rfl⟩ rfl (Nat.le_of_ble_eq_true rfl) dL_law_1049 (fun H locs hP hS => ?_)
  refine W.eq (g2 := F0 m 1052 ls [.int r]) rfl ?_
  refine lv_aload_n A.1 A.2.1 dL_law_1052 rfl (lv_at hl 2 rfl) ?_
  refine lv_aload_n A.1 A.2.1 dL_law_1053 rfl (lv_at hl 0 rfl) ?_
  refine lv_iload_n A.1 A.2.1 dL_law_1054 rfl (lv_at hl 3 rfl) ?_
  refine lv_iconst (v := 1) A.1 A.2.1 dL_law_1055 (by decide) ?_
  refine lv_iadd A.1 A.2.1 dL_law_1056 ?_
  refine va_sld A.1 A.2.1 hX hbl hbA hS h1 dL_law_1057 ?_
  refine lv_aload_n A.1 A.2.1 dL_law_1058 rfl (lv_at hl 0 rfl) ?_
  refine lv_iload_n A.1 A.2.1 dL_law_1059 rfl (lv_at hl 3 rfl) ?_
  refine lv_iconst (v := 2) A.1 A.2.1 dL_law_1060 (by decide) ?_
  refine lv_iadd A.1 A.2.1 dL_law_1061 ?_
  refine va_sld A.1 A.2.1 hX hbl hbA hS h2 dL_law_1062 ?_
  refine lv_aload_n A.1 A.2.1 dL_law_1063 rfl (lv_at hl 0 rfl) ?_
  refine lv_iload_n A.1 A.2.1 dL_law_1064 rfl (lv_at hl 3 rfl) ?_
  refine lv_iconst (v := 3) A.1 A.2.1 dL_law_1065 (by decide) ?_
  refine lv_iadd A.1 A.2.1 dL_law_1066 ?_
  refine va_sld A.1 A.2.1 hX hbl hbA hS h3 dL_law_1067 ?_
  refine lv_aload_n A.1 A.2.1 dL_law_1068 rfl (lv_at hl 0 rfl) ?_
  refine lv_iload_n A.1 A.2.1 dL_law_1069 rfl (lv_at hl 3 rfl) ?_
  refine lv_iconst (v := 4) A.1 A.2.1 dL_law_1070 (by decide) ?_
  refine lv_iadd A.1 A.2.1 dL_law_1071 ?_
  refine va_sld A.1 A.2.1 hX hbl hbA hS h4 dL_law_1072 ?_
  refine lv_aload_n A.1 A.2.1 dL_law_1073 rfl (lv_at hl 0 rfl) ?_
  refine lv_iload_n A.1 A.2.1 dL_law_1074 rfl (lv_at hl 3 rfl) ?_
  refine lv_iconst (v := 5) A.1 A.2.1 dL_law_1075 (by decide) ?_
  refine lv_iadd A.1 A.2.1 dL_law_1076 ?_
  refine va_sld A.1 A.2.1 hX hbl hbA hS h5 dL_law_1077 ?_
  refine w_callV (i := 51) (As := [.int (xs (x3 + 1).toNatClampNeg), .int (xs (x3 + 2).toNatClampNeg), .int (xs (x3 + 3).toNatClampNeg), .int (xs (x3 + 4).toNatClampNeg), .int (xs (x3 + 5).toNatClampNeg)]) (rest := [.int r]) A hl.1 hP hS mk_L_148 so_51 (show g_C X yX8_copy cX8_copy 7 (some .int) 2 [.ref (X.1 + 51), .int (xs (x3 + 1).toNatClampNeg), .int (xs (x3 + 2).toNatClampNeg), .int (xs (x3 + 3).toNatClampNeg), .int (xs (x3 + 4).toNatClampNeg), .int (xs (x3 + 5).toNatClampNeg)] S1 (some (.int r)) S2 from ctX8_copy e2) rfl ⟨Nat.le_of_ble_eq_true rfl, Nat.le_of_ble_eq_true rfl⟩ ⟨Nat.le_of_ble_eq_true rfl, Nat.le_of_ble_eq_true rfl⟩ rfl (Nat.le_of_ble_eq_true rfl) dL_law_1078 (fun H locs hP hS => ?_)
  refine W.eq (g2 := F0 m 1081 ls [.int r, .int r]) rfl ?_
  refine lv_icmp_eq (tgt := 1146) A.1 A.2.1 dL_law_1081 (by decide) (fun _ => ?_) (fun h => absurd rfl h)
  exact kk H locs S2 hP hS hI2
set_option maxRecDepth 100000 in
theorem la_32 (C : lC X p s m c b L xs x3) (hP : gP X S H) (hS : va_S (gA X) s.heap H locs) (hI : Inv S S) (hl : lv_has ls 4 [(0, .ref b), (1, .ref (X.1 + 0)), (2, .ref (X.1 + 51)), (3, .int x3)])
    (kk : ∀ (H1 : Heap) (locs1 : List Loc) (S1 : gS), gP X S1 H1 → va_S (gA X) s.heap H1 locs1 → Inv S1 S1 → W p l e room_1 s m #[Value.ref b] below meth c H1 locs1 73 3089 Q (F0 m 1146 ls [])) : W p l e room_1 s m #[Value.ref b] below meth c H locs 73 3089 Q (F0 m 1086 ls []) := by
  obtain ⟨A, hX, hbl, hXB, h1, h2, h3, h4, h5⟩ := C
  have hbA : ¬ gA X b := by show ¬ X.1 ≤ b; omega
  obtain ⟨r, S1, S2, e1, e2, hI2⟩ := (op_write (F := 20000001) (by decide) (xs (x3 + 1).toNatClampNeg)).use hI
  refine lv_aload_n A.1 A.2.1 dL_law_1086 rfl (lv_at hl 1 rfl) ?_
  refine lv_aload_n A.1 A.2.1 dL_law_1087 rfl (lv_at hl 0 rfl) ?_
  refine lv_iload_n A.1 A.2.1 dL_law_1088 rfl (lv_at hl 3 rfl) ?_
  refine lv_iconst (v := 1) A.1 A.2.1 dL_law_1089 (by decide) ?_
  refine lv_iadd A.1 A.2.1 dL_law_1090 ?_
  refine va_sld A.1 A.2.1 hX hbl hbA hS h1 dL_law_1091 ?_
  refine w_callV (i := 0) (As := [.int (xs (x3 + 1).toNatClampNeg)]) (rest := []) A hl.1 hP hS mk_L_149 so_0 (show g_C X yX7_write cX7_write 3 (some .int) 5 [.ref (X.1 + 0), .int (xs (x3 + 1).toNatClampNeg)] S (some (.int r)) S1 from ctX7_write e1) rfl ⟨Nat.le_of_ble_eq_true rfl, Nat.le_of_ble_eq_true rfl⟩ ⟨Nat.le_of_ble_eq_true rfl, Nat.le_of_ble_eq_true rfl⟩ rfl (Nat.le_of_ble_eq_true rfl) dL_law_1092 (fun H locs hP hS => ?_)
  refine W.eq (g2 := F0 m 1095 ls [.int r]) rfl ?_
  refine lv_aload_n A.1 A.2.1 dL_law_1095 rfl (lv_at hl 2 rfl) ?_
  refine lv_aload_n A.1 A.2.1 dL_law_1096 rfl (lv_at hl 0 rfl) ?_
  refine lv_iload_n A.1 A.2.1 dL_law_1097 rfl (lv_at hl 3 rfl) ?_
  refine lv_iconst (v := 1) A.1 A.2.1 dL_law_1098 (by decide) ?_
  refine lv_iadd A.1 A.2.1 dL_law_1099 ?_
  refine va_sld A.1 A.2.1 hX hbl hbA hS h1 dL_law_1100 ?_
  refine w_callV (i := 51) (As := [.int (xs (x3 + 1).toNatClampNeg)]) (rest := [.int r]) A hl.1 hP hS mk_L_152 so_51 (show g_C X yX8_write cX8_write 3 (some .int) 5 [.ref (X.1 + 51), .int (xs (x3 + 1).toNatClampNeg)] S1 (some (.int r)) S2 from ctX8_write e2) rfl ⟨Nat.le_of_ble_eq_true rfl, Nat.le_of_ble_eq_true rfl⟩ ⟨Nat.le_of_ble_eq_true rfl, Nat.le_of_ble_eq_true rfl⟩ rfl (Nat.le_of_ble_eq_true rfl) dL_law_1101 (fun H locs hP hS => ?_)
  refine W.eq (g2 := F0 m 1104 ls [.int r, .int r]) rfl ?_
  refine lv_icmp_eq (tgt := 1146) A.1 A.2.1 dL_law_1104 (by decide) (fun _ => ?_) (fun h => absurd rfl h)
  exact kk H locs S2 hP hS hI2
set_option maxRecDepth 100000 in
theorem la_33 (C : lC X p s m c b L xs x3) (hP : gP X S H) (hS : va_S (gA X) s.heap H locs) (hI : Inv S S) (hl : lv_has ls 4 [(0, .ref b), (1, .ref (X.1 + 0)), (2, .ref (X.1 + 51)), (3, .int x3)])
    (kk : ∀ (H1 : Heap) (locs1 : List Loc) (S1 : gS), gP X S1 H1 → va_S (gA X) s.heap H1 locs1 → Inv S1 S1 → W p l e room_1 s m #[Value.ref b] below meth c H1 locs1 73 3089 Q (F0 m 1146 ls [])) : W p l e room_1 s m #[Value.ref b] below meth c H locs 73 3089 Q (F0 m 1109 ls []) := by
  obtain ⟨A, hX, hbl, hXB, h1, h2, h3, h4, h5⟩ := C
  have hbA : ¬ gA X b := by show ¬ X.1 ≤ b; omega
  obtain ⟨r, S1, S2, e1, e2, hI2⟩ := (op_count (F := 20000001) (by decide) (xs (x3 + 1).toNatClampNeg)).use hI
  refine lv_aload_n A.1 A.2.1 dL_law_1109 rfl (lv_at hl 1 rfl) ?_
  refine lv_aload_n A.1 A.2.1 dL_law_1110 rfl (lv_at hl 0 rfl) ?_
  refine lv_iload_n A.1 A.2.1 dL_law_1111 rfl (lv_at hl 3 rfl) ?_
  refine lv_iconst (v := 1) A.1 A.2.1 dL_law_1112 (by decide) ?_
  refine lv_iadd A.1 A.2.1 dL_law_1113 ?_
  refine va_sld A.1 A.2.1 hX hbl hbA hS h1 dL_law_1114 ?_
  refine w_callV (i := 0) (As := [.int (xs (x3 + 1).toNatClampNeg)]) (rest := []) A hl.1 hP hS mk_L_153 so_0 (show g_C X yX7_count cX7_count 2 (some .int) 1 [.ref (X.1 + 0), .int (xs (x3 + 1).toNatClampNeg)] S (some (.int r)) S1 from ctX7_count e1) rfl ⟨Nat.le_of_ble_eq_true rfl, Nat.le_of_ble_eq_true rfl⟩ ⟨Nat.le_of_ble_eq_true rfl, Nat.le_of_ble_eq_true rfl⟩ rfl (Nat.le_of_ble_eq_true rfl) dL_law_1115 (fun H locs hP hS => ?_)
  refine W.eq (g2 := F0 m 1118 ls [.int r]) rfl ?_
  refine lv_aload_n A.1 A.2.1 dL_law_1118 rfl (lv_at hl 2 rfl) ?_
  refine lv_aload_n A.1 A.2.1 dL_law_1119 rfl (lv_at hl 0 rfl) ?_
  refine lv_iload_n A.1 A.2.1 dL_law_1120 rfl (lv_at hl 3 rfl) ?_
  refine lv_iconst (v := 1) A.1 A.2.1 dL_law_1121 (by decide) ?_
  refine lv_iadd A.1 A.2.1 dL_law_1122 ?_
  refine va_sld A.1 A.2.1 hX hbl hbA hS h1 dL_law_1123 ?_
  refine w_callV (i := 51) (As := [.int (xs (x3 + 1).toNatClampNeg)]) (rest := [.int r]) A hl.1 hP hS mk_L_156 so_51 (show g_C X yX8_count cX8_count 4 (some .int) 3 [.ref (X.1 + 51), .int (xs (x3 + 1).toNatClampNeg)] S1 (some (.int r)) S2 from ctX8_count e2) rfl ⟨Nat.le_of_ble_eq_true rfl, Nat.le_of_ble_eq_true rfl⟩ ⟨Nat.le_of_ble_eq_true rfl, Nat.le_of_ble_eq_true rfl⟩ rfl (Nat.le_of_ble_eq_true rfl) dL_law_1124 (fun H locs hP hS => ?_)
  refine W.eq (g2 := F0 m 1127 ls [.int r, .int r]) rfl ?_
  refine lv_icmp_eq (tgt := 1146) A.1 A.2.1 dL_law_1127 (by decide) (fun _ => ?_) (fun h => absurd rfl h)
  exact kk H locs S2 hP hS hI2
set_option maxRecDepth 100000 in
theorem la_34 (C : lC X p s m c b L xs x3) (hP : gP X S H) (hS : va_S (gA X) s.heap H locs) (hI : Inv S S) (hl : lv_has ls 4 [(0, .ref b), (1, .ref (X.1 + 0)), (2, .ref (X.1 + 51)), (3, .int x3)])
    (kk : ∀ (H1 : Heap) (locs1 : List Loc) (S1 : gS), gP X S1 H1 → va_S (gA X) s.heap H1 locs1 → Inv S1 S1 → W p l e room_1 s m #[Value.ref b] below meth c H1 locs1 73 3089 Q (F0 m 1146 ls [])) : W p l e room_1 s m #[Value.ref b] below meth c H locs 73 3089 Q (F0 m 1132 ls []) := by
  obtain ⟨A, hX, hbl, hXB, h1, h2, h3, h4, h5⟩ := C
  have hbA : ¬ gA X b := by show ¬ X.1 ≤ b; omega
  obtain ⟨r, S1, S2, e1, e2, hI2⟩ := (op_digest (F := 20000001) (by decide) ).use hI
  refine lv_aload_n A.1 A.2.1 dL_law_1132 rfl (lv_at hl 1 rfl) ?_
  refine w_callV (i := 0) (As := []) (rest := []) A hl.1 hP hS mk_L_157 so_0 (show g_C X yX7_digest cX7_digest 5 (some .long) 7 [.ref (X.1 + 0)] S (some (.long r)) S1 from ctX7_digest e1) rfl ⟨Nat.le_of_ble_eq_true rfl, Nat.le_of_ble_eq_true rfl⟩ ⟨Nat.le_of_ble_eq_true rfl, Nat.le_of_ble_eq_true rfl⟩ rfl (Nat.le_of_ble_eq_true rfl) dL_law_1133 (fun H locs hP hS => ?_)
  refine W.eq (g2 := F0 m 1136 ls [.long r]) rfl ?_
  refine lv_aload_n A.1 A.2.1 dL_law_1136 rfl (lv_at hl 2 rfl) ?_
  refine w_callV (i := 51) (As := []) (rest := [.long r]) A hl.1 hP hS mk_L_161 so_51 (show g_C X yX8_digest cX8_digest 5 (some .long) 7 [.ref (X.1 + 51)] S1 (some (.long r)) S2 from ctX8_digest e2) rfl ⟨Nat.le_of_ble_eq_true rfl, Nat.le_of_ble_eq_true rfl⟩ ⟨Nat.le_of_ble_eq_true rfl, Nat.le_of_ble_eq_true rfl⟩ rfl (Nat.le_of_ble_eq_true rfl) dL_law_1137 (fun H locs hP hS => ?_)
  refine W.eq (g2 := F0 m 1140 ls [.long r, .long r]) rfl ?_
  refine W.lcmp A.1 A.2.1 dL_law_1140 ?_
  refine lv_if_eq (tgt := 1146) A.1 A.2.1 dL_law_1141 (by decide) (fun _ => ?_) (fun h => absurd ((lg_cmp_eq r r).mpr rfl) h)
  exact kk H locs S2 hP hS hI2
end LA

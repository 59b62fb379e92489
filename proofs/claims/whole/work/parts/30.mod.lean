noncomputable def fX8_in (F : Nat) (a0 : Int64) (a1 : Int64) (a2 : Int64) (S : gS) : Option (Int32 × gS) := if (lg_cmp a0 a1) < 0 then (some ((0 : Int32), S)) else (if 0 < (lg_cmp a0 a2) then (some ((0 : Int32), S)) else (some ((1 : Int32), S)))
set_option maxRecDepth 20000 in
theorem fX8_in_ok {X : gX} {F : Nat} {R : Int32 × gS} {a0 : Int64} {a1 : Int64} {a2 : Int64} {S : gS} (h : fX8_in F a0 a1 a2 S = some R) : G X RX8 cX8_in 6 (some .boolean) 0 (some (.int R.1)) R.2 0 [(0, .long a0), (2, .long a1), (4, .long a2)] [] S := by
  unfold fX8_in at h
  refine g_lload_n dX8_in_0 0 rfl rfl ?_
  refine g_lload_n dX8_in_1 1 rfl rfl ?_
  refine g_lcmp dX8_in_2 ?_
  refine g_if_lt (tgt := 17) dX8_in_3 (by decide) (fun hc1 => ?_) (fun hc1 => ?_)
  · replace h := git hc1 h
    refine g_iconst (v := 0) dX8_in_17 (by decide) ?_
    obtain rfl := Option.some.inj h
    exact g_zret dX8_in_18 rfl narrow_b0
  · replace h := gif hc1 h
    refine g_lload_n dX8_in_6 0 rfl rfl ?_
    refine g_lload dX8_in_7 2 rfl ?_
    refine g_lcmp dX8_in_9 ?_
    refine g_if_gt (tgt := 17) dX8_in_10 (by decide) (fun hc2 => ?_) (fun hc2 => ?_)
    · replace h := git hc2 h
      refine g_iconst (v := 0) dX8_in_17 (by decide) ?_
      obtain rfl := Option.some.inj h
      exact g_zret dX8_in_18 rfl narrow_b0
    · replace h := gif hc2 h
      refine g_iconst (v := 1) dX8_in_13 (by decide) ?_
      refine g_goto (tgt := 18) dX8_in_14 (by decide) ?_
      obtain rfl := Option.some.inj h
      exact g_zret dX8_in_18 rfl narrow_b1
theorem ctX8_in {X : gX} {F : Nat} {R : Int32 × gS} {a0 : Int64} {a1 : Int64} {a2 : Int64} {S : gS} (h : fX8_in F a0 a1 a2 S = some R) : g_C X yX8_in cX8_in 6 (some .boolean) 0 [.long a0, .long a1, .long a2] S (some (.int R.1)) R.2 :=
  g_met (by decide) (Nat.le_of_ble_eq_true rfl) (fX8_in_ok h)
noncomputable def fX8_no (F : Nat) (a0 : Int32) (S : gS) : Option (Int64 × gS) := some (((-9223372036854775808 : Int64) - (a0).toInt64), S)
set_option maxRecDepth 20000 in
theorem fX8_no_ok {X : gX} {F : Nat} {R : Int64 × gS} {a0 : Int32} {S : gS} (h : fX8_no F a0 S = some R) : G X RX8 cX8_no 1 (some .long) 0 (some (.long R.1)) R.2 0 [(0, .int a0)] [] S := by
  unfold fX8_no at h
  refine g_ldc2 dX8_no_0 ck_X8_78 ?_
  refine g_iload_n dX8_no_3 0 rfl rfl ?_
  refine g_i2l dX8_no_4 ?_
  refine g_lsub dX8_no_5 ?_
  obtain rfl := Option.some.inj h
  exact g_lret dX8_no_6 rfl
theorem ctX8_no {X : gX} {F : Nat} {R : Int64 × gS} {a0 : Int32} {S : gS} (h : fX8_no F a0 S = some R) : g_C X yX8_no cX8_no 1 (some .long) 0 [.int a0] S (some (.long R.1)) R.2 :=
  g_met (by decide) (Nat.le_of_ble_eq_true rfl) (fX8_no_ok h)
noncomputable def fX8_isTwo (F : Nat) (a0 : Int32) (S : gS) : Option (Int32 × gS) := (fX8_in F ((a0).toInt64) (0 : Int64) (1 : Int64) S).bind (fun q1 : Int32 × gS => g_bo q1.1 (some (q1.1, q1.2)))
set_option maxRecDepth 20000 in
theorem fX8_isTwo_ok {X : gX} {F : Nat} {R : Int32 × gS} {a0 : Int32} {S : gS} (h : fX8_isTwo F a0 S = some R) : G X RX8 cX8_isTwo 1 (some .boolean) 1 (some (.int R.1)) R.2 0 [(0, .int a0)] [] S := by
  unfold fX8_isTwo at h
  refine g_iload_n dX8_isTwo_0 0 rfl rfl ?_
  refine g_i2l dX8_isTwo_1 ?_
  refine g_lconst (v := 0) dX8_isTwo_2 (by decide) ?_
  refine g_lconst (v := 1) dX8_isTwo_3 (by decide) ?_
  obtain ⟨q1, hq1, h⟩ := gb h
  refine g_callSi [.long ((a0).toInt64), .long (0 : Int64), .long (1 : Int64)] [] dX8_isTwo_4 mk_X8_80 (ctX8_in hq1) rfl (by decide) rfl (Nat.le_of_ble_eq_true rfl) ?_
  obtain ⟨hb2, h⟩ := gbo h
  obtain rfl := Option.some.inj h
  exact g_zret dX8_isTwo_7 rfl hb2
theorem ctX8_isTwo {X : gX} {F : Nat} {R : Int32 × gS} {a0 : Int32} {S : gS} (h : fX8_isTwo F a0 S = some R) : g_C X yX8_isTwo cX8_isTwo 1 (some .boolean) 1 [.int a0] S (some (.int R.1)) R.2 :=
  g_met (by decide) (Nat.le_of_ble_eq_true rfl) (fX8_isTwo_ok h)
noncomputable def fX8_isCell (F : Nat) (a0 : Int32) (S : gS) : Option (Int32 × gS) := (fX8_in F ((a0).toInt64) (0 : Int64) (63 : Int64) S).bind (fun q1 : Int32 × gS => g_bo q1.1 (some (q1.1, q1.2)))
set_option maxRecDepth 20000 in
theorem fX8_isCell_ok {X : gX} {F : Nat} {R : Int32 × gS} {a0 : Int32} {S : gS} (h : fX8_isCell F a0 S = some R) : G X RX8 cX8_isCell 1 (some .boolean) 1 (some (.int R.1)) R.2 0 [(0, .int a0)] [] S := by
  unfold fX8_isCell at h
  refine g_iload_n dX8_isCell_0 0 rfl rfl ?_
  refine g_i2l dX8_isCell_1 ?_
  refine g_lconst (v := 0) dX8_isCell_2 (by decide) ?_
  refine g_ldc2 dX8_isCell_3 ck_X8_84 ?_
  obtain ⟨q1, hq1, h⟩ := gb h
  refine g_callSi [.long ((a0).toInt64), .long (0 : Int64), .long (63 : Int64)] [] dX8_isCell_6 mk_X8_80 (ctX8_in hq1) rfl (by decide) rfl (Nat.le_of_ble_eq_true rfl) ?_
  obtain ⟨hb2, h⟩ := gbo h
  obtain rfl := Option.some.inj h
  exact g_zret dX8_isCell_9 rfl hb2
theorem ctX8_isCell {X : gX} {F : Nat} {R : Int32 × gS} {a0 : Int32} {S : gS} (h : fX8_isCell F a0 S = some R) : g_C X yX8_isCell cX8_isCell 1 (some .boolean) 1 [.int a0] S (some (.int R.1)) R.2 :=
  g_met (by decide) (Nat.le_of_ble_eq_true rfl) (fX8_isCell_ok h)
noncomputable def fX8_met (F : Nat) (a0 : Int32) (S : gS) : Option (Int32 × gS) := gl (g_setI S 51 4 a0) (fun S1 : gS => some (((-10 : Int32) - a0), S1))
set_option maxRecDepth 20000 in
theorem fX8_met_ok {X : gX} {F : Nat} {R : Int32 × gS} {a0 : Int32} {S : gS} (h : fX8_met F a0 S = some R) : G X RX8 cX8_met 2 (some .int) 0 (some (.int R.1)) R.2 0 [(0, .ref (X.1 + 51)), (1, .int a0)] [] S := by
  unfold fX8_met at h
  refine g_aload_n dX8_met_0 0 rfl rfl ?_
  refine g_iload_n dX8_met_1 1 rfl rfl ?_
  obtain ⟨S1, eS1, h⟩ := gle h
  refine g_puti dX8_met_2 lp_X8_86 sf_51_4 eS1 ?_
  refine g_bipush (v := -10) dX8_met_5 (by decide) ?_
  refine g_iload_n dX8_met_7 1 rfl rfl ?_
  refine g_isub dX8_met_8 ?_
  obtain rfl := Option.some.inj h
  exact g_iret dX8_met_9 rfl
theorem ctX8_met {X : gX} {F : Nat} {R : Int32 × gS} {a0 : Int32} {S : gS} (h : fX8_met F a0 S = some R) : g_C X yX8_met cX8_met 2 (some .int) 0 [.ref (X.1 + 51), .int a0] S (some (.int R.1)) R.2 :=
  g_met (by decide) (Nat.le_of_ble_eq_true rfl) (fX8_met_ok h)
noncomputable def fX8_isSheet (F : Nat) (a0 : Int32) (S : gS) : Option (Int32 × gS) := (fX8_in F ((a0).toInt64) (0 : Int64) (3 : Int64) S).bind (fun q1 : Int32 × gS => g_bo q1.1 (some (q1.1, q1.2)))
set_option maxRecDepth 20000 in
theorem fX8_isSheet_ok {X : gX} {F : Nat} {R : Int32 × gS} {a0 : Int32} {S : gS} (h : fX8_isSheet F a0 S = some R) : G X RX8 cX8_isSheet 1 (some .boolean) 1 (some (.int R.1)) R.2 0 [(0, .int a0)] [] S := by
  unfold fX8_isSheet at h
  refine g_iload_n dX8_isSheet_0 0 rfl rfl ?_
  refine g_i2l dX8_isSheet_1 ?_
  refine g_lconst (v := 0) dX8_isSheet_2 (by decide) ?_
  refine g_ldc2 dX8_isSheet_3 ck_X8_89 ?_
  obtain ⟨q1, hq1, h⟩ := gb h
  refine g_callSi [.long ((a0).toInt64), .long (0 : Int64), .long (3 : Int64)] [] dX8_isSheet_6 mk_X8_80 (ctX8_in hq1) rfl (by decide) rfl (Nat.le_of_ble_eq_true rfl) ?_
  obtain ⟨hb2, h⟩ := gbo h
  obtain rfl := Option.some.inj h
  exact g_zret dX8_isSheet_9 rfl hb2
theorem ctX8_isSheet {X : gX} {F : Nat} {R : Int32 × gS} {a0 : Int32} {S : gS} (h : fX8_isSheet F a0 S = some R) : g_C X yX8_isSheet cX8_isSheet 1 (some .boolean) 1 [.int a0] S (some (.int R.1)) R.2 :=
  g_met (by decide) (Nat.le_of_ble_eq_true rfl) (fX8_isSheet_ok h)
noncomputable def bX8_sheet_55 (F : Nat) (k55 : (Int32 × Int32 × Int32 × gS) → Option (Int32 × gS)) (x1 : Int32) (x3 : Int32) (x4 : Int32) (S : gS) : Option (Int32 × gS) := if x3 ≤ x4 then (some (x3, S)) else (g_chk (((64 : Int32) * x1) + x4) 256 (gl (g_setI S 54 ((((64 : Int32) * x1) + x4)).toNatClampNeg (0 : Int32)) (fun S3 : gS => gl (x4 + 1) (fun v4 : Int32 => k55 (x1, x3, v4, S3)))))
set_option maxRecDepth 20000 in
theorem bX8_sheet_55_ok {X : gX} {F : Nat} {k55 : (Int32 × Int32 × Int32 × gS) → Option (Int32 × gS)} {R : Int32 × gS} (H55 : ∀ s : Int32 × Int32 × Int32 × gS, k55 s = some R → G X RX8 cX8_sheet 5 (some .int) 2 (some (.int R.1)) R.2 55 [(0, .ref (X.1 + 51)), (1, .int s.1), (3, .int s.2.1), (4, .int s.2.2.1)] [] s.2.2.2) {x1 : Int32} {x3 : Int32} {x4 : Int32} {S : gS} (h : bX8_sheet_55 F k55 x1 x3 x4 S = some R) : G X RX8 cX8_sheet 5 (some .int) 2 (some (.int R.1)) R.2 55 [(0, .ref (X.1 + 51)), (1, .int x1), (3, .int x3), (4, .int x4)] [] S := by
  unfold bX8_sheet_55 at h
  refine g_iload dX8_sheet_55 3 rfl ?_
  refine g_iload_n dX8_sheet_57 2 rfl rfl ?_
  refine g_icmp_ge (tgt := 80) dX8_sheet_58 (by decide) (fun hc1 => ?_) (fun hc1 => ?_)
  · replace h := git hc1 h
    refine g_iload_n dX8_sheet_80 2 rfl rfl ?_
    obtain rfl := Option.some.inj h
    exact g_iret dX8_sheet_81 rfl
  · replace h := gif hc1 h
    refine g_aload_n dX8_sheet_61 0 rfl rfl ?_
    refine g_getr dX8_sheet_62 lk_X8_16 sf_51_2 ?_
    refine g_bipush (v := 64) dX8_sheet_65 (by decide) ?_
    refine g_iload_n dX8_sheet_67 1 rfl rfl ?_
    refine g_imul dX8_sheet_68 ?_
    refine g_iload dX8_sheet_69 3 rfl ?_
    refine g_iadd dX8_sheet_71 ?_
    refine g_iconst (v := 0) dX8_sheet_72 (by decide) ?_
    obtain ⟨hv2, h⟩ := gchk h
    obtain ⟨S3, eS3, h⟩ := gle h
    refine g_iast dX8_sheet_73 sa_54 hv2 eS3 ?_
    obtain ⟨v4, ev4, h⟩ := gle h
    refine g_iinc (q := 3) (v := v4) (lv' := [(4, .int v4), (0, .ref (X.1 + 51)), (1, .int x1), (3, .int x3)]) dX8_sheet_74 rfl (by rw [← ev4]; rfl) (by decide) rfl ?_
    refine g_goto (tgt := 55) dX8_sheet_77 (by decide) ?_
    refine g_sub [1, 2, 3, 0] rfl ?_
    exact H55 (x1, x3, v4, S3) h
noncomputable def bX8_sheet_55l (F : Nat) : Nat → (Int32 × Int32 × Int32 × gS) → Option (Int32 × gS) := g_fix (fun k55 s => bX8_sheet_55 F k55 s.1 s.2.1 s.2.2.1 s.2.2.2)
theorem bX8_sheet_55l_ok {X : gX} {F : Nat} {R : Int32 × gS} : ∀ (n : Nat) (s : Int32 × Int32 × Int32 × gS), bX8_sheet_55l F n s = some R → G X RX8 cX8_sheet 5 (some .int) 2 (some (.int R.1)) R.2 55 [(0, .ref (X.1 + 51)), (1, .int s.1), (3, .int s.2.1), (4, .int s.2.2.1)] [] s.2.2.2 := by
  intro n
  induction n with
  | zero => intro s h; cases h
  | succ n ih => intro s h; exact bX8_sheet_55_ok (F := F) ih h
noncomputable def fX8_sheet (F : Nat) (a0 : Int32) (a1 : Int32) (a2 : Int32) (S : gS) : Option (Int32 × gS) := (fX8_isSheet F a0 S).bind (fun q1 : Int32 × gS => if q1.1 = 0 then (some ((-2 : Int32), q1.2)) else ((fX8_in F ((a1).toInt64) (0 : Int64) (2 : Int64) q1.2).bind (fun q3 : Int32 × gS => if q3.1 = 0 then (some ((-2 : Int32), q3.2)) else (if a2 ≤ (64 : Int32) then (if 0 ≤ a2 then (g_chk a0 4 (gl (g_setI q3.2 52 (a0).toNatClampNeg a1) (fun S8 : gS => g_chk a0 4 (gl (g_setI S8 53 (a0).toNatClampNeg a2) (fun S10 : gS => bX8_sheet_55l F F (a0, a2, (0 : Int32), S10)))))) else ((fX8_met F (5 : Int32) q3.2).bind (fun q11 : Int32 × gS => some (q11.1, q11.2)))) else (some ((-2 : Int32), q3.2))))))
set_option maxRecDepth 20000 in
theorem fX8_sheet_ok {X : gX} {F : Nat} {R : Int32 × gS} {a0 : Int32} {a1 : Int32} {a2 : Int32} {S : gS} (h : fX8_sheet F a0 a1 a2 S = some R) : G X RX8 cX8_sheet 5 (some .int) 2 (some (.int R.1)) R.2 0 [(0, .ref (X.1 + 51)), (1, .int a0), (2, .int a1), (3, .int a2)] [] S := by
  unfold fX8_sheet at h
  refine g_iload_n dX8_sheet_0 1 rfl rfl ?_
  obtain ⟨q1, hq1, h⟩ := gb h
  refine g_callSi [.int a0] [] dX8_sheet_1 mk_X8_91 (ctX8_isSheet hq1) rfl (by decide) rfl (Nat.le_of_ble_eq_true rfl) ?_
  refine g_if_eq (tgt := 25) dX8_sheet_4 (by decide) (fun hc2 => ?_) (fun hc2 => ?_)
  · replace h := git hc2 h
    refine g_bipush (v := -2) dX8_sheet_25 (by decide) ?_
    obtain rfl := Option.some.inj h
    exact g_iret dX8_sheet_27 rfl
  · replace h := gif hc2 h
    refine g_iload_n dX8_sheet_7 2 rfl rfl ?_
    refine g_i2l dX8_sheet_8 ?_
    refine g_lconst (v := 0) dX8_sheet_9 (by decide) ?_
    refine g_ldc2 dX8_sheet_10 ck_X8_95 ?_
    obtain ⟨q3, hq3, h⟩ := gb h
    refine g_callSi [.long ((a1).toInt64), .long (0 : Int64), .long (2 : Int64)] [] dX8_sheet_13 mk_X8_80 (ctX8_in hq3) rfl (by decide) rfl (Nat.le_of_ble_eq_true rfl) ?_
    refine g_if_eq (tgt := 25) dX8_sheet_16 (by decide) (fun hc4 => ?_) (fun hc4 => ?_)
    · replace h := git hc4 h
      refine g_bipush (v := -2) dX8_sheet_25 (by decide) ?_
      obtain rfl := Option.some.inj h
      exact g_iret dX8_sheet_27 rfl
    · replace h := gif hc4 h
      refine g_iload_n dX8_sheet_19 3 rfl rfl ?_
      refine g_bipush (v := 64) dX8_sheet_20 (by decide) ?_
      refine g_icmp_le (tgt := 28) dX8_sheet_22 (by decide) (fun hc5 => ?_) (fun hc5 => ?_)
      · replace h := git hc5 h
        refine g_iload_n dX8_sheet_28 3 rfl rfl ?_
        refine g_if_ge (tgt := 38) dX8_sheet_29 (by decide) (fun hc6 => ?_) (fun hc6 => ?_)
        · replace h := git hc6 h
          refine g_aload_n dX8_sheet_38 0 rfl rfl ?_
          refine g_getr dX8_sheet_39 lk_X8_7 sf_51_0 ?_
          refine g_iload_n dX8_sheet_42 1 rfl rfl ?_
          refine g_iload_n dX8_sheet_43 2 rfl rfl ?_
          obtain ⟨hv7, h⟩ := gchk h
          obtain ⟨S8, eS8, h⟩ := gle h
          refine g_iast dX8_sheet_44 sa_52 hv7 eS8 ?_
          refine g_aload_n dX8_sheet_45 0 rfl rfl ?_
          refine g_getr dX8_sheet_46 lk_X8_13 sf_51_1 ?_
          refine g_iload_n dX8_sheet_49 1 rfl rfl ?_
          refine g_iload_n dX8_sheet_50 3 rfl rfl ?_
          obtain ⟨hv9, h⟩ := gchk h
          obtain ⟨S10, eS10, h⟩ := gle h
          refine g_iast dX8_sheet_51 sa_53 hv9 eS10 ?_
          refine g_iconst (v := 0) dX8_sheet_52 (by decide) ?_
          refine g_istore (lv' := [(4, .int (0 : Int32)), (0, .ref (X.1 + 51)), (1, .int a0), (2, .int a1), (3, .int a2)]) dX8_sheet_53 rfl (by decide) rfl ?_
          refine g_sub [1, 2, 4, 0] rfl ?_
          exact bX8_sheet_55l_ok F (a0, a2, (0 : Int32), S10) h
        · replace h := gif hc6 h
          refine g_aload_n dX8_sheet_32 0 rfl rfl ?_
          refine g_iconst (v := 5) dX8_sheet_33 (by decide) ?_
          obtain ⟨q11, hq11, h⟩ := gb h
          refine g_callVi [.int (5 : Int32)] [] dX8_sheet_34 mk_X8_97 so_51 (ctX8_met hq11) rfl (by decide) rfl (Nat.le_of_ble_eq_true rfl) ?_
          obtain rfl := Option.some.inj h
          exact g_iret dX8_sheet_37 rfl
      · replace h := gif hc5 h
        refine g_bipush (v := -2) dX8_sheet_25 (by decide) ?_
        obtain rfl := Option.some.inj h
        exact g_iret dX8_sheet_27 rfl
theorem ctX8_sheet {X : gX} {F : Nat} {R : Int32 × gS} {a0 : Int32} {a1 : Int32} {a2 : Int32} {S : gS} (h : fX8_sheet F a0 a1 a2 S = some R) : g_C X yX8_sheet cX8_sheet 5 (some .int) 2 [.ref (X.1 + 51), .int a0, .int a1, .int a2] S (some (.int R.1)) R.2 :=
  g_met (by decide) (Nat.le_of_ble_eq_true rfl) (fX8_sheet_ok h)
noncomputable def fX8_lose (F : Nat) (a0 : Int32) (S : gS) : Option (Int32 × gS) := (fX8_isSheet F a0 S).bind (fun q1 : Int32 × gS => if q1.1 = 0 then (some ((-2 : Int32), q1.2)) else (g_chk a0 4 (if 0 ≤ (g_I q1.2 52 (a0).toNatClampNeg) then (g_chk a0 4 (gl (g_setI q1.2 52 (a0).toNatClampNeg (-1 : Int32)) (fun S6 : gS => g_chk a0 4 (some ((g_I S6 53 (a0).toNatClampNeg), S6))))) else ((fX8_met F (1 : Int32) q1.2).bind (fun q8 : Int32 × gS => some (q8.1, q8.2))))))
set_option maxRecDepth 20000 in
theorem fX8_lose_ok {X : gX} {F : Nat} {R : Int32 × gS} {a0 : Int32} {S : gS} (h : fX8_lose F a0 S = some R) : G X RX8 cX8_lose 2 (some .int) 2 (some (.int R.1)) R.2 0 [(0, .ref (X.1 + 51)), (1, .int a0)] [] S := by
  unfold fX8_lose at h
  refine g_iload_n dX8_lose_0 1 rfl rfl ?_
  obtain ⟨q1, hq1, h⟩ := gb h
  refine g_callSi [.int a0] [] dX8_lose_1 mk_X8_91 (ctX8_isSheet hq1) rfl (by decide) rfl (Nat.le_of_ble_eq_true rfl) ?_
  refine g_if_ne (tgt := 10) dX8_lose_4 (by decide) (fun hc2 => ?_) (fun hc2 => ?_)
  · replace h := gif hc2 h
    refine g_aload_n dX8_lose_10 0 rfl rfl ?_
    refine g_getr dX8_lose_11 lk_X8_7 sf_51_0 ?_
    refine g_iload_n dX8_lose_14 1 rfl rfl ?_
    obtain ⟨hv3, h⟩ := gchk h
    refine g_iald dX8_lose_15 sa_52 hv3 ?_
    refine g_if_ge (tgt := 25) dX8_lose_16 (by decide) (fun hc4 => ?_) (fun hc4 => ?_)
    · replace h := git hc4 h
      refine g_aload_n dX8_lose_25 0 rfl rfl ?_
      refine g_getr dX8_lose_26 lk_X8_7 sf_51_0 ?_
      refine g_iload_n dX8_lose_29 1 rfl rfl ?_
      refine g_iconst (v := -1) dX8_lose_30 (by decide) ?_
      obtain ⟨hv5, h⟩ := gchk h
      obtain ⟨S6, eS6, h⟩ := gle h
      refine g_iast dX8_lose_31 sa_52 hv5 eS6 ?_
      refine g_aload_n dX8_lose_32 0 rfl rfl ?_
      refine g_getr dX8_lose_33 lk_X8_13 sf_51_1 ?_
      refine g_iload_n dX8_lose_36 1 rfl rfl ?_
      obtain ⟨hv7, h⟩ := gchk h
      refine g_iald dX8_lose_37 sa_53 hv7 ?_
      obtain rfl := Option.some.inj h
      exact g_iret dX8_lose_38 rfl
    · replace h := gif hc4 h
      refine g_aload_n dX8_lose_19 0 rfl rfl ?_
      refine g_iconst (v := 1) dX8_lose_20 (by decide) ?_
      obtain ⟨q8, hq8, h⟩ := gb h
      refine g_callVi [.int (1 : Int32)] [] dX8_lose_21 mk_X8_97 so_51 (ctX8_met hq8) rfl (by decide) rfl (Nat.le_of_ble_eq_true rfl) ?_
      obtain rfl := Option.some.inj h
      exact g_iret dX8_lose_24 rfl
  · replace h := git hc2 h
    refine g_bipush (v := -2) dX8_lose_7 (by decide) ?_
    obtain rfl := Option.some.inj h
    exact g_iret dX8_lose_9 rfl
theorem ctX8_lose {X : gX} {F : Nat} {R : Int32 × gS} {a0 : Int32} {S : gS} (h : fX8_lose F a0 S = some R) : g_C X yX8_lose cX8_lose 2 (some .int) 2 [.ref (X.1 + 51), .int a0] S (some (.int R.1)) R.2 :=
  g_met (by decide) (Nat.le_of_ble_eq_true rfl) (fX8_lose_ok h)
noncomputable def fX8_lacks (F : Nat) (a0 : Int32) (a1 : Int32) (a2 : Int32) (S : gS) : Option (Int32 × gS) := g_chk a0 4 (if 0 ≤ (g_I S 52 (a0).toNatClampNeg) then (g_chk a0 4 (if (g_I S 52 (a0).toNatClampNeg) = a1 then (g_chk a0 4 ((fX8_in F ((a2).toInt64) (0 : Int64) ((((g_I S 53 (a0).toNatClampNeg) - (1 : Int32))).toInt64) S).bind (fun q6 : Int32 × gS => if q6.1 = 0 then ((fX8_met F (2 : Int32) q6.2).bind (fun q8 : Int32 × gS => some (q8.1, q8.2))) else (some ((0 : Int32), q6.2))))) else ((fX8_met F (3 : Int32) S).bind (fun q9 : Int32 × gS => some (q9.1, q9.2))))) else ((fX8_met F (1 : Int32) S).bind (fun q10 : Int32 × gS => some (q10.1, q10.2))))
set_option maxRecDepth 20000 in
theorem fX8_lacks_ok {X : gX} {F : Nat} {R : Int32 × gS} {a0 : Int32} {a1 : Int32} {a2 : Int32} {S : gS} (h : fX8_lacks F a0 a1 a2 S = some R) : G X RX8 cX8_lacks 4 (some .int) 1 (some (.int R.1)) R.2 0 [(0, .ref (X.1 + 51)), (1, .int a0), (2, .int a1), (3, .int a2)] [] S := by
  unfold fX8_lacks at h
  refine g_aload_n dX8_lacks_0 0 rfl rfl ?_
  refine g_getr dX8_lacks_1 lk_X8_7 sf_51_0 ?_
  refine g_iload_n dX8_lacks_4 1 rfl rfl ?_
  obtain ⟨hv1, h⟩ := gchk h
  refine g_iald dX8_lacks_5 sa_52 hv1 ?_
  refine g_if_ge (tgt := 15) dX8_lacks_6 (by decide) (fun hc2 => ?_) (fun hc2 => ?_)
  · replace h := git hc2 h
    refine g_aload_n dX8_lacks_15 0 rfl rfl ?_
    refine g_getr dX8_lacks_16 lk_X8_7 sf_51_0 ?_
    refine g_iload_n dX8_lacks_19 1 rfl rfl ?_
    obtain ⟨hv3, h⟩ := gchk h
    refine g_iald dX8_lacks_20 sa_52 hv3 ?_
    refine g_iload_n dX8_lacks_21 2 rfl rfl ?_
    refine g_icmp_eq (tgt := 31) dX8_lacks_22 (by decide) (fun hc4 => ?_) (fun hc4 => ?_)
    · replace h := git hc4 h
      refine g_iload_n dX8_lacks_31 3 rfl rfl ?_
      refine g_i2l dX8_lacks_32 ?_
      refine g_lconst (v := 0) dX8_lacks_33 (by decide) ?_
      refine g_aload_n dX8_lacks_34 0 rfl rfl ?_
      refine g_getr dX8_lacks_35 lk_X8_13 sf_51_1 ?_
      refine g_iload_n dX8_lacks_38 1 rfl rfl ?_
      obtain ⟨hv5, h⟩ := gchk h
      refine g_iald dX8_lacks_39 sa_53 hv5 ?_
      refine g_iconst (v := 1) dX8_lacks_40 (by decide) ?_
      refine g_isub dX8_lacks_41 ?_
      refine g_i2l dX8_lacks_42 ?_
      obtain ⟨q6, hq6, h⟩ := gb h
      refine g_callSi [.long ((a2).toInt64), .long (0 : Int64), .long ((((g_I S 53 (a0).toNatClampNeg) - (1 : Int32))).toInt64)] [] dX8_lacks_43 mk_X8_80 (ctX8_in hq6) rfl (by decide) rfl (Nat.le_of_ble_eq_true rfl) ?_
      refine g_if_eq (tgt := 53) dX8_lacks_46 (by decide) (fun hc7 => ?_) (fun hc7 => ?_)
      · replace h := git hc7 h
        refine g_aload_n dX8_lacks_53 0 rfl rfl ?_
        refine g_iconst (v := 2) dX8_lacks_54 (by decide) ?_
        obtain ⟨q8, hq8, h⟩ := gb h
        refine g_callVi [.int (2 : Int32)] [] dX8_lacks_55 mk_X8_97 so_51 (ctX8_met hq8) rfl (by decide) rfl (Nat.le_of_ble_eq_true rfl) ?_
        obtain rfl := Option.some.inj h
        exact g_iret dX8_lacks_58 rfl
      · replace h := gif hc7 h
        refine g_iconst (v := 0) dX8_lacks_49 (by decide) ?_
        refine g_goto (tgt := 58) dX8_lacks_50 (by decide) ?_
        obtain rfl := Option.some.inj h
        exact g_iret dX8_lacks_58 rfl
    · replace h := gif hc4 h
      refine g_aload_n dX8_lacks_25 0 rfl rfl ?_
      refine g_iconst (v := 3) dX8_lacks_26 (by decide) ?_
      obtain ⟨q9, hq9, h⟩ := gb h
      refine g_callVi [.int (3 : Int32)] [] dX8_lacks_27 mk_X8_97 so_51 (ctX8_met hq9) rfl (by decide) rfl (Nat.le_of_ble_eq_true rfl) ?_
      obtain rfl := Option.some.inj h
      exact g_iret dX8_lacks_30 rfl
  · replace h := gif hc2 h
    refine g_aload_n dX8_lacks_9 0 rfl rfl ?_
    refine g_iconst (v := 1) dX8_lacks_10 (by decide) ?_
    obtain ⟨q10, hq10, h⟩ := gb h
    refine g_callVi [.int (1 : Int32)] [] dX8_lacks_11 mk_X8_97 so_51 (ctX8_met hq10) rfl (by decide) rfl (Nat.le_of_ble_eq_true rfl) ?_
    obtain rfl := Option.some.inj h
    exact g_iret dX8_lacks_14 rfl
theorem ctX8_lacks {X : gX} {F : Nat} {R : Int32 × gS} {a0 : Int32} {a1 : Int32} {a2 : Int32} {S : gS} (h : fX8_lacks F a0 a1 a2 S = some R) : g_C X yX8_lacks cX8_lacks 4 (some .int) 1 [.ref (X.1 + 51), .int a0, .int a1, .int a2] S (some (.int R.1)) R.2 :=
  g_met (by decide) (Nat.le_of_ble_eq_true rfl) (fX8_lacks_ok h)
noncomputable def fX8_cut (F : Nat) (a0 : Int32) (a1 : Int32) (S : gS) : Option (Int32 × gS) := if a0 = 0 then (some ((a1).toInt8.toInt32, S)) else (if a0 = (1 : Int32) then (some ((a1).toInt16.toInt32, S)) else (some (a1, S)))
set_option maxRecDepth 20000 in
theorem fX8_cut_ok {X : gX} {F : Nat} {R : Int32 × gS} {a0 : Int32} {a1 : Int32} {S : gS} (h : fX8_cut F a0 a1 S = some R) : G X RX8 cX8_cut 2 (some .int) 0 (some (.int R.1)) R.2 0 [(0, .int a0), (1, .int a1)] [] S := by
  unfold fX8_cut at h
  refine g_iload_n dX8_cut_0 0 rfl rfl ?_
  refine g_if_ne (tgt := 9) dX8_cut_1 (by decide) (fun hc1 => ?_) (fun hc1 => ?_)
  · replace h := gif hc1 h
    refine g_iload_n dX8_cut_9 0 rfl rfl ?_
    refine g_iconst (v := 1) dX8_cut_10 (by decide) ?_
    refine g_icmp_ne (tgt := 19) dX8_cut_11 (by decide) (fun hc2 => ?_) (fun hc2 => ?_)
    · replace h := gif hc2 h
      refine g_iload_n dX8_cut_19 1 rfl rfl ?_
      obtain rfl := Option.some.inj h
      exact g_iret dX8_cut_20 rfl
    · replace h := git hc2 h
      refine g_iload_n dX8_cut_14 1 rfl rfl ?_
      refine g_i2s dX8_cut_15 ?_
      refine g_goto (tgt := 20) dX8_cut_16 (by decide) ?_
      obtain rfl := Option.some.inj h
      exact g_iret dX8_cut_20 rfl
  · replace h := git hc1 h
    refine g_iload_n dX8_cut_4 1 rfl rfl ?_
    refine g_i2b dX8_cut_5 ?_
    refine g_goto (tgt := 20) dX8_cut_6 (by decide) ?_
    obtain rfl := Option.some.inj h
    exact g_iret dX8_cut_20 rfl
theorem ctX8_cut {X : gX} {F : Nat} {R : Int32 × gS} {a0 : Int32} {a1 : Int32} {S : gS} (h : fX8_cut F a0 a1 S = some R) : g_C X yX8_cut cX8_cut 2 (some .int) 0 [.int a0, .int a1] S (some (.int R.1)) R.2 :=
  g_met (by decide) (Nat.le_of_ble_eq_true rfl) (fX8_cut_ok h)
noncomputable def fX8_lay (F : Nat) (a0 : Int32) (a1 : Int32) (a2 : Int32) (a3 : Int32) (S : gS) : Option (Int32 × gS) := (fX8_isSheet F a0 S).bind (fun q1 : Int32 × gS => if q1.1 = 0 then (some ((-2 : Int32), q1.2)) else ((fX8_in F ((a1).toInt64) (0 : Int64) (2 : Int64) q1.2).bind (fun q3 : Int32 × gS => if q3.1 = 0 then (some ((-2 : Int32), q3.2)) else ((fX8_lacks F a0 a1 a2 q3.2).bind (fun q5 : Int32 × gS => gl q5.1 (fun v6 : Int32 => if v6 = 0 then ((fX8_cut F a1 a3 q5.2).bind (fun q8 : Int32 × gS => g_chk (((64 : Int32) * a0) + a2) 256 (gl (g_setI q8.2 54 ((((64 : Int32) * a0) + a2)).toNatClampNeg q8.1) (fun S10 : gS => some ((1 : Int32), S10))))) else (some (v6, q5.2))))))))
set_option maxRecDepth 20000 in
theorem fX8_lay_ok {X : gX} {F : Nat} {R : Int32 × gS} {a0 : Int32} {a1 : Int32} {a2 : Int32} {a3 : Int32} {S : gS} (h : fX8_lay F a0 a1 a2 a3 S = some R) : G X RX8 cX8_lay 6 (some .int) 2 (some (.int R.1)) R.2 0 [(0, .ref (X.1 + 51)), (1, .int a0), (2, .int a1), (3, .int a2), (4, .int a3)] [] S := by
  unfold fX8_lay at h
  refine g_iload_n dX8_lay_0 1 rfl rfl ?_
  obtain ⟨q1, hq1, h⟩ := gb h
  refine g_callSi [.int a0] [] dX8_lay_1 mk_X8_91 (ctX8_isSheet hq1) rfl (by decide) rfl (Nat.le_of_ble_eq_true rfl) ?_
  refine g_if_eq (tgt := 19) dX8_lay_4 (by decide) (fun hc2 => ?_) (fun hc2 => ?_)
  · replace h := git hc2 h
    refine g_bipush (v := -2) dX8_lay_19 (by decide) ?_
    obtain rfl := Option.some.inj h
    exact g_iret dX8_lay_21 rfl
  · replace h := gif hc2 h
    refine g_iload_n dX8_lay_7 2 rfl rfl ?_
    refine g_i2l dX8_lay_8 ?_
    refine g_lconst (v := 0) dX8_lay_9 (by decide) ?_
    refine g_ldc2 dX8_lay_10 ck_X8_95 ?_
    obtain ⟨q3, hq3, h⟩ := gb h
    refine g_callSi [.long ((a1).toInt64), .long (0 : Int64), .long (2 : Int64)] [] dX8_lay_13 mk_X8_80 (ctX8_in hq3) rfl (by decide) rfl (Nat.le_of_ble_eq_true rfl) ?_
    refine g_if_ne (tgt := 22) dX8_lay_16 (by decide) (fun hc4 => ?_) (fun hc4 => ?_)
    · replace h := gif hc4 h
      refine g_aload_n dX8_lay_22 0 rfl rfl ?_
      refine g_iload_n dX8_lay_23 1 rfl rfl ?_
      refine g_iload_n dX8_lay_24 2 rfl rfl ?_
      refine g_iload_n dX8_lay_25 3 rfl rfl ?_
      obtain ⟨q5, hq5, h⟩ := gb h
      refine g_callVi [.int a0, .int a1, .int a2] [] dX8_lay_26 mk_X8_101 so_51 (ctX8_lacks hq5) rfl (by decide) rfl (Nat.le_of_ble_eq_true rfl) ?_
      obtain ⟨v6, ev6, h⟩ := gle h
      refine g_istore (lv' := [(5, .int v6), (0, .ref (X.1 + 51)), (1, .int a0), (2, .int a1), (3, .int a2), (4, .int a3)]) dX8_lay_29 ev6 (by decide) rfl ?_
      refine g_iload dX8_lay_31 0 rfl ?_
      refine g_if_eq (tgt := 39) dX8_lay_33 (by decide) (fun hc7 => ?_) (fun hc7 => ?_)
      · replace h := git hc7 h
        refine g_aload_n dX8_lay_39 1 rfl rfl ?_
        refine g_getr dX8_lay_40 lk_X8_16 sf_51_2 ?_
        refine g_bipush (v := 64) dX8_lay_43 (by decide) ?_
        refine g_iload_n dX8_lay_45 2 rfl rfl ?_
        refine g_imul dX8_lay_46 ?_
        refine g_iload_n dX8_lay_47 4 rfl rfl ?_
        refine g_iadd dX8_lay_48 ?_
        refine g_iload_n dX8_lay_49 3 rfl rfl ?_
        refine g_iload dX8_lay_50 5 rfl ?_
        obtain ⟨q8, hq8, h⟩ := gb h
        refine g_callSi [.int a1, .int a3] [.int (((64 : Int32) * a0) + a2), .ref (X.1 + 54)] dX8_lay_52 mk_X8_105 (ctX8_cut hq8) rfl (by decide) rfl (Nat.le_of_ble_eq_true rfl) ?_
        obtain ⟨hv9, h⟩ := gchk h
        obtain ⟨S10, eS10, h⟩ := gle h
        refine g_iast dX8_lay_55 sa_54 hv9 eS10 ?_
        refine g_iconst (v := 1) dX8_lay_56 (by decide) ?_
        obtain rfl := Option.some.inj h
        exact g_iret dX8_lay_57 rfl
      · replace h := gif hc7 h
        refine g_iload dX8_lay_36 0 rfl ?_
        obtain rfl := Option.some.inj h
        exact g_iret dX8_lay_38 rfl
    · replace h := git hc4 h
      refine g_bipush (v := -2) dX8_lay_19 (by decide) ?_
      obtain rfl := Option.some.inj h
      exact g_iret dX8_lay_21 rfl
theorem ctX8_lay {X : gX} {F : Nat} {R : Int32 × gS} {a0 : Int32} {a1 : Int32} {a2 : Int32} {a3 : Int32} {S : gS} (h : fX8_lay F a0 a1 a2 a3 S = some R) : g_C X yX8_lay cX8_lay 6 (some .int) 2 [.ref (X.1 + 51), .int a0, .int a1, .int a2, .int a3] S (some (.int R.1)) R.2 :=
  g_met (by decide) (Nat.le_of_ble_eq_true rfl) (fX8_lay_ok h)
noncomputable def fX8_get (F : Nat) (a0 : Int32) (a1 : Int32) (a2 : Int32) (S : gS) : Option (Int32 × gS) := (fX8_isSheet F a0 S).bind (fun q1 : Int32 × gS => if q1.1 = 0 then (some ((-2147483648 : Int32), q1.2)) else ((fX8_in F ((a1).toInt64) (0 : Int64) (2 : Int64) q1.2).bind (fun q3 : Int32 × gS => if q3.1 = 0 then (some ((-2147483648 : Int32), q3.2)) else ((fX8_lacks F a0 a1 a2 q3.2).bind (fun q5 : Int32 × gS => if q5.1 = 0 then (g_chk (((64 : Int32) * a0) + a2) 256 (some ((g_I q5.2 54 ((((64 : Int32) * a0) + a2)).toNatClampNeg), q5.2))) else (some ((-2147483648 : Int32), q5.2)))))))
set_option maxRecDepth 20000 in
theorem fX8_get_ok {X : gX} {F : Nat} {R : Int32 × gS} {a0 : Int32} {a1 : Int32} {a2 : Int32} {S : gS} (h : fX8_get F a0 a1 a2 S = some R) : G X RX8 cX8_get 4 (some .int) 2 (some (.int R.1)) R.2 0 [(0, .ref (X.1 + 51)), (1, .int a0), (2, .int a1), (3, .int a2)] [] S := by
  unfold fX8_get at h
  refine g_iload_n dX8_get_0 1 rfl rfl ?_
  obtain ⟨q1, hq1, h⟩ := gb h
  refine g_callSi [.int a0] [] dX8_get_1 mk_X8_91 (ctX8_isSheet hq1) rfl (by decide) rfl (Nat.le_of_ble_eq_true rfl) ?_
  refine g_if_eq (tgt := 29) dX8_get_4 (by decide) (fun hc2 => ?_) (fun hc2 => ?_)
  · replace h := git hc2 h
    refine g_ldc dX8_get_29 ck_X8_109 ?_
    obtain rfl := Option.some.inj h
    exact g_iret dX8_get_31 rfl
  · replace h := gif hc2 h
    refine g_iload_n dX8_get_7 2 rfl rfl ?_
    refine g_i2l dX8_get_8 ?_
    refine g_lconst (v := 0) dX8_get_9 (by decide) ?_
    refine g_ldc2 dX8_get_10 ck_X8_95 ?_
    obtain ⟨q3, hq3, h⟩ := gb h
    refine g_callSi [.long ((a1).toInt64), .long (0 : Int64), .long (2 : Int64)] [] dX8_get_13 mk_X8_80 (ctX8_in hq3) rfl (by decide) rfl (Nat.le_of_ble_eq_true rfl) ?_
    refine g_if_eq (tgt := 29) dX8_get_16 (by decide) (fun hc4 => ?_) (fun hc4 => ?_)
    · replace h := git hc4 h
      refine g_ldc dX8_get_29 ck_X8_109 ?_
      obtain rfl := Option.some.inj h
      exact g_iret dX8_get_31 rfl
    · replace h := gif hc4 h
      refine g_aload_n dX8_get_19 0 rfl rfl ?_
      refine g_iload_n dX8_get_20 1 rfl rfl ?_
      refine g_iload_n dX8_get_21 2 rfl rfl ?_
      refine g_iload_n dX8_get_22 3 rfl rfl ?_
      obtain ⟨q5, hq5, h⟩ := gb h
      refine g_callVi [.int a0, .int a1, .int a2] [] dX8_get_23 mk_X8_101 so_51 (ctX8_lacks hq5) rfl (by decide) rfl (Nat.le_of_ble_eq_true rfl) ?_
      refine g_if_eq (tgt := 32) dX8_get_26 (by decide) (fun hc6 => ?_) (fun hc6 => ?_)
      · replace h := git hc6 h
        refine g_aload_n dX8_get_32 0 rfl rfl ?_
        refine g_getr dX8_get_33 lk_X8_16 sf_51_2 ?_
        refine g_bipush (v := 64) dX8_get_36 (by decide) ?_
        refine g_iload_n dX8_get_38 1 rfl rfl ?_
        refine g_imul dX8_get_39 ?_
        refine g_iload_n dX8_get_40 3 rfl rfl ?_
        refine g_iadd dX8_get_41 ?_
        obtain ⟨hv7, h⟩ := gchk h
        refine g_iald dX8_get_42 sa_54 hv7 ?_
        obtain rfl := Option.some.inj h
        exact g_iret dX8_get_43 rfl
      · replace h := gif hc6 h
        refine g_ldc dX8_get_29 ck_X8_109 ?_
        obtain rfl := Option.some.inj h
        exact g_iret dX8_get_31 rfl
theorem ctX8_get {X : gX} {F : Nat} {R : Int32 × gS} {a0 : Int32} {a1 : Int32} {a2 : Int32} {S : gS} (h : fX8_get F a0 a1 a2 S = some R) : g_C X yX8_get cX8_get 4 (some .int) 2 [.ref (X.1 + 51), .int a0, .int a1, .int a2] S (some (.int R.1)) R.2 :=
  g_met (by decide) (Nat.le_of_ble_eq_true rfl) (fX8_get_ok h)
noncomputable def bX8_copy_157 (F : Nat) (k157 : (Int32 × Int32 × Int32 × Int32 × gS) → Option (Int32 × gS)) (x3 : Int32) (x4 : Int32) (x5 : Int32) (x6 : Int32) (S : gS) : Option (Int32 × gS) := if x5 ≤ x6 then (some ((1 : Int32), S)) else (g_chk x6 64 (g_chk ((((64 : Int32) * x3) + x4) + x6) 256 (gl (g_setI S 54 (((((64 : Int32) * x3) + x4) + x6)).toNatClampNeg (g_I S 55 (x6).toNatClampNeg)) (fun S4 : gS => gl (x6 + 1) (fun v5 : Int32 => k157 (x3, x4, x5, v5, S4))))))
set_option maxRecDepth 20000 in
theorem bX8_copy_157_ok {X : gX} {F : Nat} {k157 : (Int32 × Int32 × Int32 × Int32 × gS) → Option (Int32 × gS)} {R : Int32 × gS} (H157 : ∀ s : Int32 × Int32 × Int32 × Int32 × gS, k157 s = some R → G X RX8 cX8_copy 7 (some .int) 2 (some (.int R.1)) R.2 157 [(0, .ref (X.1 + 51)), (3, .int s.1), (4, .int s.2.1), (5, .int s.2.2.1), (6, .int s.2.2.2.1)] [] s.2.2.2.2) {x3 : Int32} {x4 : Int32} {x5 : Int32} {x6 : Int32} {S : gS} (h : bX8_copy_157 F k157 x3 x4 x5 x6 S = some R) : G X RX8 cX8_copy 7 (some .int) 2 (some (.int R.1)) R.2 157 [(0, .ref (X.1 + 51)), (3, .int x3), (4, .int x4), (5, .int x5), (6, .int x6)] [] S := by
  unfold bX8_copy_157 at h
  refine g_iload dX8_copy_157 4 rfl ?_
  refine g_iload dX8_copy_159 3 rfl ?_
  refine g_icmp_ge (tgt := 192) dX8_copy_161 (by decide) (fun hc1 => ?_) (fun hc1 => ?_)
  · replace h := git hc1 h
    refine g_iconst (v := 1) dX8_copy_192 (by decide) ?_
    obtain rfl := Option.some.inj h
    exact g_iret dX8_copy_193 rfl
  · replace h := gif hc1 h
    refine g_aload_n dX8_copy_164 0 rfl rfl ?_
    refine g_getr dX8_copy_165 lk_X8_16 sf_51_2 ?_
    refine g_bipush (v := 64) dX8_copy_168 (by decide) ?_
    refine g_iload_n dX8_copy_170 1 rfl rfl ?_
    refine g_imul dX8_copy_171 ?_
    refine g_iload dX8_copy_172 2 rfl ?_
    refine g_iadd dX8_copy_174 ?_
    refine g_iload dX8_copy_175 4 rfl ?_
    refine g_iadd dX8_copy_177 ?_
    refine g_aload_n dX8_copy_178 0 rfl rfl ?_
    refine g_getr dX8_copy_179 lk_X8_19 sf_51_3 ?_
    refine g_iload dX8_copy_182 4 rfl ?_
    obtain ⟨hv2, h⟩ := gchk h
    refine g_iald dX8_copy_184 sa_55 hv2 ?_
    obtain ⟨hv3, h⟩ := gchk h
    obtain ⟨S4, eS4, h⟩ := gle h
    refine g_iast dX8_copy_185 sa_54 hv3 eS4 ?_
    obtain ⟨v5, ev5, h⟩ := gle h
    refine g_iinc (q := 4) (v := v5) (lv' := [(6, .int v5), (0, .ref (X.1 + 51)), (3, .int x3), (4, .int x4), (5, .int x5)]) dX8_copy_186 rfl (by rw [← ev5]; rfl) (by decide) rfl ?_
    refine g_goto (tgt := 157) dX8_copy_189 (by decide) ?_
    refine g_sub [1, 2, 3, 4, 0] rfl ?_
    exact H157 (x3, x4, x5, v5, S4) h
noncomputable def bX8_copy_157l (F : Nat) : Nat → (Int32 × Int32 × Int32 × Int32 × gS) → Option (Int32 × gS) := g_fix (fun k157 s => bX8_copy_157 F k157 s.1 s.2.1 s.2.2.1 s.2.2.2.1 s.2.2.2.2)
theorem bX8_copy_157l_ok {X : gX} {F : Nat} {R : Int32 × gS} : ∀ (n : Nat) (s : Int32 × Int32 × Int32 × Int32 × gS), bX8_copy_157l F n s = some R → G X RX8 cX8_copy 7 (some .int) 2 (some (.int R.1)) R.2 157 [(0, .ref (X.1 + 51)), (3, .int s.1), (4, .int s.2.1), (5, .int s.2.2.1), (6, .int s.2.2.2.1)] [] s.2.2.2.2 := by
  intro n
  induction n with
  | zero => intro s h; cases h
  | succ n ih => intro s h; exact bX8_copy_157_ok (F := F) ih h
noncomputable def bX8_copy_120 (F : Nat) (k120 : (Int32 × Int32 × Int32 × Int32 × Int32 × Int32 × gS) → Option (Int32 × gS)) (x1 : Int32) (x2 : Int32) (x3 : Int32) (x4 : Int32) (x5 : Int32) (x6 : Int32) (S : gS) : Option (Int32 × gS) := if x5 ≤ x6 then (bX8_copy_157l F F (x3, x4, x5, (0 : Int32), S)) else (g_chk ((((64 : Int32) * x1) + x2) + x6) 256 (g_chk x6 64 (gl (g_setI S 55 (x6).toNatClampNeg (g_I S 54 (((((64 : Int32) * x1) + x2) + x6)).toNatClampNeg)) (fun S4 : gS => gl (x6 + 1) (fun v5 : Int32 => k120 (x1, x2, x3, x4, x5, v5, S4))))))
set_option maxRecDepth 20000 in
theorem bX8_copy_120_ok {X : gX} {F : Nat} {k120 : (Int32 × Int32 × Int32 × Int32 × Int32 × Int32 × gS) → Option (Int32 × gS)} {R : Int32 × gS} (H120 : ∀ s : Int32 × Int32 × Int32 × Int32 × Int32 × Int32 × gS, k120 s = some R → G X RX8 cX8_copy 7 (some .int) 2 (some (.int R.1)) R.2 120 [(0, .ref (X.1 + 51)), (1, .int s.1), (2, .int s.2.1), (3, .int s.2.2.1), (4, .int s.2.2.2.1), (5, .int s.2.2.2.2.1), (6, .int s.2.2.2.2.2.1)] [] s.2.2.2.2.2.2) {x1 : Int32} {x2 : Int32} {x3 : Int32} {x4 : Int32} {x5 : Int32} {x6 : Int32} {S : gS} (h : bX8_copy_120 F k120 x1 x2 x3 x4 x5 x6 S = some R) : G X RX8 cX8_copy 7 (some .int) 2 (some (.int R.1)) R.2 120 [(0, .ref (X.1 + 51)), (1, .int x1), (2, .int x2), (3, .int x3), (4, .int x4), (5, .int x5), (6, .int x6)] [] S := by
  unfold bX8_copy_120 at h
  refine g_iload dX8_copy_120 6 rfl ?_
  refine g_iload dX8_copy_122 5 rfl ?_
  refine g_icmp_ge (tgt := 154) dX8_copy_124 (by decide) (fun hc1 => ?_) (fun hc1 => ?_)
  · replace h := git hc1 h
    refine g_iconst (v := 0) dX8_copy_154 (by decide) ?_
    refine g_istore (lv' := [(6, .int (0 : Int32)), (0, .ref (X.1 + 51)), (1, .int x1), (2, .int x2), (3, .int x3), (4, .int x4), (5, .int x5)]) dX8_copy_155 rfl (by decide) rfl ?_
    refine g_sub [1, 4, 5, 6, 0] rfl ?_
    exact bX8_copy_157l_ok F (x3, x4, x5, (0 : Int32), S) h
  · replace h := gif hc1 h
    refine g_aload_n dX8_copy_127 0 rfl rfl ?_
    refine g_getr dX8_copy_128 lk_X8_19 sf_51_3 ?_
    refine g_iload dX8_copy_131 6 rfl ?_
    refine g_aload_n dX8_copy_133 0 rfl rfl ?_
    refine g_getr dX8_copy_134 lk_X8_16 sf_51_2 ?_
    refine g_bipush (v := 64) dX8_copy_137 (by decide) ?_
    refine g_iload_n dX8_copy_139 1 rfl rfl ?_
    refine g_imul dX8_copy_140 ?_
    refine g_iload_n dX8_copy_141 2 rfl rfl ?_
    refine g_iadd dX8_copy_142 ?_
    refine g_iload dX8_copy_143 6 rfl ?_
    refine g_iadd dX8_copy_145 ?_
    obtain ⟨hv2, h⟩ := gchk h
    refine g_iald dX8_copy_146 sa_54 hv2 ?_
    obtain ⟨hv3, h⟩ := gchk h
    obtain ⟨S4, eS4, h⟩ := gle h
    refine g_iast dX8_copy_147 sa_55 hv3 eS4 ?_
    obtain ⟨v5, ev5, h⟩ := gle h
    refine g_iinc (q := 6) (v := v5) (lv' := [(6, .int v5), (0, .ref (X.1 + 51)), (1, .int x1), (2, .int x2), (3, .int x3), (4, .int x4), (5, .int x5)]) dX8_copy_148 rfl (by rw [← ev5]; rfl) (by decide) rfl ?_
    refine g_goto (tgt := 120) dX8_copy_151 (by decide) ?_
    refine g_sub [1, 2, 3, 4, 5, 6, 0] rfl ?_
    exact H120 (x1, x2, x3, x4, x5, v5, S4) h
noncomputable def bX8_copy_120l (F : Nat) : Nat → (Int32 × Int32 × Int32 × Int32 × Int32 × Int32 × gS) → Option (Int32 × gS) := g_fix (fun k120 s => bX8_copy_120 F k120 s.1 s.2.1 s.2.2.1 s.2.2.2.1 s.2.2.2.2.1 s.2.2.2.2.2.1 s.2.2.2.2.2.2)
theorem bX8_copy_120l_ok {X : gX} {F : Nat} {R : Int32 × gS} : ∀ (n : Nat) (s : Int32 × Int32 × Int32 × Int32 × Int32 × Int32 × gS), bX8_copy_120l F n s = some R → G X RX8 cX8_copy 7 (some .int) 2 (some (.int R.1)) R.2 120 [(0, .ref (X.1 + 51)), (1, .int s.1), (2, .int s.2.1), (3, .int s.2.2.1), (4, .int s.2.2.2.1), (5, .int s.2.2.2.2.1), (6, .int s.2.2.2.2.2.1)] [] s.2.2.2.2.2.2 := by
  intro n
  induction n with
  | zero => intro s h; cases h
  | succ n ih => intro s h; exact bX8_copy_120_ok (F := F) ih h
noncomputable def bX8_copy_35 (F : Nat) (S : gS) : Option (Int32 × gS) := (fX8_met F (1 : Int32) S).bind (fun q1 : Int32 × gS => some (q1.1, q1.2))
set_option maxRecDepth 20000 in
theorem bX8_copy_35_ok {X : gX} {F : Nat} {R : Int32 × gS} {S : gS} (h : bX8_copy_35 F S = some R) : G X RX8 cX8_copy 7 (some .int) 2 (some (.int R.1)) R.2 35 [(0, .ref (X.1 + 51))] [] S := by
  unfold bX8_copy_35 at h
  refine g_aload_n dX8_copy_35 0 rfl rfl ?_
  refine g_iconst (v := 1) dX8_copy_36 (by decide) ?_
  obtain ⟨q1, hq1, h⟩ := gb h
  refine g_callVi [.int (1 : Int32)] [] dX8_copy_37 mk_X8_97 so_51 (ctX8_met hq1) rfl (by decide) rfl (Nat.le_of_ble_eq_true rfl) ?_
  obtain rfl := Option.some.inj h
  exact g_iret dX8_copy_40 rfl
noncomputable def bX8_copy_111 (F : Nat) (S : gS) : Option (Int32 × gS) := (fX8_met F (2 : Int32) S).bind (fun q1 : Int32 × gS => some (q1.1, q1.2))
set_option maxRecDepth 20000 in
theorem bX8_copy_111_ok {X : gX} {F : Nat} {R : Int32 × gS} {S : gS} (h : bX8_copy_111 F S = some R) : G X RX8 cX8_copy 7 (some .int) 2 (some (.int R.1)) R.2 111 [(0, .ref (X.1 + 51))] [] S := by
  unfold bX8_copy_111 at h
  refine g_aload_n dX8_copy_111 0 rfl rfl ?_
  refine g_iconst (v := 2) dX8_copy_112 (by decide) ?_
  obtain ⟨q1, hq1, h⟩ := gb h
  refine g_callVi [.int (2 : Int32)] [] dX8_copy_113 mk_X8_97 so_51 (ctX8_met hq1) rfl (by decide) rfl (Nat.le_of_ble_eq_true rfl) ?_
  obtain rfl := Option.some.inj h
  exact g_iret dX8_copy_116 rfl
noncomputable def fX8_copy (F : Nat) (a0 : Int32) (a1 : Int32) (a2 : Int32) (a3 : Int32) (a4 : Int32) (S : gS) : Option (Int32 × gS) := (fX8_isSheet F a0 S).bind (fun q1 : Int32 × gS => if q1.1 = 0 then (some ((-2 : Int32), q1.2)) else ((fX8_isSheet F a2 q1.2).bind (fun q3 : Int32 × gS => if q3.1 = 0 then (some ((-2 : Int32), q3.2)) else (g_chk a0 4 (if (g_I q3.2 52 (a0).toNatClampNeg) < 0 then (bX8_copy_35 F q3.2) else (g_chk a2 4 (if 0 ≤ (g_I q3.2 52 (a2).toNatClampNeg) then (g_chk a0 4 (g_chk a2 4 (if (g_I q3.2 52 (a0).toNatClampNeg) = (g_I q3.2 52 (a2).toNatClampNeg) then (if a1 < 0 then (bX8_copy_111 F q3.2) else (if a3 < 0 then (bX8_copy_111 F q3.2) else (if a4 < 0 then (bX8_copy_111 F q3.2) else (g_chk a0 4 (if 0 < (lg_cmp ((a1).toInt64 + (a4).toInt64) (((g_I q3.2 53 (a0).toNatClampNeg)).toInt64)) then (bX8_copy_111 F q3.2) else (g_chk a2 4 (if (lg_cmp ((a3).toInt64 + (a4).toInt64) (((g_I q3.2 53 (a2).toNatClampNeg)).toInt64)) ≤ 0 then (bX8_copy_120l F F (a0, a1, a2, a3, a4, (0 : Int32), q3.2)) else (bX8_copy_111 F q3.2)))))))) else ((fX8_met F (4 : Int32) q3.2).bind (fun q19 : Int32 × gS => some (q19.1, q19.2)))))) else (bX8_copy_35 F q3.2))))))))
set_option maxRecDepth 20000 in
theorem fX8_copy_ok {X : gX} {F : Nat} {R : Int32 × gS} {a0 : Int32} {a1 : Int32} {a2 : Int32} {a3 : Int32} {a4 : Int32} {S : gS} (h : fX8_copy F a0 a1 a2 a3 a4 S = some R) : G X RX8 cX8_copy 7 (some .int) 2 (some (.int R.1)) R.2 0 [(0, .ref (X.1 + 51)), (1, .int a0), (2, .int a1), (3, .int a2), (4, .int a3), (5, .int a4)] [] S := by
  unfold fX8_copy at h
  refine g_iload_n dX8_copy_0 1 rfl rfl ?_
  obtain ⟨q1, hq1, h⟩ := gb h
  refine g_callSi [.int a0] [] dX8_copy_1 mk_X8_91 (ctX8_isSheet hq1) rfl (by decide) rfl (Nat.le_of_ble_eq_true rfl) ?_
  refine g_if_eq (tgt := 14) dX8_copy_4 (by decide) (fun hc2 => ?_) (fun hc2 => ?_)
  · replace h := git hc2 h
    refine g_bipush (v := -2) dX8_copy_14 (by decide) ?_
    obtain rfl := Option.some.inj h
    exact g_iret dX8_copy_16 rfl
  · replace h := gif hc2 h
    refine g_iload_n dX8_copy_7 3 rfl rfl ?_
    obtain ⟨q3, hq3, h⟩ := gb h
    refine g_callSi [.int a2] [] dX8_copy_8 mk_X8_91 (ctX8_isSheet hq3) rfl (by decide) rfl (Nat.le_of_ble_eq_true rfl) ?_
    refine g_if_ne (tgt := 17) dX8_copy_11 (by decide) (fun hc4 => ?_) (fun hc4 => ?_)
    · replace h := gif hc4 h
      refine g_aload_n dX8_copy_17 0 rfl rfl ?_
      refine g_getr dX8_copy_18 lk_X8_7 sf_51_0 ?_
      refine g_iload_n dX8_copy_21 1 rfl rfl ?_
      obtain ⟨hv5, h⟩ := gchk h
      refine g_iald dX8_copy_22 sa_52 hv5 ?_
      refine g_if_lt (tgt := 35) dX8_copy_23 (by decide) (fun hc6 => ?_) (fun hc6 => ?_)
      · replace h := git hc6 h
        refine g_sub [0] rfl ?_
        exact bX8_copy_35_ok h
      · replace h := gif hc6 h
        refine g_aload_n dX8_copy_26 0 rfl rfl ?_
        refine g_getr dX8_copy_27 lk_X8_7 sf_51_0 ?_
        refine g_iload_n dX8_copy_30 3 rfl rfl ?_
        obtain ⟨hv7, h⟩ := gchk h
        refine g_iald dX8_copy_31 sa_52 hv7 ?_
        refine g_if_ge (tgt := 41) dX8_copy_32 (by decide) (fun hc8 => ?_) (fun hc8 => ?_)
        · replace h := git hc8 h
          refine g_aload_n dX8_copy_41 0 rfl rfl ?_
          refine g_getr dX8_copy_42 lk_X8_7 sf_51_0 ?_
          refine g_iload_n dX8_copy_45 1 rfl rfl ?_
          obtain ⟨hv9, h⟩ := gchk h
          refine g_iald dX8_copy_46 sa_52 hv9 ?_
          refine g_aload_n dX8_copy_47 0 rfl rfl ?_
          refine g_getr dX8_copy_48 lk_X8_7 sf_51_0 ?_
          refine g_iload_n dX8_copy_51 3 rfl rfl ?_
          obtain ⟨hv10, h⟩ := gchk h
          refine g_iald dX8_copy_52 sa_52 hv10 ?_
          refine g_icmp_eq (tgt := 62) dX8_copy_53 (by decide) (fun hc11 => ?_) (fun hc11 => ?_)
          · replace h := git hc11 h
            refine g_iload_n dX8_copy_62 2 rfl rfl ?_
            refine g_if_lt (tgt := 111) dX8_copy_63 (by decide) (fun hc12 => ?_) (fun hc12 => ?_)
            · replace h := git hc12 h
              refine g_sub [0] rfl ?_
              exact bX8_copy_111_ok h
            · replace h := gif hc12 h
              refine g_iload dX8_copy_66 4 rfl ?_
              refine g_if_lt (tgt := 111) dX8_copy_68 (by decide) (fun hc13 => ?_) (fun hc13 => ?_)
              · replace h := git hc13 h
                refine g_sub [0] rfl ?_
                exact bX8_copy_111_ok h
              · replace h := gif hc13 h
                refine g_iload dX8_copy_71 5 rfl ?_
                refine g_if_lt (tgt := 111) dX8_copy_73 (by decide) (fun hc14 => ?_) (fun hc14 => ?_)
                · replace h := git hc14 h
                  refine g_sub [0] rfl ?_
                  exact bX8_copy_111_ok h
                · replace h := gif hc14 h
                  refine g_iload_n dX8_copy_76 2 rfl rfl ?_
                  refine g_i2l dX8_copy_77 ?_
                  refine g_iload dX8_copy_78 5 rfl ?_
                  refine g_i2l dX8_copy_80 ?_
                  refine g_ladd dX8_copy_81 ?_
                  refine g_aload_n dX8_copy_82 0 rfl rfl ?_
                  refine g_getr dX8_copy_83 lk_X8_13 sf_51_1 ?_
                  refine g_iload_n dX8_copy_86 1 rfl rfl ?_
                  obtain ⟨hv15, h⟩ := gchk h
                  refine g_iald dX8_copy_87 sa_53 hv15 ?_
                  refine g_i2l dX8_copy_88 ?_
                  refine g_lcmp dX8_copy_89 ?_
                  refine g_if_gt (tgt := 111) dX8_copy_90 (by decide) (fun hc16 => ?_) (fun hc16 => ?_)
                  · replace h := git hc16 h
                    refine g_sub [0] rfl ?_
                    exact bX8_copy_111_ok h
                  · replace h := gif hc16 h
                    refine g_iload dX8_copy_93 4 rfl ?_
                    refine g_i2l dX8_copy_95 ?_
                    refine g_iload dX8_copy_96 5 rfl ?_
                    refine g_i2l dX8_copy_98 ?_
                    refine g_ladd dX8_copy_99 ?_
                    refine g_aload_n dX8_copy_100 0 rfl rfl ?_
                    refine g_getr dX8_copy_101 lk_X8_13 sf_51_1 ?_
                    refine g_iload_n dX8_copy_104 3 rfl rfl ?_
                    obtain ⟨hv17, h⟩ := gchk h
                    refine g_iald dX8_copy_105 sa_53 hv17 ?_
                    refine g_i2l dX8_copy_106 ?_
                    refine g_lcmp dX8_copy_107 ?_
                    refine g_if_le (tgt := 117) dX8_copy_108 (by decide) (fun hc18 => ?_) (fun hc18 => ?_)
                    · replace h := git hc18 h
                      refine g_iconst (v := 0) dX8_copy_117 (by decide) ?_
                      refine g_istore (lv' := [(6, .int (0 : Int32)), (0, .ref (X.1 + 51)), (1, .int a0), (2, .int a1), (3, .int a2), (4, .int a3), (5, .int a4)]) dX8_copy_118 rfl (by decide) rfl ?_
                      refine g_sub [1, 2, 3, 4, 5, 6, 0] rfl ?_
                      exact bX8_copy_120l_ok F (a0, a1, a2, a3, a4, (0 : Int32), q3.2) h
                    · replace h := gif hc18 h
                      refine g_sub [0] rfl ?_
                      exact bX8_copy_111_ok h
          · replace h := gif hc11 h
            refine g_aload_n dX8_copy_56 0 rfl rfl ?_
            refine g_iconst (v := 4) dX8_copy_57 (by decide) ?_
            obtain ⟨q19, hq19, h⟩ := gb h
            refine g_callVi [.int (4 : Int32)] [] dX8_copy_58 mk_X8_97 so_51 (ctX8_met hq19) rfl (by decide) rfl (Nat.le_of_ble_eq_true rfl) ?_
            obtain rfl := Option.some.inj h
            exact g_iret dX8_copy_61 rfl
        · replace h := gif hc8 h
          refine g_sub [0] rfl ?_
          exact bX8_copy_35_ok h
    · replace h := git hc4 h
      refine g_bipush (v := -2) dX8_copy_14 (by decide) ?_
      obtain rfl := Option.some.inj h
      exact g_iret dX8_copy_16 rfl
theorem ctX8_copy {X : gX} {F : Nat} {R : Int32 × gS} {a0 : Int32} {a1 : Int32} {a2 : Int32} {a3 : Int32} {a4 : Int32} {S : gS} (h : fX8_copy F a0 a1 a2 a3 a4 S = some R) : g_C X yX8_copy cX8_copy 7 (some .int) 2 [.ref (X.1 + 51), .int a0, .int a1, .int a2, .int a3, .int a4] S (some (.int R.1)) R.2 :=
  g_met (by decide) (Nat.le_of_ble_eq_true rfl) (fX8_copy_ok h)
noncomputable def fX8_type (F : Nat) (a0 : Int32) (S : gS) : Option (Int32 × gS) := (fX8_in F ((a0).toInt64) (0 : Int64) (255 : Int64) S).bind (fun q1 : Int32 × gS => if q1.1 = 0 then (some ((-2 : Int32), q1.2)) else (if (g_I q1.2 51 6) = (75 : Int32) then (some ((-4 : Int32), q1.2)) else (g_chk (g_I q1.2 51 6) 75 (gl (g_setI q1.2 56 ((g_I q1.2 51 6)).toNatClampNeg a0) (fun S5 : gS => gl (g_setI S5 51 6 ((g_I S5 51 6) + (1 : Int32))) (fun S6 : gS => some ((g_I S6 51 6), S6)))))))
set_option maxRecDepth 20000 in
theorem fX8_type_ok {X : gX} {F : Nat} {R : Int32 × gS} {a0 : Int32} {S : gS} (h : fX8_type F a0 S = some R) : G X RX8 cX8_type 2 (some .int) 1 (some (.int R.1)) R.2 0 [(0, .ref (X.1 + 51)), (1, .int a0)] [] S := by
  unfold fX8_type at h
  refine g_iload_n dX8_type_0 1 rfl rfl ?_
  refine g_i2l dX8_type_1 ?_
  refine g_lconst (v := 0) dX8_type_2 (by decide) ?_
  refine g_ldc2 dX8_type_3 ck_X8_110 ?_
  obtain ⟨q1, hq1, h⟩ := gb h
  refine g_callSi [.long ((a0).toInt64), .long (0 : Int64), .long (255 : Int64)] [] dX8_type_6 mk_X8_80 (ctX8_in hq1) rfl (by decide) rfl (Nat.le_of_ble_eq_true rfl) ?_
  refine g_if_ne (tgt := 15) dX8_type_9 (by decide) (fun hc2 => ?_) (fun hc2 => ?_)
  · replace h := gif hc2 h
    refine g_aload_n dX8_type_15 0 rfl rfl ?_
    refine g_geti dX8_type_16 lk_X8_112 sf_51_6 ?_
    refine g_bipush (v := 75) dX8_type_19 (by decide) ?_
    refine g_icmp_ne (tgt := 27) dX8_type_21 (by decide) (fun hc3 => ?_) (fun hc3 => ?_)
    · replace h := gif hc3 h
      refine g_aload_n dX8_type_27 0 rfl rfl ?_
      refine g_getr dX8_type_28 lk_X8_22 sf_51_5 ?_
      refine g_aload_n dX8_type_31 0 rfl rfl ?_
      refine g_geti dX8_type_32 lk_X8_112 sf_51_6 ?_
      refine g_iload_n dX8_type_35 1 rfl rfl ?_
      obtain ⟨hv4, h⟩ := gchk h
      obtain ⟨S5, eS5, h⟩ := gle h
      refine g_iast dX8_type_36 sa_56 hv4 eS5 ?_
      refine g_aload_n dX8_type_37 0 rfl rfl ?_
      refine g_dup dX8_type_38 rfl ?_
      refine g_geti dX8_type_39 lk_X8_112 sf_51_6 ?_
      refine g_iconst (v := 1) dX8_type_42 (by decide) ?_
      refine g_iadd dX8_type_43 ?_
      obtain ⟨S6, eS6, h⟩ := gle h
      refine g_puti dX8_type_44 lp_X8_112 sf_51_6 eS6 ?_
      refine g_aload_n dX8_type_47 0 rfl rfl ?_
      refine g_geti dX8_type_48 lk_X8_112 sf_51_6 ?_
      obtain rfl := Option.some.inj h
      exact g_iret dX8_type_51 rfl
    · replace h := git hc3 h
      refine g_bipush (v := -4) dX8_type_24 (by decide) ?_
      obtain rfl := Option.some.inj h
      exact g_iret dX8_type_26 rfl
  · replace h := git hc2 h
    refine g_bipush (v := -2) dX8_type_12 (by decide) ?_
    obtain rfl := Option.some.inj h
    exact g_iret dX8_type_14 rfl
theorem ctX8_type {X : gX} {F : Nat} {R : Int32 × gS} {a0 : Int32} {S : gS} (h : fX8_type F a0 S = some R) : g_C X yX8_type cX8_type 2 (some .int) 1 [.ref (X.1 + 51), .int a0] S (some (.int R.1)) R.2 :=
  g_met (by decide) (Nat.le_of_ble_eq_true rfl) (fX8_type_ok h)
noncomputable def fX8_wipe (F : Nat) (S : gS) : Option (Int32 × gS) := gl (g_I S 51 6) (fun v1 : Int32 => gl (g_setI S 51 6 (0 : Int32)) (fun S2 : gS => some (v1, S2)))
set_option maxRecDepth 20000 in
theorem fX8_wipe_ok {X : gX} {F : Nat} {R : Int32 × gS} {S : gS} (h : fX8_wipe F S = some R) : G X RX8 cX8_wipe 2 (some .int) 0 (some (.int R.1)) R.2 0 [(0, .ref (X.1 + 51))] [] S := by
  unfold fX8_wipe at h
  refine g_aload_n dX8_wipe_0 0 rfl rfl ?_
  refine g_geti dX8_wipe_1 lk_X8_112 sf_51_6 ?_
  obtain ⟨v1, ev1, h⟩ := gle h
  refine g_istore_n (lv' := [(1, .int v1), (0, .ref (X.1 + 51))]) dX8_wipe_4 ev1 rfl (by decide) rfl ?_
  refine g_aload_n dX8_wipe_5 1 rfl rfl ?_
  refine g_iconst (v := 0) dX8_wipe_6 (by decide) ?_
  obtain ⟨S2, eS2, h⟩ := gle h
  refine g_puti dX8_wipe_7 lp_X8_112 sf_51_6 eS2 ?_
  refine g_iload_n dX8_wipe_10 0 rfl rfl ?_
  obtain rfl := Option.some.inj h
  exact g_iret dX8_wipe_11 rfl
theorem ctX8_wipe {X : gX} {F : Nat} {R : Int32 × gS} {S : gS} (h : fX8_wipe F S = some R) : g_C X yX8_wipe cX8_wipe 2 (some .int) 0 [.ref (X.1 + 51)] S (some (.int R.1)) R.2 :=
  g_met (by decide) (Nat.le_of_ble_eq_true rfl) (fX8_wipe_ok h)
noncomputable def fX8_kindOf (F : Nat) (a0 : Int32) (S : gS) : Option (Int32 × gS) := if a0 = (46 : Int32) then (some ((0 : Int32), S)) else (if a0 = (35 : Int32) then (some ((1 : Int32), S)) else (if a0 = (111 : Int32) then (some ((2 : Int32), S)) else (some ((-1 : Int32), S))))
set_option maxRecDepth 20000 in
theorem fX8_kindOf_ok {X : gX} {F : Nat} {R : Int32 × gS} {a0 : Int32} {S : gS} (h : fX8_kindOf F a0 S = some R) : G X RX8 cX8_kindOf 1 (some .int) 0 (some (.int R.1)) R.2 0 [(0, .int a0)] [] S := by
  unfold fX8_kindOf at h
  refine g_iload_n dX8_kindOf_0 0 rfl rfl ?_
  refine g_bipush (v := 46) dX8_kindOf_1 (by decide) ?_
  refine g_icmp_ne (tgt := 10) dX8_kindOf_3 (by decide) (fun hc1 => ?_) (fun hc1 => ?_)
  · replace h := gif hc1 h
    refine g_iload_n dX8_kindOf_10 0 rfl rfl ?_
    refine g_bipush (v := 35) dX8_kindOf_11 (by decide) ?_
    refine g_icmp_ne (tgt := 20) dX8_kindOf_13 (by decide) (fun hc2 => ?_) (fun hc2 => ?_)
    · replace h := gif hc2 h
      refine g_iload_n dX8_kindOf_20 0 rfl rfl ?_
      refine g_bipush (v := 111) dX8_kindOf_21 (by decide) ?_
      refine g_icmp_ne (tgt := 30) dX8_kindOf_23 (by decide) (fun hc3 => ?_) (fun hc3 => ?_)
      · replace h := gif hc3 h
        refine g_iconst (v := -1) dX8_kindOf_30 (by decide) ?_
        obtain rfl := Option.some.inj h
        exact g_iret dX8_kindOf_31 rfl
      · replace h := git hc3 h
        refine g_iconst (v := 2) dX8_kindOf_26 (by decide) ?_
        refine g_goto (tgt := 31) dX8_kindOf_27 (by decide) ?_
        obtain rfl := Option.some.inj h
        exact g_iret dX8_kindOf_31 rfl
    · replace h := git hc2 h
      refine g_iconst (v := 1) dX8_kindOf_16 (by decide) ?_
      refine g_goto (tgt := 31) dX8_kindOf_17 (by decide) ?_
      obtain rfl := Option.some.inj h
      exact g_iret dX8_kindOf_31 rfl
  · replace h := git hc1 h
    refine g_iconst (v := 0) dX8_kindOf_6 (by decide) ?_
    refine g_goto (tgt := 31) dX8_kindOf_7 (by decide) ?_
    obtain rfl := Option.some.inj h
    exact g_iret dX8_kindOf_31 rfl
theorem ctX8_kindOf {X : gX} {F : Nat} {R : Int32 × gS} {a0 : Int32} {S : gS} (h : fX8_kindOf F a0 S = some R) : g_C X yX8_kindOf cX8_kindOf 1 (some .int) 0 [.int a0] S (some (.int R.1)) R.2 :=
  g_met (by decide) (Nat.le_of_ble_eq_true rfl) (fX8_kindOf_ok h)
noncomputable def bX8_faultNow_54 (F : Nat) (k2 : (Int32 × gS) → Option (Int32 × gS)) (x1 : Int32) (S : gS) : Option (Int32 × gS) := gl (x1 + 1) (fun v1 : Int32 => k2 (v1, S))
set_option maxRecDepth 20000 in
theorem bX8_faultNow_54_ok {X : gX} {F : Nat} {k2 : (Int32 × gS) → Option (Int32 × gS)} {R : Int32 × gS} (H2 : ∀ s : Int32 × gS, k2 s = some R → G X RX8 cX8_faultNow 2 (some .int) 1 (some (.int R.1)) R.2 2 [(0, .ref (X.1 + 51)), (1, .int s.1)] [] s.2) {x1 : Int32} {S : gS} (h : bX8_faultNow_54 F k2 x1 S = some R) : G X RX8 cX8_faultNow 2 (some .int) 1 (some (.int R.1)) R.2 54 [(0, .ref (X.1 + 51)), (1, .int x1)] [] S := by
  unfold bX8_faultNow_54 at h
  obtain ⟨v1, ev1, h⟩ := gle h
  refine g_iinc (q := 1) (v := v1) (lv' := [(1, .int v1), (0, .ref (X.1 + 51))]) dX8_faultNow_54 rfl (by rw [← ev1]; rfl) (by decide) rfl ?_
  refine g_goto (tgt := 2) dX8_faultNow_57 (by decide) ?_
  refine g_sub [1, 0] rfl ?_
  exact H2 (v1, S) h
noncomputable def bX8_faultNow_2 (F : Nat) (k2 : (Int32 × gS) → Option (Int32 × gS)) (x1 : Int32) (S : gS) : Option (Int32 × gS) := if (71 : Int32) ≤ x1 then (if (g_I S 51 6) ≤ (71 : Int32) then (some ((-1 : Int32), S)) else (some ((71 : Int32), S))) else (if (g_I S 51 6) ≤ x1 then (some (x1, S)) else (g_nz (9 : Int32) (if (x1 - x1 / (9 : Int32) * (9 : Int32)) = (8 : Int32) then (g_chk x1 75 (if (g_I S 56 (x1).toNatClampNeg) = (59 : Int32) then (bX8_faultNow_54 F k2 x1 S) else (some (x1, S)))) else (g_chk x1 75 ((fX8_kindOf F (g_I S 56 (x1).toNatClampNeg) S).bind (fun q7 : Int32 × gS => if q7.1 = (-1 : Int32) then (some (x1, q7.2)) else (bX8_faultNow_54 F k2 x1 q7.2)))))))
set_option maxRecDepth 20000 in
theorem bX8_faultNow_2_ok {X : gX} {F : Nat} {k2 : (Int32 × gS) → Option (Int32 × gS)} {R : Int32 × gS} (H2 : ∀ s : Int32 × gS, k2 s = some R → G X RX8 cX8_faultNow 2 (some .int) 1 (some (.int R.1)) R.2 2 [(0, .ref (X.1 + 51)), (1, .int s.1)] [] s.2) {x1 : Int32} {S : gS} (h : bX8_faultNow_2 F k2 x1 S = some R) : G X RX8 cX8_faultNow 2 (some .int) 1 (some (.int R.1)) R.2 2 [(0, .ref (X.1 + 51)), (1, .int x1)] [] S := by
  unfold bX8_faultNow_2 at h
  refine g_iload_n dX8_faultNow_2 1 rfl rfl ?_
  refine g_bipush (v := 71) dX8_faultNow_3 (by decide) ?_
  refine g_icmp_ge (tgt := 60) dX8_faultNow_5 (by decide) (fun hc1 => ?_) (fun hc1 => ?_)
  · replace h := git hc1 h
    refine g_aload_n dX8_faultNow_60 0 rfl rfl ?_
    refine g_geti dX8_faultNow_61 lk_X8_112 sf_51_6 ?_
    refine g_bipush (v := 71) dX8_faultNow_64 (by decide) ?_
    refine g_icmp_le (tgt := 74) dX8_faultNow_66 (by decide) (fun hc2 => ?_) (fun hc2 => ?_)
    · replace h := git hc2 h
      refine g_iconst (v := -1) dX8_faultNow_74 (by decide) ?_
      obtain rfl := Option.some.inj h
      exact g_iret dX8_faultNow_75 rfl
    · replace h := gif hc2 h
      refine g_bipush (v := 71) dX8_faultNow_69 (by decide) ?_
      refine g_goto (tgt := 75) dX8_faultNow_71 (by decide) ?_
      obtain rfl := Option.some.inj h
      exact g_iret dX8_faultNow_75 rfl
  · replace h := gif hc1 h
    refine g_iload_n dX8_faultNow_8 1 rfl rfl ?_
    refine g_aload_n dX8_faultNow_9 0 rfl rfl ?_
    refine g_geti dX8_faultNow_10 lk_X8_112 sf_51_6 ?_
    refine g_icmp_ge (tgt := 52) dX8_faultNow_13 (by decide) (fun hc3 => ?_) (fun hc3 => ?_)
    · replace h := git hc3 h
      refine g_iload_n dX8_faultNow_52 1 rfl rfl ?_
      obtain rfl := Option.some.inj h
      exact g_iret dX8_faultNow_53 rfl
    · replace h := gif hc3 h
      refine g_iload_n dX8_faultNow_16 1 rfl rfl ?_
      refine g_bipush (v := 9) dX8_faultNow_17 (by decide) ?_
      obtain ⟨hz4, h⟩ := gnz h
      refine g_irem dX8_faultNow_19 hz4 ?_
      refine g_bipush (v := 8) dX8_faultNow_20 (by decide) ?_
      refine g_icmp_ne (tgt := 39) dX8_faultNow_22 (by decide) (fun hc5 => ?_) (fun hc5 => ?_)
      · replace h := gif hc5 h
        refine g_aload_n dX8_faultNow_39 0 rfl rfl ?_
        refine g_getr dX8_faultNow_40 lk_X8_22 sf_51_5 ?_
        refine g_iload_n dX8_faultNow_43 1 rfl rfl ?_
        obtain ⟨hv6, h⟩ := gchk h
        refine g_iald dX8_faultNow_44 sa_56 hv6 ?_
        obtain ⟨q7, hq7, h⟩ := gb h
        refine g_callSi [.int (g_I S 56 (x1).toNatClampNeg)] [] dX8_faultNow_45 mk_X8_115 (ctX8_kindOf hq7) rfl (by decide) rfl (Nat.le_of_ble_eq_true rfl) ?_
        refine g_iconst (v := -1) dX8_faultNow_48 (by decide) ?_
        refine g_icmp_ne (tgt := 54) dX8_faultNow_49 (by decide) (fun hc8 => ?_) (fun hc8 => ?_)
        · replace h := gif hc8 h
          exact bX8_faultNow_54_ok H2 h
        · replace h := git hc8 h
          refine g_iload_n dX8_faultNow_52 1 rfl rfl ?_
          obtain rfl := Option.some.inj h
          exact g_iret dX8_faultNow_53 rfl
      · replace h := git hc5 h
        refine g_aload_n dX8_faultNow_25 0 rfl rfl ?_
        refine g_getr dX8_faultNow_26 lk_X8_22 sf_51_5 ?_
        refine g_iload_n dX8_faultNow_29 1 rfl rfl ?_
        obtain ⟨hv9, h⟩ := gchk h
        refine g_iald dX8_faultNow_30 sa_56 hv9 ?_
        refine g_bipush (v := 59) dX8_faultNow_31 (by decide) ?_
        refine g_icmp_eq (tgt := 54) dX8_faultNow_33 (by decide) (fun hc10 => ?_) (fun hc10 => ?_)
        · replace h := git hc10 h
          exact bX8_faultNow_54_ok H2 h
        · replace h := gif hc10 h
          refine g_goto (tgt := 52) dX8_faultNow_36 (by decide) ?_
          refine g_iload_n dX8_faultNow_52 1 rfl rfl ?_
          obtain rfl := Option.some.inj h
          exact g_iret dX8_faultNow_53 rfl
noncomputable def bX8_faultNow_2l (F : Nat) : Nat → (Int32 × gS) → Option (Int32 × gS) := g_fix (fun k2 s => bX8_faultNow_2 F k2 s.1 s.2)
theorem bX8_faultNow_2l_ok {X : gX} {F : Nat} {R : Int32 × gS} : ∀ (n : Nat) (s : Int32 × gS), bX8_faultNow_2l F n s = some R → G X RX8 cX8_faultNow 2 (some .int) 1 (some (.int R.1)) R.2 2 [(0, .ref (X.1 + 51)), (1, .int s.1)] [] s.2 := by
  intro n
  induction n with
  | zero => intro s h; cases h
  | succ n ih => intro s h; exact bX8_faultNow_2_ok (F := F) ih h
noncomputable def fX8_faultNow (F : Nat) (S : gS) : Option (Int32 × gS) := bX8_faultNow_2l F F ((0 : Int32), S)
set_option maxRecDepth 20000 in
theorem fX8_faultNow_ok {X : gX} {F : Nat} {R : Int32 × gS} {S : gS} (h : fX8_faultNow F S = some R) : G X RX8 cX8_faultNow 2 (some .int) 1 (some (.int R.1)) R.2 0 [(0, .ref (X.1 + 51))] [] S := by
  unfold fX8_faultNow at h
  refine g_iconst (v := 0) dX8_faultNow_0 (by decide) ?_
  refine g_istore_n (lv' := [(1, .int (0 : Int32)), (0, .ref (X.1 + 51))]) dX8_faultNow_1 rfl rfl (by decide) rfl ?_
  refine g_sub [1, 0] rfl ?_
  exact bX8_faultNow_2l_ok F ((0 : Int32), S) h
theorem ctX8_faultNow {X : gX} {F : Nat} {R : Int32 × gS} {S : gS} (h : fX8_faultNow F S = some R) : g_C X yX8_faultNow cX8_faultNow 2 (some .int) 1 [.ref (X.1 + 51)] S (some (.int R.1)) R.2 :=
  g_met (by decide) (Nat.le_of_ble_eq_true rfl) (fX8_faultNow_ok h)
noncomputable def bX8_reads_47 (F : Nat) (k7 : (Int32 × Int32 × gS) → Option (Int32 × gS)) (x1 : Int32) (x2 : Int32) (t0 : Int32) (t1 : Int32) (S : gS) : Option (Int32 × gS) := g_chk t1 64 (gl (g_setI S 57 (t1).toNatClampNeg t0) (fun S2 : gS => gl (x2 + 1) (fun v3 : Int32 => k7 (x1, v3, S2))))
set_option maxRecDepth 20000 in
theorem bX8_reads_47_ok {X : gX} {F : Nat} {k7 : (Int32 × Int32 × gS) → Option (Int32 × gS)} {R : Int32 × gS} (H7 : ∀ s : Int32 × Int32 × gS, k7 s = some R → G X RX8 cX8_reads 3 (some .int) 2 (some (.int R.1)) R.2 7 [(0, .ref (X.1 + 51)), (1, .int s.1), (2, .int s.2.1)] [] s.2.2) {x1 : Int32} {x2 : Int32} {t0 : Int32} {t1 : Int32} {S : gS} (h : bX8_reads_47 F k7 x1 x2 t0 t1 S = some R) : G X RX8 cX8_reads 3 (some .int) 2 (some (.int R.1)) R.2 47 [(0, .ref (X.1 + 51)), (1, .int x1), (2, .int x2)] [.int t0, .int t1, .ref (X.1 + 57)] S := by
  unfold bX8_reads_47 at h
  obtain ⟨hv1, h⟩ := gchk h
  obtain ⟨S2, eS2, h⟩ := gle h
  refine g_iast dX8_reads_47 sa_57 hv1 eS2 ?_
  obtain ⟨v3, ev3, h⟩ := gle h
  refine g_iinc (q := 2) (v := v3) (lv' := [(2, .int v3), (0, .ref (X.1 + 51)), (1, .int x1)]) dX8_reads_48 rfl (by rw [← ev3]; rfl) (by decide) rfl ?_
  refine g_goto (tgt := 7) dX8_reads_51 (by decide) ?_
  refine g_sub [1, 2, 0] rfl ?_
  exact H7 (x1, v3, S2) h
noncomputable def bX8_reads_7 (F : Nat) (k7 : (Int32 × Int32 × gS) → Option (Int32 × gS)) (x1 : Int32) (x2 : Int32) (S : gS) : Option (Int32 × gS) := if (64 : Int32) ≤ x2 then (some (x1, S)) else (if x1 = (-1 : Int32) then (g_nz (8 : Int32) (g_nz (8 : Int32) (g_chk (((9 : Int32) * (x2 / (8 : Int32))) + (x2 - x2 / (8 : Int32) * (8 : Int32))) 75 ((fX8_kindOf F (g_I S 56 ((((9 : Int32) * (x2 / (8 : Int32))) + (x2 - x2 / (8 : Int32) * (8 : Int32)))).toNatClampNeg) S).bind (fun q6 : Int32 × gS => bX8_reads_47 F k7 x1 x2 q6.1 x2 q6.2))))) else (bX8_reads_47 F k7 x1 x2 (0 : Int32) x2 S))
set_option maxRecDepth 20000 in
theorem bX8_reads_7_ok {X : gX} {F : Nat} {k7 : (Int32 × Int32 × gS) → Option (Int32 × gS)} {R : Int32 × gS} (H7 : ∀ s : Int32 × Int32 × gS, k7 s = some R → G X RX8 cX8_reads 3 (some .int) 2 (some (.int R.1)) R.2 7 [(0, .ref (X.1 + 51)), (1, .int s.1), (2, .int s.2.1)] [] s.2.2) {x1 : Int32} {x2 : Int32} {S : gS} (h : bX8_reads_7 F k7 x1 x2 S = some R) : G X RX8 cX8_reads 3 (some .int) 2 (some (.int R.1)) R.2 7 [(0, .ref (X.1 + 51)), (1, .int x1), (2, .int x2)] [] S := by
  unfold bX8_reads_7 at h
  refine g_iload_n dX8_reads_7 2 rfl rfl ?_
  refine g_bipush (v := 64) dX8_reads_8 (by decide) ?_
  refine g_icmp_ge (tgt := 54) dX8_reads_10 (by decide) (fun hc1 => ?_) (fun hc1 => ?_)
  · replace h := git hc1 h
    refine g_iload_n dX8_reads_54 1 rfl rfl ?_
    obtain rfl := Option.some.inj h
    exact g_iret dX8_reads_55 rfl
  · replace h := gif hc1 h
    refine g_aload_n dX8_reads_13 0 rfl rfl ?_
    refine g_getr dX8_reads_14 lk_X8_25 sf_51_7 ?_
    refine g_iload_n dX8_reads_17 2 rfl rfl ?_
    refine g_iload_n dX8_reads_18 1 rfl rfl ?_
    refine g_iconst (v := -1) dX8_reads_19 (by decide) ?_
    refine g_icmp_ne (tgt := 46) dX8_reads_20 (by decide) (fun hc2 => ?_) (fun hc2 => ?_)
    · replace h := gif hc2 h
      refine g_iconst (v := 0) dX8_reads_46 (by decide) ?_
      exact bX8_reads_47_ok H7 h
    · replace h := git hc2 h
      refine g_aload_n dX8_reads_23 0 rfl rfl ?_
      refine g_getr dX8_reads_24 lk_X8_22 sf_51_5 ?_
      refine g_bipush (v := 9) dX8_reads_27 (by decide) ?_
      refine g_iload_n dX8_reads_29 2 rfl rfl ?_
      refine g_bipush (v := 8) dX8_reads_30 (by decide) ?_
      obtain ⟨hz3, h⟩ := gnz h
      refine g_idiv dX8_reads_32 hz3 ?_
      refine g_imul dX8_reads_33 ?_
      refine g_iload_n dX8_reads_34 2 rfl rfl ?_
      refine g_bipush (v := 8) dX8_reads_35 (by decide) ?_
      obtain ⟨hz4, h⟩ := gnz h
      refine g_irem dX8_reads_37 hz4 ?_
      refine g_iadd dX8_reads_38 ?_
      obtain ⟨hv5, h⟩ := gchk h
      refine g_iald dX8_reads_39 sa_56 hv5 ?_
      obtain ⟨q6, hq6, h⟩ := gb h
      refine g_callSi [.int (g_I S 56 ((((9 : Int32) * (x2 / (8 : Int32))) + (x2 - x2 / (8 : Int32) * (8 : Int32)))).toNatClampNeg)] [.int x2, .ref (X.1 + 57)] dX8_reads_40 mk_X8_115 (ctX8_kindOf hq6) rfl (by decide) rfl (Nat.le_of_ble_eq_true rfl) ?_
      refine g_goto (tgt := 47) dX8_reads_43 (by decide) ?_
      exact bX8_reads_47_ok H7 h
noncomputable def bX8_reads_7l (F : Nat) : Nat → (Int32 × Int32 × gS) → Option (Int32 × gS) := g_fix (fun k7 s => bX8_reads_7 F k7 s.1 s.2.1 s.2.2)
theorem bX8_reads_7l_ok {X : gX} {F : Nat} {R : Int32 × gS} : ∀ (n : Nat) (s : Int32 × Int32 × gS), bX8_reads_7l F n s = some R → G X RX8 cX8_reads 3 (some .int) 2 (some (.int R.1)) R.2 7 [(0, .ref (X.1 + 51)), (1, .int s.1), (2, .int s.2.1)] [] s.2.2 := by
  intro n
  induction n with
  | zero => intro s h; cases h
  | succ n ih => intro s h; exact bX8_reads_7_ok (F := F) ih h
noncomputable def fX8_reads (F : Nat) (S : gS) : Option (Int32 × gS) := (fX8_faultNow F S).bind (fun q1 : Int32 × gS => gl q1.1 (fun v2 : Int32 => bX8_reads_7l F F (v2, (0 : Int32), q1.2)))
set_option maxRecDepth 20000 in
theorem fX8_reads_ok {X : gX} {F : Nat} {R : Int32 × gS} {S : gS} (h : fX8_reads F S = some R) : G X RX8 cX8_reads 3 (some .int) 2 (some (.int R.1)) R.2 0 [(0, .ref (X.1 + 51))] [] S := by
  unfold fX8_reads at h
  refine g_aload_n dX8_reads_0 0 rfl rfl ?_
  obtain ⟨q1, hq1, h⟩ := gb h
  refine g_callVi [] [] dX8_reads_1 mk_X8_118 so_51 (ctX8_faultNow hq1) rfl (by decide) rfl (Nat.le_of_ble_eq_true rfl) ?_
  obtain ⟨v2, ev2, h⟩ := gle h
  refine g_istore_n (lv' := [(1, .int v2), (0, .ref (X.1 + 51))]) dX8_reads_4 ev2 rfl (by decide) rfl ?_
  refine g_iconst (v := 0) dX8_reads_5 (by decide) ?_
  refine g_istore_n (lv' := [(2, .int (0 : Int32)), (1, .int v2), (0, .ref (X.1 + 51))]) dX8_reads_6 rfl rfl (by decide) rfl ?_
  refine g_sub [2, 1, 0] rfl ?_
  exact bX8_reads_7l_ok F (v2, (0 : Int32), q1.2) h
theorem ctX8_reads {X : gX} {F : Nat} {R : Int32 × gS} {S : gS} (h : fX8_reads F S = some R) : g_C X yX8_reads cX8_reads 3 (some .int) 2 [.ref (X.1 + 51)] S (some (.int R.1)) R.2 :=
  g_met (by decide) (Nat.le_of_ble_eq_true rfl) (fX8_reads_ok h)
noncomputable def fX8_fault (F : Nat) (S : gS) : Option (Int32 × gS) := (fX8_reads F S).bind (fun q1 : Int32 × gS => some (q1.1, q1.2))
set_option maxRecDepth 20000 in
theorem fX8_fault_ok {X : gX} {F : Nat} {R : Int32 × gS} {S : gS} (h : fX8_fault F S = some R) : G X RX8 cX8_fault 1 (some .int) 3 (some (.int R.1)) R.2 0 [(0, .ref (X.1 + 51))] [] S := by
  unfold fX8_fault at h
  refine g_aload_n dX8_fault_0 0 rfl rfl ?_
  obtain ⟨q1, hq1, h⟩ := gb h
  refine g_callVi [] [] dX8_fault_1 mk_X8_122 so_51 (ctX8_reads hq1) rfl (by decide) rfl (Nat.le_of_ble_eq_true rfl) ?_
  obtain rfl := Option.some.inj h
  exact g_iret dX8_fault_4 rfl
theorem ctX8_fault {X : gX} {F : Nat} {R : Int32 × gS} {S : gS} (h : fX8_fault F S = some R) : g_C X yX8_fault cX8_fault 1 (some .int) 3 [.ref (X.1 + 51)] S (some (.int R.1)) R.2 :=
  g_met (by decide) (Nat.le_of_ble_eq_true rfl) (fX8_fault_ok h)
noncomputable def fX8_cellOf (F : Nat) (a0 : Int32) (a1 : Int32) (S : gS) : Option (Int32 × gS) := (fX8_reads F S).bind (fun q1 : Int32 × gS => if a1 = 0 then (g_chk a0 64 (some ((g_I q1.2 57 (a0).toNatClampNeg), q1.2))) else (if a1 = (1 : Int32) then (g_chk a0 64 (some ((g_I q1.2 58 (a0).toNatClampNeg), q1.2))) else (if a1 = (2 : Int32) then (g_chk a0 64 (some ((g_I q1.2 59 (a0).toNatClampNeg), q1.2))) else (if a1 = (3 : Int32) then (g_chk a0 64 (some ((g_I q1.2 60 (a0).toNatClampNeg), q1.2))) else (g_chk a0 64 (some ((g_I q1.2 61 (a0).toNatClampNeg), q1.2)))))))
set_option maxRecDepth 20000 in
theorem fX8_cellOf_ok {X : gX} {F : Nat} {R : Int32 × gS} {a0 : Int32} {a1 : Int32} {S : gS} (h : fX8_cellOf F a0 a1 S = some R) : G X RX8 cX8_cellOf 3 (some .int) 3 (some (.int R.1)) R.2 0 [(0, .ref (X.1 + 51)), (1, .int a0), (2, .int a1)] [] S := by
  unfold fX8_cellOf at h
  refine g_aload_n dX8_cellOf_0 0 rfl rfl ?_
  obtain ⟨q1, hq1, h⟩ := gb h
  refine g_callVi [] [] dX8_cellOf_1 mk_X8_122 so_51 (ctX8_reads hq1) rfl (by decide) rfl (Nat.le_of_ble_eq_true rfl) ?_
  refine g_pop dX8_cellOf_4 rfl ?_
  refine g_iload_n dX8_cellOf_5 2 rfl rfl ?_
  refine g_if_ne (tgt := 18) dX8_cellOf_6 (by decide) (fun hc2 => ?_) (fun hc2 => ?_)
  · replace h := gif hc2 h
    refine g_iload_n dX8_cellOf_18 2 rfl rfl ?_
    refine g_iconst (v := 1) dX8_cellOf_19 (by decide) ?_
    refine g_icmp_ne (tgt := 32) dX8_cellOf_20 (by decide) (fun hc3 => ?_) (fun hc3 => ?_)
    · replace h := gif hc3 h
      refine g_iload_n dX8_cellOf_32 2 rfl rfl ?_
      refine g_iconst (v := 2) dX8_cellOf_33 (by decide) ?_
      refine g_icmp_ne (tgt := 46) dX8_cellOf_34 (by decide) (fun hc4 => ?_) (fun hc4 => ?_)
      · replace h := gif hc4 h
        refine g_iload_n dX8_cellOf_46 2 rfl rfl ?_
        refine g_iconst (v := 3) dX8_cellOf_47 (by decide) ?_
        refine g_icmp_ne (tgt := 60) dX8_cellOf_48 (by decide) (fun hc5 => ?_) (fun hc5 => ?_)
        · replace h := gif hc5 h
          refine g_aload_n dX8_cellOf_60 0 rfl rfl ?_
          refine g_getr dX8_cellOf_61 lk_X8_37 sf_51_11 ?_
          refine g_iload_n dX8_cellOf_64 1 rfl rfl ?_
          obtain ⟨hv6, h⟩ := gchk h
          refine g_iald dX8_cellOf_65 sa_61 hv6 ?_
          obtain rfl := Option.some.inj h
          exact g_iret dX8_cellOf_66 rfl
        · replace h := git hc5 h
          refine g_aload_n dX8_cellOf_51 0 rfl rfl ?_
          refine g_getr dX8_cellOf_52 lk_X8_34 sf_51_10 ?_
          refine g_iload_n dX8_cellOf_55 1 rfl rfl ?_
          obtain ⟨hv7, h⟩ := gchk h
          refine g_iald dX8_cellOf_56 sa_60 hv7 ?_
          refine g_goto (tgt := 66) dX8_cellOf_57 (by decide) ?_
          obtain rfl := Option.some.inj h
          exact g_iret dX8_cellOf_66 rfl
      · replace h := git hc4 h
        refine g_aload_n dX8_cellOf_37 0 rfl rfl ?_
        refine g_getr dX8_cellOf_38 lk_X8_31 sf_51_9 ?_
        refine g_iload_n dX8_cellOf_41 1 rfl rfl ?_
        obtain ⟨hv8, h⟩ := gchk h
        refine g_iald dX8_cellOf_42 sa_59 hv8 ?_
        refine g_goto (tgt := 66) dX8_cellOf_43 (by decide) ?_
        obtain rfl := Option.some.inj h
        exact g_iret dX8_cellOf_66 rfl
    · replace h := git hc3 h
      refine g_aload_n dX8_cellOf_23 0 rfl rfl ?_
      refine g_getr dX8_cellOf_24 lk_X8_28 sf_51_8 ?_
      refine g_iload_n dX8_cellOf_27 1 rfl rfl ?_
      obtain ⟨hv9, h⟩ := gchk h
      refine g_iald dX8_cellOf_28 sa_58 hv9 ?_
      refine g_goto (tgt := 66) dX8_cellOf_29 (by decide) ?_
      obtain rfl := Option.some.inj h
      exact g_iret dX8_cellOf_66 rfl
  · replace h := git hc2 h
    refine g_aload_n dX8_cellOf_9 0 rfl rfl ?_
    refine g_getr dX8_cellOf_10 lk_X8_25 sf_51_7 ?_
    refine g_iload_n dX8_cellOf_13 1 rfl rfl ?_
    obtain ⟨hv10, h⟩ := gchk h
    refine g_iald dX8_cellOf_14 sa_57 hv10 ?_
    refine g_goto (tgt := 66) dX8_cellOf_15 (by decide) ?_
    obtain rfl := Option.some.inj h
    exact g_iret dX8_cellOf_66 rfl
theorem ctX8_cellOf {X : gX} {F : Nat} {R : Int32 × gS} {a0 : Int32} {a1 : Int32} {S : gS} (h : fX8_cellOf F a0 a1 S = some R) : g_C X yX8_cellOf cX8_cellOf 3 (some .int) 3 [.ref (X.1 + 51), .int a0, .int a1] S (some (.int R.1)) R.2 :=
  g_met (by decide) (Nat.le_of_ble_eq_true rfl) (fX8_cellOf_ok h)
noncomputable def fX8_cell (F : Nat) (a0 : Int32) (a1 : Int32) (S : gS) : Option (Int32 × gS) := (fX8_isCell F a0 S).bind (fun q1 : Int32 × gS => if q1.1 = 0 then (some ((-2 : Int32), q1.2)) else ((fX8_in F ((a1).toInt64) (0 : Int64) (4 : Int64) q1.2).bind (fun q3 : Int32 × gS => if q3.1 = 0 then (some ((-2 : Int32), q3.2)) else ((fX8_cellOf F a0 a1 q3.2).bind (fun q5 : Int32 × gS => some (q5.1, q5.2))))))
set_option maxRecDepth 20000 in
theorem fX8_cell_ok {X : gX} {F : Nat} {R : Int32 × gS} {a0 : Int32} {a1 : Int32} {S : gS} (h : fX8_cell F a0 a1 S = some R) : G X RX8 cX8_cell 3 (some .int) 4 (some (.int R.1)) R.2 0 [(0, .ref (X.1 + 51)), (1, .int a0), (2, .int a1)] [] S := by
  unfold fX8_cell at h
  refine g_iload_n dX8_cell_0 1 rfl rfl ?_
  obtain ⟨q1, hq1, h⟩ := gb h
  refine g_callSi [.int a0] [] dX8_cell_1 mk_X8_125 (ctX8_isCell hq1) rfl (by decide) rfl (Nat.le_of_ble_eq_true rfl) ?_
  refine g_if_eq (tgt := 28) dX8_cell_4 (by decide) (fun hc2 => ?_) (fun hc2 => ?_)
  · replace h := git hc2 h
    refine g_bipush (v := -2) dX8_cell_28 (by decide) ?_
    obtain rfl := Option.some.inj h
    exact g_iret dX8_cell_30 rfl
  · replace h := gif hc2 h
    refine g_iload_n dX8_cell_7 2 rfl rfl ?_
    refine g_i2l dX8_cell_8 ?_
    refine g_lconst (v := 0) dX8_cell_9 (by decide) ?_
    refine g_ldc2 dX8_cell_10 ck_X8_128 ?_
    obtain ⟨q3, hq3, h⟩ := gb h
    refine g_callSi [.long ((a1).toInt64), .long (0 : Int64), .long (4 : Int64)] [] dX8_cell_13 mk_X8_80 (ctX8_in hq3) rfl (by decide) rfl (Nat.le_of_ble_eq_true rfl) ?_
    refine g_if_eq (tgt := 28) dX8_cell_16 (by decide) (fun hc4 => ?_) (fun hc4 => ?_)
    · replace h := git hc4 h
      refine g_bipush (v := -2) dX8_cell_28 (by decide) ?_
      obtain rfl := Option.some.inj h
      exact g_iret dX8_cell_30 rfl
    · replace h := gif hc4 h
      refine g_aload_n dX8_cell_19 0 rfl rfl ?_
      refine g_iload_n dX8_cell_20 1 rfl rfl ?_
      refine g_iload_n dX8_cell_21 2 rfl rfl ?_
      obtain ⟨q5, hq5, h⟩ := gb h
      refine g_callVi [.int a0, .int a1] [] dX8_cell_22 mk_X8_130 so_51 (ctX8_cellOf hq5) rfl (by decide) rfl (Nat.le_of_ble_eq_true rfl) ?_
      refine g_goto (tgt := 30) dX8_cell_25 (by decide) ?_
      obtain rfl := Option.some.inj h
      exact g_iret dX8_cell_30 rfl
theorem ctX8_cell {X : gX} {F : Nat} {R : Int32 × gS} {a0 : Int32} {a1 : Int32} {S : gS} (h : fX8_cell F a0 a1 S = some R) : g_C X yX8_cell cX8_cell 3 (some .int) 4 [.ref (X.1 + 51), .int a0, .int a1] S (some (.int R.1)) R.2 :=
  g_met (by decide) (Nat.le_of_ble_eq_true rfl) (fX8_cell_ok h)
noncomputable def fX8_least (F : Nat) (a0 : Int32) (a1 : Int32) (S : gS) : Option (Int32 × gS) := if a1 ≤ a0 then (some (a1, S)) else (some (a0, S))
set_option maxRecDepth 20000 in
theorem fX8_least_ok {X : gX} {F : Nat} {R : Int32 × gS} {a0 : Int32} {a1 : Int32} {S : gS} (h : fX8_least F a0 a1 S = some R) : G X RX8 cX8_least 2 (some .int) 0 (some (.int R.1)) R.2 0 [(0, .int a0), (1, .int a1)] [] S := by
  unfold fX8_least at h
  refine g_iload_n dX8_least_0 0 rfl rfl ?_
  refine g_iload_n dX8_least_1 1 rfl rfl ?_
  refine g_icmp_ge (tgt := 9) dX8_least_2 (by decide) (fun hc1 => ?_) (fun hc1 => ?_)
  · replace h := git hc1 h
    refine g_iload_n dX8_least_9 1 rfl rfl ?_
    obtain rfl := Option.some.inj h
    exact g_iret dX8_least_10 rfl
  · replace h := gif hc1 h
    refine g_iload_n dX8_least_5 0 rfl rfl ?_
    refine g_goto (tgt := 10) dX8_least_6 (by decide) ?_
    obtain rfl := Option.some.inj h
    exact g_iret dX8_least_10 rfl
theorem ctX8_least {X : gX} {F : Nat} {R : Int32 × gS} {a0 : Int32} {a1 : Int32} {S : gS} (h : fX8_least F a0 a1 S = some R) : g_C X yX8_least cX8_least 2 (some .int) 0 [.int a0, .int a1] S (some (.int R.1)) R.2 :=
  g_met (by decide) (Nat.le_of_ble_eq_true rfl) (fX8_least_ok h)
noncomputable def bX8_snows_82 (F : Nat) (k24 : (Int32 × Int32 × Int32 × gS) → Option (Int32 × gS)) (x1 : Int32) (x2 : Int32) (x3 : Int32) (S : gS) : Option (Int32 × gS) := gl (x3 + 1) (fun v1 : Int32 => k24 (x1, x2, v1, S))
set_option maxRecDepth 20000 in
theorem bX8_snows_82_ok {X : gX} {F : Nat} {k24 : (Int32 × Int32 × Int32 × gS) → Option (Int32 × gS)} {R : Int32 × gS} (H24 : ∀ s : Int32 × Int32 × Int32 × gS, k24 s = some R → G X RX8 cX8_snows 5 (some .int) 3 (some (.int R.1)) R.2 24 [(0, .ref (X.1 + 51)), (1, .int s.1), (2, .int s.2.1), (3, .int s.2.2.1)] [] s.2.2.2) {x1 : Int32} {x2 : Int32} {x3 : Int32} {S : gS} (h : bX8_snows_82 F k24 x1 x2 x3 S = some R) : G X RX8 cX8_snows 5 (some .int) 3 (some (.int R.1)) R.2 82 [(0, .ref (X.1 + 51)), (1, .int x1), (2, .int x2), (3, .int x3)] [] S := by
  unfold bX8_snows_82 at h
  obtain ⟨v1, ev1, h⟩ := gle h
  refine g_iinc (q := 3) (v := v1) (lv' := [(3, .int v1), (0, .ref (X.1 + 51)), (1, .int x1), (2, .int x2)]) dX8_snows_82 rfl (by rw [← ev1]; rfl) (by decide) rfl ?_
  refine g_goto (tgt := 24) dX8_snows_85 (by decide) ?_
  refine g_sub [1, 2, 3, 0] rfl ?_
  exact H24 (x1, x2, v1, S) h
noncomputable def bX8_snows_72 (F : Nat) (k24 : (Int32 × Int32 × Int32 × gS) → Option (Int32 × gS)) (x1 : Int32) (x3 : Int32) (x4 : Int32) (t0 : Int32) (t1 : Int32) (S : gS) : Option (Int32 × gS) := gl (t1 + t0) (fun v1 : Int32 => g_chk x3 64 (gl (g_setI S 58 (x3).toNatClampNeg x4) (fun S3 : gS => bX8_snows_82 F k24 x1 v1 x3 S3)))
set_option maxRecDepth 20000 in
theorem bX8_snows_72_ok {X : gX} {F : Nat} {k24 : (Int32 × Int32 × Int32 × gS) → Option (Int32 × gS)} {R : Int32 × gS} (H24 : ∀ s : Int32 × Int32 × Int32 × gS, k24 s = some R → G X RX8 cX8_snows 5 (some .int) 3 (some (.int R.1)) R.2 24 [(0, .ref (X.1 + 51)), (1, .int s.1), (2, .int s.2.1), (3, .int s.2.2.1)] [] s.2.2.2) {x1 : Int32} {x3 : Int32} {x4 : Int32} {t0 : Int32} {t1 : Int32} {S : gS} (h : bX8_snows_72 F k24 x1 x3 x4 t0 t1 S = some R) : G X RX8 cX8_snows 5 (some .int) 3 (some (.int R.1)) R.2 72 [(0, .ref (X.1 + 51)), (1, .int x1), (3, .int x3), (4, .int x4)] [.int t0, .int t1] S := by
  unfold bX8_snows_72 at h
  refine g_iadd dX8_snows_72 ?_
  obtain ⟨v1, ev1, h⟩ := gle h
  refine g_istore_n (lv' := [(2, .int v1), (0, .ref (X.1 + 51)), (1, .int x1), (3, .int x3), (4, .int x4)]) dX8_snows_73 ev1 rfl (by decide) rfl ?_
  refine g_aload_n dX8_snows_74 1 rfl rfl ?_
  refine g_getr dX8_snows_75 lk_X8_28 sf_51_8 ?_
  refine g_iload_n dX8_snows_78 3 rfl rfl ?_
  refine g_iload dX8_snows_79 4 rfl ?_
  obtain ⟨hv2, h⟩ := gchk h
  obtain ⟨S3, eS3, h⟩ := gle h
  refine g_iast dX8_snows_81 sa_58 hv2 eS3 ?_
  refine g_sub [1, 2, 0, 3] rfl ?_
  exact bX8_snows_82_ok H24 h
noncomputable def bX8_snows_24 (F : Nat) (k24 : (Int32 × Int32 × Int32 × gS) → Option (Int32 × gS)) (x1 : Int32) (x2 : Int32) (x3 : Int32) (S : gS) : Option (Int32 × gS) := if (64 : Int32) ≤ x3 then (some (x2, S)) else (g_chk x3 64 (if (g_I S 57 (x3).toNatClampNeg) = (1 : Int32) then (bX8_snows_82 F k24 x1 x2 x3 S) else (g_chk x3 64 ((fX8_least F ((g_I S 58 (x3).toNatClampNeg) + x1) (30 : Int32) S).bind (fun q5 : Int32 × gS => gl q5.1 (fun v6 : Int32 => g_chk x3 64 (if v6 ≤ (g_I q5.2 58 (x3).toNatClampNeg) then (bX8_snows_72 F k24 x1 x3 v6 (0 : Int32) x2 q5.2) else (bX8_snows_72 F k24 x1 x3 v6 (1 : Int32) x2 q5.2))))))))
set_option maxRecDepth 20000 in
theorem bX8_snows_24_ok {X : gX} {F : Nat} {k24 : (Int32 × Int32 × Int32 × gS) → Option (Int32 × gS)} {R : Int32 × gS} (H24 : ∀ s : Int32 × Int32 × Int32 × gS, k24 s = some R → G X RX8 cX8_snows 5 (some .int) 3 (some (.int R.1)) R.2 24 [(0, .ref (X.1 + 51)), (1, .int s.1), (2, .int s.2.1), (3, .int s.2.2.1)] [] s.2.2.2) {x1 : Int32} {x2 : Int32} {x3 : Int32} {S : gS} (h : bX8_snows_24 F k24 x1 x2 x3 S = some R) : G X RX8 cX8_snows 5 (some .int) 3 (some (.int R.1)) R.2 24 [(0, .ref (X.1 + 51)), (1, .int x1), (2, .int x2), (3, .int x3)] [] S := by
  unfold bX8_snows_24 at h
  refine g_iload_n dX8_snows_24 3 rfl rfl ?_
  refine g_bipush (v := 64) dX8_snows_25 (by decide) ?_
  refine g_icmp_ge (tgt := 88) dX8_snows_27 (by decide) (fun hc1 => ?_) (fun hc1 => ?_)
  · replace h := git hc1 h
    refine g_iload_n dX8_snows_88 2 rfl rfl ?_
    obtain rfl := Option.some.inj h
    exact g_iret dX8_snows_89 rfl
  · replace h := gif hc1 h
    refine g_aload_n dX8_snows_30 0 rfl rfl ?_
    refine g_getr dX8_snows_31 lk_X8_25 sf_51_7 ?_
    refine g_iload_n dX8_snows_34 3 rfl rfl ?_
    obtain ⟨hv2, h⟩ := gchk h
    refine g_iald dX8_snows_35 sa_57 hv2 ?_
    refine g_iconst (v := 1) dX8_snows_36 (by decide) ?_
    refine g_icmp_eq (tgt := 82) dX8_snows_37 (by decide) (fun hc3 => ?_) (fun hc3 => ?_)
    · replace h := git hc3 h
      exact bX8_snows_82_ok H24 h
    · replace h := gif hc3 h
      refine g_aload_n dX8_snows_40 0 rfl rfl ?_
      refine g_getr dX8_snows_41 lk_X8_28 sf_51_8 ?_
      refine g_iload_n dX8_snows_44 3 rfl rfl ?_
      obtain ⟨hv4, h⟩ := gchk h
      refine g_iald dX8_snows_45 sa_58 hv4 ?_
      refine g_iload_n dX8_snows_46 1 rfl rfl ?_
      refine g_iadd dX8_snows_47 ?_
      refine g_bipush (v := 30) dX8_snows_48 (by decide) ?_
      obtain ⟨q5, hq5, h⟩ := gb h
      refine g_callSi [.int ((g_I S 58 (x3).toNatClampNeg) + x1), .int (30 : Int32)] [] dX8_snows_50 mk_X8_135 (ctX8_least hq5) rfl (by decide) rfl (Nat.le_of_ble_eq_true rfl) ?_
      obtain ⟨v6, ev6, h⟩ := gle h
      refine g_istore (lv' := [(4, .int v6), (0, .ref (X.1 + 51)), (1, .int x1), (2, .int x2), (3, .int x3)]) dX8_snows_53 ev6 (by decide) rfl ?_
      refine g_iload_n dX8_snows_55 3 rfl rfl ?_
      refine g_iload dX8_snows_56 0 rfl ?_
      refine g_aload_n dX8_snows_58 1 rfl rfl ?_
      refine g_getr dX8_snows_59 lk_X8_28 sf_51_8 ?_
      refine g_iload_n dX8_snows_62 4 rfl rfl ?_
      obtain ⟨hv7, h⟩ := gchk h
      refine g_iald dX8_snows_63 sa_58 hv7 ?_
      refine g_icmp_le (tgt := 71) dX8_snows_64 (by decide) (fun hc8 => ?_) (fun hc8 => ?_)
      · replace h := git hc8 h
        refine g_iconst (v := 0) dX8_snows_71 (by decide) ?_
        refine g_sub [1, 2, 4, 0] rfl ?_
        exact bX8_snows_72_ok H24 h
      · replace h := gif hc8 h
        refine g_iconst (v := 1) dX8_snows_67 (by decide) ?_
        refine g_goto (tgt := 72) dX8_snows_68 (by decide) ?_
        refine g_sub [1, 2, 4, 0] rfl ?_
        exact bX8_snows_72_ok H24 h
noncomputable def bX8_snows_24l (F : Nat) : Nat → (Int32 × Int32 × Int32 × gS) → Option (Int32 × gS) := g_fix (fun k24 s => bX8_snows_24 F k24 s.1 s.2.1 s.2.2.1 s.2.2.2)
theorem bX8_snows_24l_ok {X : gX} {F : Nat} {R : Int32 × gS} : ∀ (n : Nat) (s : Int32 × Int32 × Int32 × gS), bX8_snows_24l F n s = some R → G X RX8 cX8_snows 5 (some .int) 3 (some (.int R.1)) R.2 24 [(0, .ref (X.1 + 51)), (1, .int s.1), (2, .int s.2.1), (3, .int s.2.2.1)] [] s.2.2.2 := by
  intro n
  induction n with
  | zero => intro s h; cases h
  | succ n ih => intro s h; exact bX8_snows_24_ok (F := F) ih h
noncomputable def fX8_snows (F : Nat) (a0 : Int32) (S : gS) : Option (Int32 × gS) := (fX8_in F ((a0).toInt64) (0 : Int64) (9 : Int64) S).bind (fun q1 : Int32 × gS => if q1.1 = 0 then (some ((-2 : Int32), q1.2)) else ((fX8_reads F q1.2).bind (fun q3 : Int32 × gS => bX8_snows_24l F F (a0, (0 : Int32), (0 : Int32), q3.2))))
set_option maxRecDepth 20000 in
theorem fX8_snows_ok {X : gX} {F : Nat} {R : Int32 × gS} {a0 : Int32} {S : gS} (h : fX8_snows F a0 S = some R) : G X RX8 cX8_snows 5 (some .int) 3 (some (.int R.1)) R.2 0 [(0, .ref (X.1 + 51)), (1, .int a0)] [] S := by
  unfold fX8_snows at h
  refine g_iload_n dX8_snows_0 1 rfl rfl ?_
  refine g_i2l dX8_snows_1 ?_
  refine g_lconst (v := 0) dX8_snows_2 (by decide) ?_
  refine g_ldc2 dX8_snows_3 ck_X8_133 ?_
  obtain ⟨q1, hq1, h⟩ := gb h
  refine g_callSi [.long ((a0).toInt64), .long (0 : Int64), .long (9 : Int64)] [] dX8_snows_6 mk_X8_80 (ctX8_in hq1) rfl (by decide) rfl (Nat.le_of_ble_eq_true rfl) ?_
  refine g_if_ne (tgt := 15) dX8_snows_9 (by decide) (fun hc2 => ?_) (fun hc2 => ?_)
  · replace h := gif hc2 h
    refine g_aload_n dX8_snows_15 0 rfl rfl ?_
    obtain ⟨q3, hq3, h⟩ := gb h
    refine g_callVi [] [] dX8_snows_16 mk_X8_122 so_51 (ctX8_reads hq3) rfl (by decide) rfl (Nat.le_of_ble_eq_true rfl) ?_
    refine g_pop dX8_snows_19 rfl ?_
    refine g_iconst (v := 0) dX8_snows_20 (by decide) ?_
    refine g_istore_n (lv' := [(2, .int (0 : Int32)), (0, .ref (X.1 + 51)), (1, .int a0)]) dX8_snows_21 rfl rfl (by decide) rfl ?_
    refine g_iconst (v := 0) dX8_snows_22 (by decide) ?_
    refine g_istore_n (lv' := [(3, .int (0 : Int32)), (2, .int (0 : Int32)), (0, .ref (X.1 + 51)), (1, .int a0)]) dX8_snows_23 rfl rfl (by decide) rfl ?_
    refine g_sub [2, 3, 1, 0] rfl ?_
    exact bX8_snows_24l_ok F (a0, (0 : Int32), (0 : Int32), q3.2) h
  · replace h := git hc2 h
    refine g_bipush (v := -2) dX8_snows_12 (by decide) ?_
    obtain rfl := Option.some.inj h
    exact g_iret dX8_snows_14 rfl
theorem ctX8_snows {X : gX} {F : Nat} {R : Int32 × gS} {a0 : Int32} {S : gS} (h : fX8_snows F a0 S = some R) : g_C X yX8_snows cX8_snows 5 (some .int) 3 [.ref (X.1 + 51), .int a0] S (some (.int R.1)) R.2 :=
  g_met (by decide) (Nat.le_of_ble_eq_true rfl) (fX8_snows_ok h)
noncomputable def fX8_less (F : Nat) (a0 : Int32) (a1 : Int32) (S : gS) : Option (Int32 × gS) := if a0 ≤ a1 then (some ((0 : Int32), S)) else (some ((a0 - a1), S))
set_option maxRecDepth 20000 in
theorem fX8_less_ok {X : gX} {F : Nat} {R : Int32 × gS} {a0 : Int32} {a1 : Int32} {S : gS} (h : fX8_less F a0 a1 S = some R) : G X RX8 cX8_less 2 (some .int) 0 (some (.int R.1)) R.2 0 [(0, .int a0), (1, .int a1)] [] S := by
  unfold fX8_less at h
  refine g_iload_n dX8_less_0 0 rfl rfl ?_
  refine g_iload_n dX8_less_1 1 rfl rfl ?_
  refine g_icmp_le (tgt := 11) dX8_less_2 (by decide) (fun hc1 => ?_) (fun hc1 => ?_)
  · replace h := git hc1 h
    refine g_iconst (v := 0) dX8_less_11 (by decide) ?_
    obtain rfl := Option.some.inj h
    exact g_iret dX8_less_12 rfl
  · replace h := gif hc1 h
    refine g_iload_n dX8_less_5 0 rfl rfl ?_
    refine g_iload_n dX8_less_6 1 rfl rfl ?_
    refine g_isub dX8_less_7 ?_
    refine g_goto (tgt := 12) dX8_less_8 (by decide) ?_
    obtain rfl := Option.some.inj h
    exact g_iret dX8_less_12 rfl
theorem ctX8_less {X : gX} {F : Nat} {R : Int32 × gS} {a0 : Int32} {a1 : Int32} {S : gS} (h : fX8_less F a0 a1 S = some R) : g_C X yX8_less cX8_less 2 (some .int) 0 [.int a0, .int a1] S (some (.int R.1)) R.2 :=
  g_met (by decide) (Nat.le_of_ble_eq_true rfl) (fX8_less_ok h)

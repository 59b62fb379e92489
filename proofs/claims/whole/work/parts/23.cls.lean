noncomputable def bX7_tryMorning_123 (F : Nat) (k74 : (Int32 × Int32 × gS) → Option (gS)) (x1 : Int32) (x3 : Int32) (S : gS) : Option (gS) := gl (x3 + 1) (fun v1 : Int32 => k74 (x1, v1, S))
set_option maxRecDepth 20000 in
theorem bX7_tryMorning_123_ok {X : gX} {F : Nat} {k74 : (Int32 × Int32 × gS) → Option (gS)} {R : gS} (H74 : ∀ s : Int32 × Int32 × gS, k74 s = some R → G X RX7 cX7_tryMorning 4 none 4 none R 74 [(0, .ref (X.1 + 0)), (1, .int s.1), (3, .int s.2.1)] [] s.2.2) {x1 : Int32} {x3 : Int32} {S : gS} (h : bX7_tryMorning_123 F k74 x1 x3 S = some R) : G X RX7 cX7_tryMorning 4 none 4 none R 123 [(0, .ref (X.1 + 0)), (1, .int x1), (3, .int x3)] [] S := by
  unfold bX7_tryMorning_123 at h
  obtain ⟨v1, ev1, h⟩ := gle h
  refine g_iinc (q := 2) (v := v1) (lv' := [(3, .int v1), (0, .ref (X.1 + 0)), (1, .int x1)]) dX7_tryMorning_123 rfl (by rw [← ev1]; rfl) (by decide) rfl ?_
  refine g_goto (tgt := 74) dX7_tryMorning_126 (by decide) ?_
  refine g_sub [1, 2, 0] rfl ?_
  exact H74 (x1, v1, S) h
noncomputable def bX7_tryMorning_74 (F : Nat) (k74 : (Int32 × Int32 × gS) → Option (gS)) (x1 : Int32) (x3 : Int32) (S : gS) : Option (gS) := if (g_I S 9 2) ≤ x3 then (some S) else (if x3 = x1 then (bX7_tryMorning_123 F k74 x1 x3 S) else (g_chk x3 8 (g_chk x3 8 ((fX3_go F 16 (g_I S 10 (x3).toNatClampNeg) (g_I S 11 (x3).toNatClampNeg) (g_J S 1 4) S).bind (fun q5 : Int32 × gS => bX7_tryMorning_123 F k74 x1 x3 q5.2)))))
set_option maxRecDepth 20000 in
theorem bX7_tryMorning_74_ok {X : gX} {F : Nat} {k74 : (Int32 × Int32 × gS) → Option (gS)} {R : gS} (H74 : ∀ s : Int32 × Int32 × gS, k74 s = some R → G X RX7 cX7_tryMorning 4 none 4 none R 74 [(0, .ref (X.1 + 0)), (1, .int s.1), (3, .int s.2.1)] [] s.2.2) {x1 : Int32} {x3 : Int32} {S : gS} (h : bX7_tryMorning_74 F k74 x1 x3 S = some R) : G X RX7 cX7_tryMorning 4 none 4 none R 74 [(0, .ref (X.1 + 0)), (1, .int x1), (3, .int x3)] [] S := by
  unfold bX7_tryMorning_74 at h
  refine g_iload_n dX7_tryMorning_74 2 rfl rfl ?_
  refine g_aload_n dX7_tryMorning_75 0 rfl rfl ?_
  refine g_getr dX7_tryMorning_76 lk_X7_26 sf_0_2 ?_
  refine g_geti dX7_tryMorning_79 lk_X7_155 sf_9_2 ?_
  refine g_icmp_ge (tgt := 129) dX7_tryMorning_82 (by decide) (fun hc1 => ?_) (fun hc1 => ?_)
  · replace h := git hc1 h
    obtain rfl := Option.some.inj h
    exact g_vret dX7_tryMorning_129 rfl
  · replace h := gif hc1 h
    refine g_iload_n dX7_tryMorning_85 2 rfl rfl ?_
    refine g_iload_n dX7_tryMorning_86 1 rfl rfl ?_
    refine g_icmp_eq (tgt := 123) dX7_tryMorning_87 (by decide) (fun hc2 => ?_) (fun hc2 => ?_)
    · replace h := git hc2 h
      exact bX7_tryMorning_123_ok H74 h
    · replace h := gif hc2 h
      refine g_aload_n dX7_tryMorning_90 0 rfl rfl ?_
      refine g_getr dX7_tryMorning_91 lk_X7_42 sf_0_4 ?_
      refine g_aload_n dX7_tryMorning_94 0 rfl rfl ?_
      refine g_getr dX7_tryMorning_95 lk_X7_26 sf_0_2 ?_
      refine g_getr dX7_tryMorning_98 lk_X7_176 sf_9_0 ?_
      refine g_iload_n dX7_tryMorning_101 2 rfl rfl ?_
      obtain ⟨hv3, h⟩ := gchk h
      refine g_iald dX7_tryMorning_102 sa_10 hv3 ?_
      refine g_aload_n dX7_tryMorning_103 0 rfl rfl ?_
      refine g_getr dX7_tryMorning_104 lk_X7_26 sf_0_2 ?_
      refine g_getr dX7_tryMorning_107 lk_X7_179 sf_9_1 ?_
      refine g_iload_n dX7_tryMorning_110 2 rfl rfl ?_
      obtain ⟨hv4, h⟩ := gchk h
      refine g_iald dX7_tryMorning_111 sa_11 hv4 ?_
      refine g_aload_n dX7_tryMorning_112 0 rfl rfl ?_
      refine g_getr dX7_tryMorning_113 lk_X7_10 sf_0_0 ?_
      refine g_getj dX7_tryMorning_116 lk_X7_158 sf_1_4 ?_
      obtain ⟨q5, hq5, h⟩ := gb h
      refine g_callVi [.int (g_I S 10 (x3).toNatClampNeg), .int (g_I S 11 (x3).toNatClampNeg), .long (g_J S 1 4)] [] dX7_tryMorning_119 mk_X7_182 so_16 (ctX3_go out_16 hq5) rfl (by decide) rfl (Nat.le_of_ble_eq_true rfl) ?_
      refine g_pop dX7_tryMorning_122 rfl ?_
      exact bX7_tryMorning_123_ok H74 h
noncomputable def bX7_tryMorning_74l (F : Nat) : Nat → (Int32 × Int32 × gS) → Option (gS) := g_fix (fun k74 s => bX7_tryMorning_74 F k74 s.1 s.2.1 s.2.2)
theorem bX7_tryMorning_74l_ok {X : gX} {F : Nat} {R : gS} : ∀ (n : Nat) (s : Int32 × Int32 × gS), bX7_tryMorning_74l F n s = some R → G X RX7 cX7_tryMorning 4 none 4 none R 74 [(0, .ref (X.1 + 0)), (1, .int s.1), (3, .int s.2.1)] [] s.2.2 := by
  intro n
  induction n with
  | zero => intro s h; cases h
  | succ n ih => intro s h; exact bX7_tryMorning_74_ok (F := F) ih h
noncomputable def bX7_tryMorning_72 (F : Nat) (x1 : Int32) (S : gS) : Option (gS) := bX7_tryMorning_74l F F (x1, (0 : Int32), S)
set_option maxRecDepth 20000 in
theorem bX7_tryMorning_72_ok {X : gX} {F : Nat} {R : gS} {x1 : Int32} {S : gS} (h : bX7_tryMorning_72 F x1 S = some R) : G X RX7 cX7_tryMorning 4 none 4 none R 72 [(0, .ref (X.1 + 0)), (1, .int x1)] [] S := by
  unfold bX7_tryMorning_72 at h
  refine g_iconst (v := 0) dX7_tryMorning_72 (by decide) ?_
  refine g_istore_n (lv' := [(3, .int (0 : Int32)), (0, .ref (X.1 + 0)), (1, .int x1)]) dX7_tryMorning_73 rfl rfl (by decide) rfl ?_
  refine g_sub [1, 2, 0] rfl ?_
  exact bX7_tryMorning_74l_ok F (x1, (0 : Int32), S) h
noncomputable def bX7_tryMorning_31 (F : Nat) (x1 : Int32) (S : gS) : Option (gS) := (fX7_isWalker F x1 S).bind (fun q1 : Int32 × gS => if q1.1 = 0 then (bX7_tryMorning_72 F x1 q1.2) else (g_chk x1 8 (g_chk x1 8 ((fX3_go F 16 (g_I q1.2 10 (x1).toNatClampNeg) (g_I q1.2 11 (x1).toNatClampNeg) (g_J q1.2 1 4) q1.2).bind (fun q5 : Int32 × gS => bX7_tryMorning_72 F x1 q5.2)))))
set_option maxRecDepth 20000 in
theorem bX7_tryMorning_31_ok {X : gX} {F : Nat} {R : gS} {x1 : Int32} {S : gS} (h : bX7_tryMorning_31 F x1 S = some R) : G X RX7 cX7_tryMorning 4 none 4 none R 31 [(0, .ref (X.1 + 0)), (1, .int x1)] [] S := by
  unfold bX7_tryMorning_31 at h
  refine g_aload_n dX7_tryMorning_31 0 rfl rfl ?_
  refine g_iload_n dX7_tryMorning_32 1 rfl rfl ?_
  obtain ⟨q1, hq1, h⟩ := gb h
  refine g_callVi [.int x1] [] dX7_tryMorning_33 mk_X7_169 so_0 (ctX7_isWalker hq1) rfl (by decide) rfl (Nat.le_of_ble_eq_true rfl) ?_
  refine g_if_eq (tgt := 72) dX7_tryMorning_36 (by decide) (fun hc2 => ?_) (fun hc2 => ?_)
  · replace h := git hc2 h
    exact bX7_tryMorning_72_ok h
  · replace h := gif hc2 h
    refine g_aload_n dX7_tryMorning_39 0 rfl rfl ?_
    refine g_getr dX7_tryMorning_40 lk_X7_42 sf_0_4 ?_
    refine g_aload_n dX7_tryMorning_43 0 rfl rfl ?_
    refine g_getr dX7_tryMorning_44 lk_X7_26 sf_0_2 ?_
    refine g_getr dX7_tryMorning_47 lk_X7_176 sf_9_0 ?_
    refine g_iload_n dX7_tryMorning_50 1 rfl rfl ?_
    obtain ⟨hv3, h⟩ := gchk h
    refine g_iald dX7_tryMorning_51 sa_10 hv3 ?_
    refine g_aload_n dX7_tryMorning_52 0 rfl rfl ?_
    refine g_getr dX7_tryMorning_53 lk_X7_26 sf_0_2 ?_
    refine g_getr dX7_tryMorning_56 lk_X7_179 sf_9_1 ?_
    refine g_iload_n dX7_tryMorning_59 1 rfl rfl ?_
    obtain ⟨hv4, h⟩ := gchk h
    refine g_iald dX7_tryMorning_60 sa_11 hv4 ?_
    refine g_aload_n dX7_tryMorning_61 0 rfl rfl ?_
    refine g_getr dX7_tryMorning_62 lk_X7_10 sf_0_0 ?_
    refine g_getj dX7_tryMorning_65 lk_X7_158 sf_1_4 ?_
    obtain ⟨q5, hq5, h⟩ := gb h
    refine g_callVi [.int (g_I q1.2 10 (x1).toNatClampNeg), .int (g_I q1.2 11 (x1).toNatClampNeg), .long (g_J q1.2 1 4)] [] dX7_tryMorning_68 mk_X7_182 so_16 (ctX3_go out_16 hq5) rfl (by decide) rfl (Nat.le_of_ble_eq_true rfl) ?_
    refine g_pop dX7_tryMorning_71 rfl ?_
    exact bX7_tryMorning_72_ok h
noncomputable def fX7_tryMorning (F : Nat) (a0 : Int32) (a1 : Int32) (S : gS) : Option (gS) := (fX3_begin F 16 S).bind (fun q1 : gS => (fX7_isCell F a1 q1).bind (fun q2 : Int32 × gS => if q2.1 = 0 then (bX7_tryMorning_31 F a0 q2.2) else (g_chk a1 64 (gl (g_setI q2.2 17 (a1).toNatClampNeg (0 : Int32)) (fun S5 : gS => bX7_tryMorning_31 F a0 S5)))))
set_option maxRecDepth 20000 in
theorem fX7_tryMorning_ok {X : gX} {F : Nat} {R : gS} {a0 : Int32} {a1 : Int32} {S : gS} (h : fX7_tryMorning F a0 a1 S = some R) : G X RX7 cX7_tryMorning 4 none 4 none R 0 [(0, .ref (X.1 + 0)), (1, .int a0), (2, .int a1)] [] S := by
  unfold fX7_tryMorning at h
  refine g_aload_n dX7_tryMorning_0 0 rfl rfl ?_
  refine g_getr dX7_tryMorning_1 lk_X7_42 sf_0_4 ?_
  refine g_aload_n dX7_tryMorning_4 0 rfl rfl ?_
  refine g_getr dX7_tryMorning_5 lk_X7_19 sf_0_1 ?_
  refine g_getr dX7_tryMorning_8 lk_X7_98 sf_3_0 ?_
  obtain ⟨q1, hq1, h⟩ := gb h
  refine g_callVv [.ref (X.1 + 4)] [] dX7_tryMorning_11 mk_X7_172 so_16 (ctX3_begin out_16 hq1) rfl (by decide) rfl (Nat.le_of_ble_eq_true rfl) ?_
  refine g_iload_n dX7_tryMorning_14 2 rfl rfl ?_
  obtain ⟨q2, hq2, h⟩ := gb h
  refine g_callSi [.int a1] [] dX7_tryMorning_15 mk_X7_91 (ctX7_isCell hq2) rfl (by decide) rfl (Nat.le_of_ble_eq_true rfl) ?_
  refine g_if_eq (tgt := 31) dX7_tryMorning_18 (by decide) (fun hc3 => ?_) (fun hc3 => ?_)
  · replace h := git hc3 h
    refine g_sub [0, 1] rfl ?_
    exact bX7_tryMorning_31_ok h
  · replace h := gif hc3 h
    refine g_aload_n dX7_tryMorning_21 0 rfl rfl ?_
    refine g_getr dX7_tryMorning_22 lk_X7_42 sf_0_4 ?_
    refine g_getr dX7_tryMorning_25 lk_X7_331 sf_16_2 ?_
    refine g_iload_n dX7_tryMorning_28 2 rfl rfl ?_
    refine g_iconst (v := 0) dX7_tryMorning_29 (by decide) ?_
    obtain ⟨hv4, h⟩ := gchk h
    obtain ⟨S5, eS5, h⟩ := gle h
    refine g_iast dX7_tryMorning_30 sa_17 hv4 eS5 ?_
    refine g_sub [0, 1] rfl ?_
    exact bX7_tryMorning_31_ok h
theorem ctX7_tryMorning {X : gX} {F : Nat} {R : gS} {a0 : Int32} {a1 : Int32} {S : gS} (h : fX7_tryMorning F a0 a1 S = some R) : g_C X yX7_tryMorning cX7_tryMorning 4 none 4 [.ref (X.1 + 0), .int a0, .int a1] S none R :=
  g_met (by decide) (Nat.le_of_ble_eq_true rfl) (fX7_tryMorning_ok h)
noncomputable def fX7_morning (F : Nat) (S : gS) : Option (Int32 × gS) := (fX7_tryMorning F (-1 : Int32) (-1 : Int32) S).bind (fun q1 : gS => (fX1_treadAs F q1).bind (fun q2 : gS => some ((g_I q2 16 4), q2)))
set_option maxRecDepth 20000 in
theorem fX7_morning_ok {X : gX} {F : Nat} {R : Int32 × gS} {S : gS} (h : fX7_morning F S = some R) : G X RX7 cX7_morning 1 (some .int) 5 (some (.int R.1)) R.2 0 [(0, .ref (X.1 + 0))] [] S := by
  unfold fX7_morning at h
  refine g_aload_n dX7_morning_0 0 rfl rfl ?_
  refine g_iconst (v := -1) dX7_morning_1 (by decide) ?_
  refine g_iconst (v := -1) dX7_morning_2 (by decide) ?_
  obtain ⟨q1, hq1, h⟩ := gb h
  refine g_callVv [.int (-1 : Int32), .int (-1 : Int32)] [] dX7_morning_3 mk_X7_193 so_0 (ctX7_tryMorning hq1) rfl (by decide) rfl (Nat.le_of_ble_eq_true rfl) ?_
  refine g_aload_n dX7_morning_6 0 rfl rfl ?_
  refine g_getr dX7_morning_7 lk_X7_19 sf_0_1 ?_
  refine g_aload_n dX7_morning_10 0 rfl rfl ?_
  refine g_getr dX7_morning_11 lk_X7_42 sf_0_4 ?_
  obtain ⟨q2, hq2, h⟩ := gb h
  refine g_callVv [.ref (X.1 + 16)] [] dX7_morning_14 mk_X7_186 so_3 (ctX1_treadAs hq2) rfl (by decide) rfl (Nat.le_of_ble_eq_true rfl) ?_
  refine g_aload_n dX7_morning_17 0 rfl rfl ?_
  refine g_getr dX7_morning_18 lk_X7_42 sf_0_4 ?_
  refine g_geti dX7_morning_21 lk_X7_190 sf_16_4 ?_
  obtain rfl := Option.some.inj h
  exact g_iret dX7_morning_24 rfl
theorem ctX7_morning {X : gX} {F : Nat} {R : Int32 × gS} {S : gS} (h : fX7_morning F S = some R) : g_C X yX7_morning cX7_morning 1 (some .int) 5 [.ref (X.1 + 0)] S (some (.int R.1)) R.2 :=
  g_met (by decide) (Nat.le_of_ble_eq_true rfl) (fX7_morning_ok h)
noncomputable def fX7_told (F : Nat) (a0 : Int32) (S : gS) : Option (Int32 × gS) := if a0 = 0 then (some ((g_I S 16 4), S)) else (if a0 = 1 then (some ((g_I S 16 5), S)) else (if a0 = 2 then ((fX3_cellsPassed F 16 S).bind (fun q4 : Int32 × gS => some (q4.1, q4.2))) else (some ((g_I S 16 6), S))))
set_option maxRecDepth 20000 in
theorem fX7_told_ok {X : gX} {F : Nat} {R : Int32 × gS} {a0 : Int32} {S : gS} (h : fX7_told F a0 S = some R) : G X RX7 cX7_told 2 (some .int) 1 (some (.int R.1)) R.2 0 [(0, .ref (X.1 + 0)), (1, .int a0)] [] S := by
  unfold fX7_told at h
  refine g_iload_n dX7_told_0 1 rfl rfl ?_
  by_cases hc1 : a0 = 0
  · replace h := git hc1 h
    refine g_tabIn (off := 27) (tgt := 28) dX7_told_1 (by have z := hc1; (try unfold g_I at z); rw [z]; decide) (by have z := hc1; (try unfold g_I at z); rw [z]; decide) (by have z := hc1; (try unfold g_I at z); rw [z]; rfl) (by decide) ?_
    refine g_aload_n dX7_told_28 0 rfl rfl ?_
    refine g_getr dX7_told_29 lk_X7_42 sf_0_4 ?_
    refine g_geti dX7_told_32 lk_X7_190 sf_16_4 ?_
    obtain rfl := Option.some.inj h
    exact g_iret dX7_told_35 rfl
  · replace h := gif hc1 h
    by_cases hc2 : a0 = 1
    · replace h := git hc2 h
      refine g_tabIn (off := 35) (tgt := 36) dX7_told_1 (by have z := hc2; (try unfold g_I at z); rw [z]; decide) (by have z := hc2; (try unfold g_I at z); rw [z]; decide) (by have z := hc2; (try unfold g_I at z); rw [z]; rfl) (by decide) ?_
      refine g_aload_n dX7_told_36 0 rfl rfl ?_
      refine g_getr dX7_told_37 lk_X7_42 sf_0_4 ?_
      refine g_geti dX7_told_40 lk_X7_203 sf_16_5 ?_
      obtain rfl := Option.some.inj h
      exact g_iret dX7_told_43 rfl
    · replace h := gif hc2 h
      by_cases hc3 : a0 = 2
      · replace h := git hc3 h
        refine g_tabIn (off := 43) (tgt := 44) dX7_told_1 (by have z := hc3; (try unfold g_I at z); rw [z]; decide) (by have z := hc3; (try unfold g_I at z); rw [z]; decide) (by have z := hc3; (try unfold g_I at z); rw [z]; rfl) (by decide) ?_
        refine g_aload_n dX7_told_44 0 rfl rfl ?_
        refine g_getr dX7_told_45 lk_X7_42 sf_0_4 ?_
        obtain ⟨q4, hq4, h⟩ := gb h
        refine g_callVi [] [] dX7_told_48 mk_X7_332 so_16 (ctX3_cellsPassed out_16 hq4) rfl (by decide) rfl (Nat.le_of_ble_eq_true rfl) ?_
        obtain rfl := Option.some.inj h
        exact g_iret dX7_told_51 rfl
      · replace h := gif hc3 h
        refine g_tabOut (tgt := 52) dX7_told_1 (g_tout (fun c h1 h2 => by have z0 := g_tne hc1; have z1 := g_tne hc2; have z2 := g_tne hc3; rw [show ((0 : Int32)).toInt = 0 from by decide] at z0; rw [show ((1 : Int32)).toInt = 1 from by decide] at z1; rw [show ((2 : Int32)).toInt = 2 from by decide] at z2; omega)) (by decide) ?_
        refine g_aload_n dX7_told_52 0 rfl rfl ?_
        refine g_getr dX7_told_53 lk_X7_42 sf_0_4 ?_
        refine g_geti dX7_told_56 lk_X7_335 sf_16_6 ?_
        obtain rfl := Option.some.inj h
        exact g_iret dX7_told_59 rfl
theorem ctX7_told {X : gX} {F : Nat} {R : Int32 × gS} {a0 : Int32} {S : gS} (h : fX7_told F a0 S = some R) : g_C X yX7_told cX7_told 2 (some .int) 1 [.ref (X.1 + 0), .int a0] S (some (.int R.1)) R.2 :=
  g_met (by decide) (Nat.le_of_ble_eq_true rfl) (fX7_told_ok h)
noncomputable def fX7_all (F : Nat) (a0 : Int32) (S : gS) : Option (Int32 × gS) := if a0 < 0 then (some ((-2 : Int32), S)) else (if a0 ≤ (3 : Int32) then ((fX7_tryMorning F (-1 : Int32) (-1 : Int32) S).bind (fun q3 : gS => (fX7_told F a0 q3).bind (fun q4 : Int32 × gS => some (q4.1, q4.2)))) else (some ((-2 : Int32), S)))
set_option maxRecDepth 20000 in
theorem fX7_all_ok {X : gX} {F : Nat} {R : Int32 × gS} {a0 : Int32} {S : gS} (h : fX7_all F a0 S = some R) : G X RX7 cX7_all 2 (some .int) 5 (some (.int R.1)) R.2 0 [(0, .ref (X.1 + 0)), (1, .int a0)] [] S := by
  unfold fX7_all at h
  refine g_iload_n dX7_all_0 1 rfl rfl ?_
  refine g_if_lt (tgt := 9) dX7_all_1 (by decide) (fun hc1 => ?_) (fun hc1 => ?_)
  · replace h := git hc1 h
    refine g_bipush (v := -2) dX7_all_9 (by decide) ?_
    obtain rfl := Option.some.inj h
    exact g_iret dX7_all_11 rfl
  · replace h := gif hc1 h
    refine g_iload_n dX7_all_4 1 rfl rfl ?_
    refine g_iconst (v := 3) dX7_all_5 (by decide) ?_
    refine g_icmp_le (tgt := 12) dX7_all_6 (by decide) (fun hc2 => ?_) (fun hc2 => ?_)
    · replace h := git hc2 h
      refine g_aload_n dX7_all_12 0 rfl rfl ?_
      refine g_iconst (v := -1) dX7_all_13 (by decide) ?_
      refine g_iconst (v := -1) dX7_all_14 (by decide) ?_
      obtain ⟨q3, hq3, h⟩ := gb h
      refine g_callVv [.int (-1 : Int32), .int (-1 : Int32)] [] dX7_all_15 mk_X7_193 so_0 (ctX7_tryMorning hq3) rfl (by decide) rfl (Nat.le_of_ble_eq_true rfl) ?_
      refine g_aload_n dX7_all_18 0 rfl rfl ?_
      refine g_iload_n dX7_all_19 1 rfl rfl ?_
      obtain ⟨q4, hq4, h⟩ := gb h
      refine g_callVi [.int a0] [] dX7_all_20 mk_X7_197 so_0 (ctX7_told hq4) rfl (by decide) rfl (Nat.le_of_ble_eq_true rfl) ?_
      obtain rfl := Option.some.inj h
      exact g_iret dX7_all_23 rfl
    · replace h := gif hc2 h
      refine g_bipush (v := -2) dX7_all_9 (by decide) ?_
      obtain rfl := Option.some.inj h
      exact g_iret dX7_all_11 rfl
theorem ctX7_all {X : gX} {F : Nat} {R : Int32 × gS} {a0 : Int32} {S : gS} (h : fX7_all F a0 S = some R) : g_C X yX7_all cX7_all 2 (some .int) 5 [.ref (X.1 + 0), .int a0] S (some (.int R.1)) R.2 :=
  g_met (by decide) (Nat.le_of_ble_eq_true rfl) (fX7_all_ok h)
noncomputable def fX7_fewestSteps (F : Nat) (a0 : Int32) (S : gS) : Option (Int32 × gS) := gl ((g_J S 1 3) ||| (g_J S 1 4)) (fun v1 : Int64 => g_chk a0 8 (g_chk a0 8 ((fX4_find F 8 (g_I S 10 (a0).toNatClampNeg) (g_I S 11 (a0).toNatClampNeg) v1 S).bind (fun q4 : Int32 × gS => some (q4.1, q4.2)))))
set_option maxRecDepth 20000 in
theorem fX7_fewestSteps_ok {X : gX} {F : Nat} {R : Int32 × gS} {a0 : Int32} {S : gS} (h : fX7_fewestSteps F a0 S = some R) : G X RX7 cX7_fewestSteps 4 (some .int) 3 (some (.int R.1)) R.2 0 [(0, .ref (X.1 + 0)), (1, .int a0)] [] S := by
  unfold fX7_fewestSteps at h
  refine g_aload_n dX7_fewestSteps_0 0 rfl rfl ?_
  refine g_getr dX7_fewestSteps_1 lk_X7_10 sf_0_0 ?_
  refine g_getj dX7_fewestSteps_4 lk_X7_111 sf_1_3 ?_
  refine g_aload_n dX7_fewestSteps_7 0 rfl rfl ?_
  refine g_getr dX7_fewestSteps_8 lk_X7_10 sf_0_0 ?_
  refine g_getj dX7_fewestSteps_11 lk_X7_158 sf_1_4 ?_
  refine g_lor dX7_fewestSteps_14 ?_
  obtain ⟨v1, ev1, h⟩ := gle h
  refine g_lstore_n (lv' := [(2, .long v1), (0, .ref (X.1 + 0)), (1, .int a0)]) dX7_fewestSteps_15 ev1 rfl (by decide) rfl ?_
  refine g_aload_n dX7_fewestSteps_16 1 rfl rfl ?_
  refine g_getr dX7_fewestSteps_17 lk_X7_33 sf_0_3 ?_
  refine g_aload_n dX7_fewestSteps_20 1 rfl rfl ?_
  refine g_getr dX7_fewestSteps_21 lk_X7_26 sf_0_2 ?_
  refine g_getr dX7_fewestSteps_24 lk_X7_176 sf_9_0 ?_
  refine g_iload_n dX7_fewestSteps_27 2 rfl rfl ?_
  obtain ⟨hv2, h⟩ := gchk h
  refine g_iald dX7_fewestSteps_28 sa_10 hv2 ?_
  refine g_aload_n dX7_fewestSteps_29 1 rfl rfl ?_
  refine g_getr dX7_fewestSteps_30 lk_X7_26 sf_0_2 ?_
  refine g_getr dX7_fewestSteps_33 lk_X7_179 sf_9_1 ?_
  refine g_iload_n dX7_fewestSteps_36 2 rfl rfl ?_
  obtain ⟨hv3, h⟩ := gchk h
  refine g_iald dX7_fewestSteps_37 sa_11 hv3 ?_
  refine g_lload_n dX7_fewestSteps_38 0 rfl rfl ?_
  refine g_aload_n dX7_fewestSteps_39 1 rfl rfl ?_
  refine g_getr dX7_fewestSteps_40 lk_X7_19 sf_0_1 ?_
  refine g_getr dX7_fewestSteps_43 lk_X7_338 sf_3_4 ?_
  obtain ⟨q4, hq4, h⟩ := gb h
  refine g_callVi [.int (g_I S 10 (a0).toNatClampNeg), .int (g_I S 11 (a0).toNatClampNeg), .long v1, .ref (X.1 + 8)] [] dX7_fewestSteps_46 mk_X7_161 so_12 (ctX4_find sa_8 hq4) rfl (by decide) rfl (Nat.le_of_ble_eq_true rfl) ?_
  obtain rfl := Option.some.inj h
  exact g_iret dX7_fewestSteps_49 rfl
theorem ctX7_fewestSteps {X : gX} {F : Nat} {R : Int32 × gS} {a0 : Int32} {S : gS} (h : fX7_fewestSteps F a0 S = some R) : g_C X yX7_fewestSteps cX7_fewestSteps 4 (some .int) 3 [.ref (X.1 + 0), .int a0] S (some (.int R.1)) R.2 :=
  g_met (by decide) (Nat.le_of_ble_eq_true rfl) (fX7_fewestSteps_ok h)
noncomputable def fX7_straight (F : Nat) (a0 : Int32) (S : gS) : Option (Int32 × gS) := (fX7_isWalker F a0 S).bind (fun q1 : Int32 × gS => if q1.1 = 0 then (some ((-2 : Int32), q1.2)) else ((fX7_fewestSteps F a0 q1.2).bind (fun q3 : Int32 × gS => some (q3.1, q3.2))))
set_option maxRecDepth 20000 in
theorem fX7_straight_ok {X : gX} {F : Nat} {R : Int32 × gS} {a0 : Int32} {S : gS} (h : fX7_straight F a0 S = some R) : G X RX7 cX7_straight 2 (some .int) 4 (some (.int R.1)) R.2 0 [(0, .ref (X.1 + 0)), (1, .int a0)] [] S := by
  unfold fX7_straight at h
  refine g_aload_n dX7_straight_0 0 rfl rfl ?_
  refine g_iload_n dX7_straight_1 1 rfl rfl ?_
  obtain ⟨q1, hq1, h⟩ := gb h
  refine g_callVi [.int a0] [] dX7_straight_2 mk_X7_169 so_0 (ctX7_isWalker hq1) rfl (by decide) rfl (Nat.le_of_ble_eq_true rfl) ?_
  refine g_if_ne (tgt := 11) dX7_straight_5 (by decide) (fun hc2 => ?_) (fun hc2 => ?_)
  · replace h := gif hc2 h
    refine g_aload_n dX7_straight_11 0 rfl rfl ?_
    refine g_iload_n dX7_straight_12 1 rfl rfl ?_
    obtain ⟨q3, hq3, h⟩ := gb h
    refine g_callVi [.int a0] [] dX7_straight_13 mk_X7_200 so_0 (ctX7_fewestSteps hq3) rfl (by decide) rfl (Nat.le_of_ble_eq_true rfl) ?_
    obtain rfl := Option.some.inj h
    exact g_iret dX7_straight_16 rfl
  · replace h := git hc2 h
    refine g_bipush (v := -2) dX7_straight_8 (by decide) ?_
    obtain rfl := Option.some.inj h
    exact g_iret dX7_straight_10 rfl
theorem ctX7_straight {X : gX} {F : Nat} {R : Int32 × gS} {a0 : Int32} {S : gS} (h : fX7_straight F a0 S = some R) : g_C X yX7_straight cX7_straight 2 (some .int) 4 [.ref (X.1 + 0), .int a0] S (some (.int R.1)) R.2 :=
  g_met (by decide) (Nat.le_of_ble_eq_true rfl) (fX7_straight_ok h)
noncomputable def bX7_longer_90 (F : Nat) (k18 : (Int32 × Int32 × gS) → Option (Int32 × gS)) (x1 : Int32) (x2 : Int32) (S : gS) : Option (Int32 × gS) := gl (x2 + 1) (fun v1 : Int32 => k18 (x1, v1, S))
set_option maxRecDepth 20000 in
theorem bX7_longer_90_ok {X : gX} {F : Nat} {k18 : (Int32 × Int32 × gS) → Option (Int32 × gS)} {R : Int32 × gS} (H18 : ∀ s : Int32 × Int32 × gS, k18 s = some R → G X RX7 cX7_longer 4 (some .int) 4 (some (.int R.1)) R.2 18 [(0, .ref (X.1 + 0)), (1, .int s.1), (2, .int s.2.1)] [] s.2.2) {x1 : Int32} {x2 : Int32} {S : gS} (h : bX7_longer_90 F k18 x1 x2 S = some R) : G X RX7 cX7_longer 4 (some .int) 4 (some (.int R.1)) R.2 90 [(0, .ref (X.1 + 0)), (1, .int x1), (2, .int x2)] [] S := by
  unfold bX7_longer_90 at h
  obtain ⟨v1, ev1, h⟩ := gle h
  refine g_iinc (q := 2) (v := v1) (lv' := [(2, .int v1), (0, .ref (X.1 + 0)), (1, .int x1)]) dX7_longer_90 rfl (by rw [← ev1]; rfl) (by decide) rfl ?_
  refine g_goto (tgt := 18) dX7_longer_93 (by decide) ?_
  refine g_sub [1, 2, 0] rfl ?_
  exact H18 (x1, v1, S) h
noncomputable def bX7_longer_18 (F : Nat) (k18 : (Int32 × Int32 × gS) → Option (Int32 × gS)) (x1 : Int32) (x2 : Int32) (S : gS) : Option (Int32 × gS) := if (g_I S 9 2) ≤ x2 then (some (x1, S)) else (gl (g_I S 16 5) (fun v2 : Int32 => g_chk x2 8 (g_chk x2 8 ((fX3_go F 16 (g_I S 10 (x2).toNatClampNeg) (g_I S 11 (x2).toNatClampNeg) (g_J S 1 4) S).bind (fun q5 : Int32 × gS => if q5.1 = 0 then (bX7_longer_90 F k18 x1 x2 q5.2) else ((fX7_fewestSteps F x2 q5.2).bind (fun q7 : Int32 × gS => gl (x1 + (((g_I q5.2 16 5) - v2) - q7.1)) (fun v8 : Int32 => bX7_longer_90 F k18 v8 x2 q7.2))))))))
set_option maxRecDepth 20000 in
theorem bX7_longer_18_ok {X : gX} {F : Nat} {k18 : (Int32 × Int32 × gS) → Option (Int32 × gS)} {R : Int32 × gS} (H18 : ∀ s : Int32 × Int32 × gS, k18 s = some R → G X RX7 cX7_longer 4 (some .int) 4 (some (.int R.1)) R.2 18 [(0, .ref (X.1 + 0)), (1, .int s.1), (2, .int s.2.1)] [] s.2.2) {x1 : Int32} {x2 : Int32} {S : gS} (h : bX7_longer_18 F k18 x1 x2 S = some R) : G X RX7 cX7_longer 4 (some .int) 4 (some (.int R.1)) R.2 18 [(0, .ref (X.1 + 0)), (1, .int x1), (2, .int x2)] [] S := by
  unfold bX7_longer_18 at h
  refine g_iload_n dX7_longer_18 2 rfl rfl ?_
  refine g_aload_n dX7_longer_19 0 rfl rfl ?_
  refine g_getr dX7_longer_20 lk_X7_26 sf_0_2 ?_
  refine g_geti dX7_longer_23 lk_X7_155 sf_9_2 ?_
  refine g_icmp_ge (tgt := 96) dX7_longer_26 (by decide) (fun hc1 => ?_) (fun hc1 => ?_)
  · replace h := git hc1 h
    refine g_iload_n dX7_longer_96 1 rfl rfl ?_
    obtain rfl := Option.some.inj h
    exact g_iret dX7_longer_97 rfl
  · replace h := gif hc1 h
    refine g_aload_n dX7_longer_29 0 rfl rfl ?_
    refine g_getr dX7_longer_30 lk_X7_42 sf_0_4 ?_
    refine g_geti dX7_longer_33 lk_X7_203 sf_16_5 ?_
    obtain ⟨v2, ev2, h⟩ := gle h
    refine g_istore_n (lv' := [(3, .int v2), (0, .ref (X.1 + 0)), (1, .int x1), (2, .int x2)]) dX7_longer_36 ev2 rfl (by decide) rfl ?_
    refine g_aload_n dX7_longer_37 1 rfl rfl ?_
    refine g_getr dX7_longer_38 lk_X7_42 sf_0_4 ?_
    refine g_aload_n dX7_longer_41 1 rfl rfl ?_
    refine g_getr dX7_longer_42 lk_X7_26 sf_0_2 ?_
    refine g_getr dX7_longer_45 lk_X7_176 sf_9_0 ?_
    refine g_iload_n dX7_longer_48 3 rfl rfl ?_
    obtain ⟨hv3, h⟩ := gchk h
    refine g_iald dX7_longer_49 sa_10 hv3 ?_
    refine g_aload_n dX7_longer_50 1 rfl rfl ?_
    refine g_getr dX7_longer_51 lk_X7_26 sf_0_2 ?_
    refine g_getr dX7_longer_54 lk_X7_179 sf_9_1 ?_
    refine g_iload_n dX7_longer_57 3 rfl rfl ?_
    obtain ⟨hv4, h⟩ := gchk h
    refine g_iald dX7_longer_58 sa_11 hv4 ?_
    refine g_aload_n dX7_longer_59 1 rfl rfl ?_
    refine g_getr dX7_longer_60 lk_X7_10 sf_0_0 ?_
    refine g_getj dX7_longer_63 lk_X7_158 sf_1_4 ?_
    obtain ⟨q5, hq5, h⟩ := gb h
    refine g_callVi [.int (g_I S 10 (x2).toNatClampNeg), .int (g_I S 11 (x2).toNatClampNeg), .long (g_J S 1 4)] [] dX7_longer_66 mk_X7_182 so_16 (ctX3_go out_16 hq5) rfl (by decide) rfl (Nat.le_of_ble_eq_true rfl) ?_
    refine g_if_eq (tgt := 90) dX7_longer_69 (by decide) (fun hc6 => ?_) (fun hc6 => ?_)
    · replace h := git hc6 h
      refine g_sub [1, 2, 3] rfl ?_
      exact bX7_longer_90_ok H18 h
    · replace h := gif hc6 h
      refine g_iload_n dX7_longer_72 2 rfl rfl ?_
      refine g_aload_n dX7_longer_73 1 rfl rfl ?_
      refine g_getr dX7_longer_74 lk_X7_42 sf_0_4 ?_
      refine g_geti dX7_longer_77 lk_X7_203 sf_16_5 ?_
      refine g_iload_n dX7_longer_80 0 rfl rfl ?_
      refine g_isub dX7_longer_81 ?_
      refine g_aload_n dX7_longer_82 1 rfl rfl ?_
      refine g_iload_n dX7_longer_83 3 rfl rfl ?_
      obtain ⟨q7, hq7, h⟩ := gb h
      refine g_callVi [.int x2] [.int ((g_I q5.2 16 5) - v2), .int x1] dX7_longer_84 mk_X7_200 so_0 (ctX7_fewestSteps hq7) rfl (by decide) rfl (Nat.le_of_ble_eq_true rfl) ?_
      refine g_isub dX7_longer_87 ?_
      refine g_iadd dX7_longer_88 ?_
      obtain ⟨v8, ev8, h⟩ := gle h
      refine g_istore_n (lv' := [(1, .int v8), (3, .int v2), (0, .ref (X.1 + 0)), (2, .int x2)]) dX7_longer_89 ev8 rfl (by decide) rfl ?_
      refine g_sub [2, 0, 3] rfl ?_
      exact bX7_longer_90_ok H18 h
noncomputable def bX7_longer_18l (F : Nat) : Nat → (Int32 × Int32 × gS) → Option (Int32 × gS) := g_fix (fun k18 s => bX7_longer_18 F k18 s.1 s.2.1 s.2.2)
theorem bX7_longer_18l_ok {X : gX} {F : Nat} {R : Int32 × gS} : ∀ (n : Nat) (s : Int32 × Int32 × gS), bX7_longer_18l F n s = some R → G X RX7 cX7_longer 4 (some .int) 4 (some (.int R.1)) R.2 18 [(0, .ref (X.1 + 0)), (1, .int s.1), (2, .int s.2.1)] [] s.2.2 := by
  intro n
  induction n with
  | zero => intro s h; cases h
  | succ n ih => intro s h; exact bX7_longer_18_ok (F := F) ih h
noncomputable def fX7_longer (F : Nat) (S : gS) : Option (Int32 × gS) := (fX3_begin F 16 S).bind (fun q1 : gS => bX7_longer_18l F F ((0 : Int32), (0 : Int32), q1))
set_option maxRecDepth 20000 in
theorem fX7_longer_ok {X : gX} {F : Nat} {R : Int32 × gS} {S : gS} (h : fX7_longer F S = some R) : G X RX7 cX7_longer 4 (some .int) 4 (some (.int R.1)) R.2 0 [(0, .ref (X.1 + 0))] [] S := by
  unfold fX7_longer at h
  refine g_aload_n dX7_longer_0 0 rfl rfl ?_
  refine g_getr dX7_longer_1 lk_X7_42 sf_0_4 ?_
  refine g_aload_n dX7_longer_4 0 rfl rfl ?_
  refine g_getr dX7_longer_5 lk_X7_19 sf_0_1 ?_
  refine g_getr dX7_longer_8 lk_X7_98 sf_3_0 ?_
  obtain ⟨q1, hq1, h⟩ := gb h
  refine g_callVv [.ref (X.1 + 4)] [] dX7_longer_11 mk_X7_172 so_16 (ctX3_begin out_16 hq1) rfl (by decide) rfl (Nat.le_of_ble_eq_true rfl) ?_
  refine g_iconst (v := 0) dX7_longer_14 (by decide) ?_
  refine g_istore_n (lv' := [(1, .int (0 : Int32)), (0, .ref (X.1 + 0))]) dX7_longer_15 rfl rfl (by decide) rfl ?_
  refine g_iconst (v := 0) dX7_longer_16 (by decide) ?_
  refine g_istore_n (lv' := [(2, .int (0 : Int32)), (1, .int (0 : Int32)), (0, .ref (X.1 + 0))]) dX7_longer_17 rfl rfl (by decide) rfl ?_
  refine g_sub [2, 1, 0] rfl ?_
  exact bX7_longer_18l_ok F ((0 : Int32), (0 : Int32), q1) h
theorem ctX7_longer {X : gX} {F : Nat} {R : Int32 × gS} {S : gS} (h : fX7_longer F S = some R) : g_C X yX7_longer cX7_longer 4 (some .int) 4 [.ref (X.1 + 0)] S (some (.int R.1)) R.2 :=
  g_met (by decide) (Nat.le_of_ble_eq_true rfl) (fX7_longer_ok h)
noncomputable def fX7_orders (F : Nat) (a0 : Int32) (S : gS) : Option (Int32 × gS) := if a0 < 0 then (some ((-2 : Int32), S)) else (if a0 ≤ (1 : Int32) then (if (g_I S 9 2) ≤ (5 : Int32) then ((fX2_tryAll_n F S).bind (fun q4 : gS => if a0 = 0 then (some ((g_I q4 19 6), q4)) else (some ((g_I q4 19 7), q4)))) else (some ((-4 : Int32), S))) else (some ((-2 : Int32), S)))
set_option maxRecDepth 20000 in
theorem fX7_orders_ok {X : gX} {F : Nat} {R : Int32 × gS} {a0 : Int32} {S : gS} (h : fX7_orders F a0 S = some R) : G X RX7 cX7_orders 2 (some .int) 6 (some (.int R.1)) R.2 0 [(0, .ref (X.1 + 0)), (1, .int a0)] [] S := by
  unfold fX7_orders at h
  refine g_iload_n dX7_orders_0 1 rfl rfl ?_
  refine g_if_lt (tgt := 9) dX7_orders_1 (by decide) (fun hc1 => ?_) (fun hc1 => ?_)
  · replace h := git hc1 h
    refine g_bipush (v := -2) dX7_orders_9 (by decide) ?_
    obtain rfl := Option.some.inj h
    exact g_iret dX7_orders_11 rfl
  · replace h := gif hc1 h
    refine g_iload_n dX7_orders_4 1 rfl rfl ?_
    refine g_iconst (v := 1) dX7_orders_5 (by decide) ?_
    refine g_icmp_le (tgt := 12) dX7_orders_6 (by decide) (fun hc2 => ?_) (fun hc2 => ?_)
    · replace h := git hc2 h
      refine g_aload_n dX7_orders_12 0 rfl rfl ?_
      refine g_getr dX7_orders_13 lk_X7_26 sf_0_2 ?_
      refine g_geti dX7_orders_16 lk_X7_155 sf_9_2 ?_
      refine g_iconst (v := 5) dX7_orders_19 (by decide) ?_
      refine g_icmp_le (tgt := 26) dX7_orders_20 (by decide) (fun hc3 => ?_) (fun hc3 => ?_)
      · replace h := git hc3 h
        refine g_aload_n dX7_orders_26 0 rfl rfl ?_
        refine g_getr dX7_orders_27 lk_X7_51 sf_0_5 ?_
        refine g_aload_n dX7_orders_30 0 rfl rfl ?_
        refine g_getr dX7_orders_31 lk_X7_19 sf_0_1 ?_
        refine g_getr dX7_orders_34 lk_X7_98 sf_3_0 ?_
        refine g_null dX7_orders_37 ?_
        obtain ⟨q4, hq4, h⟩ := gb h
        refine g_callVv [.ref (X.1 + 4), .null] [] dX7_orders_38 mk_X7_206 so_19 (ctX2_tryAll_n hq4) rfl (by decide) rfl (Nat.le_of_ble_eq_true rfl) ?_
        refine g_iload_n dX7_orders_41 1 rfl rfl ?_
        refine g_if_ne (tgt := 55) dX7_orders_42 (by decide) (fun hc5 => ?_) (fun hc5 => ?_)
        · replace h := gif hc5 h
          refine g_aload_n dX7_orders_55 0 rfl rfl ?_
          refine g_getr dX7_orders_56 lk_X7_51 sf_0_5 ?_
          refine g_geti dX7_orders_59 lk_X7_213 sf_19_7 ?_
          obtain rfl := Option.some.inj h
          exact g_iret dX7_orders_62 rfl
        · replace h := git hc5 h
          refine g_aload_n dX7_orders_45 0 rfl rfl ?_
          refine g_getr dX7_orders_46 lk_X7_51 sf_0_5 ?_
          refine g_geti dX7_orders_49 lk_X7_210 sf_19_6 ?_
          refine g_goto (tgt := 62) dX7_orders_52 (by decide) ?_
          obtain rfl := Option.some.inj h
          exact g_iret dX7_orders_62 rfl
      · replace h := gif hc3 h
        refine g_bipush (v := -4) dX7_orders_23 (by decide) ?_
        obtain rfl := Option.some.inj h
        exact g_iret dX7_orders_25 rfl
    · replace h := gif hc2 h
      refine g_bipush (v := -2) dX7_orders_9 (by decide) ?_
      obtain rfl := Option.some.inj h
      exact g_iret dX7_orders_11 rfl
theorem ctX7_orders {X : gX} {F : Nat} {R : Int32 × gS} {a0 : Int32} {S : gS} (h : fX7_orders F a0 S = some R) : g_C X yX7_orders cX7_orders 2 (some .int) 6 [.ref (X.1 + 0), .int a0] S (some (.int R.1)) R.2 :=
  g_met (by decide) (Nat.le_of_ble_eq_true rfl) (fX7_orders_ok h)
noncomputable def fX7_order (F : Nat) (a0 : Int32) (S : gS) : Option (Int32 × gS) := if 0 ≤ a0 then (if (g_I S 9 2) ≤ (5 : Int32) then (if a0 < (g_I S 9 2) then ((fX2_tryAll_n F S).bind (fun q4 : gS => g_chk a0 5 (some ((g_I q4 22 (a0).toNatClampNeg), q4)))) else (some ((-2 : Int32), S))) else (some ((-4 : Int32), S))) else (some ((-2 : Int32), S))
set_option maxRecDepth 20000 in
theorem fX7_order_ok {X : gX} {F : Nat} {R : Int32 × gS} {a0 : Int32} {S : gS} (h : fX7_order F a0 S = some R) : G X RX7 cX7_order 2 (some .int) 6 (some (.int R.1)) R.2 0 [(0, .ref (X.1 + 0)), (1, .int a0)] [] S := by
  unfold fX7_order at h
  refine g_iload_n dX7_order_0 1 rfl rfl ?_
  refine g_if_ge (tgt := 7) dX7_order_1 (by decide) (fun hc1 => ?_) (fun hc1 => ?_)
  · replace h := git hc1 h
    refine g_aload_n dX7_order_7 0 rfl rfl ?_
    refine g_getr dX7_order_8 lk_X7_26 sf_0_2 ?_
    refine g_geti dX7_order_11 lk_X7_155 sf_9_2 ?_
    refine g_iconst (v := 5) dX7_order_14 (by decide) ?_
    refine g_icmp_le (tgt := 21) dX7_order_15 (by decide) (fun hc2 => ?_) (fun hc2 => ?_)
    · replace h := git hc2 h
      refine g_iload_n dX7_order_21 1 rfl rfl ?_
      refine g_aload_n dX7_order_22 0 rfl rfl ?_
      refine g_getr dX7_order_23 lk_X7_26 sf_0_2 ?_
      refine g_geti dX7_order_26 lk_X7_155 sf_9_2 ?_
      refine g_icmp_lt (tgt := 35) dX7_order_29 (by decide) (fun hc3 => ?_) (fun hc3 => ?_)
      · replace h := git hc3 h
        refine g_aload_n dX7_order_35 0 rfl rfl ?_
        refine g_getr dX7_order_36 lk_X7_51 sf_0_5 ?_
        refine g_aload_n dX7_order_39 0 rfl rfl ?_
        refine g_getr dX7_order_40 lk_X7_19 sf_0_1 ?_
        refine g_getr dX7_order_43 lk_X7_98 sf_3_0 ?_
        refine g_null dX7_order_46 ?_
        obtain ⟨q4, hq4, h⟩ := gb h
        refine g_callVv [.ref (X.1 + 4), .null] [] dX7_order_47 mk_X7_206 so_19 (ctX2_tryAll_n hq4) rfl (by decide) rfl (Nat.le_of_ble_eq_true rfl) ?_
        refine g_aload_n dX7_order_50 0 rfl rfl ?_
        refine g_getr dX7_order_51 lk_X7_51 sf_0_5 ?_
        refine g_getr dX7_order_54 lk_X7_216 sf_19_4 ?_
        refine g_iload_n dX7_order_57 1 rfl rfl ?_
        obtain ⟨hv5, h⟩ := gchk h
        refine g_iald dX7_order_58 sa_22 hv5 ?_
        obtain rfl := Option.some.inj h
        exact g_iret dX7_order_59 rfl
      · replace h := gif hc3 h
        refine g_bipush (v := -2) dX7_order_32 (by decide) ?_
        obtain rfl := Option.some.inj h
        exact g_iret dX7_order_34 rfl
    · replace h := gif hc2 h
      refine g_bipush (v := -4) dX7_order_18 (by decide) ?_
      obtain rfl := Option.some.inj h
      exact g_iret dX7_order_20 rfl
  · replace h := gif hc1 h
    refine g_bipush (v := -2) dX7_order_4 (by decide) ?_
    obtain rfl := Option.some.inj h
    exact g_iret dX7_order_6 rfl
theorem ctX7_order {X : gX} {F : Nat} {R : Int32 × gS} {a0 : Int32} {S : gS} (h : fX7_order F a0 S = some R) : g_C X yX7_order cX7_order 2 (some .int) 6 [.ref (X.1 + 0), .int a0] S (some (.int R.1)) R.2 :=
  g_met (by decide) (Nat.le_of_ble_eq_true rfl) (fX7_order_ok h)
noncomputable def bX7_seekFirst_67 (F : Nat) (k12 : (Int32 × gS) → Option (gS)) (x1 : Int32) (S : gS) : Option (gS) := gl (x1 + 1) (fun v1 : Int32 => k12 (v1, S))
set_option maxRecDepth 20000 in
theorem bX7_seekFirst_67_ok {X : gX} {F : Nat} {k12 : (Int32 × gS) → Option (gS)} {R : gS} (H12 : ∀ s : Int32 × gS, k12 s = some R → G X RX7 cX7_seekFirst 2 none 5 none R 12 [(0, .ref (X.1 + 0)), (1, .int s.1)] [] s.2) {x1 : Int32} {S : gS} (h : bX7_seekFirst_67 F k12 x1 S = some R) : G X RX7 cX7_seekFirst 2 none 5 none R 67 [(0, .ref (X.1 + 0)), (1, .int x1)] [] S := by
  unfold bX7_seekFirst_67 at h
  obtain ⟨v1, ev1, h⟩ := gle h
  refine g_iinc (q := 1) (v := v1) (lv' := [(1, .int v1), (0, .ref (X.1 + 0))]) dX7_seekFirst_67 rfl (by rw [← ev1]; rfl) (by decide) rfl ?_
  refine g_goto (tgt := 12) dX7_seekFirst_70 (by decide) ?_
  refine g_sub [1, 0] rfl ?_
  exact H12 (v1, S) h
noncomputable def bX7_seekFirst_51 (F : Nat) (k12 : (Int32 × gS) → Option (gS)) (x1 : Int32) (S : gS) : Option (gS) := gl (g_setI S 0 8 x1) (fun S1 : gS => gl (g_setI S1 0 9 (g_I S1 16 4)) (fun S2 : gS => bX7_seekFirst_67 F k12 x1 S2))
set_option maxRecDepth 20000 in
theorem bX7_seekFirst_51_ok {X : gX} {F : Nat} {k12 : (Int32 × gS) → Option (gS)} {R : gS} (H12 : ∀ s : Int32 × gS, k12 s = some R → G X RX7 cX7_seekFirst 2 none 5 none R 12 [(0, .ref (X.1 + 0)), (1, .int s.1)] [] s.2) {x1 : Int32} {S : gS} (h : bX7_seekFirst_51 F k12 x1 S = some R) : G X RX7 cX7_seekFirst 2 none 5 none R 51 [(0, .ref (X.1 + 0)), (1, .int x1)] [] S := by
  unfold bX7_seekFirst_51 at h
  refine g_aload_n dX7_seekFirst_51 0 rfl rfl ?_
  refine g_iload_n dX7_seekFirst_52 1 rfl rfl ?_
  obtain ⟨S1, eS1, h⟩ := gle h
  refine g_puti dX7_seekFirst_53 lp_X7_65 sf_0_8 eS1 ?_
  refine g_aload_n dX7_seekFirst_56 0 rfl rfl ?_
  refine g_aload_n dX7_seekFirst_57 0 rfl rfl ?_
  refine g_getr dX7_seekFirst_58 lk_X7_42 sf_0_4 ?_
  refine g_geti dX7_seekFirst_61 lk_X7_190 sf_16_4 ?_
  obtain ⟨S2, eS2, h⟩ := gle h
  refine g_puti dX7_seekFirst_64 lp_X7_68 sf_0_9 eS2 ?_
  exact bX7_seekFirst_67_ok H12 h
noncomputable def bX7_seekFirst_12 (F : Nat) (k12 : (Int32 × gS) → Option (gS)) (x1 : Int32) (S : gS) : Option (gS) := if (g_I S 9 2) ≤ x1 then (some S) else ((fX7_tryMorning F x1 (-1 : Int32) S).bind (fun q2 : gS => if (g_I q2 0 8) = (-1 : Int32) then (bX7_seekFirst_51 F k12 x1 q2) else (if (g_I q2 0 9) ≤ (g_I q2 16 4) then (bX7_seekFirst_67 F k12 x1 q2) else (bX7_seekFirst_51 F k12 x1 q2))))
set_option maxRecDepth 20000 in
theorem bX7_seekFirst_12_ok {X : gX} {F : Nat} {k12 : (Int32 × gS) → Option (gS)} {R : gS} (H12 : ∀ s : Int32 × gS, k12 s = some R → G X RX7 cX7_seekFirst 2 none 5 none R 12 [(0, .ref (X.1 + 0)), (1, .int s.1)] [] s.2) {x1 : Int32} {S : gS} (h : bX7_seekFirst_12 F k12 x1 S = some R) : G X RX7 cX7_seekFirst 2 none 5 none R 12 [(0, .ref (X.1 + 0)), (1, .int x1)] [] S := by
  unfold bX7_seekFirst_12 at h
  refine g_iload_n dX7_seekFirst_12 1 rfl rfl ?_
  refine g_aload_n dX7_seekFirst_13 0 rfl rfl ?_
  refine g_getr dX7_seekFirst_14 lk_X7_26 sf_0_2 ?_
  refine g_geti dX7_seekFirst_17 lk_X7_155 sf_9_2 ?_
  refine g_icmp_ge (tgt := 73) dX7_seekFirst_20 (by decide) (fun hc1 => ?_) (fun hc1 => ?_)
  · replace h := git hc1 h
    obtain rfl := Option.some.inj h
    exact g_vret dX7_seekFirst_73 rfl
  · replace h := gif hc1 h
    refine g_aload_n dX7_seekFirst_23 0 rfl rfl ?_
    refine g_iload_n dX7_seekFirst_24 1 rfl rfl ?_
    refine g_iconst (v := -1) dX7_seekFirst_25 (by decide) ?_
    obtain ⟨q2, hq2, h⟩ := gb h
    refine g_callVv [.int x1, .int (-1 : Int32)] [] dX7_seekFirst_26 mk_X7_193 so_0 (ctX7_tryMorning hq2) rfl (by decide) rfl (Nat.le_of_ble_eq_true rfl) ?_
    refine g_aload_n dX7_seekFirst_29 0 rfl rfl ?_
    refine g_geti dX7_seekFirst_30 lk_X7_65 sf_0_8 ?_
    refine g_iconst (v := -1) dX7_seekFirst_33 (by decide) ?_
    refine g_icmp_eq (tgt := 51) dX7_seekFirst_34 (by decide) (fun hc3 => ?_) (fun hc3 => ?_)
    · replace h := git hc3 h
      exact bX7_seekFirst_51_ok H12 h
    · replace h := gif hc3 h
      refine g_aload_n dX7_seekFirst_37 0 rfl rfl ?_
      refine g_getr dX7_seekFirst_38 lk_X7_42 sf_0_4 ?_
      refine g_geti dX7_seekFirst_41 lk_X7_190 sf_16_4 ?_
      refine g_aload_n dX7_seekFirst_44 0 rfl rfl ?_
      refine g_geti dX7_seekFirst_45 lk_X7_68 sf_0_9 ?_
      refine g_icmp_ge (tgt := 67) dX7_seekFirst_48 (by decide) (fun hc4 => ?_) (fun hc4 => ?_)
      · replace h := git hc4 h
        exact bX7_seekFirst_67_ok H12 h
      · replace h := gif hc4 h
        exact bX7_seekFirst_51_ok H12 h
noncomputable def bX7_seekFirst_12l (F : Nat) : Nat → (Int32 × gS) → Option (gS) := g_fix (fun k12 s => bX7_seekFirst_12 F k12 s.1 s.2)
theorem bX7_seekFirst_12l_ok {X : gX} {F : Nat} {R : gS} : ∀ (n : Nat) (s : Int32 × gS), bX7_seekFirst_12l F n s = some R → G X RX7 cX7_seekFirst 2 none 5 none R 12 [(0, .ref (X.1 + 0)), (1, .int s.1)] [] s.2 := by
  intro n
  induction n with
  | zero => intro s h; cases h
  | succ n ih => intro s h; exact bX7_seekFirst_12_ok (F := F) ih h
noncomputable def fX7_seekFirst (F : Nat) (S : gS) : Option (gS) := gl (g_setI S 0 8 (-1 : Int32)) (fun S1 : gS => gl (g_setI S1 0 9 (0 : Int32)) (fun S2 : gS => bX7_seekFirst_12l F F ((0 : Int32), S2)))
set_option maxRecDepth 20000 in
theorem fX7_seekFirst_ok {X : gX} {F : Nat} {R : gS} {S : gS} (h : fX7_seekFirst F S = some R) : G X RX7 cX7_seekFirst 2 none 5 none R 0 [(0, .ref (X.1 + 0))] [] S := by
  unfold fX7_seekFirst at h
  refine g_aload_n dX7_seekFirst_0 0 rfl rfl ?_
  refine g_iconst (v := -1) dX7_seekFirst_1 (by decide) ?_
  obtain ⟨S1, eS1, h⟩ := gle h
  refine g_puti dX7_seekFirst_2 lp_X7_65 sf_0_8 eS1 ?_
  refine g_aload_n dX7_seekFirst_5 0 rfl rfl ?_
  refine g_iconst (v := 0) dX7_seekFirst_6 (by decide) ?_
  obtain ⟨S2, eS2, h⟩ := gle h
  refine g_puti dX7_seekFirst_7 lp_X7_68 sf_0_9 eS2 ?_
  refine g_iconst (v := 0) dX7_seekFirst_10 (by decide) ?_
  refine g_istore_n (lv' := [(1, .int (0 : Int32)), (0, .ref (X.1 + 0))]) dX7_seekFirst_11 rfl rfl (by decide) rfl ?_
  refine g_sub [1, 0] rfl ?_
  exact bX7_seekFirst_12l_ok F ((0 : Int32), S2) h
theorem ctX7_seekFirst {X : gX} {F : Nat} {R : gS} {S : gS} (h : fX7_seekFirst F S = some R) : g_C X yX7_seekFirst cX7_seekFirst 2 none 5 [.ref (X.1 + 0)] S none R :=
  g_met (by decide) (Nat.le_of_ble_eq_true rfl) (fX7_seekFirst_ok h)
noncomputable def fX7_first (F : Nat) (a0 : Int32) (S : gS) : Option (Int32 × gS) := if a0 < 0 then (some ((-2 : Int32), S)) else (if a0 ≤ (1 : Int32) then (if (g_I S 9 2) = 0 then (some ((-3 : Int32), S)) else ((fX7_seekFirst F S).bind (fun q4 : gS => if a0 = 0 then (some ((g_I q4 0 8), q4)) else (some ((g_I q4 0 9), q4))))) else (some ((-2 : Int32), S)))
set_option maxRecDepth 20000 in
theorem fX7_first_ok {X : gX} {F : Nat} {R : Int32 × gS} {a0 : Int32} {S : gS} (h : fX7_first F a0 S = some R) : G X RX7 cX7_first 2 (some .int) 6 (some (.int R.1)) R.2 0 [(0, .ref (X.1 + 0)), (1, .int a0)] [] S := by
  unfold fX7_first at h
  refine g_iload_n dX7_first_0 1 rfl rfl ?_
  refine g_if_lt (tgt := 9) dX7_first_1 (by decide) (fun hc1 => ?_) (fun hc1 => ?_)
  · replace h := git hc1 h
    refine g_bipush (v := -2) dX7_first_9 (by decide) ?_
    obtain rfl := Option.some.inj h
    exact g_iret dX7_first_11 rfl
  · replace h := gif hc1 h
    refine g_iload_n dX7_first_4 1 rfl rfl ?_
    refine g_iconst (v := 1) dX7_first_5 (by decide) ?_
    refine g_icmp_le (tgt := 12) dX7_first_6 (by decide) (fun hc2 => ?_) (fun hc2 => ?_)
    · replace h := git hc2 h
      refine g_aload_n dX7_first_12 0 rfl rfl ?_
      refine g_getr dX7_first_13 lk_X7_26 sf_0_2 ?_
      refine g_geti dX7_first_16 lk_X7_155 sf_9_2 ?_
      refine g_if_ne (tgt := 25) dX7_first_19 (by decide) (fun hc3 => ?_) (fun hc3 => ?_)
      · replace h := gif hc3 h
        refine g_aload_n dX7_first_25 0 rfl rfl ?_
        obtain ⟨q4, hq4, h⟩ := gb h
        refine g_callVv [] [] dX7_first_26 mk_X7_219 so_0 (ctX7_seekFirst hq4) rfl (by decide) rfl (Nat.le_of_ble_eq_true rfl) ?_
        refine g_iload_n dX7_first_29 1 rfl rfl ?_
        refine g_if_ne (tgt := 40) dX7_first_30 (by decide) (fun hc5 => ?_) (fun hc5 => ?_)
        · replace h := gif hc5 h
          refine g_aload_n dX7_first_40 0 rfl rfl ?_
          refine g_geti dX7_first_41 lk_X7_68 sf_0_9 ?_
          obtain rfl := Option.some.inj h
          exact g_iret dX7_first_44 rfl
        · replace h := git hc5 h
          refine g_aload_n dX7_first_33 0 rfl rfl ?_
          refine g_geti dX7_first_34 lk_X7_65 sf_0_8 ?_
          refine g_goto (tgt := 44) dX7_first_37 (by decide) ?_
          obtain rfl := Option.some.inj h
          exact g_iret dX7_first_44 rfl
      · replace h := git hc3 h
        refine g_bipush (v := -3) dX7_first_22 (by decide) ?_
        obtain rfl := Option.some.inj h
        exact g_iret dX7_first_24 rfl
    · replace h := gif hc2 h
      refine g_bipush (v := -2) dX7_first_9 (by decide) ?_
      obtain rfl := Option.some.inj h
      exact g_iret dX7_first_11 rfl
theorem ctX7_first {X : gX} {F : Nat} {R : Int32 × gS} {a0 : Int32} {S : gS} (h : fX7_first F a0 S = some R) : g_C X yX7_first cX7_first 2 (some .int) 6 [.ref (X.1 + 0), .int a0] S (some (.int R.1)) R.2 :=
  g_met (by decide) (Nat.le_of_ble_eq_true rfl) (fX7_first_ok h)
noncomputable def bX7_seekYard_101 (F : Nat) (k26 : (Int32 × Int32 × gS) → Option (gS)) (x1 : Int32) (x2 : Int32) (S : gS) : Option (gS) := gl (x2 + 1) (fun v1 : Int32 => k26 (x1, v1, S))
set_option maxRecDepth 20000 in
theorem bX7_seekYard_101_ok {X : gX} {F : Nat} {k26 : (Int32 × Int32 × gS) → Option (gS)} {R : gS} (H26 : ∀ s : Int32 × Int32 × gS, k26 s = some R → G X RX7 cX7_seekYard 3 none 5 none R 26 [(0, .ref (X.1 + 0)), (1, .int s.1), (2, .int s.2.1)] [] s.2.2) {x1 : Int32} {x2 : Int32} {S : gS} (h : bX7_seekYard_101 F k26 x1 x2 S = some R) : G X RX7 cX7_seekYard 3 none 5 none R 101 [(0, .ref (X.1 + 0)), (1, .int x1), (2, .int x2)] [] S := by
  unfold bX7_seekYard_101 at h
  obtain ⟨v1, ev1, h⟩ := gle h
  refine g_iinc (q := 2) (v := v1) (lv' := [(2, .int v1), (0, .ref (X.1 + 0)), (1, .int x1)]) dX7_seekYard_101 rfl (by rw [← ev1]; rfl) (by decide) rfl ?_
  refine g_goto (tgt := 26) dX7_seekYard_104 (by decide) ?_
  refine g_sub [1, 2, 0] rfl ?_
  exact H26 (x1, v1, S) h
noncomputable def bX7_seekYard_26 (F : Nat) (k26 : (Int32 × Int32 × gS) → Option (gS)) (x1 : Int32) (x2 : Int32) (S : gS) : Option (gS) := if (64 : Int32) ≤ x2 then (some S) else ((fX7_has F (g_J S 1 3) x2 S).bind (fun q2 : Int32 × gS => if q2.1 = 0 then (g_chk x2 64 (if (g_I q2.2 4 (x2).toNatClampNeg) = 0 then (bX7_seekYard_101 F k26 x1 x2 q2.2) else ((fX7_tryMorning F (-1 : Int32) x2 q2.2).bind (fun q6 : gS => if (x1 - (g_I q6 16 4)) ≤ (g_I q6 0 11) then (bX7_seekYard_101 F k26 x1 x2 q6) else (gl (g_setI q6 0 10 x2) (fun S8 : gS => gl (g_setI S8 0 11 (x1 - (g_I S8 16 4))) (fun S9 : gS => bX7_seekYard_101 F k26 x1 x2 S9))))))) else (bX7_seekYard_101 F k26 x1 x2 q2.2)))
set_option maxRecDepth 20000 in
theorem bX7_seekYard_26_ok {X : gX} {F : Nat} {k26 : (Int32 × Int32 × gS) → Option (gS)} {R : gS} (H26 : ∀ s : Int32 × Int32 × gS, k26 s = some R → G X RX7 cX7_seekYard 3 none 5 none R 26 [(0, .ref (X.1 + 0)), (1, .int s.1), (2, .int s.2.1)] [] s.2.2) {x1 : Int32} {x2 : Int32} {S : gS} (h : bX7_seekYard_26 F k26 x1 x2 S = some R) : G X RX7 cX7_seekYard 3 none 5 none R 26 [(0, .ref (X.1 + 0)), (1, .int x1), (2, .int x2)] [] S := by
  unfold bX7_seekYard_26 at h
  refine g_iload_n dX7_seekYard_26 2 rfl rfl ?_
  refine g_bipush (v := 64) dX7_seekYard_27 (by decide) ?_
  refine g_icmp_ge (tgt := 107) dX7_seekYard_29 (by decide) (fun hc1 => ?_) (fun hc1 => ?_)
  · replace h := git hc1 h
    obtain rfl := Option.some.inj h
    exact g_vret dX7_seekYard_107 rfl
  · replace h := gif hc1 h
    refine g_aload_n dX7_seekYard_32 0 rfl rfl ?_
    refine g_getr dX7_seekYard_33 lk_X7_10 sf_0_0 ?_
    refine g_getj dX7_seekYard_36 lk_X7_111 sf_1_3 ?_
    refine g_iload_n dX7_seekYard_39 2 rfl rfl ?_
    obtain ⟨q2, hq2, h⟩ := gb h
    refine g_callSi [.long (g_J S 1 3), .int x2] [] dX7_seekYard_40 mk_X7_130 (ctX7_has hq2) rfl (by decide) rfl (Nat.le_of_ble_eq_true rfl) ?_
    refine g_if_ne (tgt := 101) dX7_seekYard_43 (by decide) (fun hc3 => ?_) (fun hc3 => ?_)
    · replace h := gif hc3 h
      exact bX7_seekYard_101_ok H26 h
    · replace h := git hc3 h
      refine g_aload_n dX7_seekYard_46 0 rfl rfl ?_
      refine g_getr dX7_seekYard_47 lk_X7_19 sf_0_1 ?_
      refine g_getr dX7_seekYard_50 lk_X7_98 sf_3_0 ?_
      refine g_iload_n dX7_seekYard_53 2 rfl rfl ?_
      obtain ⟨hv4, h⟩ := gchk h
      refine g_iald dX7_seekYard_54 sa_4 hv4 ?_
      refine g_if_ne (tgt := 61) dX7_seekYard_55 (by decide) (fun hc5 => ?_) (fun hc5 => ?_)
      · replace h := gif hc5 h
        refine g_aload_n dX7_seekYard_61 0 rfl rfl ?_
        refine g_iconst (v := -1) dX7_seekYard_62 (by decide) ?_
        refine g_iload_n dX7_seekYard_63 2 rfl rfl ?_
        obtain ⟨q6, hq6, h⟩ := gb h
        refine g_callVv [.int (-1 : Int32), .int x2] [] dX7_seekYard_64 mk_X7_193 so_0 (ctX7_tryMorning hq6) rfl (by decide) rfl (Nat.le_of_ble_eq_true rfl) ?_
        refine g_iload_n dX7_seekYard_67 1 rfl rfl ?_
        refine g_aload_n dX7_seekYard_68 0 rfl rfl ?_
        refine g_getr dX7_seekYard_69 lk_X7_42 sf_0_4 ?_
        refine g_geti dX7_seekYard_72 lk_X7_190 sf_16_4 ?_
        refine g_isub dX7_seekYard_75 ?_
        refine g_aload_n dX7_seekYard_76 0 rfl rfl ?_
        refine g_geti dX7_seekYard_77 lk_X7_74 sf_0_11 ?_
        refine g_icmp_le (tgt := 101) dX7_seekYard_80 (by decide) (fun hc7 => ?_) (fun hc7 => ?_)
        · replace h := git hc7 h
          exact bX7_seekYard_101_ok H26 h
        · replace h := gif hc7 h
          refine g_aload_n dX7_seekYard_83 0 rfl rfl ?_
          refine g_iload_n dX7_seekYard_84 2 rfl rfl ?_
          obtain ⟨S8, eS8, h⟩ := gle h
          refine g_puti dX7_seekYard_85 lp_X7_71 sf_0_10 eS8 ?_
          refine g_aload_n dX7_seekYard_88 0 rfl rfl ?_
          refine g_iload_n dX7_seekYard_89 1 rfl rfl ?_
          refine g_aload_n dX7_seekYard_90 0 rfl rfl ?_
          refine g_getr dX7_seekYard_91 lk_X7_42 sf_0_4 ?_
          refine g_geti dX7_seekYard_94 lk_X7_190 sf_16_4 ?_
          refine g_isub dX7_seekYard_97 ?_
          obtain ⟨S9, eS9, h⟩ := gle h
          refine g_puti dX7_seekYard_98 lp_X7_74 sf_0_11 eS9 ?_
          exact bX7_seekYard_101_ok H26 h
      · replace h := git hc5 h
        refine g_goto (tgt := 101) dX7_seekYard_58 (by decide) ?_
        exact bX7_seekYard_101_ok H26 h
noncomputable def bX7_seekYard_26l (F : Nat) : Nat → (Int32 × Int32 × gS) → Option (gS) := g_fix (fun k26 s => bX7_seekYard_26 F k26 s.1 s.2.1 s.2.2)
theorem bX7_seekYard_26l_ok {X : gX} {F : Nat} {R : gS} : ∀ (n : Nat) (s : Int32 × Int32 × gS), bX7_seekYard_26l F n s = some R → G X RX7 cX7_seekYard 3 none 5 none R 26 [(0, .ref (X.1 + 0)), (1, .int s.1), (2, .int s.2.1)] [] s.2.2 := by
  intro n
  induction n with
  | zero => intro s h; cases h
  | succ n ih => intro s h; exact bX7_seekYard_26_ok (F := F) ih h
noncomputable def fX7_seekYard (F : Nat) (S : gS) : Option (gS) := gl (g_setI S 0 10 (-1 : Int32)) (fun S1 : gS => gl (g_setI S1 0 11 (0 : Int32)) (fun S2 : gS => (fX7_tryMorning F (-1 : Int32) (-1 : Int32) S2).bind (fun q3 : gS => gl (g_I q3 16 4) (fun v4 : Int32 => bX7_seekYard_26l F F (v4, (0 : Int32), q3)))))
set_option maxRecDepth 20000 in
theorem fX7_seekYard_ok {X : gX} {F : Nat} {R : gS} {S : gS} (h : fX7_seekYard F S = some R) : G X RX7 cX7_seekYard 3 none 5 none R 0 [(0, .ref (X.1 + 0))] [] S := by
  unfold fX7_seekYard at h
  refine g_aload_n dX7_seekYard_0 0 rfl rfl ?_
  refine g_iconst (v := -1) dX7_seekYard_1 (by decide) ?_
  obtain ⟨S1, eS1, h⟩ := gle h
  refine g_puti dX7_seekYard_2 lp_X7_71 sf_0_10 eS1 ?_
  refine g_aload_n dX7_seekYard_5 0 rfl rfl ?_
  refine g_iconst (v := 0) dX7_seekYard_6 (by decide) ?_
  obtain ⟨S2, eS2, h⟩ := gle h
  refine g_puti dX7_seekYard_7 lp_X7_74 sf_0_11 eS2 ?_
  refine g_aload_n dX7_seekYard_10 0 rfl rfl ?_
  refine g_iconst (v := -1) dX7_seekYard_11 (by decide) ?_
  refine g_iconst (v := -1) dX7_seekYard_12 (by decide) ?_
  obtain ⟨q3, hq3, h⟩ := gb h
  refine g_callVv [.int (-1 : Int32), .int (-1 : Int32)] [] dX7_seekYard_13 mk_X7_193 so_0 (ctX7_tryMorning hq3) rfl (by decide) rfl (Nat.le_of_ble_eq_true rfl) ?_
  refine g_aload_n dX7_seekYard_16 0 rfl rfl ?_
  refine g_getr dX7_seekYard_17 lk_X7_42 sf_0_4 ?_
  refine g_geti dX7_seekYard_20 lk_X7_190 sf_16_4 ?_
  obtain ⟨v4, ev4, h⟩ := gle h
  refine g_istore_n (lv' := [(1, .int v4), (0, .ref (X.1 + 0))]) dX7_seekYard_23 ev4 rfl (by decide) rfl ?_
  refine g_iconst (v := 0) dX7_seekYard_24 (by decide) ?_
  refine g_istore_n (lv' := [(2, .int (0 : Int32)), (1, .int v4), (0, .ref (X.1 + 0))]) dX7_seekYard_25 rfl rfl (by decide) rfl ?_
  refine g_sub [2, 1, 0] rfl ?_
  exact bX7_seekYard_26l_ok F (v4, (0 : Int32), q3) h
theorem ctX7_seekYard {X : gX} {F : Nat} {R : gS} {S : gS} (h : fX7_seekYard F S = some R) : g_C X yX7_seekYard cX7_seekYard 3 none 5 [.ref (X.1 + 0)] S none R :=
  g_met (by decide) (Nat.le_of_ble_eq_true rfl) (fX7_seekYard_ok h)
noncomputable def fX7_yard (F : Nat) (a0 : Int32) (S : gS) : Option (Int32 × gS) := if a0 < 0 then (some ((-2 : Int32), S)) else (if a0 ≤ (1 : Int32) then ((fX7_seekYard F S).bind (fun q3 : gS => if a0 = 0 then (some ((g_I q3 0 10), q3)) else (some ((g_I q3 0 11), q3)))) else (some ((-2 : Int32), S)))
set_option maxRecDepth 20000 in
theorem fX7_yard_ok {X : gX} {F : Nat} {R : Int32 × gS} {a0 : Int32} {S : gS} (h : fX7_yard F a0 S = some R) : G X RX7 cX7_yard 2 (some .int) 6 (some (.int R.1)) R.2 0 [(0, .ref (X.1 + 0)), (1, .int a0)] [] S := by
  unfold fX7_yard at h
  refine g_iload_n dX7_yard_0 1 rfl rfl ?_
  refine g_if_lt (tgt := 9) dX7_yard_1 (by decide) (fun hc1 => ?_) (fun hc1 => ?_)
  · replace h := git hc1 h
    refine g_bipush (v := -2) dX7_yard_9 (by decide) ?_
    obtain rfl := Option.some.inj h
    exact g_iret dX7_yard_11 rfl
  · replace h := gif hc1 h
    refine g_iload_n dX7_yard_4 1 rfl rfl ?_
    refine g_iconst (v := 1) dX7_yard_5 (by decide) ?_
    refine g_icmp_le (tgt := 12) dX7_yard_6 (by decide) (fun hc2 => ?_) (fun hc2 => ?_)
    · replace h := git hc2 h
      refine g_aload_n dX7_yard_12 0 rfl rfl ?_
      obtain ⟨q3, hq3, h⟩ := gb h
      refine g_callVv [] [] dX7_yard_13 mk_X7_222 so_0 (ctX7_seekYard hq3) rfl (by decide) rfl (Nat.le_of_ble_eq_true rfl) ?_
      refine g_iload_n dX7_yard_16 1 rfl rfl ?_
      refine g_if_ne (tgt := 27) dX7_yard_17 (by decide) (fun hc4 => ?_) (fun hc4 => ?_)
      · replace h := gif hc4 h
        refine g_aload_n dX7_yard_27 0 rfl rfl ?_
        refine g_geti dX7_yard_28 lk_X7_74 sf_0_11 ?_
        obtain rfl := Option.some.inj h
        exact g_iret dX7_yard_31 rfl
      · replace h := git hc4 h
        refine g_aload_n dX7_yard_20 0 rfl rfl ?_
        refine g_geti dX7_yard_21 lk_X7_71 sf_0_10 ?_
        refine g_goto (tgt := 31) dX7_yard_24 (by decide) ?_
        obtain rfl := Option.some.inj h
        exact g_iret dX7_yard_31 rfl
    · replace h := gif hc2 h
      refine g_bipush (v := -2) dX7_yard_9 (by decide) ?_
      obtain rfl := Option.some.inj h
      exact g_iret dX7_yard_11 rfl
theorem ctX7_yard {X : gX} {F : Nat} {R : Int32 × gS} {a0 : Int32} {S : gS} (h : fX7_yard F a0 S = some R) : g_C X yX7_yard cX7_yard 2 (some .int) 6 [.ref (X.1 + 0), .int a0] S (some (.int R.1)) R.2 :=
  g_met (by decide) (Nat.le_of_ble_eq_true rfl) (fX7_yard_ok h)
noncomputable def fX7_refusedLong (F : Nat) (a0 : Int32) (S : gS) : Option (Int64 × gS) := some (((-9223372036854775808 : Int64) - (a0).toInt64), S)
set_option maxRecDepth 20000 in
theorem fX7_refusedLong_ok {X : gX} {F : Nat} {R : Int64 × gS} {a0 : Int32} {S : gS} (h : fX7_refusedLong F a0 S = some R) : G X RX7 cX7_refusedLong 1 (some .long) 0 (some (.long R.1)) R.2 0 [(0, .int a0)] [] S := by
  unfold fX7_refusedLong at h
  refine g_ldc2 dX7_refusedLong_0 ck_X7_348 ?_
  refine g_iload_n dX7_refusedLong_3 0 rfl rfl ?_
  refine g_i2l dX7_refusedLong_4 ?_
  refine g_lsub dX7_refusedLong_5 ?_
  obtain rfl := Option.some.inj h
  exact g_lret dX7_refusedLong_6 rfl
theorem ctX7_refusedLong {X : gX} {F : Nat} {R : Int64 × gS} {a0 : Int32} {S : gS} (h : fX7_refusedLong F a0 S = some R) : g_C X yX7_refusedLong cX7_refusedLong 1 (some .long) 0 [.int a0] S (some (.long R.1)) R.2 :=
  g_met (by decide) (Nat.le_of_ble_eq_true rfl) (fX7_refusedLong_ok h)
noncomputable def fX7_slipperiness (F : Nat) (a0 : Int32) (S : gS) : Option (Int32 × gS) := g_chk a0 64 (g_chk a0 64 (some (((g_I S 6 (a0).toNatClampNeg) * (g_I S 18 (a0).toNatClampNeg)), S)))
set_option maxRecDepth 20000 in
theorem fX7_slipperiness_ok {X : gX} {F : Nat} {R : Int32 × gS} {a0 : Int32} {S : gS} (h : fX7_slipperiness F a0 S = some R) : G X RX7 cX7_slipperiness 2 (some .int) 0 (some (.int R.1)) R.2 0 [(0, .ref (X.1 + 0)), (1, .int a0)] [] S := by
  unfold fX7_slipperiness at h
  refine g_aload_n dX7_slipperiness_0 0 rfl rfl ?_
  refine g_getr dX7_slipperiness_1 lk_X7_19 sf_0_1 ?_
  refine g_getr dX7_slipperiness_4 lk_X7_105 sf_3_2 ?_
  refine g_iload_n dX7_slipperiness_7 1 rfl rfl ?_
  obtain ⟨hv1, h⟩ := gchk h
  refine g_iald dX7_slipperiness_8 sa_6 hv1 ?_
  refine g_aload_n dX7_slipperiness_9 0 rfl rfl ?_
  refine g_getr dX7_slipperiness_10 lk_X7_42 sf_0_4 ?_
  refine g_getr dX7_slipperiness_13 lk_X7_291 sf_16_3 ?_
  refine g_iload_n dX7_slipperiness_16 1 rfl rfl ?_
  obtain ⟨hv2, h⟩ := gchk h
  refine g_iald dX7_slipperiness_17 sa_18 hv2 ?_
  refine g_imul dX7_slipperiness_18 ?_
  obtain rfl := Option.some.inj h
  exact g_iret dX7_slipperiness_19 rfl
theorem ctX7_slipperiness {X : gX} {F : Nat} {R : Int32 × gS} {a0 : Int32} {S : gS} (h : fX7_slipperiness F a0 S = some R) : g_C X yX7_slipperiness cX7_slipperiness 2 (some .int) 0 [.ref (X.1 + 0), .int a0] S (some (.int R.1)) R.2 :=
  g_met (by decide) (Nat.le_of_ble_eq_true rfl) (fX7_slipperiness_ok h)
noncomputable def bX7_mostSlippery_46 (F : Nat) (k8 : (Int64 × Int32 × Int32 × Int32 × gS) → Option (Int32 × gS)) (x1 : Int64) (x3 : Int32) (x4 : Int32) (x5 : Int32) (S : gS) : Option (Int32 × gS) := gl (x5 + 1) (fun v1 : Int32 => k8 (x1, x3, x4, v1, S))
set_option maxRecDepth 20000 in
theorem bX7_mostSlippery_46_ok {X : gX} {F : Nat} {k8 : (Int64 × Int32 × Int32 × Int32 × gS) → Option (Int32 × gS)} {R : Int32 × gS} (H8 : ∀ s : Int64 × Int32 × Int32 × Int32 × gS, k8 s = some R → G X RX7 cX7_mostSlippery 6 (some .int) 1 (some (.int R.1)) R.2 8 [(0, .ref (X.1 + 0)), (1, .long s.1), (3, .int s.2.1), (4, .int s.2.2.1), (5, .int s.2.2.2.1)] [] s.2.2.2.2) {x1 : Int64} {x3 : Int32} {x4 : Int32} {x5 : Int32} {S : gS} (h : bX7_mostSlippery_46 F k8 x1 x3 x4 x5 S = some R) : G X RX7 cX7_mostSlippery 6 (some .int) 1 (some (.int R.1)) R.2 46 [(0, .ref (X.1 + 0)), (1, .long x1), (3, .int x3), (4, .int x4), (5, .int x5)] [] S := by
  unfold bX7_mostSlippery_46 at h
  obtain ⟨v1, ev1, h⟩ := gle h
  refine g_iinc (q := 4) (v := v1) (lv' := [(5, .int v1), (0, .ref (X.1 + 0)), (1, .long x1), (3, .int x3), (4, .int x4)]) dX7_mostSlippery_46 rfl (by rw [← ev1]; rfl) (by decide) rfl ?_
  refine g_goto (tgt := 8) dX7_mostSlippery_49 (by decide) ?_
  refine g_sub [1, 2, 3, 4, 0] rfl ?_
  exact H8 (x1, x3, x4, v1, S) h
noncomputable def bX7_mostSlippery_8 (F : Nat) (k8 : (Int64 × Int32 × Int32 × Int32 × gS) → Option (Int32 × gS)) (x1 : Int64) (x3 : Int32) (x4 : Int32) (x5 : Int32) (S : gS) : Option (Int32 × gS) := if (64 : Int32) ≤ x5 then (some (x3, S)) else ((fX7_has F x1 x5 S).bind (fun q2 : Int32 × gS => if q2.1 = 0 then ((fX7_slipperiness F x5 q2.2).bind (fun q4 : Int32 × gS => if q4.1 ≤ x4 then (bX7_mostSlippery_46 F k8 x1 x3 x4 x5 q4.2) else ((fX7_slipperiness F x5 q4.2).bind (fun q6 : Int32 × gS => gl q6.1 (fun v7 : Int32 => bX7_mostSlippery_46 F k8 x1 x5 v7 x5 q6.2))))) else (bX7_mostSlippery_46 F k8 x1 x3 x4 x5 q2.2)))
set_option maxRecDepth 20000 in
theorem bX7_mostSlippery_8_ok {X : gX} {F : Nat} {k8 : (Int64 × Int32 × Int32 × Int32 × gS) → Option (Int32 × gS)} {R : Int32 × gS} (H8 : ∀ s : Int64 × Int32 × Int32 × Int32 × gS, k8 s = some R → G X RX7 cX7_mostSlippery 6 (some .int) 1 (some (.int R.1)) R.2 8 [(0, .ref (X.1 + 0)), (1, .long s.1), (3, .int s.2.1), (4, .int s.2.2.1), (5, .int s.2.2.2.1)] [] s.2.2.2.2) {x1 : Int64} {x3 : Int32} {x4 : Int32} {x5 : Int32} {S : gS} (h : bX7_mostSlippery_8 F k8 x1 x3 x4 x5 S = some R) : G X RX7 cX7_mostSlippery 6 (some .int) 1 (some (.int R.1)) R.2 8 [(0, .ref (X.1 + 0)), (1, .long x1), (3, .int x3), (4, .int x4), (5, .int x5)] [] S := by
  unfold bX7_mostSlippery_8 at h
  refine g_iload dX7_mostSlippery_8 4 rfl ?_
  refine g_bipush (v := 64) dX7_mostSlippery_10 (by decide) ?_
  refine g_icmp_ge (tgt := 52) dX7_mostSlippery_12 (by decide) (fun hc1 => ?_) (fun hc1 => ?_)
  · replace h := git hc1 h
    refine g_iload_n dX7_mostSlippery_52 2 rfl rfl ?_
    obtain rfl := Option.some.inj h
    exact g_iret dX7_mostSlippery_53 rfl
  · replace h := gif hc1 h
    refine g_lload_n dX7_mostSlippery_15 1 rfl rfl ?_
    refine g_iload dX7_mostSlippery_16 4 rfl ?_
    obtain ⟨q2, hq2, h⟩ := gb h
    refine g_callSi [.long x1, .int x5] [] dX7_mostSlippery_18 mk_X7_130 (ctX7_has hq2) rfl (by decide) rfl (Nat.le_of_ble_eq_true rfl) ?_
    refine g_if_ne (tgt := 46) dX7_mostSlippery_21 (by decide) (fun hc3 => ?_) (fun hc3 => ?_)
    · replace h := gif hc3 h
      exact bX7_mostSlippery_46_ok H8 h
    · replace h := git hc3 h
      refine g_aload_n dX7_mostSlippery_24 0 rfl rfl ?_
      refine g_iload dX7_mostSlippery_25 4 rfl ?_
      obtain ⟨q4, hq4, h⟩ := gb h
      refine g_callVi [.int x5] [] dX7_mostSlippery_27 mk_X7_345 so_0 (ctX7_slipperiness hq4) rfl (by decide) rfl (Nat.le_of_ble_eq_true rfl) ?_
      refine g_iload dX7_mostSlippery_30 3 rfl ?_
      refine g_icmp_le (tgt := 46) dX7_mostSlippery_32 (by decide) (fun hc5 => ?_) (fun hc5 => ?_)
      · replace h := git hc5 h
        exact bX7_mostSlippery_46_ok H8 h
      · replace h := gif hc5 h
        refine g_iload dX7_mostSlippery_35 4 rfl ?_
        refine g_istore_n (lv' := [(3, .int x5), (0, .ref (X.1 + 0)), (1, .long x1), (4, .int x4), (5, .int x5)]) dX7_mostSlippery_37 rfl rfl (by decide) rfl ?_
        refine g_aload_n dX7_mostSlippery_38 1 rfl rfl ?_
        refine g_iload dX7_mostSlippery_39 4 rfl ?_
        obtain ⟨q6, hq6, h⟩ := gb h
        refine g_callVi [.int x5] [] dX7_mostSlippery_41 mk_X7_345 so_0 (ctX7_slipperiness hq6) rfl (by decide) rfl (Nat.le_of_ble_eq_true rfl) ?_
        obtain ⟨v7, ev7, h⟩ := gle h
        refine g_istore (lv' := [(4, .int v7), (3, .int x5), (0, .ref (X.1 + 0)), (1, .long x1), (5, .int x5)]) dX7_mostSlippery_44 ev7 (by decide) rfl ?_
        refine g_sub [2, 3, 1, 0, 4] rfl ?_
        exact bX7_mostSlippery_46_ok H8 h
noncomputable def bX7_mostSlippery_8l (F : Nat) : Nat → (Int64 × Int32 × Int32 × Int32 × gS) → Option (Int32 × gS) := g_fix (fun k8 s => bX7_mostSlippery_8 F k8 s.1 s.2.1 s.2.2.1 s.2.2.2.1 s.2.2.2.2)
theorem bX7_mostSlippery_8l_ok {X : gX} {F : Nat} {R : Int32 × gS} : ∀ (n : Nat) (s : Int64 × Int32 × Int32 × Int32 × gS), bX7_mostSlippery_8l F n s = some R → G X RX7 cX7_mostSlippery 6 (some .int) 1 (some (.int R.1)) R.2 8 [(0, .ref (X.1 + 0)), (1, .long s.1), (3, .int s.2.1), (4, .int s.2.2.1), (5, .int s.2.2.2.1)] [] s.2.2.2.2 := by
  intro n
  induction n with
  | zero => intro s h; cases h
  | succ n ih => intro s h; exact bX7_mostSlippery_8_ok (F := F) ih h
noncomputable def fX7_mostSlippery (F : Nat) (a0 : Int64) (S : gS) : Option (Int32 × gS) := bX7_mostSlippery_8l F F (a0, (-1 : Int32), (0 : Int32), (0 : Int32), S)
set_option maxRecDepth 20000 in
theorem fX7_mostSlippery_ok {X : gX} {F : Nat} {R : Int32 × gS} {a0 : Int64} {S : gS} (h : fX7_mostSlippery F a0 S = some R) : G X RX7 cX7_mostSlippery 6 (some .int) 1 (some (.int R.1)) R.2 0 [(0, .ref (X.1 + 0)), (1, .long a0)] [] S := by
  unfold fX7_mostSlippery at h
  refine g_iconst (v := -1) dX7_mostSlippery_0 (by decide) ?_
  refine g_istore_n (lv' := [(3, .int (-1 : Int32)), (0, .ref (X.1 + 0)), (1, .long a0)]) dX7_mostSlippery_1 rfl rfl (by decide) rfl ?_
  refine g_iconst (v := 0) dX7_mostSlippery_2 (by decide) ?_
  refine g_istore (lv' := [(4, .int (0 : Int32)), (3, .int (-1 : Int32)), (0, .ref (X.1 + 0)), (1, .long a0)]) dX7_mostSlippery_3 rfl (by decide) rfl ?_
  refine g_iconst (v := 0) dX7_mostSlippery_5 (by decide) ?_
  refine g_istore (lv' := [(5, .int (0 : Int32)), (4, .int (0 : Int32)), (3, .int (-1 : Int32)), (0, .ref (X.1 + 0)), (1, .long a0)]) dX7_mostSlippery_6 rfl (by decide) rfl ?_
  refine g_sub [3, 4, 2, 1, 0] rfl ?_
  exact bX7_mostSlippery_8l_ok F (a0, (-1 : Int32), (0 : Int32), (0 : Int32), S) h
theorem ctX7_mostSlippery {X : gX} {F : Nat} {R : Int32 × gS} {a0 : Int64} {S : gS} (h : fX7_mostSlippery F a0 S = some R) : g_C X yX7_mostSlippery cX7_mostSlippery 6 (some .int) 1 [.ref (X.1 + 0), .long a0] S (some (.int R.1)) R.2 :=
  g_met (by decide) (Nat.le_of_ble_eq_true rfl) (fX7_mostSlippery_ok h)
noncomputable def bX7_slipperinessLeft_29 (F : Nat) (k29 : (Int32 × Int32 × Int64 × Int32 × gS) → Option (Int32 × gS)) (x1 : Int32) (x2 : Int32) (x3 : Int64) (x5 : Int32) (S : gS) : Option (Int32 × gS) := if x1 ≤ x5 then (some (x2, S)) else ((fX7_mostSlippery F x3 S).bind (fun q2 : Int32 × gS => gl q2.1 (fun v3 : Int32 => if v3 = (-1 : Int32) then (some (x2, q2.2)) else ((fX7_bit F v3 q2.2).bind (fun q5 : Int64 × gS => gl (x3 ||| q5.1) (fun v6 : Int64 => (fX7_slipperiness F v3 q5.2).bind (fun q7 : Int32 × gS => gl (x2 - q7.1) (fun v8 : Int32 => gl (x5 + 1) (fun v9 : Int32 => k29 (x1, v8, v6, v9, q7.2))))))))))
set_option maxRecDepth 20000 in
theorem bX7_slipperinessLeft_29_ok {X : gX} {F : Nat} {k29 : (Int32 × Int32 × Int64 × Int32 × gS) → Option (Int32 × gS)} {R : Int32 × gS} (H29 : ∀ s : Int32 × Int32 × Int64 × Int32 × gS, k29 s = some R → G X RX7 cX7_slipperinessLeft 7 (some .int) 2 (some (.int R.1)) R.2 29 [(0, .ref (X.1 + 0)), (1, .int s.1), (2, .int s.2.1), (3, .long s.2.2.1), (5, .int s.2.2.2.1)] [] s.2.2.2.2) {x1 : Int32} {x2 : Int32} {x3 : Int64} {x5 : Int32} {S : gS} (h : bX7_slipperinessLeft_29 F k29 x1 x2 x3 x5 S = some R) : G X RX7 cX7_slipperinessLeft 7 (some .int) 2 (some (.int R.1)) R.2 29 [(0, .ref (X.1 + 0)), (1, .int x1), (2, .int x2), (3, .long x3), (5, .int x5)] [] S := by
  unfold bX7_slipperinessLeft_29 at h
  refine g_iload dX7_slipperinessLeft_29 4 rfl ?_
  refine g_iload_n dX7_slipperinessLeft_31 1 rfl rfl ?_
  refine g_icmp_ge (tgt := 74) dX7_slipperinessLeft_32 (by decide) (fun hc1 => ?_) (fun hc1 => ?_)
  · replace h := git hc1 h
    refine g_iload_n dX7_slipperinessLeft_74 2 rfl rfl ?_
    obtain rfl := Option.some.inj h
    exact g_iret dX7_slipperinessLeft_75 rfl
  · replace h := gif hc1 h
    refine g_aload_n dX7_slipperinessLeft_35 0 rfl rfl ?_
    refine g_lload_n dX7_slipperinessLeft_36 3 rfl rfl ?_
    obtain ⟨q2, hq2, h⟩ := gb h
    refine g_callVi [.long x3] [] dX7_slipperinessLeft_37 mk_X7_229 so_0 (ctX7_mostSlippery hq2) rfl (by decide) rfl (Nat.le_of_ble_eq_true rfl) ?_
    obtain ⟨v3, ev3, h⟩ := gle h
    refine g_istore (lv' := [(6, .int v3), (0, .ref (X.1 + 0)), (1, .int x1), (2, .int x2), (3, .long x3), (5, .int x5)]) dX7_slipperinessLeft_40 ev3 (by decide) rfl ?_
    refine g_iload dX7_slipperinessLeft_42 0 rfl ?_
    refine g_iconst (v := -1) dX7_slipperinessLeft_44 (by decide) ?_
    refine g_icmp_ne (tgt := 51) dX7_slipperinessLeft_45 (by decide) (fun hc4 => ?_) (fun hc4 => ?_)
    · replace h := gif hc4 h
      refine g_lload_n dX7_slipperinessLeft_51 4 rfl rfl ?_
      refine g_iload dX7_slipperinessLeft_52 0 rfl ?_
      obtain ⟨q5, hq5, h⟩ := gb h
      refine g_callSl [.int v3] [.long x3] dX7_slipperinessLeft_54 mk_X7_233 (ctX7_bit hq5) rfl (by decide) rfl (Nat.le_of_ble_eq_true rfl) ?_
      refine g_lor dX7_slipperinessLeft_57 ?_
      obtain ⟨v6, ev6, h⟩ := gle h
      refine g_lstore_n (lv' := [(3, .long v6), (6, .int v3), (0, .ref (X.1 + 0)), (1, .int x1), (2, .int x2), (5, .int x5)]) dX7_slipperinessLeft_58 ev6 rfl (by decide) rfl ?_
      refine g_iload_n dX7_slipperinessLeft_59 4 rfl rfl ?_
      refine g_aload_n dX7_slipperinessLeft_60 2 rfl rfl ?_
      refine g_iload dX7_slipperinessLeft_61 1 rfl ?_
      obtain ⟨q7, hq7, h⟩ := gb h
      refine g_callVi [.int v3] [.int x2] dX7_slipperinessLeft_63 mk_X7_345 so_0 (ctX7_slipperiness hq7) rfl (by decide) rfl (Nat.le_of_ble_eq_true rfl) ?_
      refine g_isub dX7_slipperinessLeft_66 ?_
      obtain ⟨v8, ev8, h⟩ := gle h
      refine g_istore_n (lv' := [(2, .int v8), (3, .long v6), (6, .int v3), (0, .ref (X.1 + 0)), (1, .int x1), (5, .int x5)]) dX7_slipperinessLeft_67 ev8 rfl (by decide) rfl ?_
      obtain ⟨v9, ev9, h⟩ := gle h
      refine g_iinc (q := 5) (v := v9) (lv' := [(5, .int v9), (2, .int v8), (3, .long v6), (6, .int v3), (0, .ref (X.1 + 0)), (1, .int x1)]) dX7_slipperinessLeft_68 rfl (by rw [← ev9]; rfl) (by decide) rfl ?_
      refine g_goto (tgt := 29) dX7_slipperinessLeft_71 (by decide) ?_
      refine g_sub [4, 5, 1, 2, 0] rfl ?_
      exact H29 (x1, v8, v6, v9, q7.2) h
    · replace h := git hc4 h
      refine g_goto (tgt := 74) dX7_slipperinessLeft_48 (by decide) ?_
      refine g_iload_n dX7_slipperinessLeft_74 3 rfl rfl ?_
      obtain rfl := Option.some.inj h
      exact g_iret dX7_slipperinessLeft_75 rfl
noncomputable def bX7_slipperinessLeft_29l (F : Nat) : Nat → (Int32 × Int32 × Int64 × Int32 × gS) → Option (Int32 × gS) := g_fix (fun k29 s => bX7_slipperinessLeft_29 F k29 s.1 s.2.1 s.2.2.1 s.2.2.2.1 s.2.2.2.2)
theorem bX7_slipperinessLeft_29l_ok {X : gX} {F : Nat} {R : Int32 × gS} : ∀ (n : Nat) (s : Int32 × Int32 × Int64 × Int32 × gS), bX7_slipperinessLeft_29l F n s = some R → G X RX7 cX7_slipperinessLeft 7 (some .int) 2 (some (.int R.1)) R.2 29 [(0, .ref (X.1 + 0)), (1, .int s.1), (2, .int s.2.1), (3, .long s.2.2.1), (5, .int s.2.2.2.1)] [] s.2.2.2.2 := by
  intro n
  induction n with
  | zero => intro s h; cases h
  | succ n ih => intro s h; exact bX7_slipperinessLeft_29_ok (F := F) ih h
noncomputable def bX7_slipperinessLeft_4 (F : Nat) (k4 : (Int32 × Int32 × Int32 × gS) → Option (Int32 × gS)) (x1 : Int32) (x2 : Int32) (x3 : Int32) (S : gS) : Option (Int32 × gS) := if (64 : Int32) ≤ x3 then (bX7_slipperinessLeft_29l F F (x1, x2, (0 : Int64), (0 : Int32), S)) else ((fX7_slipperiness F x3 S).bind (fun q2 : Int32 × gS => gl (x2 + q2.1) (fun v3 : Int32 => gl (x3 + 1) (fun v4 : Int32 => k4 (x1, v3, v4, q2.2)))))
set_option maxRecDepth 20000 in
theorem bX7_slipperinessLeft_4_ok {X : gX} {F : Nat} {k4 : (Int32 × Int32 × Int32 × gS) → Option (Int32 × gS)} {R : Int32 × gS} (H4 : ∀ s : Int32 × Int32 × Int32 × gS, k4 s = some R → G X RX7 cX7_slipperinessLeft 7 (some .int) 2 (some (.int R.1)) R.2 4 [(0, .ref (X.1 + 0)), (1, .int s.1), (2, .int s.2.1), (3, .int s.2.2.1)] [] s.2.2.2) {x1 : Int32} {x2 : Int32} {x3 : Int32} {S : gS} (h : bX7_slipperinessLeft_4 F k4 x1 x2 x3 S = some R) : G X RX7 cX7_slipperinessLeft 7 (some .int) 2 (some (.int R.1)) R.2 4 [(0, .ref (X.1 + 0)), (1, .int x1), (2, .int x2), (3, .int x3)] [] S := by
  unfold bX7_slipperinessLeft_4 at h
  refine g_iload_n dX7_slipperinessLeft_4 3 rfl rfl ?_
  refine g_bipush (v := 64) dX7_slipperinessLeft_5 (by decide) ?_
  refine g_icmp_ge (tgt := 24) dX7_slipperinessLeft_7 (by decide) (fun hc1 => ?_) (fun hc1 => ?_)
  · replace h := git hc1 h
    refine g_lconst (v := 0) dX7_slipperinessLeft_24 (by decide) ?_
    refine g_lstore_n (lv' := [(3, .long (0 : Int64)), (0, .ref (X.1 + 0)), (1, .int x1), (2, .int x2)]) dX7_slipperinessLeft_25 rfl rfl (by decide) rfl ?_
    refine g_iconst (v := 0) dX7_slipperinessLeft_26 (by decide) ?_
    refine g_istore (lv' := [(5, .int (0 : Int32)), (3, .long (0 : Int64)), (0, .ref (X.1 + 0)), (1, .int x1), (2, .int x2)]) dX7_slipperinessLeft_27 rfl (by decide) rfl ?_
    refine g_sub [2, 3, 4, 1, 0] rfl ?_
    exact bX7_slipperinessLeft_29l_ok F (x1, x2, (0 : Int64), (0 : Int32), S) h
  · replace h := gif hc1 h
    refine g_iload_n dX7_slipperinessLeft_10 2 rfl rfl ?_
    refine g_aload_n dX7_slipperinessLeft_11 0 rfl rfl ?_
    refine g_iload_n dX7_slipperinessLeft_12 3 rfl rfl ?_
    obtain ⟨q2, hq2, h⟩ := gb h
    refine g_callVi [.int x3] [.int x2] dX7_slipperinessLeft_13 mk_X7_345 so_0 (ctX7_slipperiness hq2) rfl (by decide) rfl (Nat.le_of_ble_eq_true rfl) ?_
    refine g_iadd dX7_slipperinessLeft_16 ?_
    obtain ⟨v3, ev3, h⟩ := gle h
    refine g_istore_n (lv' := [(2, .int v3), (0, .ref (X.1 + 0)), (1, .int x1), (3, .int x3)]) dX7_slipperinessLeft_17 ev3 rfl (by decide) rfl ?_
    obtain ⟨v4, ev4, h⟩ := gle h
    refine g_iinc (q := 3) (v := v4) (lv' := [(3, .int v4), (2, .int v3), (0, .ref (X.1 + 0)), (1, .int x1)]) dX7_slipperinessLeft_18 rfl (by rw [← ev4]; rfl) (by decide) rfl ?_
    refine g_goto (tgt := 4) dX7_slipperinessLeft_21 (by decide) ?_
    refine g_sub [2, 3, 1, 0] rfl ?_
    exact H4 (x1, v3, v4, q2.2) h
noncomputable def bX7_slipperinessLeft_4l (F : Nat) : Nat → (Int32 × Int32 × Int32 × gS) → Option (Int32 × gS) := g_fix (fun k4 s => bX7_slipperinessLeft_4 F k4 s.1 s.2.1 s.2.2.1 s.2.2.2)
theorem bX7_slipperinessLeft_4l_ok {X : gX} {F : Nat} {R : Int32 × gS} : ∀ (n : Nat) (s : Int32 × Int32 × Int32 × gS), bX7_slipperinessLeft_4l F n s = some R → G X RX7 cX7_slipperinessLeft 7 (some .int) 2 (some (.int R.1)) R.2 4 [(0, .ref (X.1 + 0)), (1, .int s.1), (2, .int s.2.1), (3, .int s.2.2.1)] [] s.2.2.2 := by
  intro n
  induction n with
  | zero => intro s h; cases h
  | succ n ih => intro s h; exact bX7_slipperinessLeft_4_ok (F := F) ih h
noncomputable def fX7_slipperinessLeft (F : Nat) (a0 : Int32) (S : gS) : Option (Int32 × gS) := bX7_slipperinessLeft_4l F F (a0, (0 : Int32), (0 : Int32), S)
set_option maxRecDepth 20000 in
theorem fX7_slipperinessLeft_ok {X : gX} {F : Nat} {R : Int32 × gS} {a0 : Int32} {S : gS} (h : fX7_slipperinessLeft F a0 S = some R) : G X RX7 cX7_slipperinessLeft 7 (some .int) 2 (some (.int R.1)) R.2 0 [(0, .ref (X.1 + 0)), (1, .int a0)] [] S := by
  unfold fX7_slipperinessLeft at h
  refine g_iconst (v := 0) dX7_slipperinessLeft_0 (by decide) ?_
  refine g_istore_n (lv' := [(2, .int (0 : Int32)), (0, .ref (X.1 + 0)), (1, .int a0)]) dX7_slipperinessLeft_1 rfl rfl (by decide) rfl ?_
  refine g_iconst (v := 0) dX7_slipperinessLeft_2 (by decide) ?_
  refine g_istore_n (lv' := [(3, .int (0 : Int32)), (2, .int (0 : Int32)), (0, .ref (X.1 + 0)), (1, .int a0)]) dX7_slipperinessLeft_3 rfl rfl (by decide) rfl ?_
  refine g_sub [2, 3, 1, 0] rfl ?_
  exact bX7_slipperinessLeft_4l_ok F (a0, (0 : Int32), (0 : Int32), S) h
theorem ctX7_slipperinessLeft {X : gX} {F : Nat} {R : Int32 × gS} {a0 : Int32} {S : gS} (h : fX7_slipperinessLeft F a0 S = some R) : g_C X yX7_slipperinessLeft cX7_slipperinessLeft 7 (some .int) 2 [.ref (X.1 + 0), .int a0] S (some (.int R.1)) R.2 :=
  g_met (by decide) (Nat.le_of_ble_eq_true rfl) (fX7_slipperinessLeft_ok h)
noncomputable def bX7_thirtieths_27 (F : Nat) (x0 : Int32) (x1 : Int32) (x2 : Int32) (S : gS) : Option (Int64 × gS) := if x1 = 0 then (g_nz x2 (some (((x0 / x2)).toInt64, S))) else (g_nz x2 (some ((((30 : Int32) / x2)).toInt64, S)))
set_option maxRecDepth 20000 in
theorem bX7_thirtieths_27_ok {X : gX} {F : Nat} {R : Int64 × gS} {x0 : Int32} {x1 : Int32} {x2 : Int32} {S : gS} (h : bX7_thirtieths_27 F x0 x1 x2 S = some R) : G X RX7 cX7_thirtieths 3 (some .long) 0 (some (.long R.1)) R.2 27 [(0, .int x0), (1, .int x1), (2, .int x2)] [] S := by
  unfold bX7_thirtieths_27 at h
  refine g_iload_n dX7_thirtieths_27 1 rfl rfl ?_
  refine g_if_ne (tgt := 38) dX7_thirtieths_28 (by decide) (fun hc1 => ?_) (fun hc1 => ?_)
  · replace h := gif hc1 h
    refine g_bipush (v := 30) dX7_thirtieths_38 (by decide) ?_
    refine g_iload_n dX7_thirtieths_40 2 rfl rfl ?_
    obtain ⟨hz2, h⟩ := gnz h
    refine g_idiv dX7_thirtieths_41 hz2 ?_
    refine g_i2l dX7_thirtieths_42 ?_
    obtain rfl := Option.some.inj h
    exact g_lret dX7_thirtieths_43 rfl
  · replace h := git hc1 h
    refine g_iload_n dX7_thirtieths_31 0 rfl rfl ?_
    refine g_iload_n dX7_thirtieths_32 2 rfl rfl ?_
    obtain ⟨hz3, h⟩ := gnz h
    refine g_idiv dX7_thirtieths_33 hz3 ?_
    refine g_i2l dX7_thirtieths_34 ?_
    refine g_goto (tgt := 43) dX7_thirtieths_35 (by decide) ?_
    obtain rfl := Option.some.inj h
    exact g_lret dX7_thirtieths_43 rfl
noncomputable def bX7_thirtieths_21 (F : Nat) (k3 : (Int32 × Int32 × Int32 × gS) → Option (Int64 × gS)) (x0 : Int32) (x1 : Int32) (x2 : Int32) (S : gS) : Option (Int64 × gS) := gl (x2 + -1) (fun v1 : Int32 => k3 (x0, x1, v1, S))
set_option maxRecDepth 20000 in
theorem bX7_thirtieths_21_ok {X : gX} {F : Nat} {k3 : (Int32 × Int32 × Int32 × gS) → Option (Int64 × gS)} {R : Int64 × gS} (H3 : ∀ s : Int32 × Int32 × Int32 × gS, k3 s = some R → G X RX7 cX7_thirtieths 3 (some .long) 0 (some (.long R.1)) R.2 3 [(0, .int s.1), (1, .int s.2.1), (2, .int s.2.2.1)] [] s.2.2.2) {x0 : Int32} {x1 : Int32} {x2 : Int32} {S : gS} (h : bX7_thirtieths_21 F k3 x0 x1 x2 S = some R) : G X RX7 cX7_thirtieths 3 (some .long) 0 (some (.long R.1)) R.2 21 [(0, .int x0), (1, .int x1), (2, .int x2)] [] S := by
  unfold bX7_thirtieths_21 at h
  obtain ⟨v1, ev1, h⟩ := gle h
  refine g_iinc (q := 2) (v := v1) (lv' := [(2, .int v1), (0, .int x0), (1, .int x1)]) dX7_thirtieths_21 rfl (by rw [← ev1]; rfl) (by decide) rfl ?_
  refine g_goto (tgt := 3) dX7_thirtieths_24 (by decide) ?_
  refine g_sub [1, 2, 0] rfl ?_
  exact H3 (x0, x1, v1, S) h
noncomputable def bX7_thirtieths_3 (F : Nat) (k3 : (Int32 × Int32 × Int32 × gS) → Option (Int64 × gS)) (x0 : Int32) (x1 : Int32) (x2 : Int32) (S : gS) : Option (Int64 × gS) := if x2 ≤ (1 : Int32) then (bX7_thirtieths_27 F x0 x1 x2 S) else (g_nz x2 (if ((30 : Int32) - (30 : Int32) / x2 * x2) = 0 then (g_nz x2 (if (x0 - x0 / x2 * x2) = 0 then (bX7_thirtieths_27 F x0 x1 x2 S) else (bX7_thirtieths_21 F k3 x0 x1 x2 S))) else (bX7_thirtieths_21 F k3 x0 x1 x2 S)))
set_option maxRecDepth 20000 in
theorem bX7_thirtieths_3_ok {X : gX} {F : Nat} {k3 : (Int32 × Int32 × Int32 × gS) → Option (Int64 × gS)} {R : Int64 × gS} (H3 : ∀ s : Int32 × Int32 × Int32 × gS, k3 s = some R → G X RX7 cX7_thirtieths 3 (some .long) 0 (some (.long R.1)) R.2 3 [(0, .int s.1), (1, .int s.2.1), (2, .int s.2.2.1)] [] s.2.2.2) {x0 : Int32} {x1 : Int32} {x2 : Int32} {S : gS} (h : bX7_thirtieths_3 F k3 x0 x1 x2 S = some R) : G X RX7 cX7_thirtieths 3 (some .long) 0 (some (.long R.1)) R.2 3 [(0, .int x0), (1, .int x1), (2, .int x2)] [] S := by
  unfold bX7_thirtieths_3 at h
  refine g_iload_n dX7_thirtieths_3 2 rfl rfl ?_
  refine g_iconst (v := 1) dX7_thirtieths_4 (by decide) ?_
  refine g_icmp_le (tgt := 27) dX7_thirtieths_5 (by decide) (fun hc1 => ?_) (fun hc1 => ?_)
  · replace h := git hc1 h
    exact bX7_thirtieths_27_ok h
  · replace h := gif hc1 h
    refine g_bipush (v := 30) dX7_thirtieths_8 (by decide) ?_
    refine g_iload_n dX7_thirtieths_10 2 rfl rfl ?_
    obtain ⟨hz2, h⟩ := gnz h
    refine g_irem dX7_thirtieths_11 hz2 ?_
    refine g_if_ne (tgt := 21) dX7_thirtieths_12 (by decide) (fun hc3 => ?_) (fun hc3 => ?_)
    · replace h := gif hc3 h
      exact bX7_thirtieths_21_ok H3 h
    · replace h := git hc3 h
      refine g_iload_n dX7_thirtieths_15 0 rfl rfl ?_
      refine g_iload_n dX7_thirtieths_16 2 rfl rfl ?_
      obtain ⟨hz4, h⟩ := gnz h
      refine g_irem dX7_thirtieths_17 hz4 ?_
      refine g_if_eq (tgt := 27) dX7_thirtieths_18 (by decide) (fun hc5 => ?_) (fun hc5 => ?_)
      · replace h := git hc5 h
        exact bX7_thirtieths_27_ok h
      · replace h := gif hc5 h
        exact bX7_thirtieths_21_ok H3 h
noncomputable def bX7_thirtieths_3l (F : Nat) : Nat → (Int32 × Int32 × Int32 × gS) → Option (Int64 × gS) := g_fix (fun k3 s => bX7_thirtieths_3 F k3 s.1 s.2.1 s.2.2.1 s.2.2.2)
theorem bX7_thirtieths_3l_ok {X : gX} {F : Nat} {R : Int64 × gS} : ∀ (n : Nat) (s : Int32 × Int32 × Int32 × gS), bX7_thirtieths_3l F n s = some R → G X RX7 cX7_thirtieths 3 (some .long) 0 (some (.long R.1)) R.2 3 [(0, .int s.1), (1, .int s.2.1), (2, .int s.2.2.1)] [] s.2.2.2 := by
  intro n
  induction n with
  | zero => intro s h; cases h
  | succ n ih => intro s h; exact bX7_thirtieths_3_ok (F := F) ih h
noncomputable def fX7_thirtieths (F : Nat) (a0 : Int32) (a1 : Int32) (S : gS) : Option (Int64 × gS) := bX7_thirtieths_3l F F (a0, a1, (30 : Int32), S)
set_option maxRecDepth 20000 in
theorem fX7_thirtieths_ok {X : gX} {F : Nat} {R : Int64 × gS} {a0 : Int32} {a1 : Int32} {S : gS} (h : fX7_thirtieths F a0 a1 S = some R) : G X RX7 cX7_thirtieths 3 (some .long) 0 (some (.long R.1)) R.2 0 [(0, .int a0), (1, .int a1)] [] S := by
  unfold fX7_thirtieths at h
  refine g_bipush (v := 30) dX7_thirtieths_0 (by decide) ?_
  refine g_istore_n (lv' := [(2, .int (30 : Int32)), (0, .int a0), (1, .int a1)]) dX7_thirtieths_2 rfl rfl (by decide) rfl ?_
  refine g_sub [1, 2, 0] rfl ?_
  exact bX7_thirtieths_3l_ok F (a0, a1, (30 : Int32), S) h
theorem ctX7_thirtieths {X : gX} {F : Nat} {R : Int64 × gS} {a0 : Int32} {a1 : Int32} {S : gS} (h : fX7_thirtieths F a0 a1 S = some R) : g_C X yX7_thirtieths cX7_thirtieths 3 (some .long) 0 [.int a0, .int a1] S (some (.long R.1)) R.2 :=
  g_met (by decide) (Nat.le_of_ble_eq_true rfl) (fX7_thirtieths_ok h)
noncomputable def bX7_left_19 (F : Nat) (S : gS) : Option (Int64 × gS) := (fX7_refusedLong F (-2 : Int32) S).bind (fun q1 : Int64 × gS => some (q1.1, q1.2))
set_option maxRecDepth 20000 in
theorem bX7_left_19_ok {X : gX} {F : Nat} {R : Int64 × gS} {S : gS} (h : bX7_left_19 F S = some R) : G X RX7 cX7_left 3 (some .long) 5 (some (.long R.1)) R.2 19 [] [] S := by
  unfold bX7_left_19 at h
  refine g_bipush (v := -2) dX7_left_19 (by decide) ?_
  obtain ⟨q1, hq1, h⟩ := gb h
  refine g_callSl [.int (-2 : Int32)] [] dX7_left_21 mk_X7_237 (ctX7_refusedLong hq1) rfl (by decide) rfl (Nat.le_of_ble_eq_true rfl) ?_
  obtain rfl := Option.some.inj h
  exact g_lret dX7_left_24 rfl
noncomputable def fX7_left (F : Nat) (a0 : Int32) (a1 : Int32) (S : gS) : Option (Int64 × gS) := if a0 < 0 then (bX7_left_19 F S) else (if (8 : Int32) < a0 then (bX7_left_19 F S) else (if a1 < 0 then (bX7_left_19 F S) else (if a1 ≤ (1 : Int32) then ((fX7_tryMorning F (-1 : Int32) (-1 : Int32) S).bind (fun q5 : gS => (fX7_slipperinessLeft F a0 q5).bind (fun q6 : Int32 × gS => (fX7_thirtieths F q6.1 a1 q6.2).bind (fun q7 : Int64 × gS => some (q7.1, q7.2))))) else (bX7_left_19 F S))))
set_option maxRecDepth 20000 in
theorem fX7_left_ok {X : gX} {F : Nat} {R : Int64 × gS} {a0 : Int32} {a1 : Int32} {S : gS} (h : fX7_left F a0 a1 S = some R) : G X RX7 cX7_left 3 (some .long) 5 (some (.long R.1)) R.2 0 [(0, .ref (X.1 + 0)), (1, .int a0), (2, .int a1)] [] S := by
  unfold fX7_left at h
  refine g_iload_n dX7_left_0 1 rfl rfl ?_
  refine g_if_lt (tgt := 19) dX7_left_1 (by decide) (fun hc1 => ?_) (fun hc1 => ?_)
  · replace h := git hc1 h
    refine g_sub [] rfl ?_
    exact bX7_left_19_ok h
  · replace h := gif hc1 h
    refine g_iload_n dX7_left_4 1 rfl rfl ?_
    refine g_bipush (v := 8) dX7_left_5 (by decide) ?_
    refine g_icmp_gt (tgt := 19) dX7_left_7 (by decide) (fun hc2 => ?_) (fun hc2 => ?_)
    · replace h := git hc2 h
      refine g_sub [] rfl ?_
      exact bX7_left_19_ok h
    · replace h := gif hc2 h
      refine g_iload_n dX7_left_10 2 rfl rfl ?_
      refine g_if_lt (tgt := 19) dX7_left_11 (by decide) (fun hc3 => ?_) (fun hc3 => ?_)
      · replace h := git hc3 h
        refine g_sub [] rfl ?_
        exact bX7_left_19_ok h
      · replace h := gif hc3 h
        refine g_iload_n dX7_left_14 2 rfl rfl ?_
        refine g_iconst (v := 1) dX7_left_15 (by decide) ?_
        refine g_icmp_le (tgt := 25) dX7_left_16 (by decide) (fun hc4 => ?_) (fun hc4 => ?_)
        · replace h := git hc4 h
          refine g_aload_n dX7_left_25 0 rfl rfl ?_
          refine g_iconst (v := -1) dX7_left_26 (by decide) ?_
          refine g_iconst (v := -1) dX7_left_27 (by decide) ?_
          obtain ⟨q5, hq5, h⟩ := gb h
          refine g_callVv [.int (-1 : Int32), .int (-1 : Int32)] [] dX7_left_28 mk_X7_193 so_0 (ctX7_tryMorning hq5) rfl (by decide) rfl (Nat.le_of_ble_eq_true rfl) ?_
          refine g_aload_n dX7_left_31 0 rfl rfl ?_
          refine g_iload_n dX7_left_32 1 rfl rfl ?_
          obtain ⟨q6, hq6, h⟩ := gb h
          refine g_callVi [.int a0] [] dX7_left_33 mk_X7_240 so_0 (ctX7_slipperinessLeft hq6) rfl (by decide) rfl (Nat.le_of_ble_eq_true rfl) ?_
          refine g_iload_n dX7_left_36 2 rfl rfl ?_
          obtain ⟨q7, hq7, h⟩ := gb h
          refine g_callSl [.int q6.1, .int a1] [] dX7_left_37 mk_X7_243 (ctX7_thirtieths hq7) rfl (by decide) rfl (Nat.le_of_ble_eq_true rfl) ?_
          obtain rfl := Option.some.inj h
          exact g_lret dX7_left_40 rfl
        · replace h := gif hc4 h
          refine g_sub [] rfl ?_
          exact bX7_left_19_ok h
theorem ctX7_left {X : gX} {F : Nat} {R : Int64 × gS} {a0 : Int32} {a1 : Int32} {S : gS} (h : fX7_left F a0 a1 S = some R) : g_C X yX7_left cX7_left 3 (some .long) 5 [.ref (X.1 + 0), .int a0, .int a1] S (some (.long R.1)) R.2 :=
  g_met (by decide) (Nat.le_of_ble_eq_true rfl) (fX7_left_ok h)
noncomputable def fX7_falls (F : Nat) (a0 : Int32) (S : gS) : Option (Int64 × gS) := (fX7_left F (0 : Int32) a0 S).bind (fun q1 : Int64 × gS => some (q1.1, q1.2))
set_option maxRecDepth 20000 in
theorem fX7_falls_ok {X : gX} {F : Nat} {R : Int64 × gS} {a0 : Int32} {S : gS} (h : fX7_falls F a0 S = some R) : G X RX7 cX7_falls 2 (some .long) 6 (some (.long R.1)) R.2 0 [(0, .ref (X.1 + 0)), (1, .int a0)] [] S := by
  unfold fX7_falls at h
  refine g_aload_n dX7_falls_0 0 rfl rfl ?_
  refine g_iconst (v := 0) dX7_falls_1 (by decide) ?_
  refine g_iload_n dX7_falls_2 1 rfl rfl ?_
  obtain ⟨q1, hq1, h⟩ := gb h
  refine g_callVl [.int (0 : Int32), .int a0] [] dX7_falls_3 mk_X7_225 so_0 (ctX7_left hq1) rfl (by decide) rfl (Nat.le_of_ble_eq_true rfl) ?_
  obtain rfl := Option.some.inj h
  exact g_lret dX7_falls_6 rfl
theorem ctX7_falls {X : gX} {F : Nat} {R : Int64 × gS} {a0 : Int32} {S : gS} (h : fX7_falls F a0 S = some R) : g_C X yX7_falls cX7_falls 2 (some .long) 6 [.ref (X.1 + 0), .int a0] S (some (.long R.1)) R.2 :=
  g_met (by decide) (Nat.le_of_ble_eq_true rfl) (fX7_falls_ok h)

noncomputable def bX8_thaws_58 (F : Nat) (k19 : (Int32 × Int32 × Int32 × gS) → Option (Int32 × gS)) (x1 : Int32) (x3 : Int32) (t0 : Int32) (t1 : Int32) (S : gS) : Option (Int32 × gS) := gl (t1 + t0) (fun v1 : Int32 => g_chk x3 64 ((fX8_less F (g_I S 58 (x3).toNatClampNeg) x1 S).bind (fun q3 : Int32 × gS => g_chk x3 64 (gl (g_setI q3.2 58 (x3).toNatClampNeg q3.1) (fun S5 : gS => g_chk x3 64 ((fX8_less F (g_I S5 59 (x3).toNatClampNeg) x1 S5).bind (fun q7 : Int32 × gS => g_chk x3 64 (gl (g_setI q7.2 59 (x3).toNatClampNeg q7.1) (fun S9 : gS => g_chk x3 64 ((fX8_less F (g_I S9 60 (x3).toNatClampNeg) x1 S9).bind (fun q11 : Int32 × gS => g_chk x3 64 (gl (g_setI q11.2 60 (x3).toNatClampNeg q11.1) (fun S13 : gS => gl (x3 + 1) (fun v14 : Int32 => k19 (x1, v1, v14, S13)))))))))))))))
set_option maxRecDepth 20000 in
theorem bX8_thaws_58_ok {X : gX} {F : Nat} {k19 : (Int32 × Int32 × Int32 × gS) → Option (Int32 × gS)} {R : Int32 × gS} (H19 : ∀ s : Int32 × Int32 × Int32 × gS, k19 s = some R → G X RX8 cX8_thaws 4 (some .int) 1 (some (.int R.1)) R.2 19 [(0, .ref (X.1 + 51)), (1, .int s.1), (2, .int s.2.1), (3, .int s.2.2.1)] [] s.2.2.2) {x1 : Int32} {x3 : Int32} {t0 : Int32} {t1 : Int32} {S : gS} (h : bX8_thaws_58 F k19 x1 x3 t0 t1 S = some R) : G X RX8 cX8_thaws 4 (some .int) 1 (some (.int R.1)) R.2 58 [(0, .ref (X.1 + 51)), (1, .int x1), (3, .int x3)] [.int t0, .int t1] S := by
  unfold bX8_thaws_58 at h
  refine g_iadd dX8_thaws_58 ?_
  obtain ⟨v1, ev1, h⟩ := gle h
  refine g_istore_n (lv' := [(2, .int v1), (0, .ref (X.1 + 51)), (1, .int x1), (3, .int x3)]) dX8_thaws_59 ev1 rfl (by decide) rfl ?_
  refine g_aload_n dX8_thaws_60 1 rfl rfl ?_
  refine g_getr dX8_thaws_61 lk_X8_28 sf_51_8 ?_
  refine g_iload_n dX8_thaws_64 3 rfl rfl ?_
  refine g_aload_n dX8_thaws_65 1 rfl rfl ?_
  refine g_getr dX8_thaws_66 lk_X8_28 sf_51_8 ?_
  refine g_iload_n dX8_thaws_69 3 rfl rfl ?_
  obtain ⟨hv2, h⟩ := gchk h
  refine g_iald dX8_thaws_70 sa_58 hv2 ?_
  refine g_iload_n dX8_thaws_71 2 rfl rfl ?_
  obtain ⟨q3, hq3, h⟩ := gb h
  refine g_callSi [.int (g_I S 58 (x3).toNatClampNeg), .int x1] [.int x3, .ref (X.1 + 58)] dX8_thaws_72 mk_X8_138 (ctX8_less hq3) rfl (by decide) rfl (Nat.le_of_ble_eq_true rfl) ?_
  obtain ⟨hv4, h⟩ := gchk h
  obtain ⟨S5, eS5, h⟩ := gle h
  refine g_iast dX8_thaws_75 sa_58 hv4 eS5 ?_
  refine g_aload_n dX8_thaws_76 1 rfl rfl ?_
  refine g_getr dX8_thaws_77 lk_X8_31 sf_51_9 ?_
  refine g_iload_n dX8_thaws_80 3 rfl rfl ?_
  refine g_aload_n dX8_thaws_81 1 rfl rfl ?_
  refine g_getr dX8_thaws_82 lk_X8_31 sf_51_9 ?_
  refine g_iload_n dX8_thaws_85 3 rfl rfl ?_
  obtain ⟨hv6, h⟩ := gchk h
  refine g_iald dX8_thaws_86 sa_59 hv6 ?_
  refine g_iload_n dX8_thaws_87 2 rfl rfl ?_
  obtain ⟨q7, hq7, h⟩ := gb h
  refine g_callSi [.int (g_I S5 59 (x3).toNatClampNeg), .int x1] [.int x3, .ref (X.1 + 59)] dX8_thaws_88 mk_X8_138 (ctX8_less hq7) rfl (by decide) rfl (Nat.le_of_ble_eq_true rfl) ?_
  obtain ⟨hv8, h⟩ := gchk h
  obtain ⟨S9, eS9, h⟩ := gle h
  refine g_iast dX8_thaws_91 sa_59 hv8 eS9 ?_
  refine g_aload_n dX8_thaws_92 1 rfl rfl ?_
  refine g_getr dX8_thaws_93 lk_X8_34 sf_51_10 ?_
  refine g_iload_n dX8_thaws_96 3 rfl rfl ?_
  refine g_aload_n dX8_thaws_97 1 rfl rfl ?_
  refine g_getr dX8_thaws_98 lk_X8_34 sf_51_10 ?_
  refine g_iload_n dX8_thaws_101 3 rfl rfl ?_
  obtain ⟨hv10, h⟩ := gchk h
  refine g_iald dX8_thaws_102 sa_60 hv10 ?_
  refine g_iload_n dX8_thaws_103 2 rfl rfl ?_
  obtain ⟨q11, hq11, h⟩ := gb h
  refine g_callSi [.int (g_I S9 60 (x3).toNatClampNeg), .int x1] [.int x3, .ref (X.1 + 60)] dX8_thaws_104 mk_X8_138 (ctX8_less hq11) rfl (by decide) rfl (Nat.le_of_ble_eq_true rfl) ?_
  obtain ⟨hv12, h⟩ := gchk h
  obtain ⟨S13, eS13, h⟩ := gle h
  refine g_iast dX8_thaws_107 sa_60 hv12 eS13 ?_
  obtain ⟨v14, ev14, h⟩ := gle h
  refine g_iinc (q := 3) (v := v14) (lv' := [(3, .int v14), (2, .int v1), (0, .ref (X.1 + 51)), (1, .int x1)]) dX8_thaws_108 rfl (by rw [← ev14]; rfl) (by decide) rfl ?_
  refine g_goto (tgt := 19) dX8_thaws_111 (by decide) ?_
  refine g_sub [2, 3, 1, 0] rfl ?_
  exact H19 (x1, v1, v14, S13) h
noncomputable def bX8_thaws_57 (F : Nat) (k19 : (Int32 × Int32 × Int32 × gS) → Option (Int32 × gS)) (x1 : Int32) (x3 : Int32) (t0 : Int32) (S : gS) : Option (Int32 × gS) := bX8_thaws_58 F k19 x1 x3 (0 : Int32) t0 S
set_option maxRecDepth 20000 in
theorem bX8_thaws_57_ok {X : gX} {F : Nat} {k19 : (Int32 × Int32 × Int32 × gS) → Option (Int32 × gS)} {R : Int32 × gS} (H19 : ∀ s : Int32 × Int32 × Int32 × gS, k19 s = some R → G X RX8 cX8_thaws 4 (some .int) 1 (some (.int R.1)) R.2 19 [(0, .ref (X.1 + 51)), (1, .int s.1), (2, .int s.2.1), (3, .int s.2.2.1)] [] s.2.2.2) {x1 : Int32} {x3 : Int32} {t0 : Int32} {S : gS} (h : bX8_thaws_57 F k19 x1 x3 t0 S = some R) : G X RX8 cX8_thaws 4 (some .int) 1 (some (.int R.1)) R.2 57 [(0, .ref (X.1 + 51)), (1, .int x1), (3, .int x3)] [.int t0] S := by
  unfold bX8_thaws_57 at h
  refine g_iconst (v := 0) dX8_thaws_57 (by decide) ?_
  exact bX8_thaws_58_ok H19 h
noncomputable def bX8_thaws_19 (F : Nat) (k19 : (Int32 × Int32 × Int32 × gS) → Option (Int32 × gS)) (x1 : Int32) (x2 : Int32) (x3 : Int32) (S : gS) : Option (Int32 × gS) := if (64 : Int32) ≤ x3 then (some (x2, S)) else (if x1 ≤ 0 then (bX8_thaws_57 F k19 x1 x3 x2 S) else (g_chk x3 64 (g_chk x3 64 (g_chk x3 64 (if (((g_I S 58 (x3).toNatClampNeg) + (g_I S 59 (x3).toNatClampNeg)) + (g_I S 60 (x3).toNatClampNeg)) ≤ 0 then (bX8_thaws_57 F k19 x1 x3 x2 S) else (bX8_thaws_58 F k19 x1 x3 (1 : Int32) x2 S))))))
set_option maxRecDepth 20000 in
theorem bX8_thaws_19_ok {X : gX} {F : Nat} {k19 : (Int32 × Int32 × Int32 × gS) → Option (Int32 × gS)} {R : Int32 × gS} (H19 : ∀ s : Int32 × Int32 × Int32 × gS, k19 s = some R → G X RX8 cX8_thaws 4 (some .int) 1 (some (.int R.1)) R.2 19 [(0, .ref (X.1 + 51)), (1, .int s.1), (2, .int s.2.1), (3, .int s.2.2.1)] [] s.2.2.2) {x1 : Int32} {x2 : Int32} {x3 : Int32} {S : gS} (h : bX8_thaws_19 F k19 x1 x2 x3 S = some R) : G X RX8 cX8_thaws 4 (some .int) 1 (some (.int R.1)) R.2 19 [(0, .ref (X.1 + 51)), (1, .int x1), (2, .int x2), (3, .int x3)] [] S := by
  unfold bX8_thaws_19 at h
  refine g_iload_n dX8_thaws_19 3 rfl rfl ?_
  refine g_bipush (v := 64) dX8_thaws_20 (by decide) ?_
  refine g_icmp_ge (tgt := 114) dX8_thaws_22 (by decide) (fun hc1 => ?_) (fun hc1 => ?_)
  · replace h := git hc1 h
    refine g_iload_n dX8_thaws_114 2 rfl rfl ?_
    obtain rfl := Option.some.inj h
    exact g_iret dX8_thaws_115 rfl
  · replace h := gif hc1 h
    refine g_iload_n dX8_thaws_25 2 rfl rfl ?_
    refine g_iload_n dX8_thaws_26 1 rfl rfl ?_
    refine g_if_le (tgt := 57) dX8_thaws_27 (by decide) (fun hc2 => ?_) (fun hc2 => ?_)
    · replace h := git hc2 h
      refine g_sub [0, 1, 3] rfl ?_
      exact bX8_thaws_57_ok H19 h
    · replace h := gif hc2 h
      refine g_aload_n dX8_thaws_30 0 rfl rfl ?_
      refine g_getr dX8_thaws_31 lk_X8_28 sf_51_8 ?_
      refine g_iload_n dX8_thaws_34 3 rfl rfl ?_
      obtain ⟨hv3, h⟩ := gchk h
      refine g_iald dX8_thaws_35 sa_58 hv3 ?_
      refine g_aload_n dX8_thaws_36 0 rfl rfl ?_
      refine g_getr dX8_thaws_37 lk_X8_31 sf_51_9 ?_
      refine g_iload_n dX8_thaws_40 3 rfl rfl ?_
      obtain ⟨hv4, h⟩ := gchk h
      refine g_iald dX8_thaws_41 sa_59 hv4 ?_
      refine g_iadd dX8_thaws_42 ?_
      refine g_aload_n dX8_thaws_43 0 rfl rfl ?_
      refine g_getr dX8_thaws_44 lk_X8_34 sf_51_10 ?_
      refine g_iload_n dX8_thaws_47 3 rfl rfl ?_
      obtain ⟨hv5, h⟩ := gchk h
      refine g_iald dX8_thaws_48 sa_60 hv5 ?_
      refine g_iadd dX8_thaws_49 ?_
      refine g_if_le (tgt := 57) dX8_thaws_50 (by decide) (fun hc6 => ?_) (fun hc6 => ?_)
      · replace h := git hc6 h
        refine g_sub [0, 1, 3] rfl ?_
        exact bX8_thaws_57_ok H19 h
      · replace h := gif hc6 h
        refine g_iconst (v := 1) dX8_thaws_53 (by decide) ?_
        refine g_goto (tgt := 58) dX8_thaws_54 (by decide) ?_
        refine g_sub [0, 1, 3] rfl ?_
        exact bX8_thaws_58_ok H19 h
noncomputable def bX8_thaws_19l (F : Nat) : Nat → (Int32 × Int32 × Int32 × gS) → Option (Int32 × gS) := g_fix (fun k19 s => bX8_thaws_19 F k19 s.1 s.2.1 s.2.2.1 s.2.2.2)
theorem bX8_thaws_19l_ok {X : gX} {F : Nat} {R : Int32 × gS} : ∀ (n : Nat) (s : Int32 × Int32 × Int32 × gS), bX8_thaws_19l F n s = some R → G X RX8 cX8_thaws 4 (some .int) 1 (some (.int R.1)) R.2 19 [(0, .ref (X.1 + 51)), (1, .int s.1), (2, .int s.2.1), (3, .int s.2.2.1)] [] s.2.2.2 := by
  intro n
  induction n with
  | zero => intro s h; cases h
  | succ n ih => intro s h; exact bX8_thaws_19_ok (F := F) ih h
noncomputable def fX8_thaws (F : Nat) (a0 : Int32) (S : gS) : Option (Int32 × gS) := (fX8_in F ((a0).toInt64) (0 : Int64) (9 : Int64) S).bind (fun q1 : Int32 × gS => if q1.1 = 0 then (some ((-2 : Int32), q1.2)) else (bX8_thaws_19l F F (a0, (0 : Int32), (0 : Int32), q1.2)))
set_option maxRecDepth 20000 in
theorem fX8_thaws_ok {X : gX} {F : Nat} {R : Int32 × gS} {a0 : Int32} {S : gS} (h : fX8_thaws F a0 S = some R) : G X RX8 cX8_thaws 4 (some .int) 1 (some (.int R.1)) R.2 0 [(0, .ref (X.1 + 51)), (1, .int a0)] [] S := by
  unfold fX8_thaws at h
  refine g_iload_n dX8_thaws_0 1 rfl rfl ?_
  refine g_i2l dX8_thaws_1 ?_
  refine g_lconst (v := 0) dX8_thaws_2 (by decide) ?_
  refine g_ldc2 dX8_thaws_3 ck_X8_133 ?_
  obtain ⟨q1, hq1, h⟩ := gb h
  refine g_callSi [.long ((a0).toInt64), .long (0 : Int64), .long (9 : Int64)] [] dX8_thaws_6 mk_X8_80 (ctX8_in hq1) rfl (by decide) rfl (Nat.le_of_ble_eq_true rfl) ?_
  refine g_if_ne (tgt := 15) dX8_thaws_9 (by decide) (fun hc2 => ?_) (fun hc2 => ?_)
  · replace h := gif hc2 h
    refine g_iconst (v := 0) dX8_thaws_15 (by decide) ?_
    refine g_istore_n (lv' := [(2, .int (0 : Int32)), (0, .ref (X.1 + 51)), (1, .int a0)]) dX8_thaws_16 rfl rfl (by decide) rfl ?_
    refine g_iconst (v := 0) dX8_thaws_17 (by decide) ?_
    refine g_istore_n (lv' := [(3, .int (0 : Int32)), (2, .int (0 : Int32)), (0, .ref (X.1 + 51)), (1, .int a0)]) dX8_thaws_18 rfl rfl (by decide) rfl ?_
    refine g_sub [2, 3, 1, 0] rfl ?_
    exact bX8_thaws_19l_ok F (a0, (0 : Int32), (0 : Int32), q1.2) h
  · replace h := git hc2 h
    refine g_bipush (v := -2) dX8_thaws_12 (by decide) ?_
    obtain rfl := Option.some.inj h
    exact g_iret dX8_thaws_14 rfl
theorem ctX8_thaws {X : gX} {F : Nat} {R : Int32 × gS} {a0 : Int32} {S : gS} (h : fX8_thaws F a0 S = some R) : g_C X yX8_thaws cX8_thaws 4 (some .int) 1 [.ref (X.1 + 51), .int a0] S (some (.int R.1)) R.2 :=
  g_met (by decide) (Nat.le_of_ble_eq_true rfl) (fX8_thaws_ok h)
noncomputable def bX8_freezes_37 (F : Nat) (k4 : (Int32 × Int32 × gS) → Option (Int32 × gS)) (x2 : Int32) (t0 : Int32) (t1 : Int32) (S : gS) : Option (Int32 × gS) := gl (t1 + t0) (fun v1 : Int32 => gl (x2 + 1) (fun v2 : Int32 => k4 (v1, v2, S)))
set_option maxRecDepth 20000 in
theorem bX8_freezes_37_ok {X : gX} {F : Nat} {k4 : (Int32 × Int32 × gS) → Option (Int32 × gS)} {R : Int32 × gS} (H4 : ∀ s : Int32 × Int32 × gS, k4 s = some R → G X RX8 cX8_freezes 3 (some .int) 0 (some (.int R.1)) R.2 4 [(0, .ref (X.1 + 51)), (1, .int s.1), (2, .int s.2.1)] [] s.2.2) {x2 : Int32} {t0 : Int32} {t1 : Int32} {S : gS} (h : bX8_freezes_37 F k4 x2 t0 t1 S = some R) : G X RX8 cX8_freezes 3 (some .int) 0 (some (.int R.1)) R.2 37 [(0, .ref (X.1 + 51)), (2, .int x2)] [.int t0, .int t1] S := by
  unfold bX8_freezes_37 at h
  refine g_iadd dX8_freezes_37 ?_
  obtain ⟨v1, ev1, h⟩ := gle h
  refine g_istore_n (lv' := [(1, .int v1), (0, .ref (X.1 + 51)), (2, .int x2)]) dX8_freezes_38 ev1 rfl (by decide) rfl ?_
  obtain ⟨v2, ev2, h⟩ := gle h
  refine g_iinc (q := 2) (v := v2) (lv' := [(2, .int v2), (1, .int v1), (0, .ref (X.1 + 51))]) dX8_freezes_39 rfl (by rw [← ev2]; rfl) (by decide) rfl ?_
  refine g_goto (tgt := 4) dX8_freezes_42 (by decide) ?_
  refine g_sub [2, 1, 0] rfl ?_
  exact H4 (v1, v2, S) h
noncomputable def bX8_freezes_4 (F : Nat) (k4 : (Int32 × Int32 × gS) → Option (Int32 × gS)) (x1 : Int32) (x2 : Int32) (S : gS) : Option (Int32 × gS) := if (64 : Int32) ≤ x2 then (some (x1, S)) else (g_chk x2 64 (g_chk x2 64 (gl (g_setI S 60 (x2).toNatClampNeg (g_I S 59 (x2).toNatClampNeg)) (fun S4 : gS => g_chk x2 64 (if (g_I S4 60 (x2).toNatClampNeg) ≤ 0 then (bX8_freezes_37 F k4 x2 (0 : Int32) x1 S4) else (bX8_freezes_37 F k4 x2 (1 : Int32) x1 S4))))))
set_option maxRecDepth 20000 in
theorem bX8_freezes_4_ok {X : gX} {F : Nat} {k4 : (Int32 × Int32 × gS) → Option (Int32 × gS)} {R : Int32 × gS} (H4 : ∀ s : Int32 × Int32 × gS, k4 s = some R → G X RX8 cX8_freezes 3 (some .int) 0 (some (.int R.1)) R.2 4 [(0, .ref (X.1 + 51)), (1, .int s.1), (2, .int s.2.1)] [] s.2.2) {x1 : Int32} {x2 : Int32} {S : gS} (h : bX8_freezes_4 F k4 x1 x2 S = some R) : G X RX8 cX8_freezes 3 (some .int) 0 (some (.int R.1)) R.2 4 [(0, .ref (X.1 + 51)), (1, .int x1), (2, .int x2)] [] S := by
  unfold bX8_freezes_4 at h
  refine g_iload_n dX8_freezes_4 2 rfl rfl ?_
  refine g_bipush (v := 64) dX8_freezes_5 (by decide) ?_
  refine g_icmp_ge (tgt := 45) dX8_freezes_7 (by decide) (fun hc1 => ?_) (fun hc1 => ?_)
  · replace h := git hc1 h
    refine g_iload_n dX8_freezes_45 1 rfl rfl ?_
    obtain rfl := Option.some.inj h
    exact g_iret dX8_freezes_46 rfl
  · replace h := gif hc1 h
    refine g_aload_n dX8_freezes_10 0 rfl rfl ?_
    refine g_getr dX8_freezes_11 lk_X8_34 sf_51_10 ?_
    refine g_iload_n dX8_freezes_14 2 rfl rfl ?_
    refine g_aload_n dX8_freezes_15 0 rfl rfl ?_
    refine g_getr dX8_freezes_16 lk_X8_31 sf_51_9 ?_
    refine g_iload_n dX8_freezes_19 2 rfl rfl ?_
    obtain ⟨hv2, h⟩ := gchk h
    refine g_iald dX8_freezes_20 sa_59 hv2 ?_
    obtain ⟨hv3, h⟩ := gchk h
    obtain ⟨S4, eS4, h⟩ := gle h
    refine g_iast dX8_freezes_21 sa_60 hv3 eS4 ?_
    refine g_iload_n dX8_freezes_22 1 rfl rfl ?_
    refine g_aload_n dX8_freezes_23 0 rfl rfl ?_
    refine g_getr dX8_freezes_24 lk_X8_34 sf_51_10 ?_
    refine g_iload_n dX8_freezes_27 2 rfl rfl ?_
    obtain ⟨hv5, h⟩ := gchk h
    refine g_iald dX8_freezes_28 sa_60 hv5 ?_
    refine g_if_le (tgt := 36) dX8_freezes_29 (by decide) (fun hc6 => ?_) (fun hc6 => ?_)
    · replace h := git hc6 h
      refine g_iconst (v := 0) dX8_freezes_36 (by decide) ?_
      refine g_sub [0, 2] rfl ?_
      exact bX8_freezes_37_ok H4 h
    · replace h := gif hc6 h
      refine g_iconst (v := 1) dX8_freezes_32 (by decide) ?_
      refine g_goto (tgt := 37) dX8_freezes_33 (by decide) ?_
      refine g_sub [0, 2] rfl ?_
      exact bX8_freezes_37_ok H4 h
noncomputable def bX8_freezes_4l (F : Nat) : Nat → (Int32 × Int32 × gS) → Option (Int32 × gS) := g_fix (fun k4 s => bX8_freezes_4 F k4 s.1 s.2.1 s.2.2)
theorem bX8_freezes_4l_ok {X : gX} {F : Nat} {R : Int32 × gS} : ∀ (n : Nat) (s : Int32 × Int32 × gS), bX8_freezes_4l F n s = some R → G X RX8 cX8_freezes 3 (some .int) 0 (some (.int R.1)) R.2 4 [(0, .ref (X.1 + 51)), (1, .int s.1), (2, .int s.2.1)] [] s.2.2 := by
  intro n
  induction n with
  | zero => intro s h; cases h
  | succ n ih => intro s h; exact bX8_freezes_4_ok (F := F) ih h
noncomputable def fX8_freezes (F : Nat) (S : gS) : Option (Int32 × gS) := bX8_freezes_4l F F ((0 : Int32), (0 : Int32), S)
set_option maxRecDepth 20000 in
theorem fX8_freezes_ok {X : gX} {F : Nat} {R : Int32 × gS} {S : gS} (h : fX8_freezes F S = some R) : G X RX8 cX8_freezes 3 (some .int) 0 (some (.int R.1)) R.2 0 [(0, .ref (X.1 + 51))] [] S := by
  unfold fX8_freezes at h
  refine g_iconst (v := 0) dX8_freezes_0 (by decide) ?_
  refine g_istore_n (lv' := [(1, .int (0 : Int32)), (0, .ref (X.1 + 51))]) dX8_freezes_1 rfl rfl (by decide) rfl ?_
  refine g_iconst (v := 0) dX8_freezes_2 (by decide) ?_
  refine g_istore_n (lv' := [(2, .int (0 : Int32)), (1, .int (0 : Int32)), (0, .ref (X.1 + 51))]) dX8_freezes_3 rfl rfl (by decide) rfl ?_
  refine g_sub [2, 1, 0] rfl ?_
  exact bX8_freezes_4l_ok F ((0 : Int32), (0 : Int32), S) h
theorem ctX8_freezes {X : gX} {F : Nat} {R : Int32 × gS} {S : gS} (h : fX8_freezes F S = some R) : g_C X yX8_freezes cX8_freezes 3 (some .int) 0 [.ref (X.1 + 51)] S (some (.int R.1)) R.2 :=
  g_met (by decide) (Nat.le_of_ble_eq_true rfl) (fX8_freezes_ok h)
noncomputable def fX8_next (F : Nat) (a0 : Int32) (a1 : Int32) (S : gS) : Option (Int32 × gS) := if a1 = 0 then (if (8 : Int32) ≤ a0 then (some ((a0 - (8 : Int32)), S)) else (some ((-1 : Int32), S))) else (if a1 = 1 then (g_nz (8 : Int32) (if (a0 - a0 / (8 : Int32) * (8 : Int32)) = (7 : Int32) then (some ((-1 : Int32), S)) else (some ((a0 + (1 : Int32)), S)))) else (if a1 = 2 then (if a0 ≤ (55 : Int32) then (some ((a0 + (8 : Int32)), S)) else (some ((-1 : Int32), S))) else (g_nz (8 : Int32) (if (a0 - a0 / (8 : Int32) * (8 : Int32)) = 0 then (some ((-1 : Int32), S)) else (some ((a0 - (1 : Int32)), S))))))
set_option maxRecDepth 20000 in
theorem fX8_next_ok {X : gX} {F : Nat} {R : Int32 × gS} {a0 : Int32} {a1 : Int32} {S : gS} (h : fX8_next F a0 a1 S = some R) : G X RX8 cX8_next 2 (some .int) 0 (some (.int R.1)) R.2 0 [(0, .int a0), (1, .int a1)] [] S := by
  unfold fX8_next at h
  refine g_iload_n dX8_next_0 1 rfl rfl ?_
  by_cases hc1 : a1 = 0
  · replace h := git hc1 h
    refine g_tabIn (off := 27) (tgt := 28) dX8_next_1 (by have z := hc1; (try unfold g_I at z); rw [z]; decide) (by have z := hc1; (try unfold g_I at z); rw [z]; decide) (by have z := hc1; (try unfold g_I at z); rw [z]; rfl) (by decide) ?_
    refine g_iload_n dX8_next_28 0 rfl rfl ?_
    refine g_bipush (v := 8) dX8_next_29 (by decide) ?_
    refine g_icmp_ge (tgt := 38) dX8_next_31 (by decide) (fun hc2 => ?_) (fun hc2 => ?_)
    · replace h := git hc2 h
      refine g_iload_n dX8_next_38 0 rfl rfl ?_
      refine g_bipush (v := 8) dX8_next_39 (by decide) ?_
      refine g_isub dX8_next_41 ?_
      obtain rfl := Option.some.inj h
      exact g_iret dX8_next_42 rfl
    · replace h := gif hc2 h
      refine g_iconst (v := -1) dX8_next_34 (by decide) ?_
      refine g_goto (tgt := 42) dX8_next_35 (by decide) ?_
      obtain rfl := Option.some.inj h
      exact g_iret dX8_next_42 rfl
  · replace h := gif hc1 h
    by_cases hc3 : a1 = 1
    · replace h := git hc3 h
      refine g_tabIn (off := 42) (tgt := 43) dX8_next_1 (by have z := hc3; (try unfold g_I at z); rw [z]; decide) (by have z := hc3; (try unfold g_I at z); rw [z]; decide) (by have z := hc3; (try unfold g_I at z); rw [z]; rfl) (by decide) ?_
      refine g_iload_n dX8_next_43 0 rfl rfl ?_
      refine g_bipush (v := 8) dX8_next_44 (by decide) ?_
      obtain ⟨hz4, h⟩ := gnz h
      refine g_irem dX8_next_46 hz4 ?_
      refine g_bipush (v := 7) dX8_next_47 (by decide) ?_
      refine g_icmp_ne (tgt := 56) dX8_next_49 (by decide) (fun hc5 => ?_) (fun hc5 => ?_)
      · replace h := gif hc5 h
        refine g_iload_n dX8_next_56 0 rfl rfl ?_
        refine g_iconst (v := 1) dX8_next_57 (by decide) ?_
        refine g_iadd dX8_next_58 ?_
        obtain rfl := Option.some.inj h
        exact g_iret dX8_next_59 rfl
      · replace h := git hc5 h
        refine g_iconst (v := -1) dX8_next_52 (by decide) ?_
        refine g_goto (tgt := 59) dX8_next_53 (by decide) ?_
        obtain rfl := Option.some.inj h
        exact g_iret dX8_next_59 rfl
    · replace h := gif hc3 h
      by_cases hc6 : a1 = 2
      · replace h := git hc6 h
        refine g_tabIn (off := 59) (tgt := 60) dX8_next_1 (by have z := hc6; (try unfold g_I at z); rw [z]; decide) (by have z := hc6; (try unfold g_I at z); rw [z]; decide) (by have z := hc6; (try unfold g_I at z); rw [z]; rfl) (by decide) ?_
        refine g_iload_n dX8_next_60 0 rfl rfl ?_
        refine g_bipush (v := 55) dX8_next_61 (by decide) ?_
        refine g_icmp_le (tgt := 70) dX8_next_63 (by decide) (fun hc7 => ?_) (fun hc7 => ?_)
        · replace h := git hc7 h
          refine g_iload_n dX8_next_70 0 rfl rfl ?_
          refine g_bipush (v := 8) dX8_next_71 (by decide) ?_
          refine g_iadd dX8_next_73 ?_
          obtain rfl := Option.some.inj h
          exact g_iret dX8_next_74 rfl
        · replace h := gif hc7 h
          refine g_iconst (v := -1) dX8_next_66 (by decide) ?_
          refine g_goto (tgt := 74) dX8_next_67 (by decide) ?_
          obtain rfl := Option.some.inj h
          exact g_iret dX8_next_74 rfl
      · replace h := gif hc6 h
        refine g_tabOut (tgt := 75) dX8_next_1 (g_tout (fun c h1 h2 => by have z0 := g_tne hc1; have z1 := g_tne hc3; have z2 := g_tne hc6; rw [show ((0 : Int32)).toInt = 0 from by decide] at z0; rw [show ((1 : Int32)).toInt = 1 from by decide] at z1; rw [show ((2 : Int32)).toInt = 2 from by decide] at z2; omega)) (by decide) ?_
        refine g_iload_n dX8_next_75 0 rfl rfl ?_
        refine g_bipush (v := 8) dX8_next_76 (by decide) ?_
        obtain ⟨hz8, h⟩ := gnz h
        refine g_irem dX8_next_78 hz8 ?_
        refine g_if_ne (tgt := 86) dX8_next_79 (by decide) (fun hc9 => ?_) (fun hc9 => ?_)
        · replace h := gif hc9 h
          refine g_iload_n dX8_next_86 0 rfl rfl ?_
          refine g_iconst (v := 1) dX8_next_87 (by decide) ?_
          refine g_isub dX8_next_88 ?_
          obtain rfl := Option.some.inj h
          exact g_iret dX8_next_89 rfl
        · replace h := git hc9 h
          refine g_iconst (v := -1) dX8_next_82 (by decide) ?_
          refine g_goto (tgt := 89) dX8_next_83 (by decide) ?_
          obtain rfl := Option.some.inj h
          exact g_iret dX8_next_89 rfl
theorem ctX8_next {X : gX} {F : Nat} {R : Int32 × gS} {a0 : Int32} {a1 : Int32} {S : gS} (h : fX8_next F a0 a1 S = some R) : g_C X yX8_next cX8_next 2 (some .int) 0 [.int a0, .int a1] S (some (.int R.1)) R.2 :=
  g_met (by decide) (Nat.le_of_ble_eq_true rfl) (fX8_next_ok h)
noncomputable def fX8_clear (F : Nat) (a0 : Int32) (a1 : Int32) (S : gS) : Option (Int32 × gS) := (fX8_isCell F a0 S).bind (fun q1 : Int32 × gS => if q1.1 = 0 then (some ((-2 : Int32), q1.2)) else ((fX8_in F ((a1).toInt64) (0 : Int64) (3 : Int64) q1.2).bind (fun q3 : Int32 × gS => if q3.1 = 0 then (some ((-2 : Int32), q3.2)) else ((fX8_reads F q3.2).bind (fun q5 : Int32 × gS => (fX8_next F a0 a1 q5.2).bind (fun q6 : Int32 × gS => gl q6.1 (fun v7 : Int32 => g_chk a0 64 (if (g_I q6.2 57 (a0).toNatClampNeg) = (1 : Int32) then (some ((-3 : Int32), q6.2)) else (if v7 = (-1 : Int32) then (some ((-3 : Int32), q6.2)) else (g_chk v7 64 (if (g_I q6.2 57 (v7).toNatClampNeg) = (1 : Int32) then (some ((-3 : Int32), q6.2)) else (g_chk a0 64 (g_chk a0 64 (gl ((g_I q6.2 58 (a0).toNatClampNeg) + (g_I q6.2 59 (a0).toNatClampNeg)) (fun v15 : Int32 => g_chk a0 64 (gl (g_setI q6.2 58 (a0).toNatClampNeg (0 : Int32)) (fun S17 : gS => g_chk a0 64 (gl (g_setI S17 59 (a0).toNatClampNeg (0 : Int32)) (fun S19 : gS => g_chk v7 64 ((fX8_least F ((g_I S19 58 (v7).toNatClampNeg) + v15) (30 : Int32) S19).bind (fun q21 : Int32 × gS => g_chk v7 64 (gl (g_setI q21.2 58 (v7).toNatClampNeg q21.1) (fun S23 : gS => some (v15, S23))))))))))))))))))))))))
set_option maxRecDepth 20000 in
theorem fX8_clear_ok {X : gX} {F : Nat} {R : Int32 × gS} {a0 : Int32} {a1 : Int32} {S : gS} (h : fX8_clear F a0 a1 S = some R) : G X RX8 cX8_clear 5 (some .int) 3 (some (.int R.1)) R.2 0 [(0, .ref (X.1 + 51)), (1, .int a0), (2, .int a1)] [] S := by
  unfold fX8_clear at h
  refine g_iload_n dX8_clear_0 1 rfl rfl ?_
  obtain ⟨q1, hq1, h⟩ := gb h
  refine g_callSi [.int a0] [] dX8_clear_1 mk_X8_125 (ctX8_isCell hq1) rfl (by decide) rfl (Nat.le_of_ble_eq_true rfl) ?_
  refine g_if_eq (tgt := 19) dX8_clear_4 (by decide) (fun hc2 => ?_) (fun hc2 => ?_)
  · replace h := git hc2 h
    refine g_bipush (v := -2) dX8_clear_19 (by decide) ?_
    obtain rfl := Option.some.inj h
    exact g_iret dX8_clear_21 rfl
  · replace h := gif hc2 h
    refine g_iload_n dX8_clear_7 2 rfl rfl ?_
    refine g_i2l dX8_clear_8 ?_
    refine g_lconst (v := 0) dX8_clear_9 (by decide) ?_
    refine g_ldc2 dX8_clear_10 ck_X8_89 ?_
    obtain ⟨q3, hq3, h⟩ := gb h
    refine g_callSi [.long ((a1).toInt64), .long (0 : Int64), .long (3 : Int64)] [] dX8_clear_13 mk_X8_80 (ctX8_in hq3) rfl (by decide) rfl (Nat.le_of_ble_eq_true rfl) ?_
    refine g_if_ne (tgt := 22) dX8_clear_16 (by decide) (fun hc4 => ?_) (fun hc4 => ?_)
    · replace h := gif hc4 h
      refine g_aload_n dX8_clear_22 0 rfl rfl ?_
      obtain ⟨q5, hq5, h⟩ := gb h
      refine g_callVi [] [] dX8_clear_23 mk_X8_122 so_51 (ctX8_reads hq5) rfl (by decide) rfl (Nat.le_of_ble_eq_true rfl) ?_
      refine g_pop dX8_clear_26 rfl ?_
      refine g_iload_n dX8_clear_27 1 rfl rfl ?_
      refine g_iload_n dX8_clear_28 2 rfl rfl ?_
      obtain ⟨q6, hq6, h⟩ := gb h
      refine g_callSi [.int a0, .int a1] [] dX8_clear_29 mk_X8_141 (ctX8_next hq6) rfl (by decide) rfl (Nat.le_of_ble_eq_true rfl) ?_
      obtain ⟨v7, ev7, h⟩ := gle h
      refine g_istore_n (lv' := [(3, .int v7), (0, .ref (X.1 + 51)), (1, .int a0), (2, .int a1)]) dX8_clear_32 ev7 rfl (by decide) rfl ?_
      refine g_aload_n dX8_clear_33 1 rfl rfl ?_
      refine g_getr dX8_clear_34 lk_X8_25 sf_51_7 ?_
      refine g_iload_n dX8_clear_37 2 rfl rfl ?_
      obtain ⟨hv8, h⟩ := gchk h
      refine g_iald dX8_clear_38 sa_57 hv8 ?_
      refine g_iconst (v := 1) dX8_clear_39 (by decide) ?_
      refine g_icmp_eq (tgt := 58) dX8_clear_40 (by decide) (fun hc9 => ?_) (fun hc9 => ?_)
      · replace h := git hc9 h
        refine g_bipush (v := -3) dX8_clear_58 (by decide) ?_
        obtain rfl := Option.some.inj h
        exact g_iret dX8_clear_60 rfl
      · replace h := gif hc9 h
        refine g_iload_n dX8_clear_43 0 rfl rfl ?_
        refine g_iconst (v := -1) dX8_clear_44 (by decide) ?_
        refine g_icmp_eq (tgt := 58) dX8_clear_45 (by decide) (fun hc10 => ?_) (fun hc10 => ?_)
        · replace h := git hc10 h
          refine g_bipush (v := -3) dX8_clear_58 (by decide) ?_
          obtain rfl := Option.some.inj h
          exact g_iret dX8_clear_60 rfl
        · replace h := gif hc10 h
          refine g_aload_n dX8_clear_48 1 rfl rfl ?_
          refine g_getr dX8_clear_49 lk_X8_25 sf_51_7 ?_
          refine g_iload_n dX8_clear_52 0 rfl rfl ?_
          obtain ⟨hv11, h⟩ := gchk h
          refine g_iald dX8_clear_53 sa_57 hv11 ?_
          refine g_iconst (v := 1) dX8_clear_54 (by decide) ?_
          refine g_icmp_ne (tgt := 61) dX8_clear_55 (by decide) (fun hc12 => ?_) (fun hc12 => ?_)
          · replace h := gif hc12 h
            refine g_aload_n dX8_clear_61 1 rfl rfl ?_
            refine g_getr dX8_clear_62 lk_X8_28 sf_51_8 ?_
            refine g_iload_n dX8_clear_65 2 rfl rfl ?_
            obtain ⟨hv13, h⟩ := gchk h
            refine g_iald dX8_clear_66 sa_58 hv13 ?_
            refine g_aload_n dX8_clear_67 1 rfl rfl ?_
            refine g_getr dX8_clear_68 lk_X8_31 sf_51_9 ?_
            refine g_iload_n dX8_clear_71 2 rfl rfl ?_
            obtain ⟨hv14, h⟩ := gchk h
            refine g_iald dX8_clear_72 sa_59 hv14 ?_
            refine g_iadd dX8_clear_73 ?_
            obtain ⟨v15, ev15, h⟩ := gle h
            refine g_istore (lv' := [(4, .int v15), (3, .int v7), (0, .ref (X.1 + 51)), (1, .int a0), (2, .int a1)]) dX8_clear_74 ev15 (by decide) rfl ?_
            refine g_aload_n dX8_clear_76 2 rfl rfl ?_
            refine g_getr dX8_clear_77 lk_X8_28 sf_51_8 ?_
            refine g_iload_n dX8_clear_80 3 rfl rfl ?_
            refine g_iconst (v := 0) dX8_clear_81 (by decide) ?_
            obtain ⟨hv16, h⟩ := gchk h
            obtain ⟨S17, eS17, h⟩ := gle h
            refine g_iast dX8_clear_82 sa_58 hv16 eS17 ?_
            refine g_aload_n dX8_clear_83 2 rfl rfl ?_
            refine g_getr dX8_clear_84 lk_X8_31 sf_51_9 ?_
            refine g_iload_n dX8_clear_87 3 rfl rfl ?_
            refine g_iconst (v := 0) dX8_clear_88 (by decide) ?_
            obtain ⟨hv18, h⟩ := gchk h
            obtain ⟨S19, eS19, h⟩ := gle h
            refine g_iast dX8_clear_89 sa_59 hv18 eS19 ?_
            refine g_aload_n dX8_clear_90 2 rfl rfl ?_
            refine g_getr dX8_clear_91 lk_X8_28 sf_51_8 ?_
            refine g_iload_n dX8_clear_94 1 rfl rfl ?_
            refine g_aload_n dX8_clear_95 2 rfl rfl ?_
            refine g_getr dX8_clear_96 lk_X8_28 sf_51_8 ?_
            refine g_iload_n dX8_clear_99 1 rfl rfl ?_
            obtain ⟨hv20, h⟩ := gchk h
            refine g_iald dX8_clear_100 sa_58 hv20 ?_
            refine g_iload dX8_clear_101 0 rfl ?_
            refine g_iadd dX8_clear_103 ?_
            refine g_bipush (v := 30) dX8_clear_104 (by decide) ?_
            obtain ⟨q21, hq21, h⟩ := gb h
            refine g_callSi [.int ((g_I S19 58 (v7).toNatClampNeg) + v15), .int (30 : Int32)] [.int v7, .ref (X.1 + 58)] dX8_clear_106 mk_X8_135 (ctX8_least hq21) rfl (by decide) rfl (Nat.le_of_ble_eq_true rfl) ?_
            obtain ⟨hv22, h⟩ := gchk h
            obtain ⟨S23, eS23, h⟩ := gle h
            refine g_iast dX8_clear_109 sa_58 hv22 eS23 ?_
            refine g_iload dX8_clear_110 0 rfl ?_
            obtain rfl := Option.some.inj h
            exact g_iret dX8_clear_112 rfl
          · replace h := git hc12 h
            refine g_bipush (v := -3) dX8_clear_58 (by decide) ?_
            obtain rfl := Option.some.inj h
            exact g_iret dX8_clear_60 rfl
    · replace h := git hc4 h
      refine g_bipush (v := -2) dX8_clear_19 (by decide) ?_
      obtain rfl := Option.some.inj h
      exact g_iret dX8_clear_21 rfl
theorem ctX8_clear {X : gX} {F : Nat} {R : Int32 × gS} {a0 : Int32} {a1 : Int32} {S : gS} (h : fX8_clear F a0 a1 S = some R) : g_C X yX8_clear cX8_clear 5 (some .int) 3 [.ref (X.1 + 51), .int a0, .int a1] S (some (.int R.1)) R.2 :=
  g_met (by decide) (Nat.le_of_ble_eq_true rfl) (fX8_clear_ok h)
noncomputable def bX8_read_27 (F : Nat) (k27 : (Int32 × Int32 × gS) → Option (Int32 × gS)) (x1 : Int32) (x2 : Int32) (S : gS) : Option (Int32 × gS) := g_chk x1 4 (if (g_I S 53 (x1).toNatClampNeg) ≤ x2 then (some (x2, S)) else (g_chk (((64 : Int32) * x1) + x2) 256 ((fX8_in F (((g_I S 54 ((((64 : Int32) * x1) + x2)).toNatClampNeg)).toInt64) (0 : Int64) (30 : Int64) S).bind (fun q4 : Int32 × gS => if q4.1 = 0 then (some (x2, q4.2)) else (g_chk (((64 : Int32) * x1) + x2) 256 (g_chk x2 64 (gl (g_setI q4.2 58 (x2).toNatClampNeg (g_I q4.2 54 ((((64 : Int32) * x1) + x2)).toNatClampNeg)) (fun S8 : gS => gl (x2 + 1) (fun v9 : Int32 => k27 (x1, v9, S8))))))))))
set_option maxRecDepth 20000 in
theorem bX8_read_27_ok {X : gX} {F : Nat} {k27 : (Int32 × Int32 × gS) → Option (Int32 × gS)} {R : Int32 × gS} (H27 : ∀ s : Int32 × Int32 × gS, k27 s = some R → G X RX8 cX8_read 3 (some .int) 2 (some (.int R.1)) R.2 27 [(0, .ref (X.1 + 51)), (1, .int s.1), (2, .int s.2.1)] [] s.2.2) {x1 : Int32} {x2 : Int32} {S : gS} (h : bX8_read_27 F k27 x1 x2 S = some R) : G X RX8 cX8_read 3 (some .int) 2 (some (.int R.1)) R.2 27 [(0, .ref (X.1 + 51)), (1, .int x1), (2, .int x2)] [] S := by
  unfold bX8_read_27 at h
  refine g_iload_n dX8_read_27 2 rfl rfl ?_
  refine g_aload_n dX8_read_28 0 rfl rfl ?_
  refine g_getr dX8_read_29 lk_X8_13 sf_51_1 ?_
  refine g_iload_n dX8_read_32 1 rfl rfl ?_
  obtain ⟨hv1, h⟩ := gchk h
  refine g_iald dX8_read_33 sa_53 hv1 ?_
  refine g_icmp_ge (tgt := 82) dX8_read_34 (by decide) (fun hc2 => ?_) (fun hc2 => ?_)
  · replace h := git hc2 h
    refine g_iload_n dX8_read_82 2 rfl rfl ?_
    obtain rfl := Option.some.inj h
    exact g_iret dX8_read_83 rfl
  · replace h := gif hc2 h
    refine g_aload_n dX8_read_37 0 rfl rfl ?_
    refine g_getr dX8_read_38 lk_X8_16 sf_51_2 ?_
    refine g_bipush (v := 64) dX8_read_41 (by decide) ?_
    refine g_iload_n dX8_read_43 1 rfl rfl ?_
    refine g_imul dX8_read_44 ?_
    refine g_iload_n dX8_read_45 2 rfl rfl ?_
    refine g_iadd dX8_read_46 ?_
    obtain ⟨hv3, h⟩ := gchk h
    refine g_iald dX8_read_47 sa_54 hv3 ?_
    refine g_i2l dX8_read_48 ?_
    refine g_lconst (v := 0) dX8_read_49 (by decide) ?_
    refine g_ldc2 dX8_read_50 ck_X8_144 ?_
    obtain ⟨q4, hq4, h⟩ := gb h
    refine g_callSi [.long (((g_I S 54 ((((64 : Int32) * x1) + x2)).toNatClampNeg)).toInt64), .long (0 : Int64), .long (30 : Int64)] [] dX8_read_53 mk_X8_80 (ctX8_in hq4) rfl (by decide) rfl (Nat.le_of_ble_eq_true rfl) ?_
    refine g_if_eq (tgt := 82) dX8_read_56 (by decide) (fun hc5 => ?_) (fun hc5 => ?_)
    · replace h := git hc5 h
      refine g_iload_n dX8_read_82 2 rfl rfl ?_
      obtain rfl := Option.some.inj h
      exact g_iret dX8_read_83 rfl
    · replace h := gif hc5 h
      refine g_aload_n dX8_read_59 0 rfl rfl ?_
      refine g_getr dX8_read_60 lk_X8_28 sf_51_8 ?_
      refine g_iload_n dX8_read_63 2 rfl rfl ?_
      refine g_aload_n dX8_read_64 0 rfl rfl ?_
      refine g_getr dX8_read_65 lk_X8_16 sf_51_2 ?_
      refine g_bipush (v := 64) dX8_read_68 (by decide) ?_
      refine g_iload_n dX8_read_70 1 rfl rfl ?_
      refine g_imul dX8_read_71 ?_
      refine g_iload_n dX8_read_72 2 rfl rfl ?_
      refine g_iadd dX8_read_73 ?_
      obtain ⟨hv6, h⟩ := gchk h
      refine g_iald dX8_read_74 sa_54 hv6 ?_
      obtain ⟨hv7, h⟩ := gchk h
      obtain ⟨S8, eS8, h⟩ := gle h
      refine g_iast dX8_read_75 sa_58 hv7 eS8 ?_
      obtain ⟨v9, ev9, h⟩ := gle h
      refine g_iinc (q := 2) (v := v9) (lv' := [(2, .int v9), (0, .ref (X.1 + 51)), (1, .int x1)]) dX8_read_76 rfl (by rw [← ev9]; rfl) (by decide) rfl ?_
      refine g_goto (tgt := 27) dX8_read_79 (by decide) ?_
      refine g_sub [1, 2, 0] rfl ?_
      exact H27 (x1, v9, S8) h
noncomputable def bX8_read_27l (F : Nat) : Nat → (Int32 × Int32 × gS) → Option (Int32 × gS) := g_fix (fun k27 s => bX8_read_27 F k27 s.1 s.2.1 s.2.2)
theorem bX8_read_27l_ok {X : gX} {F : Nat} {R : Int32 × gS} : ∀ (n : Nat) (s : Int32 × Int32 × gS), bX8_read_27l F n s = some R → G X RX8 cX8_read 3 (some .int) 2 (some (.int R.1)) R.2 27 [(0, .ref (X.1 + 51)), (1, .int s.1), (2, .int s.2.1)] [] s.2.2 := by
  intro n
  induction n with
  | zero => intro s h; cases h
  | succ n ih => intro s h; exact bX8_read_27_ok (F := F) ih h
noncomputable def fX8_read (F : Nat) (a0 : Int32) (S : gS) : Option (Int32 × gS) := (fX8_isSheet F a0 S).bind (fun q1 : Int32 × gS => if q1.1 = 0 then (some ((-2 : Int32), q1.2)) else (g_chk a0 4 (if 0 ≤ (g_I q1.2 52 (a0).toNatClampNeg) then (bX8_read_27l F F (a0, (0 : Int32), q1.2)) else ((fX8_met F (1 : Int32) q1.2).bind (fun q5 : Int32 × gS => some (q5.1, q5.2))))))
set_option maxRecDepth 20000 in
theorem fX8_read_ok {X : gX} {F : Nat} {R : Int32 × gS} {a0 : Int32} {S : gS} (h : fX8_read F a0 S = some R) : G X RX8 cX8_read 3 (some .int) 2 (some (.int R.1)) R.2 0 [(0, .ref (X.1 + 51)), (1, .int a0)] [] S := by
  unfold fX8_read at h
  refine g_iload_n dX8_read_0 1 rfl rfl ?_
  obtain ⟨q1, hq1, h⟩ := gb h
  refine g_callSi [.int a0] [] dX8_read_1 mk_X8_91 (ctX8_isSheet hq1) rfl (by decide) rfl (Nat.le_of_ble_eq_true rfl) ?_
  refine g_if_ne (tgt := 10) dX8_read_4 (by decide) (fun hc2 => ?_) (fun hc2 => ?_)
  · replace h := gif hc2 h
    refine g_aload_n dX8_read_10 0 rfl rfl ?_
    refine g_getr dX8_read_11 lk_X8_7 sf_51_0 ?_
    refine g_iload_n dX8_read_14 1 rfl rfl ?_
    obtain ⟨hv3, h⟩ := gchk h
    refine g_iald dX8_read_15 sa_52 hv3 ?_
    refine g_if_ge (tgt := 25) dX8_read_16 (by decide) (fun hc4 => ?_) (fun hc4 => ?_)
    · replace h := git hc4 h
      refine g_iconst (v := 0) dX8_read_25 (by decide) ?_
      refine g_istore_n (lv' := [(2, .int (0 : Int32)), (0, .ref (X.1 + 51)), (1, .int a0)]) dX8_read_26 rfl rfl (by decide) rfl ?_
      refine g_sub [1, 2, 0] rfl ?_
      exact bX8_read_27l_ok F (a0, (0 : Int32), q1.2) h
    · replace h := gif hc4 h
      refine g_aload_n dX8_read_19 0 rfl rfl ?_
      refine g_iconst (v := 1) dX8_read_20 (by decide) ?_
      obtain ⟨q5, hq5, h⟩ := gb h
      refine g_callVi [.int (1 : Int32)] [] dX8_read_21 mk_X8_97 so_51 (ctX8_met hq5) rfl (by decide) rfl (Nat.le_of_ble_eq_true rfl) ?_
      obtain rfl := Option.some.inj h
      exact g_iret dX8_read_24 rfl
  · replace h := git hc2 h
    refine g_bipush (v := -2) dX8_read_7 (by decide) ?_
    obtain rfl := Option.some.inj h
    exact g_iret dX8_read_9 rfl
theorem ctX8_read {X : gX} {F : Nat} {R : Int32 × gS} {a0 : Int32} {S : gS} (h : fX8_read F a0 S = some R) : g_C X yX8_read cX8_read 3 (some .int) 2 [.ref (X.1 + 51), .int a0] S (some (.int R.1)) R.2 :=
  g_met (by decide) (Nat.le_of_ble_eq_true rfl) (fX8_read_ok h)
noncomputable def fX8_walker (F : Nat) (a0 : Int32) (a1 : Int32) (S : gS) : Option (Int32 × gS) := (fX8_isCell F a0 S).bind (fun q1 : Int32 × gS => if q1.1 = 0 then (some ((-2 : Int32), q1.2)) else ((fX8_isCell F a1 q1.2).bind (fun q3 : Int32 × gS => if q3.1 = 0 then (some ((-2 : Int32), q3.2)) else (if (g_I q3.2 51 12) = (8 : Int32) then (some ((-4 : Int32), q3.2)) else (g_chk (g_I q3.2 51 12) 8 (gl (g_setI q3.2 62 ((g_I q3.2 51 12)).toNatClampNeg a0) (fun S7 : gS => g_chk (g_I S7 51 12) 8 (gl (g_setI S7 63 ((g_I S7 51 12)).toNatClampNeg a1) (fun S9 : gS => gl (g_setI S9 51 12 ((g_I S9 51 12) + (1 : Int32))) (fun S10 : gS => some (((g_I S10 51 12) - (1 : Int32)), S10)))))))))))
set_option maxRecDepth 20000 in
theorem fX8_walker_ok {X : gX} {F : Nat} {R : Int32 × gS} {a0 : Int32} {a1 : Int32} {S : gS} (h : fX8_walker F a0 a1 S = some R) : G X RX8 cX8_walker 3 (some .int) 2 (some (.int R.1)) R.2 0 [(0, .ref (X.1 + 51)), (1, .int a0), (2, .int a1)] [] S := by
  unfold fX8_walker at h
  refine g_iload_n dX8_walker_0 1 rfl rfl ?_
  obtain ⟨q1, hq1, h⟩ := gb h
  refine g_callSi [.int a0] [] dX8_walker_1 mk_X8_125 (ctX8_isCell hq1) rfl (by decide) rfl (Nat.le_of_ble_eq_true rfl) ?_
  refine g_if_eq (tgt := 14) dX8_walker_4 (by decide) (fun hc2 => ?_) (fun hc2 => ?_)
  · replace h := git hc2 h
    refine g_bipush (v := -2) dX8_walker_14 (by decide) ?_
    obtain rfl := Option.some.inj h
    exact g_iret dX8_walker_16 rfl
  · replace h := gif hc2 h
    refine g_iload_n dX8_walker_7 2 rfl rfl ?_
    obtain ⟨q3, hq3, h⟩ := gb h
    refine g_callSi [.int a1] [] dX8_walker_8 mk_X8_125 (ctX8_isCell hq3) rfl (by decide) rfl (Nat.le_of_ble_eq_true rfl) ?_
    refine g_if_ne (tgt := 17) dX8_walker_11 (by decide) (fun hc4 => ?_) (fun hc4 => ?_)
    · replace h := gif hc4 h
      refine g_aload_n dX8_walker_17 0 rfl rfl ?_
      refine g_geti dX8_walker_18 lk_X8_146 sf_51_12 ?_
      refine g_bipush (v := 8) dX8_walker_21 (by decide) ?_
      refine g_icmp_ne (tgt := 29) dX8_walker_23 (by decide) (fun hc5 => ?_) (fun hc5 => ?_)
      · replace h := gif hc5 h
        refine g_aload_n dX8_walker_29 0 rfl rfl ?_
        refine g_getr dX8_walker_30 lk_X8_40 sf_51_13 ?_
        refine g_aload_n dX8_walker_33 0 rfl rfl ?_
        refine g_geti dX8_walker_34 lk_X8_146 sf_51_12 ?_
        refine g_iload_n dX8_walker_37 1 rfl rfl ?_
        obtain ⟨hv6, h⟩ := gchk h
        obtain ⟨S7, eS7, h⟩ := gle h
        refine g_iast dX8_walker_38 sa_62 hv6 eS7 ?_
        refine g_aload_n dX8_walker_39 0 rfl rfl ?_
        refine g_getr dX8_walker_40 lk_X8_43 sf_51_14 ?_
        refine g_aload_n dX8_walker_43 0 rfl rfl ?_
        refine g_geti dX8_walker_44 lk_X8_146 sf_51_12 ?_
        refine g_iload_n dX8_walker_47 2 rfl rfl ?_
        obtain ⟨hv8, h⟩ := gchk h
        obtain ⟨S9, eS9, h⟩ := gle h
        refine g_iast dX8_walker_48 sa_63 hv8 eS9 ?_
        refine g_aload_n dX8_walker_49 0 rfl rfl ?_
        refine g_dup dX8_walker_50 rfl ?_
        refine g_geti dX8_walker_51 lk_X8_146 sf_51_12 ?_
        refine g_iconst (v := 1) dX8_walker_54 (by decide) ?_
        refine g_iadd dX8_walker_55 ?_
        obtain ⟨S10, eS10, h⟩ := gle h
        refine g_puti dX8_walker_56 lp_X8_146 sf_51_12 eS10 ?_
        refine g_aload_n dX8_walker_59 0 rfl rfl ?_
        refine g_geti dX8_walker_60 lk_X8_146 sf_51_12 ?_
        refine g_iconst (v := 1) dX8_walker_63 (by decide) ?_
        refine g_isub dX8_walker_64 ?_
        obtain rfl := Option.some.inj h
        exact g_iret dX8_walker_65 rfl
      · replace h := git hc5 h
        refine g_bipush (v := -4) dX8_walker_26 (by decide) ?_
        obtain rfl := Option.some.inj h
        exact g_iret dX8_walker_28 rfl
    · replace h := git hc4 h
      refine g_bipush (v := -2) dX8_walker_14 (by decide) ?_
      obtain rfl := Option.some.inj h
      exact g_iret dX8_walker_16 rfl
theorem ctX8_walker {X : gX} {F : Nat} {R : Int32 × gS} {a0 : Int32} {a1 : Int32} {S : gS} (h : fX8_walker F a0 a1 S = some R) : g_C X yX8_walker cX8_walker 3 (some .int) 2 [.ref (X.1 + 51), .int a0, .int a1] S (some (.int R.1)) R.2 :=
  g_met (by decide) (Nat.le_of_ble_eq_true rfl) (fX8_walker_ok h)
noncomputable def fX8_gone (F : Nat) (S : gS) : Option (Int32 × gS) := gl (g_I S 51 12) (fun v1 : Int32 => gl (g_setI S 51 12 (0 : Int32)) (fun S2 : gS => some (v1, S2)))
set_option maxRecDepth 20000 in
theorem fX8_gone_ok {X : gX} {F : Nat} {R : Int32 × gS} {S : gS} (h : fX8_gone F S = some R) : G X RX8 cX8_gone 2 (some .int) 0 (some (.int R.1)) R.2 0 [(0, .ref (X.1 + 51))] [] S := by
  unfold fX8_gone at h
  refine g_aload_n dX8_gone_0 0 rfl rfl ?_
  refine g_geti dX8_gone_1 lk_X8_146 sf_51_12 ?_
  obtain ⟨v1, ev1, h⟩ := gle h
  refine g_istore_n (lv' := [(1, .int v1), (0, .ref (X.1 + 51))]) dX8_gone_4 ev1 rfl (by decide) rfl ?_
  refine g_aload_n dX8_gone_5 1 rfl rfl ?_
  refine g_iconst (v := 0) dX8_gone_6 (by decide) ?_
  obtain ⟨S2, eS2, h⟩ := gle h
  refine g_puti dX8_gone_7 lp_X8_146 sf_51_12 eS2 ?_
  refine g_iload_n dX8_gone_10 0 rfl rfl ?_
  obtain rfl := Option.some.inj h
  exact g_iret dX8_gone_11 rfl
theorem ctX8_gone {X : gX} {F : Nat} {R : Int32 × gS} {S : gS} (h : fX8_gone F S = some R) : g_C X yX8_gone cX8_gone 2 (some .int) 0 [.ref (X.1 + 51)] S (some (.int R.1)) R.2 :=
  g_met (by decide) (Nat.le_of_ble_eq_true rfl) (fX8_gone_ok h)
noncomputable def fX8_isWalker (F : Nat) (a0 : Int32) (S : gS) : Option (Int32 × gS) := (fX8_in F ((a0).toInt64) (0 : Int64) ((((g_I S 51 12) - (1 : Int32))).toInt64) S).bind (fun q1 : Int32 × gS => g_bo q1.1 (some (q1.1, q1.2)))
set_option maxRecDepth 20000 in
theorem fX8_isWalker_ok {X : gX} {F : Nat} {R : Int32 × gS} {a0 : Int32} {S : gS} (h : fX8_isWalker F a0 S = some R) : G X RX8 cX8_isWalker 2 (some .boolean) 1 (some (.int R.1)) R.2 0 [(0, .ref (X.1 + 51)), (1, .int a0)] [] S := by
  unfold fX8_isWalker at h
  refine g_iload_n dX8_isWalker_0 1 rfl rfl ?_
  refine g_i2l dX8_isWalker_1 ?_
  refine g_lconst (v := 0) dX8_isWalker_2 (by decide) ?_
  refine g_aload_n dX8_isWalker_3 0 rfl rfl ?_
  refine g_geti dX8_isWalker_4 lk_X8_146 sf_51_12 ?_
  refine g_iconst (v := 1) dX8_isWalker_7 (by decide) ?_
  refine g_isub dX8_isWalker_8 ?_
  refine g_i2l dX8_isWalker_9 ?_
  obtain ⟨q1, hq1, h⟩ := gb h
  refine g_callSi [.long ((a0).toInt64), .long (0 : Int64), .long ((((g_I S 51 12) - (1 : Int32))).toInt64)] [] dX8_isWalker_10 mk_X8_80 (ctX8_in hq1) rfl (by decide) rfl (Nat.le_of_ble_eq_true rfl) ?_
  obtain ⟨hb2, h⟩ := gbo h
  obtain rfl := Option.some.inj h
  exact g_zret dX8_isWalker_13 rfl hb2
theorem ctX8_isWalker {X : gX} {F : Nat} {R : Int32 × gS} {a0 : Int32} {S : gS} (h : fX8_isWalker F a0 S = some R) : g_C X yX8_isWalker cX8_isWalker 2 (some .boolean) 1 [.ref (X.1 + 51), .int a0] S (some (.int R.1)) R.2 :=
  g_met (by decide) (Nat.le_of_ble_eq_true rfl) (fX8_isWalker_ok h)
noncomputable def fX8_isHidden (F : Nat) (a0 : Int32) (S : gS) : Option (Int32 × gS) := g_chk a0 64 (if (g_I S 57 (a0).toNatClampNeg) = (2 : Int32) then (some ((1 : Int32), S)) else (if a0 = (g_I S 51 19) then (some ((1 : Int32), S)) else (some ((0 : Int32), S))))
set_option maxRecDepth 20000 in
theorem fX8_isHidden_ok {X : gX} {F : Nat} {R : Int32 × gS} {a0 : Int32} {S : gS} (h : fX8_isHidden F a0 S = some R) : G X RX8 cX8_isHidden 2 (some .boolean) 0 (some (.int R.1)) R.2 0 [(0, .ref (X.1 + 51)), (1, .int a0)] [] S := by
  unfold fX8_isHidden at h
  refine g_aload_n dX8_isHidden_0 0 rfl rfl ?_
  refine g_getr dX8_isHidden_1 lk_X8_25 sf_51_7 ?_
  refine g_iload_n dX8_isHidden_4 1 rfl rfl ?_
  obtain ⟨hv1, h⟩ := gchk h
  refine g_iald dX8_isHidden_5 sa_57 hv1 ?_
  refine g_iconst (v := 2) dX8_isHidden_6 (by decide) ?_
  refine g_icmp_eq (tgt := 18) dX8_isHidden_7 (by decide) (fun hc2 => ?_) (fun hc2 => ?_)
  · replace h := git hc2 h
    refine g_iconst (v := 1) dX8_isHidden_18 (by decide) ?_
    refine g_goto (tgt := 23) dX8_isHidden_19 (by decide) ?_
    obtain rfl := Option.some.inj h
    exact g_zret dX8_isHidden_23 rfl narrow_b1
  · replace h := gif hc2 h
    refine g_iload_n dX8_isHidden_10 1 rfl rfl ?_
    refine g_aload_n dX8_isHidden_11 0 rfl rfl ?_
    refine g_geti dX8_isHidden_12 lk_X8_59 sf_51_19 ?_
    refine g_icmp_ne (tgt := 22) dX8_isHidden_15 (by decide) (fun hc3 => ?_) (fun hc3 => ?_)
    · replace h := gif hc3 h
      refine g_iconst (v := 0) dX8_isHidden_22 (by decide) ?_
      obtain rfl := Option.some.inj h
      exact g_zret dX8_isHidden_23 rfl narrow_b0
    · replace h := git hc3 h
      refine g_iconst (v := 1) dX8_isHidden_18 (by decide) ?_
      refine g_goto (tgt := 23) dX8_isHidden_19 (by decide) ?_
      obtain rfl := Option.some.inj h
      exact g_zret dX8_isHidden_23 rfl narrow_b1
theorem ctX8_isHidden {X : gX} {F : Nat} {R : Int32 × gS} {a0 : Int32} {S : gS} (h : fX8_isHidden F a0 S = some R) : g_C X yX8_isHidden cX8_isHidden 2 (some .boolean) 0 [.ref (X.1 + 51), .int a0] S (some (.int R.1)) R.2 :=
  g_met (by decide) (Nat.le_of_ble_eq_true rfl) (fX8_isHidden_ok h)
noncomputable def bX8_begins_2 (F : Nat) (k2 : (Int32 × gS) → Option (gS)) (x1 : Int32) (S : gS) : Option (gS) := if (64 : Int32) ≤ x1 then (gl (g_setI S 51 21 (0 : Int32)) (fun S2 : gS => gl (g_setI S2 51 22 (0 : Int32)) (fun S3 : gS => gl (g_setI S3 51 23 (0 : Int32)) (fun S4 : gS => gl (g_setI S4 51 24 (0 : Int32)) (fun S5 : gS => some S5))))) else (g_chk x1 64 (g_chk x1 64 (gl (g_setI S 64 (x1).toNatClampNeg (g_I S 58 (x1).toNatClampNeg)) (fun S8 : gS => g_chk x1 64 (g_chk x1 64 (gl (g_setI S8 65 (x1).toNatClampNeg (g_I S8 59 (x1).toNatClampNeg)) (fun S11 : gS => g_chk x1 64 (gl (g_setI S11 66 (x1).toNatClampNeg (0 : Int32)) (fun S13 : gS => gl (x1 + 1) (fun v14 : Int32 => k2 (v14, S13)))))))))))
set_option maxRecDepth 20000 in
theorem bX8_begins_2_ok {X : gX} {F : Nat} {k2 : (Int32 × gS) → Option (gS)} {R : gS} (H2 : ∀ s : Int32 × gS, k2 s = some R → G X RX8 cX8_begins 2 none 0 none R 2 [(0, .ref (X.1 + 51)), (1, .int s.1)] [] s.2) {x1 : Int32} {S : gS} (h : bX8_begins_2 F k2 x1 S = some R) : G X RX8 cX8_begins 2 none 0 none R 2 [(0, .ref (X.1 + 51)), (1, .int x1)] [] S := by
  unfold bX8_begins_2 at h
  refine g_iload_n dX8_begins_2 1 rfl rfl ?_
  refine g_bipush (v := 64) dX8_begins_3 (by decide) ?_
  refine g_icmp_ge (tgt := 45) dX8_begins_5 (by decide) (fun hc1 => ?_) (fun hc1 => ?_)
  · replace h := git hc1 h
    refine g_aload_n dX8_begins_45 0 rfl rfl ?_
    refine g_iconst (v := 0) dX8_begins_46 (by decide) ?_
    obtain ⟨S2, eS2, h⟩ := gle h
    refine g_puti dX8_begins_47 lp_X8_152 sf_51_21 eS2 ?_
    refine g_aload_n dX8_begins_50 0 rfl rfl ?_
    refine g_iconst (v := 0) dX8_begins_51 (by decide) ?_
    obtain ⟨S3, eS3, h⟩ := gle h
    refine g_puti dX8_begins_52 lp_X8_155 sf_51_22 eS3 ?_
    refine g_aload_n dX8_begins_55 0 rfl rfl ?_
    refine g_iconst (v := 0) dX8_begins_56 (by decide) ?_
    obtain ⟨S4, eS4, h⟩ := gle h
    refine g_puti dX8_begins_57 lp_X8_158 sf_51_23 eS4 ?_
    refine g_aload_n dX8_begins_60 0 rfl rfl ?_
    refine g_iconst (v := 0) dX8_begins_61 (by decide) ?_
    obtain ⟨S5, eS5, h⟩ := gle h
    refine g_puti dX8_begins_62 lp_X8_161 sf_51_24 eS5 ?_
    obtain rfl := Option.some.inj h
    exact g_vret dX8_begins_65 rfl
  · replace h := gif hc1 h
    refine g_aload_n dX8_begins_8 0 rfl rfl ?_
    refine g_getr dX8_begins_9 lk_X8_46 sf_51_15 ?_
    refine g_iload_n dX8_begins_12 1 rfl rfl ?_
    refine g_aload_n dX8_begins_13 0 rfl rfl ?_
    refine g_getr dX8_begins_14 lk_X8_28 sf_51_8 ?_
    refine g_iload_n dX8_begins_17 1 rfl rfl ?_
    obtain ⟨hv6, h⟩ := gchk h
    refine g_iald dX8_begins_18 sa_58 hv6 ?_
    obtain ⟨hv7, h⟩ := gchk h
    obtain ⟨S8, eS8, h⟩ := gle h
    refine g_iast dX8_begins_19 sa_64 hv7 eS8 ?_
    refine g_aload_n dX8_begins_20 0 rfl rfl ?_
    refine g_getr dX8_begins_21 lk_X8_49 sf_51_16 ?_
    refine g_iload_n dX8_begins_24 1 rfl rfl ?_
    refine g_aload_n dX8_begins_25 0 rfl rfl ?_
    refine g_getr dX8_begins_26 lk_X8_31 sf_51_9 ?_
    refine g_iload_n dX8_begins_29 1 rfl rfl ?_
    obtain ⟨hv9, h⟩ := gchk h
    refine g_iald dX8_begins_30 sa_59 hv9 ?_
    obtain ⟨hv10, h⟩ := gchk h
    obtain ⟨S11, eS11, h⟩ := gle h
    refine g_iast dX8_begins_31 sa_65 hv10 eS11 ?_
    refine g_aload_n dX8_begins_32 0 rfl rfl ?_
    refine g_getr dX8_begins_33 lk_X8_52 sf_51_17 ?_
    refine g_iload_n dX8_begins_36 1 rfl rfl ?_
    refine g_iconst (v := 0) dX8_begins_37 (by decide) ?_
    obtain ⟨hv12, h⟩ := gchk h
    obtain ⟨S13, eS13, h⟩ := gle h
    refine g_iast dX8_begins_38 sa_66 hv12 eS13 ?_
    obtain ⟨v14, ev14, h⟩ := gle h
    refine g_iinc (q := 1) (v := v14) (lv' := [(1, .int v14), (0, .ref (X.1 + 51))]) dX8_begins_39 rfl (by rw [← ev14]; rfl) (by decide) rfl ?_
    refine g_goto (tgt := 2) dX8_begins_42 (by decide) ?_
    refine g_sub [1, 0] rfl ?_
    exact H2 (v14, S13) h
noncomputable def bX8_begins_2l (F : Nat) : Nat → (Int32 × gS) → Option (gS) := g_fix (fun k2 s => bX8_begins_2 F k2 s.1 s.2)
theorem bX8_begins_2l_ok {X : gX} {F : Nat} {R : gS} : ∀ (n : Nat) (s : Int32 × gS), bX8_begins_2l F n s = some R → G X RX8 cX8_begins 2 none 0 none R 2 [(0, .ref (X.1 + 51)), (1, .int s.1)] [] s.2 := by
  intro n
  induction n with
  | zero => intro s h; cases h
  | succ n ih => intro s h; exact bX8_begins_2_ok (F := F) ih h
noncomputable def fX8_begins (F : Nat) (S : gS) : Option (gS) := bX8_begins_2l F F ((0 : Int32), S)
set_option maxRecDepth 20000 in
theorem fX8_begins_ok {X : gX} {F : Nat} {R : gS} {S : gS} (h : fX8_begins F S = some R) : G X RX8 cX8_begins 2 none 0 none R 0 [(0, .ref (X.1 + 51))] [] S := by
  unfold fX8_begins at h
  refine g_iconst (v := 0) dX8_begins_0 (by decide) ?_
  refine g_istore_n (lv' := [(1, .int (0 : Int32)), (0, .ref (X.1 + 51))]) dX8_begins_1 rfl rfl (by decide) rfl ?_
  refine g_sub [1, 0] rfl ?_
  exact bX8_begins_2l_ok F ((0 : Int32), S) h
theorem ctX8_begins {X : gX} {F : Nat} {R : gS} {S : gS} (h : fX8_begins F S = some R) : g_C X yX8_begins cX8_begins 2 none 0 [.ref (X.1 + 51)] S none R :=
  g_met (by decide) (Nat.le_of_ble_eq_true rfl) (fX8_begins_ok h)
noncomputable def fX8_tries (F : Nat) (S : gS) : Option (gS) := (fX8_reads F S).bind (fun q1 : Int32 × gS => gl (g_setI q1.2 51 19 (-1 : Int32)) (fun S2 : gS => (fX8_begins F S2).bind (fun q3 : gS => some q3)))
set_option maxRecDepth 20000 in
theorem fX8_tries_ok {X : gX} {F : Nat} {R : gS} {S : gS} (h : fX8_tries F S = some R) : G X RX8 cX8_tries 1 none 3 none R 0 [(0, .ref (X.1 + 51))] [] S := by
  unfold fX8_tries at h
  refine g_aload_n dX8_tries_0 0 rfl rfl ?_
  obtain ⟨q1, hq1, h⟩ := gb h
  refine g_callVi [] [] dX8_tries_1 mk_X8_122 so_51 (ctX8_reads hq1) rfl (by decide) rfl (Nat.le_of_ble_eq_true rfl) ?_
  refine g_pop dX8_tries_4 rfl ?_
  refine g_aload_n dX8_tries_5 0 rfl rfl ?_
  refine g_iconst (v := -1) dX8_tries_6 (by decide) ?_
  obtain ⟨S2, eS2, h⟩ := gle h
  refine g_puti dX8_tries_7 lp_X8_59 sf_51_19 eS2 ?_
  refine g_aload_n dX8_tries_10 0 rfl rfl ?_
  obtain ⟨q3, hq3, h⟩ := gb h
  refine g_callVv [] [] dX8_tries_11 mk_X8_149 so_51 (ctX8_begins hq3) rfl (by decide) rfl (Nat.le_of_ble_eq_true rfl) ?_
  obtain rfl := Option.some.inj h
  exact g_vret dX8_tries_14 rfl
theorem ctX8_tries {X : gX} {F : Nat} {R : gS} {S : gS} (h : fX8_tries F S = some R) : g_C X yX8_tries cX8_tries 1 none 3 [.ref (X.1 + 51)] S none R :=
  g_met (by decide) (Nat.le_of_ble_eq_true rfl) (fX8_tries_ok h)
noncomputable def bX8_knows_30 (F : Nat) (k2 : (Int32 × Int32 × gS) → Option (gS)) (x1 : Int32) (x2 : Int32) (t0 : Int32) (t1 : Int32) (S : gS) : Option (gS) := g_chk t1 64 (gl (g_setI S 67 (t1).toNatClampNeg (vp_nar .boolean t0)) (fun S2 : gS => gl (x2 + 1) (fun v3 : Int32 => k2 (x1, v3, S2))))
set_option maxRecDepth 20000 in
theorem bX8_knows_30_ok {X : gX} {F : Nat} {k2 : (Int32 × Int32 × gS) → Option (gS)} {R : gS} (H2 : ∀ s : Int32 × Int32 × gS, k2 s = some R → G X RX8 cX8_knows 3 none 1 none R 2 [(0, .ref (X.1 + 51)), (1, .int s.1), (2, .int s.2.1)] [] s.2.2) {x1 : Int32} {x2 : Int32} {t0 : Int32} {t1 : Int32} {S : gS} (h : bX8_knows_30 F k2 x1 x2 t0 t1 S = some R) : G X RX8 cX8_knows 3 none 1 none R 30 [(0, .ref (X.1 + 51)), (1, .int x1), (2, .int x2)] [.int t0, .int t1, .ref (X.1 + 67)] S := by
  unfold bX8_knows_30 at h
  obtain ⟨hv1, h⟩ := gchk h
  obtain ⟨S2, eS2, h⟩ := gle h
  refine g_zast dX8_knows_30 sa_67 hv1 eS2 ?_
  obtain ⟨v3, ev3, h⟩ := gle h
  refine g_iinc (q := 2) (v := v3) (lv' := [(2, .int v3), (0, .ref (X.1 + 51)), (1, .int x1)]) dX8_knows_31 rfl (by rw [← ev3]; rfl) (by decide) rfl ?_
  refine g_goto (tgt := 2) dX8_knows_34 (by decide) ?_
  refine g_sub [1, 2, 0] rfl ?_
  exact H2 (x1, v3, S2) h
noncomputable def bX8_knows_29 (F : Nat) (k2 : (Int32 × Int32 × gS) → Option (gS)) (x1 : Int32) (x2 : Int32) (t0 : Int32) (S : gS) : Option (gS) := bX8_knows_30 F k2 x1 x2 (0 : Int32) t0 S
set_option maxRecDepth 20000 in
theorem bX8_knows_29_ok {X : gX} {F : Nat} {k2 : (Int32 × Int32 × gS) → Option (gS)} {R : gS} (H2 : ∀ s : Int32 × Int32 × gS, k2 s = some R → G X RX8 cX8_knows 3 none 1 none R 2 [(0, .ref (X.1 + 51)), (1, .int s.1), (2, .int s.2.1)] [] s.2.2) {x1 : Int32} {x2 : Int32} {t0 : Int32} {S : gS} (h : bX8_knows_29 F k2 x1 x2 t0 S = some R) : G X RX8 cX8_knows 3 none 1 none R 29 [(0, .ref (X.1 + 51)), (1, .int x1), (2, .int x2)] [.int t0, .ref (X.1 + 67)] S := by
  unfold bX8_knows_29 at h
  refine g_iconst (v := 0) dX8_knows_29 (by decide) ?_
  exact bX8_knows_30_ok H2 h
noncomputable def bX8_knows_2 (F : Nat) (k2 : (Int32 × Int32 × gS) → Option (gS)) (x1 : Int32) (x2 : Int32) (S : gS) : Option (gS) := if (64 : Int32) ≤ x2 then (some S) else (if x1 = 0 then (bX8_knows_29 F k2 x1 x2 x2 S) else ((fX8_isHidden F x2 S).bind (fun q3 : Int32 × gS => if q3.1 = 0 then (bX8_knows_29 F k2 x1 x2 x2 q3.2) else (bX8_knows_30 F k2 x1 x2 (1 : Int32) x2 q3.2))))
set_option maxRecDepth 20000 in
theorem bX8_knows_2_ok {X : gX} {F : Nat} {k2 : (Int32 × Int32 × gS) → Option (gS)} {R : gS} (H2 : ∀ s : Int32 × Int32 × gS, k2 s = some R → G X RX8 cX8_knows 3 none 1 none R 2 [(0, .ref (X.1 + 51)), (1, .int s.1), (2, .int s.2.1)] [] s.2.2) {x1 : Int32} {x2 : Int32} {S : gS} (h : bX8_knows_2 F k2 x1 x2 S = some R) : G X RX8 cX8_knows 3 none 1 none R 2 [(0, .ref (X.1 + 51)), (1, .int x1), (2, .int x2)] [] S := by
  unfold bX8_knows_2 at h
  refine g_iload_n dX8_knows_2 2 rfl rfl ?_
  refine g_bipush (v := 64) dX8_knows_3 (by decide) ?_
  refine g_icmp_ge (tgt := 37) dX8_knows_5 (by decide) (fun hc1 => ?_) (fun hc1 => ?_)
  · replace h := git hc1 h
    obtain rfl := Option.some.inj h
    exact g_vret dX8_knows_37 rfl
  · replace h := gif hc1 h
    refine g_aload_n dX8_knows_8 0 rfl rfl ?_
    refine g_getr dX8_knows_9 lk_X8_55 sf_51_18 ?_
    refine g_iload_n dX8_knows_12 2 rfl rfl ?_
    refine g_iload_n dX8_knows_13 1 rfl rfl ?_
    refine g_if_eq (tgt := 29) dX8_knows_14 (by decide) (fun hc2 => ?_) (fun hc2 => ?_)
    · replace h := git hc2 h
      exact bX8_knows_29_ok H2 h
    · replace h := gif hc2 h
      refine g_aload_n dX8_knows_17 0 rfl rfl ?_
      refine g_iload_n dX8_knows_18 2 rfl rfl ?_
      obtain ⟨q3, hq3, h⟩ := gb h
      refine g_callVi [.int x2] [.int x2, .ref (X.1 + 67)] dX8_knows_19 mk_X8_164 so_51 (ctX8_isHidden hq3) rfl (by decide) rfl (Nat.le_of_ble_eq_true rfl) ?_
      refine g_if_eq (tgt := 29) dX8_knows_22 (by decide) (fun hc4 => ?_) (fun hc4 => ?_)
      · replace h := git hc4 h
        exact bX8_knows_29_ok H2 h
      · replace h := gif hc4 h
        refine g_iconst (v := 1) dX8_knows_25 (by decide) ?_
        refine g_goto (tgt := 30) dX8_knows_26 (by decide) ?_
        exact bX8_knows_30_ok H2 h
noncomputable def bX8_knows_2l (F : Nat) : Nat → (Int32 × Int32 × gS) → Option (gS) := g_fix (fun k2 s => bX8_knows_2 F k2 s.1 s.2.1 s.2.2)
theorem bX8_knows_2l_ok {X : gX} {F : Nat} {R : gS} : ∀ (n : Nat) (s : Int32 × Int32 × gS), bX8_knows_2l F n s = some R → G X RX8 cX8_knows 3 none 1 none R 2 [(0, .ref (X.1 + 51)), (1, .int s.1), (2, .int s.2.1)] [] s.2.2 := by
  intro n
  induction n with
  | zero => intro s h; cases h
  | succ n ih => intro s h; exact bX8_knows_2_ok (F := F) ih h
noncomputable def fX8_knows (F : Nat) (a0 : Int32) (S : gS) : Option (gS) := bX8_knows_2l F F (a0, (0 : Int32), S)
set_option maxRecDepth 20000 in
theorem fX8_knows_ok {X : gX} {F : Nat} {R : gS} {a0 : Int32} {S : gS} (h : fX8_knows F a0 S = some R) : G X RX8 cX8_knows 3 none 1 none R 0 [(0, .ref (X.1 + 51)), (1, .int a0)] [] S := by
  unfold fX8_knows at h
  refine g_iconst (v := 0) dX8_knows_0 (by decide) ?_
  refine g_istore_n (lv' := [(2, .int (0 : Int32)), (0, .ref (X.1 + 51)), (1, .int a0)]) dX8_knows_1 rfl rfl (by decide) rfl ?_
  refine g_sub [1, 2, 0] rfl ?_
  exact bX8_knows_2l_ok F (a0, (0 : Int32), S) h
theorem ctX8_knows {X : gX} {F : Nat} {R : gS} {a0 : Int32} {S : gS} (h : fX8_knows F a0 S = some R) : g_C X yX8_knows cX8_knows 3 none 1 [.ref (X.1 + 51), .int a0] S none R :=
  g_met (by decide) (Nat.le_of_ble_eq_true rfl) (fX8_knows_ok h)
noncomputable def fX8_mayPass (F : Nat) (a0 : Int32) (S : gS) : Option (Int32 × gS) := g_chk a0 64 (if (g_I S 57 (a0).toNatClampNeg) = (1 : Int32) then (some ((0 : Int32), S)) else (g_chk a0 64 (if (g_I S 67 (a0).toNatClampNeg) = 0 then (some ((1 : Int32), S)) else (some ((0 : Int32), S)))))
set_option maxRecDepth 20000 in
theorem fX8_mayPass_ok {X : gX} {F : Nat} {R : Int32 × gS} {a0 : Int32} {S : gS} (h : fX8_mayPass F a0 S = some R) : G X RX8 cX8_mayPass 2 (some .boolean) 0 (some (.int R.1)) R.2 0 [(0, .ref (X.1 + 51)), (1, .int a0)] [] S := by
  unfold fX8_mayPass at h
  refine g_aload_n dX8_mayPass_0 0 rfl rfl ?_
  refine g_getr dX8_mayPass_1 lk_X8_25 sf_51_7 ?_
  refine g_iload_n dX8_mayPass_4 1 rfl rfl ?_
  obtain ⟨hv1, h⟩ := gchk h
  refine g_iald dX8_mayPass_5 sa_57 hv1 ?_
  refine g_iconst (v := 1) dX8_mayPass_6 (by decide) ?_
  refine g_icmp_eq (tgt := 23) dX8_mayPass_7 (by decide) (fun hc2 => ?_) (fun hc2 => ?_)
  · replace h := git hc2 h
    refine g_iconst (v := 0) dX8_mayPass_23 (by decide) ?_
    obtain rfl := Option.some.inj h
    exact g_zret dX8_mayPass_24 rfl narrow_b0
  · replace h := gif hc2 h
    refine g_aload_n dX8_mayPass_10 0 rfl rfl ?_
    refine g_getr dX8_mayPass_11 lk_X8_55 sf_51_18 ?_
    refine g_iload_n dX8_mayPass_14 1 rfl rfl ?_
    obtain ⟨hv3, h⟩ := gchk h
    refine g_zald dX8_mayPass_15 sa_67 hv3 ?_
    refine g_if_ne (tgt := 23) dX8_mayPass_16 (by decide) (fun hc4 => ?_) (fun hc4 => ?_)
    · replace h := gif hc4 h
      refine g_iconst (v := 0) dX8_mayPass_23 (by decide) ?_
      obtain rfl := Option.some.inj h
      exact g_zret dX8_mayPass_24 rfl narrow_b0
    · replace h := git hc4 h
      refine g_iconst (v := 1) dX8_mayPass_19 (by decide) ?_
      refine g_goto (tgt := 24) dX8_mayPass_20 (by decide) ?_
      obtain rfl := Option.some.inj h
      exact g_zret dX8_mayPass_24 rfl narrow_b1
theorem ctX8_mayPass {X : gX} {F : Nat} {R : Int32 × gS} {a0 : Int32} {S : gS} (h : fX8_mayPass F a0 S = some R) : g_C X yX8_mayPass cX8_mayPass 2 (some .boolean) 0 [.ref (X.1 + 51), .int a0] S (some (.int R.1)) R.2 :=
  g_met (by decide) (Nat.le_of_ble_eq_true rfl) (fX8_mayPass_ok h)
noncomputable def fX8_wades (F : Nat) (a0 : Int32) (a1 : Int32) (S : gS) : Option (Int32 × gS) := if a1 = 0 then (g_chk a0 64 (some (((1 : Int32) + (g_I S 64 (a0).toNatClampNeg)), S))) else (some ((1 : Int32), S))
set_option maxRecDepth 20000 in
theorem fX8_wades_ok {X : gX} {F : Nat} {R : Int32 × gS} {a0 : Int32} {a1 : Int32} {S : gS} (h : fX8_wades F a0 a1 S = some R) : G X RX8 cX8_wades 3 (some .int) 0 (some (.int R.1)) R.2 0 [(0, .ref (X.1 + 51)), (1, .int a0), (2, .int a1)] [] S := by
  unfold fX8_wades at h
  refine g_iload_n dX8_wades_0 2 rfl rfl ?_
  refine g_if_eq (tgt := 8) dX8_wades_1 (by decide) (fun hc1 => ?_) (fun hc1 => ?_)
  · replace h := git hc1 h
    refine g_iconst (v := 1) dX8_wades_8 (by decide) ?_
    refine g_aload_n dX8_wades_9 0 rfl rfl ?_
    refine g_getr dX8_wades_10 lk_X8_46 sf_51_15 ?_
    refine g_iload_n dX8_wades_13 1 rfl rfl ?_
    obtain ⟨hv2, h⟩ := gchk h
    refine g_iald dX8_wades_14 sa_64 hv2 ?_
    refine g_iadd dX8_wades_15 ?_
    obtain rfl := Option.some.inj h
    exact g_iret dX8_wades_16 rfl
  · replace h := gif hc1 h
    refine g_iconst (v := 1) dX8_wades_4 (by decide) ?_
    refine g_goto (tgt := 16) dX8_wades_5 (by decide) ?_
    obtain rfl := Option.some.inj h
    exact g_iret dX8_wades_16 rfl
theorem ctX8_wades {X : gX} {F : Nat} {R : Int32 × gS} {a0 : Int32} {a1 : Int32} {S : gS} (h : fX8_wades F a0 a1 S = some R) : g_C X yX8_wades cX8_wades 3 (some .int) 0 [.ref (X.1 + 51), .int a0, .int a1] S (some (.int R.1)) R.2 :=
  g_met (by decide) (Nat.le_of_ble_eq_true rfl) (fX8_wades_ok h)
noncomputable def bX8_findCosts_32 (F : Nat) (k2 : (Int32 × Int32 × Int32 × gS) → Option (gS)) (x1 : Int32) (x2 : Int32) (x3 : Int32) (t0 : Int32) (t1 : Int32) (S : gS) : Option (gS) := g_chk t1 64 (gl (g_setI S 68 (t1).toNatClampNeg t0) (fun S2 : gS => gl (x3 + 1) (fun v3 : Int32 => k2 (x1, x2, v3, S2))))
set_option maxRecDepth 20000 in
theorem bX8_findCosts_32_ok {X : gX} {F : Nat} {k2 : (Int32 × Int32 × Int32 × gS) → Option (gS)} {R : gS} (H2 : ∀ s : Int32 × Int32 × Int32 × gS, k2 s = some R → G X RX8 cX8_findCosts 7 none 1 none R 2 [(0, .ref (X.1 + 51)), (1, .int s.1), (2, .int s.2.1), (3, .int s.2.2.1)] [] s.2.2.2) {x1 : Int32} {x2 : Int32} {x3 : Int32} {t0 : Int32} {t1 : Int32} {S : gS} (h : bX8_findCosts_32 F k2 x1 x2 x3 t0 t1 S = some R) : G X RX8 cX8_findCosts 7 none 1 none R 32 [(0, .ref (X.1 + 51)), (1, .int x1), (2, .int x2), (3, .int x3)] [.int t0, .int t1, .ref (X.1 + 68)] S := by
  unfold bX8_findCosts_32 at h
  obtain ⟨hv1, h⟩ := gchk h
  obtain ⟨S2, eS2, h⟩ := gle h
  refine g_iast dX8_findCosts_32 sa_68 hv1 eS2 ?_
  obtain ⟨v3, ev3, h⟩ := gle h
  refine g_iinc (q := 3) (v := v3) (lv' := [(3, .int v3), (0, .ref (X.1 + 51)), (1, .int x1), (2, .int x2)]) dX8_findCosts_33 rfl (by rw [← ev3]; rfl) (by decide) rfl ?_
  refine g_goto (tgt := 2) dX8_findCosts_36 (by decide) ?_
  refine g_sub [1, 2, 3, 0] rfl ?_
  exact H2 (x1, x2, v3, S2) h
noncomputable def bX8_findCosts_157 (F : Nat) (k41 : (Int32 × Int32 × gS) → Option (gS)) (k50 : (Int32 × Int32 × Int32 × gS) → Option (gS)) (x2 : Int32) (x3 : Int32) (x4 : Int32) (S : gS) : Option (gS) := gl (x4 + 1) (fun v1 : Int32 => k50 (x2, x3, v1, S))
set_option maxRecDepth 20000 in
theorem bX8_findCosts_157_ok {X : gX} {F : Nat} {k41 : (Int32 × Int32 × gS) → Option (gS)} {k50 : (Int32 × Int32 × Int32 × gS) → Option (gS)} {R : gS} (H41 : ∀ s : Int32 × Int32 × gS, k41 s = some R → G X RX8 cX8_findCosts 7 none 1 none R 41 [(0, .ref (X.1 + 51)), (2, .int s.1), (3, .int s.2.1)] [] s.2.2) (H50 : ∀ s : Int32 × Int32 × Int32 × gS, k50 s = some R → G X RX8 cX8_findCosts 7 none 1 none R 50 [(0, .ref (X.1 + 51)), (2, .int s.1), (3, .int s.2.1), (4, .int s.2.2.1)] [] s.2.2.2) {x2 : Int32} {x3 : Int32} {x4 : Int32} {S : gS} (h : bX8_findCosts_157 F k41 k50 x2 x3 x4 S = some R) : G X RX8 cX8_findCosts 7 none 1 none R 157 [(0, .ref (X.1 + 51)), (2, .int x2), (3, .int x3), (4, .int x4)] [] S := by
  unfold bX8_findCosts_157 at h
  obtain ⟨v1, ev1, h⟩ := gle h
  refine g_iinc (q := 3) (v := v1) (lv' := [(4, .int v1), (0, .ref (X.1 + 51)), (2, .int x2), (3, .int x3)]) dX8_findCosts_157 rfl (by rw [← ev1]; rfl) (by decide) rfl ?_
  refine g_goto (tgt := 50) dX8_findCosts_160 (by decide) ?_
  refine g_sub [1, 2, 3, 0] rfl ?_
  exact H50 (x2, x3, v1, S) h
noncomputable def bX8_findCosts_151 (F : Nat) (k41 : (Int32 × Int32 × gS) → Option (gS)) (k50 : (Int32 × Int32 × Int32 × gS) → Option (gS)) (k60 : (Int32 × Int32 × Int32 × Int32 × gS) → Option (gS)) (x2 : Int32) (x3 : Int32) (x4 : Int32) (x5 : Int32) (S : gS) : Option (gS) := gl (x5 + 1) (fun v1 : Int32 => k60 (x2, x3, x4, v1, S))
set_option maxRecDepth 20000 in
theorem bX8_findCosts_151_ok {X : gX} {F : Nat} {k41 : (Int32 × Int32 × gS) → Option (gS)} {k50 : (Int32 × Int32 × Int32 × gS) → Option (gS)} {k60 : (Int32 × Int32 × Int32 × Int32 × gS) → Option (gS)} {R : gS} (H41 : ∀ s : Int32 × Int32 × gS, k41 s = some R → G X RX8 cX8_findCosts 7 none 1 none R 41 [(0, .ref (X.1 + 51)), (2, .int s.1), (3, .int s.2.1)] [] s.2.2) (H50 : ∀ s : Int32 × Int32 × Int32 × gS, k50 s = some R → G X RX8 cX8_findCosts 7 none 1 none R 50 [(0, .ref (X.1 + 51)), (2, .int s.1), (3, .int s.2.1), (4, .int s.2.2.1)] [] s.2.2.2) (H60 : ∀ s : Int32 × Int32 × Int32 × Int32 × gS, k60 s = some R → G X RX8 cX8_findCosts 7 none 1 none R 60 [(0, .ref (X.1 + 51)), (2, .int s.1), (3, .int s.2.1), (4, .int s.2.2.1), (5, .int s.2.2.2.1)] [] s.2.2.2.2) {x2 : Int32} {x3 : Int32} {x4 : Int32} {x5 : Int32} {S : gS} (h : bX8_findCosts_151 F k41 k50 k60 x2 x3 x4 x5 S = some R) : G X RX8 cX8_findCosts 7 none 1 none R 151 [(0, .ref (X.1 + 51)), (2, .int x2), (3, .int x3), (4, .int x4), (5, .int x5)] [] S := by
  unfold bX8_findCosts_151 at h
  obtain ⟨v1, ev1, h⟩ := gle h
  refine g_iinc (q := 4) (v := v1) (lv' := [(5, .int v1), (0, .ref (X.1 + 51)), (2, .int x2), (3, .int x3), (4, .int x4)]) dX8_findCosts_151 rfl (by rw [← ev1]; rfl) (by decide) rfl ?_
  refine g_goto (tgt := 60) dX8_findCosts_154 (by decide) ?_
  refine g_sub [1, 2, 3, 4, 0] rfl ?_
  exact H60 (x2, x3, x4, v1, S) h
noncomputable def bX8_findCosts_60 (F : Nat) (k41 : (Int32 × Int32 × gS) → Option (gS)) (k50 : (Int32 × Int32 × Int32 × gS) → Option (gS)) (k60 : (Int32 × Int32 × Int32 × Int32 × gS) → Option (gS)) (x2 : Int32) (x3 : Int32) (x4 : Int32) (x5 : Int32) (S : gS) : Option (gS) := if (4 : Int32) ≤ x5 then (bX8_findCosts_157 F k41 k50 x2 x3 x4 S) else ((fX8_mayPass F x4 S).bind (fun q2 : Int32 × gS => if q2.1 = 0 then (bX8_findCosts_157 F k41 k50 x2 x3 x4 q2.2) else ((fX8_next F x4 x5 q2.2).bind (fun q4 : Int32 × gS => gl q4.1 (fun v5 : Int32 => if v5 = (-1 : Int32) then (bX8_findCosts_151 F k41 k50 k60 x2 x3 x4 x5 q4.2) else (g_chk v5 64 (if (100000 : Int32) ≤ (g_I q4.2 68 (v5).toNatClampNeg) then (bX8_findCosts_151 F k41 k50 k60 x2 x3 x4 x5 q4.2) else (g_chk v5 64 ((fX8_wades F v5 x2 q4.2).bind (fun q10 : Int32 × gS => g_chk x4 64 (if (g_I q10.2 68 (x4).toNatClampNeg) ≤ ((g_I q4.2 68 (v5).toNatClampNeg) + q10.1) then (bX8_findCosts_151 F k41 k50 k60 x2 x3 x4 x5 q10.2) else (g_chk v5 64 ((fX8_wades F v5 x2 q10.2).bind (fun q14 : Int32 × gS => g_chk x4 64 (gl (g_setI q14.2 68 (x4).toNatClampNeg ((g_I q10.2 68 (v5).toNatClampNeg) + q14.1)) (fun S16 : gS => bX8_findCosts_151 F k41 k50 k60 x2 (1 : Int32) x4 x5 S16))))))))))))))))
set_option maxRecDepth 20000 in
theorem bX8_findCosts_60_ok {X : gX} {F : Nat} {k41 : (Int32 × Int32 × gS) → Option (gS)} {k50 : (Int32 × Int32 × Int32 × gS) → Option (gS)} {k60 : (Int32 × Int32 × Int32 × Int32 × gS) → Option (gS)} {R : gS} (H41 : ∀ s : Int32 × Int32 × gS, k41 s = some R → G X RX8 cX8_findCosts 7 none 1 none R 41 [(0, .ref (X.1 + 51)), (2, .int s.1), (3, .int s.2.1)] [] s.2.2) (H50 : ∀ s : Int32 × Int32 × Int32 × gS, k50 s = some R → G X RX8 cX8_findCosts 7 none 1 none R 50 [(0, .ref (X.1 + 51)), (2, .int s.1), (3, .int s.2.1), (4, .int s.2.2.1)] [] s.2.2.2) (H60 : ∀ s : Int32 × Int32 × Int32 × Int32 × gS, k60 s = some R → G X RX8 cX8_findCosts 7 none 1 none R 60 [(0, .ref (X.1 + 51)), (2, .int s.1), (3, .int s.2.1), (4, .int s.2.2.1), (5, .int s.2.2.2.1)] [] s.2.2.2.2) {x2 : Int32} {x3 : Int32} {x4 : Int32} {x5 : Int32} {S : gS} (h : bX8_findCosts_60 F k41 k50 k60 x2 x3 x4 x5 S = some R) : G X RX8 cX8_findCosts 7 none 1 none R 60 [(0, .ref (X.1 + 51)), (2, .int x2), (3, .int x3), (4, .int x4), (5, .int x5)] [] S := by
  unfold bX8_findCosts_60 at h
  refine g_iload dX8_findCosts_60 4 rfl ?_
  refine g_iconst (v := 4) dX8_findCosts_62 (by decide) ?_
  refine g_icmp_ge (tgt := 157) dX8_findCosts_63 (by decide) (fun hc1 => ?_) (fun hc1 => ?_)
  · replace h := git hc1 h
    refine g_sub [0, 1, 2, 3] rfl ?_
    exact bX8_findCosts_157_ok H41 H50 h
  · replace h := gif hc1 h
    refine g_aload_n dX8_findCosts_66 0 rfl rfl ?_
    refine g_iload dX8_findCosts_67 3 rfl ?_
    obtain ⟨q2, hq2, h⟩ := gb h
    refine g_callVi [.int x4] [] dX8_findCosts_69 mk_X8_167 so_51 (ctX8_mayPass hq2) rfl (by decide) rfl (Nat.le_of_ble_eq_true rfl) ?_
    refine g_if_eq (tgt := 157) dX8_findCosts_72 (by decide) (fun hc3 => ?_) (fun hc3 => ?_)
    · replace h := git hc3 h
      refine g_sub [0, 1, 2, 3] rfl ?_
      exact bX8_findCosts_157_ok H41 H50 h
    · replace h := gif hc3 h
      refine g_iload dX8_findCosts_75 3 rfl ?_
      refine g_iload dX8_findCosts_77 4 rfl ?_
      obtain ⟨q4, hq4, h⟩ := gb h
      refine g_callSi [.int x4, .int x5] [] dX8_findCosts_79 mk_X8_141 (ctX8_next hq4) rfl (by decide) rfl (Nat.le_of_ble_eq_true rfl) ?_
      obtain ⟨v5, ev5, h⟩ := gle h
      refine g_istore (lv' := [(6, .int v5), (0, .ref (X.1 + 51)), (2, .int x2), (3, .int x3), (4, .int x4), (5, .int x5)]) dX8_findCosts_82 ev5 (by decide) rfl ?_
      refine g_iload dX8_findCosts_84 0 rfl ?_
      refine g_iconst (v := -1) dX8_findCosts_86 (by decide) ?_
      refine g_icmp_eq (tgt := 151) dX8_findCosts_87 (by decide) (fun hc6 => ?_) (fun hc6 => ?_)
      · replace h := git hc6 h
        refine g_sub [1, 2, 3, 4, 5] rfl ?_
        exact bX8_findCosts_151_ok H41 H50 H60 h
      · replace h := gif hc6 h
        refine g_aload_n dX8_findCosts_90 1 rfl rfl ?_
        refine g_getr dX8_findCosts_91 lk_X8_63 sf_51_20 ?_
        refine g_iload dX8_findCosts_94 0 rfl ?_
        obtain ⟨hv7, h⟩ := gchk h
        refine g_iald dX8_findCosts_96 sa_68 hv7 ?_
        refine g_ldc dX8_findCosts_97 ck_X8_170 ?_
        refine g_icmp_ge (tgt := 151) dX8_findCosts_99 (by decide) (fun hc8 => ?_) (fun hc8 => ?_)
        · replace h := git hc8 h
          refine g_sub [1, 2, 3, 4, 5] rfl ?_
          exact bX8_findCosts_151_ok H41 H50 H60 h
        · replace h := gif hc8 h
          refine g_aload_n dX8_findCosts_102 1 rfl rfl ?_
          refine g_getr dX8_findCosts_103 lk_X8_63 sf_51_20 ?_
          refine g_iload dX8_findCosts_106 0 rfl ?_
          obtain ⟨hv9, h⟩ := gchk h
          refine g_iald dX8_findCosts_108 sa_68 hv9 ?_
          refine g_aload_n dX8_findCosts_109 1 rfl rfl ?_
          refine g_iload dX8_findCosts_110 0 rfl ?_
          refine g_iload_n dX8_findCosts_112 2 rfl rfl ?_
          obtain ⟨q10, hq10, h⟩ := gb h
          refine g_callVi [.int v5, .int x2] [.int (g_I q4.2 68 (v5).toNatClampNeg)] dX8_findCosts_113 mk_X8_171 so_51 (ctX8_wades hq10) rfl (by decide) rfl (Nat.le_of_ble_eq_true rfl) ?_
          refine g_iadd dX8_findCosts_116 ?_
          refine g_aload_n dX8_findCosts_117 1 rfl rfl ?_
          refine g_getr dX8_findCosts_118 lk_X8_63 sf_51_20 ?_
          refine g_iload dX8_findCosts_121 4 rfl ?_
          obtain ⟨hv11, h⟩ := gchk h
          refine g_iald dX8_findCosts_123 sa_68 hv11 ?_
          refine g_icmp_ge (tgt := 151) dX8_findCosts_124 (by decide) (fun hc12 => ?_) (fun hc12 => ?_)
          · replace h := git hc12 h
            refine g_sub [1, 2, 3, 4, 5] rfl ?_
            exact bX8_findCosts_151_ok H41 H50 H60 h
          · replace h := gif hc12 h
            refine g_aload_n dX8_findCosts_127 1 rfl rfl ?_
            refine g_getr dX8_findCosts_128 lk_X8_63 sf_51_20 ?_
            refine g_iload dX8_findCosts_131 4 rfl ?_
            refine g_aload_n dX8_findCosts_133 1 rfl rfl ?_
            refine g_getr dX8_findCosts_134 lk_X8_63 sf_51_20 ?_
            refine g_iload dX8_findCosts_137 0 rfl ?_
            obtain ⟨hv13, h⟩ := gchk h
            refine g_iald dX8_findCosts_139 sa_68 hv13 ?_
            refine g_aload_n dX8_findCosts_140 1 rfl rfl ?_
            refine g_iload dX8_findCosts_141 0 rfl ?_
            refine g_iload_n dX8_findCosts_143 2 rfl rfl ?_
            obtain ⟨q14, hq14, h⟩ := gb h
            refine g_callVi [.int v5, .int x2] [.int (g_I q10.2 68 (v5).toNatClampNeg), .int x4, .ref (X.1 + 68)] dX8_findCosts_144 mk_X8_171 so_51 (ctX8_wades hq14) rfl (by decide) rfl (Nat.le_of_ble_eq_true rfl) ?_
            refine g_iadd dX8_findCosts_147 ?_
            obtain ⟨hv15, h⟩ := gchk h
            obtain ⟨S16, eS16, h⟩ := gle h
            refine g_iast dX8_findCosts_148 sa_68 hv15 eS16 ?_
            refine g_iconst (v := 1) dX8_findCosts_149 (by decide) ?_
            refine g_istore_n (lv' := [(3, .int (1 : Int32)), (6, .int v5), (0, .ref (X.1 + 51)), (2, .int x2), (4, .int x4), (5, .int x5)]) dX8_findCosts_150 rfl rfl (by decide) rfl ?_
            refine g_sub [2, 3, 0, 4, 5] rfl ?_
            exact bX8_findCosts_151_ok H41 H50 H60 h
noncomputable def bX8_findCosts_60l (F : Nat) (k41 : (Int32 × Int32 × gS) → Option (gS)) (k50 : (Int32 × Int32 × Int32 × gS) → Option (gS)) : Nat → (Int32 × Int32 × Int32 × Int32 × gS) → Option (gS) := g_fix (fun k60 s => bX8_findCosts_60 F k41 k50 k60 s.1 s.2.1 s.2.2.1 s.2.2.2.1 s.2.2.2.2)
theorem bX8_findCosts_60l_ok {X : gX} {F : Nat} {k41 : (Int32 × Int32 × gS) → Option (gS)} {k50 : (Int32 × Int32 × Int32 × gS) → Option (gS)} {R : gS} (H41 : ∀ s : Int32 × Int32 × gS, k41 s = some R → G X RX8 cX8_findCosts 7 none 1 none R 41 [(0, .ref (X.1 + 51)), (2, .int s.1), (3, .int s.2.1)] [] s.2.2) (H50 : ∀ s : Int32 × Int32 × Int32 × gS, k50 s = some R → G X RX8 cX8_findCosts 7 none 1 none R 50 [(0, .ref (X.1 + 51)), (2, .int s.1), (3, .int s.2.1), (4, .int s.2.2.1)] [] s.2.2.2) : ∀ (n : Nat) (s : Int32 × Int32 × Int32 × Int32 × gS), bX8_findCosts_60l F k41 k50 n s = some R → G X RX8 cX8_findCosts 7 none 1 none R 60 [(0, .ref (X.1 + 51)), (2, .int s.1), (3, .int s.2.1), (4, .int s.2.2.1), (5, .int s.2.2.2.1)] [] s.2.2.2.2 := by
  intro n
  induction n with
  | zero => intro s h; cases h
  | succ n ih => intro s h; exact bX8_findCosts_60_ok (F := F) H41 H50 ih h
noncomputable def bX8_findCosts_50 (F : Nat) (k41 : (Int32 × Int32 × gS) → Option (gS)) (k50 : (Int32 × Int32 × Int32 × gS) → Option (gS)) (x2 : Int32) (x3 : Int32) (x4 : Int32) (S : gS) : Option (gS) := if (64 : Int32) ≤ x4 then (k41 (x2, x3, S)) else (bX8_findCosts_60l F k41 k50 F (x2, x3, x4, (0 : Int32), S))
set_option maxRecDepth 20000 in
theorem bX8_findCosts_50_ok {X : gX} {F : Nat} {k41 : (Int32 × Int32 × gS) → Option (gS)} {k50 : (Int32 × Int32 × Int32 × gS) → Option (gS)} {R : gS} (H41 : ∀ s : Int32 × Int32 × gS, k41 s = some R → G X RX8 cX8_findCosts 7 none 1 none R 41 [(0, .ref (X.1 + 51)), (2, .int s.1), (3, .int s.2.1)] [] s.2.2) (H50 : ∀ s : Int32 × Int32 × Int32 × gS, k50 s = some R → G X RX8 cX8_findCosts 7 none 1 none R 50 [(0, .ref (X.1 + 51)), (2, .int s.1), (3, .int s.2.1), (4, .int s.2.2.1)] [] s.2.2.2) {x2 : Int32} {x3 : Int32} {x4 : Int32} {S : gS} (h : bX8_findCosts_50 F k41 k50 x2 x3 x4 S = some R) : G X RX8 cX8_findCosts 7 none 1 none R 50 [(0, .ref (X.1 + 51)), (2, .int x2), (3, .int x3), (4, .int x4)] [] S := by
  unfold bX8_findCosts_50 at h
  refine g_iload dX8_findCosts_50 3 rfl ?_
  refine g_bipush (v := 64) dX8_findCosts_52 (by decide) ?_
  refine g_icmp_ge (tgt := 163) dX8_findCosts_54 (by decide) (fun hc1 => ?_) (fun hc1 => ?_)
  · replace h := git hc1 h
    refine g_goto (tgt := 41) dX8_findCosts_163 (by decide) ?_
    refine g_sub [0, 1, 2] rfl ?_
    exact H41 (x2, x3, S) h
  · replace h := gif hc1 h
    refine g_iconst (v := 0) dX8_findCosts_57 (by decide) ?_
    refine g_istore (lv' := [(5, .int (0 : Int32)), (0, .ref (X.1 + 51)), (2, .int x2), (3, .int x3), (4, .int x4)]) dX8_findCosts_58 rfl (by decide) rfl ?_
    refine g_sub [1, 2, 3, 4, 0] rfl ?_
    exact bX8_findCosts_60l_ok H41 H50 F (x2, x3, x4, (0 : Int32), S) h
noncomputable def bX8_findCosts_50l (F : Nat) (k41 : (Int32 × Int32 × gS) → Option (gS)) : Nat → (Int32 × Int32 × Int32 × gS) → Option (gS) := g_fix (fun k50 s => bX8_findCosts_50 F k41 k50 s.1 s.2.1 s.2.2.1 s.2.2.2)
theorem bX8_findCosts_50l_ok {X : gX} {F : Nat} {k41 : (Int32 × Int32 × gS) → Option (gS)} {R : gS} (H41 : ∀ s : Int32 × Int32 × gS, k41 s = some R → G X RX8 cX8_findCosts 7 none 1 none R 41 [(0, .ref (X.1 + 51)), (2, .int s.1), (3, .int s.2.1)] [] s.2.2) : ∀ (n : Nat) (s : Int32 × Int32 × Int32 × gS), bX8_findCosts_50l F k41 n s = some R → G X RX8 cX8_findCosts 7 none 1 none R 50 [(0, .ref (X.1 + 51)), (2, .int s.1), (3, .int s.2.1), (4, .int s.2.2.1)] [] s.2.2.2 := by
  intro n
  induction n with
  | zero => intro s h; cases h
  | succ n ih => intro s h; exact bX8_findCosts_50_ok (F := F) H41 ih h
noncomputable def bX8_findCosts_41 (F : Nat) (k41 : (Int32 × Int32 × gS) → Option (gS)) (x2 : Int32) (x3 : Int32) (S : gS) : Option (gS) := if x3 = 0 then (some S) else (bX8_findCosts_50l F k41 F (x2, (0 : Int32), (0 : Int32), S))
set_option maxRecDepth 20000 in
theorem bX8_findCosts_41_ok {X : gX} {F : Nat} {k41 : (Int32 × Int32 × gS) → Option (gS)} {R : gS} (H41 : ∀ s : Int32 × Int32 × gS, k41 s = some R → G X RX8 cX8_findCosts 7 none 1 none R 41 [(0, .ref (X.1 + 51)), (2, .int s.1), (3, .int s.2.1)] [] s.2.2) {x2 : Int32} {x3 : Int32} {S : gS} (h : bX8_findCosts_41 F k41 x2 x3 S = some R) : G X RX8 cX8_findCosts 7 none 1 none R 41 [(0, .ref (X.1 + 51)), (2, .int x2), (3, .int x3)] [] S := by
  unfold bX8_findCosts_41 at h
  refine g_iload_n dX8_findCosts_41 2 rfl rfl ?_
  refine g_if_eq (tgt := 166) dX8_findCosts_42 (by decide) (fun hc1 => ?_) (fun hc1 => ?_)
  · replace h := git hc1 h
    obtain rfl := Option.some.inj h
    exact g_vret dX8_findCosts_166 rfl
  · replace h := gif hc1 h
    refine g_iconst (v := 0) dX8_findCosts_45 (by decide) ?_
    refine g_istore_n (lv' := [(3, .int (0 : Int32)), (0, .ref (X.1 + 51)), (2, .int x2)]) dX8_findCosts_46 rfl rfl (by decide) rfl ?_
    refine g_iconst (v := 0) dX8_findCosts_47 (by decide) ?_
    refine g_istore (lv' := [(4, .int (0 : Int32)), (3, .int (0 : Int32)), (0, .ref (X.1 + 51)), (2, .int x2)]) dX8_findCosts_48 rfl (by decide) rfl ?_
    refine g_sub [2, 3, 1, 0] rfl ?_
    exact bX8_findCosts_50l_ok H41 F (x2, (0 : Int32), (0 : Int32), S) h
noncomputable def bX8_findCosts_41l (F : Nat) : Nat → (Int32 × Int32 × gS) → Option (gS) := g_fix (fun k41 s => bX8_findCosts_41 F k41 s.1 s.2.1 s.2.2)
theorem bX8_findCosts_41l_ok {X : gX} {F : Nat} {R : gS} : ∀ (n : Nat) (s : Int32 × Int32 × gS), bX8_findCosts_41l F n s = some R → G X RX8 cX8_findCosts 7 none 1 none R 41 [(0, .ref (X.1 + 51)), (2, .int s.1), (3, .int s.2.1)] [] s.2.2 := by
  intro n
  induction n with
  | zero => intro s h; cases h
  | succ n ih => intro s h; exact bX8_findCosts_41_ok (F := F) ih h
noncomputable def bX8_findCosts_30 (F : Nat) (k2 : (Int32 × Int32 × Int32 × gS) → Option (gS)) (x1 : Int32) (x2 : Int32) (x3 : Int32) (t0 : Int32) (S : gS) : Option (gS) := bX8_findCosts_32 F k2 x1 x2 x3 (100000 : Int32) t0 S
set_option maxRecDepth 20000 in
theorem bX8_findCosts_30_ok {X : gX} {F : Nat} {k2 : (Int32 × Int32 × Int32 × gS) → Option (gS)} {R : gS} (H2 : ∀ s : Int32 × Int32 × Int32 × gS, k2 s = some R → G X RX8 cX8_findCosts 7 none 1 none R 2 [(0, .ref (X.1 + 51)), (1, .int s.1), (2, .int s.2.1), (3, .int s.2.2.1)] [] s.2.2.2) {x1 : Int32} {x2 : Int32} {x3 : Int32} {t0 : Int32} {S : gS} (h : bX8_findCosts_30 F k2 x1 x2 x3 t0 S = some R) : G X RX8 cX8_findCosts 7 none 1 none R 30 [(0, .ref (X.1 + 51)), (1, .int x1), (2, .int x2), (3, .int x3)] [.int t0, .ref (X.1 + 68)] S := by
  unfold bX8_findCosts_30 at h
  refine g_ldc dX8_findCosts_30 ck_X8_170 ?_
  exact bX8_findCosts_32_ok H2 h
noncomputable def bX8_findCosts_2 (F : Nat) (k2 : (Int32 × Int32 × Int32 × gS) → Option (gS)) (x1 : Int32) (x2 : Int32) (x3 : Int32) (S : gS) : Option (gS) := if (64 : Int32) ≤ x3 then (bX8_findCosts_41l F F (x2, (1 : Int32), S)) else (if x3 = x1 then ((fX8_mayPass F x3 S).bind (fun q3 : Int32 × gS => if q3.1 = 0 then (bX8_findCosts_30 F k2 x1 x2 x3 x3 q3.2) else (bX8_findCosts_32 F k2 x1 x2 x3 (0 : Int32) x3 q3.2))) else (bX8_findCosts_30 F k2 x1 x2 x3 x3 S))
set_option maxRecDepth 20000 in
theorem bX8_findCosts_2_ok {X : gX} {F : Nat} {k2 : (Int32 × Int32 × Int32 × gS) → Option (gS)} {R : gS} (H2 : ∀ s : Int32 × Int32 × Int32 × gS, k2 s = some R → G X RX8 cX8_findCosts 7 none 1 none R 2 [(0, .ref (X.1 + 51)), (1, .int s.1), (2, .int s.2.1), (3, .int s.2.2.1)] [] s.2.2.2) {x1 : Int32} {x2 : Int32} {x3 : Int32} {S : gS} (h : bX8_findCosts_2 F k2 x1 x2 x3 S = some R) : G X RX8 cX8_findCosts 7 none 1 none R 2 [(0, .ref (X.1 + 51)), (1, .int x1), (2, .int x2), (3, .int x3)] [] S := by
  unfold bX8_findCosts_2 at h
  refine g_iload_n dX8_findCosts_2 3 rfl rfl ?_
  refine g_bipush (v := 64) dX8_findCosts_3 (by decide) ?_
  refine g_icmp_ge (tgt := 39) dX8_findCosts_5 (by decide) (fun hc1 => ?_) (fun hc1 => ?_)
  · replace h := git hc1 h
    refine g_iconst (v := 1) dX8_findCosts_39 (by decide) ?_
    refine g_istore_n (lv' := [(3, .int (1 : Int32)), (0, .ref (X.1 + 51)), (1, .int x1), (2, .int x2)]) dX8_findCosts_40 rfl rfl (by decide) rfl ?_
    refine g_sub [1, 3, 0] rfl ?_
    exact bX8_findCosts_41l_ok F (x2, (1 : Int32), S) h
  · replace h := gif hc1 h
    refine g_aload_n dX8_findCosts_8 0 rfl rfl ?_
    refine g_getr dX8_findCosts_9 lk_X8_63 sf_51_20 ?_
    refine g_iload_n dX8_findCosts_12 3 rfl rfl ?_
    refine g_iload_n dX8_findCosts_13 3 rfl rfl ?_
    refine g_iload_n dX8_findCosts_14 1 rfl rfl ?_
    refine g_icmp_ne (tgt := 30) dX8_findCosts_15 (by decide) (fun hc2 => ?_) (fun hc2 => ?_)
    · replace h := gif hc2 h
      exact bX8_findCosts_30_ok H2 h
    · replace h := git hc2 h
      refine g_aload_n dX8_findCosts_18 0 rfl rfl ?_
      refine g_iload_n dX8_findCosts_19 3 rfl rfl ?_
      obtain ⟨q3, hq3, h⟩ := gb h
      refine g_callVi [.int x3] [.int x3, .ref (X.1 + 68)] dX8_findCosts_20 mk_X8_167 so_51 (ctX8_mayPass hq3) rfl (by decide) rfl (Nat.le_of_ble_eq_true rfl) ?_
      refine g_if_eq (tgt := 30) dX8_findCosts_23 (by decide) (fun hc4 => ?_) (fun hc4 => ?_)
      · replace h := git hc4 h
        exact bX8_findCosts_30_ok H2 h
      · replace h := gif hc4 h
        refine g_iconst (v := 0) dX8_findCosts_26 (by decide) ?_
        refine g_goto (tgt := 32) dX8_findCosts_27 (by decide) ?_
        exact bX8_findCosts_32_ok H2 h
noncomputable def bX8_findCosts_2l (F : Nat) : Nat → (Int32 × Int32 × Int32 × gS) → Option (gS) := g_fix (fun k2 s => bX8_findCosts_2 F k2 s.1 s.2.1 s.2.2.1 s.2.2.2)
theorem bX8_findCosts_2l_ok {X : gX} {F : Nat} {R : gS} : ∀ (n : Nat) (s : Int32 × Int32 × Int32 × gS), bX8_findCosts_2l F n s = some R → G X RX8 cX8_findCosts 7 none 1 none R 2 [(0, .ref (X.1 + 51)), (1, .int s.1), (2, .int s.2.1), (3, .int s.2.2.1)] [] s.2.2.2 := by
  intro n
  induction n with
  | zero => intro s h; cases h
  | succ n ih => intro s h; exact bX8_findCosts_2_ok (F := F) ih h
noncomputable def fX8_findCosts (F : Nat) (a0 : Int32) (a1 : Int32) (S : gS) : Option (gS) := bX8_findCosts_2l F F (a0, a1, (0 : Int32), S)
set_option maxRecDepth 20000 in
theorem fX8_findCosts_ok {X : gX} {F : Nat} {R : gS} {a0 : Int32} {a1 : Int32} {S : gS} (h : fX8_findCosts F a0 a1 S = some R) : G X RX8 cX8_findCosts 7 none 1 none R 0 [(0, .ref (X.1 + 51)), (1, .int a0), (2, .int a1)] [] S := by
  unfold fX8_findCosts at h
  refine g_iconst (v := 0) dX8_findCosts_0 (by decide) ?_
  refine g_istore_n (lv' := [(3, .int (0 : Int32)), (0, .ref (X.1 + 51)), (1, .int a0), (2, .int a1)]) dX8_findCosts_1 rfl rfl (by decide) rfl ?_
  refine g_sub [1, 2, 3, 0] rfl ?_
  exact bX8_findCosts_2l_ok F (a0, a1, (0 : Int32), S) h
theorem ctX8_findCosts {X : gX} {F : Nat} {R : gS} {a0 : Int32} {a1 : Int32} {S : gS} (h : fX8_findCosts F a0 a1 S = some R) : g_C X yX8_findCosts cX8_findCosts 7 none 1 [.ref (X.1 + 51), .int a0, .int a1] S none R :=
  g_met (by decide) (Nat.le_of_ble_eq_true rfl) (fX8_findCosts_ok h)
noncomputable def bX8_goesTo_53 (F : Nat) (k2 : (Int32 × Int32 × gS) → Option (Int32 × gS)) (x1 : Int32) (x2 : Int32) (S : gS) : Option (Int32 × gS) := gl (x2 + 1) (fun v1 : Int32 => k2 (x1, v1, S))
set_option maxRecDepth 20000 in
theorem bX8_goesTo_53_ok {X : gX} {F : Nat} {k2 : (Int32 × Int32 × gS) → Option (Int32 × gS)} {R : Int32 × gS} (H2 : ∀ s : Int32 × Int32 × gS, k2 s = some R → G X RX8 cX8_goesTo 4 (some .int) 1 (some (.int R.1)) R.2 2 [(0, .ref (X.1 + 51)), (1, .int s.1), (2, .int s.2.1)] [] s.2.2) {x1 : Int32} {x2 : Int32} {S : gS} (h : bX8_goesTo_53 F k2 x1 x2 S = some R) : G X RX8 cX8_goesTo 4 (some .int) 1 (some (.int R.1)) R.2 53 [(0, .ref (X.1 + 51)), (1, .int x1), (2, .int x2)] [] S := by
  unfold bX8_goesTo_53 at h
  obtain ⟨v1, ev1, h⟩ := gle h
  refine g_iinc (q := 2) (v := v1) (lv' := [(2, .int v1), (0, .ref (X.1 + 51)), (1, .int x1)]) dX8_goesTo_53 rfl (by rw [← ev1]; rfl) (by decide) rfl ?_
  refine g_goto (tgt := 2) dX8_goesTo_56 (by decide) ?_
  refine g_sub [1, 2, 0] rfl ?_
  exact H2 (x1, v1, S) h
noncomputable def bX8_goesTo_2 (F : Nat) (k2 : (Int32 × Int32 × gS) → Option (Int32 × gS)) (x1 : Int32) (x2 : Int32) (S : gS) : Option (Int32 × gS) := if (4 : Int32) ≤ x2 then (some ((-1 : Int32), S)) else ((fX8_next F x1 x2 S).bind (fun q2 : Int32 × gS => gl q2.1 (fun v3 : Int32 => if v3 = (-1 : Int32) then (bX8_goesTo_53 F k2 x1 x2 q2.2) else (g_chk v3 64 (if (100000 : Int32) ≤ (g_I q2.2 68 (v3).toNatClampNeg) then (bX8_goesTo_53 F k2 x1 x2 q2.2) else (g_chk v3 64 ((fX8_wades F v3 (0 : Int32) q2.2).bind (fun q8 : Int32 × gS => g_chk x1 64 (if ((g_I q2.2 68 (v3).toNatClampNeg) + q8.1) = (g_I q8.2 68 (x1).toNatClampNeg) then (some (v3, q8.2)) else (bX8_goesTo_53 F k2 x1 x2 q8.2))))))))))
set_option maxRecDepth 20000 in
theorem bX8_goesTo_2_ok {X : gX} {F : Nat} {k2 : (Int32 × Int32 × gS) → Option (Int32 × gS)} {R : Int32 × gS} (H2 : ∀ s : Int32 × Int32 × gS, k2 s = some R → G X RX8 cX8_goesTo 4 (some .int) 1 (some (.int R.1)) R.2 2 [(0, .ref (X.1 + 51)), (1, .int s.1), (2, .int s.2.1)] [] s.2.2) {x1 : Int32} {x2 : Int32} {S : gS} (h : bX8_goesTo_2 F k2 x1 x2 S = some R) : G X RX8 cX8_goesTo 4 (some .int) 1 (some (.int R.1)) R.2 2 [(0, .ref (X.1 + 51)), (1, .int x1), (2, .int x2)] [] S := by
  unfold bX8_goesTo_2 at h
  refine g_iload_n dX8_goesTo_2 2 rfl rfl ?_
  refine g_iconst (v := 4) dX8_goesTo_3 (by decide) ?_
  refine g_icmp_ge (tgt := 59) dX8_goesTo_4 (by decide) (fun hc1 => ?_) (fun hc1 => ?_)
  · replace h := git hc1 h
    refine g_iconst (v := -1) dX8_goesTo_59 (by decide) ?_
    obtain rfl := Option.some.inj h
    exact g_iret dX8_goesTo_60 rfl
  · replace h := gif hc1 h
    refine g_iload_n dX8_goesTo_7 1 rfl rfl ?_
    refine g_iload_n dX8_goesTo_8 2 rfl rfl ?_
    obtain ⟨q2, hq2, h⟩ := gb h
    refine g_callSi [.int x1, .int x2] [] dX8_goesTo_9 mk_X8_141 (ctX8_next hq2) rfl (by decide) rfl (Nat.le_of_ble_eq_true rfl) ?_
    obtain ⟨v3, ev3, h⟩ := gle h
    refine g_istore_n (lv' := [(3, .int v3), (0, .ref (X.1 + 51)), (1, .int x1), (2, .int x2)]) dX8_goesTo_12 ev3 rfl (by decide) rfl ?_
    refine g_iload_n dX8_goesTo_13 0 rfl rfl ?_
    refine g_iconst (v := -1) dX8_goesTo_14 (by decide) ?_
    refine g_icmp_eq (tgt := 53) dX8_goesTo_15 (by decide) (fun hc4 => ?_) (fun hc4 => ?_)
    · replace h := git hc4 h
      refine g_sub [1, 2, 3] rfl ?_
      exact bX8_goesTo_53_ok H2 h
    · replace h := gif hc4 h
      refine g_aload_n dX8_goesTo_18 1 rfl rfl ?_
      refine g_getr dX8_goesTo_19 lk_X8_63 sf_51_20 ?_
      refine g_iload_n dX8_goesTo_22 0 rfl rfl ?_
      obtain ⟨hv5, h⟩ := gchk h
      refine g_iald dX8_goesTo_23 sa_68 hv5 ?_
      refine g_ldc dX8_goesTo_24 ck_X8_170 ?_
      refine g_icmp_ge (tgt := 53) dX8_goesTo_26 (by decide) (fun hc6 => ?_) (fun hc6 => ?_)
      · replace h := git hc6 h
        refine g_sub [1, 2, 3] rfl ?_
        exact bX8_goesTo_53_ok H2 h
      · replace h := gif hc6 h
        refine g_aload_n dX8_goesTo_29 1 rfl rfl ?_
        refine g_getr dX8_goesTo_30 lk_X8_63 sf_51_20 ?_
        refine g_iload_n dX8_goesTo_33 0 rfl rfl ?_
        obtain ⟨hv7, h⟩ := gchk h
        refine g_iald dX8_goesTo_34 sa_68 hv7 ?_
        refine g_aload_n dX8_goesTo_35 1 rfl rfl ?_
        refine g_iload_n dX8_goesTo_36 0 rfl rfl ?_
        refine g_iconst (v := 0) dX8_goesTo_37 (by decide) ?_
        obtain ⟨q8, hq8, h⟩ := gb h
        refine g_callVi [.int v3, .int (0 : Int32)] [.int (g_I q2.2 68 (v3).toNatClampNeg)] dX8_goesTo_38 mk_X8_171 so_51 (ctX8_wades hq8) rfl (by decide) rfl (Nat.le_of_ble_eq_true rfl) ?_
        refine g_iadd dX8_goesTo_41 ?_
        refine g_aload_n dX8_goesTo_42 1 rfl rfl ?_
        refine g_getr dX8_goesTo_43 lk_X8_63 sf_51_20 ?_
        refine g_iload_n dX8_goesTo_46 2 rfl rfl ?_
        obtain ⟨hv9, h⟩ := gchk h
        refine g_iald dX8_goesTo_47 sa_68 hv9 ?_
        refine g_icmp_ne (tgt := 53) dX8_goesTo_48 (by decide) (fun hc10 => ?_) (fun hc10 => ?_)
        · replace h := gif hc10 h
          refine g_sub [1, 2, 3] rfl ?_
          exact bX8_goesTo_53_ok H2 h
        · replace h := git hc10 h
          refine g_iload_n dX8_goesTo_51 0 rfl rfl ?_
          obtain rfl := Option.some.inj h
          exact g_iret dX8_goesTo_52 rfl
noncomputable def bX8_goesTo_2l (F : Nat) : Nat → (Int32 × Int32 × gS) → Option (Int32 × gS) := g_fix (fun k2 s => bX8_goesTo_2 F k2 s.1 s.2.1 s.2.2)
theorem bX8_goesTo_2l_ok {X : gX} {F : Nat} {R : Int32 × gS} : ∀ (n : Nat) (s : Int32 × Int32 × gS), bX8_goesTo_2l F n s = some R → G X RX8 cX8_goesTo 4 (some .int) 1 (some (.int R.1)) R.2 2 [(0, .ref (X.1 + 51)), (1, .int s.1), (2, .int s.2.1)] [] s.2.2 := by
  intro n
  induction n with
  | zero => intro s h; cases h
  | succ n ih => intro s h; exact bX8_goesTo_2_ok (F := F) ih h
noncomputable def fX8_goesTo (F : Nat) (a0 : Int32) (S : gS) : Option (Int32 × gS) := bX8_goesTo_2l F F (a0, (0 : Int32), S)
set_option maxRecDepth 20000 in
theorem fX8_goesTo_ok {X : gX} {F : Nat} {R : Int32 × gS} {a0 : Int32} {S : gS} (h : fX8_goesTo F a0 S = some R) : G X RX8 cX8_goesTo 4 (some .int) 1 (some (.int R.1)) R.2 0 [(0, .ref (X.1 + 51)), (1, .int a0)] [] S := by
  unfold fX8_goesTo at h
  refine g_iconst (v := 0) dX8_goesTo_0 (by decide) ?_
  refine g_istore_n (lv' := [(2, .int (0 : Int32)), (0, .ref (X.1 + 51)), (1, .int a0)]) dX8_goesTo_1 rfl rfl (by decide) rfl ?_
  refine g_sub [1, 2, 0] rfl ?_
  exact bX8_goesTo_2l_ok F (a0, (0 : Int32), S) h
theorem ctX8_goesTo {X : gX} {F : Nat} {R : Int32 × gS} {a0 : Int32} {S : gS} (h : fX8_goesTo F a0 S = some R) : g_C X yX8_goesTo cX8_goesTo 4 (some .int) 1 [.ref (X.1 + 51), .int a0] S (some (.int R.1)) R.2 :=
  g_met (by decide) (Nat.le_of_ble_eq_true rfl) (fX8_goesTo_ok h)

noncomputable def fX7_fewestSteps (F : Nat) (a0 : Int32) (S : gS) : Option (Int32 × gS) := gl ((g_J S 1 3) ||| (g_J S 1 4)) (fun v1 : Int64 => g_chk a0 8 (g_chk a0 8 ((fX4_find F 8 (g_I S 10 (a0).toNatClampNeg) (g_I S 11 (a0).toNatClampNeg) v1 S).bind (fun q4 : Int32 × gS => some (q4.1, q4.2)))))
set_option maxRecDepth 20000 in
theorem fX7_fewestSteps_ok {X : gX} {F : Nat} {R : Int32 × gS} {a0 : Int32} {S : gS} (h : fX7_fewestSteps F a0 S = some R) : G X RX7 cX7_fewestSteps 4 (some .int) 3 (some (.int R.1)) R.2 0 [(0, .ref (X.1 + 0)), (1, .int a0)] [] S := by
  unfold fX7_fewestSteps at h
  refine g_aload_n dX7_fewestSteps_0 0 rfl rfl ?_
  refine g_getr dX7_fewestSteps_1 lk_X7_10 sf_0_0 ?_
  refine g_getj dX7_fewestSteps_4 lk_X7_111 sf_1_3 ?_
  refine g_aload_n dX7_fewestSteps_7 0 rfl rfl ?_
  refine g_getr dX7_fewestSteps_8 lk_X7_10 sf_0_0 ?_
  refine g_getj dX7_fewestSteps_11 lk_X7_158 sf_1_4 ?_
  refine g_lor dX7_fewestSteps_14 ?_
  obtain ⟨v1, ev1, h⟩ := gle h
  refine g_lstore_n (lv' := [(2, .long v1), (0, .ref (X.1 + 0)), (1, .int a0)]) dX7_fewestSteps_15 ev1 rfl (by decide) rfl ?_
  refine g_aload_n dX7_fewestSteps_16 1 rfl rfl ?_
  refine g_getr dX7_fewestSteps_17 lk_X7_33 sf_0_3 ?_
  refine g_aload_n dX7_fewestSteps_20 1 rfl rfl ?_
  refine g_getr dX7_fewestSteps_21 lk_X7_26 sf_0_2 ?_
  refine g_getr dX7_fewestSteps_24 lk_X7_176 sf_9_0 ?_
  refine g_iload_n dX7_fewestSteps_27 2 rfl rfl ?_
  obtain ⟨hv2, h⟩ := gchk h
  refine g_iald dX7_fewestSteps_28 sa_10 hv2 ?_
  refine g_aload_n dX7_fewestSteps_29 1 rfl rfl ?_
  refine g_getr dX7_fewestSteps_30 lk_X7_26 sf_0_2 ?_
  refine g_getr dX7_fewestSteps_33 lk_X7_179 sf_9_1 ?_
  refine g_iload_n dX7_fewestSteps_36 2 rfl rfl ?_
  obtain ⟨hv3, h⟩ := gchk h
  refine g_iald dX7_fewestSteps_37 sa_11 hv3 ?_
  refine g_lload_n dX7_fewestSteps_38 0 rfl rfl ?_
  refine g_aload_n dX7_fewestSteps_39 1 rfl rfl ?_
  refine g_getr dX7_fewestSteps_40 lk_X7_19 sf_0_1 ?_
  refine g_getr dX7_fewestSteps_43 lk_X7_338 sf_3_4 ?_
  obtain ⟨q4, hq4, h⟩ := gb h
  refine g_callVi [.int (g_I S 10 (a0).toNatClampNeg), .int (g_I S 11 (a0).toNatClampNeg), .long v1, .ref (X.1 + 8)] [] dX7_fewestSteps_46 mk_X7_161 so_12 (ctX4_find sa_8 hq4) rfl (by decide) rfl (Nat.le_of_ble_eq_true rfl) ?_
  cases h
  exact g_iret dX7_fewestSteps_49 rfl
theorem ctX7_fewestSteps {X : gX} {F : Nat} {R : Int32 × gS} {a0 : Int32} {S : gS} (h : fX7_fewestSteps F a0 S = some R) : g_C X yX7_fewestSteps cX7_fewestSteps 4 (some .int) 3 [.ref (X.1 + 0), .int a0] S (some (.int R.1)) R.2 :=
  g_met (by decide) (Nat.le_of_ble_eq_true rfl) (fX7_fewestSteps_ok h)
noncomputable def fX7_straight (F : Nat) (a0 : Int32) (S : gS) : Option (Int32 × gS) := (fX7_isWalker F a0 S).bind (fun q1 : Int32 × gS => if q1.1 = 0 then (some ((-2 : Int32), q1.2)) else ((fX7_fewestSteps F a0 q1.2).bind (fun q3 : Int32 × gS => some (q3.1, q3.2))))
set_option maxRecDepth 20000 in
theorem fX7_straight_ok {X : gX} {F : Nat} {R : Int32 × gS} {a0 : Int32} {S : gS} (h : fX7_straight F a0 S = some R) : G X RX7 cX7_straight 2 (some .int) 4 (some (.int R.1)) R.2 0 [(0, .ref (X.1 + 0)), (1, .int a0)] [] S := by
  unfold fX7_straight at h
  refine g_aload_n dX7_straight_0 0 rfl rfl ?_
  refine g_iload_n dX7_straight_1 1 rfl rfl ?_
  obtain ⟨q1, hq1, h⟩ := gb h
  refine g_callVi [.int a0] [] dX7_straight_2 mk_X7_169 so_0 (ctX7_isWalker hq1) rfl (by decide) rfl (Nat.le_of_ble_eq_true rfl) ?_
  refine g_if_ne (tgt := 11) dX7_straight_5 (by decide) (fun hc2 => ?_) (fun hc2 => ?_)
  · replace h := gif hc2 h
    refine g_aload_n dX7_straight_11 0 rfl rfl ?_
    refine g_iload_n dX7_straight_12 1 rfl rfl ?_
    obtain ⟨q3, hq3, h⟩ := gb h
    refine g_callVi [.int a0] [] dX7_straight_13 mk_X7_200 so_0 (ctX7_fewestSteps hq3) rfl (by decide) rfl (Nat.le_of_ble_eq_true rfl) ?_
    cases h
    exact g_iret dX7_straight_16 rfl
  · replace h := git hc2 h
    refine g_bipush (v := -2) dX7_straight_8 (by decide) ?_
    cases h
    exact g_iret dX7_straight_10 rfl
theorem ctX7_straight {X : gX} {F : Nat} {R : Int32 × gS} {a0 : Int32} {S : gS} (h : fX7_straight F a0 S = some R) : g_C X yX7_straight cX7_straight 2 (some .int) 4 [.ref (X.1 + 0), .int a0] S (some (.int R.1)) R.2 :=
  g_met (by decide) (Nat.le_of_ble_eq_true rfl) (fX7_straight_ok h)
noncomputable def bX7_longer_90 (F : Nat) (k18 : (Int32 × Int32 × gS) → Option (Int32 × gS)) (x1 : Int32) (x2 : Int32) (S : gS) : Option (Int32 × gS) := gl (x2 + 1) (fun v1 : Int32 => k18 (x1, v1, S))
set_option maxRecDepth 20000 in
theorem bX7_longer_90_ok {X : gX} {F : Nat} {k18 : (Int32 × Int32 × gS) → Option (Int32 × gS)} {R : Int32 × gS} (H18 : ∀ s : Int32 × Int32 × gS, k18 s = some R → G X RX7 cX7_longer 4 (some .int) 4 (some (.int R.1)) R.2 18 [(0, .ref (X.1 + 0)), (1, .int s.1), (2, .int s.2.1)] [] s.2.2) {x1 : Int32} {x2 : Int32} {S : gS} (h : bX7_longer_90 F k18 x1 x2 S = some R) : G X RX7 cX7_longer 4 (some .int) 4 (some (.int R.1)) R.2 90 [(0, .ref (X.1 + 0)), (1, .int x1), (2, .int x2)] [] S := by
  unfold bX7_longer_90 at h
  obtain ⟨v1, ev1, h⟩ := gle h
  refine g_iinc (q := 2) (v := v1) (lv' := [(2, .int v1), (0, .ref (X.1 + 0)), (1, .int x1)]) dX7_longer_90 rfl (by rw [← ev1]; rfl) (by decide) rfl ?_
  refine g_goto (tgt := 18) dX7_longer_93 (by decide) ?_
  refine g_sub [1, 2, 0] rfl ?_
  exact H18 (x1, v1, S) h
noncomputable def bX7_longer_18 (F : Nat) (k18 : (Int32 × Int32 × gS) → Option (Int32 × gS)) (x1 : Int32) (x2 : Int32) (S : gS) : Option (Int32 × gS) := if (g_I S 9 2) ≤ x2 then (some (x1, S)) else (gl (g_I S 16 5) (fun v2 : Int32 => g_chk x2 8 (g_chk x2 8 ((fX3_go F 16 (g_I S 10 (x2).toNatClampNeg) (g_I S 11 (x2).toNatClampNeg) (g_J S 1 4) S).bind (fun q5 : Int32 × gS => if q5.1 = 0 then (bX7_longer_90 F k18 x1 x2 q5.2) else ((fX7_fewestSteps F x2 q5.2).bind (fun q7 : Int32 × gS => gl (x1 + (((g_I q5.2 16 5) - v2) - q7.1)) (fun v8 : Int32 => bX7_longer_90 F k18 v8 x2 q7.2))))))))
set_option maxRecDepth 20000 in
theorem bX7_longer_18_ok {X : gX} {F : Nat} {k18 : (Int32 × Int32 × gS) → Option (Int32 × gS)} {R : Int32 × gS} (H18 : ∀ s : Int32 × Int32 × gS, k18 s = some R → G X RX7 cX7_longer 4 (some .int) 4 (some (.int R.1)) R.2 18 [(0, .ref (X.1 + 0)), (1, .int s.1), (2, .int s.2.1)] [] s.2.2) {x1 : Int32} {x2 : Int32} {S : gS} (h : bX7_longer_18 F k18 x1 x2 S = some R) : G X RX7 cX7_longer 4 (some .int) 4 (some (.int R.1)) R.2 18 [(0, .ref (X.1 + 0)), (1, .int x1), (2, .int x2)] [] S := by
  unfold bX7_longer_18 at h
  refine g_iload_n dX7_longer_18 2 rfl rfl ?_
  refine g_aload_n dX7_longer_19 0 rfl rfl ?_
  refine g_getr dX7_longer_20 lk_X7_26 sf_0_2 ?_
  refine g_geti dX7_longer_23 lk_X7_155 sf_9_2 ?_
  refine g_icmp_ge (tgt := 96) dX7_longer_26 (by decide) (fun hc1 => ?_) (fun hc1 => ?_)
  · replace h := git hc1 h
    refine g_iload_n dX7_longer_96 1 rfl rfl ?_
    cases h
    exact g_iret dX7_longer_97 rfl
  · replace h := gif hc1 h
    refine g_aload_n dX7_longer_29 0 rfl rfl ?_
    refine g_getr dX7_longer_30 lk_X7_42 sf_0_4 ?_
    refine g_geti dX7_longer_33 lk_X7_203 sf_16_5 ?_
    obtain ⟨v2, ev2, h⟩ := gle h
    refine g_istore_n (lv' := [(3, .int v2), (0, .ref (X.1 + 0)), (1, .int x1), (2, .int x2)]) dX7_longer_36 ev2 rfl (by decide) rfl ?_
    refine g_aload_n dX7_longer_37 1 rfl rfl ?_
    refine g_getr dX7_longer_38 lk_X7_42 sf_0_4 ?_
    refine g_aload_n dX7_longer_41 1 rfl rfl ?_
    refine g_getr dX7_longer_42 lk_X7_26 sf_0_2 ?_
    refine g_getr dX7_longer_45 lk_X7_176 sf_9_0 ?_
    refine g_iload_n dX7_longer_48 3 rfl rfl ?_
    obtain ⟨hv3, h⟩ := gchk h
    refine g_iald dX7_longer_49 sa_10 hv3 ?_
    refine g_aload_n dX7_longer_50 1 rfl rfl ?_
    refine g_getr dX7_longer_51 lk_X7_26 sf_0_2 ?_
    refine g_getr dX7_longer_54 lk_X7_179 sf_9_1 ?_
    refine g_iload_n dX7_longer_57 3 rfl rfl ?_
    obtain ⟨hv4, h⟩ := gchk h
    refine g_iald dX7_longer_58 sa_11 hv4 ?_
    refine g_aload_n dX7_longer_59 1 rfl rfl ?_
    refine g_getr dX7_longer_60 lk_X7_10 sf_0_0 ?_
    refine g_getj dX7_longer_63 lk_X7_158 sf_1_4 ?_
    obtain ⟨q5, hq5, h⟩ := gb h
    refine g_callVi [.int (g_I S 10 (x2).toNatClampNeg), .int (g_I S 11 (x2).toNatClampNeg), .long (g_J S 1 4)] [] dX7_longer_66 mk_X7_182 so_16 (ctX3_go out_16 hq5) rfl (by decide) rfl (Nat.le_of_ble_eq_true rfl) ?_
    refine g_if_eq (tgt := 90) dX7_longer_69 (by decide) (fun hc6 => ?_) (fun hc6 => ?_)
    · replace h := git hc6 h
      refine g_sub [1, 2, 3] rfl ?_
      exact bX7_longer_90_ok H18 h
    · replace h := gif hc6 h
      refine g_iload_n dX7_longer_72 2 rfl rfl ?_
      refine g_aload_n dX7_longer_73 1 rfl rfl ?_
      refine g_getr dX7_longer_74 lk_X7_42 sf_0_4 ?_
      refine g_geti dX7_longer_77 lk_X7_203 sf_16_5 ?_
      refine g_iload_n dX7_longer_80 0 rfl rfl ?_
      refine g_isub dX7_longer_81 ?_
      refine g_aload_n dX7_longer_82 1 rfl rfl ?_
      refine g_iload_n dX7_longer_83 3 rfl rfl ?_
      obtain ⟨q7, hq7, h⟩ := gb h
      refine g_callVi [.int x2] [.int ((g_I q5.2 16 5) - v2), .int x1] dX7_longer_84 mk_X7_200 so_0 (ctX7_fewestSteps hq7) rfl (by decide) rfl (Nat.le_of_ble_eq_true rfl) ?_
      refine g_isub dX7_longer_87 ?_
      refine g_iadd dX7_longer_88 ?_
      obtain ⟨v8, ev8, h⟩ := gle h
      refine g_istore_n (lv' := [(1, .int v8), (3, .int v2), (0, .ref (X.1 + 0)), (2, .int x2)]) dX7_longer_89 ev8 rfl (by decide) rfl ?_
      refine g_sub [2, 0, 3] rfl ?_
      exact bX7_longer_90_ok H18 h
noncomputable def bX7_longer_18l (F : Nat) : Nat → (Int32 × Int32 × gS) → Option (Int32 × gS) := g_fix (fun k18 s => bX7_longer_18 F k18 s.1 s.2.1 s.2.2)
theorem bX7_longer_18l_ok {X : gX} {F : Nat} {R : Int32 × gS} : ∀ (n : Nat) (s : Int32 × Int32 × gS), bX7_longer_18l F n s = some R → G X RX7 cX7_longer 4 (some .int) 4 (some (.int R.1)) R.2 18 [(0, .ref (X.1 + 0)), (1, .int s.1), (2, .int s.2.1)] [] s.2.2 := by
  intro n
  induction n with
  | zero => intro s h; cases h
  | succ n ih => intro s h; exact bX7_longer_18_ok (F := F) ih h
noncomputable def fX7_longer (F : Nat) (S : gS) : Option (Int32 × gS) := (fX3_begin F 16 S).bind (fun q1 : gS => bX7_longer_18l F F ((0 : Int32), (0 : Int32), q1))
set_option maxRecDepth 20000 in
theorem fX7_longer_ok {X : gX} {F : Nat} {R : Int32 × gS} {S : gS} (h : fX7_longer F S = some R) : G X RX7 cX7_longer 4 (some .int) 4 (some (.int R.1)) R.2 0 [(0, .ref (X.1 + 0))] [] S := by
  unfold fX7_longer at h
  refine g_aload_n dX7_longer_0 0 rfl rfl ?_
  refine g_getr dX7_longer_1 lk_X7_42 sf_0_4 ?_
  refine g_aload_n dX7_longer_4 0 rfl rfl ?_
  refine g_getr dX7_longer_5 lk_X7_19 sf_0_1 ?_
  refine g_getr dX7_longer_8 lk_X7_98 sf_3_0 ?_
  obtain ⟨q1, hq1, h⟩ := gb h
  refine g_callVv [.ref (X.1 + 4)] [] dX7_longer_11 mk_X7_172 so_16 (ctX3_begin out_16 hq1) rfl (by decide) rfl (Nat.le_of_ble_eq_true rfl) ?_
  refine g_iconst (v := 0) dX7_longer_14 (by decide) ?_
  refine g_istore_n (lv' := [(1, .int (0 : Int32)), (0, .ref (X.1 + 0))]) dX7_longer_15 rfl rfl (by decide) rfl ?_
  refine g_iconst (v := 0) dX7_longer_16 (by decide) ?_
  refine g_istore_n (lv' := [(2, .int (0 : Int32)), (1, .int (0 : Int32)), (0, .ref (X.1 + 0))]) dX7_longer_17 rfl rfl (by decide) rfl ?_
  refine g_sub [2, 1, 0] rfl ?_
  exact bX7_longer_18l_ok F ((0 : Int32), (0 : Int32), q1) h
theorem ctX7_longer {X : gX} {F : Nat} {R : Int32 × gS} {S : gS} (h : fX7_longer F S = some R) : g_C X yX7_longer cX7_longer 4 (some .int) 4 [.ref (X.1 + 0)] S (some (.int R.1)) R.2 :=
  g_met (by decide) (Nat.le_of_ble_eq_true rfl) (fX7_longer_ok h)
noncomputable def fX7_orders (F : Nat) (a0 : Int32) (S : gS) : Option (Int32 × gS) := if a0 < 0 then (some ((-2 : Int32), S)) else (if a0 ≤ (1 : Int32) then (if (g_I S 9 2) ≤ (5 : Int32) then ((fX2_tryAll_n F S).bind (fun q4 : gS => if a0 = 0 then (some ((g_I q4 19 6), q4)) else (some ((g_I q4 19 7), q4)))) else (some ((-4 : Int32), S))) else (some ((-2 : Int32), S)))
set_option maxRecDepth 20000 in
theorem fX7_orders_ok {X : gX} {F : Nat} {R : Int32 × gS} {a0 : Int32} {S : gS} (h : fX7_orders F a0 S = some R) : G X RX7 cX7_orders 2 (some .int) 6 (some (.int R.1)) R.2 0 [(0, .ref (X.1 + 0)), (1, .int a0)] [] S := by
  unfold fX7_orders at h
  refine g_iload_n dX7_orders_0 1 rfl rfl ?_
  refine g_if_lt (tgt := 9) dX7_orders_1 (by decide) (fun hc1 => ?_) (fun hc1 => ?_)
  · replace h := git hc1 h
    refine g_bipush (v := -2) dX7_orders_9 (by decide) ?_
    cases h
    exact g_iret dX7_orders_11 rfl
  · replace h := gif hc1 h
    refine g_iload_n dX7_orders_4 1 rfl rfl ?_
    refine g_iconst (v := 1) dX7_orders_5 (by decide) ?_
    refine g_icmp_le (tgt := 12) dX7_orders_6 (by decide) (fun hc2 => ?_) (fun hc2 => ?_)
    · replace h := git hc2 h
      refine g_aload_n dX7_orders_12 0 rfl rfl ?_
      refine g_getr dX7_orders_13 lk_X7_26 sf_0_2 ?_
      refine g_geti dX7_orders_16 lk_X7_155 sf_9_2 ?_
      refine g_iconst (v := 5) dX7_orders_19 (by decide) ?_
      refine g_icmp_le (tgt := 26) dX7_orders_20 (by decide) (fun hc3 => ?_) (fun hc3 => ?_)
      · replace h := git hc3 h
        refine g_aload_n dX7_orders_26 0 rfl rfl ?_
        refine g_getr dX7_orders_27 lk_X7_51 sf_0_5 ?_
        refine g_aload_n dX7_orders_30 0 rfl rfl ?_
        refine g_getr dX7_orders_31 lk_X7_19 sf_0_1 ?_
        refine g_getr dX7_orders_34 lk_X7_98 sf_3_0 ?_
        refine g_null dX7_orders_37 ?_
        obtain ⟨q4, hq4, h⟩ := gb h
        refine g_callVv [.ref (X.1 + 4), .null] [] dX7_orders_38 mk_X7_206 so_19 (ctX2_tryAll_n hq4) rfl (by decide) rfl (Nat.le_of_ble_eq_true rfl) ?_
        refine g_iload_n dX7_orders_41 1 rfl rfl ?_
        refine g_if_ne (tgt := 55) dX7_orders_42 (by decide) (fun hc5 => ?_) (fun hc5 => ?_)
        · replace h := gif hc5 h
          refine g_aload_n dX7_orders_55 0 rfl rfl ?_
          refine g_getr dX7_orders_56 lk_X7_51 sf_0_5 ?_
          refine g_geti dX7_orders_59 lk_X7_213 sf_19_7 ?_
          cases h
          exact g_iret dX7_orders_62 rfl
        · replace h := git hc5 h
          refine g_aload_n dX7_orders_45 0 rfl rfl ?_
          refine g_getr dX7_orders_46 lk_X7_51 sf_0_5 ?_
          refine g_geti dX7_orders_49 lk_X7_210 sf_19_6 ?_
          refine g_goto (tgt := 62) dX7_orders_52 (by decide) ?_
          cases h
          exact g_iret dX7_orders_62 rfl
      · replace h := gif hc3 h
        refine g_bipush (v := -4) dX7_orders_23 (by decide) ?_
        cases h
        exact g_iret dX7_orders_25 rfl
    · replace h := gif hc2 h
      refine g_bipush (v := -2) dX7_orders_9 (by decide) ?_
      cases h
      exact g_iret dX7_orders_11 rfl
theorem ctX7_orders {X : gX} {F : Nat} {R : Int32 × gS} {a0 : Int32} {S : gS} (h : fX7_orders F a0 S = some R) : g_C X yX7_orders cX7_orders 2 (some .int) 6 [.ref (X.1 + 0), .int a0] S (some (.int R.1)) R.2 :=
  g_met (by decide) (Nat.le_of_ble_eq_true rfl) (fX7_orders_ok h)
noncomputable def fX7_order (F : Nat) (a0 : Int32) (S : gS) : Option (Int32 × gS) := if 0 ≤ a0 then (if (g_I S 9 2) ≤ (5 : Int32) then (if a0 < (g_I S 9 2) then ((fX2_tryAll_n F S).bind (fun q4 : gS => g_chk a0 5 (some ((g_I q4 22 (a0).toNatClampNeg), q4)))) else (some ((-2 : Int32), S))) else (some ((-4 : Int32), S))) else (some ((-2 : Int32), S))
set_option maxRecDepth 20000 in
theorem fX7_order_ok {X : gX} {F : Nat} {R : Int32 × gS} {a0 : Int32} {S : gS} (h : fX7_order F a0 S = some R) : G X RX7 cX7_order 2 (some .int) 6 (some (.int R.1)) R.2 0 [(0, .ref (X.1 + 0)), (1, .int a0)] [] S := by
  unfold fX7_order at h
  refine g_iload_n dX7_order_0 1 rfl rfl ?_
  refine g_if_ge (tgt := 7) dX7_order_1 (by decide) (fun hc1 => ?_) (fun hc1 => ?_)
  · replace h := git hc1 h
    refine g_aload_n dX7_order_7 0 rfl rfl ?_
    refine g_getr dX7_order_8 lk_X7_26 sf_0_2 ?_
    refine g_geti dX7_order_11 lk_X7_155 sf_9_2 ?_
    refine g_iconst (v := 5) dX7_order_14 (by decide) ?_
    refine g_icmp_le (tgt := 21) dX7_order_15 (by decide) (fun hc2 => ?_) (fun hc2 => ?_)
    · replace h := git hc2 h
      refine g_iload_n dX7_order_21 1 rfl rfl ?_
      refine g_aload_n dX7_order_22 0 rfl rfl ?_
      refine g_getr dX7_order_23 lk_X7_26 sf_0_2 ?_
      refine g_geti dX7_order_26 lk_X7_155 sf_9_2 ?_
      refine g_icmp_lt (tgt := 35) dX7_order_29 (by decide) (fun hc3 => ?_) (fun hc3 => ?_)
      · replace h := git hc3 h
        refine g_aload_n dX7_order_35 0 rfl rfl ?_
        refine g_getr dX7_order_36 lk_X7_51 sf_0_5 ?_
        refine g_aload_n dX7_order_39 0 rfl rfl ?_
        refine g_getr dX7_order_40 lk_X7_19 sf_0_1 ?_
        refine g_getr dX7_order_43 lk_X7_98 sf_3_0 ?_
        refine g_null dX7_order_46 ?_
        obtain ⟨q4, hq4, h⟩ := gb h
        refine g_callVv [.ref (X.1 + 4), .null] [] dX7_order_47 mk_X7_206 so_19 (ctX2_tryAll_n hq4) rfl (by decide) rfl (Nat.le_of_ble_eq_true rfl) ?_
        refine g_aload_n dX7_order_50 0 rfl rfl ?_
        refine g_getr dX7_order_51 lk_X7_51 sf_0_5 ?_
        refine g_getr dX7_order_54 lk_X7_216 sf_19_4 ?_
        refine g_iload_n dX7_order_57 1 rfl rfl ?_
        obtain ⟨hv5, h⟩ := gchk h
        refine g_iald dX7_order_58 sa_22 hv5 ?_
        cases h
        exact g_iret dX7_order_59 rfl
      · replace h := gif hc3 h
        refine g_bipush (v := -2) dX7_order_32 (by decide) ?_
        cases h
        exact g_iret dX7_order_34 rfl
    · replace h := gif hc2 h
      refine g_bipush (v := -4) dX7_order_18 (by decide) ?_
      cases h
      exact g_iret dX7_order_20 rfl
  · replace h := gif hc1 h
    refine g_bipush (v := -2) dX7_order_4 (by decide) ?_
    cases h
    exact g_iret dX7_order_6 rfl
theorem ctX7_order {X : gX} {F : Nat} {R : Int32 × gS} {a0 : Int32} {S : gS} (h : fX7_order F a0 S = some R) : g_C X yX7_order cX7_order 2 (some .int) 6 [.ref (X.1 + 0), .int a0] S (some (.int R.1)) R.2 :=
  g_met (by decide) (Nat.le_of_ble_eq_true rfl) (fX7_order_ok h)
noncomputable def bX7_seekFirst_67 (F : Nat) (k12 : (Int32 × gS) → Option (gS)) (x1 : Int32) (S : gS) : Option (gS) := gl (x1 + 1) (fun v1 : Int32 => k12 (v1, S))
set_option maxRecDepth 20000 in
theorem bX7_seekFirst_67_ok {X : gX} {F : Nat} {k12 : (Int32 × gS) → Option (gS)} {R : gS} (H12 : ∀ s : Int32 × gS, k12 s = some R → G X RX7 cX7_seekFirst 2 none 5 none R 12 [(0, .ref (X.1 + 0)), (1, .int s.1)] [] s.2) {x1 : Int32} {S : gS} (h : bX7_seekFirst_67 F k12 x1 S = some R) : G X RX7 cX7_seekFirst 2 none 5 none R 67 [(0, .ref (X.1 + 0)), (1, .int x1)] [] S := by
  unfold bX7_seekFirst_67 at h
  obtain ⟨v1, ev1, h⟩ := gle h
  refine g_iinc (q := 1) (v := v1) (lv' := [(1, .int v1), (0, .ref (X.1 + 0))]) dX7_seekFirst_67 rfl (by rw [← ev1]; rfl) (by decide) rfl ?_
  refine g_goto (tgt := 12) dX7_seekFirst_70 (by decide) ?_
  refine g_sub [1, 0] rfl ?_
  exact H12 (v1, S) h
noncomputable def bX7_seekFirst_51 (F : Nat) (k12 : (Int32 × gS) → Option (gS)) (x1 : Int32) (S : gS) : Option (gS) := gl (g_setI S 0 8 x1) (fun S1 : gS => gl (g_setI S1 0 9 (g_I S1 16 4)) (fun S2 : gS => bX7_seekFirst_67 F k12 x1 S2))
set_option maxRecDepth 20000 in
theorem bX7_seekFirst_51_ok {X : gX} {F : Nat} {k12 : (Int32 × gS) → Option (gS)} {R : gS} (H12 : ∀ s : Int32 × gS, k12 s = some R → G X RX7 cX7_seekFirst 2 none 5 none R 12 [(0, .ref (X.1 + 0)), (1, .int s.1)] [] s.2) {x1 : Int32} {S : gS} (h : bX7_seekFirst_51 F k12 x1 S = some R) : G X RX7 cX7_seekFirst 2 none 5 none R 51 [(0, .ref (X.1 + 0)), (1, .int x1)] [] S := by
  unfold bX7_seekFirst_51 at h
  refine g_aload_n dX7_seekFirst_51 0 rfl rfl ?_
  refine g_iload_n dX7_seekFirst_52 1 rfl rfl ?_
  obtain ⟨S1, eS1, h⟩ := gle h
  refine g_puti dX7_seekFirst_53 lp_X7_65 sf_0_8 eS1 ?_
  refine g_aload_n dX7_seekFirst_56 0 rfl rfl ?_
  refine g_aload_n dX7_seekFirst_57 0 rfl rfl ?_
  refine g_getr dX7_seekFirst_58 lk_X7_42 sf_0_4 ?_
  refine g_geti dX7_seekFirst_61 lk_X7_190 sf_16_4 ?_
  obtain ⟨S2, eS2, h⟩ := gle h
  refine g_puti dX7_seekFirst_64 lp_X7_68 sf_0_9 eS2 ?_
  exact bX7_seekFirst_67_ok H12 h
noncomputable def bX7_seekFirst_12 (F : Nat) (k12 : (Int32 × gS) → Option (gS)) (x1 : Int32) (S : gS) : Option (gS) := if (g_I S 9 2) ≤ x1 then (some S) else ((fX7_tryMorning F x1 (-1 : Int32) S).bind (fun q2 : gS => if (g_I q2 0 8) = (-1 : Int32) then (bX7_seekFirst_51 F k12 x1 q2) else (if (g_I q2 0 9) ≤ (g_I q2 16 4) then (bX7_seekFirst_67 F k12 x1 q2) else (bX7_seekFirst_51 F k12 x1 q2))))
set_option maxRecDepth 20000 in
theorem bX7_seekFirst_12_ok {X : gX} {F : Nat} {k12 : (Int32 × gS) → Option (gS)} {R : gS} (H12 : ∀ s : Int32 × gS, k12 s = some R → G X RX7 cX7_seekFirst 2 none 5 none R 12 [(0, .ref (X.1 + 0)), (1, .int s.1)] [] s.2) {x1 : Int32} {S : gS} (h : bX7_seekFirst_12 F k12 x1 S = some R) : G X RX7 cX7_seekFirst 2 none 5 none R 12 [(0, .ref (X.1 + 0)), (1, .int x1)] [] S := by
  unfold bX7_seekFirst_12 at h
  refine g_iload_n dX7_seekFirst_12 1 rfl rfl ?_
  refine g_aload_n dX7_seekFirst_13 0 rfl rfl ?_
  refine g_getr dX7_seekFirst_14 lk_X7_26 sf_0_2 ?_
  refine g_geti dX7_seekFirst_17 lk_X7_155 sf_9_2 ?_
  refine g_icmp_ge (tgt := 73) dX7_seekFirst_20 (by decide) (fun hc1 => ?_) (fun hc1 => ?_)
  · replace h := git hc1 h
    cases h
    exact g_vret dX7_seekFirst_73 rfl
  · replace h := gif hc1 h
    refine g_aload_n dX7_seekFirst_23 0 rfl rfl ?_
    refine g_iload_n dX7_seekFirst_24 1 rfl rfl ?_
    refine g_iconst (v := -1) dX7_seekFirst_25 (by decide) ?_
    obtain ⟨q2, hq2, h⟩ := gb h
    refine g_callVv [.int x1, .int (-1 : Int32)] [] dX7_seekFirst_26 mk_X7_193 so_0 (ctX7_tryMorning hq2) rfl (by decide) rfl (Nat.le_of_ble_eq_true rfl) ?_
    refine g_aload_n dX7_seekFirst_29 0 rfl rfl ?_
    refine g_geti dX7_seekFirst_30 lk_X7_65 sf_0_8 ?_
    refine g_iconst (v := -1) dX7_seekFirst_33 (by decide) ?_
    refine g_icmp_eq (tgt := 51) dX7_seekFirst_34 (by decide) (fun hc3 => ?_) (fun hc3 => ?_)
    · replace h := git hc3 h
      exact bX7_seekFirst_51_ok H12 h
    · replace h := gif hc3 h
      refine g_aload_n dX7_seekFirst_37 0 rfl rfl ?_
      refine g_getr dX7_seekFirst_38 lk_X7_42 sf_0_4 ?_
      refine g_geti dX7_seekFirst_41 lk_X7_190 sf_16_4 ?_
      refine g_aload_n dX7_seekFirst_44 0 rfl rfl ?_
      refine g_geti dX7_seekFirst_45 lk_X7_68 sf_0_9 ?_
      refine g_icmp_ge (tgt := 67) dX7_seekFirst_48 (by decide) (fun hc4 => ?_) (fun hc4 => ?_)
      · replace h := git hc4 h
        exact bX7_seekFirst_67_ok H12 h
      · replace h := gif hc4 h
        exact bX7_seekFirst_51_ok H12 h
noncomputable def bX7_seekFirst_12l (F : Nat) : Nat → (Int32 × gS) → Option (gS) := g_fix (fun k12 s => bX7_seekFirst_12 F k12 s.1 s.2)
theorem bX7_seekFirst_12l_ok {X : gX} {F : Nat} {R : gS} : ∀ (n : Nat) (s : Int32 × gS), bX7_seekFirst_12l F n s = some R → G X RX7 cX7_seekFirst 2 none 5 none R 12 [(0, .ref (X.1 + 0)), (1, .int s.1)] [] s.2 := by
  intro n
  induction n with
  | zero => intro s h; cases h
  | succ n ih => intro s h; exact bX7_seekFirst_12_ok (F := F) ih h
noncomputable def fX7_seekFirst (F : Nat) (S : gS) : Option (gS) := gl (g_setI S 0 8 (-1 : Int32)) (fun S1 : gS => gl (g_setI S1 0 9 (0 : Int32)) (fun S2 : gS => bX7_seekFirst_12l F F ((0 : Int32), S2)))
set_option maxRecDepth 20000 in
theorem fX7_seekFirst_ok {X : gX} {F : Nat} {R : gS} {S : gS} (h : fX7_seekFirst F S = some R) : G X RX7 cX7_seekFirst 2 none 5 none R 0 [(0, .ref (X.1 + 0))] [] S := by
  unfold fX7_seekFirst at h
  refine g_aload_n dX7_seekFirst_0 0 rfl rfl ?_
  refine g_iconst (v := -1) dX7_seekFirst_1 (by decide) ?_
  obtain ⟨S1, eS1, h⟩ := gle h
  refine g_puti dX7_seekFirst_2 lp_X7_65 sf_0_8 eS1 ?_
  refine g_aload_n dX7_seekFirst_5 0 rfl rfl ?_
  refine g_iconst (v := 0) dX7_seekFirst_6 (by decide) ?_
  obtain ⟨S2, eS2, h⟩ := gle h
  refine g_puti dX7_seekFirst_7 lp_X7_68 sf_0_9 eS2 ?_
  refine g_iconst (v := 0) dX7_seekFirst_10 (by decide) ?_
  refine g_istore_n (lv' := [(1, .int (0 : Int32)), (0, .ref (X.1 + 0))]) dX7_seekFirst_11 rfl rfl (by decide) rfl ?_
  refine g_sub [1, 0] rfl ?_
  exact bX7_seekFirst_12l_ok F ((0 : Int32), S2) h
theorem ctX7_seekFirst {X : gX} {F : Nat} {R : gS} {S : gS} (h : fX7_seekFirst F S = some R) : g_C X yX7_seekFirst cX7_seekFirst 2 none 5 [.ref (X.1 + 0)] S none R :=
  g_met (by decide) (Nat.le_of_ble_eq_true rfl) (fX7_seekFirst_ok h)
noncomputable def fX7_first (F : Nat) (a0 : Int32) (S : gS) : Option (Int32 × gS) := if a0 < 0 then (some ((-2 : Int32), S)) else (if a0 ≤ (1 : Int32) then (if (g_I S 9 2) = 0 then (some ((-3 : Int32), S)) else ((fX7_seekFirst F S).bind (fun q4 : gS => if a0 = 0 then (some ((g_I q4 0 8), q4)) else (some ((g_I q4 0 9), q4))))) else (some ((-2 : Int32), S)))
set_option maxRecDepth 20000 in
theorem fX7_first_ok {X : gX} {F : Nat} {R : Int32 × gS} {a0 : Int32} {S : gS} (h : fX7_first F a0 S = some R) : G X RX7 cX7_first 2 (some .int) 6 (some (.int R.1)) R.2 0 [(0, .ref (X.1 + 0)), (1, .int a0)] [] S := by
  unfold fX7_first at h
  refine g_iload_n dX7_first_0 1 rfl rfl ?_
  refine g_if_lt (tgt := 9) dX7_first_1 (by decide) (fun hc1 => ?_) (fun hc1 => ?_)
  · replace h := git hc1 h
    refine g_bipush (v := -2) dX7_first_9 (by decide) ?_
    cases h
    exact g_iret dX7_first_11 rfl
  · replace h := gif hc1 h
    refine g_iload_n dX7_first_4 1 rfl rfl ?_
    refine g_iconst (v := 1) dX7_first_5 (by decide) ?_
    refine g_icmp_le (tgt := 12) dX7_first_6 (by decide) (fun hc2 => ?_) (fun hc2 => ?_)
    · replace h := git hc2 h
      refine g_aload_n dX7_first_12 0 rfl rfl ?_
      refine g_getr dX7_first_13 lk_X7_26 sf_0_2 ?_
      refine g_geti dX7_first_16 lk_X7_155 sf_9_2 ?_
      refine g_if_ne (tgt := 25) dX7_first_19 (by decide) (fun hc3 => ?_) (fun hc3 => ?_)
      · replace h := gif hc3 h
        refine g_aload_n dX7_first_25 0 rfl rfl ?_
        obtain ⟨q4, hq4, h⟩ := gb h
        refine g_callVv [] [] dX7_first_26 mk_X7_219 so_0 (ctX7_seekFirst hq4) rfl (by decide) rfl (Nat.le_of_ble_eq_true rfl) ?_
        refine g_iload_n dX7_first_29 1 rfl rfl ?_
        refine g_if_ne (tgt := 40) dX7_first_30 (by decide) (fun hc5 => ?_) (fun hc5 => ?_)
        · replace h := gif hc5 h
          refine g_aload_n dX7_first_40 0 rfl rfl ?_
          refine g_geti dX7_first_41 lk_X7_68 sf_0_9 ?_
          cases h
          exact g_iret dX7_first_44 rfl
        · replace h := git hc5 h
          refine g_aload_n dX7_first_33 0 rfl rfl ?_
          refine g_geti dX7_first_34 lk_X7_65 sf_0_8 ?_
          refine g_goto (tgt := 44) dX7_first_37 (by decide) ?_
          cases h
          exact g_iret dX7_first_44 rfl
      · replace h := git hc3 h
        refine g_bipush (v := -3) dX7_first_22 (by decide) ?_
        cases h
        exact g_iret dX7_first_24 rfl
    · replace h := gif hc2 h
      refine g_bipush (v := -2) dX7_first_9 (by decide) ?_
      cases h
      exact g_iret dX7_first_11 rfl
theorem ctX7_first {X : gX} {F : Nat} {R : Int32 × gS} {a0 : Int32} {S : gS} (h : fX7_first F a0 S = some R) : g_C X yX7_first cX7_first 2 (some .int) 6 [.ref (X.1 + 0), .int a0] S (some (.int R.1)) R.2 :=
  g_met (by decide) (Nat.le_of_ble_eq_true rfl) (fX7_first_ok h)
noncomputable def bX7_seekYard_101 (F : Nat) (k26 : (Int32 × Int32 × gS) → Option (gS)) (x1 : Int32) (x2 : Int32) (S : gS) : Option (gS) := gl (x2 + 1) (fun v1 : Int32 => k26 (x1, v1, S))
set_option maxRecDepth 20000 in
theorem bX7_seekYard_101_ok {X : gX} {F : Nat} {k26 : (Int32 × Int32 × gS) → Option (gS)} {R : gS} (H26 : ∀ s : Int32 × Int32 × gS, k26 s = some R → G X RX7 cX7_seekYard 3 none 5 none R 26 [(0, .ref (X.1 + 0)), (1, .int s.1), (2, .int s.2.1)] [] s.2.2) {x1 : Int32} {x2 : Int32} {S : gS} (h : bX7_seekYard_101 F k26 x1 x2 S = some R) : G X RX7 cX7_seekYard 3 none 5 none R 101 [(0, .ref (X.1 + 0)), (1, .int x1), (2, .int x2)] [] S := by
  unfold bX7_seekYard_101 at h
  obtain ⟨v1, ev1, h⟩ := gle h
  refine g_iinc (q := 2) (v := v1) (lv' := [(2, .int v1), (0, .ref (X.1 + 0)), (1, .int x1)]) dX7_seekYard_101 rfl (by rw [← ev1]; rfl) (by decide) rfl ?_
  refine g_goto (tgt := 26) dX7_seekYard_104 (by decide) ?_
  refine g_sub [1, 2, 0] rfl ?_
  exact H26 (x1, v1, S) h
noncomputable def bX7_seekYard_26 (F : Nat) (k26 : (Int32 × Int32 × gS) → Option (gS)) (x1 : Int32) (x2 : Int32) (S : gS) : Option (gS) := if (64 : Int32) ≤ x2 then (some S) else ((fX7_has F (g_J S 1 3) x2 S).bind (fun q2 : Int32 × gS => if q2.1 = 0 then (g_chk x2 64 (if (g_I q2.2 4 (x2).toNatClampNeg) = 0 then (bX7_seekYard_101 F k26 x1 x2 q2.2) else ((fX7_tryMorning F (-1 : Int32) x2 q2.2).bind (fun q6 : gS => if (x1 - (g_I q6 16 4)) ≤ (g_I q6 0 11) then (bX7_seekYard_101 F k26 x1 x2 q6) else (gl (g_setI q6 0 10 x2) (fun S8 : gS => gl (g_setI S8 0 11 (x1 - (g_I S8 16 4))) (fun S9 : gS => bX7_seekYard_101 F k26 x1 x2 S9))))))) else (bX7_seekYard_101 F k26 x1 x2 q2.2)))
set_option maxRecDepth 20000 in
theorem bX7_seekYard_26_ok {X : gX} {F : Nat} {k26 : (Int32 × Int32 × gS) → Option (gS)} {R : gS} (H26 : ∀ s : Int32 × Int32 × gS, k26 s = some R → G X RX7 cX7_seekYard 3 none 5 none R 26 [(0, .ref (X.1 + 0)), (1, .int s.1), (2, .int s.2.1)] [] s.2.2) {x1 : Int32} {x2 : Int32} {S : gS} (h : bX7_seekYard_26 F k26 x1 x2 S = some R) : G X RX7 cX7_seekYard 3 none 5 none R 26 [(0, .ref (X.1 + 0)), (1, .int x1), (2, .int x2)] [] S := by
  unfold bX7_seekYard_26 at h
  refine g_iload_n dX7_seekYard_26 2 rfl rfl ?_
  refine g_bipush (v := 64) dX7_seekYard_27 (by decide) ?_
  refine g_icmp_ge (tgt := 107) dX7_seekYard_29 (by decide) (fun hc1 => ?_) (fun hc1 => ?_)
  · replace h := git hc1 h
    cases h
    exact g_vret dX7_seekYard_107 rfl
  · replace h := gif hc1 h
    refine g_aload_n dX7_seekYard_32 0 rfl rfl ?_
    refine g_getr dX7_seekYard_33 lk_X7_10 sf_0_0 ?_
    refine g_getj dX7_seekYard_36 lk_X7_111 sf_1_3 ?_
    refine g_iload_n dX7_seekYard_39 2 rfl rfl ?_
    obtain ⟨q2, hq2, h⟩ := gb h
    refine g_callSi [.long (g_J S 1 3), .int x2] [] dX7_seekYard_40 mk_X7_130 (ctX7_has hq2) rfl (by decide) rfl (Nat.le_of_ble_eq_true rfl) ?_
    refine g_if_ne (tgt := 101) dX7_seekYard_43 (by decide) (fun hc3 => ?_) (fun hc3 => ?_)
    · replace h := gif hc3 h
      exact bX7_seekYard_101_ok H26 h
    · replace h := git hc3 h
      refine g_aload_n dX7_seekYard_46 0 rfl rfl ?_
      refine g_getr dX7_seekYard_47 lk_X7_19 sf_0_1 ?_
      refine g_getr dX7_seekYard_50 lk_X7_98 sf_3_0 ?_
      refine g_iload_n dX7_seekYard_53 2 rfl rfl ?_
      obtain ⟨hv4, h⟩ := gchk h
      refine g_iald dX7_seekYard_54 sa_4 hv4 ?_
      refine g_if_ne (tgt := 61) dX7_seekYard_55 (by decide) (fun hc5 => ?_) (fun hc5 => ?_)
      · replace h := gif hc5 h
        refine g_aload_n dX7_seekYard_61 0 rfl rfl ?_
        refine g_iconst (v := -1) dX7_seekYard_62 (by decide) ?_
        refine g_iload_n dX7_seekYard_63 2 rfl rfl ?_
        obtain ⟨q6, hq6, h⟩ := gb h
        refine g_callVv [.int (-1 : Int32), .int x2] [] dX7_seekYard_64 mk_X7_193 so_0 (ctX7_tryMorning hq6) rfl (by decide) rfl (Nat.le_of_ble_eq_true rfl) ?_
        refine g_iload_n dX7_seekYard_67 1 rfl rfl ?_
        refine g_aload_n dX7_seekYard_68 0 rfl rfl ?_
        refine g_getr dX7_seekYard_69 lk_X7_42 sf_0_4 ?_
        refine g_geti dX7_seekYard_72 lk_X7_190 sf_16_4 ?_
        refine g_isub dX7_seekYard_75 ?_
        refine g_aload_n dX7_seekYard_76 0 rfl rfl ?_
        refine g_geti dX7_seekYard_77 lk_X7_74 sf_0_11 ?_
        refine g_icmp_le (tgt := 101) dX7_seekYard_80 (by decide) (fun hc7 => ?_) (fun hc7 => ?_)
        · replace h := git hc7 h
          exact bX7_seekYard_101_ok H26 h
        · replace h := gif hc7 h
          refine g_aload_n dX7_seekYard_83 0 rfl rfl ?_
          refine g_iload_n dX7_seekYard_84 2 rfl rfl ?_
          obtain ⟨S8, eS8, h⟩ := gle h
          refine g_puti dX7_seekYard_85 lp_X7_71 sf_0_10 eS8 ?_
          refine g_aload_n dX7_seekYard_88 0 rfl rfl ?_
          refine g_iload_n dX7_seekYard_89 1 rfl rfl ?_
          refine g_aload_n dX7_seekYard_90 0 rfl rfl ?_
          refine g_getr dX7_seekYard_91 lk_X7_42 sf_0_4 ?_
          refine g_geti dX7_seekYard_94 lk_X7_190 sf_16_4 ?_
          refine g_isub dX7_seekYard_97 ?_
          obtain ⟨S9, eS9, h⟩ := gle h
          refine g_puti dX7_seekYard_98 lp_X7_74 sf_0_11 eS9 ?_
          exact bX7_seekYard_101_ok H26 h
      · replace h := git hc5 h
        refine g_goto (tgt := 101) dX7_seekYard_58 (by decide) ?_
        exact bX7_seekYard_101_ok H26 h
noncomputable def bX7_seekYard_26l (F : Nat) : Nat → (Int32 × Int32 × gS) → Option (gS) := g_fix (fun k26 s => bX7_seekYard_26 F k26 s.1 s.2.1 s.2.2)
theorem bX7_seekYard_26l_ok {X : gX} {F : Nat} {R : gS} : ∀ (n : Nat) (s : Int32 × Int32 × gS), bX7_seekYard_26l F n s = some R → G X RX7 cX7_seekYard 3 none 5 none R 26 [(0, .ref (X.1 + 0)), (1, .int s.1), (2, .int s.2.1)] [] s.2.2 := by
  intro n
  induction n with
  | zero => intro s h; cases h
  | succ n ih => intro s h; exact bX7_seekYard_26_ok (F := F) ih h
noncomputable def fX7_seekYard (F : Nat) (S : gS) : Option (gS) := gl (g_setI S 0 10 (-1 : Int32)) (fun S1 : gS => gl (g_setI S1 0 11 (0 : Int32)) (fun S2 : gS => (fX7_tryMorning F (-1 : Int32) (-1 : Int32) S2).bind (fun q3 : gS => gl (g_I q3 16 4) (fun v4 : Int32 => bX7_seekYard_26l F F (v4, (0 : Int32), q3)))))
set_option maxRecDepth 20000 in
theorem fX7_seekYard_ok {X : gX} {F : Nat} {R : gS} {S : gS} (h : fX7_seekYard F S = some R) : G X RX7 cX7_seekYard 3 none 5 none R 0 [(0, .ref (X.1 + 0))] [] S := by
  unfold fX7_seekYard at h
  refine g_aload_n dX7_seekYard_0 0 rfl rfl ?_
  refine g_iconst (v := -1) dX7_seekYard_1 (by decide) ?_
  obtain ⟨S1, eS1, h⟩ := gle h
  refine g_puti dX7_seekYard_2 lp_X7_71 sf_0_10 eS1 ?_
  refine g_aload_n dX7_seekYard_5 0 rfl rfl ?_
  refine g_iconst (v := 0) dX7_seekYard_6 (by decide) ?_
  obtain ⟨S2, eS2, h⟩ := gle h
  refine g_puti dX7_seekYard_7 lp_X7_74 sf_0_11 eS2 ?_
  refine g_aload_n dX7_seekYard_10 0 rfl rfl ?_
  refine g_iconst (v := -1) dX7_seekYard_11 (by decide) ?_
  refine g_iconst (v := -1) dX7_seekYard_12 (by decide) ?_
  obtain ⟨q3, hq3, h⟩ := gb h
  refine g_callVv [.int (-1 : Int32), .int (-1 : Int32)] [] dX7_seekYard_13 mk_X7_193 so_0 (ctX7_tryMorning hq3) rfl (by decide) rfl (Nat.le_of_ble_eq_true rfl) ?_
  refine g_aload_n dX7_seekYard_16 0 rfl rfl ?_
  refine g_getr dX7_seekYard_17 lk_X7_42 sf_0_4 ?_
  refine g_geti dX7_seekYard_20 lk_X7_190 sf_16_4 ?_
  obtain ⟨v4, ev4, h⟩ := gle h
  refine g_istore_n (lv' := [(1, .int v4), (0, .ref (X.1 + 0))]) dX7_seekYard_23 ev4 rfl (by decide) rfl ?_
  refine g_iconst (v := 0) dX7_seekYard_24 (by decide) ?_
  refine g_istore_n (lv' := [(2, .int (0 : Int32)), (1, .int v4), (0, .ref (X.1 + 0))]) dX7_seekYard_25 rfl rfl (by decide) rfl ?_
  refine g_sub [2, 1, 0] rfl ?_
  exact bX7_seekYard_26l_ok F (v4, (0 : Int32), q3) h
theorem ctX7_seekYard {X : gX} {F : Nat} {R : gS} {S : gS} (h : fX7_seekYard F S = some R) : g_C X yX7_seekYard cX7_seekYard 3 none 5 [.ref (X.1 + 0)] S none R :=
  g_met (by decide) (Nat.le_of_ble_eq_true rfl) (fX7_seekYard_ok h)
noncomputable def fX7_yard (F : Nat) (a0 : Int32) (S : gS) : Option (Int32 × gS) := if a0 < 0 then (some ((-2 : Int32), S)) else (if a0 ≤ (1 : Int32) then ((fX7_seekYard F S).bind (fun q3 : gS => if a0 = 0 then (some ((g_I q3 0 10), q3)) else (some ((g_I q3 0 11), q3)))) else (some ((-2 : Int32), S)))
set_option maxRecDepth 20000 in
theorem fX7_yard_ok {X : gX} {F : Nat} {R : Int32 × gS} {a0 : Int32} {S : gS} (h : fX7_yard F a0 S = some R) : G X RX7 cX7_yard 2 (some .int) 6 (some (.int R.1)) R.2 0 [(0, .ref (X.1 + 0)), (1, .int a0)] [] S := by
  unfold fX7_yard at h
  refine g_iload_n dX7_yard_0 1 rfl rfl ?_
  refine g_if_lt (tgt := 9) dX7_yard_1 (by decide) (fun hc1 => ?_) (fun hc1 => ?_)
  · replace h := git hc1 h
    refine g_bipush (v := -2) dX7_yard_9 (by decide) ?_
    cases h
    exact g_iret dX7_yard_11 rfl
  · replace h := gif hc1 h
    refine g_iload_n dX7_yard_4 1 rfl rfl ?_
    refine g_iconst (v := 1) dX7_yard_5 (by decide) ?_
    refine g_icmp_le (tgt := 12) dX7_yard_6 (by decide) (fun hc2 => ?_) (fun hc2 => ?_)
    · replace h := git hc2 h
      refine g_aload_n dX7_yard_12 0 rfl rfl ?_
      obtain ⟨q3, hq3, h⟩ := gb h
      refine g_callVv [] [] dX7_yard_13 mk_X7_222 so_0 (ctX7_seekYard hq3) rfl (by decide) rfl (Nat.le_of_ble_eq_true rfl) ?_
      refine g_iload_n dX7_yard_16 1 rfl rfl ?_
      refine g_if_ne (tgt := 27) dX7_yard_17 (by decide) (fun hc4 => ?_) (fun hc4 => ?_)
      · replace h := gif hc4 h
        refine g_aload_n dX7_yard_27 0 rfl rfl ?_
        refine g_geti dX7_yard_28 lk_X7_74 sf_0_11 ?_
        cases h
        exact g_iret dX7_yard_31 rfl
      · replace h := git hc4 h
        refine g_aload_n dX7_yard_20 0 rfl rfl ?_
        refine g_geti dX7_yard_21 lk_X7_71 sf_0_10 ?_
        refine g_goto (tgt := 31) dX7_yard_24 (by decide) ?_
        cases h
        exact g_iret dX7_yard_31 rfl
    · replace h := gif hc2 h
      refine g_bipush (v := -2) dX7_yard_9 (by decide) ?_
      cases h
      exact g_iret dX7_yard_11 rfl
theorem ctX7_yard {X : gX} {F : Nat} {R : Int32 × gS} {a0 : Int32} {S : gS} (h : fX7_yard F a0 S = some R) : g_C X yX7_yard cX7_yard 2 (some .int) 6 [.ref (X.1 + 0), .int a0] S (some (.int R.1)) R.2 :=
  g_met (by decide) (Nat.le_of_ble_eq_true rfl) (fX7_yard_ok h)
noncomputable def fX7_refusedLong (F : Nat) (a0 : Int32) (S : gS) : Option (Int64 × gS) := some (((-9223372036854775808 : Int64) - (a0).toInt64), S)
set_option maxRecDepth 20000 in
theorem fX7_refusedLong_ok {X : gX} {F : Nat} {R : Int64 × gS} {a0 : Int32} {S : gS} (h : fX7_refusedLong F a0 S = some R) : G X RX7 cX7_refusedLong 1 (some .long) 0 (some (.long R.1)) R.2 0 [(0, .int a0)] [] S := by
  unfold fX7_refusedLong at h
  refine g_ldc2 dX7_refusedLong_0 ck_X7_348 ?_
  refine g_iload_n dX7_refusedLong_3 0 rfl rfl ?_
  refine g_i2l dX7_refusedLong_4 ?_
  refine g_lsub dX7_refusedLong_5 ?_
  cases h
  exact g_lret dX7_refusedLong_6 rfl
theorem ctX7_refusedLong {X : gX} {F : Nat} {R : Int64 × gS} {a0 : Int32} {S : gS} (h : fX7_refusedLong F a0 S = some R) : g_C X yX7_refusedLong cX7_refusedLong 1 (some .long) 0 [.int a0] S (some (.long R.1)) R.2 :=
  g_met (by decide) (Nat.le_of_ble_eq_true rfl) (fX7_refusedLong_ok h)
noncomputable def fX7_slipperiness (F : Nat) (a0 : Int32) (S : gS) : Option (Int32 × gS) := g_chk a0 64 (g_chk a0 64 (some (((g_I S 6 (a0).toNatClampNeg) * (g_I S 18 (a0).toNatClampNeg)), S)))
set_option maxRecDepth 20000 in
theorem fX7_slipperiness_ok {X : gX} {F : Nat} {R : Int32 × gS} {a0 : Int32} {S : gS} (h : fX7_slipperiness F a0 S = some R) : G X RX7 cX7_slipperiness 2 (some .int) 0 (some (.int R.1)) R.2 0 [(0, .ref (X.1 + 0)), (1, .int a0)] [] S := by
  unfold fX7_slipperiness at h
  refine g_aload_n dX7_slipperiness_0 0 rfl rfl ?_
  refine g_getr dX7_slipperiness_1 lk_X7_19 sf_0_1 ?_
  refine g_getr dX7_slipperiness_4 lk_X7_105 sf_3_2 ?_
  refine g_iload_n dX7_slipperiness_7 1 rfl rfl ?_
  obtain ⟨hv1, h⟩ := gchk h
  refine g_iald dX7_slipperiness_8 sa_6 hv1 ?_
  refine g_aload_n dX7_slipperiness_9 0 rfl rfl ?_
  refine g_getr dX7_slipperiness_10 lk_X7_42 sf_0_4 ?_
  refine g_getr dX7_slipperiness_13 lk_X7_291 sf_16_3 ?_
  refine g_iload_n dX7_slipperiness_16 1 rfl rfl ?_
  obtain ⟨hv2, h⟩ := gchk h
  refine g_iald dX7_slipperiness_17 sa_18 hv2 ?_
  refine g_imul dX7_slipperiness_18 ?_
  cases h
  exact g_iret dX7_slipperiness_19 rfl
theorem ctX7_slipperiness {X : gX} {F : Nat} {R : Int32 × gS} {a0 : Int32} {S : gS} (h : fX7_slipperiness F a0 S = some R) : g_C X yX7_slipperiness cX7_slipperiness 2 (some .int) 0 [.ref (X.1 + 0), .int a0] S (some (.int R.1)) R.2 :=
  g_met (by decide) (Nat.le_of_ble_eq_true rfl) (fX7_slipperiness_ok h)
noncomputable def bX7_mostSlippery_46 (F : Nat) (k8 : (Int64 × Int32 × Int32 × Int32 × gS) → Option (Int32 × gS)) (x1 : Int64) (x3 : Int32) (x4 : Int32) (x5 : Int32) (S : gS) : Option (Int32 × gS) := gl (x5 + 1) (fun v1 : Int32 => k8 (x1, x3, x4, v1, S))
set_option maxRecDepth 20000 in
theorem bX7_mostSlippery_46_ok {X : gX} {F : Nat} {k8 : (Int64 × Int32 × Int32 × Int32 × gS) → Option (Int32 × gS)} {R : Int32 × gS} (H8 : ∀ s : Int64 × Int32 × Int32 × Int32 × gS, k8 s = some R → G X RX7 cX7_mostSlippery 6 (some .int) 1 (some (.int R.1)) R.2 8 [(0, .ref (X.1 + 0)), (1, .long s.1), (3, .int s.2.1), (4, .int s.2.2.1), (5, .int s.2.2.2.1)] [] s.2.2.2.2) {x1 : Int64} {x3 : Int32} {x4 : Int32} {x5 : Int32} {S : gS} (h : bX7_mostSlippery_46 F k8 x1 x3 x4 x5 S = some R) : G X RX7 cX7_mostSlippery 6 (some .int) 1 (some (.int R.1)) R.2 46 [(0, .ref (X.1 + 0)), (1, .long x1), (3, .int x3), (4, .int x4), (5, .int x5)] [] S := by
  unfold bX7_mostSlippery_46 at h
  obtain ⟨v1, ev1, h⟩ := gle h
  refine g_iinc (q := 4) (v := v1) (lv' := [(5, .int v1), (0, .ref (X.1 + 0)), (1, .long x1), (3, .int x3), (4, .int x4)]) dX7_mostSlippery_46 rfl (by rw [← ev1]; rfl) (by decide) rfl ?_
  refine g_goto (tgt := 8) dX7_mostSlippery_49 (by decide) ?_
  refine g_sub [1, 2, 3, 4, 0] rfl ?_
  exact H8 (x1, x3, x4, v1, S) h
noncomputable def bX7_mostSlippery_8 (F : Nat) (k8 : (Int64 × Int32 × Int32 × Int32 × gS) → Option (Int32 × gS)) (x1 : Int64) (x3 : Int32) (x4 : Int32) (x5 : Int32) (S : gS) : Option (Int32 × gS) := if (64 : Int32) ≤ x5 then (some (x3, S)) else ((fX7_has F x1 x5 S).bind (fun q2 : Int32 × gS => if q2.1 = 0 then ((fX7_slipperiness F x5 q2.2).bind (fun q4 : Int32 × gS => if q4.1 ≤ x4 then (bX7_mostSlippery_46 F k8 x1 x3 x4 x5 q4.2) else ((fX7_slipperiness F x5 q4.2).bind (fun q6 : Int32 × gS => gl q6.1 (fun v7 : Int32 => bX7_mostSlippery_46 F k8 x1 x5 v7 x5 q6.2))))) else (bX7_mostSlippery_46 F k8 x1 x3 x4 x5 q2.2)))
set_option maxRecDepth 20000 in
theorem bX7_mostSlippery_8_ok {X : gX} {F : Nat} {k8 : (Int64 × Int32 × Int32 × Int32 × gS) → Option (Int32 × gS)} {R : Int32 × gS} (H8 : ∀ s : Int64 × Int32 × Int32 × Int32 × gS, k8 s = some R → G X RX7 cX7_mostSlippery 6 (some .int) 1 (some (.int R.1)) R.2 8 [(0, .ref (X.1 + 0)), (1, .long s.1), (3, .int s.2.1), (4, .int s.2.2.1), (5, .int s.2.2.2.1)] [] s.2.2.2.2) {x1 : Int64} {x3 : Int32} {x4 : Int32} {x5 : Int32} {S : gS} (h : bX7_mostSlippery_8 F k8 x1 x3 x4 x5 S = some R) : G X RX7 cX7_mostSlippery 6 (some .int) 1 (some (.int R.1)) R.2 8 [(0, .ref (X.1 + 0)), (1, .long x1), (3, .int x3), (4, .int x4), (5, .int x5)] [] S := by
  unfold bX7_mostSlippery_8 at h
  refine g_iload dX7_mostSlippery_8 4 rfl ?_
  refine g_bipush (v := 64) dX7_mostSlippery_10 (by decide) ?_
  refine g_icmp_ge (tgt := 52) dX7_mostSlippery_12 (by decide) (fun hc1 => ?_) (fun hc1 => ?_)
  · replace h := git hc1 h
    refine g_iload_n dX7_mostSlippery_52 2 rfl rfl ?_
    cases h
    exact g_iret dX7_mostSlippery_53 rfl
  · replace h := gif hc1 h
    refine g_lload_n dX7_mostSlippery_15 1 rfl rfl ?_
    refine g_iload dX7_mostSlippery_16 4 rfl ?_
    obtain ⟨q2, hq2, h⟩ := gb h
    refine g_callSi [.long x1, .int x5] [] dX7_mostSlippery_18 mk_X7_130 (ctX7_has hq2) rfl (by decide) rfl (Nat.le_of_ble_eq_true rfl) ?_
    refine g_if_ne (tgt := 46) dX7_mostSlippery_21 (by decide) (fun hc3 => ?_) (fun hc3 => ?_)
    · replace h := gif hc3 h
      exact bX7_mostSlippery_46_ok H8 h
    · replace h := git hc3 h
      refine g_aload_n dX7_mostSlippery_24 0 rfl rfl ?_
      refine g_iload dX7_mostSlippery_25 4 rfl ?_
      obtain ⟨q4, hq4, h⟩ := gb h
      refine g_callVi [.int x5] [] dX7_mostSlippery_27 mk_X7_345 so_0 (ctX7_slipperiness hq4) rfl (by decide) rfl (Nat.le_of_ble_eq_true rfl) ?_
      refine g_iload dX7_mostSlippery_30 3 rfl ?_
      refine g_icmp_le (tgt := 46) dX7_mostSlippery_32 (by decide) (fun hc5 => ?_) (fun hc5 => ?_)
      · replace h := git hc5 h
        exact bX7_mostSlippery_46_ok H8 h
      · replace h := gif hc5 h
        refine g_iload dX7_mostSlippery_35 4 rfl ?_
        refine g_istore_n (lv' := [(3, .int x5), (0, .ref (X.1 + 0)), (1, .long x1), (4, .int x4), (5, .int x5)]) dX7_mostSlippery_37 rfl rfl (by decide) rfl ?_
        refine g_aload_n dX7_mostSlippery_38 1 rfl rfl ?_
        refine g_iload dX7_mostSlippery_39 4 rfl ?_
        obtain ⟨q6, hq6, h⟩ := gb h
        refine g_callVi [.int x5] [] dX7_mostSlippery_41 mk_X7_345 so_0 (ctX7_slipperiness hq6) rfl (by decide) rfl (Nat.le_of_ble_eq_true rfl) ?_
        obtain ⟨v7, ev7, h⟩ := gle h
        refine g_istore (lv' := [(4, .int v7), (3, .int x5), (0, .ref (X.1 + 0)), (1, .long x1), (5, .int x5)]) dX7_mostSlippery_44 ev7 (by decide) rfl ?_
        refine g_sub [2, 3, 1, 0, 4] rfl ?_
        exact bX7_mostSlippery_46_ok H8 h
noncomputable def bX7_mostSlippery_8l (F : Nat) : Nat → (Int64 × Int32 × Int32 × Int32 × gS) → Option (Int32 × gS) := g_fix (fun k8 s => bX7_mostSlippery_8 F k8 s.1 s.2.1 s.2.2.1 s.2.2.2.1 s.2.2.2.2)
theorem bX7_mostSlippery_8l_ok {X : gX} {F : Nat} {R : Int32 × gS} : ∀ (n : Nat) (s : Int64 × Int32 × Int32 × Int32 × gS), bX7_mostSlippery_8l F n s = some R → G X RX7 cX7_mostSlippery 6 (some .int) 1 (some (.int R.1)) R.2 8 [(0, .ref (X.1 + 0)), (1, .long s.1), (3, .int s.2.1), (4, .int s.2.2.1), (5, .int s.2.2.2.1)] [] s.2.2.2.2 := by
  intro n
  induction n with
  | zero => intro s h; cases h
  | succ n ih => intro s h; exact bX7_mostSlippery_8_ok (F := F) ih h
noncomputable def fX7_mostSlippery (F : Nat) (a0 : Int64) (S : gS) : Option (Int32 × gS) := bX7_mostSlippery_8l F F (a0, (-1 : Int32), (0 : Int32), (0 : Int32), S)
set_option maxRecDepth 20000 in
theorem fX7_mostSlippery_ok {X : gX} {F : Nat} {R : Int32 × gS} {a0 : Int64} {S : gS} (h : fX7_mostSlippery F a0 S = some R) : G X RX7 cX7_mostSlippery 6 (some .int) 1 (some (.int R.1)) R.2 0 [(0, .ref (X.1 + 0)), (1, .long a0)] [] S := by
  unfold fX7_mostSlippery at h
  refine g_iconst (v := -1) dX7_mostSlippery_0 (by decide) ?_
  refine g_istore_n (lv' := [(3, .int (-1 : Int32)), (0, .ref (X.1 + 0)), (1, .long a0)]) dX7_mostSlippery_1 rfl rfl (by decide) rfl ?_
  refine g_iconst (v := 0) dX7_mostSlippery_2 (by decide) ?_
  refine g_istore (lv' := [(4, .int (0 : Int32)), (3, .int (-1 : Int32)), (0, .ref (X.1 + 0)), (1, .long a0)]) dX7_mostSlippery_3 rfl (by decide) rfl ?_
  refine g_iconst (v := 0) dX7_mostSlippery_5 (by decide) ?_
  refine g_istore (lv' := [(5, .int (0 : Int32)), (4, .int (0 : Int32)), (3, .int (-1 : Int32)), (0, .ref (X.1 + 0)), (1, .long a0)]) dX7_mostSlippery_6 rfl (by decide) rfl ?_
  refine g_sub [3, 4, 2, 1, 0] rfl ?_
  exact bX7_mostSlippery_8l_ok F (a0, (-1 : Int32), (0 : Int32), (0 : Int32), S) h
theorem ctX7_mostSlippery {X : gX} {F : Nat} {R : Int32 × gS} {a0 : Int64} {S : gS} (h : fX7_mostSlippery F a0 S = some R) : g_C X yX7_mostSlippery cX7_mostSlippery 6 (some .int) 1 [.ref (X.1 + 0), .long a0] S (some (.int R.1)) R.2 :=
  g_met (by decide) (Nat.le_of_ble_eq_true rfl) (fX7_mostSlippery_ok h)
noncomputable def bX7_slipperinessLeft_29 (F : Nat) (k29 : (Int32 × Int32 × Int64 × Int32 × gS) → Option (Int32 × gS)) (x1 : Int32) (x2 : Int32) (x3 : Int64) (x5 : Int32) (S : gS) : Option (Int32 × gS) := if x1 ≤ x5 then (some (x2, S)) else ((fX7_mostSlippery F x3 S).bind (fun q2 : Int32 × gS => gl q2.1 (fun v3 : Int32 => if v3 = (-1 : Int32) then (some (x2, q2.2)) else ((fX7_bit F v3 q2.2).bind (fun q5 : Int64 × gS => gl (x3 ||| q5.1) (fun v6 : Int64 => (fX7_slipperiness F v3 q5.2).bind (fun q7 : Int32 × gS => gl (x2 - q7.1) (fun v8 : Int32 => gl (x5 + 1) (fun v9 : Int32 => k29 (x1, v8, v6, v9, q7.2))))))))))
set_option maxRecDepth 20000 in
theorem bX7_slipperinessLeft_29_ok {X : gX} {F : Nat} {k29 : (Int32 × Int32 × Int64 × Int32 × gS) → Option (Int32 × gS)} {R : Int32 × gS} (H29 : ∀ s : Int32 × Int32 × Int64 × Int32 × gS, k29 s = some R → G X RX7 cX7_slipperinessLeft 7 (some .int) 2 (some (.int R.1)) R.2 29 [(0, .ref (X.1 + 0)), (1, .int s.1), (2, .int s.2.1), (3, .long s.2.2.1), (5, .int s.2.2.2.1)] [] s.2.2.2.2) {x1 : Int32} {x2 : Int32} {x3 : Int64} {x5 : Int32} {S : gS} (h : bX7_slipperinessLeft_29 F k29 x1 x2 x3 x5 S = some R) : G X RX7 cX7_slipperinessLeft 7 (some .int) 2 (some (.int R.1)) R.2 29 [(0, .ref (X.1 + 0)), (1, .int x1), (2, .int x2), (3, .long x3), (5, .int x5)] [] S := by
  unfold bX7_slipperinessLeft_29 at h
  refine g_iload dX7_slipperinessLeft_29 4 rfl ?_
  refine g_iload_n dX7_slipperinessLeft_31 1 rfl rfl ?_
  refine g_icmp_ge (tgt := 74) dX7_slipperinessLeft_32 (by decide) (fun hc1 => ?_) (fun hc1 => ?_)
  · replace h := git hc1 h
    refine g_iload_n dX7_slipperinessLeft_74 2 rfl rfl ?_
    cases h
    exact g_iret dX7_slipperinessLeft_75 rfl
  · replace h := gif hc1 h
    refine g_aload_n dX7_slipperinessLeft_35 0 rfl rfl ?_
    refine g_lload_n dX7_slipperinessLeft_36 3 rfl rfl ?_
    obtain ⟨q2, hq2, h⟩ := gb h
    refine g_callVi [.long x3] [] dX7_slipperinessLeft_37 mk_X7_229 so_0 (ctX7_mostSlippery hq2) rfl (by decide) rfl (Nat.le_of_ble_eq_true rfl) ?_
    obtain ⟨v3, ev3, h⟩ := gle h
    refine g_istore (lv' := [(6, .int v3), (0, .ref (X.1 + 0)), (1, .int x1), (2, .int x2), (3, .long x3), (5, .int x5)]) dX7_slipperinessLeft_40 ev3 (by decide) rfl ?_
    refine g_iload dX7_slipperinessLeft_42 0 rfl ?_
    refine g_iconst (v := -1) dX7_slipperinessLeft_44 (by decide) ?_
    refine g_icmp_ne (tgt := 51) dX7_slipperinessLeft_45 (by decide) (fun hc4 => ?_) (fun hc4 => ?_)
    · replace h := gif hc4 h
      refine g_lload_n dX7_slipperinessLeft_51 4 rfl rfl ?_
      refine g_iload dX7_slipperinessLeft_52 0 rfl ?_
      obtain ⟨q5, hq5, h⟩ := gb h
      refine g_callSl [.int v3] [.long x3] dX7_slipperinessLeft_54 mk_X7_233 (ctX7_bit hq5) rfl (by decide) rfl (Nat.le_of_ble_eq_true rfl) ?_
      refine g_lor dX7_slipperinessLeft_57 ?_
      obtain ⟨v6, ev6, h⟩ := gle h
      refine g_lstore_n (lv' := [(3, .long v6), (6, .int v3), (0, .ref (X.1 + 0)), (1, .int x1), (2, .int x2), (5, .int x5)]) dX7_slipperinessLeft_58 ev6 rfl (by decide) rfl ?_
      refine g_iload_n dX7_slipperinessLeft_59 4 rfl rfl ?_
      refine g_aload_n dX7_slipperinessLeft_60 2 rfl rfl ?_
      refine g_iload dX7_slipperinessLeft_61 1 rfl ?_
      obtain ⟨q7, hq7, h⟩ := gb h
      refine g_callVi [.int v3] [.int x2] dX7_slipperinessLeft_63 mk_X7_345 so_0 (ctX7_slipperiness hq7) rfl (by decide) rfl (Nat.le_of_ble_eq_true rfl) ?_
      refine g_isub dX7_slipperinessLeft_66 ?_
      obtain ⟨v8, ev8, h⟩ := gle h
      refine g_istore_n (lv' := [(2, .int v8), (3, .long v6), (6, .int v3), (0, .ref (X.1 + 0)), (1, .int x1), (5, .int x5)]) dX7_slipperinessLeft_67 ev8 rfl (by decide) rfl ?_
      obtain ⟨v9, ev9, h⟩ := gle h
      refine g_iinc (q := 5) (v := v9) (lv' := [(5, .int v9), (2, .int v8), (3, .long v6), (6, .int v3), (0, .ref (X.1 + 0)), (1, .int x1)]) dX7_slipperinessLeft_68 rfl (by rw [← ev9]; rfl) (by decide) rfl ?_
      refine g_goto (tgt := 29) dX7_slipperinessLeft_71 (by decide) ?_
      refine g_sub [4, 5, 1, 2, 0] rfl ?_
      exact H29 (x1, v8, v6, v9, q7.2) h
    · replace h := git hc4 h
      refine g_goto (tgt := 74) dX7_slipperinessLeft_48 (by decide) ?_
      refine g_iload_n dX7_slipperinessLeft_74 3 rfl rfl ?_
      cases h
      exact g_iret dX7_slipperinessLeft_75 rfl
noncomputable def bX7_slipperinessLeft_29l (F : Nat) : Nat → (Int32 × Int32 × Int64 × Int32 × gS) → Option (Int32 × gS) := g_fix (fun k29 s => bX7_slipperinessLeft_29 F k29 s.1 s.2.1 s.2.2.1 s.2.2.2.1 s.2.2.2.2)
theorem bX7_slipperinessLeft_29l_ok {X : gX} {F : Nat} {R : Int32 × gS} : ∀ (n : Nat) (s : Int32 × Int32 × Int64 × Int32 × gS), bX7_slipperinessLeft_29l F n s = some R → G X RX7 cX7_slipperinessLeft 7 (some .int) 2 (some (.int R.1)) R.2 29 [(0, .ref (X.1 + 0)), (1, .int s.1), (2, .int s.2.1), (3, .long s.2.2.1), (5, .int s.2.2.2.1)] [] s.2.2.2.2 := by
  intro n
  induction n with
  | zero => intro s h; cases h
  | succ n ih => intro s h; exact bX7_slipperinessLeft_29_ok (F := F) ih h
noncomputable def bX7_slipperinessLeft_4 (F : Nat) (k4 : (Int32 × Int32 × Int32 × gS) → Option (Int32 × gS)) (x1 : Int32) (x2 : Int32) (x3 : Int32) (S : gS) : Option (Int32 × gS) := if (64 : Int32) ≤ x3 then (bX7_slipperinessLeft_29l F F (x1, x2, (0 : Int64), (0 : Int32), S)) else ((fX7_slipperiness F x3 S).bind (fun q2 : Int32 × gS => gl (x2 + q2.1) (fun v3 : Int32 => gl (x3 + 1) (fun v4 : Int32 => k4 (x1, v3, v4, q2.2)))))
set_option maxRecDepth 20000 in
theorem bX7_slipperinessLeft_4_ok {X : gX} {F : Nat} {k4 : (Int32 × Int32 × Int32 × gS) → Option (Int32 × gS)} {R : Int32 × gS} (H4 : ∀ s : Int32 × Int32 × Int32 × gS, k4 s = some R → G X RX7 cX7_slipperinessLeft 7 (some .int) 2 (some (.int R.1)) R.2 4 [(0, .ref (X.1 + 0)), (1, .int s.1), (2, .int s.2.1), (3, .int s.2.2.1)] [] s.2.2.2) {x1 : Int32} {x2 : Int32} {x3 : Int32} {S : gS} (h : bX7_slipperinessLeft_4 F k4 x1 x2 x3 S = some R) : G X RX7 cX7_slipperinessLeft 7 (some .int) 2 (some (.int R.1)) R.2 4 [(0, .ref (X.1 + 0)), (1, .int x1), (2, .int x2), (3, .int x3)] [] S := by
  unfold bX7_slipperinessLeft_4 at h
  refine g_iload_n dX7_slipperinessLeft_4 3 rfl rfl ?_
  refine g_bipush (v := 64) dX7_slipperinessLeft_5 (by decide) ?_
  refine g_icmp_ge (tgt := 24) dX7_slipperinessLeft_7 (by decide) (fun hc1 => ?_) (fun hc1 => ?_)
  · replace h := git hc1 h
    refine g_lconst (v := 0) dX7_slipperinessLeft_24 (by decide) ?_
    refine g_lstore_n (lv' := [(3, .long (0 : Int64)), (0, .ref (X.1 + 0)), (1, .int x1), (2, .int x2)]) dX7_slipperinessLeft_25 rfl rfl (by decide) rfl ?_
    refine g_iconst (v := 0) dX7_slipperinessLeft_26 (by decide) ?_
    refine g_istore (lv' := [(5, .int (0 : Int32)), (3, .long (0 : Int64)), (0, .ref (X.1 + 0)), (1, .int x1), (2, .int x2)]) dX7_slipperinessLeft_27 rfl (by decide) rfl ?_
    refine g_sub [2, 3, 4, 1, 0] rfl ?_
    exact bX7_slipperinessLeft_29l_ok F (x1, x2, (0 : Int64), (0 : Int32), S) h
  · replace h := gif hc1 h
    refine g_iload_n dX7_slipperinessLeft_10 2 rfl rfl ?_
    refine g_aload_n dX7_slipperinessLeft_11 0 rfl rfl ?_
    refine g_iload_n dX7_slipperinessLeft_12 3 rfl rfl ?_
    obtain ⟨q2, hq2, h⟩ := gb h
    refine g_callVi [.int x3] [.int x2] dX7_slipperinessLeft_13 mk_X7_345 so_0 (ctX7_slipperiness hq2) rfl (by decide) rfl (Nat.le_of_ble_eq_true rfl) ?_
    refine g_iadd dX7_slipperinessLeft_16 ?_
    obtain ⟨v3, ev3, h⟩ := gle h
    refine g_istore_n (lv' := [(2, .int v3), (0, .ref (X.1 + 0)), (1, .int x1), (3, .int x3)]) dX7_slipperinessLeft_17 ev3 rfl (by decide) rfl ?_
    obtain ⟨v4, ev4, h⟩ := gle h
    refine g_iinc (q := 3) (v := v4) (lv' := [(3, .int v4), (2, .int v3), (0, .ref (X.1 + 0)), (1, .int x1)]) dX7_slipperinessLeft_18 rfl (by rw [← ev4]; rfl) (by decide) rfl ?_
    refine g_goto (tgt := 4) dX7_slipperinessLeft_21 (by decide) ?_
    refine g_sub [2, 3, 1, 0] rfl ?_
    exact H4 (x1, v3, v4, q2.2) h
noncomputable def bX7_slipperinessLeft_4l (F : Nat) : Nat → (Int32 × Int32 × Int32 × gS) → Option (Int32 × gS) := g_fix (fun k4 s => bX7_slipperinessLeft_4 F k4 s.1 s.2.1 s.2.2.1 s.2.2.2)
theorem bX7_slipperinessLeft_4l_ok {X : gX} {F : Nat} {R : Int32 × gS} : ∀ (n : Nat) (s : Int32 × Int32 × Int32 × gS), bX7_slipperinessLeft_4l F n s = some R → G X RX7 cX7_slipperinessLeft 7 (some .int) 2 (some (.int R.1)) R.2 4 [(0, .ref (X.1 + 0)), (1, .int s.1), (2, .int s.2.1), (3, .int s.2.2.1)] [] s.2.2.2 := by
  intro n
  induction n with
  | zero => intro s h; cases h
  | succ n ih => intro s h; exact bX7_slipperinessLeft_4_ok (F := F) ih h
noncomputable def fX7_slipperinessLeft (F : Nat) (a0 : Int32) (S : gS) : Option (Int32 × gS) := bX7_slipperinessLeft_4l F F (a0, (0 : Int32), (0 : Int32), S)
set_option maxRecDepth 20000 in
theorem fX7_slipperinessLeft_ok {X : gX} {F : Nat} {R : Int32 × gS} {a0 : Int32} {S : gS} (h : fX7_slipperinessLeft F a0 S = some R) : G X RX7 cX7_slipperinessLeft 7 (some .int) 2 (some (.int R.1)) R.2 0 [(0, .ref (X.1 + 0)), (1, .int a0)] [] S := by
  unfold fX7_slipperinessLeft at h
  refine g_iconst (v := 0) dX7_slipperinessLeft_0 (by decide) ?_
  refine g_istore_n (lv' := [(2, .int (0 : Int32)), (0, .ref (X.1 + 0)), (1, .int a0)]) dX7_slipperinessLeft_1 rfl rfl (by decide) rfl ?_
  refine g_iconst (v := 0) dX7_slipperinessLeft_2 (by decide) ?_
  refine g_istore_n (lv' := [(3, .int (0 : Int32)), (2, .int (0 : Int32)), (0, .ref (X.1 + 0)), (1, .int a0)]) dX7_slipperinessLeft_3 rfl rfl (by decide) rfl ?_
  refine g_sub [2, 3, 1, 0] rfl ?_
  exact bX7_slipperinessLeft_4l_ok F (a0, (0 : Int32), (0 : Int32), S) h
theorem ctX7_slipperinessLeft {X : gX} {F : Nat} {R : Int32 × gS} {a0 : Int32} {S : gS} (h : fX7_slipperinessLeft F a0 S = some R) : g_C X yX7_slipperinessLeft cX7_slipperinessLeft 7 (some .int) 2 [.ref (X.1 + 0), .int a0] S (some (.int R.1)) R.2 :=
  g_met (by decide) (Nat.le_of_ble_eq_true rfl) (fX7_slipperinessLeft_ok h)
noncomputable def bX7_thirtieths_27 (F : Nat) (x0 : Int32) (x1 : Int32) (x2 : Int32) (S : gS) : Option (Int64 × gS) := if x1 = 0 then (g_nz x2 (some (((x0 / x2)).toInt64, S))) else (g_nz x2 (some ((((30 : Int32) / x2)).toInt64, S)))
set_option maxRecDepth 20000 in
theorem bX7_thirtieths_27_ok {X : gX} {F : Nat} {R : Int64 × gS} {x0 : Int32} {x1 : Int32} {x2 : Int32} {S : gS} (h : bX7_thirtieths_27 F x0 x1 x2 S = some R) : G X RX7 cX7_thirtieths 3 (some .long) 0 (some (.long R.1)) R.2 27 [(0, .int x0), (1, .int x1), (2, .int x2)] [] S := by
  unfold bX7_thirtieths_27 at h
  refine g_iload_n dX7_thirtieths_27 1 rfl rfl ?_
  refine g_if_ne (tgt := 38) dX7_thirtieths_28 (by decide) (fun hc1 => ?_) (fun hc1 => ?_)
  · replace h := gif hc1 h
    refine g_bipush (v := 30) dX7_thirtieths_38 (by decide) ?_
    refine g_iload_n dX7_thirtieths_40 2 rfl rfl ?_
    obtain ⟨hz2, h⟩ := gnz h
    refine g_idiv dX7_thirtieths_41 hz2 ?_
    refine g_i2l dX7_thirtieths_42 ?_
    cases h
    exact g_lret dX7_thirtieths_43 rfl
  · replace h := git hc1 h
    refine g_iload_n dX7_thirtieths_31 0 rfl rfl ?_
    refine g_iload_n dX7_thirtieths_32 2 rfl rfl ?_
    obtain ⟨hz3, h⟩ := gnz h
    refine g_idiv dX7_thirtieths_33 hz3 ?_
    refine g_i2l dX7_thirtieths_34 ?_
    refine g_goto (tgt := 43) dX7_thirtieths_35 (by decide) ?_
    cases h
    exact g_lret dX7_thirtieths_43 rfl
noncomputable def bX7_thirtieths_21 (F : Nat) (k3 : (Int32 × Int32 × Int32 × gS) → Option (Int64 × gS)) (x0 : Int32) (x1 : Int32) (x2 : Int32) (S : gS) : Option (Int64 × gS) := gl (x2 + -1) (fun v1 : Int32 => k3 (x0, x1, v1, S))
set_option maxRecDepth 20000 in
theorem bX7_thirtieths_21_ok {X : gX} {F : Nat} {k3 : (Int32 × Int32 × Int32 × gS) → Option (Int64 × gS)} {R : Int64 × gS} (H3 : ∀ s : Int32 × Int32 × Int32 × gS, k3 s = some R → G X RX7 cX7_thirtieths 3 (some .long) 0 (some (.long R.1)) R.2 3 [(0, .int s.1), (1, .int s.2.1), (2, .int s.2.2.1)] [] s.2.2.2) {x0 : Int32} {x1 : Int32} {x2 : Int32} {S : gS} (h : bX7_thirtieths_21 F k3 x0 x1 x2 S = some R) : G X RX7 cX7_thirtieths 3 (some .long) 0 (some (.long R.1)) R.2 21 [(0, .int x0), (1, .int x1), (2, .int x2)] [] S := by
  unfold bX7_thirtieths_21 at h
  obtain ⟨v1, ev1, h⟩ := gle h
  refine g_iinc (q := 2) (v := v1) (lv' := [(2, .int v1), (0, .int x0), (1, .int x1)]) dX7_thirtieths_21 rfl (by rw [← ev1]; rfl) (by decide) rfl ?_
  refine g_goto (tgt := 3) dX7_thirtieths_24 (by decide) ?_
  refine g_sub [1, 2, 0] rfl ?_
  exact H3 (x0, x1, v1, S) h
noncomputable def bX7_thirtieths_3 (F : Nat) (k3 : (Int32 × Int32 × Int32 × gS) → Option (Int64 × gS)) (x0 : Int32) (x1 : Int32) (x2 : Int32) (S : gS) : Option (Int64 × gS) := if x2 ≤ (1 : Int32) then (bX7_thirtieths_27 F x0 x1 x2 S) else (g_nz x2 (if ((30 : Int32) - (30 : Int32) / x2 * x2) = 0 then (g_nz x2 (if (x0 - x0 / x2 * x2) = 0 then (bX7_thirtieths_27 F x0 x1 x2 S) else (bX7_thirtieths_21 F k3 x0 x1 x2 S))) else (bX7_thirtieths_21 F k3 x0 x1 x2 S)))
set_option maxRecDepth 20000 in
theorem bX7_thirtieths_3_ok {X : gX} {F : Nat} {k3 : (Int32 × Int32 × Int32 × gS) → Option (Int64 × gS)} {R : Int64 × gS} (H3 : ∀ s : Int32 × Int32 × Int32 × gS, k3 s = some R → G X RX7 cX7_thirtieths 3 (some .long) 0 (some (.long R.1)) R.2 3 [(0, .int s.1), (1, .int s.2.1), (2, .int s.2.2.1)] [] s.2.2.2) {x0 : Int32} {x1 : Int32} {x2 : Int32} {S : gS} (h : bX7_thirtieths_3 F k3 x0 x1 x2 S = some R) : G X RX7 cX7_thirtieths 3 (some .long) 0 (some (.long R.1)) R.2 3 [(0, .int x0), (1, .int x1), (2, .int x2)] [] S := by
  unfold bX7_thirtieths_3 at h
  refine g_iload_n dX7_thirtieths_3 2 rfl rfl ?_
  refine g_iconst (v := 1) dX7_thirtieths_4 (by decide) ?_
  refine g_icmp_le (tgt := 27) dX7_thirtieths_5 (by decide) (fun hc1 => ?_) (fun hc1 => ?_)
  · replace h := git hc1 h
    exact bX7_thirtieths_27_ok h
  · replace h := gif hc1 h
    refine g_bipush (v := 30) dX7_thirtieths_8 (by decide) ?_
    refine g_iload_n dX7_thirtieths_10 2 rfl rfl ?_
    obtain ⟨hz2, h⟩ := gnz h
    refine g_irem dX7_thirtieths_11 hz2 ?_
    refine g_if_ne (tgt := 21) dX7_thirtieths_12 (by decide) (fun hc3 => ?_) (fun hc3 => ?_)
    · replace h := gif hc3 h
      exact bX7_thirtieths_21_ok H3 h
    · replace h := git hc3 h
      refine g_iload_n dX7_thirtieths_15 0 rfl rfl ?_
      refine g_iload_n dX7_thirtieths_16 2 rfl rfl ?_
      obtain ⟨hz4, h⟩ := gnz h
      refine g_irem dX7_thirtieths_17 hz4 ?_
      refine g_if_eq (tgt := 27) dX7_thirtieths_18 (by decide) (fun hc5 => ?_) (fun hc5 => ?_)
      · replace h := git hc5 h
        exact bX7_thirtieths_27_ok h
      · replace h := gif hc5 h
        exact bX7_thirtieths_21_ok H3 h
noncomputable def bX7_thirtieths_3l (F : Nat) : Nat → (Int32 × Int32 × Int32 × gS) → Option (Int64 × gS) := g_fix (fun k3 s => bX7_thirtieths_3 F k3 s.1 s.2.1 s.2.2.1 s.2.2.2)
theorem bX7_thirtieths_3l_ok {X : gX} {F : Nat} {R : Int64 × gS} : ∀ (n : Nat) (s : Int32 × Int32 × Int32 × gS), bX7_thirtieths_3l F n s = some R → G X RX7 cX7_thirtieths 3 (some .long) 0 (some (.long R.1)) R.2 3 [(0, .int s.1), (1, .int s.2.1), (2, .int s.2.2.1)] [] s.2.2.2 := by
  intro n
  induction n with
  | zero => intro s h; cases h
  | succ n ih => intro s h; exact bX7_thirtieths_3_ok (F := F) ih h
noncomputable def fX7_thirtieths (F : Nat) (a0 : Int32) (a1 : Int32) (S : gS) : Option (Int64 × gS) := bX7_thirtieths_3l F F (a0, a1, (30 : Int32), S)
set_option maxRecDepth 20000 in
theorem fX7_thirtieths_ok {X : gX} {F : Nat} {R : Int64 × gS} {a0 : Int32} {a1 : Int32} {S : gS} (h : fX7_thirtieths F a0 a1 S = some R) : G X RX7 cX7_thirtieths 3 (some .long) 0 (some (.long R.1)) R.2 0 [(0, .int a0), (1, .int a1)] [] S := by
  unfold fX7_thirtieths at h
  refine g_bipush (v := 30) dX7_thirtieths_0 (by decide) ?_
  refine g_istore_n (lv' := [(2, .int (30 : Int32)), (0, .int a0), (1, .int a1)]) dX7_thirtieths_2 rfl rfl (by decide) rfl ?_
  refine g_sub [1, 2, 0] rfl ?_
  exact bX7_thirtieths_3l_ok F (a0, a1, (30 : Int32), S) h
theorem ctX7_thirtieths {X : gX} {F : Nat} {R : Int64 × gS} {a0 : Int32} {a1 : Int32} {S : gS} (h : fX7_thirtieths F a0 a1 S = some R) : g_C X yX7_thirtieths cX7_thirtieths 3 (some .long) 0 [.int a0, .int a1] S (some (.long R.1)) R.2 :=
  g_met (by decide) (Nat.le_of_ble_eq_true rfl) (fX7_thirtieths_ok h)
noncomputable def bX7_left_19 (F : Nat) (S : gS) : Option (Int64 × gS) := (fX7_refusedLong F (-2 : Int32) S).bind (fun q1 : Int64 × gS => some (q1.1, q1.2))
set_option maxRecDepth 20000 in
theorem bX7_left_19_ok {X : gX} {F : Nat} {R : Int64 × gS} {S : gS} (h : bX7_left_19 F S = some R) : G X RX7 cX7_left 3 (some .long) 5 (some (.long R.1)) R.2 19 [] [] S := by
  unfold bX7_left_19 at h
  refine g_bipush (v := -2) dX7_left_19 (by decide) ?_
  obtain ⟨q1, hq1, h⟩ := gb h
  refine g_callSl [.int (-2 : Int32)] [] dX7_left_21 mk_X7_237 (ctX7_refusedLong hq1) rfl (by decide) rfl (Nat.le_of_ble_eq_true rfl) ?_
  cases h
  exact g_lret dX7_left_24 rfl
noncomputable def fX7_left (F : Nat) (a0 : Int32) (a1 : Int32) (S : gS) : Option (Int64 × gS) := if a0 < 0 then (bX7_left_19 F S) else (if (8 : Int32) < a0 then (bX7_left_19 F S) else (if a1 < 0 then (bX7_left_19 F S) else (if a1 ≤ (1 : Int32) then ((fX7_tryMorning F (-1 : Int32) (-1 : Int32) S).bind (fun q5 : gS => (fX7_slipperinessLeft F a0 q5).bind (fun q6 : Int32 × gS => (fX7_thirtieths F q6.1 a1 q6.2).bind (fun q7 : Int64 × gS => some (q7.1, q7.2))))) else (bX7_left_19 F S))))
set_option maxRecDepth 20000 in
theorem fX7_left_ok {X : gX} {F : Nat} {R : Int64 × gS} {a0 : Int32} {a1 : Int32} {S : gS} (h : fX7_left F a0 a1 S = some R) : G X RX7 cX7_left 3 (some .long) 5 (some (.long R.1)) R.2 0 [(0, .ref (X.1 + 0)), (1, .int a0), (2, .int a1)] [] S := by
  unfold fX7_left at h
  refine g_iload_n dX7_left_0 1 rfl rfl ?_
  refine g_if_lt (tgt := 19) dX7_left_1 (by decide) (fun hc1 => ?_) (fun hc1 => ?_)
  · replace h := git hc1 h
    refine g_sub [] rfl ?_
    exact bX7_left_19_ok h
  · replace h := gif hc1 h
    refine g_iload_n dX7_left_4 1 rfl rfl ?_
    refine g_bipush (v := 8) dX7_left_5 (by decide) ?_
    refine g_icmp_gt (tgt := 19) dX7_left_7 (by decide) (fun hc2 => ?_) (fun hc2 => ?_)
    · replace h := git hc2 h
      refine g_sub [] rfl ?_
      exact bX7_left_19_ok h
    · replace h := gif hc2 h
      refine g_iload_n dX7_left_10 2 rfl rfl ?_
      refine g_if_lt (tgt := 19) dX7_left_11 (by decide) (fun hc3 => ?_) (fun hc3 => ?_)
      · replace h := git hc3 h
        refine g_sub [] rfl ?_
        exact bX7_left_19_ok h
      · replace h := gif hc3 h
        refine g_iload_n dX7_left_14 2 rfl rfl ?_
        refine g_iconst (v := 1) dX7_left_15 (by decide) ?_
        refine g_icmp_le (tgt := 25) dX7_left_16 (by decide) (fun hc4 => ?_) (fun hc4 => ?_)
        · replace h := git hc4 h
          refine g_aload_n dX7_left_25 0 rfl rfl ?_
          refine g_iconst (v := -1) dX7_left_26 (by decide) ?_
          refine g_iconst (v := -1) dX7_left_27 (by decide) ?_
          obtain ⟨q5, hq5, h⟩ := gb h
          refine g_callVv [.int (-1 : Int32), .int (-1 : Int32)] [] dX7_left_28 mk_X7_193 so_0 (ctX7_tryMorning hq5) rfl (by decide) rfl (Nat.le_of_ble_eq_true rfl) ?_
          refine g_aload_n dX7_left_31 0 rfl rfl ?_
          refine g_iload_n dX7_left_32 1 rfl rfl ?_
          obtain ⟨q6, hq6, h⟩ := gb h
          refine g_callVi [.int a0] [] dX7_left_33 mk_X7_240 so_0 (ctX7_slipperinessLeft hq6) rfl (by decide) rfl (Nat.le_of_ble_eq_true rfl) ?_
          refine g_iload_n dX7_left_36 2 rfl rfl ?_
          obtain ⟨q7, hq7, h⟩ := gb h
          refine g_callSl [.int q6.1, .int a1] [] dX7_left_37 mk_X7_243 (ctX7_thirtieths hq7) rfl (by decide) rfl (Nat.le_of_ble_eq_true rfl) ?_
          cases h
          exact g_lret dX7_left_40 rfl
        · replace h := gif hc4 h
          refine g_sub [] rfl ?_
          exact bX7_left_19_ok h
theorem ctX7_left {X : gX} {F : Nat} {R : Int64 × gS} {a0 : Int32} {a1 : Int32} {S : gS} (h : fX7_left F a0 a1 S = some R) : g_C X yX7_left cX7_left 3 (some .long) 5 [.ref (X.1 + 0), .int a0, .int a1] S (some (.long R.1)) R.2 :=
  g_met (by decide) (Nat.le_of_ble_eq_true rfl) (fX7_left_ok h)
noncomputable def fX7_falls (F : Nat) (a0 : Int32) (S : gS) : Option (Int64 × gS) := (fX7_left F (0 : Int32) a0 S).bind (fun q1 : Int64 × gS => some (q1.1, q1.2))
set_option maxRecDepth 20000 in
theorem fX7_falls_ok {X : gX} {F : Nat} {R : Int64 × gS} {a0 : Int32} {S : gS} (h : fX7_falls F a0 S = some R) : G X RX7 cX7_falls 2 (some .long) 6 (some (.long R.1)) R.2 0 [(0, .ref (X.1 + 0)), (1, .int a0)] [] S := by
  unfold fX7_falls at h
  refine g_aload_n dX7_falls_0 0 rfl rfl ?_
  refine g_iconst (v := 0) dX7_falls_1 (by decide) ?_
  refine g_iload_n dX7_falls_2 1 rfl rfl ?_
  obtain ⟨q1, hq1, h⟩ := gb h
  refine g_callVl [.int (0 : Int32), .int a0] [] dX7_falls_3 mk_X7_225 so_0 (ctX7_left hq1) rfl (by decide) rfl (Nat.le_of_ble_eq_true rfl) ?_
  cases h
  exact g_lret dX7_falls_6 rfl
theorem ctX7_falls {X : gX} {F : Nat} {R : Int64 × gS} {a0 : Int32} {S : gS} (h : fX7_falls F a0 S = some R) : g_C X yX7_falls cX7_falls 2 (some .long) 6 [.ref (X.1 + 0), .int a0] S (some (.long R.1)) R.2 :=
  g_met (by decide) (Nat.le_of_ble_eq_true rfl) (fX7_falls_ok h)
noncomputable def bX7_grit_38 (F : Nat) (k38 : (Int32 × Int64 × Int32 × Int32 × gS) → Option (Int32 × gS)) (x2 : Int32) (x3 : Int64) (x5 : Int32) (x6 : Int32) (S : gS) : Option (Int32 × gS) := if x2 < x6 then (some (x5, S)) else ((fX7_mostSlippery F x3 S).bind (fun q2 : Int32 × gS => gl q2.1 (fun v3 : Int32 => if v3 = (-1 : Int32) then (some ((-1 : Int32), q2.2)) else ((fX7_bit F v3 q2.2).bind (fun q5 : Int64 × gS => gl (x3 ||| q5.1) (fun v6 : Int64 => gl (x6 + 1) (fun v7 : Int32 => k38 (x2, v6, v3, v7, q5.2))))))))
set_option maxRecDepth 20000 in
theorem bX7_grit_38_ok {X : gX} {F : Nat} {k38 : (Int32 × Int64 × Int32 × Int32 × gS) → Option (Int32 × gS)} {R : Int32 × gS} (H38 : ∀ s : Int32 × Int64 × Int32 × Int32 × gS, k38 s = some R → G X RX7 cX7_grit 7 (some .int) 5 (some (.int R.1)) R.2 38 [(0, .ref (X.1 + 0)), (2, .int s.1), (3, .long s.2.1), (5, .int s.2.2.1), (6, .int s.2.2.2.1)] [] s.2.2.2.2) {x2 : Int32} {x3 : Int64} {x5 : Int32} {x6 : Int32} {S : gS} (h : bX7_grit_38 F k38 x2 x3 x5 x6 S = some R) : G X RX7 cX7_grit 7 (some .int) 5 (some (.int R.1)) R.2 38 [(0, .ref (X.1 + 0)), (2, .int x2), (3, .long x3), (5, .int x5), (6, .int x6)] [] S := by
  unfold bX7_grit_38 at h
  refine g_iload dX7_grit_38 4 rfl ?_
  refine g_iload_n dX7_grit_40 1 rfl rfl ?_
  refine g_icmp_gt (tgt := 73) dX7_grit_41 (by decide) (fun hc1 => ?_) (fun hc1 => ?_)
  · replace h := git hc1 h
    refine g_iload dX7_grit_73 3 rfl ?_
    cases h
    exact g_iret dX7_grit_75 rfl
  · replace h := gif hc1 h
    refine g_aload_n dX7_grit_44 0 rfl rfl ?_
    refine g_lload_n dX7_grit_45 2 rfl rfl ?_
    obtain ⟨q2, hq2, h⟩ := gb h
    refine g_callVi [.long x3] [] dX7_grit_46 mk_X7_229 so_0 (ctX7_mostSlippery hq2) rfl (by decide) rfl (Nat.le_of_ble_eq_true rfl) ?_
    obtain ⟨v3, ev3, h⟩ := gle h
    refine g_istore (lv' := [(5, .int v3), (0, .ref (X.1 + 0)), (2, .int x2), (3, .long x3), (6, .int x6)]) dX7_grit_49 ev3 (by decide) rfl ?_
    refine g_iload dX7_grit_51 0 rfl ?_
    refine g_iconst (v := -1) dX7_grit_53 (by decide) ?_
    refine g_icmp_ne (tgt := 59) dX7_grit_54 (by decide) (fun hc4 => ?_) (fun hc4 => ?_)
    · replace h := gif hc4 h
      refine g_lload_n dX7_grit_59 3 rfl rfl ?_
      refine g_iload dX7_grit_60 0 rfl ?_
      obtain ⟨q5, hq5, h⟩ := gb h
      refine g_callSl [.int v3] [.long x3] dX7_grit_62 mk_X7_233 (ctX7_bit hq5) rfl (by decide) rfl (Nat.le_of_ble_eq_true rfl) ?_
      refine g_lor dX7_grit_65 ?_
      obtain ⟨v6, ev6, h⟩ := gle h
      refine g_lstore_n (lv' := [(3, .long v6), (5, .int v3), (0, .ref (X.1 + 0)), (2, .int x2), (6, .int x6)]) dX7_grit_66 ev6 rfl (by decide) rfl ?_
      obtain ⟨v7, ev7, h⟩ := gle h
      refine g_iinc (q := 4) (v := v7) (lv' := [(6, .int v7), (3, .long v6), (5, .int v3), (0, .ref (X.1 + 0)), (2, .int x2)]) dX7_grit_67 rfl (by rw [← ev7]; rfl) (by decide) rfl ?_
      refine g_goto (tgt := 38) dX7_grit_70 (by decide) ?_
      refine g_sub [3, 4, 1, 2, 0] rfl ?_
      exact H38 (x2, v6, v3, v7, q5.2) h
    · replace h := git hc4 h
      refine g_iconst (v := -1) dX7_grit_57 (by decide) ?_
      cases h
      exact g_iret dX7_grit_58 rfl
noncomputable def bX7_grit_38l (F : Nat) : Nat → (Int32 × Int64 × Int32 × Int32 × gS) → Option (Int32 × gS) := g_fix (fun k38 s => bX7_grit_38 F k38 s.1 s.2.1 s.2.2.1 s.2.2.2.1 s.2.2.2.2)
theorem bX7_grit_38l_ok {X : gX} {F : Nat} {R : Int32 × gS} : ∀ (n : Nat) (s : Int32 × Int64 × Int32 × Int32 × gS), bX7_grit_38l F n s = some R → G X RX7 cX7_grit 7 (some .int) 5 (some (.int R.1)) R.2 38 [(0, .ref (X.1 + 0)), (2, .int s.1), (3, .long s.2.1), (5, .int s.2.2.1), (6, .int s.2.2.2.1)] [] s.2.2.2.2 := by
  intro n
  induction n with
  | zero => intro s h; cases h
  | succ n ih => intro s h; exact bX7_grit_38_ok (F := F) ih h
noncomputable def fX7_grit (F : Nat) (a0 : Int32) (a1 : Int32) (S : gS) : Option (Int32 × gS) := if a0 < 0 then (some ((-2 : Int32), S)) else (if (8 : Int32) < a0 then (some ((-2 : Int32), S)) else (if 0 ≤ a1 then (if a1 < a0 then ((fX7_tryMorning F (-1 : Int32) (-1 : Int32) S).bind (fun q5 : gS => bX7_grit_38l F F (a1, (0 : Int64), (-1 : Int32), (0 : Int32), q5))) else (some ((-1 : Int32), S))) else (some ((-2 : Int32), S))))
set_option maxRecDepth 20000 in
theorem fX7_grit_ok {X : gX} {F : Nat} {R : Int32 × gS} {a0 : Int32} {a1 : Int32} {S : gS} (h : fX7_grit F a0 a1 S = some R) : G X RX7 cX7_grit 7 (some .int) 5 (some (.int R.1)) R.2 0 [(0, .ref (X.1 + 0)), (1, .int a0), (2, .int a1)] [] S := by
  unfold fX7_grit at h
  refine g_iload_n dX7_grit_0 1 rfl rfl ?_
  refine g_if_lt (tgt := 14) dX7_grit_1 (by decide) (fun hc1 => ?_) (fun hc1 => ?_)
  · replace h := git hc1 h
    refine g_bipush (v := -2) dX7_grit_14 (by decide) ?_
    cases h
    exact g_iret dX7_grit_16 rfl
  · replace h := gif hc1 h
    refine g_iload_n dX7_grit_4 1 rfl rfl ?_
    refine g_bipush (v := 8) dX7_grit_5 (by decide) ?_
    refine g_icmp_gt (tgt := 14) dX7_grit_7 (by decide) (fun hc2 => ?_) (fun hc2 => ?_)
    · replace h := git hc2 h
      refine g_bipush (v := -2) dX7_grit_14 (by decide) ?_
      cases h
      exact g_iret dX7_grit_16 rfl
    · replace h := gif hc2 h
      refine g_iload_n dX7_grit_10 2 rfl rfl ?_
      refine g_if_ge (tgt := 17) dX7_grit_11 (by decide) (fun hc3 => ?_) (fun hc3 => ?_)
      · replace h := git hc3 h
        refine g_iload_n dX7_grit_17 2 rfl rfl ?_
        refine g_iload_n dX7_grit_18 1 rfl rfl ?_
        refine g_icmp_lt (tgt := 24) dX7_grit_19 (by decide) (fun hc4 => ?_) (fun hc4 => ?_)
        · replace h := git hc4 h
          refine g_aload_n dX7_grit_24 0 rfl rfl ?_
          refine g_iconst (v := -1) dX7_grit_25 (by decide) ?_
          refine g_iconst (v := -1) dX7_grit_26 (by decide) ?_
          obtain ⟨q5, hq5, h⟩ := gb h
          refine g_callVv [.int (-1 : Int32), .int (-1 : Int32)] [] dX7_grit_27 mk_X7_193 so_0 (ctX7_tryMorning hq5) rfl (by decide) rfl (Nat.le_of_ble_eq_true rfl) ?_
          refine g_lconst (v := 0) dX7_grit_30 (by decide) ?_
          refine g_lstore_n (lv' := [(3, .long (0 : Int64)), (0, .ref (X.1 + 0)), (1, .int a0), (2, .int a1)]) dX7_grit_31 rfl rfl (by decide) rfl ?_
          refine g_iconst (v := -1) dX7_grit_32 (by decide) ?_
          refine g_istore (lv' := [(5, .int (-1 : Int32)), (3, .long (0 : Int64)), (0, .ref (X.1 + 0)), (1, .int a0), (2, .int a1)]) dX7_grit_33 rfl (by decide) rfl ?_
          refine g_iconst (v := 0) dX7_grit_35 (by decide) ?_
          refine g_istore (lv' := [(6, .int (0 : Int32)), (5, .int (-1 : Int32)), (3, .long (0 : Int64)), (0, .ref (X.1 + 0)), (1, .int a0), (2, .int a1)]) dX7_grit_36 rfl (by decide) rfl ?_
          refine g_sub [3, 5, 2, 1, 0] rfl ?_
          exact bX7_grit_38l_ok F (a1, (0 : Int64), (-1 : Int32), (0 : Int32), q5) h
        · replace h := gif hc4 h
          refine g_iconst (v := -1) dX7_grit_22 (by decide) ?_
          cases h
          exact g_iret dX7_grit_23 rfl
      · replace h := gif hc3 h
        refine g_bipush (v := -2) dX7_grit_14 (by decide) ?_
        cases h
        exact g_iret dX7_grit_16 rfl
theorem ctX7_grit {X : gX} {F : Nat} {R : Int32 × gS} {a0 : Int32} {a1 : Int32} {S : gS} (h : fX7_grit F a0 a1 S = some R) : g_C X yX7_grit cX7_grit 7 (some .int) 5 [.ref (X.1 + 0), .int a0, .int a1] S (some (.int R.1)) R.2 :=
  g_met (by decide) (Nat.le_of_ble_eq_true rfl) (fX7_grit_ok h)
noncomputable def fX7_tower (F : Nat) (a0 : Int32) (a1 : Int32) (S : gS) : Option (Int32 × gS) := (fX7_isSheet F a0 S).bind (fun q1 : Int32 × gS => if q1.1 = 0 then (some ((-2 : Int32), q1.2)) else (if a1 < 0 then (some ((-2 : Int32), q1.2)) else (if a1 ≤ (1 : Int32) then (g_chk a0 4 ((fX5_isLost F (43 + 2 * (a0).toNatClampNeg) q1.2).bind (fun q6 : Int32 × gS => if q6.1 = 0 then (if (g_I q6.2 9 2) ≤ (5 : Int32) then (g_chk a0 4 ((fX2_tryAll_s F (43 + 2 * (a0).toNatClampNeg) q6.2).bind (fun q10 : gS => if a1 = 0 then (some ((g_I q10 19 8), q10)) else (some ((g_I q10 19 9), q10))))) else (some ((-4 : Int32), q6.2))) else ((fX7_found F (1 : Int32) q6.2).bind (fun q12 : Int32 × gS => some (q12.1, q12.2)))))) else (some ((-2 : Int32), q1.2)))))
set_option maxRecDepth 20000 in
theorem fX7_tower_ok {X : gX} {F : Nat} {R : Int32 × gS} {a0 : Int32} {a1 : Int32} {S : gS} (h : fX7_tower F a0 a1 S = some R) : G X RX7 cX7_tower 3 (some .int) 6 (some (.int R.1)) R.2 0 [(0, .ref (X.1 + 0)), (1, .int a0), (2, .int a1)] [] S := by
  unfold fX7_tower at h
  refine g_iload_n dX7_tower_0 1 rfl rfl ?_
  obtain ⟨q1, hq1, h⟩ := gb h
  refine g_callSi [.int a0] [] dX7_tower_1 mk_X7_137 (ctX7_isSheet hq1) rfl (by decide) rfl (Nat.le_of_ble_eq_true rfl) ?_
  refine g_if_eq (tgt := 16) dX7_tower_4 (by decide) (fun hc2 => ?_) (fun hc2 => ?_)
  · replace h := git hc2 h
    refine g_bipush (v := -2) dX7_tower_16 (by decide) ?_
    cases h
    exact g_iret dX7_tower_18 rfl
  · replace h := gif hc2 h
    refine g_iload_n dX7_tower_7 2 rfl rfl ?_
    refine g_if_lt (tgt := 16) dX7_tower_8 (by decide) (fun hc3 => ?_) (fun hc3 => ?_)
    · replace h := git hc3 h
      refine g_bipush (v := -2) dX7_tower_16 (by decide) ?_
      cases h
      exact g_iret dX7_tower_18 rfl
    · replace h := gif hc3 h
      refine g_iload_n dX7_tower_11 2 rfl rfl ?_
      refine g_iconst (v := 1) dX7_tower_12 (by decide) ?_
      refine g_icmp_le (tgt := 19) dX7_tower_13 (by decide) (fun hc4 => ?_) (fun hc4 => ?_)
      · replace h := git hc4 h
        refine g_aload_n dX7_tower_19 0 rfl rfl ?_
        refine g_getr dX7_tower_20 lk_X7_57 sf_0_6 ?_
        refine g_iload_n dX7_tower_23 1 rfl rfl ?_
        obtain ⟨hv5, h⟩ := gchk h
        refine g_aald4 dX7_tower_24 sa_42 hv5 ?_
        obtain ⟨q6, hq6, h⟩ := gb h
        refine g_callVi [] [] dX7_tower_25 mk_X7_140 (sht_o (sht_at hv5)) (ctX5_isLost (sht_at hv5) hq6) rfl (by decide) rfl (Nat.le_of_ble_eq_true rfl) ?_
        refine g_if_eq (tgt := 37) dX7_tower_28 (by decide) (fun hc7 => ?_) (fun hc7 => ?_)
        · replace h := git hc7 h
          refine g_aload_n dX7_tower_37 0 rfl rfl ?_
          refine g_getr dX7_tower_38 lk_X7_26 sf_0_2 ?_
          refine g_geti dX7_tower_41 lk_X7_155 sf_9_2 ?_
          refine g_iconst (v := 5) dX7_tower_44 (by decide) ?_
          refine g_icmp_le (tgt := 51) dX7_tower_45 (by decide) (fun hc8 => ?_) (fun hc8 => ?_)
          · replace h := git hc8 h
            refine g_aload_n dX7_tower_51 0 rfl rfl ?_
            refine g_getr dX7_tower_52 lk_X7_51 sf_0_5 ?_
            refine g_aload_n dX7_tower_55 0 rfl rfl ?_
            refine g_getr dX7_tower_56 lk_X7_19 sf_0_1 ?_
            refine g_getr dX7_tower_59 lk_X7_98 sf_3_0 ?_
            refine g_aload_n dX7_tower_62 0 rfl rfl ?_
            refine g_getr dX7_tower_63 lk_X7_57 sf_0_6 ?_
            refine g_iload_n dX7_tower_66 1 rfl rfl ?_
            obtain ⟨hv9, h⟩ := gchk h
            refine g_aald4 dX7_tower_67 sa_42 hv9 ?_
            obtain ⟨q10, hq10, h⟩ := gb h
            refine g_callVv [.ref (X.1 + 4), .ref (X.1 + (43 + 2 * (a0).toNatClampNeg))] [] dX7_tower_68 mk_X7_206 so_19 (ctX2_tryAll_s (sht_at hv9) hq10) rfl (by decide) rfl (Nat.le_of_ble_eq_true rfl) ?_
            refine g_iload_n dX7_tower_71 2 rfl rfl ?_
            refine g_if_ne (tgt := 85) dX7_tower_72 (by decide) (fun hc11 => ?_) (fun hc11 => ?_)
            · replace h := gif hc11 h
              refine g_aload_n dX7_tower_85 0 rfl rfl ?_
              refine g_getr dX7_tower_86 lk_X7_51 sf_0_5 ?_
              refine g_geti dX7_tower_89 lk_X7_249 sf_19_9 ?_
              cases h
              exact g_iret dX7_tower_92 rfl
            · replace h := git hc11 h
              refine g_aload_n dX7_tower_75 0 rfl rfl ?_
              refine g_getr dX7_tower_76 lk_X7_51 sf_0_5 ?_
              refine g_geti dX7_tower_79 lk_X7_246 sf_19_8 ?_
              refine g_goto (tgt := 92) dX7_tower_82 (by decide) ?_
              cases h
              exact g_iret dX7_tower_92 rfl
          · replace h := gif hc8 h
            refine g_bipush (v := -4) dX7_tower_48 (by decide) ?_
            cases h
            exact g_iret dX7_tower_50 rfl
        · replace h := gif hc7 h
          refine g_aload_n dX7_tower_31 0 rfl rfl ?_
          refine g_iconst (v := 1) dX7_tower_32 (by decide) ?_
          obtain ⟨q12, hq12, h⟩ := gb h
          refine g_callVi [.int (1 : Int32)] [] dX7_tower_33 mk_X7_144 so_0 (ctX7_found hq12) rfl (by decide) rfl (Nat.le_of_ble_eq_true rfl) ?_
          cases h
          exact g_iret dX7_tower_36 rfl
      · replace h := gif hc4 h
        refine g_bipush (v := -2) dX7_tower_16 (by decide) ?_
        cases h
        exact g_iret dX7_tower_18 rfl
theorem ctX7_tower {X : gX} {F : Nat} {R : Int32 × gS} {a0 : Int32} {a1 : Int32} {S : gS} (h : fX7_tower F a0 a1 S = some R) : g_C X yX7_tower cX7_tower 3 (some .int) 6 [.ref (X.1 + 0), .int a0, .int a1] S (some (.int R.1)) R.2 :=
  g_met (by decide) (Nat.le_of_ble_eq_true rfl) (fX7_tower_ok h)
noncomputable def fX7_towerOrder (F : Nat) (a0 : Int32) (a1 : Int32) (S : gS) : Option (Int32 × gS) := (fX7_isSheet F a0 S).bind (fun q1 : Int32 × gS => if q1.1 = 0 then (some ((-2 : Int32), q1.2)) else (if a1 < 0 then (some ((-2 : Int32), q1.2)) else (if a1 < (g_I q1.2 9 2) then (g_chk a0 4 ((fX5_isLost F (43 + 2 * (a0).toNatClampNeg) q1.2).bind (fun q6 : Int32 × gS => if q6.1 = 0 then (if (g_I q6.2 9 2) ≤ (5 : Int32) then (g_chk a0 4 ((fX2_tryAll_s F (43 + 2 * (a0).toNatClampNeg) q6.2).bind (fun q10 : gS => if (g_I q10 19 8) = 0 then (some ((-1 : Int32), q10)) else (g_chk a1 5 (some ((g_I q10 23 (a1).toNatClampNeg), q10)))))) else (some ((-4 : Int32), q6.2))) else ((fX7_found F (1 : Int32) q6.2).bind (fun q13 : Int32 × gS => some (q13.1, q13.2)))))) else (some ((-2 : Int32), q1.2)))))
set_option maxRecDepth 20000 in
theorem fX7_towerOrder_ok {X : gX} {F : Nat} {R : Int32 × gS} {a0 : Int32} {a1 : Int32} {S : gS} (h : fX7_towerOrder F a0 a1 S = some R) : G X RX7 cX7_towerOrder 3 (some .int) 6 (some (.int R.1)) R.2 0 [(0, .ref (X.1 + 0)), (1, .int a0), (2, .int a1)] [] S := by
  unfold fX7_towerOrder at h
  refine g_iload_n dX7_towerOrder_0 1 rfl rfl ?_
  obtain ⟨q1, hq1, h⟩ := gb h
  refine g_callSi [.int a0] [] dX7_towerOrder_1 mk_X7_137 (ctX7_isSheet hq1) rfl (by decide) rfl (Nat.le_of_ble_eq_true rfl) ?_
  refine g_if_eq (tgt := 22) dX7_towerOrder_4 (by decide) (fun hc2 => ?_) (fun hc2 => ?_)
  · replace h := git hc2 h
    refine g_bipush (v := -2) dX7_towerOrder_22 (by decide) ?_
    cases h
    exact g_iret dX7_towerOrder_24 rfl
  · replace h := gif hc2 h
    refine g_iload_n dX7_towerOrder_7 2 rfl rfl ?_
    refine g_if_lt (tgt := 22) dX7_towerOrder_8 (by decide) (fun hc3 => ?_) (fun hc3 => ?_)
    · replace h := git hc3 h
      refine g_bipush (v := -2) dX7_towerOrder_22 (by decide) ?_
      cases h
      exact g_iret dX7_towerOrder_24 rfl
    · replace h := gif hc3 h
      refine g_iload_n dX7_towerOrder_11 2 rfl rfl ?_
      refine g_aload_n dX7_towerOrder_12 0 rfl rfl ?_
      refine g_getr dX7_towerOrder_13 lk_X7_26 sf_0_2 ?_
      refine g_geti dX7_towerOrder_16 lk_X7_155 sf_9_2 ?_
      refine g_icmp_lt (tgt := 25) dX7_towerOrder_19 (by decide) (fun hc4 => ?_) (fun hc4 => ?_)
      · replace h := git hc4 h
        refine g_aload_n dX7_towerOrder_25 0 rfl rfl ?_
        refine g_getr dX7_towerOrder_26 lk_X7_57 sf_0_6 ?_
        refine g_iload_n dX7_towerOrder_29 1 rfl rfl ?_
        obtain ⟨hv5, h⟩ := gchk h
        refine g_aald4 dX7_towerOrder_30 sa_42 hv5 ?_
        obtain ⟨q6, hq6, h⟩ := gb h
        refine g_callVi [] [] dX7_towerOrder_31 mk_X7_140 (sht_o (sht_at hv5)) (ctX5_isLost (sht_at hv5) hq6) rfl (by decide) rfl (Nat.le_of_ble_eq_true rfl) ?_
        refine g_if_eq (tgt := 43) dX7_towerOrder_34 (by decide) (fun hc7 => ?_) (fun hc7 => ?_)
        · replace h := git hc7 h
          refine g_aload_n dX7_towerOrder_43 0 rfl rfl ?_
          refine g_getr dX7_towerOrder_44 lk_X7_26 sf_0_2 ?_
          refine g_geti dX7_towerOrder_47 lk_X7_155 sf_9_2 ?_
          refine g_iconst (v := 5) dX7_towerOrder_50 (by decide) ?_
          refine g_icmp_le (tgt := 57) dX7_towerOrder_51 (by decide) (fun hc8 => ?_) (fun hc8 => ?_)
          · replace h := git hc8 h
            refine g_aload_n dX7_towerOrder_57 0 rfl rfl ?_
            refine g_getr dX7_towerOrder_58 lk_X7_51 sf_0_5 ?_
            refine g_aload_n dX7_towerOrder_61 0 rfl rfl ?_
            refine g_getr dX7_towerOrder_62 lk_X7_19 sf_0_1 ?_
            refine g_getr dX7_towerOrder_65 lk_X7_98 sf_3_0 ?_
            refine g_aload_n dX7_towerOrder_68 0 rfl rfl ?_
            refine g_getr dX7_towerOrder_69 lk_X7_57 sf_0_6 ?_
            refine g_iload_n dX7_towerOrder_72 1 rfl rfl ?_
            obtain ⟨hv9, h⟩ := gchk h
            refine g_aald4 dX7_towerOrder_73 sa_42 hv9 ?_
            obtain ⟨q10, hq10, h⟩ := gb h
            refine g_callVv [.ref (X.1 + 4), .ref (X.1 + (43 + 2 * (a0).toNatClampNeg))] [] dX7_towerOrder_74 mk_X7_206 so_19 (ctX2_tryAll_s (sht_at hv9) hq10) rfl (by decide) rfl (Nat.le_of_ble_eq_true rfl) ?_
            refine g_aload_n dX7_towerOrder_77 0 rfl rfl ?_
            refine g_getr dX7_towerOrder_78 lk_X7_51 sf_0_5 ?_
            refine g_geti dX7_towerOrder_81 lk_X7_246 sf_19_8 ?_
            refine g_if_ne (tgt := 91) dX7_towerOrder_84 (by decide) (fun hc11 => ?_) (fun hc11 => ?_)
            · replace h := gif hc11 h
              refine g_aload_n dX7_towerOrder_91 0 rfl rfl ?_
              refine g_getr dX7_towerOrder_92 lk_X7_51 sf_0_5 ?_
              refine g_getr dX7_towerOrder_95 lk_X7_252 sf_19_5 ?_
              refine g_iload_n dX7_towerOrder_98 2 rfl rfl ?_
              obtain ⟨hv12, h⟩ := gchk h
              refine g_iald dX7_towerOrder_99 sa_23 hv12 ?_
              cases h
              exact g_iret dX7_towerOrder_100 rfl
            · replace h := git hc11 h
              refine g_iconst (v := -1) dX7_towerOrder_87 (by decide) ?_
              refine g_goto (tgt := 100) dX7_towerOrder_88 (by decide) ?_
              cases h
              exact g_iret dX7_towerOrder_100 rfl
          · replace h := gif hc8 h
            refine g_bipush (v := -4) dX7_towerOrder_54 (by decide) ?_
            cases h
            exact g_iret dX7_towerOrder_56 rfl
        · replace h := gif hc7 h
          refine g_aload_n dX7_towerOrder_37 0 rfl rfl ?_
          refine g_iconst (v := 1) dX7_towerOrder_38 (by decide) ?_
          obtain ⟨q13, hq13, h⟩ := gb h
          refine g_callVi [.int (1 : Int32)] [] dX7_towerOrder_39 mk_X7_144 so_0 (ctX7_found hq13) rfl (by decide) rfl (Nat.le_of_ble_eq_true rfl) ?_
          cases h
          exact g_iret dX7_towerOrder_42 rfl
      · replace h := gif hc4 h
        refine g_bipush (v := -2) dX7_towerOrder_22 (by decide) ?_
        cases h
        exact g_iret dX7_towerOrder_24 rfl
theorem ctX7_towerOrder {X : gX} {F : Nat} {R : Int32 × gS} {a0 : Int32} {a1 : Int32} {S : gS} (h : fX7_towerOrder F a0 a1 S = some R) : g_C X yX7_towerOrder cX7_towerOrder 3 (some .int) 6 [.ref (X.1 + 0), .int a0, .int a1] S (some (.int R.1)) R.2 :=
  g_met (by decide) (Nat.le_of_ble_eq_true rfl) (fX7_towerOrder_ok h)
noncomputable def fX7_wouldShow (F : Nat) (sh : Nat) (a1 : Int32) (a2 : Int32) (S : gS) : Option (Int32 × gS) := (fX3_begin F 16 S).bind (fun q1 : gS => (fX7_bit F a2 q1).bind (fun q2 : Int64 × gS => gl ((g_J q1 1 4) ||| q2.1) (fun v3 : Int64 => g_chk a1 8 (g_chk a1 8 ((fX3_go F 16 (g_I q2.2 10 (a1).toNatClampNeg) (g_I q2.2 11 (a1).toNatClampNeg) v3 q2.2).bind (fun q6 : Int32 × gS => (fX5_shows F sh 18 q6.2).bind (fun q7 : Int32 × gS => g_bo q7.1 (some (q7.1, q7.2)))))))))
set_option maxRecDepth 20000 in
theorem fX7_wouldShow_ok {X : gX} {F : Nat} {sh : Nat} (hsh : g_isSht sh) {R : Int32 × gS} {a1 : Int32} {a2 : Int32} {S : gS} (h : fX7_wouldShow F sh a1 a2 S = some R) : G X RX7 cX7_wouldShow 6 (some .boolean) 4 (some (.int R.1)) R.2 0 [(0, .ref (X.1 + 0)), (1, .ref (X.1 + sh)), (2, .int a1), (3, .int a2)] [] S := by
  unfold fX7_wouldShow at h
  refine g_aload_n dX7_wouldShow_0 0 rfl rfl ?_
  refine g_getr dX7_wouldShow_1 lk_X7_42 sf_0_4 ?_
  refine g_aload_n dX7_wouldShow_4 0 rfl rfl ?_
  refine g_getr dX7_wouldShow_5 lk_X7_19 sf_0_1 ?_
  refine g_getr dX7_wouldShow_8 lk_X7_98 sf_3_0 ?_
  obtain ⟨q1, hq1, h⟩ := gb h
  refine g_callVv [.ref (X.1 + 4)] [] dX7_wouldShow_11 mk_X7_172 so_16 (ctX3_begin out_16 hq1) rfl (by decide) rfl (Nat.le_of_ble_eq_true rfl) ?_
  refine g_aload_n dX7_wouldShow_14 0 rfl rfl ?_
  refine g_getr dX7_wouldShow_15 lk_X7_10 sf_0_0 ?_
  refine g_getj dX7_wouldShow_18 lk_X7_158 sf_1_4 ?_
  refine g_iload_n dX7_wouldShow_21 3 rfl rfl ?_
  obtain ⟨q2, hq2, h⟩ := gb h
  refine g_callSl [.int a2] [.long (g_J q1 1 4)] dX7_wouldShow_22 mk_X7_233 (ctX7_bit hq2) rfl (by decide) rfl (Nat.le_of_ble_eq_true rfl) ?_
  refine g_lor dX7_wouldShow_25 ?_
  obtain ⟨v3, ev3, h⟩ := gle h
  refine g_lstore (lv' := [(4, .long v3), (0, .ref (X.1 + 0)), (1, .ref (X.1 + sh)), (2, .int a1), (3, .int a2)]) dX7_wouldShow_26 ev3 (by decide) rfl ?_
  refine g_aload_n dX7_wouldShow_28 1 rfl rfl ?_
  refine g_getr dX7_wouldShow_29 lk_X7_42 sf_0_4 ?_
  refine g_aload_n dX7_wouldShow_32 1 rfl rfl ?_
  refine g_getr dX7_wouldShow_33 lk_X7_26 sf_0_2 ?_
  refine g_getr dX7_wouldShow_36 lk_X7_176 sf_9_0 ?_
  refine g_iload_n dX7_wouldShow_39 3 rfl rfl ?_
  obtain ⟨hv4, h⟩ := gchk h
  refine g_iald dX7_wouldShow_40 sa_10 hv4 ?_
  refine g_aload_n dX7_wouldShow_41 1 rfl rfl ?_
  refine g_getr dX7_wouldShow_42 lk_X7_26 sf_0_2 ?_
  refine g_getr dX7_wouldShow_45 lk_X7_179 sf_9_1 ?_
  refine g_iload_n dX7_wouldShow_48 3 rfl rfl ?_
  obtain ⟨hv5, h⟩ := gchk h
  refine g_iald dX7_wouldShow_49 sa_11 hv5 ?_
  refine g_lload dX7_wouldShow_50 0 rfl ?_
  obtain ⟨q6, hq6, h⟩ := gb h
  refine g_callVi [.int (g_I q2.2 10 (a1).toNatClampNeg), .int (g_I q2.2 11 (a1).toNatClampNeg), .long v3] [] dX7_wouldShow_52 mk_X7_182 so_16 (ctX3_go out_16 hq6) rfl (by decide) rfl (Nat.le_of_ble_eq_true rfl) ?_
  refine g_pop dX7_wouldShow_55 rfl ?_
  refine g_aload_n dX7_wouldShow_56 2 rfl rfl ?_
  refine g_aload_n dX7_wouldShow_57 1 rfl rfl ?_
  refine g_getr dX7_wouldShow_58 lk_X7_42 sf_0_4 ?_
  refine g_getr dX7_wouldShow_61 lk_X7_291 sf_16_3 ?_
  obtain ⟨q7, hq7, h⟩ := gb h
  refine g_callVi [.ref (X.1 + 18)] [] dX7_wouldShow_64 mk_X7_341 (sht_o hsh) (ctX5_shows hsh sa_18 hq7) rfl (by decide) rfl (Nat.le_of_ble_eq_true rfl) ?_
  obtain ⟨hb8, h⟩ := gbo h
  cases h
  exact g_zret dX7_wouldShow_67 rfl hb8
theorem ctX7_wouldShow {X : gX} {F : Nat} {sh : Nat} (hsh : g_isSht sh) {R : Int32 × gS} {a1 : Int32} {a2 : Int32} {S : gS} (h : fX7_wouldShow F sh a1 a2 S = some R) : g_C X yX7_wouldShow cX7_wouldShow 6 (some .boolean) 4 [.ref (X.1 + 0), .ref (X.1 + sh), .int a1, .int a2] S (some (.int R.1)) R.2 :=
  g_met (by decide) (Nat.le_of_ble_eq_true rfl) (fX7_wouldShow_ok hsh h)

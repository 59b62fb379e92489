noncomputable def fX0_fits (F : Nat) (a0 : Int32) (a1 : Int32) (S : gS) : Option (Int32 × gS) := g_nz (9 : Int32) (if (a0 - a0 / (9 : Int32) * (9 : Int32)) = (8 : Int32) then (if a1 = (59 : Int32) then (some ((1 : Int32), S)) else (some ((0 : Int32), S))) else (if a1 = (46 : Int32) then (some ((1 : Int32), S)) else (if a1 = (35 : Int32) then (some ((1 : Int32), S)) else (if a1 = (111 : Int32) then (some ((1 : Int32), S)) else (some ((0 : Int32), S))))))
set_option maxRecDepth 20000 in
theorem fX0_fits_ok {X : gX} {F : Nat} {R : Int32 × gS} {a0 : Int32} {a1 : Int32} {S : gS} (h : fX0_fits F a0 a1 S = some R) : G X RX0 cX0_fits 2 (some .boolean) 0 (some (.int R.1)) R.2 0 [(0, .int a0), (1, .int a1)] [] S := by
  unfold fX0_fits at h
  refine g_iload_n dX0_fits_0 0 rfl rfl ?_
  refine g_bipush (v := 9) dX0_fits_1 (by decide) ?_
  obtain ⟨hz1, h⟩ := gnz h
  refine g_irem dX0_fits_3 hz1 ?_
  refine g_bipush (v := 8) dX0_fits_4 (by decide) ?_
  refine g_icmp_ne (tgt := 21) dX0_fits_6 (by decide) (fun hc2 => ?_) (fun hc2 => ?_)
  · replace h := gif hc2 h
    refine g_iload_n dX0_fits_21 1 rfl rfl ?_
    refine g_bipush (v := 46) dX0_fits_22 (by decide) ?_
    refine g_icmp_eq (tgt := 39) dX0_fits_24 (by decide) (fun hc3 => ?_) (fun hc3 => ?_)
    · replace h := git hc3 h
      refine g_iconst (v := 1) dX0_fits_39 (by decide) ?_
      refine g_goto (tgt := 44) dX0_fits_40 (by decide) ?_
      obtain rfl := Option.some.inj h
      exact g_zret dX0_fits_44 rfl narrow_b1
    · replace h := gif hc3 h
      refine g_iload_n dX0_fits_27 1 rfl rfl ?_
      refine g_bipush (v := 35) dX0_fits_28 (by decide) ?_
      refine g_icmp_eq (tgt := 39) dX0_fits_30 (by decide) (fun hc4 => ?_) (fun hc4 => ?_)
      · replace h := git hc4 h
        refine g_iconst (v := 1) dX0_fits_39 (by decide) ?_
        refine g_goto (tgt := 44) dX0_fits_40 (by decide) ?_
        obtain rfl := Option.some.inj h
        exact g_zret dX0_fits_44 rfl narrow_b1
      · replace h := gif hc4 h
        refine g_iload_n dX0_fits_33 1 rfl rfl ?_
        refine g_bipush (v := 111) dX0_fits_34 (by decide) ?_
        refine g_icmp_ne (tgt := 43) dX0_fits_36 (by decide) (fun hc5 => ?_) (fun hc5 => ?_)
        · replace h := gif hc5 h
          refine g_iconst (v := 0) dX0_fits_43 (by decide) ?_
          obtain rfl := Option.some.inj h
          exact g_zret dX0_fits_44 rfl narrow_b0
        · replace h := git hc5 h
          refine g_iconst (v := 1) dX0_fits_39 (by decide) ?_
          refine g_goto (tgt := 44) dX0_fits_40 (by decide) ?_
          obtain rfl := Option.some.inj h
          exact g_zret dX0_fits_44 rfl narrow_b1
  · replace h := git hc2 h
    refine g_iload_n dX0_fits_9 1 rfl rfl ?_
    refine g_bipush (v := 59) dX0_fits_10 (by decide) ?_
    refine g_icmp_ne (tgt := 19) dX0_fits_12 (by decide) (fun hc6 => ?_) (fun hc6 => ?_)
    · replace h := gif hc6 h
      refine g_iconst (v := 0) dX0_fits_19 (by decide) ?_
      obtain rfl := Option.some.inj h
      exact g_zret dX0_fits_20 rfl narrow_b0
    · replace h := git hc6 h
      refine g_iconst (v := 1) dX0_fits_15 (by decide) ?_
      refine g_goto (tgt := 20) dX0_fits_16 (by decide) ?_
      obtain rfl := Option.some.inj h
      exact g_zret dX0_fits_20 rfl narrow_b1
theorem ctX0_fits {X : gX} {F : Nat} {R : Int32 × gS} {a0 : Int32} {a1 : Int32} {S : gS} (h : fX0_fits F a0 a1 S = some R) : g_C X yX0_fits cX0_fits 2 (some .boolean) 0 [.int a0, .int a1] S (some (.int R.1)) R.2 :=
  g_met (by decide) (Nat.le_of_ble_eq_true rfl) (fX0_fits_ok h)
noncomputable def bX0_seekFault_2 (F : Nat) (k2 : (Int32 × gS) → Option (Int32 × gS)) (x1 : Int32) (S : gS) : Option (Int32 × gS) := if (71 : Int32) ≤ x1 then (if (g_I S 1 1) ≤ (71 : Int32) then (some ((-1 : Int32), S)) else (some ((71 : Int32), S))) else (if (g_I S 1 1) ≤ x1 then (some (x1, S)) else (g_chk x1 75 ((fX0_fits F x1 (g_I S 2 (x1).toNatClampNeg) S).bind (fun q5 : Int32 × gS => if q5.1 = 0 then (some (x1, q5.2)) else (gl (x1 + 1) (fun v7 : Int32 => k2 (v7, q5.2)))))))
set_option maxRecDepth 20000 in
theorem bX0_seekFault_2_ok {X : gX} {F : Nat} {k2 : (Int32 × gS) → Option (Int32 × gS)} {R : Int32 × gS} (H2 : ∀ s : Int32 × gS, k2 s = some R → G X RX0 cX0_seekFault 2 (some .int) 1 (some (.int R.1)) R.2 2 [(0, .ref (X.1 + 1)), (1, .int s.1)] [] s.2) {x1 : Int32} {S : gS} (h : bX0_seekFault_2 F k2 x1 S = some R) : G X RX0 cX0_seekFault 2 (some .int) 1 (some (.int R.1)) R.2 2 [(0, .ref (X.1 + 1)), (1, .int x1)] [] S := by
  unfold bX0_seekFault_2 at h
  refine g_iload_n dX0_seekFault_2 1 rfl rfl ?_
  refine g_bipush (v := 71) dX0_seekFault_3 (by decide) ?_
  refine g_icmp_ge (tgt := 37) dX0_seekFault_5 (by decide) (fun hc1 => ?_) (fun hc1 => ?_)
  · replace h := git hc1 h
    refine g_aload_n dX0_seekFault_37 0 rfl rfl ?_
    refine g_geti dX0_seekFault_38 lk_X0_15 sf_1_1 ?_
    refine g_bipush (v := 71) dX0_seekFault_41 (by decide) ?_
    refine g_icmp_le (tgt := 51) dX0_seekFault_43 (by decide) (fun hc2 => ?_) (fun hc2 => ?_)
    · replace h := git hc2 h
      refine g_iconst (v := -1) dX0_seekFault_51 (by decide) ?_
      obtain rfl := Option.some.inj h
      exact g_iret dX0_seekFault_52 rfl
    · replace h := gif hc2 h
      refine g_bipush (v := 71) dX0_seekFault_46 (by decide) ?_
      refine g_goto (tgt := 52) dX0_seekFault_48 (by decide) ?_
      obtain rfl := Option.some.inj h
      exact g_iret dX0_seekFault_52 rfl
  · replace h := gif hc1 h
    refine g_iload_n dX0_seekFault_8 1 rfl rfl ?_
    refine g_aload_n dX0_seekFault_9 0 rfl rfl ?_
    refine g_geti dX0_seekFault_10 lk_X0_15 sf_1_1 ?_
    refine g_icmp_ge (tgt := 29) dX0_seekFault_13 (by decide) (fun hc3 => ?_) (fun hc3 => ?_)
    · replace h := git hc3 h
      refine g_iload_n dX0_seekFault_29 1 rfl rfl ?_
      obtain rfl := Option.some.inj h
      exact g_iret dX0_seekFault_30 rfl
    · replace h := gif hc3 h
      refine g_iload_n dX0_seekFault_16 1 rfl rfl ?_
      refine g_aload_n dX0_seekFault_17 0 rfl rfl ?_
      refine g_getr dX0_seekFault_18 lk_X0_11 sf_1_0 ?_
      refine g_iload_n dX0_seekFault_21 1 rfl rfl ?_
      obtain ⟨hv4, h⟩ := gchk h
      refine g_iald dX0_seekFault_22 sa_2 hv4 ?_
      obtain ⟨q5, hq5, h⟩ := gb h
      refine g_callSi [.int x1, .int (g_I S 2 (x1).toNatClampNeg)] [] dX0_seekFault_23 mk_X0_44 (ctX0_fits hq5) rfl (by decide) rfl (Nat.le_of_ble_eq_true rfl) ?_
      refine g_if_ne (tgt := 31) dX0_seekFault_26 (by decide) (fun hc6 => ?_) (fun hc6 => ?_)
      · replace h := gif hc6 h
        obtain ⟨v7, ev7, h⟩ := gle h
        refine g_iinc (q := 1) (v := v7) (lv' := [(1, .int v7), (0, .ref (X.1 + 1))]) dX0_seekFault_31 rfl (by rw [← ev7]; rfl) (by decide) rfl ?_
        refine g_goto (tgt := 2) dX0_seekFault_34 (by decide) ?_
        refine g_sub [1, 0] rfl ?_
        exact H2 (v7, q5.2) h
      · replace h := git hc6 h
        refine g_iload_n dX0_seekFault_29 1 rfl rfl ?_
        obtain rfl := Option.some.inj h
        exact g_iret dX0_seekFault_30 rfl
noncomputable def bX0_seekFault_2l (F : Nat) : Nat → (Int32 × gS) → Option (Int32 × gS) := g_fix (fun k2 s => bX0_seekFault_2 F k2 s.1 s.2)
theorem bX0_seekFault_2l_ok {X : gX} {F : Nat} {R : Int32 × gS} : ∀ (n : Nat) (s : Int32 × gS), bX0_seekFault_2l F n s = some R → G X RX0 cX0_seekFault 2 (some .int) 1 (some (.int R.1)) R.2 2 [(0, .ref (X.1 + 1)), (1, .int s.1)] [] s.2 := by
  intro n
  induction n with
  | zero => intro s h; cases h
  | succ n ih => intro s h; exact bX0_seekFault_2_ok (F := F) ih h
noncomputable def fX0_seekFault (F : Nat) (S : gS) : Option (Int32 × gS) := bX0_seekFault_2l F F ((0 : Int32), S)
set_option maxRecDepth 20000 in
theorem fX0_seekFault_ok {X : gX} {F : Nat} {R : Int32 × gS} {S : gS} (h : fX0_seekFault F S = some R) : G X RX0 cX0_seekFault 2 (some .int) 1 (some (.int R.1)) R.2 0 [(0, .ref (X.1 + 1))] [] S := by
  unfold fX0_seekFault at h
  refine g_iconst (v := 0) dX0_seekFault_0 (by decide) ?_
  refine g_istore_n (lv' := [(1, .int (0 : Int32)), (0, .ref (X.1 + 1))]) dX0_seekFault_1 rfl rfl (by decide) rfl ?_
  refine g_sub [1, 0] rfl ?_
  exact bX0_seekFault_2l_ok F ((0 : Int32), S) h
theorem ctX0_seekFault {X : gX} {F : Nat} {R : Int32 × gS} {S : gS} (h : fX0_seekFault F S = some R) : g_C X yX0_seekFault cX0_seekFault 2 (some .int) 1 [.ref (X.1 + 1)] S (some (.int R.1)) R.2 :=
  g_met (by decide) (Nat.le_of_ble_eq_true rfl) (fX0_seekFault_ok h)
noncomputable def fX7_bit (F : Nat) (a0 : Int32) (S : gS) : Option (Int64 × gS) := some (((1 : Int64) <<< ((a0).toInt64 &&& 63)), S)
set_option maxRecDepth 20000 in
theorem fX7_bit_ok {X : gX} {F : Nat} {R : Int64 × gS} {a0 : Int32} {S : gS} (h : fX7_bit F a0 S = some R) : G X RX7 cX7_bit 1 (some .long) 0 (some (.long R.1)) R.2 0 [(0, .int a0)] [] S := by
  unfold fX7_bit at h
  refine g_lconst (v := 1) dX7_bit_0 (by decide) ?_
  refine g_iload_n dX7_bit_1 0 rfl rfl ?_
  refine g_lshl dX7_bit_2 ?_
  obtain rfl := Option.some.inj h
  exact g_lret dX7_bit_3 rfl
theorem ctX7_bit {X : gX} {F : Nat} {R : Int64 × gS} {a0 : Int32} {S : gS} (h : fX7_bit F a0 S = some R) : g_C X yX7_bit cX7_bit 1 (some .long) 0 [.int a0] S (some (.long R.1)) R.2 :=
  g_met (by decide) (Nat.le_of_ble_eq_true rfl) (fX7_bit_ok h)
noncomputable def bX0_parse_88 (F : Nat) (k29 : (Int32 × gS) → Option (gS)) (x1 : Int32) (S : gS) : Option (gS) := gl (x1 + 1) (fun v1 : Int32 => k29 (v1, S))
set_option maxRecDepth 20000 in
theorem bX0_parse_88_ok {X : gX} {F : Nat} {k29 : (Int32 × gS) → Option (gS)} {R : gS} (H29 : ∀ s : Int32 × gS, k29 s = some R → G X RX0 cX0_parse 3 none 2 none R 29 [(0, .ref (X.1 + 1)), (1, .int s.1)] [] s.2) {x1 : Int32} {S : gS} (h : bX0_parse_88 F k29 x1 S = some R) : G X RX0 cX0_parse 3 none 2 none R 88 [(0, .ref (X.1 + 1)), (1, .int x1)] [] S := by
  unfold bX0_parse_88 at h
  obtain ⟨v1, ev1, h⟩ := gle h
  refine g_iinc (q := 1) (v := v1) (lv' := [(1, .int v1), (0, .ref (X.1 + 1))]) dX0_parse_88 rfl (by rw [← ev1]; rfl) (by decide) rfl ?_
  refine g_goto (tgt := 29) dX0_parse_91 (by decide) ?_
  refine g_sub [1, 0] rfl ?_
  exact H29 (v1, S) h
noncomputable def bX0_parse_29 (F : Nat) (k29 : (Int32 × gS) → Option (gS)) (x1 : Int32) (S : gS) : Option (gS) := if (64 : Int32) ≤ x1 then (some S) else (g_nz (8 : Int32) (g_chk (x1 + (x1 / (8 : Int32))) 75 (gl (g_I S 2 ((x1 + (x1 / (8 : Int32)))).toNatClampNeg) (fun v4 : Int32 => if v4 = (35 : Int32) then ((fX7_bit F x1 S).bind (fun q9 : Int64 × gS => gl (g_setJ q9.2 1 3 ((g_J S 1 3) ||| q9.1)) (fun S10 : gS => bX0_parse_88 F k29 x1 S10))) else (if v4 = (111 : Int32) then ((fX7_bit F x1 S).bind (fun q7 : Int64 × gS => gl (g_setJ q7.2 1 4 ((g_J S 1 4) ||| q7.1)) (fun S8 : gS => bX0_parse_88 F k29 x1 S8))) else (bX0_parse_88 F k29 x1 S))))))
set_option maxRecDepth 20000 in
theorem bX0_parse_29_ok {X : gX} {F : Nat} {k29 : (Int32 × gS) → Option (gS)} {R : gS} (H29 : ∀ s : Int32 × gS, k29 s = some R → G X RX0 cX0_parse 3 none 2 none R 29 [(0, .ref (X.1 + 1)), (1, .int s.1)] [] s.2) {x1 : Int32} {S : gS} (h : bX0_parse_29 F k29 x1 S = some R) : G X RX0 cX0_parse 3 none 2 none R 29 [(0, .ref (X.1 + 1)), (1, .int x1)] [] S := by
  unfold bX0_parse_29 at h
  refine g_iload_n dX0_parse_29 1 rfl rfl ?_
  refine g_bipush (v := 64) dX0_parse_30 (by decide) ?_
  refine g_icmp_ge (tgt := 94) dX0_parse_32 (by decide) (fun hc1 => ?_) (fun hc1 => ?_)
  · replace h := git hc1 h
    obtain rfl := Option.some.inj h
    exact g_vret dX0_parse_94 rfl
  · replace h := gif hc1 h
    refine g_aload_n dX0_parse_35 0 rfl rfl ?_
    refine g_getr dX0_parse_36 lk_X0_11 sf_1_0 ?_
    refine g_iload_n dX0_parse_39 1 rfl rfl ?_
    refine g_iload_n dX0_parse_40 1 rfl rfl ?_
    refine g_bipush (v := 8) dX0_parse_41 (by decide) ?_
    obtain ⟨hz2, h⟩ := gnz h
    refine g_idiv dX0_parse_43 hz2 ?_
    refine g_iadd dX0_parse_44 ?_
    obtain ⟨hv3, h⟩ := gchk h
    refine g_iald dX0_parse_45 sa_2 hv3 ?_
    obtain ⟨v4, ev4, h⟩ := gle h
    refine g_istore_n (lv' := [(2, .int v4), (0, .ref (X.1 + 1)), (1, .int x1)]) dX0_parse_46 ev4 rfl (by decide) rfl ?_
    refine g_iload_n dX0_parse_47 0 rfl rfl ?_
    refine g_bipush (v := 35) dX0_parse_48 (by decide) ?_
    refine g_icmp_ne (tgt := 69) dX0_parse_50 (by decide) (fun hc5 => ?_) (fun hc5 => ?_)
    · replace h := gif hc5 h
      refine g_iload_n dX0_parse_69 0 rfl rfl ?_
      refine g_bipush (v := 111) dX0_parse_70 (by decide) ?_
      refine g_icmp_ne (tgt := 88) dX0_parse_72 (by decide) (fun hc6 => ?_) (fun hc6 => ?_)
      · replace h := gif hc6 h
        refine g_sub [1, 2] rfl ?_
        exact bX0_parse_88_ok H29 h
      · replace h := git hc6 h
        refine g_aload_n dX0_parse_75 1 rfl rfl ?_
        refine g_dup dX0_parse_76 rfl ?_
        refine g_getj dX0_parse_77 lk_X0_26 sf_1_4 ?_
        refine g_iload_n dX0_parse_80 2 rfl rfl ?_
        obtain ⟨q7, hq7, h⟩ := gb h
        refine g_callSl [.int x1] [.long (g_J S 1 4), .ref (X.1 + 1)] dX0_parse_81 mk_X0_40 (ctX7_bit hq7) rfl (by decide) rfl (Nat.le_of_ble_eq_true rfl) ?_
        refine g_lor dX0_parse_84 ?_
        obtain ⟨S8, eS8, h⟩ := gle h
        refine g_putj dX0_parse_85 lp_X0_26 sf_1_4 eS8 ?_
        refine g_sub [1, 2] rfl ?_
        exact bX0_parse_88_ok H29 h
    · replace h := git hc5 h
      refine g_aload_n dX0_parse_53 1 rfl rfl ?_
      refine g_dup dX0_parse_54 rfl ?_
      refine g_getj dX0_parse_55 lk_X0_22 sf_1_3 ?_
      refine g_iload_n dX0_parse_58 2 rfl rfl ?_
      obtain ⟨q9, hq9, h⟩ := gb h
      refine g_callSl [.int x1] [.long (g_J S 1 3), .ref (X.1 + 1)] dX0_parse_59 mk_X0_40 (ctX7_bit hq9) rfl (by decide) rfl (Nat.le_of_ble_eq_true rfl) ?_
      refine g_lor dX0_parse_62 ?_
      obtain ⟨S10, eS10, h⟩ := gle h
      refine g_putj dX0_parse_63 lp_X0_22 sf_1_3 eS10 ?_
      refine g_goto (tgt := 88) dX0_parse_66 (by decide) ?_
      refine g_sub [1, 2] rfl ?_
      exact bX0_parse_88_ok H29 h
noncomputable def bX0_parse_29l (F : Nat) : Nat → (Int32 × gS) → Option (gS) := g_fix (fun k29 s => bX0_parse_29 F k29 s.1 s.2)
theorem bX0_parse_29l_ok {X : gX} {F : Nat} {R : gS} : ∀ (n : Nat) (s : Int32 × gS), bX0_parse_29l F n s = some R → G X RX0 cX0_parse 3 none 2 none R 29 [(0, .ref (X.1 + 1)), (1, .int s.1)] [] s.2 := by
  intro n
  induction n with
  | zero => intro s h; cases h
  | succ n ih => intro s h; exact bX0_parse_29_ok (F := F) ih h
noncomputable def fX0_parse (F : Nat) (S : gS) : Option (gS) := gl (g_setJ S 1 3 (0 : Int64)) (fun S1 : gS => gl (g_setJ S1 1 4 (0 : Int64)) (fun S2 : gS => (fX0_seekFault F S2).bind (fun q3 : Int32 × gS => gl (g_setI q3.2 1 2 q3.1) (fun S4 : gS => if (g_I S4 1 2) = (-1 : Int32) then (bX0_parse_29l F F ((0 : Int32), S4)) else (some S4)))))
set_option maxRecDepth 20000 in
theorem fX0_parse_ok {X : gX} {F : Nat} {R : gS} {S : gS} (h : fX0_parse F S = some R) : G X RX0 cX0_parse 3 none 2 none R 0 [(0, .ref (X.1 + 1))] [] S := by
  unfold fX0_parse at h
  refine g_aload_n dX0_parse_0 0 rfl rfl ?_
  refine g_lconst (v := 0) dX0_parse_1 (by decide) ?_
  obtain ⟨S1, eS1, h⟩ := gle h
  refine g_putj dX0_parse_2 lp_X0_22 sf_1_3 eS1 ?_
  refine g_aload_n dX0_parse_5 0 rfl rfl ?_
  refine g_lconst (v := 0) dX0_parse_6 (by decide) ?_
  obtain ⟨S2, eS2, h⟩ := gle h
  refine g_putj dX0_parse_7 lp_X0_26 sf_1_4 eS2 ?_
  refine g_aload_n dX0_parse_10 0 rfl rfl ?_
  refine g_aload_n dX0_parse_11 0 rfl rfl ?_
  obtain ⟨q3, hq3, h⟩ := gb h
  refine g_callVi [] [.ref (X.1 + 1)] dX0_parse_12 mk_X0_36 so_1 (ctX0_seekFault hq3) rfl (by decide) rfl (Nat.le_of_ble_eq_true rfl) ?_
  obtain ⟨S4, eS4, h⟩ := gle h
  refine g_puti dX0_parse_15 lp_X0_19 sf_1_2 eS4 ?_
  refine g_aload_n dX0_parse_18 0 rfl rfl ?_
  refine g_geti dX0_parse_19 lk_X0_19 sf_1_2 ?_
  refine g_iconst (v := -1) dX0_parse_22 (by decide) ?_
  refine g_icmp_eq (tgt := 27) dX0_parse_23 (by decide) (fun hc5 => ?_) (fun hc5 => ?_)
  · replace h := git hc5 h
    refine g_iconst (v := 0) dX0_parse_27 (by decide) ?_
    refine g_istore_n (lv' := [(1, .int (0 : Int32)), (0, .ref (X.1 + 1))]) dX0_parse_28 rfl rfl (by decide) rfl ?_
    refine g_sub [1, 0] rfl ?_
    exact bX0_parse_29l_ok F ((0 : Int32), S4) h
  · replace h := gif hc5 h
    obtain rfl := Option.some.inj h
    exact g_vret dX0_parse_26 rfl
theorem ctX0_parse {X : gX} {F : Nat} {R : gS} {S : gS} (h : fX0_parse F S = some R) : g_C X yX0_parse cX0_parse 3 none 2 [.ref (X.1 + 1)] S none R :=
  g_met (by decide) (Nat.le_of_ble_eq_true rfl) (fX0_parse_ok h)
noncomputable def fX0_append (F : Nat) (a0 : Int32) (S : gS) : Option (Int32 × gS) := if (g_I S 1 1) < (75 : Int32) then (g_chk (g_I S 1 1) 75 (gl (g_setI S 2 ((g_I S 1 1)).toNatClampNeg a0) (fun S3 : gS => gl (g_setI S3 1 1 ((g_I S3 1 1) + (1 : Int32))) (fun S4 : gS => (fX0_parse F S4).bind (fun q5 : gS => some ((1 : Int32), q5)))))) else (some ((0 : Int32), S))
set_option maxRecDepth 20000 in
theorem fX0_append_ok {X : gX} {F : Nat} {R : Int32 × gS} {a0 : Int32} {S : gS} (h : fX0_append F a0 S = some R) : G X RX0 cX0_append 2 (some .boolean) 3 (some (.int R.1)) R.2 0 [(0, .ref (X.1 + 1)), (1, .int a0)] [] S := by
  unfold fX0_append at h
  refine g_aload_n dX0_append_0 0 rfl rfl ?_
  refine g_geti dX0_append_1 lk_X0_15 sf_1_1 ?_
  refine g_bipush (v := 75) dX0_append_4 (by decide) ?_
  refine g_icmp_lt (tgt := 11) dX0_append_6 (by decide) (fun hc1 => ?_) (fun hc1 => ?_)
  · replace h := git hc1 h
    refine g_aload_n dX0_append_11 0 rfl rfl ?_
    refine g_getr dX0_append_12 lk_X0_11 sf_1_0 ?_
    refine g_aload_n dX0_append_15 0 rfl rfl ?_
    refine g_geti dX0_append_16 lk_X0_15 sf_1_1 ?_
    refine g_iload_n dX0_append_19 1 rfl rfl ?_
    obtain ⟨hv2, h⟩ := gchk h
    obtain ⟨S3, eS3, h⟩ := gle h
    refine g_iast dX0_append_20 sa_2 hv2 eS3 ?_
    refine g_aload_n dX0_append_21 0 rfl rfl ?_
    refine g_dup dX0_append_22 rfl ?_
    refine g_geti dX0_append_23 lk_X0_15 sf_1_1 ?_
    refine g_iconst (v := 1) dX0_append_26 (by decide) ?_
    refine g_iadd dX0_append_27 ?_
    obtain ⟨S4, eS4, h⟩ := gle h
    refine g_puti dX0_append_28 lp_X0_15 sf_1_1 eS4 ?_
    refine g_aload_n dX0_append_31 0 rfl rfl ?_
    obtain ⟨q5, hq5, h⟩ := gb h
    refine g_callVv [] [] dX0_append_32 mk_X0_29 so_1 (ctX0_parse hq5) rfl (by decide) rfl (Nat.le_of_ble_eq_true rfl) ?_
    refine g_iconst (v := 1) dX0_append_35 (by decide) ?_
    obtain rfl := Option.some.inj h
    exact g_zret dX0_append_36 rfl narrow_b1
  · replace h := gif hc1 h
    refine g_iconst (v := 0) dX0_append_9 (by decide) ?_
    obtain rfl := Option.some.inj h
    exact g_zret dX0_append_10 rfl narrow_b0
theorem ctX0_append {X : gX} {F : Nat} {R : Int32 × gS} {a0 : Int32} {S : gS} (h : fX0_append F a0 S = some R) : g_C X yX0_append cX0_append 2 (some .boolean) 3 [.ref (X.1 + 1), .int a0] S (some (.int R.1)) R.2 :=
  g_met (by decide) (Nat.le_of_ble_eq_true rfl) (fX0_append_ok h)
noncomputable def fX0_empty (F : Nat) (S : gS) : Option (gS) := gl (g_setI S 1 1 (0 : Int32)) (fun S1 : gS => (fX0_parse F S1).bind (fun q2 : gS => some q2))
set_option maxRecDepth 20000 in
theorem fX0_empty_ok {X : gX} {F : Nat} {R : gS} {S : gS} (h : fX0_empty F S = some R) : G X RX0 cX0_empty 1 none 3 none R 0 [(0, .ref (X.1 + 1))] [] S := by
  unfold fX0_empty at h
  refine g_aload_n dX0_empty_0 0 rfl rfl ?_
  refine g_iconst (v := 0) dX0_empty_1 (by decide) ?_
  obtain ⟨S1, eS1, h⟩ := gle h
  refine g_puti dX0_empty_2 lp_X0_15 sf_1_1 eS1 ?_
  refine g_aload_n dX0_empty_5 0 rfl rfl ?_
  obtain ⟨q2, hq2, h⟩ := gb h
  refine g_callVv [] [] dX0_empty_6 mk_X0_29 so_1 (ctX0_parse hq2) rfl (by decide) rfl (Nat.le_of_ble_eq_true rfl) ?_
  obtain rfl := Option.some.inj h
  exact g_vret dX0_empty_9 rfl
theorem ctX0_empty {X : gX} {F : Nat} {R : gS} {S : gS} (h : fX0_empty F S = some R) : g_C X yX0_empty cX0_empty 1 none 3 [.ref (X.1 + 1)] S none R :=
  g_met (by decide) (Nat.le_of_ble_eq_true rfl) (fX0_empty_ok h)
noncomputable def fX7_has (F : Nat) (a0 : Int64) (a1 : Int32) (S : gS) : Option (Int32 × gS) := if (lg_cmp (((a0).toUInt64 >>> ((a1).toInt64.toUInt64 &&& Int64.toUInt64 63)).toInt64 &&& (1 : Int64)) (0 : Int64)) = 0 then (some ((0 : Int32), S)) else (some ((1 : Int32), S))
set_option maxRecDepth 20000 in
theorem fX7_has_ok {X : gX} {F : Nat} {R : Int32 × gS} {a0 : Int64} {a1 : Int32} {S : gS} (h : fX7_has F a0 a1 S = some R) : G X RX7 cX7_has 3 (some .boolean) 0 (some (.int R.1)) R.2 0 [(0, .long a0), (2, .int a1)] [] S := by
  unfold fX7_has at h
  refine g_lload_n dX7_has_0 0 rfl rfl ?_
  refine g_iload_n dX7_has_1 1 rfl rfl ?_
  refine g_lushr dX7_has_2 ?_
  refine g_lconst (v := 1) dX7_has_3 (by decide) ?_
  refine g_land dX7_has_4 ?_
  refine g_lconst (v := 0) dX7_has_5 (by decide) ?_
  refine g_lcmp dX7_has_6 ?_
  refine g_if_eq (tgt := 14) dX7_has_7 (by decide) (fun hc1 => ?_) (fun hc1 => ?_)
  · replace h := git hc1 h
    refine g_iconst (v := 0) dX7_has_14 (by decide) ?_
    obtain rfl := Option.some.inj h
    exact g_zret dX7_has_15 rfl narrow_b0
  · replace h := gif hc1 h
    refine g_iconst (v := 1) dX7_has_10 (by decide) ?_
    refine g_goto (tgt := 15) dX7_has_11 (by decide) ?_
    obtain rfl := Option.some.inj h
    exact g_zret dX7_has_15 rfl narrow_b1
theorem ctX7_has {X : gX} {F : Nat} {R : Int32 × gS} {a0 : Int64} {a1 : Int32} {S : gS} (h : fX7_has F a0 a1 S = some R) : g_C X yX7_has cX7_has 3 (some .boolean) 0 [.long a0, .int a1] S (some (.int R.1)) R.2 :=
  g_met (by decide) (Nat.le_of_ble_eq_true rfl) (fX7_has_ok h)
noncomputable def fX0_kindOf (F : Nat) (a0 : Int32) (S : gS) : Option (Int32 × gS) := (fX7_has F (g_J S 1 3) a0 S).bind (fun q1 : Int32 × gS => if q1.1 = 0 then ((fX7_has F (g_J q1.2 1 4) a0 q1.2).bind (fun q3 : Int32 × gS => if q3.1 = 0 then (some ((0 : Int32), q3.2)) else (some ((2 : Int32), q3.2)))) else (some ((1 : Int32), q1.2)))
set_option maxRecDepth 20000 in
theorem fX0_kindOf_ok {X : gX} {F : Nat} {R : Int32 × gS} {a0 : Int32} {S : gS} (h : fX0_kindOf F a0 S = some R) : G X RX0 cX0_kindOf 2 (some .int) 1 (some (.int R.1)) R.2 0 [(0, .ref (X.1 + 1)), (1, .int a0)] [] S := by
  unfold fX0_kindOf at h
  refine g_aload_n dX0_kindOf_0 0 rfl rfl ?_
  refine g_getj dX0_kindOf_1 lk_X0_22 sf_1_3 ?_
  refine g_iload_n dX0_kindOf_4 1 rfl rfl ?_
  obtain ⟨q1, hq1, h⟩ := gb h
  refine g_callSi [.long (g_J S 1 3), .int a0] [] dX0_kindOf_5 mk_X0_32 (ctX7_has hq1) rfl (by decide) rfl (Nat.le_of_ble_eq_true rfl) ?_
  refine g_if_eq (tgt := 15) dX0_kindOf_8 (by decide) (fun hc2 => ?_) (fun hc2 => ?_)
  · replace h := git hc2 h
    refine g_aload_n dX0_kindOf_15 0 rfl rfl ?_
    refine g_getj dX0_kindOf_16 lk_X0_26 sf_1_4 ?_
    refine g_iload_n dX0_kindOf_19 1 rfl rfl ?_
    obtain ⟨q3, hq3, h⟩ := gb h
    refine g_callSi [.long (g_J q1.2 1 4), .int a0] [] dX0_kindOf_20 mk_X0_32 (ctX7_has hq3) rfl (by decide) rfl (Nat.le_of_ble_eq_true rfl) ?_
    refine g_if_eq (tgt := 30) dX0_kindOf_23 (by decide) (fun hc4 => ?_) (fun hc4 => ?_)
    · replace h := git hc4 h
      refine g_iconst (v := 0) dX0_kindOf_30 (by decide) ?_
      obtain rfl := Option.some.inj h
      exact g_iret dX0_kindOf_31 rfl
    · replace h := gif hc4 h
      refine g_iconst (v := 2) dX0_kindOf_26 (by decide) ?_
      refine g_goto (tgt := 31) dX0_kindOf_27 (by decide) ?_
      obtain rfl := Option.some.inj h
      exact g_iret dX0_kindOf_31 rfl
  · replace h := gif hc2 h
    refine g_iconst (v := 1) dX0_kindOf_11 (by decide) ?_
    refine g_goto (tgt := 31) dX0_kindOf_12 (by decide) ?_
    obtain rfl := Option.some.inj h
    exact g_iret dX0_kindOf_31 rfl
theorem ctX0_kindOf {X : gX} {F : Nat} {R : Int32 × gS} {a0 : Int32} {S : gS} (h : fX0_kindOf F a0 S = some R) : g_C X yX0_kindOf cX0_kindOf 2 (some .int) 1 [.ref (X.1 + 1), .int a0] S (some (.int R.1)) R.2 :=
  g_met (by decide) (Nat.le_of_ble_eq_true rfl) (fX0_kindOf_ok h)
noncomputable def bX1_addSnow_63 (F : Nat) (k6 : (Int32 × Int64 × Int32 × Int32 × gS) → Option (Int32 × gS)) (x1 : Int32) (x2 : Int64) (x4 : Int32) (x5 : Int32) (x6 : Int32) (S : gS) : Option (Int32 × gS) := g_chk x5 64 (gl (g_setI S 4 (x5).toNatClampNeg x6) (fun S2 : gS => gl (x5 + 1) (fun v3 : Int32 => k6 (x1, x2, x4, v3, S2))))
set_option maxRecDepth 20000 in
theorem bX1_addSnow_63_ok {X : gX} {F : Nat} {k6 : (Int32 × Int64 × Int32 × Int32 × gS) → Option (Int32 × gS)} {R : Int32 × gS} (H6 : ∀ s : Int32 × Int64 × Int32 × Int32 × gS, k6 s = some R → G X RX1 cX1_addSnow 7 (some .int) 1 (some (.int R.1)) R.2 6 [(0, .ref (X.1 + 3)), (1, .int s.1), (2, .long s.2.1), (4, .int s.2.2.1), (5, .int s.2.2.2.1)] [] s.2.2.2.2) {x1 : Int32} {x2 : Int64} {x4 : Int32} {x5 : Int32} {x6 : Int32} {S : gS} (h : bX1_addSnow_63 F k6 x1 x2 x4 x5 x6 S = some R) : G X RX1 cX1_addSnow 7 (some .int) 1 (some (.int R.1)) R.2 63 [(0, .ref (X.1 + 3)), (1, .int x1), (2, .long x2), (4, .int x4), (5, .int x5), (6, .int x6)] [] S := by
  unfold bX1_addSnow_63 at h
  refine g_aload_n dX1_addSnow_63 0 rfl rfl ?_
  refine g_getr dX1_addSnow_64 lk_X1_9 sf_3_0 ?_
  refine g_iload dX1_addSnow_67 4 rfl ?_
  refine g_iload dX1_addSnow_69 5 rfl ?_
  obtain ⟨hv1, h⟩ := gchk h
  obtain ⟨S2, eS2, h⟩ := gle h
  refine g_iast dX1_addSnow_71 sa_4 hv1 eS2 ?_
  obtain ⟨v3, ev3, h⟩ := gle h
  refine g_iinc (q := 4) (v := v3) (lv' := [(5, .int v3), (0, .ref (X.1 + 3)), (1, .int x1), (2, .long x2), (4, .int x4), (6, .int x6)]) dX1_addSnow_72 rfl (by rw [← ev3]; rfl) (by decide) rfl ?_
  refine g_goto (tgt := 6) dX1_addSnow_75 (by decide) ?_
  refine g_sub [1, 2, 3, 4, 0] rfl ?_
  exact H6 (x1, x2, x4, v3, S2) h
noncomputable def bX1_addSnow_46 (F : Nat) (k6 : (Int32 × Int64 × Int32 × Int32 × gS) → Option (Int32 × gS)) (x1 : Int32) (x2 : Int64) (x4 : Int32) (x5 : Int32) (t0 : Int32) (S : gS) : Option (Int32 × gS) := g_chk x5 64 (if t0 ≤ (g_I S 4 (x5).toNatClampNeg) then (bX1_addSnow_63 F k6 x1 x2 x4 x5 t0 S) else (gl (x4 + 1) (fun v3 : Int32 => bX1_addSnow_63 F k6 x1 x2 v3 x5 t0 S)))
set_option maxRecDepth 20000 in
theorem bX1_addSnow_46_ok {X : gX} {F : Nat} {k6 : (Int32 × Int64 × Int32 × Int32 × gS) → Option (Int32 × gS)} {R : Int32 × gS} (H6 : ∀ s : Int32 × Int64 × Int32 × Int32 × gS, k6 s = some R → G X RX1 cX1_addSnow 7 (some .int) 1 (some (.int R.1)) R.2 6 [(0, .ref (X.1 + 3)), (1, .int s.1), (2, .long s.2.1), (4, .int s.2.2.1), (5, .int s.2.2.2.1)] [] s.2.2.2.2) {x1 : Int32} {x2 : Int64} {x4 : Int32} {x5 : Int32} {t0 : Int32} {S : gS} (h : bX1_addSnow_46 F k6 x1 x2 x4 x5 t0 S = some R) : G X RX1 cX1_addSnow 7 (some .int) 1 (some (.int R.1)) R.2 46 [(0, .ref (X.1 + 3)), (1, .int x1), (2, .long x2), (4, .int x4), (5, .int x5)] [.int t0] S := by
  unfold bX1_addSnow_46 at h
  refine g_istore (lv' := [(6, .int t0), (0, .ref (X.1 + 3)), (1, .int x1), (2, .long x2), (4, .int x4), (5, .int x5)]) dX1_addSnow_46 rfl (by decide) rfl ?_
  refine g_iload dX1_addSnow_48 0 rfl ?_
  refine g_aload_n dX1_addSnow_50 1 rfl rfl ?_
  refine g_getr dX1_addSnow_51 lk_X1_9 sf_3_0 ?_
  refine g_iload dX1_addSnow_54 5 rfl ?_
  obtain ⟨hv1, h⟩ := gchk h
  refine g_iald dX1_addSnow_56 sa_4 hv1 ?_
  refine g_icmp_le (tgt := 63) dX1_addSnow_57 (by decide) (fun hc2 => ?_) (fun hc2 => ?_)
  · replace h := git hc2 h
    refine g_sub [1, 2, 3, 4, 5, 0] rfl ?_
    exact bX1_addSnow_63_ok H6 h
  · replace h := gif hc2 h
    obtain ⟨v3, ev3, h⟩ := gle h
    refine g_iinc (q := 4) (v := v3) (lv' := [(4, .int v3), (6, .int t0), (0, .ref (X.1 + 3)), (1, .int x1), (2, .long x2), (5, .int x5)]) dX1_addSnow_60 rfl (by rw [← ev3]; rfl) (by decide) rfl ?_
    refine g_sub [2, 3, 4, 0, 5, 1] rfl ?_
    exact bX1_addSnow_63_ok H6 h
noncomputable def bX1_addSnow_6 (F : Nat) (k6 : (Int32 × Int64 × Int32 × Int32 × gS) → Option (Int32 × gS)) (x1 : Int32) (x2 : Int64) (x4 : Int32) (x5 : Int32) (S : gS) : Option (Int32 × gS) := if (64 : Int32) ≤ x5 then (some (x4, S)) else ((fX7_has F x2 x5 S).bind (fun q2 : Int32 × gS => if q2.1 = 0 then (g_chk x5 64 (bX1_addSnow_46 F k6 x1 x2 x4 x5 (if ((g_I q2.2 4 (x5).toNatClampNeg) + x1) < (30 : Int32) then ((g_I q2.2 4 (x5).toNatClampNeg) + x1) else (30 : Int32)) q2.2)) else (g_chk x5 64 (bX1_addSnow_46 F k6 x1 x2 x4 x5 (g_I q2.2 4 (x5).toNatClampNeg) q2.2))))
set_option maxRecDepth 20000 in
theorem bX1_addSnow_6_ok {X : gX} {F : Nat} {k6 : (Int32 × Int64 × Int32 × Int32 × gS) → Option (Int32 × gS)} {R : Int32 × gS} (H6 : ∀ s : Int32 × Int64 × Int32 × Int32 × gS, k6 s = some R → G X RX1 cX1_addSnow 7 (some .int) 1 (some (.int R.1)) R.2 6 [(0, .ref (X.1 + 3)), (1, .int s.1), (2, .long s.2.1), (4, .int s.2.2.1), (5, .int s.2.2.2.1)] [] s.2.2.2.2) {x1 : Int32} {x2 : Int64} {x4 : Int32} {x5 : Int32} {S : gS} (h : bX1_addSnow_6 F k6 x1 x2 x4 x5 S = some R) : G X RX1 cX1_addSnow 7 (some .int) 1 (some (.int R.1)) R.2 6 [(0, .ref (X.1 + 3)), (1, .int x1), (2, .long x2), (4, .int x4), (5, .int x5)] [] S := by
  unfold bX1_addSnow_6 at h
  refine g_iload dX1_addSnow_6 4 rfl ?_
  refine g_bipush (v := 64) dX1_addSnow_8 (by decide) ?_
  refine g_icmp_ge (tgt := 78) dX1_addSnow_10 (by decide) (fun hc1 => ?_) (fun hc1 => ?_)
  · replace h := git hc1 h
    refine g_iload dX1_addSnow_78 3 rfl ?_
    obtain rfl := Option.some.inj h
    exact g_iret dX1_addSnow_80 rfl
  · replace h := gif hc1 h
    refine g_lload_n dX1_addSnow_13 2 rfl rfl ?_
    refine g_iload dX1_addSnow_14 4 rfl ?_
    obtain ⟨q2, hq2, h⟩ := gb h
    refine g_callSi [.long x2, .int x5] [] dX1_addSnow_16 mk_X1_27 (ctX7_has hq2) rfl (by decide) rfl (Nat.le_of_ble_eq_true rfl) ?_
    refine g_if_eq (tgt := 32) dX1_addSnow_19 (by decide) (fun hc3 => ?_) (fun hc3 => ?_)
    · replace h := git hc3 h
      refine g_bipush (v := 30) dX1_addSnow_32 (by decide) ?_
      refine g_aload_n dX1_addSnow_34 0 rfl rfl ?_
      refine g_getr dX1_addSnow_35 lk_X1_9 sf_3_0 ?_
      refine g_iload dX1_addSnow_38 4 rfl ?_
      obtain ⟨hv4, h⟩ := gchk h
      refine g_iald dX1_addSnow_40 sa_4 hv4 ?_
      refine g_iload_n dX1_addSnow_41 1 rfl rfl ?_
      refine g_iadd dX1_addSnow_42 ?_
      refine g_mmin dX1_addSnow_43 mm_X1_31 (by decide) (Nat.le_of_ble_eq_true rfl) ?_
      exact bX1_addSnow_46_ok H6 h
    · replace h := gif hc3 h
      refine g_aload_n dX1_addSnow_22 0 rfl rfl ?_
      refine g_getr dX1_addSnow_23 lk_X1_9 sf_3_0 ?_
      refine g_iload dX1_addSnow_26 4 rfl ?_
      obtain ⟨hv5, h⟩ := gchk h
      refine g_iald dX1_addSnow_28 sa_4 hv5 ?_
      refine g_goto (tgt := 46) dX1_addSnow_29 (by decide) ?_
      exact bX1_addSnow_46_ok H6 h
noncomputable def bX1_addSnow_6l (F : Nat) : Nat → (Int32 × Int64 × Int32 × Int32 × gS) → Option (Int32 × gS) := g_fix (fun k6 s => bX1_addSnow_6 F k6 s.1 s.2.1 s.2.2.1 s.2.2.2.1 s.2.2.2.2)
theorem bX1_addSnow_6l_ok {X : gX} {F : Nat} {R : Int32 × gS} : ∀ (n : Nat) (s : Int32 × Int64 × Int32 × Int32 × gS), bX1_addSnow_6l F n s = some R → G X RX1 cX1_addSnow 7 (some .int) 1 (some (.int R.1)) R.2 6 [(0, .ref (X.1 + 3)), (1, .int s.1), (2, .long s.2.1), (4, .int s.2.2.1), (5, .int s.2.2.2.1)] [] s.2.2.2.2 := by
  intro n
  induction n with
  | zero => intro s h; cases h
  | succ n ih => intro s h; exact bX1_addSnow_6_ok (F := F) ih h
noncomputable def fX1_addSnow (F : Nat) (a0 : Int32) (a1 : Int64) (S : gS) : Option (Int32 × gS) := bX1_addSnow_6l F F (a0, a1, (0 : Int32), (0 : Int32), S)
set_option maxRecDepth 20000 in
theorem fX1_addSnow_ok {X : gX} {F : Nat} {R : Int32 × gS} {a0 : Int32} {a1 : Int64} {S : gS} (h : fX1_addSnow F a0 a1 S = some R) : G X RX1 cX1_addSnow 7 (some .int) 1 (some (.int R.1)) R.2 0 [(0, .ref (X.1 + 3)), (1, .int a0), (2, .long a1)] [] S := by
  unfold fX1_addSnow at h
  refine g_iconst (v := 0) dX1_addSnow_0 (by decide) ?_
  refine g_istore (lv' := [(4, .int (0 : Int32)), (0, .ref (X.1 + 3)), (1, .int a0), (2, .long a1)]) dX1_addSnow_1 rfl (by decide) rfl ?_
  refine g_iconst (v := 0) dX1_addSnow_3 (by decide) ?_
  refine g_istore (lv' := [(5, .int (0 : Int32)), (4, .int (0 : Int32)), (0, .ref (X.1 + 3)), (1, .int a0), (2, .long a1)]) dX1_addSnow_4 rfl (by decide) rfl ?_
  refine g_sub [2, 3, 4, 1, 0] rfl ?_
  exact bX1_addSnow_6l_ok F (a0, a1, (0 : Int32), (0 : Int32), S) h
theorem ctX1_addSnow {X : gX} {F : Nat} {R : Int32 × gS} {a0 : Int32} {a1 : Int64} {S : gS} (h : fX1_addSnow F a0 a1 S = some R) : g_C X yX1_addSnow cX1_addSnow 7 (some .int) 1 [.ref (X.1 + 3), .int a0, .long a1] S (some (.int R.1)) R.2 :=
  g_met (by decide) (Nat.le_of_ble_eq_true rfl) (fX1_addSnow_ok h)
noncomputable def bX1_melt_44 (F : Nat) (k4 : (Int32 × Int32 × Int32 × gS) → Option (Int32 × gS)) (x1 : Int32) (x2 : Int32) (x3 : Int32) (S : gS) : Option (Int32 × gS) := g_chk x3 64 (g_chk x3 64 (gl (g_setI S 4 (x3).toNatClampNeg (if (0 : Int32) < ((g_I S 4 (x3).toNatClampNeg) - x1) then ((g_I S 4 (x3).toNatClampNeg) - x1) else (0 : Int32))) (fun S3 : gS => g_chk x3 64 (g_chk x3 64 (gl (g_setI S3 5 (x3).toNatClampNeg (if (0 : Int32) < ((g_I S3 5 (x3).toNatClampNeg) - x1) then ((g_I S3 5 (x3).toNatClampNeg) - x1) else (0 : Int32))) (fun S6 : gS => g_chk x3 64 (g_chk x3 64 (gl (g_setI S6 6 (x3).toNatClampNeg (if (0 : Int32) < ((g_I S6 6 (x3).toNatClampNeg) - x1) then ((g_I S6 6 (x3).toNatClampNeg) - x1) else (0 : Int32))) (fun S9 : gS => gl (x3 + 1) (fun v10 : Int32 => k4 (x1, x2, v10, S9)))))))))))
set_option maxRecDepth 20000 in
theorem bX1_melt_44_ok {X : gX} {F : Nat} {k4 : (Int32 × Int32 × Int32 × gS) → Option (Int32 × gS)} {R : Int32 × gS} (H4 : ∀ s : Int32 × Int32 × Int32 × gS, k4 s = some R → G X RX1 cX1_melt 4 (some .int) 1 (some (.int R.1)) R.2 4 [(0, .ref (X.1 + 3)), (1, .int s.1), (2, .int s.2.1), (3, .int s.2.2.1)] [] s.2.2.2) {x1 : Int32} {x2 : Int32} {x3 : Int32} {S : gS} (h : bX1_melt_44 F k4 x1 x2 x3 S = some R) : G X RX1 cX1_melt 4 (some .int) 1 (some (.int R.1)) R.2 44 [(0, .ref (X.1 + 3)), (1, .int x1), (2, .int x2), (3, .int x3)] [] S := by
  unfold bX1_melt_44 at h
  refine g_aload_n dX1_melt_44 0 rfl rfl ?_
  refine g_getr dX1_melt_45 lk_X1_9 sf_3_0 ?_
  refine g_iload_n dX1_melt_48 3 rfl rfl ?_
  refine g_iconst (v := 0) dX1_melt_49 (by decide) ?_
  refine g_aload_n dX1_melt_50 0 rfl rfl ?_
  refine g_getr dX1_melt_51 lk_X1_9 sf_3_0 ?_
  refine g_iload_n dX1_melt_54 3 rfl rfl ?_
  obtain ⟨hv1, h⟩ := gchk h
  refine g_iald dX1_melt_55 sa_4 hv1 ?_
  refine g_iload_n dX1_melt_56 1 rfl rfl ?_
  refine g_isub dX1_melt_57 ?_
  refine g_mmax dX1_melt_58 mm_X1_37 (by decide) (Nat.le_of_ble_eq_true rfl) ?_
  obtain ⟨hv2, h⟩ := gchk h
  obtain ⟨S3, eS3, h⟩ := gle h
  refine g_iast dX1_melt_61 sa_4 hv2 eS3 ?_
  refine g_aload_n dX1_melt_62 0 rfl rfl ?_
  refine g_getr dX1_melt_63 lk_X1_15 sf_3_1 ?_
  refine g_iload_n dX1_melt_66 3 rfl rfl ?_
  refine g_iconst (v := 0) dX1_melt_67 (by decide) ?_
  refine g_aload_n dX1_melt_68 0 rfl rfl ?_
  refine g_getr dX1_melt_69 lk_X1_15 sf_3_1 ?_
  refine g_iload_n dX1_melt_72 3 rfl rfl ?_
  obtain ⟨hv4, h⟩ := gchk h
  refine g_iald dX1_melt_73 sa_5 hv4 ?_
  refine g_iload_n dX1_melt_74 1 rfl rfl ?_
  refine g_isub dX1_melt_75 ?_
  refine g_mmax dX1_melt_76 mm_X1_37 (by decide) (Nat.le_of_ble_eq_true rfl) ?_
  obtain ⟨hv5, h⟩ := gchk h
  obtain ⟨S6, eS6, h⟩ := gle h
  refine g_iast dX1_melt_79 sa_5 hv5 eS6 ?_
  refine g_aload_n dX1_melt_80 0 rfl rfl ?_
  refine g_getr dX1_melt_81 lk_X1_18 sf_3_2 ?_
  refine g_iload_n dX1_melt_84 3 rfl rfl ?_
  refine g_iconst (v := 0) dX1_melt_85 (by decide) ?_
  refine g_aload_n dX1_melt_86 0 rfl rfl ?_
  refine g_getr dX1_melt_87 lk_X1_18 sf_3_2 ?_
  refine g_iload_n dX1_melt_90 3 rfl rfl ?_
  obtain ⟨hv7, h⟩ := gchk h
  refine g_iald dX1_melt_91 sa_6 hv7 ?_
  refine g_iload_n dX1_melt_92 1 rfl rfl ?_
  refine g_isub dX1_melt_93 ?_
  refine g_mmax dX1_melt_94 mm_X1_37 (by decide) (Nat.le_of_ble_eq_true rfl) ?_
  obtain ⟨hv8, h⟩ := gchk h
  obtain ⟨S9, eS9, h⟩ := gle h
  refine g_iast dX1_melt_97 sa_6 hv8 eS9 ?_
  obtain ⟨v10, ev10, h⟩ := gle h
  refine g_iinc (q := 3) (v := v10) (lv' := [(3, .int v10), (0, .ref (X.1 + 3)), (1, .int x1), (2, .int x2)]) dX1_melt_98 rfl (by rw [← ev10]; rfl) (by decide) rfl ?_
  refine g_goto (tgt := 4) dX1_melt_101 (by decide) ?_
  refine g_sub [1, 2, 3, 0] rfl ?_
  exact H4 (x1, x2, v10, S9) h
noncomputable def bX1_melt_41 (F : Nat) (k4 : (Int32 × Int32 × Int32 × gS) → Option (Int32 × gS)) (x1 : Int32) (x2 : Int32) (x3 : Int32) (S : gS) : Option (Int32 × gS) := gl (x2 + 1) (fun v1 : Int32 => bX1_melt_44 F k4 x1 v1 x3 S)
set_option maxRecDepth 20000 in
theorem bX1_melt_41_ok {X : gX} {F : Nat} {k4 : (Int32 × Int32 × Int32 × gS) → Option (Int32 × gS)} {R : Int32 × gS} (H4 : ∀ s : Int32 × Int32 × Int32 × gS, k4 s = some R → G X RX1 cX1_melt 4 (some .int) 1 (some (.int R.1)) R.2 4 [(0, .ref (X.1 + 3)), (1, .int s.1), (2, .int s.2.1), (3, .int s.2.2.1)] [] s.2.2.2) {x1 : Int32} {x2 : Int32} {x3 : Int32} {S : gS} (h : bX1_melt_41 F k4 x1 x2 x3 S = some R) : G X RX1 cX1_melt 4 (some .int) 1 (some (.int R.1)) R.2 41 [(0, .ref (X.1 + 3)), (1, .int x1), (2, .int x2), (3, .int x3)] [] S := by
  unfold bX1_melt_41 at h
  obtain ⟨v1, ev1, h⟩ := gle h
  refine g_iinc (q := 2) (v := v1) (lv' := [(2, .int v1), (0, .ref (X.1 + 3)), (1, .int x1), (3, .int x3)]) dX1_melt_41 rfl (by rw [← ev1]; rfl) (by decide) rfl ?_
  refine g_sub [1, 2, 0, 3] rfl ?_
  exact bX1_melt_44_ok H4 h
noncomputable def bX1_melt_4 (F : Nat) (k4 : (Int32 × Int32 × Int32 × gS) → Option (Int32 × gS)) (x1 : Int32) (x2 : Int32) (x3 : Int32) (S : gS) : Option (Int32 × gS) := if (64 : Int32) ≤ x3 then (some (x2, S)) else (if x1 ≤ 0 then (bX1_melt_44 F k4 x1 x2 x3 S) else (g_chk x3 64 (if 0 < (g_I S 4 (x3).toNatClampNeg) then (bX1_melt_41 F k4 x1 x2 x3 S) else (g_chk x3 64 (if 0 < (g_I S 5 (x3).toNatClampNeg) then (bX1_melt_41 F k4 x1 x2 x3 S) else (g_chk x3 64 (if (g_I S 6 (x3).toNatClampNeg) ≤ 0 then (bX1_melt_44 F k4 x1 x2 x3 S) else (bX1_melt_41 F k4 x1 x2 x3 S))))))))
set_option maxRecDepth 20000 in
theorem bX1_melt_4_ok {X : gX} {F : Nat} {k4 : (Int32 × Int32 × Int32 × gS) → Option (Int32 × gS)} {R : Int32 × gS} (H4 : ∀ s : Int32 × Int32 × Int32 × gS, k4 s = some R → G X RX1 cX1_melt 4 (some .int) 1 (some (.int R.1)) R.2 4 [(0, .ref (X.1 + 3)), (1, .int s.1), (2, .int s.2.1), (3, .int s.2.2.1)] [] s.2.2.2) {x1 : Int32} {x2 : Int32} {x3 : Int32} {S : gS} (h : bX1_melt_4 F k4 x1 x2 x3 S = some R) : G X RX1 cX1_melt 4 (some .int) 1 (some (.int R.1)) R.2 4 [(0, .ref (X.1 + 3)), (1, .int x1), (2, .int x2), (3, .int x3)] [] S := by
  unfold bX1_melt_4 at h
  refine g_iload_n dX1_melt_4 3 rfl rfl ?_
  refine g_bipush (v := 64) dX1_melt_5 (by decide) ?_
  refine g_icmp_ge (tgt := 104) dX1_melt_7 (by decide) (fun hc1 => ?_) (fun hc1 => ?_)
  · replace h := git hc1 h
    refine g_iload_n dX1_melt_104 2 rfl rfl ?_
    obtain rfl := Option.some.inj h
    exact g_iret dX1_melt_105 rfl
  · replace h := gif hc1 h
    refine g_iload_n dX1_melt_10 1 rfl rfl ?_
    refine g_if_le (tgt := 44) dX1_melt_11 (by decide) (fun hc2 => ?_) (fun hc2 => ?_)
    · replace h := git hc2 h
      exact bX1_melt_44_ok H4 h
    · replace h := gif hc2 h
      refine g_aload_n dX1_melt_14 0 rfl rfl ?_
      refine g_getr dX1_melt_15 lk_X1_9 sf_3_0 ?_
      refine g_iload_n dX1_melt_18 3 rfl rfl ?_
      obtain ⟨hv3, h⟩ := gchk h
      refine g_iald dX1_melt_19 sa_4 hv3 ?_
      refine g_if_gt (tgt := 41) dX1_melt_20 (by decide) (fun hc4 => ?_) (fun hc4 => ?_)
      · replace h := git hc4 h
        exact bX1_melt_41_ok H4 h
      · replace h := gif hc4 h
        refine g_aload_n dX1_melt_23 0 rfl rfl ?_
        refine g_getr dX1_melt_24 lk_X1_15 sf_3_1 ?_
        refine g_iload_n dX1_melt_27 3 rfl rfl ?_
        obtain ⟨hv5, h⟩ := gchk h
        refine g_iald dX1_melt_28 sa_5 hv5 ?_
        refine g_if_gt (tgt := 41) dX1_melt_29 (by decide) (fun hc6 => ?_) (fun hc6 => ?_)
        · replace h := git hc6 h
          exact bX1_melt_41_ok H4 h
        · replace h := gif hc6 h
          refine g_aload_n dX1_melt_32 0 rfl rfl ?_
          refine g_getr dX1_melt_33 lk_X1_18 sf_3_2 ?_
          refine g_iload_n dX1_melt_36 3 rfl rfl ?_
          obtain ⟨hv7, h⟩ := gchk h
          refine g_iald dX1_melt_37 sa_6 hv7 ?_
          refine g_if_le (tgt := 44) dX1_melt_38 (by decide) (fun hc8 => ?_) (fun hc8 => ?_)
          · replace h := git hc8 h
            exact bX1_melt_44_ok H4 h
          · replace h := gif hc8 h
            exact bX1_melt_41_ok H4 h
noncomputable def bX1_melt_4l (F : Nat) : Nat → (Int32 × Int32 × Int32 × gS) → Option (Int32 × gS) := g_fix (fun k4 s => bX1_melt_4 F k4 s.1 s.2.1 s.2.2.1 s.2.2.2)
theorem bX1_melt_4l_ok {X : gX} {F : Nat} {R : Int32 × gS} : ∀ (n : Nat) (s : Int32 × Int32 × Int32 × gS), bX1_melt_4l F n s = some R → G X RX1 cX1_melt 4 (some .int) 1 (some (.int R.1)) R.2 4 [(0, .ref (X.1 + 3)), (1, .int s.1), (2, .int s.2.1), (3, .int s.2.2.1)] [] s.2.2.2 := by
  intro n
  induction n with
  | zero => intro s h; cases h
  | succ n ih => intro s h; exact bX1_melt_4_ok (F := F) ih h
noncomputable def fX1_melt (F : Nat) (a0 : Int32) (S : gS) : Option (Int32 × gS) := bX1_melt_4l F F (a0, (0 : Int32), (0 : Int32), S)
set_option maxRecDepth 20000 in
theorem fX1_melt_ok {X : gX} {F : Nat} {R : Int32 × gS} {a0 : Int32} {S : gS} (h : fX1_melt F a0 S = some R) : G X RX1 cX1_melt 4 (some .int) 1 (some (.int R.1)) R.2 0 [(0, .ref (X.1 + 3)), (1, .int a0)] [] S := by
  unfold fX1_melt at h
  refine g_iconst (v := 0) dX1_melt_0 (by decide) ?_
  refine g_istore_n (lv' := [(2, .int (0 : Int32)), (0, .ref (X.1 + 3)), (1, .int a0)]) dX1_melt_1 rfl rfl (by decide) rfl ?_
  refine g_iconst (v := 0) dX1_melt_2 (by decide) ?_
  refine g_istore_n (lv' := [(3, .int (0 : Int32)), (2, .int (0 : Int32)), (0, .ref (X.1 + 3)), (1, .int a0)]) dX1_melt_3 rfl rfl (by decide) rfl ?_
  refine g_sub [2, 3, 1, 0] rfl ?_
  exact bX1_melt_4l_ok F (a0, (0 : Int32), (0 : Int32), S) h
theorem ctX1_melt {X : gX} {F : Nat} {R : Int32 × gS} {a0 : Int32} {S : gS} (h : fX1_melt F a0 S = some R) : g_C X yX1_melt cX1_melt 4 (some .int) 1 [.ref (X.1 + 3), .int a0] S (some (.int R.1)) R.2 :=
  g_met (by decide) (Nat.le_of_ble_eq_true rfl) (fX1_melt_ok h)
noncomputable def bX1_freeze_34 (F : Nat) (k4 : (Int32 × Int32 × gS) → Option (Int32 × gS)) (x1 : Int32) (x2 : Int32) (S : gS) : Option (Int32 × gS) := gl (x2 + 1) (fun v1 : Int32 => k4 (x1, v1, S))
set_option maxRecDepth 20000 in
theorem bX1_freeze_34_ok {X : gX} {F : Nat} {k4 : (Int32 × Int32 × gS) → Option (Int32 × gS)} {R : Int32 × gS} (H4 : ∀ s : Int32 × Int32 × gS, k4 s = some R → G X RX1 cX1_freeze 3 (some .int) 0 (some (.int R.1)) R.2 4 [(0, .ref (X.1 + 3)), (1, .int s.1), (2, .int s.2.1)] [] s.2.2) {x1 : Int32} {x2 : Int32} {S : gS} (h : bX1_freeze_34 F k4 x1 x2 S = some R) : G X RX1 cX1_freeze 3 (some .int) 0 (some (.int R.1)) R.2 34 [(0, .ref (X.1 + 3)), (1, .int x1), (2, .int x2)] [] S := by
  unfold bX1_freeze_34 at h
  obtain ⟨v1, ev1, h⟩ := gle h
  refine g_iinc (q := 2) (v := v1) (lv' := [(2, .int v1), (0, .ref (X.1 + 3)), (1, .int x1)]) dX1_freeze_34 rfl (by rw [← ev1]; rfl) (by decide) rfl ?_
  refine g_goto (tgt := 4) dX1_freeze_37 (by decide) ?_
  refine g_sub [1, 2, 0] rfl ?_
  exact H4 (x1, v1, S) h
noncomputable def bX1_freeze_4 (F : Nat) (k4 : (Int32 × Int32 × gS) → Option (Int32 × gS)) (x1 : Int32) (x2 : Int32) (S : gS) : Option (Int32 × gS) := if (64 : Int32) ≤ x2 then (some (x1, S)) else (g_chk x2 64 (g_chk x2 64 (gl (g_setI S 6 (x2).toNatClampNeg (g_I S 5 (x2).toNatClampNeg)) (fun S4 : gS => g_chk x2 64 (if (g_I S4 6 (x2).toNatClampNeg) ≤ 0 then (bX1_freeze_34 F k4 x1 x2 S4) else (gl (x1 + 1) (fun v7 : Int32 => bX1_freeze_34 F k4 v7 x2 S4)))))))
set_option maxRecDepth 20000 in
theorem bX1_freeze_4_ok {X : gX} {F : Nat} {k4 : (Int32 × Int32 × gS) → Option (Int32 × gS)} {R : Int32 × gS} (H4 : ∀ s : Int32 × Int32 × gS, k4 s = some R → G X RX1 cX1_freeze 3 (some .int) 0 (some (.int R.1)) R.2 4 [(0, .ref (X.1 + 3)), (1, .int s.1), (2, .int s.2.1)] [] s.2.2) {x1 : Int32} {x2 : Int32} {S : gS} (h : bX1_freeze_4 F k4 x1 x2 S = some R) : G X RX1 cX1_freeze 3 (some .int) 0 (some (.int R.1)) R.2 4 [(0, .ref (X.1 + 3)), (1, .int x1), (2, .int x2)] [] S := by
  unfold bX1_freeze_4 at h
  refine g_iload_n dX1_freeze_4 2 rfl rfl ?_
  refine g_bipush (v := 64) dX1_freeze_5 (by decide) ?_
  refine g_icmp_ge (tgt := 40) dX1_freeze_7 (by decide) (fun hc1 => ?_) (fun hc1 => ?_)
  · replace h := git hc1 h
    refine g_iload_n dX1_freeze_40 1 rfl rfl ?_
    obtain rfl := Option.some.inj h
    exact g_iret dX1_freeze_41 rfl
  · replace h := gif hc1 h
    refine g_aload_n dX1_freeze_10 0 rfl rfl ?_
    refine g_getr dX1_freeze_11 lk_X1_18 sf_3_2 ?_
    refine g_iload_n dX1_freeze_14 2 rfl rfl ?_
    refine g_aload_n dX1_freeze_15 0 rfl rfl ?_
    refine g_getr dX1_freeze_16 lk_X1_15 sf_3_1 ?_
    refine g_iload_n dX1_freeze_19 2 rfl rfl ?_
    obtain ⟨hv2, h⟩ := gchk h
    refine g_iald dX1_freeze_20 sa_5 hv2 ?_
    obtain ⟨hv3, h⟩ := gchk h
    obtain ⟨S4, eS4, h⟩ := gle h
    refine g_iast dX1_freeze_21 sa_6 hv3 eS4 ?_
    refine g_aload_n dX1_freeze_22 0 rfl rfl ?_
    refine g_getr dX1_freeze_23 lk_X1_18 sf_3_2 ?_
    refine g_iload_n dX1_freeze_26 2 rfl rfl ?_
    obtain ⟨hv5, h⟩ := gchk h
    refine g_iald dX1_freeze_27 sa_6 hv5 ?_
    refine g_if_le (tgt := 34) dX1_freeze_28 (by decide) (fun hc6 => ?_) (fun hc6 => ?_)
    · replace h := git hc6 h
      exact bX1_freeze_34_ok H4 h
    · replace h := gif hc6 h
      obtain ⟨v7, ev7, h⟩ := gle h
      refine g_iinc (q := 1) (v := v7) (lv' := [(1, .int v7), (0, .ref (X.1 + 3)), (2, .int x2)]) dX1_freeze_31 rfl (by rw [← ev7]; rfl) (by decide) rfl ?_
      refine g_sub [1, 0, 2] rfl ?_
      exact bX1_freeze_34_ok H4 h
noncomputable def bX1_freeze_4l (F : Nat) : Nat → (Int32 × Int32 × gS) → Option (Int32 × gS) := g_fix (fun k4 s => bX1_freeze_4 F k4 s.1 s.2.1 s.2.2)
theorem bX1_freeze_4l_ok {X : gX} {F : Nat} {R : Int32 × gS} : ∀ (n : Nat) (s : Int32 × Int32 × gS), bX1_freeze_4l F n s = some R → G X RX1 cX1_freeze 3 (some .int) 0 (some (.int R.1)) R.2 4 [(0, .ref (X.1 + 3)), (1, .int s.1), (2, .int s.2.1)] [] s.2.2 := by
  intro n
  induction n with
  | zero => intro s h; cases h
  | succ n ih => intro s h; exact bX1_freeze_4_ok (F := F) ih h
noncomputable def fX1_freeze (F : Nat) (S : gS) : Option (Int32 × gS) := bX1_freeze_4l F F ((0 : Int32), (0 : Int32), S)
set_option maxRecDepth 20000 in
theorem fX1_freeze_ok {X : gX} {F : Nat} {R : Int32 × gS} {S : gS} (h : fX1_freeze F S = some R) : G X RX1 cX1_freeze 3 (some .int) 0 (some (.int R.1)) R.2 0 [(0, .ref (X.1 + 3))] [] S := by
  unfold fX1_freeze at h
  refine g_iconst (v := 0) dX1_freeze_0 (by decide) ?_
  refine g_istore_n (lv' := [(1, .int (0 : Int32)), (0, .ref (X.1 + 3))]) dX1_freeze_1 rfl rfl (by decide) rfl ?_
  refine g_iconst (v := 0) dX1_freeze_2 (by decide) ?_
  refine g_istore_n (lv' := [(2, .int (0 : Int32)), (1, .int (0 : Int32)), (0, .ref (X.1 + 3))]) dX1_freeze_3 rfl rfl (by decide) rfl ?_
  refine g_sub [2, 1, 0] rfl ?_
  exact bX1_freeze_4l_ok F ((0 : Int32), (0 : Int32), S) h
theorem ctX1_freeze {X : gX} {F : Nat} {R : Int32 × gS} {S : gS} (h : fX1_freeze F S = some R) : g_C X yX1_freeze cX1_freeze 3 (some .int) 0 [.ref (X.1 + 3)] S (some (.int R.1)) R.2 :=
  g_met (by decide) (Nat.le_of_ble_eq_true rfl) (fX1_freeze_ok h)
noncomputable def fX1_shovel (F : Nat) (a0 : Int32) (a1 : Int32) (S : gS) : Option (Int32 × gS) := g_chk a0 64 (g_chk a0 64 (gl ((g_I S 4 (a0).toNatClampNeg) + (g_I S 5 (a0).toNatClampNeg)) (fun v3 : Int32 => g_chk a0 64 (gl (g_setI S 4 (a0).toNatClampNeg (0 : Int32)) (fun S5 : gS => g_chk a0 64 (gl (g_setI S5 5 (a0).toNatClampNeg (0 : Int32)) (fun S7 : gS => g_chk a1 64 (g_chk a1 64 (gl (g_setI S7 4 (a1).toNatClampNeg (if ((g_I S7 4 (a1).toNatClampNeg) + v3) < (30 : Int32) then ((g_I S7 4 (a1).toNatClampNeg) + v3) else (30 : Int32))) (fun S10 : gS => some (v3, S10)))))))))))
set_option maxRecDepth 20000 in
theorem fX1_shovel_ok {X : gX} {F : Nat} {R : Int32 × gS} {a0 : Int32} {a1 : Int32} {S : gS} (h : fX1_shovel F a0 a1 S = some R) : G X RX1 cX1_shovel 4 (some .int) 1 (some (.int R.1)) R.2 0 [(0, .ref (X.1 + 3)), (1, .int a0), (2, .int a1)] [] S := by
  unfold fX1_shovel at h
  refine g_aload_n dX1_shovel_0 0 rfl rfl ?_
  refine g_getr dX1_shovel_1 lk_X1_9 sf_3_0 ?_
  refine g_iload_n dX1_shovel_4 1 rfl rfl ?_
  obtain ⟨hv1, h⟩ := gchk h
  refine g_iald dX1_shovel_5 sa_4 hv1 ?_
  refine g_aload_n dX1_shovel_6 0 rfl rfl ?_
  refine g_getr dX1_shovel_7 lk_X1_15 sf_3_1 ?_
  refine g_iload_n dX1_shovel_10 1 rfl rfl ?_
  obtain ⟨hv2, h⟩ := gchk h
  refine g_iald dX1_shovel_11 sa_5 hv2 ?_
  refine g_iadd dX1_shovel_12 ?_
  obtain ⟨v3, ev3, h⟩ := gle h
  refine g_istore_n (lv' := [(3, .int v3), (0, .ref (X.1 + 3)), (1, .int a0), (2, .int a1)]) dX1_shovel_13 ev3 rfl (by decide) rfl ?_
  refine g_aload_n dX1_shovel_14 1 rfl rfl ?_
  refine g_getr dX1_shovel_15 lk_X1_9 sf_3_0 ?_
  refine g_iload_n dX1_shovel_18 2 rfl rfl ?_
  refine g_iconst (v := 0) dX1_shovel_19 (by decide) ?_
  obtain ⟨hv4, h⟩ := gchk h
  obtain ⟨S5, eS5, h⟩ := gle h
  refine g_iast dX1_shovel_20 sa_4 hv4 eS5 ?_
  refine g_aload_n dX1_shovel_21 1 rfl rfl ?_
  refine g_getr dX1_shovel_22 lk_X1_15 sf_3_1 ?_
  refine g_iload_n dX1_shovel_25 2 rfl rfl ?_
  refine g_iconst (v := 0) dX1_shovel_26 (by decide) ?_
  obtain ⟨hv6, h⟩ := gchk h
  obtain ⟨S7, eS7, h⟩ := gle h
  refine g_iast dX1_shovel_27 sa_5 hv6 eS7 ?_
  refine g_aload_n dX1_shovel_28 1 rfl rfl ?_
  refine g_getr dX1_shovel_29 lk_X1_9 sf_3_0 ?_
  refine g_iload_n dX1_shovel_32 3 rfl rfl ?_
  refine g_bipush (v := 30) dX1_shovel_33 (by decide) ?_
  refine g_aload_n dX1_shovel_35 1 rfl rfl ?_
  refine g_getr dX1_shovel_36 lk_X1_9 sf_3_0 ?_
  refine g_iload_n dX1_shovel_39 3 rfl rfl ?_
  obtain ⟨hv8, h⟩ := gchk h
  refine g_iald dX1_shovel_40 sa_4 hv8 ?_
  refine g_iload_n dX1_shovel_41 0 rfl rfl ?_
  refine g_iadd dX1_shovel_42 ?_
  refine g_mmin dX1_shovel_43 mm_X1_31 (by decide) (Nat.le_of_ble_eq_true rfl) ?_
  obtain ⟨hv9, h⟩ := gchk h
  obtain ⟨S10, eS10, h⟩ := gle h
  refine g_iast dX1_shovel_46 sa_4 hv9 eS10 ?_
  refine g_iload_n dX1_shovel_47 0 rfl rfl ?_
  obtain rfl := Option.some.inj h
  exact g_iret dX1_shovel_48 rfl
theorem ctX1_shovel {X : gX} {F : Nat} {R : Int32 × gS} {a0 : Int32} {a1 : Int32} {S : gS} (h : fX1_shovel F a0 a1 S = some R) : g_C X yX1_shovel cX1_shovel 4 (some .int) 1 [.ref (X.1 + 3), .int a0, .int a1] S (some (.int R.1)) R.2 :=
  g_met (by decide) (Nat.le_of_ble_eq_true rfl) (fX1_shovel_ok h)
noncomputable def bX1_setSnow_2 (F : Nat) (sh : Nat) (k2 : (Int32 × gS) → Option (Int32 × gS)) (x2 : Int32) (S : gS) : Option (Int32 × gS) := if (g_I S sh 2) ≤ x2 then (some ((g_I S sh 2), S)) else (g_chk x2 64 (if (g_I S (sh + 1) (x2).toNatClampNeg) < 0 then (some (x2, S)) else (g_chk x2 64 (if (g_I S (sh + 1) (x2).toNatClampNeg) ≤ (30 : Int32) then (g_chk x2 64 (g_chk x2 64 (gl (g_setI S 4 (x2).toNatClampNeg (g_I S (sh + 1) (x2).toNatClampNeg)) (fun S8 : gS => gl (x2 + 1) (fun v9 : Int32 => k2 (v9, S8)))))) else (some (x2, S))))))
set_option maxRecDepth 20000 in
theorem bX1_setSnow_2_ok {X : gX} {F : Nat} {sh : Nat} (hsh : g_isSht sh) {k2 : (Int32 × gS) → Option (Int32 × gS)} {R : Int32 × gS} (H2 : ∀ s : Int32 × gS, k2 s = some R → G X RX1 cX1_setSnow 3 (some .int) 0 (some (.int R.1)) R.2 2 [(0, .ref (X.1 + 3)), (1, .ref (X.1 + sh)), (2, .int s.1)] [] s.2) {x2 : Int32} {S : gS} (h : bX1_setSnow_2 F sh k2 x2 S = some R) : G X RX1 cX1_setSnow 3 (some .int) 0 (some (.int R.1)) R.2 2 [(0, .ref (X.1 + 3)), (1, .ref (X.1 + sh)), (2, .int x2)] [] S := by
  unfold bX1_setSnow_2 at h
  refine g_iload_n dX1_setSnow_2 2 rfl rfl ?_
  refine g_aload_n dX1_setSnow_3 1 rfl rfl ?_
  refine g_geti dX1_setSnow_4 lk_X1_40 (sht_2 hsh) ?_
  refine g_icmp_ge (tgt := 50) dX1_setSnow_7 (by decide) (fun hc1 => ?_) (fun hc1 => ?_)
  · replace h := git hc1 h
    refine g_aload_n dX1_setSnow_50 1 rfl rfl ?_
    refine g_geti dX1_setSnow_51 lk_X1_40 (sht_2 hsh) ?_
    obtain rfl := Option.some.inj h
    exact g_iret dX1_setSnow_54 rfl
  · replace h := gif hc1 h
    refine g_aload_n dX1_setSnow_10 1 rfl rfl ?_
    refine g_getr dX1_setSnow_11 lk_X1_46 (sht_0 hsh) ?_
    refine g_iload_n dX1_setSnow_14 2 rfl rfl ?_
    obtain ⟨hv2, h⟩ := gchk h
    refine g_iald dX1_setSnow_15 (sht_a1 hsh) hv2 ?_
    refine g_if_lt (tgt := 30) dX1_setSnow_16 (by decide) (fun hc3 => ?_) (fun hc3 => ?_)
    · replace h := git hc3 h
      refine g_iload_n dX1_setSnow_30 2 rfl rfl ?_
      obtain rfl := Option.some.inj h
      exact g_iret dX1_setSnow_31 rfl
    · replace h := gif hc3 h
      refine g_aload_n dX1_setSnow_19 1 rfl rfl ?_
      refine g_getr dX1_setSnow_20 lk_X1_46 (sht_0 hsh) ?_
      refine g_iload_n dX1_setSnow_23 2 rfl rfl ?_
      obtain ⟨hv4, h⟩ := gchk h
      refine g_iald dX1_setSnow_24 (sht_a1 hsh) hv4 ?_
      refine g_bipush (v := 30) dX1_setSnow_25 (by decide) ?_
      refine g_icmp_le (tgt := 32) dX1_setSnow_27 (by decide) (fun hc5 => ?_) (fun hc5 => ?_)
      · replace h := git hc5 h
        refine g_aload_n dX1_setSnow_32 0 rfl rfl ?_
        refine g_getr dX1_setSnow_33 lk_X1_9 sf_3_0 ?_
        refine g_iload_n dX1_setSnow_36 2 rfl rfl ?_
        refine g_aload_n dX1_setSnow_37 1 rfl rfl ?_
        refine g_getr dX1_setSnow_38 lk_X1_46 (sht_0 hsh) ?_
        refine g_iload_n dX1_setSnow_41 2 rfl rfl ?_
        obtain ⟨hv6, h⟩ := gchk h
        refine g_iald dX1_setSnow_42 (sht_a1 hsh) hv6 ?_
        obtain ⟨hv7, h⟩ := gchk h
        obtain ⟨S8, eS8, h⟩ := gle h
        refine g_iast dX1_setSnow_43 sa_4 hv7 eS8 ?_
        obtain ⟨v9, ev9, h⟩ := gle h
        refine g_iinc (q := 2) (v := v9) (lv' := [(2, .int v9), (0, .ref (X.1 + 3)), (1, .ref (X.1 + sh))]) dX1_setSnow_44 rfl (by rw [← ev9]; rfl) (by decide) rfl ?_
        refine g_goto (tgt := 2) dX1_setSnow_47 (by decide) ?_
        refine g_sub [1, 2, 0] rfl ?_
        exact H2 (v9, S8) h
      · replace h := gif hc5 h
        refine g_iload_n dX1_setSnow_30 2 rfl rfl ?_
        obtain rfl := Option.some.inj h
        exact g_iret dX1_setSnow_31 rfl
noncomputable def bX1_setSnow_2l (F : Nat) (sh : Nat) : Nat → (Int32 × gS) → Option (Int32 × gS) := g_fix (fun k2 s => bX1_setSnow_2 F sh k2 s.1 s.2)
theorem bX1_setSnow_2l_ok {X : gX} {F : Nat} {sh : Nat} (hsh : g_isSht sh) {R : Int32 × gS} : ∀ (n : Nat) (s : Int32 × gS), bX1_setSnow_2l F sh n s = some R → G X RX1 cX1_setSnow 3 (some .int) 0 (some (.int R.1)) R.2 2 [(0, .ref (X.1 + 3)), (1, .ref (X.1 + sh)), (2, .int s.1)] [] s.2 := by
  intro n
  induction n with
  | zero => intro s h; cases h
  | succ n ih => intro s h; exact bX1_setSnow_2_ok (F := F) hsh ih h
noncomputable def fX1_setSnow (F : Nat) (sh : Nat) (S : gS) : Option (Int32 × gS) := bX1_setSnow_2l F sh F ((0 : Int32), S)
set_option maxRecDepth 20000 in
theorem fX1_setSnow_ok {X : gX} {F : Nat} {sh : Nat} (hsh : g_isSht sh) {R : Int32 × gS} {S : gS} (h : fX1_setSnow F sh S = some R) : G X RX1 cX1_setSnow 3 (some .int) 0 (some (.int R.1)) R.2 0 [(0, .ref (X.1 + 3)), (1, .ref (X.1 + sh))] [] S := by
  unfold fX1_setSnow at h
  refine g_iconst (v := 0) dX1_setSnow_0 (by decide) ?_
  refine g_istore_n (lv' := [(2, .int (0 : Int32)), (0, .ref (X.1 + 3)), (1, .ref (X.1 + sh))]) dX1_setSnow_1 rfl rfl (by decide) rfl ?_
  refine g_sub [1, 2, 0] rfl ?_
  exact bX1_setSnow_2l_ok hsh F ((0 : Int32), S) h
theorem ctX1_setSnow {X : gX} {F : Nat} {sh : Nat} (hsh : g_isSht sh) {R : Int32 × gS} {S : gS} (h : fX1_setSnow F sh S = some R) : g_C X yX1_setSnow cX1_setSnow 3 (some .int) 0 [.ref (X.1 + 3), .ref (X.1 + sh)] S (some (.int R.1)) R.2 :=
  g_met (by decide) (Nat.le_of_ble_eq_true rfl) (fX1_setSnow_ok hsh h)
noncomputable def bX1_treadAs_2 (F : Nat) (k2 : (Int32 × gS) → Option (gS)) (x2 : Int32) (S : gS) : Option (gS) := if (64 : Int32) ≤ x2 then (some S) else (g_chk x2 64 (g_chk x2 64 (g_chk x2 64 (g_chk x2 64 (gl (g_setI S 5 (x2).toNatClampNeg (if (((g_I S 5 (x2).toNatClampNeg) + (g_I S 4 (x2).toNatClampNeg)) - (g_I S 17 (x2).toNatClampNeg)) < (30 : Int32) then (((g_I S 5 (x2).toNatClampNeg) + (g_I S 4 (x2).toNatClampNeg)) - (g_I S 17 (x2).toNatClampNeg)) else (30 : Int32))) (fun S6 : gS => g_chk x2 64 (g_chk x2 64 (gl (g_setI S6 4 (x2).toNatClampNeg (g_I S6 17 (x2).toNatClampNeg)) (fun S9 : gS => g_chk x2 64 (g_chk x2 64 (g_chk x2 64 (gl (g_setI S9 7 (x2).toNatClampNeg ((g_I S9 7 (x2).toNatClampNeg) + (g_I S9 18 (x2).toNatClampNeg))) (fun S13 : gS => gl (x2 + 1) (fun v14 : Int32 => k2 (v14, S13)))))))))))))))
set_option maxRecDepth 20000 in
theorem bX1_treadAs_2_ok {X : gX} {F : Nat} {k2 : (Int32 × gS) → Option (gS)} {R : gS} (H2 : ∀ s : Int32 × gS, k2 s = some R → G X RX1 cX1_treadAs 3 none 1 none R 2 [(0, .ref (X.1 + 3)), (1, .ref (X.1 + 16)), (2, .int s.1)] [] s.2) {x2 : Int32} {S : gS} (h : bX1_treadAs_2 F k2 x2 S = some R) : G X RX1 cX1_treadAs 3 none 1 none R 2 [(0, .ref (X.1 + 3)), (1, .ref (X.1 + 16)), (2, .int x2)] [] S := by
  unfold bX1_treadAs_2 at h
  refine g_iload_n dX1_treadAs_2 2 rfl rfl ?_
  refine g_bipush (v := 64) dX1_treadAs_3 (by decide) ?_
  refine g_icmp_ge (tgt := 72) dX1_treadAs_5 (by decide) (fun hc1 => ?_) (fun hc1 => ?_)
  · replace h := git hc1 h
    obtain rfl := Option.some.inj h
    exact g_vret dX1_treadAs_72 rfl
  · replace h := gif hc1 h
    refine g_aload_n dX1_treadAs_8 0 rfl rfl ?_
    refine g_getr dX1_treadAs_9 lk_X1_15 sf_3_1 ?_
    refine g_iload_n dX1_treadAs_12 2 rfl rfl ?_
    refine g_bipush (v := 30) dX1_treadAs_13 (by decide) ?_
    refine g_aload_n dX1_treadAs_15 0 rfl rfl ?_
    refine g_getr dX1_treadAs_16 lk_X1_15 sf_3_1 ?_
    refine g_iload_n dX1_treadAs_19 2 rfl rfl ?_
    obtain ⟨hv2, h⟩ := gchk h
    refine g_iald dX1_treadAs_20 sa_5 hv2 ?_
    refine g_aload_n dX1_treadAs_21 0 rfl rfl ?_
    refine g_getr dX1_treadAs_22 lk_X1_9 sf_3_0 ?_
    refine g_iload_n dX1_treadAs_25 2 rfl rfl ?_
    obtain ⟨hv3, h⟩ := gchk h
    refine g_iald dX1_treadAs_26 sa_4 hv3 ?_
    refine g_iadd dX1_treadAs_27 ?_
    refine g_aload_n dX1_treadAs_28 1 rfl rfl ?_
    refine g_getr dX1_treadAs_29 lk_X1_49 sf_16_2 ?_
    refine g_iload_n dX1_treadAs_32 2 rfl rfl ?_
    obtain ⟨hv4, h⟩ := gchk h
    refine g_iald dX1_treadAs_33 sa_17 hv4 ?_
    refine g_isub dX1_treadAs_34 ?_
    refine g_mmin dX1_treadAs_35 mm_X1_31 (by decide) (Nat.le_of_ble_eq_true rfl) ?_
    obtain ⟨hv5, h⟩ := gchk h
    obtain ⟨S6, eS6, h⟩ := gle h
    refine g_iast dX1_treadAs_38 sa_5 hv5 eS6 ?_
    refine g_aload_n dX1_treadAs_39 0 rfl rfl ?_
    refine g_getr dX1_treadAs_40 lk_X1_9 sf_3_0 ?_
    refine g_iload_n dX1_treadAs_43 2 rfl rfl ?_
    refine g_aload_n dX1_treadAs_44 1 rfl rfl ?_
    refine g_getr dX1_treadAs_45 lk_X1_49 sf_16_2 ?_
    refine g_iload_n dX1_treadAs_48 2 rfl rfl ?_
    obtain ⟨hv7, h⟩ := gchk h
    refine g_iald dX1_treadAs_49 sa_17 hv7 ?_
    obtain ⟨hv8, h⟩ := gchk h
    obtain ⟨S9, eS9, h⟩ := gle h
    refine g_iast dX1_treadAs_50 sa_4 hv8 eS9 ?_
    refine g_aload_n dX1_treadAs_51 0 rfl rfl ?_
    refine g_getr dX1_treadAs_52 lk_X1_21 sf_3_3 ?_
    refine g_iload_n dX1_treadAs_55 2 rfl rfl ?_
    refine g_dup2 dX1_treadAs_56 rfl rfl ?_
    obtain ⟨hv10, h⟩ := gchk h
    refine g_iald dX1_treadAs_57 sa_7 hv10 ?_
    refine g_aload_n dX1_treadAs_58 1 rfl rfl ?_
    refine g_getr dX1_treadAs_59 lk_X1_52 sf_16_3 ?_
    refine g_iload_n dX1_treadAs_62 2 rfl rfl ?_
    obtain ⟨hv11, h⟩ := gchk h
    refine g_iald dX1_treadAs_63 sa_18 hv11 ?_
    refine g_iadd dX1_treadAs_64 ?_
    obtain ⟨hv12, h⟩ := gchk h
    obtain ⟨S13, eS13, h⟩ := gle h
    refine g_iast dX1_treadAs_65 sa_7 hv12 eS13 ?_
    obtain ⟨v14, ev14, h⟩ := gle h
    refine g_iinc (q := 2) (v := v14) (lv' := [(2, .int v14), (0, .ref (X.1 + 3)), (1, .ref (X.1 + 16))]) dX1_treadAs_66 rfl (by rw [← ev14]; rfl) (by decide) rfl ?_
    refine g_goto (tgt := 2) dX1_treadAs_69 (by decide) ?_
    refine g_sub [1, 2, 0] rfl ?_
    exact H2 (v14, S13) h
noncomputable def bX1_treadAs_2l (F : Nat) : Nat → (Int32 × gS) → Option (gS) := g_fix (fun k2 s => bX1_treadAs_2 F k2 s.1 s.2)
theorem bX1_treadAs_2l_ok {X : gX} {F : Nat} {R : gS} : ∀ (n : Nat) (s : Int32 × gS), bX1_treadAs_2l F n s = some R → G X RX1 cX1_treadAs 3 none 1 none R 2 [(0, .ref (X.1 + 3)), (1, .ref (X.1 + 16)), (2, .int s.1)] [] s.2 := by
  intro n
  induction n with
  | zero => intro s h; cases h
  | succ n ih => intro s h; exact bX1_treadAs_2_ok (F := F) ih h
noncomputable def fX1_treadAs (F : Nat) (S : gS) : Option (gS) := bX1_treadAs_2l F F ((0 : Int32), S)
set_option maxRecDepth 20000 in
theorem fX1_treadAs_ok {X : gX} {F : Nat} {R : gS} {S : gS} (h : fX1_treadAs F S = some R) : G X RX1 cX1_treadAs 3 none 1 none R 0 [(0, .ref (X.1 + 3)), (1, .ref (X.1 + 16))] [] S := by
  unfold fX1_treadAs at h
  refine g_iconst (v := 0) dX1_treadAs_0 (by decide) ?_
  refine g_istore_n (lv' := [(2, .int (0 : Int32)), (0, .ref (X.1 + 3)), (1, .ref (X.1 + 16))]) dX1_treadAs_1 rfl rfl (by decide) rfl ?_
  refine g_sub [1, 2, 0] rfl ?_
  exact bX1_treadAs_2l_ok F ((0 : Int32), S) h
theorem ctX1_treadAs {X : gX} {F : Nat} {R : gS} {S : gS} (h : fX1_treadAs F S = some R) : g_C X yX1_treadAs cX1_treadAs 3 none 1 [.ref (X.1 + 3), .ref (X.1 + 16)] S none R :=
  g_met (by decide) (Nat.le_of_ble_eq_true rfl) (fX1_treadAs_ok h)
noncomputable def fX2_swap (F : Nat) (a0 : Int32) (a1 : Int32) (S : gS) : Option (gS) := g_chk a0 5 (gl (g_I S 21 (a0).toNatClampNeg) (fun v2 : Int32 => g_chk a1 5 (g_chk a0 5 (gl (g_setI S 21 (a0).toNatClampNeg (g_I S 21 (a1).toNatClampNeg)) (fun S5 : gS => g_chk a1 5 (gl (g_setI S5 21 (a1).toNatClampNeg v2) (fun S7 : gS => some S7)))))))
set_option maxRecDepth 20000 in
theorem fX2_swap_ok {X : gX} {F : Nat} {R : gS} {a0 : Int32} {a1 : Int32} {S : gS} (h : fX2_swap F a0 a1 S = some R) : G X RX2 cX2_swap 4 none 0 none R 0 [(0, .ref (X.1 + 19)), (1, .int a0), (2, .int a1)] [] S := by
  unfold fX2_swap at h
  refine g_aload_n dX2_swap_0 0 rfl rfl ?_
  refine g_getr dX2_swap_1 lk_X2_17 sf_19_3 ?_
  refine g_iload_n dX2_swap_4 1 rfl rfl ?_
  obtain ⟨hv1, h⟩ := gchk h
  refine g_iald dX2_swap_5 sa_21 hv1 ?_
  obtain ⟨v2, ev2, h⟩ := gle h
  refine g_istore_n (lv' := [(3, .int v2), (0, .ref (X.1 + 19)), (1, .int a0), (2, .int a1)]) dX2_swap_6 ev2 rfl (by decide) rfl ?_
  refine g_aload_n dX2_swap_7 1 rfl rfl ?_
  refine g_getr dX2_swap_8 lk_X2_17 sf_19_3 ?_
  refine g_iload_n dX2_swap_11 2 rfl rfl ?_
  refine g_aload_n dX2_swap_12 1 rfl rfl ?_
  refine g_getr dX2_swap_13 lk_X2_17 sf_19_3 ?_
  refine g_iload_n dX2_swap_16 3 rfl rfl ?_
  obtain ⟨hv3, h⟩ := gchk h
  refine g_iald dX2_swap_17 sa_21 hv3 ?_
  obtain ⟨hv4, h⟩ := gchk h
  obtain ⟨S5, eS5, h⟩ := gle h
  refine g_iast dX2_swap_18 sa_21 hv4 eS5 ?_
  refine g_aload_n dX2_swap_19 1 rfl rfl ?_
  refine g_getr dX2_swap_20 lk_X2_17 sf_19_3 ?_
  refine g_iload_n dX2_swap_23 3 rfl rfl ?_
  refine g_iload_n dX2_swap_24 0 rfl rfl ?_
  obtain ⟨hv6, h⟩ := gchk h
  obtain ⟨S7, eS7, h⟩ := gle h
  refine g_iast dX2_swap_25 sa_21 hv6 eS7 ?_
  obtain rfl := Option.some.inj h
  exact g_vret dX2_swap_26 rfl
theorem ctX2_swap {X : gX} {F : Nat} {R : gS} {a0 : Int32} {a1 : Int32} {S : gS} (h : fX2_swap F a0 a1 S = some R) : g_C X yX2_swap cX2_swap 4 none 0 [.ref (X.1 + 19), .int a0, .int a1] S none R :=
  g_met (by decide) (Nat.le_of_ble_eq_true rfl) (fX2_swap_ok h)
noncomputable def bX2_advance_83 (F : Nat) (k83 : (Int32 × Int32 × Int32 × gS) → Option (Int32 × gS)) (x2 : Int32) (x4 : Int32) (x5 : Int32) (S : gS) : Option (Int32 × gS) := if x5 ≤ x4 then (some (x2, S)) else ((fX2_swap F x4 x5 S).bind (fun q2 : gS => gl (x4 + 1) (fun v3 : Int32 => gl (x5 + -1) (fun v4 : Int32 => k83 (x2, v3, v4, q2)))))
set_option maxRecDepth 20000 in
theorem bX2_advance_83_ok {X : gX} {F : Nat} {k83 : (Int32 × Int32 × Int32 × gS) → Option (Int32 × gS)} {R : Int32 × gS} (H83 : ∀ s : Int32 × Int32 × Int32 × gS, k83 s = some R → G X RX2 cX2_advance 6 (some .int) 1 (some (.int R.1)) R.2 83 [(0, .ref (X.1 + 19)), (2, .int s.1), (4, .int s.2.1), (5, .int s.2.2.1)] [] s.2.2.2) {x2 : Int32} {x4 : Int32} {x5 : Int32} {S : gS} (h : bX2_advance_83 F k83 x2 x4 x5 S = some R) : G X RX2 cX2_advance 6 (some .int) 1 (some (.int R.1)) R.2 83 [(0, .ref (X.1 + 19)), (2, .int x2), (4, .int x4), (5, .int x5)] [] S := by
  unfold bX2_advance_83 at h
  refine g_iload dX2_advance_83 2 rfl ?_
  refine g_iload dX2_advance_85 3 rfl ?_
  refine g_icmp_ge (tgt := 107) dX2_advance_87 (by decide) (fun hc1 => ?_) (fun hc1 => ?_)
  · replace h := git hc1 h
    refine g_iload_n dX2_advance_107 1 rfl rfl ?_
    obtain rfl := Option.some.inj h
    exact g_iret dX2_advance_108 rfl
  · replace h := gif hc1 h
    refine g_aload_n dX2_advance_90 0 rfl rfl ?_
    refine g_iload dX2_advance_91 2 rfl ?_
    refine g_iload dX2_advance_93 3 rfl ?_
    obtain ⟨q2, hq2, h⟩ := gb h
    refine g_callVv [.int x4, .int x5] [] dX2_advance_95 mk_X2_120 so_19 (ctX2_swap hq2) rfl (by decide) rfl (Nat.le_of_ble_eq_true rfl) ?_
    obtain ⟨v3, ev3, h⟩ := gle h
    refine g_iinc (q := 2) (v := v3) (lv' := [(4, .int v3), (0, .ref (X.1 + 19)), (2, .int x2), (5, .int x5)]) dX2_advance_98 rfl (by rw [← ev3]; rfl) (by decide) rfl ?_
    obtain ⟨v4, ev4, h⟩ := gle h
    refine g_iinc (q := 3) (v := v4) (lv' := [(5, .int v4), (4, .int v3), (0, .ref (X.1 + 19)), (2, .int x2)]) dX2_advance_101 rfl (by rw [← ev4]; rfl) (by decide) rfl ?_
    refine g_goto (tgt := 83) dX2_advance_104 (by decide) ?_
    refine g_sub [2, 3, 1, 0] rfl ?_
    exact H83 (x2, v3, v4, q2) h
noncomputable def bX2_advance_83l (F : Nat) : Nat → (Int32 × Int32 × Int32 × gS) → Option (Int32 × gS) := g_fix (fun k83 s => bX2_advance_83 F k83 s.1 s.2.1 s.2.2.1 s.2.2.2)
theorem bX2_advance_83l_ok {X : gX} {F : Nat} {R : Int32 × gS} : ∀ (n : Nat) (s : Int32 × Int32 × Int32 × gS), bX2_advance_83l F n s = some R → G X RX2 cX2_advance 6 (some .int) 1 (some (.int R.1)) R.2 83 [(0, .ref (X.1 + 19)), (2, .int s.1), (4, .int s.2.1), (5, .int s.2.2.1)] [] s.2.2.2 := by
  intro n
  induction n with
  | zero => intro s h; cases h
  | succ n ih => intro s h; exact bX2_advance_83_ok (F := F) ih h
noncomputable def bX2_advance_67 (F : Nat) (x1 : Int32) (x2 : Int32) (x3 : Int32) (S : gS) : Option (Int32 × gS) := (fX2_swap F x2 x3 S).bind (fun q1 : gS => gl (x2 + (1 : Int32)) (fun v2 : Int32 => gl (x1 - (1 : Int32)) (fun v3 : Int32 => bX2_advance_83l F F (x2, v2, v3, q1))))
set_option maxRecDepth 20000 in
theorem bX2_advance_67_ok {X : gX} {F : Nat} {R : Int32 × gS} {x1 : Int32} {x2 : Int32} {x3 : Int32} {S : gS} (h : bX2_advance_67 F x1 x2 x3 S = some R) : G X RX2 cX2_advance 6 (some .int) 1 (some (.int R.1)) R.2 67 [(0, .ref (X.1 + 19)), (1, .int x1), (2, .int x2), (3, .int x3)] [] S := by
  unfold bX2_advance_67 at h
  refine g_aload_n dX2_advance_67 0 rfl rfl ?_
  refine g_iload_n dX2_advance_68 2 rfl rfl ?_
  refine g_iload_n dX2_advance_69 3 rfl rfl ?_
  obtain ⟨q1, hq1, h⟩ := gb h
  refine g_callVv [.int x2, .int x3] [] dX2_advance_70 mk_X2_120 so_19 (ctX2_swap hq1) rfl (by decide) rfl (Nat.le_of_ble_eq_true rfl) ?_
  refine g_iload_n dX2_advance_73 2 rfl rfl ?_
  refine g_iconst (v := 1) dX2_advance_74 (by decide) ?_
  refine g_iadd dX2_advance_75 ?_
  obtain ⟨v2, ev2, h⟩ := gle h
  refine g_istore (lv' := [(4, .int v2), (0, .ref (X.1 + 19)), (1, .int x1), (2, .int x2), (3, .int x3)]) dX2_advance_76 ev2 (by decide) rfl ?_
  refine g_iload_n dX2_advance_78 2 rfl rfl ?_
  refine g_iconst (v := 1) dX2_advance_79 (by decide) ?_
  refine g_isub dX2_advance_80 ?_
  obtain ⟨v3, ev3, h⟩ := gle h
  refine g_istore (lv' := [(5, .int v3), (4, .int v2), (0, .ref (X.1 + 19)), (1, .int x1), (2, .int x2), (3, .int x3)]) dX2_advance_81 ev3 (by decide) rfl ?_
  refine g_sub [2, 4, 1, 0] rfl ?_
  exact bX2_advance_83l_ok F (x2, v2, v3, q1) h
noncomputable def bX2_advance_41 (F : Nat) (k41 : (Int32 × Int32 × Int32 × gS) → Option (Int32 × gS)) (x1 : Int32) (x2 : Int32) (x3 : Int32) (S : gS) : Option (Int32 × gS) := if x3 ≤ x2 then (bX2_advance_67 F x1 x2 x3 S) else (g_chk x3 5 (g_chk x2 5 (if (g_I S 21 (x2).toNatClampNeg) ≤ (g_I S 21 (x3).toNatClampNeg) then (bX2_advance_67 F x1 x2 x3 S) else (gl (x3 + -1) (fun v5 : Int32 => k41 (x1, x2, v5, S))))))
set_option maxRecDepth 20000 in
theorem bX2_advance_41_ok {X : gX} {F : Nat} {k41 : (Int32 × Int32 × Int32 × gS) → Option (Int32 × gS)} {R : Int32 × gS} (H41 : ∀ s : Int32 × Int32 × Int32 × gS, k41 s = some R → G X RX2 cX2_advance 6 (some .int) 1 (some (.int R.1)) R.2 41 [(0, .ref (X.1 + 19)), (1, .int s.1), (2, .int s.2.1), (3, .int s.2.2.1)] [] s.2.2.2) {x1 : Int32} {x2 : Int32} {x3 : Int32} {S : gS} (h : bX2_advance_41 F k41 x1 x2 x3 S = some R) : G X RX2 cX2_advance 6 (some .int) 1 (some (.int R.1)) R.2 41 [(0, .ref (X.1 + 19)), (1, .int x1), (2, .int x2), (3, .int x3)] [] S := by
  unfold bX2_advance_41 at h
  refine g_iload_n dX2_advance_41 3 rfl rfl ?_
  refine g_iload_n dX2_advance_42 2 rfl rfl ?_
  refine g_icmp_le (tgt := 67) dX2_advance_43 (by decide) (fun hc1 => ?_) (fun hc1 => ?_)
  · replace h := git hc1 h
    exact bX2_advance_67_ok h
  · replace h := gif hc1 h
    refine g_aload_n dX2_advance_46 0 rfl rfl ?_
    refine g_getr dX2_advance_47 lk_X2_17 sf_19_3 ?_
    refine g_iload_n dX2_advance_50 3 rfl rfl ?_
    obtain ⟨hv2, h⟩ := gchk h
    refine g_iald dX2_advance_51 sa_21 hv2 ?_
    refine g_aload_n dX2_advance_52 0 rfl rfl ?_
    refine g_getr dX2_advance_53 lk_X2_17 sf_19_3 ?_
    refine g_iload_n dX2_advance_56 2 rfl rfl ?_
    obtain ⟨hv3, h⟩ := gchk h
    refine g_iald dX2_advance_57 sa_21 hv3 ?_
    refine g_icmp_ge (tgt := 67) dX2_advance_58 (by decide) (fun hc4 => ?_) (fun hc4 => ?_)
    · replace h := git hc4 h
      exact bX2_advance_67_ok h
    · replace h := gif hc4 h
      obtain ⟨v5, ev5, h⟩ := gle h
      refine g_iinc (q := 3) (v := v5) (lv' := [(3, .int v5), (0, .ref (X.1 + 19)), (1, .int x1), (2, .int x2)]) dX2_advance_61 rfl (by rw [← ev5]; rfl) (by decide) rfl ?_
      refine g_goto (tgt := 41) dX2_advance_64 (by decide) ?_
      refine g_sub [1, 2, 3, 0] rfl ?_
      exact H41 (x1, x2, v5, S) h
noncomputable def bX2_advance_41l (F : Nat) : Nat → (Int32 × Int32 × Int32 × gS) → Option (Int32 × gS) := g_fix (fun k41 s => bX2_advance_41 F k41 s.1 s.2.1 s.2.2.1 s.2.2.2)
theorem bX2_advance_41l_ok {X : gX} {F : Nat} {R : Int32 × gS} : ∀ (n : Nat) (s : Int32 × Int32 × Int32 × gS), bX2_advance_41l F n s = some R → G X RX2 cX2_advance 6 (some .int) 1 (some (.int R.1)) R.2 41 [(0, .ref (X.1 + 19)), (1, .int s.1), (2, .int s.2.1), (3, .int s.2.2.1)] [] s.2.2.2 := by
  intro n
  induction n with
  | zero => intro s h; cases h
  | succ n ih => intro s h; exact bX2_advance_41_ok (F := F) ih h
noncomputable def bX2_advance_31 (F : Nat) (x1 : Int32) (x2 : Int32) (S : gS) : Option (Int32 × gS) := if 0 ≤ x2 then (gl (x1 - (1 : Int32)) (fun v2 : Int32 => bX2_advance_41l F F (x1, x2, v2, S))) else (some ((-1 : Int32), S))
set_option maxRecDepth 20000 in
theorem bX2_advance_31_ok {X : gX} {F : Nat} {R : Int32 × gS} {x1 : Int32} {x2 : Int32} {S : gS} (h : bX2_advance_31 F x1 x2 S = some R) : G X RX2 cX2_advance 6 (some .int) 1 (some (.int R.1)) R.2 31 [(0, .ref (X.1 + 19)), (1, .int x1), (2, .int x2)] [] S := by
  unfold bX2_advance_31 at h
  refine g_iload_n dX2_advance_31 2 rfl rfl ?_
  refine g_if_ge (tgt := 37) dX2_advance_32 (by decide) (fun hc1 => ?_) (fun hc1 => ?_)
  · replace h := git hc1 h
    refine g_iload_n dX2_advance_37 1 rfl rfl ?_
    refine g_iconst (v := 1) dX2_advance_38 (by decide) ?_
    refine g_isub dX2_advance_39 ?_
    obtain ⟨v2, ev2, h⟩ := gle h
    refine g_istore_n (lv' := [(3, .int v2), (0, .ref (X.1 + 19)), (1, .int x1), (2, .int x2)]) dX2_advance_40 ev2 rfl (by decide) rfl ?_
    refine g_sub [1, 2, 3, 0] rfl ?_
    exact bX2_advance_41l_ok F (x1, x2, v2, S) h
  · replace h := gif hc1 h
    refine g_iconst (v := -1) dX2_advance_35 (by decide) ?_
    obtain rfl := Option.some.inj h
    exact g_iret dX2_advance_36 rfl
noncomputable def bX2_advance_4 (F : Nat) (k4 : (Int32 × Int32 × gS) → Option (Int32 × gS)) (x1 : Int32) (x2 : Int32) (S : gS) : Option (Int32 × gS) := if x2 < 0 then (bX2_advance_31 F x1 x2 S) else (g_chk x2 5 (g_chk (x2 + (1 : Int32)) 5 (if (g_I S 21 (x2).toNatClampNeg) ≤ (g_I S 21 ((x2 + (1 : Int32))).toNatClampNeg) then (bX2_advance_31 F x1 x2 S) else (gl (x2 + -1) (fun v5 : Int32 => k4 (x1, v5, S))))))
set_option maxRecDepth 20000 in
theorem bX2_advance_4_ok {X : gX} {F : Nat} {k4 : (Int32 × Int32 × gS) → Option (Int32 × gS)} {R : Int32 × gS} (H4 : ∀ s : Int32 × Int32 × gS, k4 s = some R → G X RX2 cX2_advance 6 (some .int) 1 (some (.int R.1)) R.2 4 [(0, .ref (X.1 + 19)), (1, .int s.1), (2, .int s.2.1)] [] s.2.2) {x1 : Int32} {x2 : Int32} {S : gS} (h : bX2_advance_4 F k4 x1 x2 S = some R) : G X RX2 cX2_advance 6 (some .int) 1 (some (.int R.1)) R.2 4 [(0, .ref (X.1 + 19)), (1, .int x1), (2, .int x2)] [] S := by
  unfold bX2_advance_4 at h
  refine g_iload_n dX2_advance_4 2 rfl rfl ?_
  refine g_if_lt (tgt := 31) dX2_advance_5 (by decide) (fun hc1 => ?_) (fun hc1 => ?_)
  · replace h := git hc1 h
    exact bX2_advance_31_ok h
  · replace h := gif hc1 h
    refine g_aload_n dX2_advance_8 0 rfl rfl ?_
    refine g_getr dX2_advance_9 lk_X2_17 sf_19_3 ?_
    refine g_iload_n dX2_advance_12 2 rfl rfl ?_
    obtain ⟨hv2, h⟩ := gchk h
    refine g_iald dX2_advance_13 sa_21 hv2 ?_
    refine g_aload_n dX2_advance_14 0 rfl rfl ?_
    refine g_getr dX2_advance_15 lk_X2_17 sf_19_3 ?_
    refine g_iload_n dX2_advance_18 2 rfl rfl ?_
    refine g_iconst (v := 1) dX2_advance_19 (by decide) ?_
    refine g_iadd dX2_advance_20 ?_
    obtain ⟨hv3, h⟩ := gchk h
    refine g_iald dX2_advance_21 sa_21 hv3 ?_
    refine g_icmp_le (tgt := 31) dX2_advance_22 (by decide) (fun hc4 => ?_) (fun hc4 => ?_)
    · replace h := git hc4 h
      exact bX2_advance_31_ok h
    · replace h := gif hc4 h
      obtain ⟨v5, ev5, h⟩ := gle h
      refine g_iinc (q := 2) (v := v5) (lv' := [(2, .int v5), (0, .ref (X.1 + 19)), (1, .int x1)]) dX2_advance_25 rfl (by rw [← ev5]; rfl) (by decide) rfl ?_
      refine g_goto (tgt := 4) dX2_advance_28 (by decide) ?_
      refine g_sub [1, 2, 0] rfl ?_
      exact H4 (x1, v5, S) h
noncomputable def bX2_advance_4l (F : Nat) : Nat → (Int32 × Int32 × gS) → Option (Int32 × gS) := g_fix (fun k4 s => bX2_advance_4 F k4 s.1 s.2.1 s.2.2)
theorem bX2_advance_4l_ok {X : gX} {F : Nat} {R : Int32 × gS} : ∀ (n : Nat) (s : Int32 × Int32 × gS), bX2_advance_4l F n s = some R → G X RX2 cX2_advance 6 (some .int) 1 (some (.int R.1)) R.2 4 [(0, .ref (X.1 + 19)), (1, .int s.1), (2, .int s.2.1)] [] s.2.2 := by
  intro n
  induction n with
  | zero => intro s h; cases h
  | succ n ih => intro s h; exact bX2_advance_4_ok (F := F) ih h
noncomputable def fX2_advance (F : Nat) (a0 : Int32) (S : gS) : Option (Int32 × gS) := gl (a0 - (2 : Int32)) (fun v1 : Int32 => bX2_advance_4l F F (a0, v1, S))
set_option maxRecDepth 20000 in
theorem fX2_advance_ok {X : gX} {F : Nat} {R : Int32 × gS} {a0 : Int32} {S : gS} (h : fX2_advance F a0 S = some R) : G X RX2 cX2_advance 6 (some .int) 1 (some (.int R.1)) R.2 0 [(0, .ref (X.1 + 19)), (1, .int a0)] [] S := by
  unfold fX2_advance at h
  refine g_iload_n dX2_advance_0 1 rfl rfl ?_
  refine g_iconst (v := 2) dX2_advance_1 (by decide) ?_
  refine g_isub dX2_advance_2 ?_
  obtain ⟨v1, ev1, h⟩ := gle h
  refine g_istore_n (lv' := [(2, .int v1), (0, .ref (X.1 + 19)), (1, .int a0)]) dX2_advance_3 ev1 rfl (by decide) rfl ?_
  refine g_sub [1, 2, 0] rfl ?_
  exact bX2_advance_4l_ok F (a0, v1, S) h
theorem ctX2_advance {X : gX} {F : Nat} {R : Int32 × gS} {a0 : Int32} {S : gS} (h : fX2_advance F a0 S = some R) : g_C X yX2_advance cX2_advance 6 (some .int) 1 [.ref (X.1 + 19), .int a0] S (some (.int R.1)) R.2 :=
  g_met (by decide) (Nat.le_of_ble_eq_true rfl) (fX2_advance_ok h)
noncomputable def bX2_keepAlike_21 (F : Nat) (x1 : Int32) (S : gS) : Option (gS) := gl (g_setI S 19 8 ((g_I S 19 8) + (1 : Int32))) (fun S1 : gS => if x1 ≤ 0 then (some S1) else (g_chk (0 : Int32) 5 (gl (g_setI S1 19 9 ((g_I S1 19 9) ||| ((1 : Int32) <<< ((g_I S1 21 ((0 : Int32)).toNatClampNeg) &&& 31)))) (fun S4 : gS => some S4))))
set_option maxRecDepth 20000 in
theorem bX2_keepAlike_21_ok {X : gX} {F : Nat} {R : gS} {x1 : Int32} {S : gS} (h : bX2_keepAlike_21 F x1 S = some R) : G X RX2 cX2_keepAlike 2 none 1 none R 21 [(0, .ref (X.1 + 19)), (1, .int x1)] [] S := by
  unfold bX2_keepAlike_21 at h
  refine g_aload_n dX2_keepAlike_21 0 rfl rfl ?_
  refine g_dup dX2_keepAlike_22 rfl ?_
  refine g_geti dX2_keepAlike_23 lk_X2_34 sf_19_8 ?_
  refine g_iconst (v := 1) dX2_keepAlike_26 (by decide) ?_
  refine g_iadd dX2_keepAlike_27 ?_
  obtain ⟨S1, eS1, h⟩ := gle h
  refine g_puti dX2_keepAlike_28 lp_X2_34 sf_19_8 eS1 ?_
  refine g_iload_n dX2_keepAlike_31 1 rfl rfl ?_
  refine g_if_le (tgt := 52) dX2_keepAlike_32 (by decide) (fun hc2 => ?_) (fun hc2 => ?_)
  · replace h := git hc2 h
    obtain rfl := Option.some.inj h
    exact g_vret dX2_keepAlike_52 rfl
  · replace h := gif hc2 h
    refine g_aload_n dX2_keepAlike_35 0 rfl rfl ?_
    refine g_dup dX2_keepAlike_36 rfl ?_
    refine g_geti dX2_keepAlike_37 lk_X2_37 sf_19_9 ?_
    refine g_iconst (v := 1) dX2_keepAlike_40 (by decide) ?_
    refine g_aload_n dX2_keepAlike_41 0 rfl rfl ?_
    refine g_getr dX2_keepAlike_42 lk_X2_17 sf_19_3 ?_
    refine g_iconst (v := 0) dX2_keepAlike_45 (by decide) ?_
    obtain ⟨hv3, h⟩ := gchk h
    refine g_iald dX2_keepAlike_46 sa_21 hv3 ?_
    refine g_ishl dX2_keepAlike_47 ?_
    refine g_ior dX2_keepAlike_48 ?_
    obtain ⟨S4, eS4, h⟩ := gle h
    refine g_puti dX2_keepAlike_49 lp_X2_37 sf_19_9 eS4 ?_
    obtain rfl := Option.some.inj h
    exact g_vret dX2_keepAlike_52 rfl
noncomputable def fX2_keepAlike (F : Nat) (a0 : Int32) (S : gS) : Option (gS) := if (g_I S 19 8) = 0 then (g_cpyOk (0 : Int32) (0 : Int32) (5 : Int32) 5 5 (gl (g_cpyI S 21 23 ((0 : Int32)).toNatClampNeg ((0 : Int32)).toNatClampNeg ((5 : Int32)).toNatClampNeg) (fun S3 : gS => bX2_keepAlike_21 F a0 S3))) else (bX2_keepAlike_21 F a0 S)
set_option maxRecDepth 20000 in
theorem fX2_keepAlike_ok {X : gX} {F : Nat} {R : gS} {a0 : Int32} {S : gS} (h : fX2_keepAlike F a0 S = some R) : G X RX2 cX2_keepAlike 2 none 1 none R 0 [(0, .ref (X.1 + 19)), (1, .int a0)] [] S := by
  unfold fX2_keepAlike at h
  refine g_aload_n dX2_keepAlike_0 0 rfl rfl ?_
  refine g_geti dX2_keepAlike_1 lk_X2_34 sf_19_8 ?_
  refine g_if_ne (tgt := 21) dX2_keepAlike_4 (by decide) (fun hc1 => ?_) (fun hc1 => ?_)
  · replace h := gif hc1 h
    exact bX2_keepAlike_21_ok h
  · replace h := git hc1 h
    refine g_aload_n dX2_keepAlike_7 0 rfl rfl ?_
    refine g_getr dX2_keepAlike_8 lk_X2_17 sf_19_3 ?_
    refine g_iconst (v := 0) dX2_keepAlike_11 (by decide) ?_
    refine g_aload_n dX2_keepAlike_12 0 rfl rfl ?_
    refine g_getr dX2_keepAlike_13 lk_X2_24 sf_19_5 ?_
    refine g_iconst (v := 0) dX2_keepAlike_16 (by decide) ?_
    refine g_iconst (v := 5) dX2_keepAlike_17 (by decide) ?_
    obtain ⟨hv2, h⟩ := gcpy h
    obtain ⟨S3, eS3, h⟩ := gle h
    refine g_cpy dX2_keepAlike_18 ac_X2_114 sa_21 sa_23 hv2 (by decide) (by decide) eS3 ?_
    exact bX2_keepAlike_21_ok h
theorem ctX2_keepAlike {X : gX} {F : Nat} {R : gS} {a0 : Int32} {S : gS} (h : fX2_keepAlike F a0 S = some R) : g_C X yX2_keepAlike cX2_keepAlike 2 none 1 [.ref (X.1 + 19), .int a0] S none R :=
  g_met (by decide) (Nat.le_of_ble_eq_true rfl) (fX2_keepAlike_ok h)
noncomputable def fX3_beginAs (F : Nat) (o : Nat) (oo : Nat) (S : gS) : Option (gS) := g_cpyOk (0 : Int32) (0 : Int32) (64 : Int32) 64 64 (gl (g_cpyI S (oo + 1) (o + 1) ((0 : Int32)).toNatClampNeg ((0 : Int32)).toNatClampNeg ((64 : Int32)).toNatClampNeg) (fun S2 : gS => g_cpyOk (0 : Int32) (0 : Int32) (64 : Int32) 64 64 (gl (g_cpyI S2 (oo + 2) (o + 2) ((0 : Int32)).toNatClampNeg ((0 : Int32)).toNatClampNeg ((64 : Int32)).toNatClampNeg) (fun S4 : gS => gl (g_setI S4 o 4 (g_I S4 oo 4)) (fun S5 : gS => gl (g_setI S5 o 5 (g_I S5 oo 5)) (fun S6 : gS => gl (g_setI S6 o 6 (g_I S6 oo 6)) (fun S7 : gS => some S7)))))))
set_option maxRecDepth 20000 in
theorem fX3_beginAs_ok {X : gX} {F : Nat} {o : Nat} {oo : Nat} (ho : g_isOut o) (hoo : g_isOut oo) {R : gS} {S : gS} (h : fX3_beginAs F o oo S = some R) : G X RX3 cX3_beginAs 2 none 1 none R 0 [(0, .ref (X.1 + o)), (1, .ref (X.1 + oo))] [] S := by
  unfold fX3_beginAs at h
  refine g_aload_n dX3_beginAs_0 1 rfl rfl ?_
  refine g_getr dX3_beginAs_1 lk_X3_9 (out_2 hoo) ?_
  refine g_iconst (v := 0) dX3_beginAs_4 (by decide) ?_
  refine g_aload_n dX3_beginAs_5 0 rfl rfl ?_
  refine g_getr dX3_beginAs_6 lk_X3_9 (out_2 ho) ?_
  refine g_iconst (v := 0) dX3_beginAs_9 (by decide) ?_
  refine g_bipush (v := 64) dX3_beginAs_10 (by decide) ?_
  obtain ⟨hv1, h⟩ := gcpy h
  obtain ⟨S2, eS2, h⟩ := gle h
  refine g_cpy dX3_beginAs_12 ac_X3_39 (out_a1 hoo) (out_a1 ho) hv1 (by decide) (by decide) eS2 ?_
  refine g_aload_n dX3_beginAs_15 1 rfl rfl ?_
  refine g_getr dX3_beginAs_16 lk_X3_15 (out_3 hoo) ?_
  refine g_iconst (v := 0) dX3_beginAs_19 (by decide) ?_
  refine g_aload_n dX3_beginAs_20 0 rfl rfl ?_
  refine g_getr dX3_beginAs_21 lk_X3_15 (out_3 ho) ?_
  refine g_iconst (v := 0) dX3_beginAs_24 (by decide) ?_
  refine g_bipush (v := 64) dX3_beginAs_25 (by decide) ?_
  obtain ⟨hv3, h⟩ := gcpy h
  obtain ⟨S4, eS4, h⟩ := gle h
  refine g_cpy dX3_beginAs_27 ac_X3_39 (out_a2 hoo) (out_a2 ho) hv3 (by decide) (by decide) eS4 ?_
  refine g_aload_n dX3_beginAs_30 0 rfl rfl ?_
  refine g_aload_n dX3_beginAs_31 1 rfl rfl ?_
  refine g_geti dX3_beginAs_32 lk_X3_18 (out_4 hoo) ?_
  obtain ⟨S5, eS5, h⟩ := gle h
  refine g_puti dX3_beginAs_35 lp_X3_18 (out_4 ho) eS5 ?_
  refine g_aload_n dX3_beginAs_38 0 rfl rfl ?_
  refine g_aload_n dX3_beginAs_39 1 rfl rfl ?_
  refine g_geti dX3_beginAs_40 lk_X3_22 (out_5 hoo) ?_
  obtain ⟨S6, eS6, h⟩ := gle h
  refine g_puti dX3_beginAs_43 lp_X3_22 (out_5 ho) eS6 ?_
  refine g_aload_n dX3_beginAs_46 0 rfl rfl ?_
  refine g_aload_n dX3_beginAs_47 1 rfl rfl ?_
  refine g_geti dX3_beginAs_48 lk_X3_25 (out_6 hoo) ?_
  obtain ⟨S7, eS7, h⟩ := gle h
  refine g_puti dX3_beginAs_51 lp_X3_25 (out_6 ho) eS7 ?_
  obtain rfl := Option.some.inj h
  exact g_vret dX3_beginAs_54 rfl
theorem ctX3_beginAs {X : gX} {F : Nat} {o : Nat} {oo : Nat} (ho : g_isOut o) (hoo : g_isOut oo) {R : gS} {S : gS} (h : fX3_beginAs F o oo S = some R) : g_C X yX3_beginAs cX3_beginAs 2 none 1 [.ref (X.1 + o), .ref (X.1 + oo)] S none R :=
  g_met (by decide) (Nat.le_of_ble_eq_true rfl) (fX3_beginAs_ok ho hoo h)
noncomputable def fX3_tread (F : Nat) (o : Nat) (a0 : Int32) (S : gS) : Option (gS) := g_chk a0 64 (gl (g_setI S o 4 ((g_I S o 4) + ((1 : Int32) + (g_I S (o + 1) (a0).toNatClampNeg)))) (fun S2 : gS => gl (g_setI S2 o 5 ((g_I S2 o 5) + (1 : Int32))) (fun S3 : gS => g_chk a0 64 (g_chk a0 64 (gl (g_setI S3 (o + 2) (a0).toNatClampNeg ((g_I S3 (o + 2) (a0).toNatClampNeg) + (1 : Int32))) (fun S6 : gS => g_chk a0 64 (if (g_I S6 (o + 1) (a0).toNatClampNeg) ≤ 0 then (some S6) else (g_chk a0 64 (g_chk a0 64 (gl (g_setI S6 (o + 1) (a0).toNatClampNeg ((g_I S6 (o + 1) (a0).toNatClampNeg) - (1 : Int32))) (fun S11 : gS => some S11)))))))))))
set_option maxRecDepth 20000 in
theorem fX3_tread_ok {X : gX} {F : Nat} {o : Nat} (ho : g_isOut o) {R : gS} {a0 : Int32} {S : gS} (h : fX3_tread F o a0 S = some R) : G X RX3 cX3_tread 2 none 0 none R 0 [(0, .ref (X.1 + o)), (1, .int a0)] [] S := by
  unfold fX3_tread at h
  refine g_aload_n dX3_tread_0 0 rfl rfl ?_
  refine g_dup dX3_tread_1 rfl ?_
  refine g_geti dX3_tread_2 lk_X3_18 (out_4 ho) ?_
  refine g_iconst (v := 1) dX3_tread_5 (by decide) ?_
  refine g_aload_n dX3_tread_6 0 rfl rfl ?_
  refine g_getr dX3_tread_7 lk_X3_9 (out_2 ho) ?_
  refine g_iload_n dX3_tread_10 1 rfl rfl ?_
  obtain ⟨hv1, h⟩ := gchk h
  refine g_iald dX3_tread_11 (out_a1 ho) hv1 ?_
  refine g_iadd dX3_tread_12 ?_
  refine g_iadd dX3_tread_13 ?_
  obtain ⟨S2, eS2, h⟩ := gle h
  refine g_puti dX3_tread_14 lp_X3_18 (out_4 ho) eS2 ?_
  refine g_aload_n dX3_tread_17 0 rfl rfl ?_
  refine g_dup dX3_tread_18 rfl ?_
  refine g_geti dX3_tread_19 lk_X3_22 (out_5 ho) ?_
  refine g_iconst (v := 1) dX3_tread_22 (by decide) ?_
  refine g_iadd dX3_tread_23 ?_
  obtain ⟨S3, eS3, h⟩ := gle h
  refine g_puti dX3_tread_24 lp_X3_22 (out_5 ho) eS3 ?_
  refine g_aload_n dX3_tread_27 0 rfl rfl ?_
  refine g_getr dX3_tread_28 lk_X3_15 (out_3 ho) ?_
  refine g_iload_n dX3_tread_31 1 rfl rfl ?_
  refine g_dup2 dX3_tread_32 rfl rfl ?_
  obtain ⟨hv4, h⟩ := gchk h
  refine g_iald dX3_tread_33 (out_a2 ho) hv4 ?_
  refine g_iconst (v := 1) dX3_tread_34 (by decide) ?_
  refine g_iadd dX3_tread_35 ?_
  obtain ⟨hv5, h⟩ := gchk h
  obtain ⟨S6, eS6, h⟩ := gle h
  refine g_iast dX3_tread_36 (out_a2 ho) hv5 eS6 ?_
  refine g_aload_n dX3_tread_37 0 rfl rfl ?_
  refine g_getr dX3_tread_38 lk_X3_9 (out_2 ho) ?_
  refine g_iload_n dX3_tread_41 1 rfl rfl ?_
  obtain ⟨hv7, h⟩ := gchk h
  refine g_iald dX3_tread_42 (out_a1 ho) hv7 ?_
  refine g_if_le (tgt := 56) dX3_tread_43 (by decide) (fun hc8 => ?_) (fun hc8 => ?_)
  · replace h := git hc8 h
    obtain rfl := Option.some.inj h
    exact g_vret dX3_tread_56 rfl
  · replace h := gif hc8 h
    refine g_aload_n dX3_tread_46 0 rfl rfl ?_
    refine g_getr dX3_tread_47 lk_X3_9 (out_2 ho) ?_
    refine g_iload_n dX3_tread_50 1 rfl rfl ?_
    refine g_dup2 dX3_tread_51 rfl rfl ?_
    obtain ⟨hv9, h⟩ := gchk h
    refine g_iald dX3_tread_52 (out_a1 ho) hv9 ?_
    refine g_iconst (v := 1) dX3_tread_53 (by decide) ?_
    refine g_isub dX3_tread_54 ?_
    obtain ⟨hv10, h⟩ := gchk h
    obtain ⟨S11, eS11, h⟩ := gle h
    refine g_iast dX3_tread_55 (out_a1 ho) hv10 eS11 ?_
    obtain rfl := Option.some.inj h
    exact g_vret dX3_tread_56 rfl
theorem ctX3_tread {X : gX} {F : Nat} {o : Nat} (ho : g_isOut o) {R : gS} {a0 : Int32} {S : gS} (h : fX3_tread F o a0 S = some R) : g_C X yX3_tread cX3_tread 2 none 0 [.ref (X.1 + o), .int a0] S none R :=
  g_met (by decide) (Nat.le_of_ble_eq_true rfl) (fX3_tread_ok ho h)
noncomputable def bX3_follow_11 (F : Nat) (o : Nat) (k11 : (Int64 × Int32 × Int32 × gS) → Option (Int32 × gS)) (x2 : Int64) (x4 : Int32) (x5 : Int32) (S : gS) : Option (Int32 × gS) := if (g_I S 12 3) ≤ x5 then (some (x4, S)) else (g_chk x5 64 (gl (g_I S 15 (x5).toNatClampNeg) (fun v3 : Int32 => (fX7_has F x2 v3 S).bind (fun q4 : Int32 × gS => if q4.1 = 0 then ((fX3_tread F o v3 q4.2).bind (fun q6 : gS => gl (x5 + 1) (fun v7 : Int32 => k11 (x2, v3, v7, q6)))) else (gl (g_setI q4.2 o 7 v3) (fun S8 : gS => some (x4, S8)))))))
set_option maxRecDepth 20000 in
theorem bX3_follow_11_ok {X : gX} {F : Nat} {o : Nat} (ho : g_isOut o) {k11 : (Int64 × Int32 × Int32 × gS) → Option (Int32 × gS)} {R : Int32 × gS} (H11 : ∀ s : Int64 × Int32 × Int32 × gS, k11 s = some R → G X RX3 cX3_follow 7 (some .int) 1 (some (.int R.1)) R.2 11 [(0, .ref (X.1 + o)), (2, .long s.1), (4, .int s.2.1), (5, .int s.2.2.1)] [] s.2.2.2) {x2 : Int64} {x4 : Int32} {x5 : Int32} {S : gS} (h : bX3_follow_11 F o k11 x2 x4 x5 S = some R) : G X RX3 cX3_follow 7 (some .int) 1 (some (.int R.1)) R.2 11 [(0, .ref (X.1 + o)), (2, .long x2), (4, .int x4), (5, .int x5)] [] S := by
  unfold bX3_follow_11 at h
  refine g_iload dX3_follow_11 3 rfl ?_
  refine g_aload_n dX3_follow_13 0 rfl rfl ?_
  refine g_getr dX3_follow_14 lk_X3_35 (out_1 ho) ?_
  refine g_geti dX3_follow_17 lk_X3_71 sf_12_3 ?_
  refine g_icmp_ge (tgt := 69) dX3_follow_20 (by decide) (fun hc1 => ?_) (fun hc1 => ?_)
  · replace h := git hc1 h
    refine g_iload dX3_follow_69 2 rfl ?_
    obtain rfl := Option.some.inj h
    exact g_iret dX3_follow_71 rfl
  · replace h := gif hc1 h
    refine g_aload_n dX3_follow_23 0 rfl rfl ?_
    refine g_getr dX3_follow_24 lk_X3_35 (out_1 ho) ?_
    refine g_getr dX3_follow_27 lk_X3_74 sf_12_2 ?_
    refine g_iload dX3_follow_30 3 rfl ?_
    obtain ⟨hv2, h⟩ := gchk h
    refine g_iald dX3_follow_32 sa_15 hv2 ?_
    obtain ⟨v3, ev3, h⟩ := gle h
    refine g_istore (lv' := [(6, .int v3), (0, .ref (X.1 + o)), (2, .long x2), (4, .int x4), (5, .int x5)]) dX3_follow_33 ev3 (by decide) rfl ?_
    refine g_lload_n dX3_follow_35 2 rfl rfl ?_
    refine g_iload dX3_follow_36 0 rfl ?_
    obtain ⟨q4, hq4, h⟩ := gb h
    refine g_callSi [.long x2, .int v3] [] dX3_follow_38 mk_X3_77 (ctX7_has hq4) rfl (by decide) rfl (Nat.le_of_ble_eq_true rfl) ?_
    refine g_if_eq (tgt := 53) dX3_follow_41 (by decide) (fun hc5 => ?_) (fun hc5 => ?_)
    · replace h := git hc5 h
      refine g_aload_n dX3_follow_53 1 rfl rfl ?_
      refine g_iload dX3_follow_54 0 rfl ?_
      obtain ⟨q6, hq6, h⟩ := gb h
      refine g_callVv [.int v3] [] dX3_follow_56 mk_X3_81 (out_o ho) (ctX3_tread ho hq6) rfl (by decide) rfl (Nat.le_of_ble_eq_true rfl) ?_
      refine g_iload dX3_follow_59 0 rfl ?_
      refine g_istore (lv' := [(4, .int v3), (6, .int v3), (0, .ref (X.1 + o)), (2, .long x2), (5, .int x5)]) dX3_follow_61 rfl (by decide) rfl ?_
      obtain ⟨v7, ev7, h⟩ := gle h
      refine g_iinc (q := 4) (v := v7) (lv' := [(5, .int v7), (4, .int v3), (6, .int v3), (0, .ref (X.1 + o)), (2, .long x2)]) dX3_follow_63 rfl (by rw [← ev7]; rfl) (by decide) rfl ?_
      refine g_goto (tgt := 11) dX3_follow_66 (by decide) ?_
      refine g_sub [3, 4, 1, 0] rfl ?_
      exact H11 (x2, v3, v7, q6) h
    · replace h := gif hc5 h
      refine g_aload_n dX3_follow_44 1 rfl rfl ?_
      refine g_iload dX3_follow_45 0 rfl ?_
      obtain ⟨S8, eS8, h⟩ := gle h
      refine g_puti dX3_follow_47 lp_X3_28 (out_7 ho) eS8 ?_
      refine g_iload dX3_follow_50 3 rfl ?_
      obtain rfl := Option.some.inj h
      exact g_iret dX3_follow_52 rfl
noncomputable def bX3_follow_11l (F : Nat) (o : Nat) : Nat → (Int64 × Int32 × Int32 × gS) → Option (Int32 × gS) := g_fix (fun k11 s => bX3_follow_11 F o k11 s.1 s.2.1 s.2.2.1 s.2.2.2)
theorem bX3_follow_11l_ok {X : gX} {F : Nat} {o : Nat} (ho : g_isOut o) {R : Int32 × gS} : ∀ (n : Nat) (s : Int64 × Int32 × Int32 × gS), bX3_follow_11l F o n s = some R → G X RX3 cX3_follow 7 (some .int) 1 (some (.int R.1)) R.2 11 [(0, .ref (X.1 + o)), (2, .long s.1), (4, .int s.2.1), (5, .int s.2.2.1)] [] s.2.2.2 := by
  intro n
  induction n with
  | zero => intro s h; cases h
  | succ n ih => intro s h; exact bX3_follow_11_ok (F := F) ho ih h
noncomputable def fX3_follow (F : Nat) (o : Nat) (a0 : Int32) (a1 : Int64) (S : gS) : Option (Int32 × gS) := gl (g_setI S o 7 (-1 : Int32)) (fun S1 : gS => bX3_follow_11l F o F (a1, a0, (0 : Int32), S1))
set_option maxRecDepth 20000 in
theorem fX3_follow_ok {X : gX} {F : Nat} {o : Nat} (ho : g_isOut o) {R : Int32 × gS} {a0 : Int32} {a1 : Int64} {S : gS} (h : fX3_follow F o a0 a1 S = some R) : G X RX3 cX3_follow 7 (some .int) 1 (some (.int R.1)) R.2 0 [(0, .ref (X.1 + o)), (1, .int a0), (2, .long a1)] [] S := by
  unfold fX3_follow at h
  refine g_iload_n dX3_follow_0 1 rfl rfl ?_
  refine g_istore (lv' := [(4, .int a0), (0, .ref (X.1 + o)), (1, .int a0), (2, .long a1)]) dX3_follow_1 rfl (by decide) rfl ?_
  refine g_aload_n dX3_follow_3 1 rfl rfl ?_
  refine g_iconst (v := -1) dX3_follow_4 (by decide) ?_
  obtain ⟨S1, eS1, h⟩ := gle h
  refine g_puti dX3_follow_5 lp_X3_28 (out_7 ho) eS1 ?_
  refine g_iconst (v := 0) dX3_follow_8 (by decide) ?_
  refine g_istore (lv' := [(5, .int (0 : Int32)), (4, .int a0), (0, .ref (X.1 + o)), (1, .int a0), (2, .long a1)]) dX3_follow_9 rfl (by decide) rfl ?_
  refine g_sub [2, 4, 1, 0] rfl ?_
  exact bX3_follow_11l_ok ho F (a1, a0, (0 : Int32), S1) h
theorem ctX3_follow {X : gX} {F : Nat} {o : Nat} (ho : g_isOut o) {R : Int32 × gS} {a0 : Int32} {a1 : Int64} {S : gS} (h : fX3_follow F o a0 a1 S = some R) : g_C X yX3_follow cX3_follow 7 (some .int) 1 [.ref (X.1 + o), .int a0, .long a1] S (some (.int R.1)) R.2 :=
  g_met (by decide) (Nat.le_of_ble_eq_true rfl) (fX3_follow_ok ho h)

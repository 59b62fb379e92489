noncomputable def fX7_beside (F : Nat) (a0 : Int32) (a1 : Int32) (S : gS) : Option (Int32 × gS) := gl (a0 &&& (7 : Int32)) (fun v1 : Int32 => if a1 = 0 then (if a0 < (8 : Int32) then (some ((-1 : Int32), S)) else (some ((a0 - (8 : Int32)), S))) else (if a1 = 1 then (if (7 : Int32) ≤ v1 then (some ((-1 : Int32), S)) else (some ((a0 + (1 : Int32)), S))) else (if a1 = 2 then (if (56 : Int32) ≤ a0 then (some ((-1 : Int32), S)) else (some ((a0 + (8 : Int32)), S))) else (if a1 = 3 then (if v1 ≤ 0 then (some ((-1 : Int32), S)) else (some ((a0 - (1 : Int32)), S))) else (some ((-1 : Int32), S))))))
set_option maxRecDepth 20000 in
theorem fX7_beside_ok {X : gX} {F : Nat} {R : Int32 × gS} {a0 : Int32} {a1 : Int32} {S : gS} (h : fX7_beside F a0 a1 S = some R) : G X RX7 cX7_beside 3 (some .int) 0 (some (.int R.1)) R.2 0 [(0, .int a0), (1, .int a1)] [] S := by
  unfold fX7_beside at h
  refine g_iload_n dX7_beside_0 0 rfl rfl ?_
  refine g_bipush (v := 7) dX7_beside_1 (by decide) ?_
  refine g_iand dX7_beside_3 ?_
  obtain ⟨v1, ev1, h⟩ := gle h
  refine g_istore_n (lv' := [(2, .int v1), (0, .int a0), (1, .int a1)]) dX7_beside_4 ev1 rfl (by decide) rfl ?_
  refine g_iload_n dX7_beside_5 2 rfl rfl ?_
  by_cases hc2 : a1 = 0
  · replace h := git hc2 h
    refine g_tabIn (off := 30) (tgt := 36) dX7_beside_6 (by have z := hc2; (try unfold g_I at z); rw [z]; decide) (by have z := hc2; (try unfold g_I at z); rw [z]; decide) (by have z := hc2; (try unfold g_I at z); rw [z]; rfl) (by decide) ?_
    refine g_iload_n dX7_beside_36 1 rfl rfl ?_
    refine g_bipush (v := 8) dX7_beside_37 (by decide) ?_
    refine g_icmp_lt (tgt := 49) dX7_beside_39 (by decide) (fun hc3 => ?_) (fun hc3 => ?_)
    · replace h := git hc3 h
      refine g_iconst (v := -1) dX7_beside_49 (by decide) ?_
      obtain rfl := Option.some.inj h
      exact g_iret dX7_beside_50 rfl
    · replace h := gif hc3 h
      refine g_iload_n dX7_beside_42 1 rfl rfl ?_
      refine g_bipush (v := 8) dX7_beside_43 (by decide) ?_
      refine g_isub dX7_beside_45 ?_
      refine g_goto (tgt := 50) dX7_beside_46 (by decide) ?_
      obtain rfl := Option.some.inj h
      exact g_iret dX7_beside_50 rfl
  · replace h := gif hc2 h
    by_cases hc4 : a1 = 1
    · replace h := git hc4 h
      refine g_tabIn (off := 45) (tgt := 51) dX7_beside_6 (by have z := hc4; (try unfold g_I at z); rw [z]; decide) (by have z := hc4; (try unfold g_I at z); rw [z]; decide) (by have z := hc4; (try unfold g_I at z); rw [z]; rfl) (by decide) ?_
      refine g_iload_n dX7_beside_51 0 rfl rfl ?_
      refine g_bipush (v := 7) dX7_beside_52 (by decide) ?_
      refine g_icmp_ge (tgt := 63) dX7_beside_54 (by decide) (fun hc5 => ?_) (fun hc5 => ?_)
      · replace h := git hc5 h
        refine g_iconst (v := -1) dX7_beside_63 (by decide) ?_
        obtain rfl := Option.some.inj h
        exact g_iret dX7_beside_64 rfl
      · replace h := gif hc5 h
        refine g_iload_n dX7_beside_57 1 rfl rfl ?_
        refine g_iconst (v := 1) dX7_beside_58 (by decide) ?_
        refine g_iadd dX7_beside_59 ?_
        refine g_goto (tgt := 64) dX7_beside_60 (by decide) ?_
        obtain rfl := Option.some.inj h
        exact g_iret dX7_beside_64 rfl
    · replace h := gif hc4 h
      by_cases hc6 : a1 = 2
      · replace h := git hc6 h
        refine g_tabIn (off := 59) (tgt := 65) dX7_beside_6 (by have z := hc6; (try unfold g_I at z); rw [z]; decide) (by have z := hc6; (try unfold g_I at z); rw [z]; decide) (by have z := hc6; (try unfold g_I at z); rw [z]; rfl) (by decide) ?_
        refine g_iload_n dX7_beside_65 1 rfl rfl ?_
        refine g_bipush (v := 56) dX7_beside_66 (by decide) ?_
        refine g_icmp_ge (tgt := 78) dX7_beside_68 (by decide) (fun hc7 => ?_) (fun hc7 => ?_)
        · replace h := git hc7 h
          refine g_iconst (v := -1) dX7_beside_78 (by decide) ?_
          obtain rfl := Option.some.inj h
          exact g_iret dX7_beside_79 rfl
        · replace h := gif hc7 h
          refine g_iload_n dX7_beside_71 1 rfl rfl ?_
          refine g_bipush (v := 8) dX7_beside_72 (by decide) ?_
          refine g_iadd dX7_beside_74 ?_
          refine g_goto (tgt := 79) dX7_beside_75 (by decide) ?_
          obtain rfl := Option.some.inj h
          exact g_iret dX7_beside_79 rfl
      · replace h := gif hc6 h
        by_cases hc8 : a1 = 3
        · replace h := git hc8 h
          refine g_tabIn (off := 74) (tgt := 80) dX7_beside_6 (by have z := hc8; (try unfold g_I at z); rw [z]; decide) (by have z := hc8; (try unfold g_I at z); rw [z]; decide) (by have z := hc8; (try unfold g_I at z); rw [z]; rfl) (by decide) ?_
          refine g_iload_n dX7_beside_80 0 rfl rfl ?_
          refine g_if_le (tgt := 90) dX7_beside_81 (by decide) (fun hc9 => ?_) (fun hc9 => ?_)
          · replace h := git hc9 h
            refine g_iconst (v := -1) dX7_beside_90 (by decide) ?_
            obtain rfl := Option.some.inj h
            exact g_iret dX7_beside_91 rfl
          · replace h := gif hc9 h
            refine g_iload_n dX7_beside_84 1 rfl rfl ?_
            refine g_iconst (v := 1) dX7_beside_85 (by decide) ?_
            refine g_isub dX7_beside_86 ?_
            refine g_goto (tgt := 91) dX7_beside_87 (by decide) ?_
            obtain rfl := Option.some.inj h
            exact g_iret dX7_beside_91 rfl
        · replace h := gif hc8 h
          refine g_tabOut (tgt := 92) dX7_beside_6 (g_tout (fun c h1 h2 => by have z0 := g_tne hc2; have z1 := g_tne hc4; have z2 := g_tne hc6; have z3 := g_tne hc8; rw [show ((0 : Int32)).toInt = 0 from by decide] at z0; rw [show ((1 : Int32)).toInt = 1 from by decide] at z1; rw [show ((2 : Int32)).toInt = 2 from by decide] at z2; rw [show ((3 : Int32)).toInt = 3 from by decide] at z3; omega)) (by decide) ?_
          refine g_iconst (v := -1) dX7_beside_92 (by decide) ?_
          obtain rfl := Option.some.inj h
          exact g_iret dX7_beside_93 rfl
theorem ctX7_beside {X : gX} {F : Nat} {R : Int32 × gS} {a0 : Int32} {a1 : Int32} {S : gS} (h : fX7_beside F a0 a1 S = some R) : g_C X yX7_beside cX7_beside 3 (some .int) 0 [.int a0, .int a1] S (some (.int R.1)) R.2 :=
  g_met (by decide) (Nat.le_of_ble_eq_true rfl) (fX7_beside_ok h)
noncomputable def bX4_onward_58 (F : Nat) (sn : Nat) (k2 : (Int32 × Int32 × gS) → Option (Int32 × gS)) (x1 : Int32) (x3 : Int32) (S : gS) : Option (Int32 × gS) := gl (x3 + 1) (fun v1 : Int32 => k2 (x1, v1, S))
set_option maxRecDepth 20000 in
theorem bX4_onward_58_ok {X : gX} {F : Nat} {sn : Nat} (hsn : g_isA sn 0 64) {k2 : (Int32 × Int32 × gS) → Option (Int32 × gS)} {R : Int32 × gS} (H2 : ∀ s : Int32 × Int32 × gS, k2 s = some R → G X RX4 cX4_onward 5 (some .int) 1 (some (.int R.1)) R.2 2 [(0, .ref (X.1 + 12)), (1, .int s.1), (2, .ref (X.1 + sn)), (3, .int s.2.1)] [] s.2.2) {x1 : Int32} {x3 : Int32} {S : gS} (h : bX4_onward_58 F sn k2 x1 x3 S = some R) : G X RX4 cX4_onward 5 (some .int) 1 (some (.int R.1)) R.2 58 [(0, .ref (X.1 + 12)), (1, .int x1), (2, .ref (X.1 + sn)), (3, .int x3)] [] S := by
  unfold bX4_onward_58 at h
  obtain ⟨v1, ev1, h⟩ := gle h
  refine g_iinc (q := 3) (v := v1) (lv' := [(3, .int v1), (0, .ref (X.1 + 12)), (1, .int x1), (2, .ref (X.1 + sn))]) dX4_onward_58 rfl (by rw [← ev1]; rfl) (by decide) rfl ?_
  refine g_goto (tgt := 2) dX4_onward_61 (by decide) ?_
  refine g_sub [1, 2, 3, 0] rfl ?_
  exact H2 (x1, v1, S) h
noncomputable def bX4_onward_2 (F : Nat) (sn : Nat) (k2 : (Int32 × Int32 × gS) → Option (Int32 × gS)) (x1 : Int32) (x3 : Int32) (S : gS) : Option (Int32 × gS) := if (4 : Int32) ≤ x3 then (some ((-1 : Int32), S)) else ((fX7_beside F x1 x3 S).bind (fun q2 : Int32 × gS => gl q2.1 (fun v3 : Int32 => if v3 = (-1 : Int32) then (bX4_onward_58 F sn k2 x1 x3 q2.2) else ((fX7_has F (g_J q2.2 12 4) v3 q2.2).bind (fun q5 : Int32 × gS => if q5.1 = 0 then (bX4_onward_58 F sn k2 x1 x3 q5.2) else (g_chk v3 64 (g_chk v3 64 (g_chk x1 64 (if (((g_I q5.2 13 (v3).toNatClampNeg) + (1 : Int32)) + (g_I q5.2 sn (v3).toNatClampNeg)) = (g_I q5.2 13 (x1).toNatClampNeg) then (some (v3, q5.2)) else (bX4_onward_58 F sn k2 x1 x3 q5.2))))))))))
set_option maxRecDepth 20000 in
theorem bX4_onward_2_ok {X : gX} {F : Nat} {sn : Nat} (hsn : g_isA sn 0 64) {k2 : (Int32 × Int32 × gS) → Option (Int32 × gS)} {R : Int32 × gS} (H2 : ∀ s : Int32 × Int32 × gS, k2 s = some R → G X RX4 cX4_onward 5 (some .int) 1 (some (.int R.1)) R.2 2 [(0, .ref (X.1 + 12)), (1, .int s.1), (2, .ref (X.1 + sn)), (3, .int s.2.1)] [] s.2.2) {x1 : Int32} {x3 : Int32} {S : gS} (h : bX4_onward_2 F sn k2 x1 x3 S = some R) : G X RX4 cX4_onward 5 (some .int) 1 (some (.int R.1)) R.2 2 [(0, .ref (X.1 + 12)), (1, .int x1), (2, .ref (X.1 + sn)), (3, .int x3)] [] S := by
  unfold bX4_onward_2 at h
  refine g_iload_n dX4_onward_2 3 rfl rfl ?_
  refine g_iconst (v := 4) dX4_onward_3 (by decide) ?_
  refine g_icmp_ge (tgt := 64) dX4_onward_4 (by decide) (fun hc1 => ?_) (fun hc1 => ?_)
  · replace h := git hc1 h
    refine g_iconst (v := -1) dX4_onward_64 (by decide) ?_
    obtain rfl := Option.some.inj h
    exact g_iret dX4_onward_65 rfl
  · replace h := gif hc1 h
    refine g_iload_n dX4_onward_7 1 rfl rfl ?_
    refine g_iload_n dX4_onward_8 3 rfl rfl ?_
    obtain ⟨q2, hq2, h⟩ := gb h
    refine g_callSi [.int x1, .int x3] [] dX4_onward_9 mk_X4_70 (ctX7_beside hq2) rfl (by decide) rfl (Nat.le_of_ble_eq_true rfl) ?_
    obtain ⟨v3, ev3, h⟩ := gle h
    refine g_istore (lv' := [(4, .int v3), (0, .ref (X.1 + 12)), (1, .int x1), (2, .ref (X.1 + sn)), (3, .int x3)]) dX4_onward_12 ev3 (by decide) rfl ?_
    refine g_iload dX4_onward_14 0 rfl ?_
    refine g_iconst (v := -1) dX4_onward_16 (by decide) ?_
    refine g_icmp_eq (tgt := 58) dX4_onward_17 (by decide) (fun hc4 => ?_) (fun hc4 => ?_)
    · replace h := git hc4 h
      refine g_sub [1, 2, 3, 4] rfl ?_
      exact bX4_onward_58_ok hsn H2 h
    · replace h := gif hc4 h
      refine g_aload_n dX4_onward_20 1 rfl rfl ?_
      refine g_getj dX4_onward_21 lk_X4_26 sf_12_4 ?_
      refine g_iload dX4_onward_24 0 rfl ?_
      obtain ⟨q5, hq5, h⟩ := gb h
      refine g_callSi [.long (g_J q2.2 12 4), .int v3] [] dX4_onward_26 mk_X4_30 (ctX7_has hq5) rfl (by decide) rfl (Nat.le_of_ble_eq_true rfl) ?_
      refine g_if_eq (tgt := 58) dX4_onward_29 (by decide) (fun hc6 => ?_) (fun hc6 => ?_)
      · replace h := git hc6 h
        refine g_sub [1, 2, 3, 4] rfl ?_
        exact bX4_onward_58_ok hsn H2 h
      · replace h := gif hc6 h
        refine g_aload_n dX4_onward_32 1 rfl rfl ?_
        refine g_getr dX4_onward_33 lk_X4_9 sf_12_0 ?_
        refine g_iload dX4_onward_36 0 rfl ?_
        obtain ⟨hv7, h⟩ := gchk h
        refine g_iald dX4_onward_38 sa_13 hv7 ?_
        refine g_iconst (v := 1) dX4_onward_39 (by decide) ?_
        refine g_iadd dX4_onward_40 ?_
        refine g_aload_n dX4_onward_41 3 rfl rfl ?_
        refine g_iload dX4_onward_42 0 rfl ?_
        obtain ⟨hv8, h⟩ := gchk h
        refine g_iald dX4_onward_44 hsn hv8 ?_
        refine g_iadd dX4_onward_45 ?_
        refine g_aload_n dX4_onward_46 1 rfl rfl ?_
        refine g_getr dX4_onward_47 lk_X4_9 sf_12_0 ?_
        refine g_iload_n dX4_onward_50 2 rfl rfl ?_
        obtain ⟨hv9, h⟩ := gchk h
        refine g_iald dX4_onward_51 sa_13 hv9 ?_
        refine g_icmp_ne (tgt := 58) dX4_onward_52 (by decide) (fun hc10 => ?_) (fun hc10 => ?_)
        · replace h := gif hc10 h
          refine g_sub [1, 2, 3, 4] rfl ?_
          exact bX4_onward_58_ok hsn H2 h
        · replace h := git hc10 h
          refine g_iload dX4_onward_55 0 rfl ?_
          obtain rfl := Option.some.inj h
          exact g_iret dX4_onward_57 rfl
noncomputable def bX4_onward_2l (F : Nat) (sn : Nat) : Nat → (Int32 × Int32 × gS) → Option (Int32 × gS) := g_fix (fun k2 s => bX4_onward_2 F sn k2 s.1 s.2.1 s.2.2)
theorem bX4_onward_2l_ok {X : gX} {F : Nat} {sn : Nat} (hsn : g_isA sn 0 64) {R : Int32 × gS} : ∀ (n : Nat) (s : Int32 × Int32 × gS), bX4_onward_2l F sn n s = some R → G X RX4 cX4_onward 5 (some .int) 1 (some (.int R.1)) R.2 2 [(0, .ref (X.1 + 12)), (1, .int s.1), (2, .ref (X.1 + sn)), (3, .int s.2.1)] [] s.2.2 := by
  intro n
  induction n with
  | zero => intro s h; cases h
  | succ n ih => intro s h; exact bX4_onward_2_ok (F := F) hsn ih h
noncomputable def fX4_onward (F : Nat) (sn : Nat) (a0 : Int32) (S : gS) : Option (Int32 × gS) := bX4_onward_2l F sn F (a0, (0 : Int32), S)
set_option maxRecDepth 20000 in
theorem fX4_onward_ok {X : gX} {F : Nat} {sn : Nat} (hsn : g_isA sn 0 64) {R : Int32 × gS} {a0 : Int32} {S : gS} (h : fX4_onward F sn a0 S = some R) : G X RX4 cX4_onward 5 (some .int) 1 (some (.int R.1)) R.2 0 [(0, .ref (X.1 + 12)), (1, .int a0), (2, .ref (X.1 + sn))] [] S := by
  unfold fX4_onward at h
  refine g_iconst (v := 0) dX4_onward_0 (by decide) ?_
  refine g_istore_n (lv' := [(3, .int (0 : Int32)), (0, .ref (X.1 + 12)), (1, .int a0), (2, .ref (X.1 + sn))]) dX4_onward_1 rfl rfl (by decide) rfl ?_
  refine g_sub [1, 2, 3, 0] rfl ?_
  exact bX4_onward_2l_ok hsn F (a0, (0 : Int32), S) h
theorem ctX4_onward {X : gX} {F : Nat} {sn : Nat} (hsn : g_isA sn 0 64) {R : Int32 × gS} {a0 : Int32} {S : gS} (h : fX4_onward F sn a0 S = some R) : g_C X yX4_onward cX4_onward 5 (some .int) 1 [.ref (X.1 + 12), .int a0, .ref (X.1 + sn)] S (some (.int R.1)) R.2 :=
  g_met (by decide) (Nat.le_of_ble_eq_true rfl) (fX4_onward_ok hsn h)
noncomputable def fJ13_bitCount_95d88 (F : Nat) (a0 : Int64) (S : gS) : Option (Int32 × gS) := gl (a0 - (((a0).toUInt64 >>> (((1 : Int32)).toInt64.toUInt64 &&& Int64.toUInt64 63)).toInt64 &&& (6148914691236517205 : Int64))) (fun v1 : Int64 => gl ((v1 &&& (3689348814741910323 : Int64)) + (((v1).toUInt64 >>> (((2 : Int32)).toInt64.toUInt64 &&& Int64.toUInt64 63)).toInt64 &&& (3689348814741910323 : Int64))) (fun v2 : Int64 => gl ((v2 + ((v2).toUInt64 >>> (((4 : Int32)).toInt64.toUInt64 &&& Int64.toUInt64 63)).toInt64) &&& (1085102592571150095 : Int64)) (fun v3 : Int64 => gl (v3 + ((v3).toUInt64 >>> (((8 : Int32)).toInt64.toUInt64 &&& Int64.toUInt64 63)).toInt64) (fun v4 : Int64 => gl (v4 + ((v4).toUInt64 >>> (((16 : Int32)).toInt64.toUInt64 &&& Int64.toUInt64 63)).toInt64) (fun v5 : Int64 => gl (v5 + ((v5).toUInt64 >>> (((32 : Int32)).toInt64.toUInt64 &&& Int64.toUInt64 63)).toInt64) (fun v6 : Int64 => some (((v6).toInt32 &&& (127 : Int32)), S)))))))
set_option maxRecDepth 20000 in
theorem fJ13_bitCount_95d88_ok {X : gX} {F : Nat} {R : Int32 × gS} {a0 : Int64} {S : gS} (h : fJ13_bitCount_95d88 F a0 S = some R) : G X RJ13 cJ13_bitCount_95d88 2 (some .int) 0 (some (.int R.1)) R.2 0 [(0, .long a0)] [] S := by
  unfold fJ13_bitCount_95d88 at h
  refine g_lload_n dJ13_bitCount_95d88_0 0 rfl rfl ?_
  refine g_lload_n dJ13_bitCount_95d88_1 0 rfl rfl ?_
  refine g_iconst (v := 1) dJ13_bitCount_95d88_2 (by decide) ?_
  refine g_lushr dJ13_bitCount_95d88_3 ?_
  refine g_ldc2 dJ13_bitCount_95d88_4 ck_J13_314 ?_
  refine g_land dJ13_bitCount_95d88_7 ?_
  refine g_lsub dJ13_bitCount_95d88_8 ?_
  obtain ⟨v1, ev1, h⟩ := gle h
  refine g_lstore_n (lv' := [(0, .long v1)]) dJ13_bitCount_95d88_9 ev1 rfl (by decide) rfl ?_
  refine g_lload_n dJ13_bitCount_95d88_10 0 rfl rfl ?_
  refine g_ldc2 dJ13_bitCount_95d88_11 ck_J13_316 ?_
  refine g_land dJ13_bitCount_95d88_14 ?_
  refine g_lload_n dJ13_bitCount_95d88_15 0 rfl rfl ?_
  refine g_iconst (v := 2) dJ13_bitCount_95d88_16 (by decide) ?_
  refine g_lushr dJ13_bitCount_95d88_17 ?_
  refine g_ldc2 dJ13_bitCount_95d88_18 ck_J13_316 ?_
  refine g_land dJ13_bitCount_95d88_21 ?_
  refine g_ladd dJ13_bitCount_95d88_22 ?_
  obtain ⟨v2, ev2, h⟩ := gle h
  refine g_lstore_n (lv' := [(0, .long v2)]) dJ13_bitCount_95d88_23 ev2 rfl (by decide) rfl ?_
  refine g_lload_n dJ13_bitCount_95d88_24 0 rfl rfl ?_
  refine g_lload_n dJ13_bitCount_95d88_25 0 rfl rfl ?_
  refine g_iconst (v := 4) dJ13_bitCount_95d88_26 (by decide) ?_
  refine g_lushr dJ13_bitCount_95d88_27 ?_
  refine g_ladd dJ13_bitCount_95d88_28 ?_
  refine g_ldc2 dJ13_bitCount_95d88_29 ck_J13_318 ?_
  refine g_land dJ13_bitCount_95d88_32 ?_
  obtain ⟨v3, ev3, h⟩ := gle h
  refine g_lstore_n (lv' := [(0, .long v3)]) dJ13_bitCount_95d88_33 ev3 rfl (by decide) rfl ?_
  refine g_lload_n dJ13_bitCount_95d88_34 0 rfl rfl ?_
  refine g_lload_n dJ13_bitCount_95d88_35 0 rfl rfl ?_
  refine g_bipush (v := 8) dJ13_bitCount_95d88_36 (by decide) ?_
  refine g_lushr dJ13_bitCount_95d88_38 ?_
  refine g_ladd dJ13_bitCount_95d88_39 ?_
  obtain ⟨v4, ev4, h⟩ := gle h
  refine g_lstore_n (lv' := [(0, .long v4)]) dJ13_bitCount_95d88_40 ev4 rfl (by decide) rfl ?_
  refine g_lload_n dJ13_bitCount_95d88_41 0 rfl rfl ?_
  refine g_lload_n dJ13_bitCount_95d88_42 0 rfl rfl ?_
  refine g_bipush (v := 16) dJ13_bitCount_95d88_43 (by decide) ?_
  refine g_lushr dJ13_bitCount_95d88_45 ?_
  refine g_ladd dJ13_bitCount_95d88_46 ?_
  obtain ⟨v5, ev5, h⟩ := gle h
  refine g_lstore_n (lv' := [(0, .long v5)]) dJ13_bitCount_95d88_47 ev5 rfl (by decide) rfl ?_
  refine g_lload_n dJ13_bitCount_95d88_48 0 rfl rfl ?_
  refine g_lload_n dJ13_bitCount_95d88_49 0 rfl rfl ?_
  refine g_bipush (v := 32) dJ13_bitCount_95d88_50 (by decide) ?_
  refine g_lushr dJ13_bitCount_95d88_52 ?_
  refine g_ladd dJ13_bitCount_95d88_53 ?_
  obtain ⟨v6, ev6, h⟩ := gle h
  refine g_lstore_n (lv' := [(0, .long v6)]) dJ13_bitCount_95d88_54 ev6 rfl (by decide) rfl ?_
  refine g_lload_n dJ13_bitCount_95d88_55 0 rfl rfl ?_
  refine g_l2i dJ13_bitCount_95d88_56 ?_
  refine g_bipush (v := 127) dJ13_bitCount_95d88_57 (by decide) ?_
  refine g_iand dJ13_bitCount_95d88_59 ?_
  obtain rfl := Option.some.inj h
  exact g_iret dJ13_bitCount_95d88_60 rfl
theorem ctJ13_bitCount_95d88 {X : gX} {F : Nat} {R : Int32 × gS} {a0 : Int64} {S : gS} (h : fJ13_bitCount_95d88 F a0 S = some R) : g_C X yJ13_bitCount_95d88 cJ13_bitCount_95d88 2 (some .int) 0 [.long a0] S (some (.int R.1)) R.2 :=
  g_met (by decide) (Nat.le_of_ble_eq_true rfl) (fJ13_bitCount_95d88_ok h)
noncomputable def bJ7_fill_d0a16_6 (F : Nat) (k6 : (Int64 × Int32 × Int32 × gS) → Option (gS)) (x1 : Int64) (x3 : Int32) (x4 : Int32) (S : gS) : Option (gS) := if x4 ≤ x3 then (some S) else (g_chk x3 32 (gl (g_setJ S 14 (x3).toNatClampNeg x1) (fun S3 : gS => gl (x3 + 1) (fun v4 : Int32 => k6 (x1, v4, x4, S3)))))
set_option maxRecDepth 20000 in
theorem bJ7_fill_d0a16_6_ok {X : gX} {F : Nat} {k6 : (Int64 × Int32 × Int32 × gS) → Option (gS)} {R : gS} (H6 : ∀ s : Int64 × Int32 × Int32 × gS, k6 s = some R → G X RJ7 cJ7_fill_d0a16 5 none 0 none R 6 [(0, .ref (X.1 + 14)), (1, .long s.1), (3, .int s.2.1), (4, .int s.2.2.1)] [] s.2.2.2) {x1 : Int64} {x3 : Int32} {x4 : Int32} {S : gS} (h : bJ7_fill_d0a16_6 F k6 x1 x3 x4 S = some R) : G X RJ7 cJ7_fill_d0a16 5 none 0 none R 6 [(0, .ref (X.1 + 14)), (1, .long x1), (3, .int x3), (4, .int x4)] [] S := by
  unfold bJ7_fill_d0a16_6 at h
  refine g_iload_n dJ7_fill_d0a16_6 2 rfl rfl ?_
  refine g_iload dJ7_fill_d0a16_7 3 rfl ?_
  refine g_icmp_ge (tgt := 22) dJ7_fill_d0a16_9 (by decide) (fun hc1 => ?_) (fun hc1 => ?_)
  · replace h := git hc1 h
    obtain rfl := Option.some.inj h
    exact g_vret dJ7_fill_d0a16_22 rfl
  · replace h := gif hc1 h
    refine g_aload_n dJ7_fill_d0a16_12 0 rfl rfl ?_
    refine g_iload_n dJ7_fill_d0a16_13 2 rfl rfl ?_
    refine g_lload_n dJ7_fill_d0a16_14 1 rfl rfl ?_
    obtain ⟨hv2, h⟩ := gchk h
    obtain ⟨S3, eS3, h⟩ := gle h
    refine g_last dJ7_fill_d0a16_15 sa_14 hv2 eS3 ?_
    obtain ⟨v4, ev4, h⟩ := gle h
    refine g_iinc (q := 2) (v := v4) (lv' := [(3, .int v4), (0, .ref (X.1 + 14)), (1, .long x1), (4, .int x4)]) dJ7_fill_d0a16_16 rfl (by rw [← ev4]; rfl) (by decide) rfl ?_
    refine g_goto (tgt := 6) dJ7_fill_d0a16_19 (by decide) ?_
    refine g_sub [1, 2, 0, 3] rfl ?_
    exact H6 (x1, v4, x4, S3) h
noncomputable def bJ7_fill_d0a16_6l (F : Nat) : Nat → (Int64 × Int32 × Int32 × gS) → Option (gS) := g_fix (fun k6 s => bJ7_fill_d0a16_6 F k6 s.1 s.2.1 s.2.2.1 s.2.2.2)
theorem bJ7_fill_d0a16_6l_ok {X : gX} {F : Nat} {R : gS} : ∀ (n : Nat) (s : Int64 × Int32 × Int32 × gS), bJ7_fill_d0a16_6l F n s = some R → G X RJ7 cJ7_fill_d0a16 5 none 0 none R 6 [(0, .ref (X.1 + 14)), (1, .long s.1), (3, .int s.2.1), (4, .int s.2.2.1)] [] s.2.2.2 := by
  intro n
  induction n with
  | zero => intro s h; cases h
  | succ n ih => intro s h; exact bJ7_fill_d0a16_6_ok (F := F) ih h
noncomputable def fJ7_fill_d0a16 (F : Nat) (a1 : Int64) (S : gS) : Option (gS) := gl (Int32.ofNat 32) (fun v1 : Int32 => bJ7_fill_d0a16_6l F F (a1, (0 : Int32), v1, S))
set_option maxRecDepth 20000 in
theorem fJ7_fill_d0a16_ok {X : gX} {F : Nat} {R : gS} {a1 : Int64} {S : gS} (h : fJ7_fill_d0a16 F a1 S = some R) : G X RJ7 cJ7_fill_d0a16 5 none 0 none R 0 [(0, .ref (X.1 + 14)), (1, .long a1)] [] S := by
  unfold fJ7_fill_d0a16 at h
  refine g_iconst (v := 0) dJ7_fill_d0a16_0 (by decide) ?_
  refine g_istore_n (lv' := [(3, .int (0 : Int32)), (0, .ref (X.1 + 14)), (1, .long a1)]) dJ7_fill_d0a16_1 rfl rfl (by decide) rfl ?_
  refine g_aload_n dJ7_fill_d0a16_2 1 rfl rfl ?_
  refine g_alen dJ7_fill_d0a16_3 (by decide) sa_14 ?_
  obtain ⟨v1, ev1, h⟩ := gle h
  refine g_istore (lv' := [(4, .int v1), (3, .int (0 : Int32)), (0, .ref (X.1 + 14)), (1, .long a1)]) dJ7_fill_d0a16_4 ev1 (by decide) rfl ?_
  refine g_sub [2, 3, 1, 0] rfl ?_
  exact bJ7_fill_d0a16_6l_ok F (a1, (0 : Int32), v1, S) h
theorem ctJ7_fill_d0a16 {X : gX} {F : Nat} {R : gS} {a1 : Int64} {S : gS} (h : fJ7_fill_d0a16 F a1 S = some R) : g_C X yJ7_fill_d0a16 cJ7_fill_d0a16 5 none 0 [.ref (X.1 + 14), .long a1] S none R :=
  g_met (by decide) (Nat.le_of_ble_eq_true rfl) (fJ7_fill_d0a16_ok h)
noncomputable def fX4_around (F : Nat) (a0 : Int64) (S : gS) : Option (Int64 × gS) := gl ((a0 <<< (((1 : Int32)).toInt64 &&& 63)) &&& (-72340172838076674 : Int64)) (fun v1 : Int64 => gl ((((a0 &&& (-72340172838076674 : Int64))).toUInt64 >>> (((1 : Int32)).toInt64.toUInt64 &&& Int64.toUInt64 63)).toInt64) (fun v2 : Int64 => some ((((((a0).toUInt64 >>> (((8 : Int32)).toInt64.toUInt64 &&& Int64.toUInt64 63)).toInt64 ||| v1) ||| (a0 <<< (((8 : Int32)).toInt64 &&& 63))) ||| v2), S)))
set_option maxRecDepth 20000 in
theorem fX4_around_ok {X : gX} {F : Nat} {R : Int64 × gS} {a0 : Int64} {S : gS} (h : fX4_around F a0 S = some R) : G X RX4 cX4_around 6 (some .long) 0 (some (.long R.1)) R.2 0 [(0, .long a0)] [] S := by
  unfold fX4_around at h
  refine g_lload_n dX4_around_0 0 rfl rfl ?_
  refine g_iconst (v := 1) dX4_around_1 (by decide) ?_
  refine g_lshl dX4_around_2 ?_
  refine g_ldc2 dX4_around_3 ck_X4_73 ?_
  refine g_land dX4_around_6 ?_
  obtain ⟨v1, ev1, h⟩ := gle h
  refine g_lstore_n (lv' := [(2, .long v1), (0, .long a0)]) dX4_around_7 ev1 rfl (by decide) rfl ?_
  refine g_lload_n dX4_around_8 1 rfl rfl ?_
  refine g_ldc2 dX4_around_9 ck_X4_73 ?_
  refine g_land dX4_around_12 ?_
  refine g_iconst (v := 1) dX4_around_13 (by decide) ?_
  refine g_lushr dX4_around_14 ?_
  obtain ⟨v2, ev2, h⟩ := gle h
  refine g_lstore (lv' := [(4, .long v2), (2, .long v1), (0, .long a0)]) dX4_around_15 ev2 (by decide) rfl ?_
  refine g_lload_n dX4_around_17 2 rfl rfl ?_
  refine g_bipush (v := 8) dX4_around_18 (by decide) ?_
  refine g_lushr dX4_around_20 ?_
  refine g_lload_n dX4_around_21 1 rfl rfl ?_
  refine g_lor dX4_around_22 ?_
  refine g_lload_n dX4_around_23 2 rfl rfl ?_
  refine g_bipush (v := 8) dX4_around_24 (by decide) ?_
  refine g_lshl dX4_around_26 ?_
  refine g_lor dX4_around_27 ?_
  refine g_lload dX4_around_28 0 rfl ?_
  refine g_lor dX4_around_30 ?_
  obtain rfl := Option.some.inj h
  exact g_lret dX4_around_31 rfl
theorem ctX4_around {X : gX} {F : Nat} {R : Int64 × gS} {a0 : Int64} {S : gS} (h : fX4_around F a0 S = some R) : g_C X yX4_around cX4_around 6 (some .long) 0 [.long a0] S (some (.long R.1)) R.2 :=
  g_met (by decide) (Nat.le_of_ble_eq_true rfl) (fX4_around_ok h)
noncomputable def bX4_spread_200 (F : Nat) (sn : Nat) (k29 : (Int32 × Int64 × Int32 × Int32 × gS) → Option (gS)) (x1 : Int32) (x3 : Int64) (x6 : Int32) (x7 : Int32) (S : gS) : Option (gS) := gl (x7 + 1) (fun v1 : Int32 => k29 (x1, x3, x6, v1, S))
set_option maxRecDepth 20000 in
theorem bX4_spread_200_ok {X : gX} {F : Nat} {sn : Nat} (hsn : g_isA sn 0 64) {k29 : (Int32 × Int64 × Int32 × Int32 × gS) → Option (gS)} {R : gS} (H29 : ∀ s : Int32 × Int64 × Int32 × Int32 × gS, k29 s = some R → G X RX4 cX4_spread 13 none 1 none R 29 [(0, .ref (X.1 + 12)), (1, .int s.1), (3, .long s.2.1), (5, .ref (X.1 + sn)), (6, .int s.2.2.1), (7, .int s.2.2.2.1)] [] s.2.2.2.2) {x1 : Int32} {x3 : Int64} {x6 : Int32} {x7 : Int32} {S : gS} (h : bX4_spread_200 F sn k29 x1 x3 x6 x7 S = some R) : G X RX4 cX4_spread 13 none 1 none R 200 [(0, .ref (X.1 + 12)), (1, .int x1), (3, .long x3), (5, .ref (X.1 + sn)), (6, .int x6), (7, .int x7)] [] S := by
  unfold bX4_spread_200 at h
  obtain ⟨v1, ev1, h⟩ := gle h
  refine g_iinc (q := 5) (v := v1) (lv' := [(7, .int v1), (0, .ref (X.1 + 12)), (1, .int x1), (3, .long x3), (5, .ref (X.1 + sn)), (6, .int x6)]) dX4_spread_200 rfl (by rw [← ev1]; rfl) (by decide) rfl ?_
  refine g_goto (tgt := 29) dX4_spread_203 (by decide) ?_
  refine g_sub [1, 2, 3, 4, 5, 0] rfl ?_
  exact H29 (x1, x3, x6, v1, S) h
noncomputable def bX4_spread_101 (F : Nat) (sn : Nat) (k29 : (Int32 × Int64 × Int32 × Int32 × gS) → Option (gS)) (k101 : (Int32 × Int64 × Int32 × Int32 × Int64 × Int32 × gS) → Option (gS)) (x1 : Int32) (x3 : Int64) (x6 : Int32) (x7 : Int32) (x8 : Int64) (x10 : Int32) (S : gS) : Option (gS) := if (64 : Int32) ≤ x10 then (bX4_spread_200 F sn k29 x1 x3 x6 x7 S) else (if (lg_cmp x8 (0 : Int64)) = 0 then (bX4_spread_200 F sn k29 x1 x3 x6 x7 S) else ((fJ13_bitCount_95d88 F ((x8 &&& (-x8)) - (1 : Int64)) S).bind (fun q3 : Int32 × gS => gl q3.1 (fun v4 : Int32 => gl (x8 &&& (x8 - (1 : Int64))) (fun v5 : Int64 => g_chk v4 64 (gl (g_setI q3.2 13 (v4).toNatClampNeg x7) (fun S7 : gS => g_chk v4 64 (gl ((x7 + (1 : Int32)) + (g_I S7 sn (v4).toNatClampNeg)) (fun v9 : Int32 => g_chk (v9 &&& (31 : Int32)) 32 ((fX7_bit F v4 S7).bind (fun q11 : Int64 × gS => (fX4_around F q11.1 q11.2).bind (fun q12 : Int64 × gS => g_chk (v9 &&& (31 : Int32)) 32 (gl (g_setJ q12.2 14 ((v9 &&& (31 : Int32))).toNatClampNeg ((g_J S7 14 ((v9 &&& (31 : Int32))).toNatClampNeg) ||| (q12.1 &&& (x3 ^^^ (-1 : Int64))))) (fun S14 : gS => gl (if x6 < v9 then v9 else x6) (fun v15 : Int32 => gl (x10 + 1) (fun v16 : Int32 => k101 (x1, x3, v15, x7, v5, v16, S14)))))))))))))))))
set_option maxRecDepth 20000 in
theorem bX4_spread_101_ok {X : gX} {F : Nat} {sn : Nat} (hsn : g_isA sn 0 64) {k29 : (Int32 × Int64 × Int32 × Int32 × gS) → Option (gS)} {k101 : (Int32 × Int64 × Int32 × Int32 × Int64 × Int32 × gS) → Option (gS)} {R : gS} (H29 : ∀ s : Int32 × Int64 × Int32 × Int32 × gS, k29 s = some R → G X RX4 cX4_spread 13 none 1 none R 29 [(0, .ref (X.1 + 12)), (1, .int s.1), (3, .long s.2.1), (5, .ref (X.1 + sn)), (6, .int s.2.2.1), (7, .int s.2.2.2.1)] [] s.2.2.2.2) (H101 : ∀ s : Int32 × Int64 × Int32 × Int32 × Int64 × Int32 × gS, k101 s = some R → G X RX4 cX4_spread 13 none 1 none R 101 [(0, .ref (X.1 + 12)), (1, .int s.1), (3, .long s.2.1), (5, .ref (X.1 + sn)), (6, .int s.2.2.1), (7, .int s.2.2.2.1), (8, .long s.2.2.2.2.1), (10, .int s.2.2.2.2.2.1)] [] s.2.2.2.2.2.2) {x1 : Int32} {x3 : Int64} {x6 : Int32} {x7 : Int32} {x8 : Int64} {x10 : Int32} {S : gS} (h : bX4_spread_101 F sn k29 k101 x1 x3 x6 x7 x8 x10 S = some R) : G X RX4 cX4_spread 13 none 1 none R 101 [(0, .ref (X.1 + 12)), (1, .int x1), (3, .long x3), (5, .ref (X.1 + sn)), (6, .int x6), (7, .int x7), (8, .long x8), (10, .int x10)] [] S := by
  unfold bX4_spread_101 at h
  refine g_iload dX4_spread_101 7 rfl ?_
  refine g_bipush (v := 64) dX4_spread_103 (by decide) ?_
  refine g_icmp_ge (tgt := 200) dX4_spread_105 (by decide) (fun hc1 => ?_) (fun hc1 => ?_)
  · replace h := git hc1 h
    refine g_sub [0, 1, 2, 3, 4, 5] rfl ?_
    exact bX4_spread_200_ok hsn H29 h
  · replace h := gif hc1 h
    refine g_lload dX4_spread_108 6 rfl ?_
    refine g_lconst (v := 0) dX4_spread_110 (by decide) ?_
    refine g_lcmp dX4_spread_111 ?_
    refine g_if_eq (tgt := 200) dX4_spread_112 (by decide) (fun hc2 => ?_) (fun hc2 => ?_)
    · replace h := git hc2 h
      refine g_sub [0, 1, 2, 3, 4, 5] rfl ?_
      exact bX4_spread_200_ok hsn H29 h
    · replace h := gif hc2 h
      refine g_lload dX4_spread_115 6 rfl ?_
      refine g_lload dX4_spread_117 6 rfl ?_
      refine g_lneg dX4_spread_119 ?_
      refine g_land dX4_spread_120 ?_
      refine g_lconst (v := 1) dX4_spread_121 (by decide) ?_
      refine g_lsub dX4_spread_122 ?_
      obtain ⟨q3, hq3, h⟩ := gb h
      refine g_callSi [.long ((x8 &&& (-x8)) - (1 : Int64))] [] dX4_spread_123 mk_X4_54 (ctJ13_bitCount_95d88 hq3) rfl (by decide) rfl (Nat.le_of_ble_eq_true rfl) ?_
      obtain ⟨v4, ev4, h⟩ := gle h
      refine g_istore (lv' := [(11, .int v4), (0, .ref (X.1 + 12)), (1, .int x1), (3, .long x3), (5, .ref (X.1 + sn)), (6, .int x6), (7, .int x7), (8, .long x8), (10, .int x10)]) dX4_spread_126 ev4 (by decide) rfl ?_
      refine g_lload dX4_spread_128 7 rfl ?_
      refine g_lload dX4_spread_130 7 rfl ?_
      refine g_lconst (v := 1) dX4_spread_132 (by decide) ?_
      refine g_lsub dX4_spread_133 ?_
      refine g_land dX4_spread_134 ?_
      obtain ⟨v5, ev5, h⟩ := gle h
      refine g_lstore (lv' := [(8, .long v5), (11, .int v4), (0, .ref (X.1 + 12)), (1, .int x1), (3, .long x3), (5, .ref (X.1 + sn)), (6, .int x6), (7, .int x7), (10, .int x10)]) dX4_spread_135 ev5 (by decide) rfl ?_
      refine g_aload_n dX4_spread_137 2 rfl rfl ?_
      refine g_getr dX4_spread_138 lk_X4_9 sf_12_0 ?_
      refine g_iload dX4_spread_141 1 rfl ?_
      refine g_iload dX4_spread_143 7 rfl ?_
      obtain ⟨hv6, h⟩ := gchk h
      obtain ⟨S7, eS7, h⟩ := gle h
      refine g_iast dX4_spread_145 sa_13 hv6 eS7 ?_
      refine g_iload dX4_spread_146 7 rfl ?_
      refine g_iconst (v := 1) dX4_spread_148 (by decide) ?_
      refine g_iadd dX4_spread_149 ?_
      refine g_aload dX4_spread_150 5 rfl ?_
      refine g_iload dX4_spread_152 1 rfl ?_
      obtain ⟨hv8, h⟩ := gchk h
      refine g_iald dX4_spread_154 hsn hv8 ?_
      refine g_iadd dX4_spread_155 ?_
      obtain ⟨v9, ev9, h⟩ := gle h
      refine g_istore (lv' := [(12, .int v9), (8, .long v5), (11, .int v4), (0, .ref (X.1 + 12)), (1, .int x1), (3, .long x3), (5, .ref (X.1 + sn)), (6, .int x6), (7, .int x7), (10, .int x10)]) dX4_spread_156 ev9 (by decide) rfl ?_
      refine g_aload_n dX4_spread_158 3 rfl rfl ?_
      refine g_getr dX4_spread_159 lk_X4_15 sf_12_1 ?_
      refine g_iload dX4_spread_162 0 rfl ?_
      refine g_bipush (v := 31) dX4_spread_164 (by decide) ?_
      refine g_iand dX4_spread_166 ?_
      refine g_dup2 dX4_spread_167 rfl rfl ?_
      obtain ⟨hv10, h⟩ := gchk h
      refine g_lald dX4_spread_168 sa_14 hv10 ?_
      refine g_iload dX4_spread_169 2 rfl ?_
      obtain ⟨q11, hq11, h⟩ := gb h
      refine g_callSl [.int v4] [.long (g_J S7 14 ((v9 &&& (31 : Int32))).toNatClampNeg), .int (v9 &&& (31 : Int32)), .ref (X.1 + 14)] dX4_spread_171 mk_X4_48 (ctX7_bit hq11) rfl (by decide) rfl (Nat.le_of_ble_eq_true rfl) ?_
      obtain ⟨q12, hq12, h⟩ := gb h
      refine g_callSl [.long q11.1] [.long (g_J S7 14 ((v9 &&& (31 : Int32))).toNatClampNeg), .int (v9 &&& (31 : Int32)), .ref (X.1 + 14)] dX4_spread_174 mk_X4_60 (ctX4_around hq12) rfl (by decide) rfl (Nat.le_of_ble_eq_true rfl) ?_
      refine g_lload_n dX4_spread_177 5 rfl rfl ?_
      refine g_ldc2 dX4_spread_178 ck_X4_52 ?_
      refine g_lxor dX4_spread_181 ?_
      refine g_land dX4_spread_182 ?_
      refine g_lor dX4_spread_183 ?_
      obtain ⟨hv13, h⟩ := gchk h
      obtain ⟨S14, eS14, h⟩ := gle h
      refine g_last dX4_spread_184 sa_14 hv13 eS14 ?_
      refine g_iload dX4_spread_185 7 rfl ?_
      refine g_iload dX4_spread_187 0 rfl ?_
      refine g_mmax dX4_spread_189 mm_X4_64 (by decide) (Nat.le_of_ble_eq_true rfl) ?_
      obtain ⟨v15, ev15, h⟩ := gle h
      refine g_istore (lv' := [(6, .int v15), (12, .int v9), (8, .long v5), (11, .int v4), (0, .ref (X.1 + 12)), (1, .int x1), (3, .long x3), (5, .ref (X.1 + sn)), (7, .int x7), (10, .int x10)]) dX4_spread_192 ev15 (by decide) rfl ?_
      obtain ⟨v16, ev16, h⟩ := gle h
      refine g_iinc (q := 9) (v := v16) (lv' := [(10, .int v16), (6, .int v15), (12, .int v9), (8, .long v5), (11, .int v4), (0, .ref (X.1 + 12)), (1, .int x1), (3, .long x3), (5, .ref (X.1 + sn)), (7, .int x7)]) dX4_spread_194 rfl (by rw [← ev16]; rfl) (by decide) rfl ?_
      refine g_goto (tgt := 101) dX4_spread_197 (by decide) ?_
      refine g_sub [5, 6, 7, 8, 1, 9, 3, 0] rfl ?_
      exact H101 (x1, x3, v15, x7, v5, v16, S14) h
noncomputable def bX4_spread_101l (F : Nat) (sn : Nat) (k29 : (Int32 × Int64 × Int32 × Int32 × gS) → Option (gS)) : Nat → (Int32 × Int64 × Int32 × Int32 × Int64 × Int32 × gS) → Option (gS) := g_fix (fun k101 s => bX4_spread_101 F sn k29 k101 s.1 s.2.1 s.2.2.1 s.2.2.2.1 s.2.2.2.2.1 s.2.2.2.2.2.1 s.2.2.2.2.2.2)
theorem bX4_spread_101l_ok {X : gX} {F : Nat} {sn : Nat} (hsn : g_isA sn 0 64) {k29 : (Int32 × Int64 × Int32 × Int32 × gS) → Option (gS)} {R : gS} (H29 : ∀ s : Int32 × Int64 × Int32 × Int32 × gS, k29 s = some R → G X RX4 cX4_spread 13 none 1 none R 29 [(0, .ref (X.1 + 12)), (1, .int s.1), (3, .long s.2.1), (5, .ref (X.1 + sn)), (6, .int s.2.2.1), (7, .int s.2.2.2.1)] [] s.2.2.2.2) : ∀ (n : Nat) (s : Int32 × Int64 × Int32 × Int32 × Int64 × Int32 × gS), bX4_spread_101l F sn k29 n s = some R → G X RX4 cX4_spread 13 none 1 none R 101 [(0, .ref (X.1 + 12)), (1, .int s.1), (3, .long s.2.1), (5, .ref (X.1 + sn)), (6, .int s.2.2.1), (7, .int s.2.2.2.1), (8, .long s.2.2.2.2.1), (10, .int s.2.2.2.2.2.1)] [] s.2.2.2.2.2.2 := by
  intro n
  induction n with
  | zero => intro s h; cases h
  | succ n ih => intro s h; exact bX4_spread_101_ok (F := F) hsn H29 ih h
noncomputable def bX4_spread_29 (F : Nat) (sn : Nat) (k29 : (Int32 × Int64 × Int32 × Int32 × gS) → Option (gS)) (x1 : Int32) (x3 : Int64) (x6 : Int32) (x7 : Int32) (S : gS) : Option (gS) := if x6 < x7 then (some S) else (if (1984 : Int32) < x7 then (some S) else ((fX7_has F (g_J S 12 4) x1 S).bind (fun q3 : Int32 × gS => if q3.1 = 0 then (g_chk (x7 &&& (31 : Int32)) 32 (gl ((g_J q3.2 14 ((x7 &&& (31 : Int32))).toNatClampNeg) &&& ((g_J q3.2 12 4) ^^^ (-1 : Int64))) (fun v6 : Int64 => g_chk (x7 &&& (31 : Int32)) 32 (gl (g_setJ q3.2 14 ((x7 &&& (31 : Int32))).toNatClampNeg (0 : Int64)) (fun S8 : gS => gl (g_setJ S8 12 4 ((g_J S8 12 4) ||| v6)) (fun S9 : gS => bX4_spread_101l F sn k29 F (x1, x3, x6, x7, v6, (0 : Int32), S9))))))) else (some q3.2))))
set_option maxRecDepth 20000 in
theorem bX4_spread_29_ok {X : gX} {F : Nat} {sn : Nat} (hsn : g_isA sn 0 64) {k29 : (Int32 × Int64 × Int32 × Int32 × gS) → Option (gS)} {R : gS} (H29 : ∀ s : Int32 × Int64 × Int32 × Int32 × gS, k29 s = some R → G X RX4 cX4_spread 13 none 1 none R 29 [(0, .ref (X.1 + 12)), (1, .int s.1), (3, .long s.2.1), (5, .ref (X.1 + sn)), (6, .int s.2.2.1), (7, .int s.2.2.2.1)] [] s.2.2.2.2) {x1 : Int32} {x3 : Int64} {x6 : Int32} {x7 : Int32} {S : gS} (h : bX4_spread_29 F sn k29 x1 x3 x6 x7 S = some R) : G X RX4 cX4_spread 13 none 1 none R 29 [(0, .ref (X.1 + 12)), (1, .int x1), (3, .long x3), (5, .ref (X.1 + sn)), (6, .int x6), (7, .int x7)] [] S := by
  unfold bX4_spread_29 at h
  refine g_iload dX4_spread_29 5 rfl ?_
  refine g_iload dX4_spread_31 4 rfl ?_
  refine g_icmp_gt (tgt := 206) dX4_spread_33 (by decide) (fun hc1 => ?_) (fun hc1 => ?_)
  · replace h := git hc1 h
    obtain rfl := Option.some.inj h
    exact g_vret dX4_spread_206 rfl
  · replace h := gif hc1 h
    refine g_iload dX4_spread_36 5 rfl ?_
    refine g_sipush (v := 1984) dX4_spread_38 (by decide) ?_
    refine g_icmp_gt (tgt := 206) dX4_spread_41 (by decide) (fun hc2 => ?_) (fun hc2 => ?_)
    · replace h := git hc2 h
      obtain rfl := Option.some.inj h
      exact g_vret dX4_spread_206 rfl
    · replace h := gif hc2 h
      refine g_aload_n dX4_spread_44 0 rfl rfl ?_
      refine g_getj dX4_spread_45 lk_X4_26 sf_12_4 ?_
      refine g_iload_n dX4_spread_48 1 rfl rfl ?_
      obtain ⟨q3, hq3, h⟩ := gb h
      refine g_callSi [.long (g_J S 12 4), .int x1] [] dX4_spread_49 mk_X4_30 (ctX7_has hq3) rfl (by decide) rfl (Nat.le_of_ble_eq_true rfl) ?_
      refine g_if_ne (tgt := 206) dX4_spread_52 (by decide) (fun hc4 => ?_) (fun hc4 => ?_)
      · replace h := gif hc4 h
        obtain rfl := Option.some.inj h
        exact g_vret dX4_spread_206 rfl
      · replace h := git hc4 h
        refine g_aload_n dX4_spread_55 0 rfl rfl ?_
        refine g_getr dX4_spread_56 lk_X4_15 sf_12_1 ?_
        refine g_iload dX4_spread_59 5 rfl ?_
        refine g_bipush (v := 31) dX4_spread_61 (by decide) ?_
        refine g_iand dX4_spread_63 ?_
        obtain ⟨hv5, h⟩ := gchk h
        refine g_lald dX4_spread_64 sa_14 hv5 ?_
        refine g_aload_n dX4_spread_65 0 rfl rfl ?_
        refine g_getj dX4_spread_66 lk_X4_26 sf_12_4 ?_
        refine g_ldc2 dX4_spread_69 ck_X4_52 ?_
        refine g_lxor dX4_spread_72 ?_
        refine g_land dX4_spread_73 ?_
        obtain ⟨v6, ev6, h⟩ := gle h
        refine g_lstore (lv' := [(8, .long v6), (0, .ref (X.1 + 12)), (1, .int x1), (3, .long x3), (5, .ref (X.1 + sn)), (6, .int x6), (7, .int x7)]) dX4_spread_74 ev6 (by decide) rfl ?_
        refine g_aload_n dX4_spread_76 1 rfl rfl ?_
        refine g_getr dX4_spread_77 lk_X4_15 sf_12_1 ?_
        refine g_iload dX4_spread_80 6 rfl ?_
        refine g_bipush (v := 31) dX4_spread_82 (by decide) ?_
        refine g_iand dX4_spread_84 ?_
        refine g_lconst (v := 0) dX4_spread_85 (by decide) ?_
        obtain ⟨hv7, h⟩ := gchk h
        obtain ⟨S8, eS8, h⟩ := gle h
        refine g_last dX4_spread_86 sa_14 hv7 eS8 ?_
        refine g_aload_n dX4_spread_87 1 rfl rfl ?_
        refine g_dup dX4_spread_88 rfl ?_
        refine g_getj dX4_spread_89 lk_X4_26 sf_12_4 ?_
        refine g_lload dX4_spread_92 0 rfl ?_
        refine g_lor dX4_spread_94 ?_
        obtain ⟨S9, eS9, h⟩ := gle h
        refine g_putj dX4_spread_95 lp_X4_26 sf_12_4 eS9 ?_
        refine g_iconst (v := 0) dX4_spread_98 (by decide) ?_
        refine g_istore (lv' := [(10, .int (0 : Int32)), (8, .long v6), (0, .ref (X.1 + 12)), (1, .int x1), (3, .long x3), (5, .ref (X.1 + sn)), (6, .int x6), (7, .int x7)]) dX4_spread_99 rfl (by decide) rfl ?_
        refine g_sub [2, 3, 4, 5, 6, 7, 1, 0] rfl ?_
        exact bX4_spread_101l_ok hsn H29 F (x1, x3, x6, x7, v6, (0 : Int32), S9) h
noncomputable def bX4_spread_29l (F : Nat) (sn : Nat) : Nat → (Int32 × Int64 × Int32 × Int32 × gS) → Option (gS) := g_fix (fun k29 s => bX4_spread_29 F sn k29 s.1 s.2.1 s.2.2.1 s.2.2.2.1 s.2.2.2.2)
theorem bX4_spread_29l_ok {X : gX} {F : Nat} {sn : Nat} (hsn : g_isA sn 0 64) {R : gS} : ∀ (n : Nat) (s : Int32 × Int64 × Int32 × Int32 × gS), bX4_spread_29l F sn n s = some R → G X RX4 cX4_spread 13 none 1 none R 29 [(0, .ref (X.1 + 12)), (1, .int s.1), (3, .long s.2.1), (5, .ref (X.1 + sn)), (6, .int s.2.2.1), (7, .int s.2.2.2.1)] [] s.2.2.2.2 := by
  intro n
  induction n with
  | zero => intro s h; cases h
  | succ n ih => intro s h; exact bX4_spread_29_ok (F := F) hsn ih h
noncomputable def fX4_spread (F : Nat) (sn : Nat) (a0 : Int32) (a1 : Int32) (a2 : Int64) (S : gS) : Option (gS) := (fJ7_fill_d0a16 F (0 : Int64) S).bind (fun q1 : gS => (fX7_bit F a1 q1).bind (fun q2 : Int64 × gS => g_chk (0 : Int32) 32 (gl (g_setJ q2.2 14 ((0 : Int32)).toNatClampNeg q2.1) (fun S4 : gS => gl (g_setJ S4 12 4 (0 : Int64)) (fun S5 : gS => bX4_spread_29l F sn F (a0, a2, (0 : Int32), (0 : Int32), S5))))))
set_option maxRecDepth 20000 in
theorem fX4_spread_ok {X : gX} {F : Nat} {sn : Nat} (hsn : g_isA sn 0 64) {R : gS} {a0 : Int32} {a1 : Int32} {a2 : Int64} {S : gS} (h : fX4_spread F sn a0 a1 a2 S = some R) : G X RX4 cX4_spread 13 none 1 none R 0 [(0, .ref (X.1 + 12)), (1, .int a0), (2, .int a1), (3, .long a2), (5, .ref (X.1 + sn))] [] S := by
  unfold fX4_spread at h
  refine g_aload_n dX4_spread_0 0 rfl rfl ?_
  refine g_getr dX4_spread_1 lk_X4_15 sf_12_1 ?_
  refine g_lconst (v := 0) dX4_spread_4 (by decide) ?_
  obtain ⟨q1, hq1, h⟩ := gb h
  refine g_callSv [.ref (X.1 + 14), .long (0 : Int64)] [] dX4_spread_5 mk_X4_42 (ctJ7_fill_d0a16 hq1) rfl (by decide) rfl (Nat.le_of_ble_eq_true rfl) ?_
  refine g_aload_n dX4_spread_8 0 rfl rfl ?_
  refine g_getr dX4_spread_9 lk_X4_15 sf_12_1 ?_
  refine g_iconst (v := 0) dX4_spread_12 (by decide) ?_
  refine g_iload_n dX4_spread_13 2 rfl rfl ?_
  obtain ⟨q2, hq2, h⟩ := gb h
  refine g_callSl [.int a1] [.int (0 : Int32), .ref (X.1 + 14)] dX4_spread_14 mk_X4_48 (ctX7_bit hq2) rfl (by decide) rfl (Nat.le_of_ble_eq_true rfl) ?_
  obtain ⟨hv3, h⟩ := gchk h
  obtain ⟨S4, eS4, h⟩ := gle h
  refine g_last dX4_spread_17 sa_14 hv3 eS4 ?_
  refine g_aload_n dX4_spread_18 0 rfl rfl ?_
  refine g_lconst (v := 0) dX4_spread_19 (by decide) ?_
  obtain ⟨S5, eS5, h⟩ := gle h
  refine g_putj dX4_spread_20 lp_X4_26 sf_12_4 eS5 ?_
  refine g_iconst (v := 0) dX4_spread_23 (by decide) ?_
  refine g_istore (lv' := [(6, .int (0 : Int32)), (0, .ref (X.1 + 12)), (1, .int a0), (2, .int a1), (3, .long a2), (5, .ref (X.1 + sn))]) dX4_spread_24 rfl (by decide) rfl ?_
  refine g_iconst (v := 0) dX4_spread_26 (by decide) ?_
  refine g_istore (lv' := [(7, .int (0 : Int32)), (6, .int (0 : Int32)), (0, .ref (X.1 + 12)), (1, .int a0), (2, .int a1), (3, .long a2), (5, .ref (X.1 + sn))]) dX4_spread_27 rfl (by decide) rfl ?_
  refine g_sub [2, 3, 5, 6, 1, 0] rfl ?_
  exact bX4_spread_29l_ok hsn F (a0, a2, (0 : Int32), (0 : Int32), S5) h
theorem ctX4_spread {X : gX} {F : Nat} {sn : Nat} (hsn : g_isA sn 0 64) {R : gS} {a0 : Int32} {a1 : Int32} {a2 : Int64} {S : gS} (h : fX4_spread F sn a0 a1 a2 S = some R) : g_C X yX4_spread cX4_spread 13 none 1 [.ref (X.1 + 12), .int a0, .int a1, .long a2, .ref (X.1 + sn)] S none R :=
  g_met (by decide) (Nat.le_of_ble_eq_true rfl) (fX4_spread_ok hsn h)
noncomputable def bX4_find_105 (F : Nat) (sn : Nat) (x1 : Int32) (S : gS) : Option (Int32 × gS) := g_chk x1 64 (some ((g_I S 13 (x1).toNatClampNeg), S))
set_option maxRecDepth 20000 in
theorem bX4_find_105_ok {X : gX} {F : Nat} {sn : Nat} (hsn : g_isA sn 0 64) {R : Int32 × gS} {x1 : Int32} {S : gS} (h : bX4_find_105 F sn x1 S = some R) : G X RX4 cX4_find 8 (some .int) 2 (some (.int R.1)) R.2 105 [(0, .ref (X.1 + 12)), (1, .int x1)] [] S := by
  unfold bX4_find_105 at h
  refine g_aload_n dX4_find_105 0 rfl rfl ?_
  refine g_getr dX4_find_106 lk_X4_9 sf_12_0 ?_
  refine g_iload_n dX4_find_109 1 rfl rfl ?_
  obtain ⟨hv1, h⟩ := gchk h
  refine g_iald dX4_find_110 sa_13 hv1 ?_
  obtain rfl := Option.some.inj h
  exact g_iret dX4_find_111 rfl
noncomputable def bX4_find_51 (F : Nat) (sn : Nat) (k51 : (Int32 × Int32 × Int32 × Int32 × gS) → Option (Int32 × gS)) (x1 : Int32) (x2 : Int32) (x6 : Int32) (x7 : Int32) (S : gS) : Option (Int32 × gS) := if (64 : Int32) ≤ x7 then (bX4_find_105 F sn x1 S) else (if x6 = x2 then (bX4_find_105 F sn x1 S) else ((fX4_onward F sn x6 S).bind (fun q3 : Int32 × gS => gl q3.1 (fun v4 : Int32 => if v4 = (-1 : Int32) then (some ((-1 : Int32), q3.2)) else (g_chk x7 64 (gl (g_setI q3.2 15 (x7).toNatClampNeg v4) (fun S7 : gS => gl (g_setI S7 12 3 (x7 + (1 : Int32))) (fun S8 : gS => gl (x7 + 1) (fun v9 : Int32 => k51 (x1, x2, v4, v9, S8))))))))))
set_option maxRecDepth 20000 in
theorem bX4_find_51_ok {X : gX} {F : Nat} {sn : Nat} (hsn : g_isA sn 0 64) {k51 : (Int32 × Int32 × Int32 × Int32 × gS) → Option (Int32 × gS)} {R : Int32 × gS} (H51 : ∀ s : Int32 × Int32 × Int32 × Int32 × gS, k51 s = some R → G X RX4 cX4_find 8 (some .int) 2 (some (.int R.1)) R.2 51 [(0, .ref (X.1 + 12)), (1, .int s.1), (2, .int s.2.1), (5, .ref (X.1 + sn)), (6, .int s.2.2.1), (7, .int s.2.2.2.1)] [] s.2.2.2.2) {x1 : Int32} {x2 : Int32} {x6 : Int32} {x7 : Int32} {S : gS} (h : bX4_find_51 F sn k51 x1 x2 x6 x7 S = some R) : G X RX4 cX4_find 8 (some .int) 2 (some (.int R.1)) R.2 51 [(0, .ref (X.1 + 12)), (1, .int x1), (2, .int x2), (5, .ref (X.1 + sn)), (6, .int x6), (7, .int x7)] [] S := by
  unfold bX4_find_51 at h
  refine g_iload dX4_find_51 5 rfl ?_
  refine g_bipush (v := 64) dX4_find_53 (by decide) ?_
  refine g_icmp_ge (tgt := 105) dX4_find_55 (by decide) (fun hc1 => ?_) (fun hc1 => ?_)
  · replace h := git hc1 h
    refine g_sub [0, 1] rfl ?_
    exact bX4_find_105_ok hsn h
  · replace h := gif hc1 h
    refine g_iload dX4_find_58 4 rfl ?_
    refine g_iload_n dX4_find_60 2 rfl rfl ?_
    refine g_icmp_eq (tgt := 105) dX4_find_61 (by decide) (fun hc2 => ?_) (fun hc2 => ?_)
    · replace h := git hc2 h
      refine g_sub [0, 1] rfl ?_
      exact bX4_find_105_ok hsn h
    · replace h := gif hc2 h
      refine g_aload_n dX4_find_64 0 rfl rfl ?_
      refine g_iload dX4_find_65 4 rfl ?_
      refine g_aload dX4_find_67 3 rfl ?_
      obtain ⟨q3, hq3, h⟩ := gb h
      refine g_callVi [.int x6, .ref (X.1 + sn)] [] dX4_find_69 mk_X4_38 so_12 (ctX4_onward hsn hq3) rfl (by decide) rfl (Nat.le_of_ble_eq_true rfl) ?_
      obtain ⟨v4, ev4, h⟩ := gle h
      refine g_istore (lv' := [(6, .int v4), (0, .ref (X.1 + 12)), (1, .int x1), (2, .int x2), (5, .ref (X.1 + sn)), (7, .int x7)]) dX4_find_72 ev4 (by decide) rfl ?_
      refine g_iload dX4_find_74 0 rfl ?_
      refine g_iconst (v := -1) dX4_find_76 (by decide) ?_
      refine g_icmp_ne (tgt := 82) dX4_find_77 (by decide) (fun hc5 => ?_) (fun hc5 => ?_)
      · replace h := gif hc5 h
        refine g_aload_n dX4_find_82 1 rfl rfl ?_
        refine g_getr dX4_find_83 lk_X4_19 sf_12_2 ?_
        refine g_iload dX4_find_86 5 rfl ?_
        refine g_iload dX4_find_88 0 rfl ?_
        obtain ⟨hv6, h⟩ := gchk h
        obtain ⟨S7, eS7, h⟩ := gle h
        refine g_iast dX4_find_90 sa_15 hv6 eS7 ?_
        refine g_aload_n dX4_find_91 1 rfl rfl ?_
        refine g_iload dX4_find_92 5 rfl ?_
        refine g_iconst (v := 1) dX4_find_94 (by decide) ?_
        refine g_iadd dX4_find_95 ?_
        obtain ⟨S8, eS8, h⟩ := gle h
        refine g_puti dX4_find_96 lp_X4_22 sf_12_3 eS8 ?_
        obtain ⟨v9, ev9, h⟩ := gle h
        refine g_iinc (q := 5) (v := v9) (lv' := [(7, .int v9), (6, .int v4), (0, .ref (X.1 + 12)), (1, .int x1), (2, .int x2), (5, .ref (X.1 + sn))]) dX4_find_99 rfl (by rw [← ev9]; rfl) (by decide) rfl ?_
        refine g_goto (tgt := 51) dX4_find_102 (by decide) ?_
        refine g_sub [2, 3, 4, 5, 1, 0] rfl ?_
        exact H51 (x1, x2, v4, v9, S8) h
      · replace h := git hc5 h
        refine g_iconst (v := -1) dX4_find_80 (by decide) ?_
        obtain rfl := Option.some.inj h
        exact g_iret dX4_find_81 rfl
noncomputable def bX4_find_51l (F : Nat) (sn : Nat) : Nat → (Int32 × Int32 × Int32 × Int32 × gS) → Option (Int32 × gS) := g_fix (fun k51 s => bX4_find_51 F sn k51 s.1 s.2.1 s.2.2.1 s.2.2.2.1 s.2.2.2.2)
theorem bX4_find_51l_ok {X : gX} {F : Nat} {sn : Nat} (hsn : g_isA sn 0 64) {R : Int32 × gS} : ∀ (n : Nat) (s : Int32 × Int32 × Int32 × Int32 × gS), bX4_find_51l F sn n s = some R → G X RX4 cX4_find 8 (some .int) 2 (some (.int R.1)) R.2 51 [(0, .ref (X.1 + 12)), (1, .int s.1), (2, .int s.2.1), (5, .ref (X.1 + sn)), (6, .int s.2.2.1), (7, .int s.2.2.2.1)] [] s.2.2.2.2 := by
  intro n
  induction n with
  | zero => intro s h; cases h
  | succ n ih => intro s h; exact bX4_find_51_ok (F := F) hsn ih h
noncomputable def fX4_find (F : Nat) (sn : Nat) (a0 : Int32) (a1 : Int32) (a2 : Int64) (S : gS) : Option (Int32 × gS) := gl (g_setI S 12 3 (0 : Int32)) (fun S1 : gS => (fX7_has F a2 a0 S1).bind (fun q2 : Int32 × gS => if q2.1 = 0 then ((fX7_has F a2 a1 q2.2).bind (fun q4 : Int32 × gS => if q4.1 = 0 then ((fX4_spread F sn a0 a1 a2 q4.2).bind (fun q6 : gS => (fX7_has F (g_J q6 12 4) a0 q6).bind (fun q7 : Int32 × gS => if q7.1 = 0 then (some ((-1 : Int32), q7.2)) else (bX4_find_51l F sn F (a0, a1, a0, (0 : Int32), q7.2))))) else (some ((-1 : Int32), q4.2)))) else (some ((-1 : Int32), q2.2))))
set_option maxRecDepth 20000 in
theorem fX4_find_ok {X : gX} {F : Nat} {sn : Nat} (hsn : g_isA sn 0 64) {R : Int32 × gS} {a0 : Int32} {a1 : Int32} {a2 : Int64} {S : gS} (h : fX4_find F sn a0 a1 a2 S = some R) : G X RX4 cX4_find 8 (some .int) 2 (some (.int R.1)) R.2 0 [(0, .ref (X.1 + 12)), (1, .int a0), (2, .int a1), (3, .long a2), (5, .ref (X.1 + sn))] [] S := by
  unfold fX4_find at h
  refine g_aload_n dX4_find_0 0 rfl rfl ?_
  refine g_iconst (v := 0) dX4_find_1 (by decide) ?_
  obtain ⟨S1, eS1, h⟩ := gle h
  refine g_puti dX4_find_2 lp_X4_22 sf_12_3 eS1 ?_
  refine g_lload_n dX4_find_5 3 rfl rfl ?_
  refine g_iload_n dX4_find_6 1 rfl rfl ?_
  obtain ⟨q2, hq2, h⟩ := gb h
  refine g_callSi [.long a2, .int a0] [] dX4_find_7 mk_X4_30 (ctX7_has hq2) rfl (by decide) rfl (Nat.le_of_ble_eq_true rfl) ?_
  refine g_if_ne (tgt := 21) dX4_find_10 (by decide) (fun hc3 => ?_) (fun hc3 => ?_)
  · replace h := gif hc3 h
    refine g_iconst (v := -1) dX4_find_21 (by decide) ?_
    obtain rfl := Option.some.inj h
    exact g_iret dX4_find_22 rfl
  · replace h := git hc3 h
    refine g_lload_n dX4_find_13 3 rfl rfl ?_
    refine g_iload_n dX4_find_14 2 rfl rfl ?_
    obtain ⟨q4, hq4, h⟩ := gb h
    refine g_callSi [.long a2, .int a1] [] dX4_find_15 mk_X4_30 (ctX7_has hq4) rfl (by decide) rfl (Nat.le_of_ble_eq_true rfl) ?_
    refine g_if_eq (tgt := 23) dX4_find_18 (by decide) (fun hc5 => ?_) (fun hc5 => ?_)
    · replace h := git hc5 h
      refine g_aload_n dX4_find_23 0 rfl rfl ?_
      refine g_iload_n dX4_find_24 1 rfl rfl ?_
      refine g_iload_n dX4_find_25 2 rfl rfl ?_
      refine g_lload_n dX4_find_26 3 rfl rfl ?_
      refine g_aload dX4_find_27 4 rfl ?_
      obtain ⟨q6, hq6, h⟩ := gb h
      refine g_callVv [.int a0, .int a1, .long a2, .ref (X.1 + sn)] [] dX4_find_29 mk_X4_34 so_12 (ctX4_spread hsn hq6) rfl (by decide) rfl (Nat.le_of_ble_eq_true rfl) ?_
      refine g_aload_n dX4_find_32 0 rfl rfl ?_
      refine g_getj dX4_find_33 lk_X4_26 sf_12_4 ?_
      refine g_iload_n dX4_find_36 1 rfl rfl ?_
      obtain ⟨q7, hq7, h⟩ := gb h
      refine g_callSi [.long (g_J q6 12 4), .int a0] [] dX4_find_37 mk_X4_30 (ctX7_has hq7) rfl (by decide) rfl (Nat.le_of_ble_eq_true rfl) ?_
      refine g_if_ne (tgt := 45) dX4_find_40 (by decide) (fun hc8 => ?_) (fun hc8 => ?_)
      · replace h := gif hc8 h
        refine g_iload_n dX4_find_45 1 rfl rfl ?_
        refine g_istore (lv' := [(6, .int a0), (0, .ref (X.1 + 12)), (1, .int a0), (2, .int a1), (3, .long a2), (5, .ref (X.1 + sn))]) dX4_find_46 rfl (by decide) rfl ?_
        refine g_iconst (v := 0) dX4_find_48 (by decide) ?_
        refine g_istore (lv' := [(7, .int (0 : Int32)), (6, .int a0), (0, .ref (X.1 + 12)), (1, .int a0), (2, .int a1), (3, .long a2), (5, .ref (X.1 + sn))]) dX4_find_49 rfl (by decide) rfl ?_
        refine g_sub [2, 3, 4, 6, 1, 0] rfl ?_
        exact bX4_find_51l_ok hsn F (a0, a1, a0, (0 : Int32), q7.2) h
      · replace h := git hc8 h
        refine g_iconst (v := -1) dX4_find_43 (by decide) ?_
        obtain rfl := Option.some.inj h
        exact g_iret dX4_find_44 rfl
    · replace h := gif hc5 h
      refine g_iconst (v := -1) dX4_find_21 (by decide) ?_
      obtain rfl := Option.some.inj h
      exact g_iret dX4_find_22 rfl
theorem ctX4_find {X : gX} {F : Nat} {sn : Nat} (hsn : g_isA sn 0 64) {R : Int32 × gS} {a0 : Int32} {a1 : Int32} {a2 : Int64} {S : gS} (h : fX4_find F sn a0 a1 a2 S = some R) : g_C X yX4_find cX4_find 8 (some .int) 2 [.ref (X.1 + 12), .int a0, .int a1, .long a2, .ref (X.1 + sn)] S (some (.int R.1)) R.2 :=
  g_met (by decide) (Nat.le_of_ble_eq_true rfl) (fX4_find_ok hsn h)
noncomputable def bX3_go_89 (F : Nat) (o : Nat) (S : gS) : Option (Int32 × gS) := gl (g_setI S o 6 ((g_I S o 6) + (1 : Int32))) (fun S1 : gS => some ((0 : Int32), S1))
set_option maxRecDepth 20000 in
theorem bX3_go_89_ok {X : gX} {F : Nat} {o : Nat} (ho : g_isOut o) {R : Int32 × gS} {S : gS} (h : bX3_go_89 F o S = some R) : G X RX3 cX3_go 9 (some .boolean) 3 (some (.int R.1)) R.2 89 [(0, .ref (X.1 + o))] [] S := by
  unfold bX3_go_89 at h
  refine g_aload_n dX3_go_89 0 rfl rfl ?_
  refine g_dup dX3_go_90 rfl ?_
  refine g_geti dX3_go_91 lk_X3_25 (out_6 ho) ?_
  refine g_iconst (v := 1) dX3_go_94 (by decide) ?_
  refine g_iadd dX3_go_95 ?_
  obtain ⟨S1, eS1, h⟩ := gle h
  refine g_puti dX3_go_96 lp_X3_25 (out_6 ho) eS1 ?_
  refine g_iconst (v := 0) dX3_go_99 (by decide) ?_
  obtain rfl := Option.some.inj h
  exact g_zret dX3_go_100 rfl narrow_b0
noncomputable def bX3_go_14 (F : Nat) (o : Nat) (k14 : (Int32 × Int64 × Int32 × Int64 × Int32 × gS) → Option (Int32 × gS)) (x2 : Int32) (x3 : Int64) (x5 : Int32) (x6 : Int64) (x8 : Int32) (S : gS) : Option (Int32 × gS) := if (64 : Int32) < x8 then (bX3_go_89 F o S) else ((fX4_find F (o + 1) x5 x2 ((g_J S 1 3) ||| x6) S).bind (fun q2 : Int32 × gS => if q2.1 = (-1 : Int32) then (bX3_go_89 F o q2.2) else ((fX3_follow F o x5 x3 q2.2).bind (fun q4 : Int32 × gS => gl q4.1 (fun v5 : Int32 => if (g_I q4.2 o 7) = (-1 : Int32) then (some ((1 : Int32), q4.2)) else ((fX7_bit F (g_I q4.2 o 7) q4.2).bind (fun q7 : Int64 × gS => gl (x6 ||| q7.1) (fun v8 : Int64 => gl (x8 + 1) (fun v9 : Int32 => k14 (x2, x3, v5, v8, v9, q7.2))))))))))
set_option maxRecDepth 20000 in
theorem bX3_go_14_ok {X : gX} {F : Nat} {o : Nat} (ho : g_isOut o) {k14 : (Int32 × Int64 × Int32 × Int64 × Int32 × gS) → Option (Int32 × gS)} {R : Int32 × gS} (H14 : ∀ s : Int32 × Int64 × Int32 × Int64 × Int32 × gS, k14 s = some R → G X RX3 cX3_go 9 (some .boolean) 3 (some (.int R.1)) R.2 14 [(0, .ref (X.1 + o)), (2, .int s.1), (3, .long s.2.1), (5, .int s.2.2.1), (6, .long s.2.2.2.1), (8, .int s.2.2.2.2.1)] [] s.2.2.2.2.2) {x2 : Int32} {x3 : Int64} {x5 : Int32} {x6 : Int64} {x8 : Int32} {S : gS} (h : bX3_go_14 F o k14 x2 x3 x5 x6 x8 S = some R) : G X RX3 cX3_go 9 (some .boolean) 3 (some (.int R.1)) R.2 14 [(0, .ref (X.1 + o)), (2, .int x2), (3, .long x3), (5, .int x5), (6, .long x6), (8, .int x8)] [] S := by
  unfold bX3_go_14 at h
  refine g_iload dX3_go_14 5 rfl ?_
  refine g_bipush (v := 64) dX3_go_16 (by decide) ?_
  refine g_icmp_gt (tgt := 89) dX3_go_18 (by decide) (fun hc1 => ?_) (fun hc1 => ?_)
  · replace h := git hc1 h
    refine g_sub [0] rfl ?_
    exact bX3_go_89_ok ho h
  · replace h := gif hc1 h
    refine g_aload_n dX3_go_21 0 rfl rfl ?_
    refine g_getr dX3_go_22 lk_X3_35 (out_1 ho) ?_
    refine g_iload dX3_go_25 3 rfl ?_
    refine g_iload_n dX3_go_27 1 rfl rfl ?_
    refine g_aload_n dX3_go_28 0 rfl rfl ?_
    refine g_getr dX3_go_29 lk_X3_31 (out_0 ho) ?_
    refine g_getj dX3_go_32 lk_X3_55 sf_1_3 ?_
    refine g_lload dX3_go_35 4 rfl ?_
    refine g_lor dX3_go_37 ?_
    refine g_aload_n dX3_go_38 0 rfl rfl ?_
    refine g_getr dX3_go_39 lk_X3_9 (out_2 ho) ?_
    obtain ⟨q2, hq2, h⟩ := gb h
    refine g_callVi [.int x5, .int x2, .long ((g_J S 1 3) ||| x6), .ref (X.1 + (o + 1))] [] dX3_go_42 mk_X3_61 so_12 (ctX4_find (out_a1 ho) hq2) rfl (by decide) rfl (Nat.le_of_ble_eq_true rfl) ?_
    refine g_iconst (v := -1) dX3_go_45 (by decide) ?_
    refine g_icmp_ne (tgt := 52) dX3_go_46 (by decide) (fun hc3 => ?_) (fun hc3 => ?_)
    · replace h := gif hc3 h
      refine g_aload_n dX3_go_52 0 rfl rfl ?_
      refine g_iload dX3_go_53 3 rfl ?_
      refine g_lload_n dX3_go_55 2 rfl rfl ?_
      obtain ⟨q4, hq4, h⟩ := gb h
      refine g_callVi [.int x5, .long x3] [] dX3_go_56 mk_X3_67 (out_o ho) (ctX3_follow ho hq4) rfl (by decide) rfl (Nat.le_of_ble_eq_true rfl) ?_
      obtain ⟨v5, ev5, h⟩ := gle h
      refine g_istore (lv' := [(5, .int v5), (0, .ref (X.1 + o)), (2, .int x2), (3, .long x3), (6, .long x6), (8, .int x8)]) dX3_go_59 ev5 (by decide) rfl ?_
      refine g_aload_n dX3_go_61 1 rfl rfl ?_
      refine g_geti dX3_go_62 lk_X3_28 (out_7 ho) ?_
      refine g_iconst (v := -1) dX3_go_65 (by decide) ?_
      refine g_icmp_ne (tgt := 71) dX3_go_66 (by decide) (fun hc6 => ?_) (fun hc6 => ?_)
      · replace h := gif hc6 h
        refine g_lload dX3_go_71 4 rfl ?_
        refine g_aload_n dX3_go_73 1 rfl rfl ?_
        refine g_geti dX3_go_74 lk_X3_28 (out_7 ho) ?_
        obtain ⟨q7, hq7, h⟩ := gb h
        refine g_callSl [.int (g_I q4.2 o 7)] [.long x6] dX3_go_77 mk_X3_51 (ctX7_bit hq7) rfl (by decide) rfl (Nat.le_of_ble_eq_true rfl) ?_
        refine g_lor dX3_go_80 ?_
        obtain ⟨v8, ev8, h⟩ := gle h
        refine g_lstore (lv' := [(6, .long v8), (5, .int v5), (0, .ref (X.1 + o)), (2, .int x2), (3, .long x3), (8, .int x8)]) dX3_go_81 ev8 (by decide) rfl ?_
        obtain ⟨v9, ev9, h⟩ := gle h
        refine g_iinc (q := 5) (v := v9) (lv' := [(8, .int v9), (6, .long v8), (5, .int v5), (0, .ref (X.1 + o)), (2, .int x2), (3, .long x3)]) dX3_go_83 rfl (by rw [← ev9]; rfl) (by decide) rfl ?_
        refine g_goto (tgt := 14) dX3_go_86 (by decide) ?_
        refine g_sub [3, 4, 5, 2, 1, 0] rfl ?_
        exact H14 (x2, x3, v5, v8, v9, q7.2) h
      · replace h := git hc6 h
        refine g_iconst (v := 1) dX3_go_69 (by decide) ?_
        obtain rfl := Option.some.inj h
        exact g_zret dX3_go_70 rfl narrow_b1
    · replace h := git hc3 h
      refine g_goto (tgt := 89) dX3_go_49 (by decide) ?_
      refine g_sub [0] rfl ?_
      exact bX3_go_89_ok ho h
noncomputable def bX3_go_14l (F : Nat) (o : Nat) : Nat → (Int32 × Int64 × Int32 × Int64 × Int32 × gS) → Option (Int32 × gS) := g_fix (fun k14 s => bX3_go_14 F o k14 s.1 s.2.1 s.2.2.1 s.2.2.2.1 s.2.2.2.2.1 s.2.2.2.2.2)
theorem bX3_go_14l_ok {X : gX} {F : Nat} {o : Nat} (ho : g_isOut o) {R : Int32 × gS} : ∀ (n : Nat) (s : Int32 × Int64 × Int32 × Int64 × Int32 × gS), bX3_go_14l F o n s = some R → G X RX3 cX3_go 9 (some .boolean) 3 (some (.int R.1)) R.2 14 [(0, .ref (X.1 + o)), (2, .int s.1), (3, .long s.2.1), (5, .int s.2.2.1), (6, .long s.2.2.2.1), (8, .int s.2.2.2.2.1)] [] s.2.2.2.2.2 := by
  intro n
  induction n with
  | zero => intro s h; cases h
  | succ n ih => intro s h; exact bX3_go_14_ok (F := F) ho ih h
noncomputable def fX3_go (F : Nat) (o : Nat) (a0 : Int32) (a1 : Int32) (a2 : Int64) (S : gS) : Option (Int32 × gS) := (fX7_bit F a0 S).bind (fun q1 : Int64 × gS => gl (a2 &&& q1.1) (fun v2 : Int64 => bX3_go_14l F o F (a1, a2, a0, v2, (0 : Int32), q1.2)))
set_option maxRecDepth 20000 in
theorem fX3_go_ok {X : gX} {F : Nat} {o : Nat} (ho : g_isOut o) {R : Int32 × gS} {a0 : Int32} {a1 : Int32} {a2 : Int64} {S : gS} (h : fX3_go F o a0 a1 a2 S = some R) : G X RX3 cX3_go 9 (some .boolean) 3 (some (.int R.1)) R.2 0 [(0, .ref (X.1 + o)), (1, .int a0), (2, .int a1), (3, .long a2)] [] S := by
  unfold fX3_go at h
  refine g_iload_n dX3_go_0 1 rfl rfl ?_
  refine g_istore (lv' := [(5, .int a0), (0, .ref (X.1 + o)), (1, .int a0), (2, .int a1), (3, .long a2)]) dX3_go_1 rfl (by decide) rfl ?_
  refine g_lload_n dX3_go_3 4 rfl rfl ?_
  refine g_iload_n dX3_go_4 2 rfl rfl ?_
  obtain ⟨q1, hq1, h⟩ := gb h
  refine g_callSl [.int a0] [.long a2] dX3_go_5 mk_X3_51 (ctX7_bit hq1) rfl (by decide) rfl (Nat.le_of_ble_eq_true rfl) ?_
  refine g_land dX3_go_8 ?_
  obtain ⟨v2, ev2, h⟩ := gle h
  refine g_lstore (lv' := [(6, .long v2), (5, .int a0), (0, .ref (X.1 + o)), (1, .int a0), (2, .int a1), (3, .long a2)]) dX3_go_9 ev2 (by decide) rfl ?_
  refine g_iconst (v := 0) dX3_go_11 (by decide) ?_
  refine g_istore (lv' := [(8, .int (0 : Int32)), (6, .long v2), (5, .int a0), (0, .ref (X.1 + o)), (1, .int a0), (2, .int a1), (3, .long a2)]) dX3_go_12 rfl (by decide) rfl ?_
  refine g_sub [3, 5, 6, 2, 1, 0] rfl ?_
  exact bX3_go_14l_ok ho F (a1, a2, a0, v2, (0 : Int32), q1.2) h
theorem ctX3_go {X : gX} {F : Nat} {o : Nat} (ho : g_isOut o) {R : Int32 × gS} {a0 : Int32} {a1 : Int32} {a2 : Int64} {S : gS} (h : fX3_go F o a0 a1 a2 S = some R) : g_C X yX3_go cX3_go 9 (some .boolean) 3 [.ref (X.1 + o), .int a0, .int a1, .long a2] S (some (.int R.1)) R.2 :=
  g_met (by decide) (Nat.le_of_ble_eq_true rfl) (fX3_go_ok ho h)
noncomputable def bX2_sendFrom_2 (F : Nat) (k2 : (Int32 × Int32 × gS) → Option (gS)) (x2 : Int32) (x3 : Int32) (S : gS) : Option (gS) := if x2 ≤ x3 then (some S) else (g_chk (x3 + (1 : Int32)) 6 (g_chk x3 6 ((fX3_beginAs F (24 + 3 * ((x3 + (1 : Int32))).toNatClampNeg) (24 + 3 * (x3).toNatClampNeg) S).bind (fun q4 : gS => g_chk (x3 + (1 : Int32)) 6 (g_chk x3 5 (g_chk (g_I q4 21 (x3).toNatClampNeg) 8 (g_chk x3 5 (g_chk (g_I q4 21 (x3).toNatClampNeg) 8 ((fX3_go F (24 + 3 * ((x3 + (1 : Int32))).toNatClampNeg) (g_I q4 10 ((g_I q4 21 (x3).toNatClampNeg)).toNatClampNeg) (g_I q4 11 ((g_I q4 21 (x3).toNatClampNeg)).toNatClampNeg) (g_J q4 1 4) q4).bind (fun q10 : Int32 × gS => gl (x3 + 1) (fun v11 : Int32 => k2 (x2, v11, q10.2))))))))))))
set_option maxRecDepth 20000 in
theorem bX2_sendFrom_2_ok {X : gX} {F : Nat} {k2 : (Int32 × Int32 × gS) → Option (gS)} {R : gS} (H2 : ∀ s : Int32 × Int32 × gS, k2 s = some R → G X RX2 cX2_sendFrom 4 none 4 none R 2 [(0, .ref (X.1 + 19)), (2, .int s.1), (3, .int s.2.1)] [] s.2.2) {x2 : Int32} {x3 : Int32} {S : gS} (h : bX2_sendFrom_2 F k2 x2 x3 S = some R) : G X RX2 cX2_sendFrom 4 none 4 none R 2 [(0, .ref (X.1 + 19)), (2, .int x2), (3, .int x3)] [] S := by
  unfold bX2_sendFrom_2 at h
  refine g_iload_n dX2_sendFrom_2 2 rfl rfl ?_
  refine g_iload_n dX2_sendFrom_3 1 rfl rfl ?_
  refine g_icmp_ge (tgt := 77) dX2_sendFrom_4 (by decide) (fun hc1 => ?_) (fun hc1 => ?_)
  · replace h := git hc1 h
    obtain rfl := Option.some.inj h
    exact g_vret dX2_sendFrom_77 rfl
  · replace h := gif hc1 h
    refine g_aload_n dX2_sendFrom_7 0 rfl rfl ?_
    refine g_getr dX2_sendFrom_8 lk_X2_11 sf_19_2 ?_
    refine g_iload_n dX2_sendFrom_11 2 rfl rfl ?_
    refine g_iconst (v := 1) dX2_sendFrom_12 (by decide) ?_
    refine g_iadd dX2_sendFrom_13 ?_
    obtain ⟨hv2, h⟩ := gchk h
    refine g_aald3 dX2_sendFrom_14 sa_20 hv2 ?_
    refine g_aload_n dX2_sendFrom_15 0 rfl rfl ?_
    refine g_getr dX2_sendFrom_16 lk_X2_11 sf_19_2 ?_
    refine g_iload_n dX2_sendFrom_19 2 rfl rfl ?_
    obtain ⟨hv3, h⟩ := gchk h
    refine g_aald3 dX2_sendFrom_20 sa_20 hv3 ?_
    obtain ⟨q4, hq4, h⟩ := gb h
    refine g_callVv [.ref (X.1 + (24 + 3 * (x3).toNatClampNeg))] [] dX2_sendFrom_21 mk_X2_94 (out_o (out_st hv2)) (ctX3_beginAs (out_st hv2) (out_st hv3) hq4) rfl (by decide) rfl (Nat.le_of_ble_eq_true rfl) ?_
    refine g_aload_n dX2_sendFrom_24 0 rfl rfl ?_
    refine g_getr dX2_sendFrom_25 lk_X2_11 sf_19_2 ?_
    refine g_iload_n dX2_sendFrom_28 2 rfl rfl ?_
    refine g_iconst (v := 1) dX2_sendFrom_29 (by decide) ?_
    refine g_iadd dX2_sendFrom_30 ?_
    obtain ⟨hv5, h⟩ := gchk h
    refine g_aald3 dX2_sendFrom_31 sa_20 hv5 ?_
    refine g_aload_n dX2_sendFrom_32 0 rfl rfl ?_
    refine g_getr dX2_sendFrom_33 lk_X2_44 sf_19_1 ?_
    refine g_getr dX2_sendFrom_36 lk_X2_98 sf_9_0 ?_
    refine g_aload_n dX2_sendFrom_39 0 rfl rfl ?_
    refine g_getr dX2_sendFrom_40 lk_X2_17 sf_19_3 ?_
    refine g_iload_n dX2_sendFrom_43 2 rfl rfl ?_
    obtain ⟨hv6, h⟩ := gchk h
    refine g_iald dX2_sendFrom_44 sa_21 hv6 ?_
    obtain ⟨hv7, h⟩ := gchk h
    refine g_iald dX2_sendFrom_45 sa_10 hv7 ?_
    refine g_aload_n dX2_sendFrom_46 0 rfl rfl ?_
    refine g_getr dX2_sendFrom_47 lk_X2_44 sf_19_1 ?_
    refine g_getr dX2_sendFrom_50 lk_X2_101 sf_9_1 ?_
    refine g_aload_n dX2_sendFrom_53 0 rfl rfl ?_
    refine g_getr dX2_sendFrom_54 lk_X2_17 sf_19_3 ?_
    refine g_iload_n dX2_sendFrom_57 2 rfl rfl ?_
    obtain ⟨hv8, h⟩ := gchk h
    refine g_iald dX2_sendFrom_58 sa_21 hv8 ?_
    obtain ⟨hv9, h⟩ := gchk h
    refine g_iald dX2_sendFrom_59 sa_11 hv9 ?_
    refine g_aload_n dX2_sendFrom_60 0 rfl rfl ?_
    refine g_getr dX2_sendFrom_61 lk_X2_40 sf_19_0 ?_
    refine g_getj dX2_sendFrom_64 lk_X2_104 sf_1_4 ?_
    obtain ⟨q10, hq10, h⟩ := gb h
    refine g_callVi [.int (g_I q4 10 ((g_I q4 21 (x3).toNatClampNeg)).toNatClampNeg), .int (g_I q4 11 ((g_I q4 21 (x3).toNatClampNeg)).toNatClampNeg), .long (g_J q4 1 4)] [] dX2_sendFrom_67 mk_X2_110 (out_o (out_st hv5)) (ctX3_go (out_st hv5) hq10) rfl (by decide) rfl (Nat.le_of_ble_eq_true rfl) ?_
    refine g_pop dX2_sendFrom_70 rfl ?_
    obtain ⟨v11, ev11, h⟩ := gle h
    refine g_iinc (q := 2) (v := v11) (lv' := [(3, .int v11), (0, .ref (X.1 + 19)), (2, .int x2)]) dX2_sendFrom_71 rfl (by rw [← ev11]; rfl) (by decide) rfl ?_
    refine g_goto (tgt := 2) dX2_sendFrom_74 (by decide) ?_
    refine g_sub [1, 2, 0] rfl ?_
    exact H2 (x2, v11, q10.2) h
noncomputable def bX2_sendFrom_2l (F : Nat) : Nat → (Int32 × Int32 × gS) → Option (gS) := g_fix (fun k2 s => bX2_sendFrom_2 F k2 s.1 s.2.1 s.2.2)
theorem bX2_sendFrom_2l_ok {X : gX} {F : Nat} {R : gS} : ∀ (n : Nat) (s : Int32 × Int32 × gS), bX2_sendFrom_2l F n s = some R → G X RX2 cX2_sendFrom 4 none 4 none R 2 [(0, .ref (X.1 + 19)), (2, .int s.1), (3, .int s.2.1)] [] s.2.2 := by
  intro n
  induction n with
  | zero => intro s h; cases h
  | succ n ih => intro s h; exact bX2_sendFrom_2_ok (F := F) ih h
noncomputable def fX2_sendFrom (F : Nat) (a0 : Int32) (a1 : Int32) (S : gS) : Option (gS) := bX2_sendFrom_2l F F (a1, a0, S)
set_option maxRecDepth 20000 in
theorem fX2_sendFrom_ok {X : gX} {F : Nat} {R : gS} {a0 : Int32} {a1 : Int32} {S : gS} (h : fX2_sendFrom F a0 a1 S = some R) : G X RX2 cX2_sendFrom 4 none 4 none R 0 [(0, .ref (X.1 + 19)), (1, .int a0), (2, .int a1)] [] S := by
  unfold fX2_sendFrom at h
  refine g_iload_n dX2_sendFrom_0 1 rfl rfl ?_
  refine g_istore_n (lv' := [(3, .int a0), (0, .ref (X.1 + 19)), (1, .int a0), (2, .int a1)]) dX2_sendFrom_1 rfl rfl (by decide) rfl ?_
  refine g_sub [1, 3, 0] rfl ?_
  exact bX2_sendFrom_2l_ok F (a1, a0, S) h
theorem ctX2_sendFrom {X : gX} {F : Nat} {R : gS} {a0 : Int32} {a1 : Int32} {S : gS} (h : fX2_sendFrom F a0 a1 S = some R) : g_C X yX2_sendFrom cX2_sendFrom 4 none 4 [.ref (X.1 + 19), .int a0, .int a1] S none R :=
  g_met (by decide) (Nat.le_of_ble_eq_true rfl) (fX2_sendFrom_ok h)
noncomputable def bX2_weigh_31 (F : Nat) (x1 : Int32) (x2 : Int32) (S : gS) : Option (gS) := if x2 = 0 then (if x1 ≤ (g_I S 19 7) then (some S) else (gl (g_setI S 19 7 x1) (fun S4 : gS => some S4))) else (gl (g_setI S 19 7 x1) (fun S2 : gS => some S2))
set_option maxRecDepth 20000 in
theorem bX2_weigh_31_ok {X : gX} {F : Nat} {R : gS} {x1 : Int32} {x2 : Int32} {S : gS} (h : bX2_weigh_31 F x1 x2 S = some R) : G X RX2 cX2_weigh 3 none 1 none R 31 [(0, .ref (X.1 + 19)), (1, .int x1), (2, .int x2)] [] S := by
  unfold bX2_weigh_31 at h
  refine g_iload_n dX2_weigh_31 2 rfl rfl ?_
  refine g_if_ne (tgt := 43) dX2_weigh_32 (by decide) (fun hc1 => ?_) (fun hc1 => ?_)
  · replace h := gif hc1 h
    refine g_aload_n dX2_weigh_43 0 rfl rfl ?_
    refine g_iload_n dX2_weigh_44 1 rfl rfl ?_
    obtain ⟨S2, eS2, h⟩ := gle h
    refine g_puti dX2_weigh_45 lp_X2_31 sf_19_7 eS2 ?_
    obtain rfl := Option.some.inj h
    exact g_vret dX2_weigh_48 rfl
  · replace h := git hc1 h
    refine g_iload_n dX2_weigh_35 1 rfl rfl ?_
    refine g_aload_n dX2_weigh_36 0 rfl rfl ?_
    refine g_geti dX2_weigh_37 lk_X2_31 sf_19_7 ?_
    refine g_icmp_le (tgt := 48) dX2_weigh_40 (by decide) (fun hc3 => ?_) (fun hc3 => ?_)
    · replace h := git hc3 h
      obtain rfl := Option.some.inj h
      exact g_vret dX2_weigh_48 rfl
    · replace h := gif hc3 h
      refine g_aload_n dX2_weigh_43 0 rfl rfl ?_
      refine g_iload_n dX2_weigh_44 1 rfl rfl ?_
      obtain ⟨S4, eS4, h⟩ := gle h
      refine g_puti dX2_weigh_45 lp_X2_31 sf_19_7 eS4 ?_
      obtain rfl := Option.some.inj h
      exact g_vret dX2_weigh_48 rfl
noncomputable def bX2_weigh_12 (F : Nat) (x1 : Int32) (x2 : Int32) (S : gS) : Option (gS) := gl (g_setI S 19 6 x1) (fun S1 : gS => g_cpyOk (0 : Int32) (0 : Int32) (5 : Int32) 5 5 (gl (g_cpyI S1 21 22 ((0 : Int32)).toNatClampNeg ((0 : Int32)).toNatClampNeg ((5 : Int32)).toNatClampNeg) (fun S3 : gS => bX2_weigh_31 F x1 x2 S3)))
set_option maxRecDepth 20000 in
theorem bX2_weigh_12_ok {X : gX} {F : Nat} {R : gS} {x1 : Int32} {x2 : Int32} {S : gS} (h : bX2_weigh_12 F x1 x2 S = some R) : G X RX2 cX2_weigh 3 none 1 none R 12 [(0, .ref (X.1 + 19)), (1, .int x1), (2, .int x2)] [] S := by
  unfold bX2_weigh_12 at h
  refine g_aload_n dX2_weigh_12 0 rfl rfl ?_
  refine g_iload_n dX2_weigh_13 1 rfl rfl ?_
  obtain ⟨S1, eS1, h⟩ := gle h
  refine g_puti dX2_weigh_14 lp_X2_27 sf_19_6 eS1 ?_
  refine g_aload_n dX2_weigh_17 0 rfl rfl ?_
  refine g_getr dX2_weigh_18 lk_X2_17 sf_19_3 ?_
  refine g_iconst (v := 0) dX2_weigh_21 (by decide) ?_
  refine g_aload_n dX2_weigh_22 0 rfl rfl ?_
  refine g_getr dX2_weigh_23 lk_X2_21 sf_19_4 ?_
  refine g_iconst (v := 0) dX2_weigh_26 (by decide) ?_
  refine g_iconst (v := 5) dX2_weigh_27 (by decide) ?_
  obtain ⟨hv2, h⟩ := gcpy h
  obtain ⟨S3, eS3, h⟩ := gle h
  refine g_cpy dX2_weigh_28 ac_X2_114 sa_21 sa_22 hv2 (by decide) (by decide) eS3 ?_
  exact bX2_weigh_31_ok h
noncomputable def fX2_weigh (F : Nat) (a0 : Int32) (a1 : Int32) (S : gS) : Option (gS) := if a1 = 0 then (if (g_I S 19 6) ≤ a0 then (bX2_weigh_31 F a0 a1 S) else (bX2_weigh_12 F a0 a1 S)) else (bX2_weigh_12 F a0 a1 S)
set_option maxRecDepth 20000 in
theorem fX2_weigh_ok {X : gX} {F : Nat} {R : gS} {a0 : Int32} {a1 : Int32} {S : gS} (h : fX2_weigh F a0 a1 S = some R) : G X RX2 cX2_weigh 3 none 1 none R 0 [(0, .ref (X.1 + 19)), (1, .int a0), (2, .int a1)] [] S := by
  unfold fX2_weigh at h
  refine g_iload_n dX2_weigh_0 2 rfl rfl ?_
  refine g_if_ne (tgt := 12) dX2_weigh_1 (by decide) (fun hc1 => ?_) (fun hc1 => ?_)
  · replace h := gif hc1 h
    exact bX2_weigh_12_ok h
  · replace h := git hc1 h
    refine g_iload_n dX2_weigh_4 1 rfl rfl ?_
    refine g_aload_n dX2_weigh_5 0 rfl rfl ?_
    refine g_geti dX2_weigh_6 lk_X2_27 sf_19_6 ?_
    refine g_icmp_ge (tgt := 31) dX2_weigh_9 (by decide) (fun hc2 => ?_) (fun hc2 => ?_)
    · replace h := git hc2 h
      exact bX2_weigh_31_ok h
    · replace h := gif hc2 h
      exact bX2_weigh_12_ok h
theorem ctX2_weigh {X : gX} {F : Nat} {R : gS} {a0 : Int32} {a1 : Int32} {S : gS} (h : fX2_weigh F a0 a1 S = some R) : g_C X yX2_weigh cX2_weigh 3 none 1 [.ref (X.1 + 19), .int a0, .int a1] S none R :=
  g_met (by decide) (Nat.le_of_ble_eq_true rfl) (fX2_weigh_ok h)
noncomputable def bJ7_fill_53178_5 (F : Nat) (ar : Nat) (k5 : (Int32 × Int32 × Int32 × gS) → Option (gS)) (x1 : Int32) (x2 : Int32) (x3 : Int32) (S : gS) : Option (gS) := if x3 ≤ x2 then (some S) else (g_chk x2 64 (gl (g_setI S ar (x2).toNatClampNeg x1) (fun S3 : gS => gl (x2 + 1) (fun v4 : Int32 => k5 (x1, v4, x3, S3)))))
set_option maxRecDepth 20000 in
theorem bJ7_fill_53178_5_ok {X : gX} {F : Nat} {ar : Nat} (har : g_isA ar 0 64) {k5 : (Int32 × Int32 × Int32 × gS) → Option (gS)} {R : gS} (H5 : ∀ s : Int32 × Int32 × Int32 × gS, k5 s = some R → G X RJ7 cJ7_fill_53178 4 none 0 none R 5 [(0, .ref (X.1 + ar)), (1, .int s.1), (2, .int s.2.1), (3, .int s.2.2.1)] [] s.2.2.2) {x1 : Int32} {x2 : Int32} {x3 : Int32} {S : gS} (h : bJ7_fill_53178_5 F ar k5 x1 x2 x3 S = some R) : G X RJ7 cJ7_fill_53178 4 none 0 none R 5 [(0, .ref (X.1 + ar)), (1, .int x1), (2, .int x2), (3, .int x3)] [] S := by
  unfold bJ7_fill_53178_5 at h
  refine g_iload_n dJ7_fill_53178_5 2 rfl rfl ?_
  refine g_iload_n dJ7_fill_53178_6 3 rfl rfl ?_
  refine g_icmp_ge (tgt := 20) dJ7_fill_53178_7 (by decide) (fun hc1 => ?_) (fun hc1 => ?_)
  · replace h := git hc1 h
    obtain rfl := Option.some.inj h
    exact g_vret dJ7_fill_53178_20 rfl
  · replace h := gif hc1 h
    refine g_aload_n dJ7_fill_53178_10 0 rfl rfl ?_
    refine g_iload_n dJ7_fill_53178_11 2 rfl rfl ?_
    refine g_iload_n dJ7_fill_53178_12 1 rfl rfl ?_
    obtain ⟨hv2, h⟩ := gchk h
    obtain ⟨S3, eS3, h⟩ := gle h
    refine g_iast dJ7_fill_53178_13 har hv2 eS3 ?_
    obtain ⟨v4, ev4, h⟩ := gle h
    refine g_iinc (q := 2) (v := v4) (lv' := [(2, .int v4), (0, .ref (X.1 + ar)), (1, .int x1), (3, .int x3)]) dJ7_fill_53178_14 rfl (by rw [← ev4]; rfl) (by decide) rfl ?_
    refine g_goto (tgt := 5) dJ7_fill_53178_17 (by decide) ?_
    refine g_sub [1, 2, 0, 3] rfl ?_
    exact H5 (x1, v4, x3, S3) h
noncomputable def bJ7_fill_53178_5l (F : Nat) (ar : Nat) : Nat → (Int32 × Int32 × Int32 × gS) → Option (gS) := g_fix (fun k5 s => bJ7_fill_53178_5 F ar k5 s.1 s.2.1 s.2.2.1 s.2.2.2)
theorem bJ7_fill_53178_5l_ok {X : gX} {F : Nat} {ar : Nat} (har : g_isA ar 0 64) {R : gS} : ∀ (n : Nat) (s : Int32 × Int32 × Int32 × gS), bJ7_fill_53178_5l F ar n s = some R → G X RJ7 cJ7_fill_53178 4 none 0 none R 5 [(0, .ref (X.1 + ar)), (1, .int s.1), (2, .int s.2.1), (3, .int s.2.2.1)] [] s.2.2.2 := by
  intro n
  induction n with
  | zero => intro s h; cases h
  | succ n ih => intro s h; exact bJ7_fill_53178_5_ok (F := F) har ih h
noncomputable def fJ7_fill_53178 (F : Nat) (ar : Nat) (a1 : Int32) (S : gS) : Option (gS) := gl (Int32.ofNat 64) (fun v1 : Int32 => bJ7_fill_53178_5l F ar F (a1, (0 : Int32), v1, S))
set_option maxRecDepth 20000 in
theorem fJ7_fill_53178_ok {X : gX} {F : Nat} {ar : Nat} (har : g_isA ar 0 64) {R : gS} {a1 : Int32} {S : gS} (h : fJ7_fill_53178 F ar a1 S = some R) : G X RJ7 cJ7_fill_53178 4 none 0 none R 0 [(0, .ref (X.1 + ar)), (1, .int a1)] [] S := by
  unfold fJ7_fill_53178 at h
  refine g_iconst (v := 0) dJ7_fill_53178_0 (by decide) ?_
  refine g_istore_n (lv' := [(2, .int (0 : Int32)), (0, .ref (X.1 + ar)), (1, .int a1)]) dJ7_fill_53178_1 rfl rfl (by decide) rfl ?_
  refine g_aload_n dJ7_fill_53178_2 1 rfl rfl ?_
  refine g_alen dJ7_fill_53178_3 (by decide) har ?_
  obtain ⟨v1, ev1, h⟩ := gle h
  refine g_istore_n (lv' := [(3, .int v1), (2, .int (0 : Int32)), (0, .ref (X.1 + ar)), (1, .int a1)]) dJ7_fill_53178_4 ev1 rfl (by decide) rfl ?_
  refine g_sub [2, 3, 1, 0] rfl ?_
  exact bJ7_fill_53178_5l_ok har F (a1, (0 : Int32), v1, S) h
theorem ctJ7_fill_53178 {X : gX} {F : Nat} {ar : Nat} (har : g_isA ar 0 64) {R : gS} {a1 : Int32} {S : gS} (h : fJ7_fill_53178 F ar a1 S = some R) : g_C X yJ7_fill_53178 cJ7_fill_53178 4 none 0 [.ref (X.1 + ar), .int a1] S none R :=
  g_met (by decide) (Nat.le_of_ble_eq_true rfl) (fJ7_fill_53178_ok har h)
noncomputable def fX3_begin (F : Nat) (o : Nat) (S : gS) : Option (gS) := g_cpyOk (0 : Int32) (0 : Int32) (64 : Int32) 64 64 (gl (g_cpyI S 4 (o + 1) ((0 : Int32)).toNatClampNeg ((0 : Int32)).toNatClampNeg ((64 : Int32)).toNatClampNeg) (fun S2 : gS => (fJ7_fill_53178 F (o + 2) (0 : Int32) S2).bind (fun q3 : gS => gl (g_setI q3 o 4 (0 : Int32)) (fun S4 : gS => gl (g_setI S4 o 5 (0 : Int32)) (fun S5 : gS => gl (g_setI S5 o 6 (0 : Int32)) (fun S6 : gS => some S6))))))
set_option maxRecDepth 20000 in
theorem fX3_begin_ok {X : gX} {F : Nat} {o : Nat} (ho : g_isOut o) {R : gS} {S : gS} (h : fX3_begin F o S = some R) : G X RX3 cX3_begin 2 none 1 none R 0 [(0, .ref (X.1 + o)), (1, .ref (X.1 + 4))] [] S := by
  unfold fX3_begin at h
  refine g_aload_n dX3_begin_0 1 rfl rfl ?_
  refine g_iconst (v := 0) dX3_begin_1 (by decide) ?_
  refine g_aload_n dX3_begin_2 0 rfl rfl ?_
  refine g_getr dX3_begin_3 lk_X3_9 (out_2 ho) ?_
  refine g_iconst (v := 0) dX3_begin_6 (by decide) ?_
  refine g_bipush (v := 64) dX3_begin_7 (by decide) ?_
  obtain ⟨hv1, h⟩ := gcpy h
  obtain ⟨S2, eS2, h⟩ := gle h
  refine g_cpy dX3_begin_9 ac_X3_39 sa_4 (out_a1 ho) hv1 (by decide) (by decide) eS2 ?_
  refine g_aload_n dX3_begin_12 0 rfl rfl ?_
  refine g_getr dX3_begin_13 lk_X3_15 (out_3 ho) ?_
  refine g_iconst (v := 0) dX3_begin_16 (by decide) ?_
  obtain ⟨q3, hq3, h⟩ := gb h
  refine g_callSv [.ref (X.1 + (o + 2)), .int (0 : Int32)] [] dX3_begin_17 mk_X3_45 (ctJ7_fill_53178 (out_a2 ho) hq3) rfl (by decide) rfl (Nat.le_of_ble_eq_true rfl) ?_
  refine g_aload_n dX3_begin_20 0 rfl rfl ?_
  refine g_iconst (v := 0) dX3_begin_21 (by decide) ?_
  obtain ⟨S4, eS4, h⟩ := gle h
  refine g_puti dX3_begin_22 lp_X3_18 (out_4 ho) eS4 ?_
  refine g_aload_n dX3_begin_25 0 rfl rfl ?_
  refine g_iconst (v := 0) dX3_begin_26 (by decide) ?_
  obtain ⟨S5, eS5, h⟩ := gle h
  refine g_puti dX3_begin_27 lp_X3_22 (out_5 ho) eS5 ?_
  refine g_aload_n dX3_begin_30 0 rfl rfl ?_
  refine g_iconst (v := 0) dX3_begin_31 (by decide) ?_
  obtain ⟨S6, eS6, h⟩ := gle h
  refine g_puti dX3_begin_32 lp_X3_25 (out_6 ho) eS6 ?_
  obtain rfl := Option.some.inj h
  exact g_vret dX3_begin_35 rfl
theorem ctX3_begin {X : gX} {F : Nat} {o : Nat} (ho : g_isOut o) {R : gS} {S : gS} (h : fX3_begin F o S = some R) : g_C X yX3_begin cX3_begin 2 none 1 [.ref (X.1 + o), .ref (X.1 + 4)] S none R :=
  g_met (by decide) (Nat.le_of_ble_eq_true rfl) (fX3_begin_ok ho h)
noncomputable def bX5_shows_2 (F : Nat) (o : Nat) (ar : Nat) (k2 : (Int32 × gS) → Option (Int32 × gS)) (x2 : Int32) (S : gS) : Option (Int32 × gS) := if (g_I S o 2) ≤ x2 then (some ((1 : Int32), S)) else (g_chk x2 64 (g_chk x2 64 (if (g_I S (o + 1) (x2).toNatClampNeg) = (g_I S ar (x2).toNatClampNeg) then (gl (x2 + 1) (fun v5 : Int32 => k2 (v5, S))) else (some ((0 : Int32), S)))))
set_option maxRecDepth 20000 in
theorem bX5_shows_2_ok {X : gX} {F : Nat} {o : Nat} {ar : Nat} (ho : g_isSht o) (har : g_isA ar 0 64) {k2 : (Int32 × gS) → Option (Int32 × gS)} {R : Int32 × gS} (H2 : ∀ s : Int32 × gS, k2 s = some R → G X RX5 cX5_shows 3 (some .boolean) 0 (some (.int R.1)) R.2 2 [(0, .ref (X.1 + o)), (1, .ref (X.1 + ar)), (2, .int s.1)] [] s.2) {x2 : Int32} {S : gS} (h : bX5_shows_2 F o ar k2 x2 S = some R) : G X RX5 cX5_shows 3 (some .boolean) 0 (some (.int R.1)) R.2 2 [(0, .ref (X.1 + o)), (1, .ref (X.1 + ar)), (2, .int x2)] [] S := by
  unfold bX5_shows_2 at h
  refine g_iload_n dX5_shows_2 2 rfl rfl ?_
  refine g_aload_n dX5_shows_3 0 rfl rfl ?_
  refine g_geti dX5_shows_4 lk_X5_19 (sht_2 ho) ?_
  refine g_icmp_ge (tgt := 30) dX5_shows_7 (by decide) (fun hc1 => ?_) (fun hc1 => ?_)
  · replace h := git hc1 h
    refine g_iconst (v := 1) dX5_shows_30 (by decide) ?_
    obtain rfl := Option.some.inj h
    exact g_zret dX5_shows_31 rfl narrow_b1
  · replace h := gif hc1 h
    refine g_aload_n dX5_shows_10 0 rfl rfl ?_
    refine g_getr dX5_shows_11 lk_X5_9 (sht_0 ho) ?_
    refine g_iload_n dX5_shows_14 2 rfl rfl ?_
    obtain ⟨hv2, h⟩ := gchk h
    refine g_iald dX5_shows_15 (sht_a1 ho) hv2 ?_
    refine g_aload_n dX5_shows_16 1 rfl rfl ?_
    refine g_iload_n dX5_shows_17 2 rfl rfl ?_
    obtain ⟨hv3, h⟩ := gchk h
    refine g_iald dX5_shows_18 har hv3 ?_
    refine g_icmp_eq (tgt := 24) dX5_shows_19 (by decide) (fun hc4 => ?_) (fun hc4 => ?_)
    · replace h := git hc4 h
      obtain ⟨v5, ev5, h⟩ := gle h
      refine g_iinc (q := 2) (v := v5) (lv' := [(2, .int v5), (0, .ref (X.1 + o)), (1, .ref (X.1 + ar))]) dX5_shows_24 rfl (by rw [← ev5]; rfl) (by decide) rfl ?_
      refine g_goto (tgt := 2) dX5_shows_27 (by decide) ?_
      refine g_sub [1, 2, 0] rfl ?_
      exact H2 (v5, S) h
    · replace h := gif hc4 h
      refine g_iconst (v := 0) dX5_shows_22 (by decide) ?_
      obtain rfl := Option.some.inj h
      exact g_zret dX5_shows_23 rfl narrow_b0
noncomputable def bX5_shows_2l (F : Nat) (o : Nat) (ar : Nat) : Nat → (Int32 × gS) → Option (Int32 × gS) := g_fix (fun k2 s => bX5_shows_2 F o ar k2 s.1 s.2)
theorem bX5_shows_2l_ok {X : gX} {F : Nat} {o : Nat} {ar : Nat} (ho : g_isSht o) (har : g_isA ar 0 64) {R : Int32 × gS} : ∀ (n : Nat) (s : Int32 × gS), bX5_shows_2l F o ar n s = some R → G X RX5 cX5_shows 3 (some .boolean) 0 (some (.int R.1)) R.2 2 [(0, .ref (X.1 + o)), (1, .ref (X.1 + ar)), (2, .int s.1)] [] s.2 := by
  intro n
  induction n with
  | zero => intro s h; cases h
  | succ n ih => intro s h; exact bX5_shows_2_ok (F := F) ho har ih h
noncomputable def fX5_shows (F : Nat) (o : Nat) (ar : Nat) (S : gS) : Option (Int32 × gS) := bX5_shows_2l F o ar F ((0 : Int32), S)
set_option maxRecDepth 20000 in
theorem fX5_shows_ok {X : gX} {F : Nat} {o : Nat} {ar : Nat} (ho : g_isSht o) (har : g_isA ar 0 64) {R : Int32 × gS} {S : gS} (h : fX5_shows F o ar S = some R) : G X RX5 cX5_shows 3 (some .boolean) 0 (some (.int R.1)) R.2 0 [(0, .ref (X.1 + o)), (1, .ref (X.1 + ar))] [] S := by
  unfold fX5_shows at h
  refine g_iconst (v := 0) dX5_shows_0 (by decide) ?_
  refine g_istore_n (lv' := [(2, .int (0 : Int32)), (0, .ref (X.1 + o)), (1, .ref (X.1 + ar))]) dX5_shows_1 rfl rfl (by decide) rfl ?_
  refine g_sub [1, 2, 0] rfl ?_
  exact bX5_shows_2l_ok ho har F ((0 : Int32), S) h
theorem ctX5_shows {X : gX} {F : Nat} {o : Nat} {ar : Nat} (ho : g_isSht o) (har : g_isA ar 0 64) {R : Int32 × gS} {S : gS} (h : fX5_shows F o ar S = some R) : g_C X yX5_shows cX5_shows 3 (some .boolean) 0 [.ref (X.1 + o), .ref (X.1 + ar)] S (some (.int R.1)) R.2 :=
  g_met (by decide) (Nat.le_of_ble_eq_true rfl) (fX5_shows_ok ho har h)

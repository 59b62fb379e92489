noncomputable def fX8_order (F : Nat) (a0 : Int32) (S : gS) : Option (Int32 × gS) := if 0 ≤ a0 then (if (g_I S 51 12) ≤ (5 : Int32) then (if a0 < (g_I S 51 12) then ((fX8_findOrders F S).bind (fun q4 : gS => g_chk a0 5 (some ((g_I q4 71 (a0).toNatClampNeg), q4)))) else (some ((-2 : Int32), S))) else (some ((-4 : Int32), S))) else (some ((-2 : Int32), S))
set_option maxRecDepth 20000 in
theorem fX8_order_ok {X : gX} {F : Nat} {R : Int32 × gS} {a0 : Int32} {S : gS} (h : fX8_order F a0 S = some R) : G X RX8 cX8_order 2 (some .int) 6 (some (.int R.1)) R.2 0 [(0, .ref (X.1 + 51)), (1, .int a0)] [] S := by
  unfold fX8_order at h
  refine g_iload_n dX8_order_0 1 rfl rfl ?_
  refine g_if_ge (tgt := 7) dX8_order_1 (by decide) (fun hc1 => ?_) (fun hc1 => ?_)
  · replace h := git hc1 h
    refine g_aload_n dX8_order_7 0 rfl rfl ?_
    refine g_geti dX8_order_8 lk_X8_146 sf_51_12 ?_
    refine g_iconst (v := 5) dX8_order_11 (by decide) ?_
    refine g_icmp_le (tgt := 18) dX8_order_12 (by decide) (fun hc2 => ?_) (fun hc2 => ?_)
    · replace h := git hc2 h
      refine g_iload_n dX8_order_18 1 rfl rfl ?_
      refine g_aload_n dX8_order_19 0 rfl rfl ?_
      refine g_geti dX8_order_20 lk_X8_146 sf_51_12 ?_
      refine g_icmp_lt (tgt := 29) dX8_order_23 (by decide) (fun hc3 => ?_) (fun hc3 => ?_)
      · replace h := git hc3 h
        refine g_aload_n dX8_order_29 0 rfl rfl ?_
        obtain ⟨q4, hq4, h⟩ := gb h
        refine g_callVv [] [] dX8_order_30 mk_X8_248 so_51 (ctX8_findOrders hq4) rfl (by decide) rfl (Nat.le_of_ble_eq_true rfl) ?_
        refine g_aload_n dX8_order_33 0 rfl rfl ?_
        refine g_getr dX8_order_34 lk_X8_72 sf_51_28 ?_
        refine g_iload_n dX8_order_37 1 rfl rfl ?_
        obtain ⟨hv5, h⟩ := gchk h
        refine g_iald dX8_order_38 sa_71 hv5 ?_
        obtain rfl := Option.some.inj h
        exact g_iret dX8_order_39 rfl
      · replace h := gif hc3 h
        refine g_bipush (v := -2) dX8_order_26 (by decide) ?_
        obtain rfl := Option.some.inj h
        exact g_iret dX8_order_28 rfl
    · replace h := gif hc2 h
      refine g_bipush (v := -4) dX8_order_15 (by decide) ?_
      obtain rfl := Option.some.inj h
      exact g_iret dX8_order_17 rfl
  · replace h := gif hc1 h
    refine g_bipush (v := -2) dX8_order_4 (by decide) ?_
    obtain rfl := Option.some.inj h
    exact g_iret dX8_order_6 rfl
theorem ctX8_order {X : gX} {F : Nat} {R : Int32 × gS} {a0 : Int32} {S : gS} (h : fX8_order F a0 S = some R) : g_C X yX8_order cX8_order 2 (some .int) 6 [.ref (X.1 + 51), .int a0] S (some (.int R.1)) R.2 :=
  g_met (by decide) (Nat.le_of_ble_eq_true rfl) (fX8_order_ok h)
noncomputable def bX8_firstOf_65 (F : Nat) (k21 : (Int32 × Int32 × Int32 × Int32 × gS) → Option (Int32 × gS)) (k43 : (Int32 × Int32 × Int32 × Int32 × Int32 × gS) → Option (Int32 × gS)) (x1 : Int32) (x2 : Int32) (x3 : Int32) (x4 : Int32) (x5 : Int32) (S : gS) : Option (Int32 × gS) := gl (x5 + 1) (fun v1 : Int32 => k43 (x1, x2, x3, x4, v1, S))
set_option maxRecDepth 20000 in
theorem bX8_firstOf_65_ok {X : gX} {F : Nat} {k21 : (Int32 × Int32 × Int32 × Int32 × gS) → Option (Int32 × gS)} {k43 : (Int32 × Int32 × Int32 × Int32 × Int32 × gS) → Option (Int32 × gS)} {R : Int32 × gS} (H21 : ∀ s : Int32 × Int32 × Int32 × Int32 × gS, k21 s = some R → G X RX8 cX8_firstOf 6 (some .int) 4 (some (.int R.1)) R.2 21 [(0, .ref (X.1 + 51)), (1, .int s.1), (2, .int s.2.1), (3, .int s.2.2.1), (4, .int s.2.2.2.1)] [] s.2.2.2.2) (H43 : ∀ s : Int32 × Int32 × Int32 × Int32 × Int32 × gS, k43 s = some R → G X RX8 cX8_firstOf 6 (some .int) 4 (some (.int R.1)) R.2 43 [(0, .ref (X.1 + 51)), (1, .int s.1), (2, .int s.2.1), (3, .int s.2.2.1), (4, .int s.2.2.2.1), (5, .int s.2.2.2.2.1)] [] s.2.2.2.2.2) {x1 : Int32} {x2 : Int32} {x3 : Int32} {x4 : Int32} {x5 : Int32} {S : gS} (h : bX8_firstOf_65 F k21 k43 x1 x2 x3 x4 x5 S = some R) : G X RX8 cX8_firstOf 6 (some .int) 4 (some (.int R.1)) R.2 65 [(0, .ref (X.1 + 51)), (1, .int x1), (2, .int x2), (3, .int x3), (4, .int x4), (5, .int x5)] [] S := by
  unfold bX8_firstOf_65 at h
  obtain ⟨v1, ev1, h⟩ := gle h
  refine g_iinc (q := 5) (v := v1) (lv' := [(5, .int v1), (0, .ref (X.1 + 51)), (1, .int x1), (2, .int x2), (3, .int x3), (4, .int x4)]) dX8_firstOf_65 rfl (by rw [← ev1]; rfl) (by decide) rfl ?_
  refine g_goto (tgt := 43) dX8_firstOf_68 (by decide) ?_
  refine g_sub [1, 2, 3, 4, 5, 0] rfl ?_
  exact H43 (x1, x2, x3, x4, v1, S) h
noncomputable def bX8_firstOf_92 (F : Nat) (k21 : (Int32 × Int32 × Int32 × Int32 × gS) → Option (Int32 × gS)) (x1 : Int32) (x2 : Int32) (x3 : Int32) (x4 : Int32) (S : gS) : Option (Int32 × gS) := gl (x4 + 1) (fun v1 : Int32 => k21 (x1, x2, x3, v1, S))
set_option maxRecDepth 20000 in
theorem bX8_firstOf_92_ok {X : gX} {F : Nat} {k21 : (Int32 × Int32 × Int32 × Int32 × gS) → Option (Int32 × gS)} {R : Int32 × gS} (H21 : ∀ s : Int32 × Int32 × Int32 × Int32 × gS, k21 s = some R → G X RX8 cX8_firstOf 6 (some .int) 4 (some (.int R.1)) R.2 21 [(0, .ref (X.1 + 51)), (1, .int s.1), (2, .int s.2.1), (3, .int s.2.2.1), (4, .int s.2.2.2.1)] [] s.2.2.2.2) {x1 : Int32} {x2 : Int32} {x3 : Int32} {x4 : Int32} {S : gS} (h : bX8_firstOf_92 F k21 x1 x2 x3 x4 S = some R) : G X RX8 cX8_firstOf 6 (some .int) 4 (some (.int R.1)) R.2 92 [(0, .ref (X.1 + 51)), (1, .int x1), (2, .int x2), (3, .int x3), (4, .int x4)] [] S := by
  unfold bX8_firstOf_92 at h
  obtain ⟨v1, ev1, h⟩ := gle h
  refine g_iinc (q := 4) (v := v1) (lv' := [(4, .int v1), (0, .ref (X.1 + 51)), (1, .int x1), (2, .int x2), (3, .int x3)]) dX8_firstOf_92 rfl (by rw [← ev1]; rfl) (by decide) rfl ?_
  refine g_goto (tgt := 21) dX8_firstOf_95 (by decide) ?_
  refine g_sub [1, 2, 3, 4, 0] rfl ?_
  exact H21 (x1, x2, x3, v1, S) h
noncomputable def bX8_firstOf_84 (F : Nat) (k21 : (Int32 × Int32 × Int32 × Int32 × gS) → Option (Int32 × gS)) (x1 : Int32) (x4 : Int32) (S : gS) : Option (Int32 × gS) := gl (g_I S 51 21) (fun v1 : Int32 => bX8_firstOf_92 F k21 x1 x4 v1 x4 S)
set_option maxRecDepth 20000 in
theorem bX8_firstOf_84_ok {X : gX} {F : Nat} {k21 : (Int32 × Int32 × Int32 × Int32 × gS) → Option (Int32 × gS)} {R : Int32 × gS} (H21 : ∀ s : Int32 × Int32 × Int32 × Int32 × gS, k21 s = some R → G X RX8 cX8_firstOf 6 (some .int) 4 (some (.int R.1)) R.2 21 [(0, .ref (X.1 + 51)), (1, .int s.1), (2, .int s.2.1), (3, .int s.2.2.1), (4, .int s.2.2.2.1)] [] s.2.2.2.2) {x1 : Int32} {x4 : Int32} {S : gS} (h : bX8_firstOf_84 F k21 x1 x4 S = some R) : G X RX8 cX8_firstOf 6 (some .int) 4 (some (.int R.1)) R.2 84 [(0, .ref (X.1 + 51)), (1, .int x1), (4, .int x4)] [] S := by
  unfold bX8_firstOf_84 at h
  refine g_iload dX8_firstOf_84 2 rfl ?_
  refine g_istore_n (lv' := [(2, .int x4), (0, .ref (X.1 + 51)), (1, .int x1), (4, .int x4)]) dX8_firstOf_86 rfl rfl (by decide) rfl ?_
  refine g_aload_n dX8_firstOf_87 1 rfl rfl ?_
  refine g_geti dX8_firstOf_88 lk_X8_152 sf_51_21 ?_
  obtain ⟨v1, ev1, h⟩ := gle h
  refine g_istore_n (lv' := [(3, .int v1), (2, .int x4), (0, .ref (X.1 + 51)), (1, .int x1), (4, .int x4)]) dX8_firstOf_91 ev1 rfl (by decide) rfl ?_
  refine g_sub [2, 3, 1, 0, 4] rfl ?_
  exact bX8_firstOf_92_ok H21 h
noncomputable def bX8_firstOf_43 (F : Nat) (k21 : (Int32 × Int32 × Int32 × Int32 × gS) → Option (Int32 × gS)) (k43 : (Int32 × Int32 × Int32 × Int32 × Int32 × gS) → Option (Int32 × gS)) (x1 : Int32) (x2 : Int32) (x3 : Int32) (x4 : Int32) (x5 : Int32) (S : gS) : Option (Int32 × gS) := if (g_I S 51 12) ≤ x5 then (if x2 = (-1 : Int32) then (bX8_firstOf_84 F k21 x1 x4 S) else (if x3 ≤ (g_I S 51 21) then (bX8_firstOf_92 F k21 x1 x2 x3 x4 S) else (bX8_firstOf_84 F k21 x1 x4 S))) else (if x5 = x4 then (bX8_firstOf_65 F k21 k43 x1 x2 x3 x4 x5 S) else ((fX8_walks F x5 S).bind (fun q5 : gS => bX8_firstOf_65 F k21 k43 x1 x2 x3 x4 x5 q5)))
set_option maxRecDepth 20000 in
theorem bX8_firstOf_43_ok {X : gX} {F : Nat} {k21 : (Int32 × Int32 × Int32 × Int32 × gS) → Option (Int32 × gS)} {k43 : (Int32 × Int32 × Int32 × Int32 × Int32 × gS) → Option (Int32 × gS)} {R : Int32 × gS} (H21 : ∀ s : Int32 × Int32 × Int32 × Int32 × gS, k21 s = some R → G X RX8 cX8_firstOf 6 (some .int) 4 (some (.int R.1)) R.2 21 [(0, .ref (X.1 + 51)), (1, .int s.1), (2, .int s.2.1), (3, .int s.2.2.1), (4, .int s.2.2.2.1)] [] s.2.2.2.2) (H43 : ∀ s : Int32 × Int32 × Int32 × Int32 × Int32 × gS, k43 s = some R → G X RX8 cX8_firstOf 6 (some .int) 4 (some (.int R.1)) R.2 43 [(0, .ref (X.1 + 51)), (1, .int s.1), (2, .int s.2.1), (3, .int s.2.2.1), (4, .int s.2.2.2.1), (5, .int s.2.2.2.2.1)] [] s.2.2.2.2.2) {x1 : Int32} {x2 : Int32} {x3 : Int32} {x4 : Int32} {x5 : Int32} {S : gS} (h : bX8_firstOf_43 F k21 k43 x1 x2 x3 x4 x5 S = some R) : G X RX8 cX8_firstOf 6 (some .int) 4 (some (.int R.1)) R.2 43 [(0, .ref (X.1 + 51)), (1, .int x1), (2, .int x2), (3, .int x3), (4, .int x4), (5, .int x5)] [] S := by
  unfold bX8_firstOf_43 at h
  refine g_iload dX8_firstOf_43 5 rfl ?_
  refine g_aload_n dX8_firstOf_45 0 rfl rfl ?_
  refine g_geti dX8_firstOf_46 lk_X8_146 sf_51_12 ?_
  refine g_icmp_ge (tgt := 71) dX8_firstOf_49 (by decide) (fun hc1 => ?_) (fun hc1 => ?_)
  · replace h := git hc1 h
    refine g_iload_n dX8_firstOf_71 2 rfl rfl ?_
    refine g_iconst (v := -1) dX8_firstOf_72 (by decide) ?_
    refine g_icmp_eq (tgt := 84) dX8_firstOf_73 (by decide) (fun hc2 => ?_) (fun hc2 => ?_)
    · replace h := git hc2 h
      refine g_sub [0, 1, 4] rfl ?_
      exact bX8_firstOf_84_ok H21 h
    · replace h := gif hc2 h
      refine g_aload_n dX8_firstOf_76 0 rfl rfl ?_
      refine g_geti dX8_firstOf_77 lk_X8_152 sf_51_21 ?_
      refine g_iload_n dX8_firstOf_80 3 rfl rfl ?_
      refine g_icmp_ge (tgt := 92) dX8_firstOf_81 (by decide) (fun hc3 => ?_) (fun hc3 => ?_)
      · replace h := git hc3 h
        refine g_sub [0, 1, 2, 3, 4] rfl ?_
        exact bX8_firstOf_92_ok H21 h
      · replace h := gif hc3 h
        refine g_sub [0, 1, 4] rfl ?_
        exact bX8_firstOf_84_ok H21 h
  · replace h := gif hc1 h
    refine g_iload dX8_firstOf_52 5 rfl ?_
    refine g_iload dX8_firstOf_54 4 rfl ?_
    refine g_icmp_eq (tgt := 65) dX8_firstOf_56 (by decide) (fun hc4 => ?_) (fun hc4 => ?_)
    · replace h := git hc4 h
      exact bX8_firstOf_65_ok H21 H43 h
    · replace h := gif hc4 h
      refine g_aload_n dX8_firstOf_59 0 rfl rfl ?_
      refine g_iload dX8_firstOf_60 5 rfl ?_
      obtain ⟨q5, hq5, h⟩ := gb h
      refine g_callVv [.int x5] [] dX8_firstOf_62 mk_X8_212 so_51 (ctX8_walks hq5) rfl (by decide) rfl (Nat.le_of_ble_eq_true rfl) ?_
      exact bX8_firstOf_65_ok H21 H43 h
noncomputable def bX8_firstOf_43l (F : Nat) (k21 : (Int32 × Int32 × Int32 × Int32 × gS) → Option (Int32 × gS)) : Nat → (Int32 × Int32 × Int32 × Int32 × Int32 × gS) → Option (Int32 × gS) := g_fix (fun k43 s => bX8_firstOf_43 F k21 k43 s.1 s.2.1 s.2.2.1 s.2.2.2.1 s.2.2.2.2.1 s.2.2.2.2.2)
theorem bX8_firstOf_43l_ok {X : gX} {F : Nat} {k21 : (Int32 × Int32 × Int32 × Int32 × gS) → Option (Int32 × gS)} {R : Int32 × gS} (H21 : ∀ s : Int32 × Int32 × Int32 × Int32 × gS, k21 s = some R → G X RX8 cX8_firstOf 6 (some .int) 4 (some (.int R.1)) R.2 21 [(0, .ref (X.1 + 51)), (1, .int s.1), (2, .int s.2.1), (3, .int s.2.2.1), (4, .int s.2.2.2.1)] [] s.2.2.2.2) : ∀ (n : Nat) (s : Int32 × Int32 × Int32 × Int32 × Int32 × gS), bX8_firstOf_43l F k21 n s = some R → G X RX8 cX8_firstOf 6 (some .int) 4 (some (.int R.1)) R.2 43 [(0, .ref (X.1 + 51)), (1, .int s.1), (2, .int s.2.1), (3, .int s.2.2.1), (4, .int s.2.2.2.1), (5, .int s.2.2.2.2.1)] [] s.2.2.2.2.2 := by
  intro n
  induction n with
  | zero => intro s h; cases h
  | succ n ih => intro s h; exact bX8_firstOf_43_ok (F := F) H21 ih h
noncomputable def bX8_firstOf_21 (F : Nat) (k21 : (Int32 × Int32 × Int32 × Int32 × gS) → Option (Int32 × gS)) (x1 : Int32) (x2 : Int32) (x3 : Int32) (x4 : Int32) (S : gS) : Option (Int32 × gS) := if (g_I S 51 12) ≤ x4 then (if x1 = 0 then (some (x2, S)) else (some (x3, S))) else ((fX8_begins F S).bind (fun q3 : gS => (fX8_walks F x4 q3).bind (fun q4 : gS => bX8_firstOf_43l F k21 F (x1, x2, x3, x4, (0 : Int32), q4))))
set_option maxRecDepth 20000 in
theorem bX8_firstOf_21_ok {X : gX} {F : Nat} {k21 : (Int32 × Int32 × Int32 × Int32 × gS) → Option (Int32 × gS)} {R : Int32 × gS} (H21 : ∀ s : Int32 × Int32 × Int32 × Int32 × gS, k21 s = some R → G X RX8 cX8_firstOf 6 (some .int) 4 (some (.int R.1)) R.2 21 [(0, .ref (X.1 + 51)), (1, .int s.1), (2, .int s.2.1), (3, .int s.2.2.1), (4, .int s.2.2.2.1)] [] s.2.2.2.2) {x1 : Int32} {x2 : Int32} {x3 : Int32} {x4 : Int32} {S : gS} (h : bX8_firstOf_21 F k21 x1 x2 x3 x4 S = some R) : G X RX8 cX8_firstOf 6 (some .int) 4 (some (.int R.1)) R.2 21 [(0, .ref (X.1 + 51)), (1, .int x1), (2, .int x2), (3, .int x3), (4, .int x4)] [] S := by
  unfold bX8_firstOf_21 at h
  refine g_iload dX8_firstOf_21 4 rfl ?_
  refine g_aload_n dX8_firstOf_23 0 rfl rfl ?_
  refine g_geti dX8_firstOf_24 lk_X8_146 sf_51_12 ?_
  refine g_icmp_ge (tgt := 98) dX8_firstOf_27 (by decide) (fun hc1 => ?_) (fun hc1 => ?_)
  · replace h := git hc1 h
    refine g_iload_n dX8_firstOf_98 1 rfl rfl ?_
    refine g_if_ne (tgt := 106) dX8_firstOf_99 (by decide) (fun hc2 => ?_) (fun hc2 => ?_)
    · replace h := gif hc2 h
      refine g_iload_n dX8_firstOf_106 3 rfl rfl ?_
      obtain rfl := Option.some.inj h
      exact g_iret dX8_firstOf_107 rfl
    · replace h := git hc2 h
      refine g_iload_n dX8_firstOf_102 2 rfl rfl ?_
      refine g_goto (tgt := 107) dX8_firstOf_103 (by decide) ?_
      obtain rfl := Option.some.inj h
      exact g_iret dX8_firstOf_107 rfl
  · replace h := gif hc1 h
    refine g_aload_n dX8_firstOf_30 0 rfl rfl ?_
    obtain ⟨q3, hq3, h⟩ := gb h
    refine g_callVv [] [] dX8_firstOf_31 mk_X8_149 so_51 (ctX8_begins hq3) rfl (by decide) rfl (Nat.le_of_ble_eq_true rfl) ?_
    refine g_aload_n dX8_firstOf_34 0 rfl rfl ?_
    refine g_iload dX8_firstOf_35 4 rfl ?_
    obtain ⟨q4, hq4, h⟩ := gb h
    refine g_callVv [.int x4] [] dX8_firstOf_37 mk_X8_212 so_51 (ctX8_walks hq4) rfl (by decide) rfl (Nat.le_of_ble_eq_true rfl) ?_
    refine g_iconst (v := 0) dX8_firstOf_40 (by decide) ?_
    refine g_istore (lv' := [(5, .int (0 : Int32)), (0, .ref (X.1 + 51)), (1, .int x1), (2, .int x2), (3, .int x3), (4, .int x4)]) dX8_firstOf_41 rfl (by decide) rfl ?_
    refine g_sub [1, 2, 3, 4, 5, 0] rfl ?_
    exact bX8_firstOf_43l_ok H21 F (x1, x2, x3, x4, (0 : Int32), q4) h
noncomputable def bX8_firstOf_21l (F : Nat) : Nat → (Int32 × Int32 × Int32 × Int32 × gS) → Option (Int32 × gS) := g_fix (fun k21 s => bX8_firstOf_21 F k21 s.1 s.2.1 s.2.2.1 s.2.2.2.1 s.2.2.2.2)
theorem bX8_firstOf_21l_ok {X : gX} {F : Nat} {R : Int32 × gS} : ∀ (n : Nat) (s : Int32 × Int32 × Int32 × Int32 × gS), bX8_firstOf_21l F n s = some R → G X RX8 cX8_firstOf 6 (some .int) 4 (some (.int R.1)) R.2 21 [(0, .ref (X.1 + 51)), (1, .int s.1), (2, .int s.2.1), (3, .int s.2.2.1), (4, .int s.2.2.2.1)] [] s.2.2.2.2 := by
  intro n
  induction n with
  | zero => intro s h; cases h
  | succ n ih => intro s h; exact bX8_firstOf_21_ok (F := F) ih h
noncomputable def fX8_firstOf (F : Nat) (a0 : Int32) (S : gS) : Option (Int32 × gS) := if (g_I S 51 12) = 0 then (some ((-3 : Int32), S)) else ((fX8_tries F S).bind (fun q2 : gS => bX8_firstOf_21l F F (a0, (-1 : Int32), (0 : Int32), (0 : Int32), q2)))
set_option maxRecDepth 20000 in
theorem fX8_firstOf_ok {X : gX} {F : Nat} {R : Int32 × gS} {a0 : Int32} {S : gS} (h : fX8_firstOf F a0 S = some R) : G X RX8 cX8_firstOf 6 (some .int) 4 (some (.int R.1)) R.2 0 [(0, .ref (X.1 + 51)), (1, .int a0)] [] S := by
  unfold fX8_firstOf at h
  refine g_aload_n dX8_firstOf_0 0 rfl rfl ?_
  refine g_geti dX8_firstOf_1 lk_X8_146 sf_51_12 ?_
  refine g_if_ne (tgt := 10) dX8_firstOf_4 (by decide) (fun hc1 => ?_) (fun hc1 => ?_)
  · replace h := gif hc1 h
    refine g_aload_n dX8_firstOf_10 0 rfl rfl ?_
    obtain ⟨q2, hq2, h⟩ := gb h
    refine g_callVv [] [] dX8_firstOf_11 mk_X8_188 so_51 (ctX8_tries hq2) rfl (by decide) rfl (Nat.le_of_ble_eq_true rfl) ?_
    refine g_iconst (v := -1) dX8_firstOf_14 (by decide) ?_
    refine g_istore_n (lv' := [(2, .int (-1 : Int32)), (0, .ref (X.1 + 51)), (1, .int a0)]) dX8_firstOf_15 rfl rfl (by decide) rfl ?_
    refine g_iconst (v := 0) dX8_firstOf_16 (by decide) ?_
    refine g_istore_n (lv' := [(3, .int (0 : Int32)), (2, .int (-1 : Int32)), (0, .ref (X.1 + 51)), (1, .int a0)]) dX8_firstOf_17 rfl rfl (by decide) rfl ?_
    refine g_iconst (v := 0) dX8_firstOf_18 (by decide) ?_
    refine g_istore (lv' := [(4, .int (0 : Int32)), (3, .int (0 : Int32)), (2, .int (-1 : Int32)), (0, .ref (X.1 + 51)), (1, .int a0)]) dX8_firstOf_19 rfl (by decide) rfl ?_
    refine g_sub [3, 4, 2, 1, 0] rfl ?_
    exact bX8_firstOf_21l_ok F (a0, (-1 : Int32), (0 : Int32), (0 : Int32), q2) h
  · replace h := git hc1 h
    refine g_bipush (v := -3) dX8_firstOf_7 (by decide) ?_
    obtain rfl := Option.some.inj h
    exact g_iret dX8_firstOf_9 rfl
theorem ctX8_firstOf {X : gX} {F : Nat} {R : Int32 × gS} {a0 : Int32} {S : gS} (h : fX8_firstOf F a0 S = some R) : g_C X yX8_firstOf cX8_firstOf 6 (some .int) 4 [.ref (X.1 + 51), .int a0] S (some (.int R.1)) R.2 :=
  g_met (by decide) (Nat.le_of_ble_eq_true rfl) (fX8_firstOf_ok h)
noncomputable def fX8_first (F : Nat) (a0 : Int32) (S : gS) : Option (Int32 × gS) := (fX8_isTwo F a0 S).bind (fun q1 : Int32 × gS => if q1.1 = 0 then (some ((-2 : Int32), q1.2)) else ((fX8_firstOf F a0 q1.2).bind (fun q3 : Int32 × gS => some (q3.1, q3.2))))
set_option maxRecDepth 20000 in
theorem fX8_first_ok {X : gX} {F : Nat} {R : Int32 × gS} {a0 : Int32} {S : gS} (h : fX8_first F a0 S = some R) : G X RX8 cX8_first 2 (some .int) 5 (some (.int R.1)) R.2 0 [(0, .ref (X.1 + 51)), (1, .int a0)] [] S := by
  unfold fX8_first at h
  refine g_iload_n dX8_first_0 1 rfl rfl ?_
  obtain ⟨q1, hq1, h⟩ := gb h
  refine g_callSi [.int a0] [] dX8_first_1 mk_X8_245 (ctX8_isTwo hq1) rfl (by decide) rfl (Nat.le_of_ble_eq_true rfl) ?_
  refine g_if_eq (tgt := 15) dX8_first_4 (by decide) (fun hc2 => ?_) (fun hc2 => ?_)
  · replace h := git hc2 h
    refine g_bipush (v := -2) dX8_first_15 (by decide) ?_
    obtain rfl := Option.some.inj h
    exact g_iret dX8_first_17 rfl
  · replace h := gif hc2 h
    refine g_aload_n dX8_first_7 0 rfl rfl ?_
    refine g_iload_n dX8_first_8 1 rfl rfl ?_
    obtain ⟨q3, hq3, h⟩ := gb h
    refine g_callVi [.int a0] [] dX8_first_9 mk_X8_251 so_51 (ctX8_firstOf hq3) rfl (by decide) rfl (Nat.le_of_ble_eq_true rfl) ?_
    refine g_goto (tgt := 17) dX8_first_12 (by decide) ?_
    obtain rfl := Option.some.inj h
    exact g_iret dX8_first_17 rfl
theorem ctX8_first {X : gX} {F : Nat} {R : Int32 × gS} {a0 : Int32} {S : gS} (h : fX8_first F a0 S = some R) : g_C X yX8_first cX8_first 2 (some .int) 5 [.ref (X.1 + 51), .int a0] S (some (.int R.1)) R.2 :=
  g_met (by decide) (Nat.le_of_ble_eq_true rfl) (fX8_first_ok h)
noncomputable def bX8_findYard_93 (F : Nat) (k25 : (Int32 × Int32 × gS) → Option (gS)) (x1 : Int32) (x2 : Int32) (S : gS) : Option (gS) := gl (x2 + 1) (fun v1 : Int32 => k25 (x1, v1, S))
set_option maxRecDepth 20000 in
theorem bX8_findYard_93_ok {X : gX} {F : Nat} {k25 : (Int32 × Int32 × gS) → Option (gS)} {R : gS} (H25 : ∀ s : Int32 × Int32 × gS, k25 s = some R → G X RX8 cX8_findYard 3 none 5 none R 25 [(0, .ref (X.1 + 51)), (1, .int s.1), (2, .int s.2.1)] [] s.2.2) {x1 : Int32} {x2 : Int32} {S : gS} (h : bX8_findYard_93 F k25 x1 x2 S = some R) : G X RX8 cX8_findYard 3 none 5 none R 93 [(0, .ref (X.1 + 51)), (1, .int x1), (2, .int x2)] [] S := by
  unfold bX8_findYard_93 at h
  obtain ⟨v1, ev1, h⟩ := gle h
  refine g_iinc (q := 2) (v := v1) (lv' := [(2, .int v1), (0, .ref (X.1 + 51)), (1, .int x1)]) dX8_findYard_93 rfl (by rw [← ev1]; rfl) (by decide) rfl ?_
  refine g_goto (tgt := 25) dX8_findYard_96 (by decide) ?_
  refine g_sub [1, 2, 0] rfl ?_
  exact H25 (x1, v1, S) h
noncomputable def bX8_findYard_25 (F : Nat) (k25 : (Int32 × Int32 × gS) → Option (gS)) (x1 : Int32) (x2 : Int32) (S : gS) : Option (gS) := if (64 : Int32) ≤ x2 then (some S) else (g_chk x2 64 (if (g_I S 57 (x2).toNatClampNeg) = (1 : Int32) then (bX8_findYard_93 F k25 x1 x2 S) else (g_chk x2 64 (if (g_I S 58 (x2).toNatClampNeg) ≤ 0 then (bX8_findYard_93 F k25 x1 x2 S) else ((fX8_begins F S).bind (fun q6 : gS => g_chk x2 64 (gl (g_setI q6 64 (x2).toNatClampNeg (0 : Int32)) (fun S8 : gS => (fX8_mornings F S8).bind (fun q9 : gS => if (x1 - (g_I q9 51 21)) ≤ (g_I q9 51 32) then (bX8_findYard_93 F k25 x1 x2 q9) else (gl (g_setI q9 51 31 x2) (fun S11 : gS => gl (g_setI S11 51 32 (x1 - (g_I S11 51 21))) (fun S12 : gS => bX8_findYard_93 F k25 x1 x2 S12))))))))))))
set_option maxRecDepth 20000 in
theorem bX8_findYard_25_ok {X : gX} {F : Nat} {k25 : (Int32 × Int32 × gS) → Option (gS)} {R : gS} (H25 : ∀ s : Int32 × Int32 × gS, k25 s = some R → G X RX8 cX8_findYard 3 none 5 none R 25 [(0, .ref (X.1 + 51)), (1, .int s.1), (2, .int s.2.1)] [] s.2.2) {x1 : Int32} {x2 : Int32} {S : gS} (h : bX8_findYard_25 F k25 x1 x2 S = some R) : G X RX8 cX8_findYard 3 none 5 none R 25 [(0, .ref (X.1 + 51)), (1, .int x1), (2, .int x2)] [] S := by
  unfold bX8_findYard_25 at h
  refine g_iload_n dX8_findYard_25 2 rfl rfl ?_
  refine g_bipush (v := 64) dX8_findYard_26 (by decide) ?_
  refine g_icmp_ge (tgt := 99) dX8_findYard_28 (by decide) (fun hc1 => ?_) (fun hc1 => ?_)
  · replace h := git hc1 h
    obtain rfl := Option.some.inj h
    exact g_vret dX8_findYard_99 rfl
  · replace h := gif hc1 h
    refine g_aload_n dX8_findYard_31 0 rfl rfl ?_
    refine g_getr dX8_findYard_32 lk_X8_25 sf_51_7 ?_
    refine g_iload_n dX8_findYard_35 2 rfl rfl ?_
    obtain ⟨hv2, h⟩ := gchk h
    refine g_iald dX8_findYard_36 sa_57 hv2 ?_
    refine g_iconst (v := 1) dX8_findYard_37 (by decide) ?_
    refine g_icmp_eq (tgt := 93) dX8_findYard_38 (by decide) (fun hc3 => ?_) (fun hc3 => ?_)
    · replace h := git hc3 h
      exact bX8_findYard_93_ok H25 h
    · replace h := gif hc3 h
      refine g_aload_n dX8_findYard_41 0 rfl rfl ?_
      refine g_getr dX8_findYard_42 lk_X8_28 sf_51_8 ?_
      refine g_iload_n dX8_findYard_45 2 rfl rfl ?_
      obtain ⟨hv4, h⟩ := gchk h
      refine g_iald dX8_findYard_46 sa_58 hv4 ?_
      refine g_if_le (tgt := 93) dX8_findYard_47 (by decide) (fun hc5 => ?_) (fun hc5 => ?_)
      · replace h := git hc5 h
        exact bX8_findYard_93_ok H25 h
      · replace h := gif hc5 h
        refine g_aload_n dX8_findYard_50 0 rfl rfl ?_
        obtain ⟨q6, hq6, h⟩ := gb h
        refine g_callVv [] [] dX8_findYard_51 mk_X8_149 so_51 (ctX8_begins hq6) rfl (by decide) rfl (Nat.le_of_ble_eq_true rfl) ?_
        refine g_aload_n dX8_findYard_54 0 rfl rfl ?_
        refine g_getr dX8_findYard_55 lk_X8_46 sf_51_15 ?_
        refine g_iload_n dX8_findYard_58 2 rfl rfl ?_
        refine g_iconst (v := 0) dX8_findYard_59 (by decide) ?_
        obtain ⟨hv7, h⟩ := gchk h
        obtain ⟨S8, eS8, h⟩ := gle h
        refine g_iast dX8_findYard_60 sa_64 hv7 eS8 ?_
        refine g_aload_n dX8_findYard_61 0 rfl rfl ?_
        obtain ⟨q9, hq9, h⟩ := gb h
        refine g_callVv [] [] dX8_findYard_62 mk_X8_218 so_51 (ctX8_mornings hq9) rfl (by decide) rfl (Nat.le_of_ble_eq_true rfl) ?_
        refine g_iload_n dX8_findYard_65 1 rfl rfl ?_
        refine g_aload_n dX8_findYard_66 0 rfl rfl ?_
        refine g_geti dX8_findYard_67 lk_X8_152 sf_51_21 ?_
        refine g_isub dX8_findYard_70 ?_
        refine g_aload_n dX8_findYard_71 0 rfl rfl ?_
        refine g_geti dX8_findYard_72 lk_X8_257 sf_51_32 ?_
        refine g_icmp_le (tgt := 93) dX8_findYard_75 (by decide) (fun hc10 => ?_) (fun hc10 => ?_)
        · replace h := git hc10 h
          exact bX8_findYard_93_ok H25 h
        · replace h := gif hc10 h
          refine g_aload_n dX8_findYard_78 0 rfl rfl ?_
          refine g_iload_n dX8_findYard_79 2 rfl rfl ?_
          obtain ⟨S11, eS11, h⟩ := gle h
          refine g_puti dX8_findYard_80 lp_X8_254 sf_51_31 eS11 ?_
          refine g_aload_n dX8_findYard_83 0 rfl rfl ?_
          refine g_iload_n dX8_findYard_84 1 rfl rfl ?_
          refine g_aload_n dX8_findYard_85 0 rfl rfl ?_
          refine g_geti dX8_findYard_86 lk_X8_152 sf_51_21 ?_
          refine g_isub dX8_findYard_89 ?_
          obtain ⟨S12, eS12, h⟩ := gle h
          refine g_puti dX8_findYard_90 lp_X8_257 sf_51_32 eS12 ?_
          exact bX8_findYard_93_ok H25 h
noncomputable def bX8_findYard_25l (F : Nat) : Nat → (Int32 × Int32 × gS) → Option (gS) := g_fix (fun k25 s => bX8_findYard_25 F k25 s.1 s.2.1 s.2.2)
theorem bX8_findYard_25l_ok {X : gX} {F : Nat} {R : gS} : ∀ (n : Nat) (s : Int32 × Int32 × gS), bX8_findYard_25l F n s = some R → G X RX8 cX8_findYard 3 none 5 none R 25 [(0, .ref (X.1 + 51)), (1, .int s.1), (2, .int s.2.1)] [] s.2.2 := by
  intro n
  induction n with
  | zero => intro s h; cases h
  | succ n ih => intro s h; exact bX8_findYard_25_ok (F := F) ih h
noncomputable def fX8_findYard (F : Nat) (S : gS) : Option (gS) := (fX8_tries F S).bind (fun q1 : gS => (fX8_mornings F q1).bind (fun q2 : gS => gl (g_I q2 51 21) (fun v3 : Int32 => gl (g_setI q2 51 31 (-1 : Int32)) (fun S4 : gS => gl (g_setI S4 51 32 (0 : Int32)) (fun S5 : gS => bX8_findYard_25l F F (v3, (0 : Int32), S5))))))
set_option maxRecDepth 20000 in
theorem fX8_findYard_ok {X : gX} {F : Nat} {R : gS} {S : gS} (h : fX8_findYard F S = some R) : G X RX8 cX8_findYard 3 none 5 none R 0 [(0, .ref (X.1 + 51))] [] S := by
  unfold fX8_findYard at h
  refine g_aload_n dX8_findYard_0 0 rfl rfl ?_
  obtain ⟨q1, hq1, h⟩ := gb h
  refine g_callVv [] [] dX8_findYard_1 mk_X8_188 so_51 (ctX8_tries hq1) rfl (by decide) rfl (Nat.le_of_ble_eq_true rfl) ?_
  refine g_aload_n dX8_findYard_4 0 rfl rfl ?_
  obtain ⟨q2, hq2, h⟩ := gb h
  refine g_callVv [] [] dX8_findYard_5 mk_X8_218 so_51 (ctX8_mornings hq2) rfl (by decide) rfl (Nat.le_of_ble_eq_true rfl) ?_
  refine g_aload_n dX8_findYard_8 0 rfl rfl ?_
  refine g_geti dX8_findYard_9 lk_X8_152 sf_51_21 ?_
  obtain ⟨v3, ev3, h⟩ := gle h
  refine g_istore_n (lv' := [(1, .int v3), (0, .ref (X.1 + 51))]) dX8_findYard_12 ev3 rfl (by decide) rfl ?_
  refine g_aload_n dX8_findYard_13 1 rfl rfl ?_
  refine g_iconst (v := -1) dX8_findYard_14 (by decide) ?_
  obtain ⟨S4, eS4, h⟩ := gle h
  refine g_puti dX8_findYard_15 lp_X8_254 sf_51_31 eS4 ?_
  refine g_aload_n dX8_findYard_18 1 rfl rfl ?_
  refine g_iconst (v := 0) dX8_findYard_19 (by decide) ?_
  obtain ⟨S5, eS5, h⟩ := gle h
  refine g_puti dX8_findYard_20 lp_X8_257 sf_51_32 eS5 ?_
  refine g_iconst (v := 0) dX8_findYard_23 (by decide) ?_
  refine g_istore_n (lv' := [(2, .int (0 : Int32)), (1, .int v3), (0, .ref (X.1 + 51))]) dX8_findYard_24 rfl rfl (by decide) rfl ?_
  refine g_sub [2, 1, 0] rfl ?_
  exact bX8_findYard_25l_ok F (v3, (0 : Int32), S5) h
theorem ctX8_findYard {X : gX} {F : Nat} {R : gS} {S : gS} (h : fX8_findYard F S = some R) : g_C X yX8_findYard cX8_findYard 3 none 5 [.ref (X.1 + 51)] S none R :=
  g_met (by decide) (Nat.le_of_ble_eq_true rfl) (fX8_findYard_ok h)
noncomputable def fX8_yard (F : Nat) (a0 : Int32) (S : gS) : Option (Int32 × gS) := (fX8_isTwo F a0 S).bind (fun q1 : Int32 × gS => if q1.1 = 0 then (some ((-2 : Int32), q1.2)) else ((fX8_findYard F q1.2).bind (fun q3 : gS => if a0 = 0 then (some ((g_I q3 51 31), q3)) else (some ((g_I q3 51 32), q3)))))
set_option maxRecDepth 20000 in
theorem fX8_yard_ok {X : gX} {F : Nat} {R : Int32 × gS} {a0 : Int32} {S : gS} (h : fX8_yard F a0 S = some R) : G X RX8 cX8_yard 2 (some .int) 6 (some (.int R.1)) R.2 0 [(0, .ref (X.1 + 51)), (1, .int a0)] [] S := by
  unfold fX8_yard at h
  refine g_iload_n dX8_yard_0 1 rfl rfl ?_
  obtain ⟨q1, hq1, h⟩ := gb h
  refine g_callSi [.int a0] [] dX8_yard_1 mk_X8_245 (ctX8_isTwo hq1) rfl (by decide) rfl (Nat.le_of_ble_eq_true rfl) ?_
  refine g_if_ne (tgt := 10) dX8_yard_4 (by decide) (fun hc2 => ?_) (fun hc2 => ?_)
  · replace h := gif hc2 h
    refine g_aload_n dX8_yard_10 0 rfl rfl ?_
    obtain ⟨q3, hq3, h⟩ := gb h
    refine g_callVv [] [] dX8_yard_11 mk_X8_260 so_51 (ctX8_findYard hq3) rfl (by decide) rfl (Nat.le_of_ble_eq_true rfl) ?_
    refine g_iload_n dX8_yard_14 1 rfl rfl ?_
    refine g_if_ne (tgt := 25) dX8_yard_15 (by decide) (fun hc4 => ?_) (fun hc4 => ?_)
    · replace h := gif hc4 h
      refine g_aload_n dX8_yard_25 0 rfl rfl ?_
      refine g_geti dX8_yard_26 lk_X8_257 sf_51_32 ?_
      obtain rfl := Option.some.inj h
      exact g_iret dX8_yard_29 rfl
    · replace h := git hc4 h
      refine g_aload_n dX8_yard_18 0 rfl rfl ?_
      refine g_geti dX8_yard_19 lk_X8_254 sf_51_31 ?_
      refine g_goto (tgt := 29) dX8_yard_22 (by decide) ?_
      obtain rfl := Option.some.inj h
      exact g_iret dX8_yard_29 rfl
  · replace h := git hc2 h
    refine g_bipush (v := -2) dX8_yard_7 (by decide) ?_
    obtain rfl := Option.some.inj h
    exact g_iret dX8_yard_9 rfl
theorem ctX8_yard {X : gX} {F : Nat} {R : Int32 × gS} {a0 : Int32} {S : gS} (h : fX8_yard F a0 S = some R) : g_C X yX8_yard cX8_yard 2 (some .int) 6 [.ref (X.1 + 51), .int a0] S (some (.int R.1)) R.2 :=
  g_met (by decide) (Nat.le_of_ble_eq_true rfl) (fX8_yard_ok h)
noncomputable def bX8_grits_166 (F : Nat) (k34 : (Int32 × Int32 × Int32 × Int32 × gS) → Option (Int32 × gS)) (x1 : Int32) (x2 : Int32) (x4 : Int32) (t0 : Int32) (S : gS) : Option (Int32 × gS) := gl (x4 + 1) (fun v1 : Int32 => k34 (x1, x2, t0, v1, S))
set_option maxRecDepth 20000 in
theorem bX8_grits_166_ok {X : gX} {F : Nat} {k34 : (Int32 × Int32 × Int32 × Int32 × gS) → Option (Int32 × gS)} {R : Int32 × gS} (H34 : ∀ s : Int32 × Int32 × Int32 × Int32 × gS, k34 s = some R → G X RX8 cX8_grits 9 (some .int) 5 (some (.int R.1)) R.2 34 [(0, .ref (X.1 + 51)), (1, .int s.1), (2, .int s.2.1), (3, .int s.2.2.1), (4, .int s.2.2.2.1)] [] s.2.2.2.2) {x1 : Int32} {x2 : Int32} {x4 : Int32} {t0 : Int32} {S : gS} (h : bX8_grits_166 F k34 x1 x2 x4 t0 S = some R) : G X RX8 cX8_grits 9 (some .int) 5 (some (.int R.1)) R.2 166 [(0, .ref (X.1 + 51)), (1, .int x1), (2, .int x2), (4, .int x4)] [.int t0] S := by
  unfold bX8_grits_166 at h
  refine g_istore_n (lv' := [(3, .int t0), (0, .ref (X.1 + 51)), (1, .int x1), (2, .int x2), (4, .int x4)]) dX8_grits_166 rfl rfl (by decide) rfl ?_
  obtain ⟨v1, ev1, h⟩ := gle h
  refine g_iinc (q := 4) (v := v1) (lv' := [(4, .int v1), (3, .int t0), (0, .ref (X.1 + 51)), (1, .int x1), (2, .int x2)]) dX8_grits_167 rfl (by rw [← ev1]; rfl) (by decide) rfl ?_
  refine g_goto (tgt := 34) dX8_grits_170 (by decide) ?_
  refine g_sub [2, 3, 4, 1, 0] rfl ?_
  exact H34 (x1, x2, t0, v1, S) h
noncomputable def bX8_grits_154 (F : Nat) (k34 : (Int32 × Int32 × Int32 × Int32 × gS) → Option (Int32 × gS)) (x1 : Int32) (x2 : Int32) (x3 : Int32) (x4 : Int32) (x5 : Int32) (S : gS) : Option (Int32 × gS) := if x4 = x2 then (bX8_grits_166 F k34 x1 x2 x4 x5 S) else (bX8_grits_166 F k34 x1 x2 x4 x3 S)
set_option maxRecDepth 20000 in
theorem bX8_grits_154_ok {X : gX} {F : Nat} {k34 : (Int32 × Int32 × Int32 × Int32 × gS) → Option (Int32 × gS)} {R : Int32 × gS} (H34 : ∀ s : Int32 × Int32 × Int32 × Int32 × gS, k34 s = some R → G X RX8 cX8_grits 9 (some .int) 5 (some (.int R.1)) R.2 34 [(0, .ref (X.1 + 51)), (1, .int s.1), (2, .int s.2.1), (3, .int s.2.2.1), (4, .int s.2.2.2.1)] [] s.2.2.2.2) {x1 : Int32} {x2 : Int32} {x3 : Int32} {x4 : Int32} {x5 : Int32} {S : gS} (h : bX8_grits_154 F k34 x1 x2 x3 x4 x5 S = some R) : G X RX8 cX8_grits 9 (some .int) 5 (some (.int R.1)) R.2 154 [(0, .ref (X.1 + 51)), (1, .int x1), (2, .int x2), (3, .int x3), (4, .int x4), (5, .int x5)] [] S := by
  unfold bX8_grits_154 at h
  refine g_iload dX8_grits_154 4 rfl ?_
  refine g_iload_n dX8_grits_156 2 rfl rfl ?_
  refine g_icmp_ne (tgt := 165) dX8_grits_157 (by decide) (fun hc1 => ?_) (fun hc1 => ?_)
  · replace h := gif hc1 h
    refine g_iload_n dX8_grits_165 3 rfl rfl ?_
    refine g_sub [0, 1, 2, 4] rfl ?_
    exact bX8_grits_166_ok H34 h
  · replace h := git hc1 h
    refine g_iload dX8_grits_160 5 rfl ?_
    refine g_goto (tgt := 166) dX8_grits_162 (by decide) ?_
    refine g_sub [0, 1, 2, 4] rfl ?_
    exact bX8_grits_166_ok H34 h
noncomputable def bX8_grits_132 (F : Nat) (k34 : (Int32 × Int32 × Int32 × Int32 × gS) → Option (Int32 × gS)) (k49 : (Int32 × Int32 × Int32 × Int32 × Int32 × Int32 × Int32 × gS) → Option (Int32 × gS)) (x1 : Int32) (x2 : Int32) (x3 : Int32) (x4 : Int32) (x5 : Int32) (x7 : Int32) (t0 : Int32) (S : gS) : Option (Int32 × gS) := gl (x7 + 1) (fun v1 : Int32 => k49 (x1, x2, x3, x4, x5, t0, v1, S))
set_option maxRecDepth 20000 in
theorem bX8_grits_132_ok {X : gX} {F : Nat} {k34 : (Int32 × Int32 × Int32 × Int32 × gS) → Option (Int32 × gS)} {k49 : (Int32 × Int32 × Int32 × Int32 × Int32 × Int32 × Int32 × gS) → Option (Int32 × gS)} {R : Int32 × gS} (H34 : ∀ s : Int32 × Int32 × Int32 × Int32 × gS, k34 s = some R → G X RX8 cX8_grits 9 (some .int) 5 (some (.int R.1)) R.2 34 [(0, .ref (X.1 + 51)), (1, .int s.1), (2, .int s.2.1), (3, .int s.2.2.1), (4, .int s.2.2.2.1)] [] s.2.2.2.2) (H49 : ∀ s : Int32 × Int32 × Int32 × Int32 × Int32 × Int32 × Int32 × gS, k49 s = some R → G X RX8 cX8_grits 9 (some .int) 5 (some (.int R.1)) R.2 49 [(0, .ref (X.1 + 51)), (1, .int s.1), (2, .int s.2.1), (3, .int s.2.2.1), (4, .int s.2.2.2.1), (5, .int s.2.2.2.2.1), (6, .int s.2.2.2.2.2.1), (7, .int s.2.2.2.2.2.2.1)] [] s.2.2.2.2.2.2.2) {x1 : Int32} {x2 : Int32} {x3 : Int32} {x4 : Int32} {x5 : Int32} {x7 : Int32} {t0 : Int32} {S : gS} (h : bX8_grits_132 F k34 k49 x1 x2 x3 x4 x5 x7 t0 S = some R) : G X RX8 cX8_grits 9 (some .int) 5 (some (.int R.1)) R.2 132 [(0, .ref (X.1 + 51)), (1, .int x1), (2, .int x2), (3, .int x3), (4, .int x4), (5, .int x5), (7, .int x7)] [.int t0] S := by
  unfold bX8_grits_132 at h
  refine g_istore (lv' := [(6, .int t0), (0, .ref (X.1 + 51)), (1, .int x1), (2, .int x2), (3, .int x3), (4, .int x4), (5, .int x5), (7, .int x7)]) dX8_grits_132 rfl (by decide) rfl ?_
  obtain ⟨v1, ev1, h⟩ := gle h
  refine g_iinc (q := 7) (v := v1) (lv' := [(7, .int v1), (6, .int t0), (0, .ref (X.1 + 51)), (1, .int x1), (2, .int x2), (3, .int x3), (4, .int x4), (5, .int x5)]) dX8_grits_134 rfl (by rw [← ev1]; rfl) (by decide) rfl ?_
  refine g_goto (tgt := 49) dX8_grits_137 (by decide) ?_
  refine g_sub [2, 3, 4, 5, 6, 7, 1, 0] rfl ?_
  exact H49 (x1, x2, x3, x4, x5, t0, v1, S) h
noncomputable def bX8_grits_105 (F : Nat) (k34 : (Int32 × Int32 × Int32 × Int32 × gS) → Option (Int32 × gS)) (k49 : (Int32 × Int32 × Int32 × Int32 × Int32 × Int32 × Int32 × gS) → Option (Int32 × gS)) (x1 : Int32) (x2 : Int32) (x3 : Int32) (x4 : Int32) (x6 : Int32) (x7 : Int32) (x8 : Int32) (t0 : Int32) (S : gS) : Option (Int32 × gS) := if x8 = 0 then (bX8_grits_132 F k34 k49 x1 x2 x3 x4 t0 x7 x6 S) else (g_chk x7 64 (g_chk x7 64 (bX8_grits_132 F k34 k49 x1 x2 x3 x4 t0 x7 ((g_I S 60 (x7).toNatClampNeg) * (g_I S 66 (x7).toNatClampNeg)) S)))
set_option maxRecDepth 20000 in
theorem bX8_grits_105_ok {X : gX} {F : Nat} {k34 : (Int32 × Int32 × Int32 × Int32 × gS) → Option (Int32 × gS)} {k49 : (Int32 × Int32 × Int32 × Int32 × Int32 × Int32 × Int32 × gS) → Option (Int32 × gS)} {R : Int32 × gS} (H34 : ∀ s : Int32 × Int32 × Int32 × Int32 × gS, k34 s = some R → G X RX8 cX8_grits 9 (some .int) 5 (some (.int R.1)) R.2 34 [(0, .ref (X.1 + 51)), (1, .int s.1), (2, .int s.2.1), (3, .int s.2.2.1), (4, .int s.2.2.2.1)] [] s.2.2.2.2) (H49 : ∀ s : Int32 × Int32 × Int32 × Int32 × Int32 × Int32 × Int32 × gS, k49 s = some R → G X RX8 cX8_grits 9 (some .int) 5 (some (.int R.1)) R.2 49 [(0, .ref (X.1 + 51)), (1, .int s.1), (2, .int s.2.1), (3, .int s.2.2.1), (4, .int s.2.2.2.1), (5, .int s.2.2.2.2.1), (6, .int s.2.2.2.2.2.1), (7, .int s.2.2.2.2.2.2.1)] [] s.2.2.2.2.2.2.2) {x1 : Int32} {x2 : Int32} {x3 : Int32} {x4 : Int32} {x6 : Int32} {x7 : Int32} {x8 : Int32} {t0 : Int32} {S : gS} (h : bX8_grits_105 F k34 k49 x1 x2 x3 x4 x6 x7 x8 t0 S = some R) : G X RX8 cX8_grits 9 (some .int) 5 (some (.int R.1)) R.2 105 [(0, .ref (X.1 + 51)), (1, .int x1), (2, .int x2), (3, .int x3), (4, .int x4), (6, .int x6), (7, .int x7), (8, .int x8)] [.int t0] S := by
  unfold bX8_grits_105 at h
  refine g_istore (lv' := [(5, .int t0), (0, .ref (X.1 + 51)), (1, .int x1), (2, .int x2), (3, .int x3), (4, .int x4), (6, .int x6), (7, .int x7), (8, .int x8)]) dX8_grits_105 rfl (by decide) rfl ?_
  refine g_iload dX8_grits_107 8 rfl ?_
  refine g_if_eq (tgt := 130) dX8_grits_109 (by decide) (fun hc1 => ?_) (fun hc1 => ?_)
  · replace h := git hc1 h
    refine g_iload dX8_grits_130 6 rfl ?_
    refine g_sub [1, 2, 3, 4, 5, 0, 7] rfl ?_
    exact bX8_grits_132_ok H34 H49 h
  · replace h := gif hc1 h
    refine g_aload_n dX8_grits_112 1 rfl rfl ?_
    refine g_getr dX8_grits_113 lk_X8_34 sf_51_10 ?_
    refine g_iload dX8_grits_116 7 rfl ?_
    obtain ⟨hv2, h⟩ := gchk h
    refine g_iald dX8_grits_118 sa_60 hv2 ?_
    refine g_aload_n dX8_grits_119 1 rfl rfl ?_
    refine g_getr dX8_grits_120 lk_X8_52 sf_51_17 ?_
    refine g_iload dX8_grits_123 7 rfl ?_
    obtain ⟨hv3, h⟩ := gchk h
    refine g_iald dX8_grits_125 sa_66 hv3 ?_
    refine g_imul dX8_grits_126 ?_
    refine g_goto (tgt := 132) dX8_grits_127 (by decide) ?_
    refine g_sub [1, 2, 3, 4, 5, 0, 7] rfl ?_
    exact bX8_grits_132_ok H34 H49 h
noncomputable def bX8_grits_91 (F : Nat) (k34 : (Int32 × Int32 × Int32 × Int32 × gS) → Option (Int32 × gS)) (k49 : (Int32 × Int32 × Int32 × Int32 × Int32 × Int32 × Int32 × gS) → Option (Int32 × gS)) (x1 : Int32) (x2 : Int32) (x3 : Int32) (x4 : Int32) (x5 : Int32) (x6 : Int32) (x7 : Int32) (t0 : Int32) (S : gS) : Option (Int32 × gS) := if t0 = 0 then (bX8_grits_105 F k34 k49 x1 x2 x3 x4 x6 x7 t0 x5 S) else (bX8_grits_105 F k34 k49 x1 x2 x3 x4 x6 x7 t0 x7 S)
set_option maxRecDepth 20000 in
theorem bX8_grits_91_ok {X : gX} {F : Nat} {k34 : (Int32 × Int32 × Int32 × Int32 × gS) → Option (Int32 × gS)} {k49 : (Int32 × Int32 × Int32 × Int32 × Int32 × Int32 × Int32 × gS) → Option (Int32 × gS)} {R : Int32 × gS} (H34 : ∀ s : Int32 × Int32 × Int32 × Int32 × gS, k34 s = some R → G X RX8 cX8_grits 9 (some .int) 5 (some (.int R.1)) R.2 34 [(0, .ref (X.1 + 51)), (1, .int s.1), (2, .int s.2.1), (3, .int s.2.2.1), (4, .int s.2.2.2.1)] [] s.2.2.2.2) (H49 : ∀ s : Int32 × Int32 × Int32 × Int32 × Int32 × Int32 × Int32 × gS, k49 s = some R → G X RX8 cX8_grits 9 (some .int) 5 (some (.int R.1)) R.2 49 [(0, .ref (X.1 + 51)), (1, .int s.1), (2, .int s.2.1), (3, .int s.2.2.1), (4, .int s.2.2.2.1), (5, .int s.2.2.2.2.1), (6, .int s.2.2.2.2.2.1), (7, .int s.2.2.2.2.2.2.1)] [] s.2.2.2.2.2.2.2) {x1 : Int32} {x2 : Int32} {x3 : Int32} {x4 : Int32} {x5 : Int32} {x6 : Int32} {x7 : Int32} {t0 : Int32} {S : gS} (h : bX8_grits_91 F k34 k49 x1 x2 x3 x4 x5 x6 x7 t0 S = some R) : G X RX8 cX8_grits 9 (some .int) 5 (some (.int R.1)) R.2 91 [(0, .ref (X.1 + 51)), (1, .int x1), (2, .int x2), (3, .int x3), (4, .int x4), (5, .int x5), (6, .int x6), (7, .int x7)] [.int t0] S := by
  unfold bX8_grits_91 at h
  refine g_istore (lv' := [(8, .int t0), (0, .ref (X.1 + 51)), (1, .int x1), (2, .int x2), (3, .int x3), (4, .int x4), (5, .int x5), (6, .int x6), (7, .int x7)]) dX8_grits_91 rfl (by decide) rfl ?_
  refine g_iload dX8_grits_93 0 rfl ?_
  refine g_if_eq (tgt := 103) dX8_grits_95 (by decide) (fun hc1 => ?_) (fun hc1 => ?_)
  · replace h := git hc1 h
    refine g_iload dX8_grits_103 6 rfl ?_
    refine g_sub [1, 2, 3, 4, 5, 7, 8, 0] rfl ?_
    exact bX8_grits_105_ok H34 H49 h
  · replace h := gif hc1 h
    refine g_iload dX8_grits_98 8 rfl ?_
    refine g_goto (tgt := 105) dX8_grits_100 (by decide) ?_
    refine g_sub [1, 2, 3, 4, 5, 7, 8, 0] rfl ?_
    exact bX8_grits_105_ok H34 H49 h
noncomputable def bX8_grits_90 (F : Nat) (k34 : (Int32 × Int32 × Int32 × Int32 × gS) → Option (Int32 × gS)) (k49 : (Int32 × Int32 × Int32 × Int32 × Int32 × Int32 × Int32 × gS) → Option (Int32 × gS)) (x1 : Int32) (x2 : Int32) (x3 : Int32) (x4 : Int32) (x5 : Int32) (x6 : Int32) (x7 : Int32) (S : gS) : Option (Int32 × gS) := bX8_grits_91 F k34 k49 x1 x2 x3 x4 x5 x6 x7 (0 : Int32) S
set_option maxRecDepth 20000 in
theorem bX8_grits_90_ok {X : gX} {F : Nat} {k34 : (Int32 × Int32 × Int32 × Int32 × gS) → Option (Int32 × gS)} {k49 : (Int32 × Int32 × Int32 × Int32 × Int32 × Int32 × Int32 × gS) → Option (Int32 × gS)} {R : Int32 × gS} (H34 : ∀ s : Int32 × Int32 × Int32 × Int32 × gS, k34 s = some R → G X RX8 cX8_grits 9 (some .int) 5 (some (.int R.1)) R.2 34 [(0, .ref (X.1 + 51)), (1, .int s.1), (2, .int s.2.1), (3, .int s.2.2.1), (4, .int s.2.2.2.1)] [] s.2.2.2.2) (H49 : ∀ s : Int32 × Int32 × Int32 × Int32 × Int32 × Int32 × Int32 × gS, k49 s = some R → G X RX8 cX8_grits 9 (some .int) 5 (some (.int R.1)) R.2 49 [(0, .ref (X.1 + 51)), (1, .int s.1), (2, .int s.2.1), (3, .int s.2.2.1), (4, .int s.2.2.2.1), (5, .int s.2.2.2.2.1), (6, .int s.2.2.2.2.2.1), (7, .int s.2.2.2.2.2.2.1)] [] s.2.2.2.2.2.2.2) {x1 : Int32} {x2 : Int32} {x3 : Int32} {x4 : Int32} {x5 : Int32} {x6 : Int32} {x7 : Int32} {S : gS} (h : bX8_grits_90 F k34 k49 x1 x2 x3 x4 x5 x6 x7 S = some R) : G X RX8 cX8_grits 9 (some .int) 5 (some (.int R.1)) R.2 90 [(0, .ref (X.1 + 51)), (1, .int x1), (2, .int x2), (3, .int x3), (4, .int x4), (5, .int x5), (6, .int x6), (7, .int x7)] [] S := by
  unfold bX8_grits_90 at h
  refine g_iconst (v := 0) dX8_grits_90 (by decide) ?_
  exact bX8_grits_91_ok H34 H49 h
noncomputable def bX8_grits_49 (F : Nat) (k34 : (Int32 × Int32 × Int32 × Int32 × gS) → Option (Int32 × gS)) (k49 : (Int32 × Int32 × Int32 × Int32 × Int32 × Int32 × Int32 × gS) → Option (Int32 × gS)) (x1 : Int32) (x2 : Int32) (x3 : Int32) (x4 : Int32) (x5 : Int32) (x6 : Int32) (x7 : Int32) (S : gS) : Option (Int32 × gS) := if (64 : Int32) ≤ x7 then (if x5 = (-1 : Int32) then (bX8_grits_154 F k34 x1 x2 x3 x4 x5 S) else (g_chk x5 64 (gl (g_setI S 72 (x5).toNatClampNeg (vp_nar .boolean (1 : Int32))) (fun S4 : gS => bX8_grits_154 F k34 x1 x2 x3 x4 x5 S4)))) else (g_chk x7 64 (if (g_I S 72 (x7).toNatClampNeg) = 0 then (g_chk x7 64 (g_chk x7 64 (if ((g_I S 60 (x7).toNatClampNeg) * (g_I S 66 (x7).toNatClampNeg)) ≤ x6 then (bX8_grits_90 F k34 k49 x1 x2 x3 x4 x5 x6 x7 S) else (bX8_grits_91 F k34 k49 x1 x2 x3 x4 x5 x6 x7 (1 : Int32) S)))) else (bX8_grits_90 F k34 k49 x1 x2 x3 x4 x5 x6 x7 S)))
set_option maxRecDepth 20000 in
theorem bX8_grits_49_ok {X : gX} {F : Nat} {k34 : (Int32 × Int32 × Int32 × Int32 × gS) → Option (Int32 × gS)} {k49 : (Int32 × Int32 × Int32 × Int32 × Int32 × Int32 × Int32 × gS) → Option (Int32 × gS)} {R : Int32 × gS} (H34 : ∀ s : Int32 × Int32 × Int32 × Int32 × gS, k34 s = some R → G X RX8 cX8_grits 9 (some .int) 5 (some (.int R.1)) R.2 34 [(0, .ref (X.1 + 51)), (1, .int s.1), (2, .int s.2.1), (3, .int s.2.2.1), (4, .int s.2.2.2.1)] [] s.2.2.2.2) (H49 : ∀ s : Int32 × Int32 × Int32 × Int32 × Int32 × Int32 × Int32 × gS, k49 s = some R → G X RX8 cX8_grits 9 (some .int) 5 (some (.int R.1)) R.2 49 [(0, .ref (X.1 + 51)), (1, .int s.1), (2, .int s.2.1), (3, .int s.2.2.1), (4, .int s.2.2.2.1), (5, .int s.2.2.2.2.1), (6, .int s.2.2.2.2.2.1), (7, .int s.2.2.2.2.2.2.1)] [] s.2.2.2.2.2.2.2) {x1 : Int32} {x2 : Int32} {x3 : Int32} {x4 : Int32} {x5 : Int32} {x6 : Int32} {x7 : Int32} {S : gS} (h : bX8_grits_49 F k34 k49 x1 x2 x3 x4 x5 x6 x7 S = some R) : G X RX8 cX8_grits 9 (some .int) 5 (some (.int R.1)) R.2 49 [(0, .ref (X.1 + 51)), (1, .int x1), (2, .int x2), (3, .int x3), (4, .int x4), (5, .int x5), (6, .int x6), (7, .int x7)] [] S := by
  unfold bX8_grits_49 at h
  refine g_iload dX8_grits_49 7 rfl ?_
  refine g_bipush (v := 64) dX8_grits_51 (by decide) ?_
  refine g_icmp_ge (tgt := 140) dX8_grits_53 (by decide) (fun hc1 => ?_) (fun hc1 => ?_)
  · replace h := git hc1 h
    refine g_iload dX8_grits_140 5 rfl ?_
    refine g_iconst (v := -1) dX8_grits_142 (by decide) ?_
    refine g_icmp_eq (tgt := 154) dX8_grits_143 (by decide) (fun hc2 => ?_) (fun hc2 => ?_)
    · replace h := git hc2 h
      refine g_sub [0, 1, 2, 3, 4, 5] rfl ?_
      exact bX8_grits_154_ok H34 h
    · replace h := gif hc2 h
      refine g_aload_n dX8_grits_146 0 rfl rfl ?_
      refine g_getr dX8_grits_147 lk_X8_75 sf_51_33 ?_
      refine g_iload dX8_grits_150 5 rfl ?_
      refine g_iconst (v := 1) dX8_grits_152 (by decide) ?_
      obtain ⟨hv3, h⟩ := gchk h
      obtain ⟨S4, eS4, h⟩ := gle h
      refine g_zast dX8_grits_153 sa_72 hv3 eS4 ?_
      refine g_sub [0, 1, 2, 3, 4, 5] rfl ?_
      exact bX8_grits_154_ok H34 h
  · replace h := gif hc1 h
    refine g_aload_n dX8_grits_56 0 rfl rfl ?_
    refine g_getr dX8_grits_57 lk_X8_75 sf_51_33 ?_
    refine g_iload dX8_grits_60 7 rfl ?_
    obtain ⟨hv5, h⟩ := gchk h
    refine g_zald dX8_grits_62 sa_72 hv5 ?_
    refine g_if_ne (tgt := 90) dX8_grits_63 (by decide) (fun hc6 => ?_) (fun hc6 => ?_)
    · replace h := gif hc6 h
      exact bX8_grits_90_ok H34 H49 h
    · replace h := git hc6 h
      refine g_aload_n dX8_grits_66 0 rfl rfl ?_
      refine g_getr dX8_grits_67 lk_X8_34 sf_51_10 ?_
      refine g_iload dX8_grits_70 7 rfl ?_
      obtain ⟨hv7, h⟩ := gchk h
      refine g_iald dX8_grits_72 sa_60 hv7 ?_
      refine g_aload_n dX8_grits_73 0 rfl rfl ?_
      refine g_getr dX8_grits_74 lk_X8_52 sf_51_17 ?_
      refine g_iload dX8_grits_77 7 rfl ?_
      obtain ⟨hv8, h⟩ := gchk h
      refine g_iald dX8_grits_79 sa_66 hv8 ?_
      refine g_imul dX8_grits_80 ?_
      refine g_iload dX8_grits_81 6 rfl ?_
      refine g_icmp_le (tgt := 90) dX8_grits_83 (by decide) (fun hc9 => ?_) (fun hc9 => ?_)
      · replace h := git hc9 h
        exact bX8_grits_90_ok H34 H49 h
      · replace h := gif hc9 h
        refine g_iconst (v := 1) dX8_grits_86 (by decide) ?_
        refine g_goto (tgt := 91) dX8_grits_87 (by decide) ?_
        exact bX8_grits_91_ok H34 H49 h
noncomputable def bX8_grits_49l (F : Nat) (k34 : (Int32 × Int32 × Int32 × Int32 × gS) → Option (Int32 × gS)) : Nat → (Int32 × Int32 × Int32 × Int32 × Int32 × Int32 × Int32 × gS) → Option (Int32 × gS) := g_fix (fun k49 s => bX8_grits_49 F k34 k49 s.1 s.2.1 s.2.2.1 s.2.2.2.1 s.2.2.2.2.1 s.2.2.2.2.2.1 s.2.2.2.2.2.2.1 s.2.2.2.2.2.2.2)
theorem bX8_grits_49l_ok {X : gX} {F : Nat} {k34 : (Int32 × Int32 × Int32 × Int32 × gS) → Option (Int32 × gS)} {R : Int32 × gS} (H34 : ∀ s : Int32 × Int32 × Int32 × Int32 × gS, k34 s = some R → G X RX8 cX8_grits 9 (some .int) 5 (some (.int R.1)) R.2 34 [(0, .ref (X.1 + 51)), (1, .int s.1), (2, .int s.2.1), (3, .int s.2.2.1), (4, .int s.2.2.2.1)] [] s.2.2.2.2) : ∀ (n : Nat) (s : Int32 × Int32 × Int32 × Int32 × Int32 × Int32 × Int32 × gS), bX8_grits_49l F k34 n s = some R → G X RX8 cX8_grits 9 (some .int) 5 (some (.int R.1)) R.2 49 [(0, .ref (X.1 + 51)), (1, .int s.1), (2, .int s.2.1), (3, .int s.2.2.1), (4, .int s.2.2.2.1), (5, .int s.2.2.2.2.1), (6, .int s.2.2.2.2.2.1), (7, .int s.2.2.2.2.2.2.1)] [] s.2.2.2.2.2.2.2 := by
  intro n
  induction n with
  | zero => intro s h; cases h
  | succ n ih => intro s h; exact bX8_grits_49_ok (F := F) H34 ih h
noncomputable def bX8_grits_34 (F : Nat) (k34 : (Int32 × Int32 × Int32 × Int32 × gS) → Option (Int32 × gS)) (x1 : Int32) (x2 : Int32) (x3 : Int32) (x4 : Int32) (S : gS) : Option (Int32 × gS) := if x1 ≤ x4 then (some (x3, S)) else (bX8_grits_49l F k34 F (x1, x2, x3, x4, (-1 : Int32), (0 : Int32), (0 : Int32), S))
set_option maxRecDepth 20000 in
theorem bX8_grits_34_ok {X : gX} {F : Nat} {k34 : (Int32 × Int32 × Int32 × Int32 × gS) → Option (Int32 × gS)} {R : Int32 × gS} (H34 : ∀ s : Int32 × Int32 × Int32 × Int32 × gS, k34 s = some R → G X RX8 cX8_grits 9 (some .int) 5 (some (.int R.1)) R.2 34 [(0, .ref (X.1 + 51)), (1, .int s.1), (2, .int s.2.1), (3, .int s.2.2.1), (4, .int s.2.2.2.1)] [] s.2.2.2.2) {x1 : Int32} {x2 : Int32} {x3 : Int32} {x4 : Int32} {S : gS} (h : bX8_grits_34 F k34 x1 x2 x3 x4 S = some R) : G X RX8 cX8_grits 9 (some .int) 5 (some (.int R.1)) R.2 34 [(0, .ref (X.1 + 51)), (1, .int x1), (2, .int x2), (3, .int x3), (4, .int x4)] [] S := by
  unfold bX8_grits_34 at h
  refine g_iload dX8_grits_34 4 rfl ?_
  refine g_iload_n dX8_grits_36 1 rfl rfl ?_
  refine g_icmp_ge (tgt := 173) dX8_grits_37 (by decide) (fun hc1 => ?_) (fun hc1 => ?_)
  · replace h := git hc1 h
    refine g_iload_n dX8_grits_173 3 rfl rfl ?_
    obtain rfl := Option.some.inj h
    exact g_iret dX8_grits_174 rfl
  · replace h := gif hc1 h
    refine g_iconst (v := -1) dX8_grits_40 (by decide) ?_
    refine g_istore (lv' := [(5, .int (-1 : Int32)), (0, .ref (X.1 + 51)), (1, .int x1), (2, .int x2), (3, .int x3), (4, .int x4)]) dX8_grits_41 rfl (by decide) rfl ?_
    refine g_iconst (v := 0) dX8_grits_43 (by decide) ?_
    refine g_istore (lv' := [(6, .int (0 : Int32)), (5, .int (-1 : Int32)), (0, .ref (X.1 + 51)), (1, .int x1), (2, .int x2), (3, .int x3), (4, .int x4)]) dX8_grits_44 rfl (by decide) rfl ?_
    refine g_iconst (v := 0) dX8_grits_46 (by decide) ?_
    refine g_istore (lv' := [(7, .int (0 : Int32)), (6, .int (0 : Int32)), (5, .int (-1 : Int32)), (0, .ref (X.1 + 51)), (1, .int x1), (2, .int x2), (3, .int x3), (4, .int x4)]) dX8_grits_47 rfl (by decide) rfl ?_
    refine g_sub [3, 4, 5, 6, 7, 2, 1, 0] rfl ?_
    exact bX8_grits_49l_ok H34 F (x1, x2, x3, x4, (-1 : Int32), (0 : Int32), (0 : Int32), S) h
noncomputable def bX8_grits_34l (F : Nat) : Nat → (Int32 × Int32 × Int32 × Int32 × gS) → Option (Int32 × gS) := g_fix (fun k34 s => bX8_grits_34 F k34 s.1 s.2.1 s.2.2.1 s.2.2.2.1 s.2.2.2.2)
theorem bX8_grits_34l_ok {X : gX} {F : Nat} {R : Int32 × gS} : ∀ (n : Nat) (s : Int32 × Int32 × Int32 × Int32 × gS), bX8_grits_34l F n s = some R → G X RX8 cX8_grits 9 (some .int) 5 (some (.int R.1)) R.2 34 [(0, .ref (X.1 + 51)), (1, .int s.1), (2, .int s.2.1), (3, .int s.2.2.1), (4, .int s.2.2.2.1)] [] s.2.2.2.2 := by
  intro n
  induction n with
  | zero => intro s h; cases h
  | succ n ih => intro s h; exact bX8_grits_34_ok (F := F) ih h
noncomputable def bX8_grits_10 (F : Nat) (k10 : (Int32 × Int32 × Int32 × gS) → Option (Int32 × gS)) (x1 : Int32) (x2 : Int32) (x3 : Int32) (S : gS) : Option (Int32 × gS) := if (64 : Int32) ≤ x3 then (bX8_grits_34l F F (x1, x2, (-1 : Int32), (0 : Int32), S)) else (g_chk x3 64 (gl (g_setI S 72 (x3).toNatClampNeg (vp_nar .boolean (0 : Int32))) (fun S3 : gS => gl (x3 + 1) (fun v4 : Int32 => k10 (x1, x2, v4, S3)))))
set_option maxRecDepth 20000 in
theorem bX8_grits_10_ok {X : gX} {F : Nat} {k10 : (Int32 × Int32 × Int32 × gS) → Option (Int32 × gS)} {R : Int32 × gS} (H10 : ∀ s : Int32 × Int32 × Int32 × gS, k10 s = some R → G X RX8 cX8_grits 9 (some .int) 5 (some (.int R.1)) R.2 10 [(0, .ref (X.1 + 51)), (1, .int s.1), (2, .int s.2.1), (3, .int s.2.2.1)] [] s.2.2.2) {x1 : Int32} {x2 : Int32} {x3 : Int32} {S : gS} (h : bX8_grits_10 F k10 x1 x2 x3 S = some R) : G X RX8 cX8_grits 9 (some .int) 5 (some (.int R.1)) R.2 10 [(0, .ref (X.1 + 51)), (1, .int x1), (2, .int x2), (3, .int x3)] [] S := by
  unfold bX8_grits_10 at h
  refine g_iload_n dX8_grits_10 3 rfl rfl ?_
  refine g_bipush (v := 64) dX8_grits_11 (by decide) ?_
  refine g_icmp_ge (tgt := 29) dX8_grits_13 (by decide) (fun hc1 => ?_) (fun hc1 => ?_)
  · replace h := git hc1 h
    refine g_iconst (v := -1) dX8_grits_29 (by decide) ?_
    refine g_istore_n (lv' := [(3, .int (-1 : Int32)), (0, .ref (X.1 + 51)), (1, .int x1), (2, .int x2)]) dX8_grits_30 rfl rfl (by decide) rfl ?_
    refine g_iconst (v := 0) dX8_grits_31 (by decide) ?_
    refine g_istore (lv' := [(4, .int (0 : Int32)), (3, .int (-1 : Int32)), (0, .ref (X.1 + 51)), (1, .int x1), (2, .int x2)]) dX8_grits_32 rfl (by decide) rfl ?_
    refine g_sub [2, 3, 4, 1, 0] rfl ?_
    exact bX8_grits_34l_ok F (x1, x2, (-1 : Int32), (0 : Int32), S) h
  · replace h := gif hc1 h
    refine g_aload_n dX8_grits_16 0 rfl rfl ?_
    refine g_getr dX8_grits_17 lk_X8_75 sf_51_33 ?_
    refine g_iload_n dX8_grits_20 3 rfl rfl ?_
    refine g_iconst (v := 0) dX8_grits_21 (by decide) ?_
    obtain ⟨hv2, h⟩ := gchk h
    obtain ⟨S3, eS3, h⟩ := gle h
    refine g_zast dX8_grits_22 sa_72 hv2 eS3 ?_
    obtain ⟨v4, ev4, h⟩ := gle h
    refine g_iinc (q := 3) (v := v4) (lv' := [(3, .int v4), (0, .ref (X.1 + 51)), (1, .int x1), (2, .int x2)]) dX8_grits_23 rfl (by rw [← ev4]; rfl) (by decide) rfl ?_
    refine g_goto (tgt := 10) dX8_grits_26 (by decide) ?_
    refine g_sub [1, 2, 3, 0] rfl ?_
    exact H10 (x1, x2, v4, S3) h
noncomputable def bX8_grits_10l (F : Nat) : Nat → (Int32 × Int32 × Int32 × gS) → Option (Int32 × gS) := g_fix (fun k10 s => bX8_grits_10 F k10 s.1 s.2.1 s.2.2.1 s.2.2.2)
theorem bX8_grits_10l_ok {X : gX} {F : Nat} {R : Int32 × gS} : ∀ (n : Nat) (s : Int32 × Int32 × Int32 × gS), bX8_grits_10l F n s = some R → G X RX8 cX8_grits 9 (some .int) 5 (some (.int R.1)) R.2 10 [(0, .ref (X.1 + 51)), (1, .int s.1), (2, .int s.2.1), (3, .int s.2.2.1)] [] s.2.2.2 := by
  intro n
  induction n with
  | zero => intro s h; cases h
  | succ n ih => intro s h; exact bX8_grits_10_ok (F := F) ih h
noncomputable def fX8_grits (F : Nat) (a0 : Int32) (a1 : Int32) (S : gS) : Option (Int32 × gS) := (fX8_tries F S).bind (fun q1 : gS => (fX8_mornings F q1).bind (fun q2 : gS => bX8_grits_10l F F (a0, a1, (0 : Int32), q2)))
set_option maxRecDepth 20000 in
theorem fX8_grits_ok {X : gX} {F : Nat} {R : Int32 × gS} {a0 : Int32} {a1 : Int32} {S : gS} (h : fX8_grits F a0 a1 S = some R) : G X RX8 cX8_grits 9 (some .int) 5 (some (.int R.1)) R.2 0 [(0, .ref (X.1 + 51)), (1, .int a0), (2, .int a1)] [] S := by
  unfold fX8_grits at h
  refine g_aload_n dX8_grits_0 0 rfl rfl ?_
  obtain ⟨q1, hq1, h⟩ := gb h
  refine g_callVv [] [] dX8_grits_1 mk_X8_188 so_51 (ctX8_tries hq1) rfl (by decide) rfl (Nat.le_of_ble_eq_true rfl) ?_
  refine g_aload_n dX8_grits_4 0 rfl rfl ?_
  obtain ⟨q2, hq2, h⟩ := gb h
  refine g_callVv [] [] dX8_grits_5 mk_X8_218 so_51 (ctX8_mornings hq2) rfl (by decide) rfl (Nat.le_of_ble_eq_true rfl) ?_
  refine g_iconst (v := 0) dX8_grits_8 (by decide) ?_
  refine g_istore_n (lv' := [(3, .int (0 : Int32)), (0, .ref (X.1 + 51)), (1, .int a0), (2, .int a1)]) dX8_grits_9 rfl rfl (by decide) rfl ?_
  refine g_sub [1, 2, 3, 0] rfl ?_
  exact bX8_grits_10l_ok F (a0, a1, (0 : Int32), q2) h
theorem ctX8_grits {X : gX} {F : Nat} {R : Int32 × gS} {a0 : Int32} {a1 : Int32} {S : gS} (h : fX8_grits F a0 a1 S = some R) : g_C X yX8_grits cX8_grits 9 (some .int) 5 [.ref (X.1 + 51), .int a0, .int a1] S (some (.int R.1)) R.2 :=
  g_met (by decide) (Nat.le_of_ble_eq_true rfl) (fX8_grits_ok h)
noncomputable def bX8_part_6 (F : Nat) (k6 : (Int64 × Int64 × Int32 × Int64 × Int64 × gS) → Option (Int64 × gS)) (x0 : Int64) (x2 : Int64) (x4 : Int32) (x5 : Int64) (x7 : Int64) (S : gS) : Option (Int64 × gS) := if (lg_cmp x7 (0 : Int64)) = 0 then (if x4 = 0 then (g_nzl x5 (some ((x0 / x5), S))) else (g_nzl x5 (some ((x2 / x5), S)))) else (g_nzl x7 (gl (x5 - x5 / x7 * x7) (fun v6 : Int64 => k6 (x0, x2, x4, x7, v6, S))))
set_option maxRecDepth 20000 in
theorem bX8_part_6_ok {X : gX} {F : Nat} {k6 : (Int64 × Int64 × Int32 × Int64 × Int64 × gS) → Option (Int64 × gS)} {R : Int64 × gS} (H6 : ∀ s : Int64 × Int64 × Int32 × Int64 × Int64 × gS, k6 s = some R → G X RX8 cX8_part 11 (some .long) 0 (some (.long R.1)) R.2 6 [(0, .long s.1), (2, .long s.2.1), (4, .int s.2.2.1), (5, .long s.2.2.2.1), (7, .long s.2.2.2.2.1)] [] s.2.2.2.2.2) {x0 : Int64} {x2 : Int64} {x4 : Int32} {x5 : Int64} {x7 : Int64} {S : gS} (h : bX8_part_6 F k6 x0 x2 x4 x5 x7 S = some R) : G X RX8 cX8_part 11 (some .long) 0 (some (.long R.1)) R.2 6 [(0, .long x0), (2, .long x2), (4, .int x4), (5, .long x5), (7, .long x7)] [] S := by
  unfold bX8_part_6 at h
  refine g_lload dX8_part_6 4 rfl ?_
  refine g_lconst (v := 0) dX8_part_8 (by decide) ?_
  refine g_lcmp dX8_part_9 ?_
  refine g_if_eq (tgt := 31) dX8_part_10 (by decide) (fun hc1 => ?_) (fun hc1 => ?_)
  · replace h := git hc1 h
    refine g_iload dX8_part_31 2 rfl ?_
    refine g_if_ne (tgt := 40) dX8_part_33 (by decide) (fun hc2 => ?_) (fun hc2 => ?_)
    · replace h := gif hc2 h
      refine g_lload_n dX8_part_40 1 rfl rfl ?_
      refine g_lload dX8_part_41 3 rfl ?_
      obtain ⟨hz3, h⟩ := gnzl h
      refine g_ldiv dX8_part_43 hz3 ?_
      obtain rfl := Option.some.inj h
      exact g_lret dX8_part_44 rfl
    · replace h := git hc2 h
      refine g_lload_n dX8_part_36 0 rfl rfl ?_
      refine g_goto (tgt := 41) dX8_part_37 (by decide) ?_
      refine g_lload dX8_part_41 3 rfl ?_
      obtain ⟨hz4, h⟩ := gnzl h
      refine g_ldiv dX8_part_43 hz4 ?_
      obtain rfl := Option.some.inj h
      exact g_lret dX8_part_44 rfl
  · replace h := gif hc1 h
    refine g_lload dX8_part_13 3 rfl ?_
    refine g_lload dX8_part_15 4 rfl ?_
    obtain ⟨hz5, h⟩ := gnzl h
    refine g_lrem dX8_part_17 hz5 ?_
    obtain ⟨v6, ev6, h⟩ := gle h
    refine g_lstore (lv' := [(9, .long v6), (0, .long x0), (2, .long x2), (4, .int x4), (5, .long x5), (7, .long x7)]) dX8_part_18 ev6 (by decide) rfl ?_
    refine g_lload dX8_part_20 5 rfl ?_
    refine g_lstore (lv' := [(5, .long x7), (9, .long v6), (0, .long x0), (2, .long x2), (4, .int x4), (7, .long x7)]) dX8_part_22 rfl (by decide) rfl ?_
    refine g_lload dX8_part_24 1 rfl ?_
    refine g_lstore (lv' := [(7, .long v6), (5, .long x7), (9, .long v6), (0, .long x0), (2, .long x2), (4, .int x4)]) dX8_part_26 rfl (by decide) rfl ?_
    refine g_goto (tgt := 6) dX8_part_28 (by decide) ?_
    refine g_sub [3, 4, 5, 1, 0] rfl ?_
    exact H6 (x0, x2, x4, x7, v6, S) h
noncomputable def bX8_part_6l (F : Nat) : Nat → (Int64 × Int64 × Int32 × Int64 × Int64 × gS) → Option (Int64 × gS) := g_fix (fun k6 s => bX8_part_6 F k6 s.1 s.2.1 s.2.2.1 s.2.2.2.1 s.2.2.2.2.1 s.2.2.2.2.2)
theorem bX8_part_6l_ok {X : gX} {F : Nat} {R : Int64 × gS} : ∀ (n : Nat) (s : Int64 × Int64 × Int32 × Int64 × Int64 × gS), bX8_part_6l F n s = some R → G X RX8 cX8_part 11 (some .long) 0 (some (.long R.1)) R.2 6 [(0, .long s.1), (2, .long s.2.1), (4, .int s.2.2.1), (5, .long s.2.2.2.1), (7, .long s.2.2.2.2.1)] [] s.2.2.2.2.2 := by
  intro n
  induction n with
  | zero => intro s h; cases h
  | succ n ih => intro s h; exact bX8_part_6_ok (F := F) ih h
noncomputable def fX8_part (F : Nat) (a0 : Int64) (a1 : Int64) (a2 : Int32) (S : gS) : Option (Int64 × gS) := bX8_part_6l F F (a0, a1, a2, a0, a1, S)
set_option maxRecDepth 20000 in
theorem fX8_part_ok {X : gX} {F : Nat} {R : Int64 × gS} {a0 : Int64} {a1 : Int64} {a2 : Int32} {S : gS} (h : fX8_part F a0 a1 a2 S = some R) : G X RX8 cX8_part 11 (some .long) 0 (some (.long R.1)) R.2 0 [(0, .long a0), (2, .long a1), (4, .int a2)] [] S := by
  unfold fX8_part at h
  refine g_lload_n dX8_part_0 0 rfl rfl ?_
  refine g_lstore (lv' := [(5, .long a0), (0, .long a0), (2, .long a1), (4, .int a2)]) dX8_part_1 rfl (by decide) rfl ?_
  refine g_lload_n dX8_part_3 2 rfl rfl ?_
  refine g_lstore (lv' := [(7, .long a1), (5, .long a0), (0, .long a0), (2, .long a1), (4, .int a2)]) dX8_part_4 rfl (by decide) rfl ?_
  refine g_sub [2, 3, 4, 1, 0] rfl ?_
  exact bX8_part_6l_ok F (a0, a1, a2, a0, a1, S) h
theorem ctX8_part {X : gX} {F : Nat} {R : Int64 × gS} {a0 : Int64} {a1 : Int64} {a2 : Int32} {S : gS} (h : fX8_part F a0 a1 a2 S = some R) : g_C X yX8_part cX8_part 11 (some .long) 0 [.long a0, .long a1, .int a2] S (some (.long R.1)) R.2 :=
  g_met (by decide) (Nat.le_of_ble_eq_true rfl) (fX8_part_ok h)
noncomputable def bX8_leftOf_51 (F : Nat) (k12 : (Int32 × Int64 × Int32 × gS) → Option (Int64 × gS)) (x2 : Int32) (x5 : Int32) (t0 : Int64) (t1 : Int64) (S : gS) : Option (Int64 × gS) := gl (t1 + t0) (fun v1 : Int64 => gl (x5 + 1) (fun v2 : Int32 => k12 (x2, v1, v2, S)))
set_option maxRecDepth 20000 in
theorem bX8_leftOf_51_ok {X : gX} {F : Nat} {k12 : (Int32 × Int64 × Int32 × gS) → Option (Int64 × gS)} {R : Int64 × gS} (H12 : ∀ s : Int32 × Int64 × Int32 × gS, k12 s = some R → G X RX8 cX8_leftOf 6 (some .long) 6 (some (.long R.1)) R.2 12 [(0, .ref (X.1 + 51)), (2, .int s.1), (3, .long s.2.1), (5, .int s.2.2.1)] [] s.2.2.2) {x2 : Int32} {x5 : Int32} {t0 : Int64} {t1 : Int64} {S : gS} (h : bX8_leftOf_51 F k12 x2 x5 t0 t1 S = some R) : G X RX8 cX8_leftOf 6 (some .long) 6 (some (.long R.1)) R.2 51 [(0, .ref (X.1 + 51)), (2, .int x2), (5, .int x5)] [.long t0, .long t1] S := by
  unfold bX8_leftOf_51 at h
  refine g_ladd dX8_leftOf_51 ?_
  obtain ⟨v1, ev1, h⟩ := gle h
  refine g_lstore_n (lv' := [(3, .long v1), (0, .ref (X.1 + 51)), (2, .int x2), (5, .int x5)]) dX8_leftOf_52 ev1 rfl (by decide) rfl ?_
  obtain ⟨v2, ev2, h⟩ := gle h
  refine g_iinc (q := 3) (v := v2) (lv' := [(5, .int v2), (3, .long v1), (0, .ref (X.1 + 51)), (2, .int x2)]) dX8_leftOf_53 rfl (by rw [← ev2]; rfl) (by decide) rfl ?_
  refine g_goto (tgt := 12) dX8_leftOf_56 (by decide) ?_
  refine g_sub [2, 3, 1, 0] rfl ?_
  exact H12 (x2, v1, v2, S) h
noncomputable def bX8_leftOf_12 (F : Nat) (k12 : (Int32 × Int64 × Int32 × gS) → Option (Int64 × gS)) (x2 : Int32) (x3 : Int64) (x5 : Int32) (S : gS) : Option (Int64 × gS) := if (64 : Int32) ≤ x5 then ((fX8_part F x3 (30 : Int64) x2 S).bind (fun q2 : Int64 × gS => some (q2.1, q2.2))) else (g_chk x5 64 (if (g_I S 72 (x5).toNatClampNeg) = 0 then (g_chk x5 64 (g_chk x5 64 (bX8_leftOf_51 F k12 x2 x5 (((g_I S 60 (x5).toNatClampNeg)).toInt64 * ((g_I S 66 (x5).toNatClampNeg)).toInt64) x3 S))) else (bX8_leftOf_51 F k12 x2 x5 (0 : Int64) x3 S)))
set_option maxRecDepth 20000 in
theorem bX8_leftOf_12_ok {X : gX} {F : Nat} {k12 : (Int32 × Int64 × Int32 × gS) → Option (Int64 × gS)} {R : Int64 × gS} (H12 : ∀ s : Int32 × Int64 × Int32 × gS, k12 s = some R → G X RX8 cX8_leftOf 6 (some .long) 6 (some (.long R.1)) R.2 12 [(0, .ref (X.1 + 51)), (2, .int s.1), (3, .long s.2.1), (5, .int s.2.2.1)] [] s.2.2.2) {x2 : Int32} {x3 : Int64} {x5 : Int32} {S : gS} (h : bX8_leftOf_12 F k12 x2 x3 x5 S = some R) : G X RX8 cX8_leftOf 6 (some .long) 6 (some (.long R.1)) R.2 12 [(0, .ref (X.1 + 51)), (2, .int x2), (3, .long x3), (5, .int x5)] [] S := by
  unfold bX8_leftOf_12 at h
  refine g_iload dX8_leftOf_12 3 rfl ?_
  refine g_bipush (v := 64) dX8_leftOf_14 (by decide) ?_
  refine g_icmp_ge (tgt := 59) dX8_leftOf_16 (by decide) (fun hc1 => ?_) (fun hc1 => ?_)
  · replace h := git hc1 h
    refine g_lload_n dX8_leftOf_59 2 rfl rfl ?_
    refine g_ldc2 dX8_leftOf_60 ck_X8_144 ?_
    refine g_iload_n dX8_leftOf_63 1 rfl rfl ?_
    obtain ⟨q2, hq2, h⟩ := gb h
    refine g_callSl [.long x3, .long (30 : Int64), .int x2] [] dX8_leftOf_64 mk_X8_266 (ctX8_part hq2) rfl (by decide) rfl (Nat.le_of_ble_eq_true rfl) ?_
    obtain rfl := Option.some.inj h
    exact g_lret dX8_leftOf_67 rfl
  · replace h := gif hc1 h
    refine g_lload_n dX8_leftOf_19 2 rfl rfl ?_
    refine g_aload_n dX8_leftOf_20 0 rfl rfl ?_
    refine g_getr dX8_leftOf_21 lk_X8_75 sf_51_33 ?_
    refine g_iload dX8_leftOf_24 3 rfl ?_
    obtain ⟨hv3, h⟩ := gchk h
    refine g_zald dX8_leftOf_26 sa_72 hv3 ?_
    refine g_if_eq (tgt := 34) dX8_leftOf_27 (by decide) (fun hc4 => ?_) (fun hc4 => ?_)
    · replace h := git hc4 h
      refine g_aload_n dX8_leftOf_34 0 rfl rfl ?_
      refine g_getr dX8_leftOf_35 lk_X8_34 sf_51_10 ?_
      refine g_iload dX8_leftOf_38 3 rfl ?_
      obtain ⟨hv5, h⟩ := gchk h
      refine g_iald dX8_leftOf_40 sa_60 hv5 ?_
      refine g_i2l dX8_leftOf_41 ?_
      refine g_aload_n dX8_leftOf_42 0 rfl rfl ?_
      refine g_getr dX8_leftOf_43 lk_X8_52 sf_51_17 ?_
      refine g_iload dX8_leftOf_46 3 rfl ?_
      obtain ⟨hv6, h⟩ := gchk h
      refine g_iald dX8_leftOf_48 sa_66 hv6 ?_
      refine g_i2l dX8_leftOf_49 ?_
      refine g_lmul dX8_leftOf_50 ?_
      refine g_sub [0, 1, 3] rfl ?_
      exact bX8_leftOf_51_ok H12 h
    · replace h := gif hc4 h
      refine g_lconst (v := 0) dX8_leftOf_30 (by decide) ?_
      refine g_goto (tgt := 51) dX8_leftOf_31 (by decide) ?_
      refine g_sub [0, 1, 3] rfl ?_
      exact bX8_leftOf_51_ok H12 h
noncomputable def bX8_leftOf_12l (F : Nat) : Nat → (Int32 × Int64 × Int32 × gS) → Option (Int64 × gS) := g_fix (fun k12 s => bX8_leftOf_12 F k12 s.1 s.2.1 s.2.2.1 s.2.2.2)
theorem bX8_leftOf_12l_ok {X : gX} {F : Nat} {R : Int64 × gS} : ∀ (n : Nat) (s : Int32 × Int64 × Int32 × gS), bX8_leftOf_12l F n s = some R → G X RX8 cX8_leftOf 6 (some .long) 6 (some (.long R.1)) R.2 12 [(0, .ref (X.1 + 51)), (2, .int s.1), (3, .long s.2.1), (5, .int s.2.2.1)] [] s.2.2.2 := by
  intro n
  induction n with
  | zero => intro s h; cases h
  | succ n ih => intro s h; exact bX8_leftOf_12_ok (F := F) ih h
noncomputable def fX8_leftOf (F : Nat) (a0 : Int32) (a1 : Int32) (S : gS) : Option (Int64 × gS) := (fX8_grits F a0 (-1 : Int32) S).bind (fun q1 : Int32 × gS => bX8_leftOf_12l F F (a1, (0 : Int64), (0 : Int32), q1.2))
set_option maxRecDepth 20000 in
theorem fX8_leftOf_ok {X : gX} {F : Nat} {R : Int64 × gS} {a0 : Int32} {a1 : Int32} {S : gS} (h : fX8_leftOf F a0 a1 S = some R) : G X RX8 cX8_leftOf 6 (some .long) 6 (some (.long R.1)) R.2 0 [(0, .ref (X.1 + 51)), (1, .int a0), (2, .int a1)] [] S := by
  unfold fX8_leftOf at h
  refine g_aload_n dX8_leftOf_0 0 rfl rfl ?_
  refine g_iload_n dX8_leftOf_1 1 rfl rfl ?_
  refine g_iconst (v := -1) dX8_leftOf_2 (by decide) ?_
  obtain ⟨q1, hq1, h⟩ := gb h
  refine g_callVi [.int a0, .int (-1 : Int32)] [] dX8_leftOf_3 mk_X8_263 so_51 (ctX8_grits hq1) rfl (by decide) rfl (Nat.le_of_ble_eq_true rfl) ?_
  refine g_pop dX8_leftOf_6 rfl ?_
  refine g_lconst (v := 0) dX8_leftOf_7 (by decide) ?_
  refine g_lstore_n (lv' := [(3, .long (0 : Int64)), (0, .ref (X.1 + 51)), (1, .int a0), (2, .int a1)]) dX8_leftOf_8 rfl rfl (by decide) rfl ?_
  refine g_iconst (v := 0) dX8_leftOf_9 (by decide) ?_
  refine g_istore (lv' := [(5, .int (0 : Int32)), (3, .long (0 : Int64)), (0, .ref (X.1 + 51)), (1, .int a0), (2, .int a1)]) dX8_leftOf_10 rfl (by decide) rfl ?_
  refine g_sub [2, 4, 1, 0] rfl ?_
  exact bX8_leftOf_12l_ok F (a1, (0 : Int64), (0 : Int32), q1.2) h
theorem ctX8_leftOf {X : gX} {F : Nat} {R : Int64 × gS} {a0 : Int32} {a1 : Int32} {S : gS} (h : fX8_leftOf F a0 a1 S = some R) : g_C X yX8_leftOf cX8_leftOf 6 (some .long) 6 [.ref (X.1 + 51), .int a0, .int a1] S (some (.long R.1)) R.2 :=
  g_met (by decide) (Nat.le_of_ble_eq_true rfl) (fX8_leftOf_ok h)
noncomputable def fX8_falls (F : Nat) (a0 : Int32) (S : gS) : Option (Int64 × gS) := (fX8_isTwo F a0 S).bind (fun q1 : Int32 × gS => if q1.1 = 0 then ((fX8_no F (-2 : Int32) q1.2).bind (fun q3 : Int64 × gS => some (q3.1, q3.2))) else ((fX8_leftOf F (0 : Int32) a0 q1.2).bind (fun q4 : Int64 × gS => some (q4.1, q4.2))))
set_option maxRecDepth 20000 in
theorem fX8_falls_ok {X : gX} {F : Nat} {R : Int64 × gS} {a0 : Int32} {S : gS} (h : fX8_falls F a0 S = some R) : G X RX8 cX8_falls 2 (some .long) 7 (some (.long R.1)) R.2 0 [(0, .ref (X.1 + 51)), (1, .int a0)] [] S := by
  unfold fX8_falls at h
  refine g_iload_n dX8_falls_0 1 rfl rfl ?_
  obtain ⟨q1, hq1, h⟩ := gb h
  refine g_callSi [.int a0] [] dX8_falls_1 mk_X8_245 (ctX8_isTwo hq1) rfl (by decide) rfl (Nat.le_of_ble_eq_true rfl) ?_
  refine g_if_eq (tgt := 16) dX8_falls_4 (by decide) (fun hc2 => ?_) (fun hc2 => ?_)
  · replace h := git hc2 h
    refine g_bipush (v := -2) dX8_falls_16 (by decide) ?_
    obtain ⟨q3, hq3, h⟩ := gb h
    refine g_callSl [.int (-2 : Int32)] [] dX8_falls_18 mk_X8_274 (ctX8_no hq3) rfl (by decide) rfl (Nat.le_of_ble_eq_true rfl) ?_
    obtain rfl := Option.some.inj h
    exact g_lret dX8_falls_21 rfl
  · replace h := gif hc2 h
    refine g_aload_n dX8_falls_7 0 rfl rfl ?_
    refine g_iconst (v := 0) dX8_falls_8 (by decide) ?_
    refine g_iload_n dX8_falls_9 1 rfl rfl ?_
    obtain ⟨q4, hq4, h⟩ := gb h
    refine g_callVl [.int (0 : Int32), .int a0] [] dX8_falls_10 mk_X8_270 so_51 (ctX8_leftOf hq4) rfl (by decide) rfl (Nat.le_of_ble_eq_true rfl) ?_
    refine g_goto (tgt := 21) dX8_falls_13 (by decide) ?_
    obtain rfl := Option.some.inj h
    exact g_lret dX8_falls_21 rfl
theorem ctX8_falls {X : gX} {F : Nat} {R : Int64 × gS} {a0 : Int32} {S : gS} (h : fX8_falls F a0 S = some R) : g_C X yX8_falls cX8_falls 2 (some .long) 7 [.ref (X.1 + 51), .int a0] S (some (.long R.1)) R.2 :=
  g_met (by decide) (Nat.le_of_ble_eq_true rfl) (fX8_falls_ok h)
noncomputable def fX8_isGrit (F : Nat) (a0 : Int32) (S : gS) : Option (Int32 × gS) := (fX8_in F ((a0).toInt64) (0 : Int64) (8 : Int64) S).bind (fun q1 : Int32 × gS => g_bo q1.1 (some (q1.1, q1.2)))
set_option maxRecDepth 20000 in
theorem fX8_isGrit_ok {X : gX} {F : Nat} {R : Int32 × gS} {a0 : Int32} {S : gS} (h : fX8_isGrit F a0 S = some R) : G X RX8 cX8_isGrit 1 (some .boolean) 1 (some (.int R.1)) R.2 0 [(0, .int a0)] [] S := by
  unfold fX8_isGrit at h
  refine g_iload_n dX8_isGrit_0 0 rfl rfl ?_
  refine g_i2l dX8_isGrit_1 ?_
  refine g_lconst (v := 0) dX8_isGrit_2 (by decide) ?_
  refine g_ldc2 dX8_isGrit_3 ck_X8_278 ?_
  obtain ⟨q1, hq1, h⟩ := gb h
  refine g_callSi [.long ((a0).toInt64), .long (0 : Int64), .long (8 : Int64)] [] dX8_isGrit_6 mk_X8_80 (ctX8_in hq1) rfl (by decide) rfl (Nat.le_of_ble_eq_true rfl) ?_
  obtain ⟨hb2, h⟩ := gbo h
  obtain rfl := Option.some.inj h
  exact g_zret dX8_isGrit_9 rfl hb2
theorem ctX8_isGrit {X : gX} {F : Nat} {R : Int32 × gS} {a0 : Int32} {S : gS} (h : fX8_isGrit F a0 S = some R) : g_C X yX8_isGrit cX8_isGrit 1 (some .boolean) 1 [.int a0] S (some (.int R.1)) R.2 :=
  g_met (by decide) (Nat.le_of_ble_eq_true rfl) (fX8_isGrit_ok h)
noncomputable def fX8_grit (F : Nat) (a0 : Int32) (a1 : Int32) (S : gS) : Option (Int32 × gS) := (fX8_isGrit F a0 S).bind (fun q1 : Int32 × gS => if q1.1 = 0 then (some ((-2 : Int32), q1.2)) else (if a1 < 0 then (some ((-2 : Int32), q1.2)) else ((fX8_grits F a0 a1 q1.2).bind (fun q4 : Int32 × gS => some (q4.1, q4.2)))))
set_option maxRecDepth 20000 in
theorem fX8_grit_ok {X : gX} {F : Nat} {R : Int32 × gS} {a0 : Int32} {a1 : Int32} {S : gS} (h : fX8_grit F a0 a1 S = some R) : G X RX8 cX8_grit 3 (some .int) 6 (some (.int R.1)) R.2 0 [(0, .ref (X.1 + 51)), (1, .int a0), (2, .int a1)] [] S := by
  unfold fX8_grit at h
  refine g_iload_n dX8_grit_0 1 rfl rfl ?_
  obtain ⟨q1, hq1, h⟩ := gb h
  refine g_callSi [.int a0] [] dX8_grit_1 mk_X8_280 (ctX8_isGrit hq1) rfl (by decide) rfl (Nat.le_of_ble_eq_true rfl) ?_
  refine g_if_eq (tgt := 20) dX8_grit_4 (by decide) (fun hc2 => ?_) (fun hc2 => ?_)
  · replace h := git hc2 h
    refine g_bipush (v := -2) dX8_grit_20 (by decide) ?_
    obtain rfl := Option.some.inj h
    exact g_iret dX8_grit_22 rfl
  · replace h := gif hc2 h
    refine g_iload_n dX8_grit_7 2 rfl rfl ?_
    refine g_if_lt (tgt := 20) dX8_grit_8 (by decide) (fun hc3 => ?_) (fun hc3 => ?_)
    · replace h := git hc3 h
      refine g_bipush (v := -2) dX8_grit_20 (by decide) ?_
      obtain rfl := Option.some.inj h
      exact g_iret dX8_grit_22 rfl
    · replace h := gif hc3 h
      refine g_aload_n dX8_grit_11 0 rfl rfl ?_
      refine g_iload_n dX8_grit_12 1 rfl rfl ?_
      refine g_iload_n dX8_grit_13 2 rfl rfl ?_
      obtain ⟨q4, hq4, h⟩ := gb h
      refine g_callVi [.int a0, .int a1] [] dX8_grit_14 mk_X8_263 so_51 (ctX8_grits hq4) rfl (by decide) rfl (Nat.le_of_ble_eq_true rfl) ?_
      refine g_goto (tgt := 22) dX8_grit_17 (by decide) ?_
      obtain rfl := Option.some.inj h
      exact g_iret dX8_grit_22 rfl
theorem ctX8_grit {X : gX} {F : Nat} {R : Int32 × gS} {a0 : Int32} {a1 : Int32} {S : gS} (h : fX8_grit F a0 a1 S = some R) : g_C X yX8_grit cX8_grit 3 (some .int) 6 [.ref (X.1 + 51), .int a0, .int a1] S (some (.int R.1)) R.2 :=
  g_met (by decide) (Nat.le_of_ble_eq_true rfl) (fX8_grit_ok h)
noncomputable def bX8_left_23 (F : Nat) (S : gS) : Option (Int64 × gS) := (fX8_no F (-2 : Int32) S).bind (fun q1 : Int64 × gS => some (q1.1, q1.2))
set_option maxRecDepth 20000 in
theorem bX8_left_23_ok {X : gX} {F : Nat} {R : Int64 × gS} {S : gS} (h : bX8_left_23 F S = some R) : G X RX8 cX8_left 3 (some .long) 7 (some (.long R.1)) R.2 23 [] [] S := by
  unfold bX8_left_23 at h
  refine g_bipush (v := -2) dX8_left_23 (by decide) ?_
  obtain ⟨q1, hq1, h⟩ := gb h
  refine g_callSl [.int (-2 : Int32)] [] dX8_left_25 mk_X8_274 (ctX8_no hq1) rfl (by decide) rfl (Nat.le_of_ble_eq_true rfl) ?_
  obtain rfl := Option.some.inj h
  exact g_lret dX8_left_28 rfl
noncomputable def fX8_left (F : Nat) (a0 : Int32) (a1 : Int32) (S : gS) : Option (Int64 × gS) := (fX8_isGrit F a0 S).bind (fun q1 : Int32 × gS => if q1.1 = 0 then (bX8_left_23 F q1.2) else ((fX8_isTwo F a1 q1.2).bind (fun q3 : Int32 × gS => if q3.1 = 0 then (bX8_left_23 F q3.2) else ((fX8_leftOf F a0 a1 q3.2).bind (fun q5 : Int64 × gS => some (q5.1, q5.2))))))
set_option maxRecDepth 20000 in
theorem fX8_left_ok {X : gX} {F : Nat} {R : Int64 × gS} {a0 : Int32} {a1 : Int32} {S : gS} (h : fX8_left F a0 a1 S = some R) : G X RX8 cX8_left 3 (some .long) 7 (some (.long R.1)) R.2 0 [(0, .ref (X.1 + 51)), (1, .int a0), (2, .int a1)] [] S := by
  unfold fX8_left at h
  refine g_iload_n dX8_left_0 1 rfl rfl ?_
  obtain ⟨q1, hq1, h⟩ := gb h
  refine g_callSi [.int a0] [] dX8_left_1 mk_X8_280 (ctX8_isGrit hq1) rfl (by decide) rfl (Nat.le_of_ble_eq_true rfl) ?_
  refine g_if_eq (tgt := 23) dX8_left_4 (by decide) (fun hc2 => ?_) (fun hc2 => ?_)
  · replace h := git hc2 h
    refine g_sub [] rfl ?_
    exact bX8_left_23_ok h
  · replace h := gif hc2 h
    refine g_iload_n dX8_left_7 2 rfl rfl ?_
    obtain ⟨q3, hq3, h⟩ := gb h
    refine g_callSi [.int a1] [] dX8_left_8 mk_X8_245 (ctX8_isTwo hq3) rfl (by decide) rfl (Nat.le_of_ble_eq_true rfl) ?_
    refine g_if_eq (tgt := 23) dX8_left_11 (by decide) (fun hc4 => ?_) (fun hc4 => ?_)
    · replace h := git hc4 h
      refine g_sub [] rfl ?_
      exact bX8_left_23_ok h
    · replace h := gif hc4 h
      refine g_aload_n dX8_left_14 0 rfl rfl ?_
      refine g_iload_n dX8_left_15 1 rfl rfl ?_
      refine g_iload_n dX8_left_16 2 rfl rfl ?_
      obtain ⟨q5, hq5, h⟩ := gb h
      refine g_callVl [.int a0, .int a1] [] dX8_left_17 mk_X8_270 so_51 (ctX8_leftOf hq5) rfl (by decide) rfl (Nat.le_of_ble_eq_true rfl) ?_
      refine g_goto (tgt := 28) dX8_left_20 (by decide) ?_
      obtain rfl := Option.some.inj h
      exact g_lret dX8_left_28 rfl
theorem ctX8_left {X : gX} {F : Nat} {R : Int64 × gS} {a0 : Int32} {a1 : Int32} {S : gS} (h : fX8_left F a0 a1 S = some R) : g_C X yX8_left cX8_left 3 (some .long) 7 [.ref (X.1 + 51), .int a0, .int a1] S (some (.long R.1)) R.2 :=
  g_met (by decide) (Nat.le_of_ble_eq_true rfl) (fX8_left_ok h)
noncomputable def bX8_isPicture_43 (F : Nat) (k4 : (Int32 × Int32 × Int32 × gS) → Option (Int32 × gS)) (x1 : Int32) (x3 : Int32) (t0 : Int32) (S : gS) : Option (Int32 × gS) := gl (x3 + 1) (fun v1 : Int32 => k4 (x1, t0, v1, S))
set_option maxRecDepth 20000 in
theorem bX8_isPicture_43_ok {X : gX} {F : Nat} {k4 : (Int32 × Int32 × Int32 × gS) → Option (Int32 × gS)} {R : Int32 × gS} (H4 : ∀ s : Int32 × Int32 × Int32 × gS, k4 s = some R → G X RX8 cX8_isPicture 4 (some .boolean) 0 (some (.int R.1)) R.2 4 [(0, .ref (X.1 + 51)), (1, .int s.1), (2, .int s.2.1), (3, .int s.2.2.1)] [] s.2.2.2) {x1 : Int32} {x3 : Int32} {t0 : Int32} {S : gS} (h : bX8_isPicture_43 F k4 x1 x3 t0 S = some R) : G X RX8 cX8_isPicture 4 (some .boolean) 0 (some (.int R.1)) R.2 43 [(0, .ref (X.1 + 51)), (1, .int x1), (3, .int x3)] [.int t0] S := by
  unfold bX8_isPicture_43 at h
  refine g_istore_n (lv' := [(2, .int t0), (0, .ref (X.1 + 51)), (1, .int x1), (3, .int x3)]) dX8_isPicture_43 rfl rfl (by decide) rfl ?_
  obtain ⟨v1, ev1, h⟩ := gle h
  refine g_iinc (q := 3) (v := v1) (lv' := [(3, .int v1), (2, .int t0), (0, .ref (X.1 + 51)), (1, .int x1)]) dX8_isPicture_44 rfl (by rw [← ev1]; rfl) (by decide) rfl ?_
  refine g_goto (tgt := 4) dX8_isPicture_47 (by decide) ?_
  refine g_sub [2, 3, 1, 0] rfl ?_
  exact H4 (x1, t0, v1, S) h
noncomputable def bX8_isPicture_42 (F : Nat) (k4 : (Int32 × Int32 × Int32 × gS) → Option (Int32 × gS)) (x1 : Int32) (x3 : Int32) (S : gS) : Option (Int32 × gS) := bX8_isPicture_43 F k4 x1 x3 (0 : Int32) S
set_option maxRecDepth 20000 in
theorem bX8_isPicture_42_ok {X : gX} {F : Nat} {k4 : (Int32 × Int32 × Int32 × gS) → Option (Int32 × gS)} {R : Int32 × gS} (H4 : ∀ s : Int32 × Int32 × Int32 × gS, k4 s = some R → G X RX8 cX8_isPicture 4 (some .boolean) 0 (some (.int R.1)) R.2 4 [(0, .ref (X.1 + 51)), (1, .int s.1), (2, .int s.2.1), (3, .int s.2.2.1)] [] s.2.2.2) {x1 : Int32} {x3 : Int32} {S : gS} (h : bX8_isPicture_42 F k4 x1 x3 S = some R) : G X RX8 cX8_isPicture 4 (some .boolean) 0 (some (.int R.1)) R.2 42 [(0, .ref (X.1 + 51)), (1, .int x1), (3, .int x3)] [] S := by
  unfold bX8_isPicture_42 at h
  refine g_iconst (v := 0) dX8_isPicture_42 (by decide) ?_
  exact bX8_isPicture_43_ok H4 h
noncomputable def bX8_isPicture_4 (F : Nat) (k4 : (Int32 × Int32 × Int32 × gS) → Option (Int32 × gS)) (x1 : Int32) (x2 : Int32) (x3 : Int32) (S : gS) : Option (Int32 × gS) := g_chk x1 4 (if (g_I S 53 (x1).toNatClampNeg) ≤ x3 then (g_bo x2 (some (x2, S))) else (if x2 = 0 then (bX8_isPicture_42 F k4 x1 x3 S) else (g_chk (((64 : Int32) * x1) + x3) 256 (g_chk x3 64 (if (g_I S 54 ((((64 : Int32) * x1) + x3)).toNatClampNeg) = (g_I S 66 (x3).toNatClampNeg) then (bX8_isPicture_43 F k4 x1 x3 (1 : Int32) S) else (bX8_isPicture_42 F k4 x1 x3 S))))))
set_option maxRecDepth 20000 in
theorem bX8_isPicture_4_ok {X : gX} {F : Nat} {k4 : (Int32 × Int32 × Int32 × gS) → Option (Int32 × gS)} {R : Int32 × gS} (H4 : ∀ s : Int32 × Int32 × Int32 × gS, k4 s = some R → G X RX8 cX8_isPicture 4 (some .boolean) 0 (some (.int R.1)) R.2 4 [(0, .ref (X.1 + 51)), (1, .int s.1), (2, .int s.2.1), (3, .int s.2.2.1)] [] s.2.2.2) {x1 : Int32} {x2 : Int32} {x3 : Int32} {S : gS} (h : bX8_isPicture_4 F k4 x1 x2 x3 S = some R) : G X RX8 cX8_isPicture 4 (some .boolean) 0 (some (.int R.1)) R.2 4 [(0, .ref (X.1 + 51)), (1, .int x1), (2, .int x2), (3, .int x3)] [] S := by
  unfold bX8_isPicture_4 at h
  refine g_iload_n dX8_isPicture_4 3 rfl rfl ?_
  refine g_aload_n dX8_isPicture_5 0 rfl rfl ?_
  refine g_getr dX8_isPicture_6 lk_X8_13 sf_51_1 ?_
  refine g_iload_n dX8_isPicture_9 1 rfl rfl ?_
  obtain ⟨hv1, h⟩ := gchk h
  refine g_iald dX8_isPicture_10 sa_53 hv1 ?_
  refine g_icmp_ge (tgt := 50) dX8_isPicture_11 (by decide) (fun hc2 => ?_) (fun hc2 => ?_)
  · replace h := git hc2 h
    refine g_iload_n dX8_isPicture_50 2 rfl rfl ?_
    obtain ⟨hb3, h⟩ := gbo h
    obtain rfl := Option.some.inj h
    exact g_zret dX8_isPicture_51 rfl hb3
  · replace h := gif hc2 h
    refine g_iload_n dX8_isPicture_14 2 rfl rfl ?_
    refine g_if_eq (tgt := 42) dX8_isPicture_15 (by decide) (fun hc4 => ?_) (fun hc4 => ?_)
    · replace h := git hc4 h
      refine g_sub [0, 1, 3] rfl ?_
      exact bX8_isPicture_42_ok H4 h
    · replace h := gif hc4 h
      refine g_aload_n dX8_isPicture_18 0 rfl rfl ?_
      refine g_getr dX8_isPicture_19 lk_X8_16 sf_51_2 ?_
      refine g_bipush (v := 64) dX8_isPicture_22 (by decide) ?_
      refine g_iload_n dX8_isPicture_24 1 rfl rfl ?_
      refine g_imul dX8_isPicture_25 ?_
      refine g_iload_n dX8_isPicture_26 3 rfl rfl ?_
      refine g_iadd dX8_isPicture_27 ?_
      obtain ⟨hv5, h⟩ := gchk h
      refine g_iald dX8_isPicture_28 sa_54 hv5 ?_
      refine g_aload_n dX8_isPicture_29 0 rfl rfl ?_
      refine g_getr dX8_isPicture_30 lk_X8_52 sf_51_17 ?_
      refine g_iload_n dX8_isPicture_33 3 rfl rfl ?_
      obtain ⟨hv6, h⟩ := gchk h
      refine g_iald dX8_isPicture_34 sa_66 hv6 ?_
      refine g_icmp_ne (tgt := 42) dX8_isPicture_35 (by decide) (fun hc7 => ?_) (fun hc7 => ?_)
      · replace h := gif hc7 h
        refine g_sub [0, 1, 3] rfl ?_
        exact bX8_isPicture_42_ok H4 h
      · replace h := git hc7 h
        refine g_iconst (v := 1) dX8_isPicture_38 (by decide) ?_
        refine g_goto (tgt := 43) dX8_isPicture_39 (by decide) ?_
        refine g_sub [0, 1, 3] rfl ?_
        exact bX8_isPicture_43_ok H4 h
noncomputable def bX8_isPicture_4l (F : Nat) : Nat → (Int32 × Int32 × Int32 × gS) → Option (Int32 × gS) := g_fix (fun k4 s => bX8_isPicture_4 F k4 s.1 s.2.1 s.2.2.1 s.2.2.2)
theorem bX8_isPicture_4l_ok {X : gX} {F : Nat} {R : Int32 × gS} : ∀ (n : Nat) (s : Int32 × Int32 × Int32 × gS), bX8_isPicture_4l F n s = some R → G X RX8 cX8_isPicture 4 (some .boolean) 0 (some (.int R.1)) R.2 4 [(0, .ref (X.1 + 51)), (1, .int s.1), (2, .int s.2.1), (3, .int s.2.2.1)] [] s.2.2.2 := by
  intro n
  induction n with
  | zero => intro s h; cases h
  | succ n ih => intro s h; exact bX8_isPicture_4_ok (F := F) ih h
noncomputable def fX8_isPicture (F : Nat) (a0 : Int32) (S : gS) : Option (Int32 × gS) := bX8_isPicture_4l F F (a0, (1 : Int32), (0 : Int32), S)
set_option maxRecDepth 20000 in
theorem fX8_isPicture_ok {X : gX} {F : Nat} {R : Int32 × gS} {a0 : Int32} {S : gS} (h : fX8_isPicture F a0 S = some R) : G X RX8 cX8_isPicture 4 (some .boolean) 0 (some (.int R.1)) R.2 0 [(0, .ref (X.1 + 51)), (1, .int a0)] [] S := by
  unfold fX8_isPicture at h
  refine g_iconst (v := 1) dX8_isPicture_0 (by decide) ?_
  refine g_istore_n (lv' := [(2, .int (1 : Int32)), (0, .ref (X.1 + 51)), (1, .int a0)]) dX8_isPicture_1 rfl rfl (by decide) rfl ?_
  refine g_iconst (v := 0) dX8_isPicture_2 (by decide) ?_
  refine g_istore_n (lv' := [(3, .int (0 : Int32)), (2, .int (1 : Int32)), (0, .ref (X.1 + 51)), (1, .int a0)]) dX8_isPicture_3 rfl rfl (by decide) rfl ?_
  refine g_sub [2, 3, 1, 0] rfl ?_
  exact bX8_isPicture_4l_ok F (a0, (1 : Int32), (0 : Int32), S) h
theorem ctX8_isPicture {X : gX} {F : Nat} {R : Int32 × gS} {a0 : Int32} {S : gS} (h : fX8_isPicture F a0 S = some R) : g_C X yX8_isPicture cX8_isPicture 4 (some .boolean) 0 [.ref (X.1 + 51), .int a0] S (some (.int R.1)) R.2 :=
  g_met (by decide) (Nat.le_of_ble_eq_true rfl) (fX8_isPicture_ok h)
noncomputable def bX8_findTower_93 (F : Nat) (k16 : (Int32 × Int32 × gS) → Option (gS)) (x1 : Int32) (x2 : Int32) (S : gS) : Option (gS) := gl (x2 + 1) (fun v1 : Int32 => k16 (x1, v1, S))
set_option maxRecDepth 20000 in
theorem bX8_findTower_93_ok {X : gX} {F : Nat} {k16 : (Int32 × Int32 × gS) → Option (gS)} {R : gS} (H16 : ∀ s : Int32 × Int32 × gS, k16 s = some R → G X RX8 cX8_findTower 3 none 5 none R 16 [(0, .ref (X.1 + 51)), (1, .int s.1), (2, .int s.2.1)] [] s.2.2) {x1 : Int32} {x2 : Int32} {S : gS} (h : bX8_findTower_93 F k16 x1 x2 S = some R) : G X RX8 cX8_findTower 3 none 5 none R 93 [(0, .ref (X.1 + 51)), (1, .int x1), (2, .int x2)] [] S := by
  unfold bX8_findTower_93 at h
  obtain ⟨v1, ev1, h⟩ := gle h
  refine g_iinc (q := 2) (v := v1) (lv' := [(2, .int v1), (0, .ref (X.1 + 51)), (1, .int x1)]) dX8_findTower_93 rfl (by rw [← ev1]; rfl) (by decide) rfl ?_
  refine g_goto (tgt := 16) dX8_findTower_96 (by decide) ?_
  refine g_sub [1, 2, 0] rfl ?_
  exact H16 (x1, v1, S) h
noncomputable def bX8_findTower_89 (F : Nat) (k16 : (Int32 × Int32 × gS) → Option (gS)) (x1 : Int32) (x2 : Int32) (t0 : Int32) (t1 : Int32) (S : gS) : Option (gS) := gl (g_setI S 51 35 (t1 ||| t0)) (fun S1 : gS => bX8_findTower_93 F k16 x1 x2 S1)
set_option maxRecDepth 20000 in
theorem bX8_findTower_89_ok {X : gX} {F : Nat} {k16 : (Int32 × Int32 × gS) → Option (gS)} {R : gS} (H16 : ∀ s : Int32 × Int32 × gS, k16 s = some R → G X RX8 cX8_findTower 3 none 5 none R 16 [(0, .ref (X.1 + 51)), (1, .int s.1), (2, .int s.2.1)] [] s.2.2) {x1 : Int32} {x2 : Int32} {t0 : Int32} {t1 : Int32} {S : gS} (h : bX8_findTower_89 F k16 x1 x2 t0 t1 S = some R) : G X RX8 cX8_findTower 3 none 5 none R 89 [(0, .ref (X.1 + 51)), (1, .int x1), (2, .int x2)] [.int t0, .int t1, .ref (X.1 + 51)] S := by
  unfold bX8_findTower_89 at h
  refine g_ior dX8_findTower_89 ?_
  obtain ⟨S1, eS1, h⟩ := gle h
  refine g_puti dX8_findTower_90 lp_X8_286 sf_51_35 eS1 ?_
  exact bX8_findTower_93_ok H16 h
noncomputable def bX8_findTower_55 (F : Nat) (k16 : (Int32 × Int32 × gS) → Option (gS)) (x1 : Int32) (x2 : Int32) (S : gS) : Option (gS) := gl (g_setI S 51 34 ((g_I S 51 34) + (1 : Int32))) (fun S1 : gS => if (g_I S1 51 12) ≤ 0 then (bX8_findTower_89 F k16 x1 x2 (0 : Int32) (g_I S1 51 35) S1) else (g_chk (0 : Int32) 5 (bX8_findTower_89 F k16 x1 x2 ((1 : Int32) <<< ((g_I S1 70 ((0 : Int32)).toNatClampNeg) &&& 31)) (g_I S1 51 35) S1)))
set_option maxRecDepth 20000 in
theorem bX8_findTower_55_ok {X : gX} {F : Nat} {k16 : (Int32 × Int32 × gS) → Option (gS)} {R : gS} (H16 : ∀ s : Int32 × Int32 × gS, k16 s = some R → G X RX8 cX8_findTower 3 none 5 none R 16 [(0, .ref (X.1 + 51)), (1, .int s.1), (2, .int s.2.1)] [] s.2.2) {x1 : Int32} {x2 : Int32} {S : gS} (h : bX8_findTower_55 F k16 x1 x2 S = some R) : G X RX8 cX8_findTower 3 none 5 none R 55 [(0, .ref (X.1 + 51)), (1, .int x1), (2, .int x2)] [] S := by
  unfold bX8_findTower_55 at h
  refine g_aload_n dX8_findTower_55 0 rfl rfl ?_
  refine g_dup dX8_findTower_56 rfl ?_
  refine g_geti dX8_findTower_57 lk_X8_283 sf_51_34 ?_
  refine g_iconst (v := 1) dX8_findTower_60 (by decide) ?_
  refine g_iadd dX8_findTower_61 ?_
  obtain ⟨S1, eS1, h⟩ := gle h
  refine g_puti dX8_findTower_62 lp_X8_283 sf_51_34 eS1 ?_
  refine g_aload_n dX8_findTower_65 0 rfl rfl ?_
  refine g_dup dX8_findTower_66 rfl ?_
  refine g_geti dX8_findTower_67 lk_X8_286 sf_51_35 ?_
  refine g_aload_n dX8_findTower_70 0 rfl rfl ?_
  refine g_geti dX8_findTower_71 lk_X8_146 sf_51_12 ?_
  refine g_if_le (tgt := 88) dX8_findTower_74 (by decide) (fun hc2 => ?_) (fun hc2 => ?_)
  · replace h := git hc2 h
    refine g_iconst (v := 0) dX8_findTower_88 (by decide) ?_
    exact bX8_findTower_89_ok H16 h
  · replace h := gif hc2 h
    refine g_iconst (v := 1) dX8_findTower_77 (by decide) ?_
    refine g_aload_n dX8_findTower_78 0 rfl rfl ?_
    refine g_getr dX8_findTower_79 lk_X8_69 sf_51_27 ?_
    refine g_iconst (v := 0) dX8_findTower_82 (by decide) ?_
    obtain ⟨hv3, h⟩ := gchk h
    refine g_iald dX8_findTower_83 sa_70 hv3 ?_
    refine g_ishl dX8_findTower_84 ?_
    refine g_goto (tgt := 89) dX8_findTower_85 (by decide) ?_
    exact bX8_findTower_89_ok H16 h
noncomputable def bX8_findTower_16 (F : Nat) (k16 : (Int32 × Int32 × gS) → Option (gS)) (x1 : Int32) (x2 : Int32) (S : gS) : Option (gS) := (fX8_codes F S).bind (fun q1 : Int32 × gS => if q1.1 ≤ x2 then (some q1.2) else ((fX8_isOrder F x2 q1.2).bind (fun q3 : Int32 × gS => if q3.1 = 0 then (bX8_findTower_93 F k16 x1 x2 q3.2) else ((fX8_triesRow F q3.2).bind (fun q5 : gS => (fX8_isPicture F x1 q5).bind (fun q6 : Int32 × gS => if q6.1 = 0 then (bX8_findTower_93 F k16 x1 x2 q6.2) else (if (g_I q6.2 51 34) = 0 then ((fX8_keepsRow F q6.2).bind (fun q9 : gS => bX8_findTower_55 F k16 x1 x2 q9)) else (bX8_findTower_55 F k16 x1 x2 q6.2))))))))
set_option maxRecDepth 20000 in
theorem bX8_findTower_16_ok {X : gX} {F : Nat} {k16 : (Int32 × Int32 × gS) → Option (gS)} {R : gS} (H16 : ∀ s : Int32 × Int32 × gS, k16 s = some R → G X RX8 cX8_findTower 3 none 5 none R 16 [(0, .ref (X.1 + 51)), (1, .int s.1), (2, .int s.2.1)] [] s.2.2) {x1 : Int32} {x2 : Int32} {S : gS} (h : bX8_findTower_16 F k16 x1 x2 S = some R) : G X RX8 cX8_findTower 3 none 5 none R 16 [(0, .ref (X.1 + 51)), (1, .int x1), (2, .int x2)] [] S := by
  unfold bX8_findTower_16 at h
  refine g_iload_n dX8_findTower_16 2 rfl rfl ?_
  refine g_aload_n dX8_findTower_17 0 rfl rfl ?_
  obtain ⟨q1, hq1, h⟩ := gb h
  refine g_callVi [] [.int x2] dX8_findTower_18 mk_X8_233 so_51 (ctX8_codes hq1) rfl (by decide) rfl (Nat.le_of_ble_eq_true rfl) ?_
  refine g_icmp_ge (tgt := 99) dX8_findTower_21 (by decide) (fun hc2 => ?_) (fun hc2 => ?_)
  · replace h := git hc2 h
    obtain rfl := Option.some.inj h
    exact g_vret dX8_findTower_99 rfl
  · replace h := gif hc2 h
    refine g_aload_n dX8_findTower_24 0 rfl rfl ?_
    refine g_iload_n dX8_findTower_25 2 rfl rfl ?_
    obtain ⟨q3, hq3, h⟩ := gb h
    refine g_callVi [.int x2] [] dX8_findTower_26 mk_X8_236 so_51 (ctX8_isOrder hq3) rfl (by decide) rfl (Nat.le_of_ble_eq_true rfl) ?_
    refine g_if_eq (tgt := 93) dX8_findTower_29 (by decide) (fun hc4 => ?_) (fun hc4 => ?_)
    · replace h := git hc4 h
      exact bX8_findTower_93_ok H16 h
    · replace h := gif hc4 h
      refine g_aload_n dX8_findTower_32 0 rfl rfl ?_
      obtain ⟨q5, hq5, h⟩ := gb h
      refine g_callVv [] [] dX8_findTower_33 mk_X8_239 so_51 (ctX8_triesRow hq5) rfl (by decide) rfl (Nat.le_of_ble_eq_true rfl) ?_
      refine g_aload_n dX8_findTower_36 0 rfl rfl ?_
      refine g_iload_n dX8_findTower_37 1 rfl rfl ?_
      obtain ⟨q6, hq6, h⟩ := gb h
      refine g_callVi [.int x1] [] dX8_findTower_38 mk_X8_289 so_51 (ctX8_isPicture hq6) rfl (by decide) rfl (Nat.le_of_ble_eq_true rfl) ?_
      refine g_if_eq (tgt := 93) dX8_findTower_41 (by decide) (fun hc7 => ?_) (fun hc7 => ?_)
      · replace h := git hc7 h
        exact bX8_findTower_93_ok H16 h
      · replace h := gif hc7 h
        refine g_aload_n dX8_findTower_44 0 rfl rfl ?_
        refine g_geti dX8_findTower_45 lk_X8_283 sf_51_34 ?_
        refine g_if_ne (tgt := 55) dX8_findTower_48 (by decide) (fun hc8 => ?_) (fun hc8 => ?_)
        · replace h := gif hc8 h
          exact bX8_findTower_55_ok H16 h
        · replace h := git hc8 h
          refine g_aload_n dX8_findTower_51 0 rfl rfl ?_
          obtain ⟨q9, hq9, h⟩ := gb h
          refine g_callVv [] [] dX8_findTower_52 mk_X8_242 so_51 (ctX8_keepsRow hq9) rfl (by decide) rfl (Nat.le_of_ble_eq_true rfl) ?_
          exact bX8_findTower_55_ok H16 h
noncomputable def bX8_findTower_16l (F : Nat) : Nat → (Int32 × Int32 × gS) → Option (gS) := g_fix (fun k16 s => bX8_findTower_16 F k16 s.1 s.2.1 s.2.2)
theorem bX8_findTower_16l_ok {X : gX} {F : Nat} {R : gS} : ∀ (n : Nat) (s : Int32 × Int32 × gS), bX8_findTower_16l F n s = some R → G X RX8 cX8_findTower 3 none 5 none R 16 [(0, .ref (X.1 + 51)), (1, .int s.1), (2, .int s.2.1)] [] s.2.2 := by
  intro n
  induction n with
  | zero => intro s h; cases h
  | succ n ih => intro s h; exact bX8_findTower_16_ok (F := F) ih h
noncomputable def fX8_findTower (F : Nat) (a0 : Int32) (S : gS) : Option (gS) := (fX8_tries F S).bind (fun q1 : gS => gl (g_setI q1 51 34 (0 : Int32)) (fun S2 : gS => gl (g_setI S2 51 35 (0 : Int32)) (fun S3 : gS => bX8_findTower_16l F F (a0, (0 : Int32), S3))))
set_option maxRecDepth 20000 in
theorem fX8_findTower_ok {X : gX} {F : Nat} {R : gS} {a0 : Int32} {S : gS} (h : fX8_findTower F a0 S = some R) : G X RX8 cX8_findTower 3 none 5 none R 0 [(0, .ref (X.1 + 51)), (1, .int a0)] [] S := by
  unfold fX8_findTower at h
  refine g_aload_n dX8_findTower_0 0 rfl rfl ?_
  obtain ⟨q1, hq1, h⟩ := gb h
  refine g_callVv [] [] dX8_findTower_1 mk_X8_188 so_51 (ctX8_tries hq1) rfl (by decide) rfl (Nat.le_of_ble_eq_true rfl) ?_
  refine g_aload_n dX8_findTower_4 0 rfl rfl ?_
  refine g_iconst (v := 0) dX8_findTower_5 (by decide) ?_
  obtain ⟨S2, eS2, h⟩ := gle h
  refine g_puti dX8_findTower_6 lp_X8_283 sf_51_34 eS2 ?_
  refine g_aload_n dX8_findTower_9 0 rfl rfl ?_
  refine g_iconst (v := 0) dX8_findTower_10 (by decide) ?_
  obtain ⟨S3, eS3, h⟩ := gle h
  refine g_puti dX8_findTower_11 lp_X8_286 sf_51_35 eS3 ?_
  refine g_iconst (v := 0) dX8_findTower_14 (by decide) ?_
  refine g_istore_n (lv' := [(2, .int (0 : Int32)), (0, .ref (X.1 + 51)), (1, .int a0)]) dX8_findTower_15 rfl rfl (by decide) rfl ?_
  refine g_sub [1, 2, 0] rfl ?_
  exact bX8_findTower_16l_ok F (a0, (0 : Int32), S3) h
theorem ctX8_findTower {X : gX} {F : Nat} {R : gS} {a0 : Int32} {S : gS} (h : fX8_findTower F a0 S = some R) : g_C X yX8_findTower cX8_findTower 3 none 5 [.ref (X.1 + 51), .int a0] S none R :=
  g_met (by decide) (Nat.le_of_ble_eq_true rfl) (fX8_findTower_ok h)

noncomputable def fX8_mayBegin (F : Nat) (a0 : Int32) (S : gS) : Option (Int32 × gS) := g_chk a0 64 (if (g_I S 57 (a0).toNatClampNeg) = (1 : Int32) then (some ((0 : Int32), S)) else ((fX8_isHidden F a0 S).bind (fun q3 : Int32 × gS => if q3.1 = 0 then (some ((1 : Int32), q3.2)) else (some ((0 : Int32), q3.2)))))
set_option maxRecDepth 20000 in
theorem fX8_mayBegin_ok {X : gX} {F : Nat} {R : Int32 × gS} {a0 : Int32} {S : gS} (h : fX8_mayBegin F a0 S = some R) : G X RX8 cX8_mayBegin 2 (some .boolean) 1 (some (.int R.1)) R.2 0 [(0, .ref (X.1 + 51)), (1, .int a0)] [] S := by
  unfold fX8_mayBegin at h
  refine g_aload_n dX8_mayBegin_0 0 rfl rfl ?_
  refine g_getr dX8_mayBegin_1 lk_X8_25 sf_51_7 ?_
  refine g_iload_n dX8_mayBegin_4 1 rfl rfl ?_
  obtain ⟨hv1, h⟩ := gchk h
  refine g_iald dX8_mayBegin_5 sa_57 hv1 ?_
  refine g_iconst (v := 1) dX8_mayBegin_6 (by decide) ?_
  refine g_icmp_eq (tgt := 22) dX8_mayBegin_7 (by decide) (fun hc2 => ?_) (fun hc2 => ?_)
  · replace h := git hc2 h
    refine g_iconst (v := 0) dX8_mayBegin_22 (by decide) ?_
    obtain rfl := Option.some.inj h
    exact g_zret dX8_mayBegin_23 rfl narrow_b0
  · replace h := gif hc2 h
    refine g_aload_n dX8_mayBegin_10 0 rfl rfl ?_
    refine g_iload_n dX8_mayBegin_11 1 rfl rfl ?_
    obtain ⟨q3, hq3, h⟩ := gb h
    refine g_callVi [.int a0] [] dX8_mayBegin_12 mk_X8_164 so_51 (ctX8_isHidden hq3) rfl (by decide) rfl (Nat.le_of_ble_eq_true rfl) ?_
    refine g_if_ne (tgt := 22) dX8_mayBegin_15 (by decide) (fun hc4 => ?_) (fun hc4 => ?_)
    · replace h := gif hc4 h
      refine g_iconst (v := 0) dX8_mayBegin_22 (by decide) ?_
      obtain rfl := Option.some.inj h
      exact g_zret dX8_mayBegin_23 rfl narrow_b0
    · replace h := git hc4 h
      refine g_iconst (v := 1) dX8_mayBegin_18 (by decide) ?_
      refine g_goto (tgt := 23) dX8_mayBegin_19 (by decide) ?_
      obtain rfl := Option.some.inj h
      exact g_zret dX8_mayBegin_23 rfl narrow_b1
theorem ctX8_mayBegin {X : gX} {F : Nat} {R : Int32 × gS} {a0 : Int32} {S : gS} (h : fX8_mayBegin F a0 S = some R) : g_C X yX8_mayBegin cX8_mayBegin 2 (some .boolean) 1 [.ref (X.1 + 51), .int a0] S (some (.int R.1)) R.2 :=
  g_met (by decide) (Nat.le_of_ble_eq_true rfl) (fX8_mayBegin_ok h)
noncomputable def bX8_plans_34 (F : Nat) (k34 : (Int32 × Int32 × gS) → Option (Int32 × gS)) (x2 : Int32) (x3 : Int32) (S : gS) : Option (Int32 × gS) := if x3 = x2 then (some ((1 : Int32), S)) else ((fX8_goesTo F x3 S).bind (fun q2 : Int32 × gS => gl q2.1 (fun v3 : Int32 => g_chk (g_I q2.2 51 26) 64 (gl (g_setI q2.2 69 ((g_I q2.2 51 26)).toNatClampNeg v3) (fun S5 : gS => gl (g_setI S5 51 26 ((g_I S5 51 26) + (1 : Int32))) (fun S6 : gS => k34 (x2, v3, S6)))))))
set_option maxRecDepth 20000 in
theorem bX8_plans_34_ok {X : gX} {F : Nat} {k34 : (Int32 × Int32 × gS) → Option (Int32 × gS)} {R : Int32 × gS} (H34 : ∀ s : Int32 × Int32 × gS, k34 s = some R → G X RX8 cX8_plans 4 (some .boolean) 2 (some (.int R.1)) R.2 34 [(0, .ref (X.1 + 51)), (2, .int s.1), (3, .int s.2.1)] [] s.2.2) {x2 : Int32} {x3 : Int32} {S : gS} (h : bX8_plans_34 F k34 x2 x3 S = some R) : G X RX8 cX8_plans 4 (some .boolean) 2 (some (.int R.1)) R.2 34 [(0, .ref (X.1 + 51)), (2, .int x2), (3, .int x3)] [] S := by
  unfold bX8_plans_34 at h
  refine g_iload_n dX8_plans_34 2 rfl rfl ?_
  refine g_iload_n dX8_plans_35 1 rfl rfl ?_
  refine g_icmp_eq (tgt := 68) dX8_plans_36 (by decide) (fun hc1 => ?_) (fun hc1 => ?_)
  · replace h := git hc1 h
    refine g_iconst (v := 1) dX8_plans_68 (by decide) ?_
    obtain rfl := Option.some.inj h
    exact g_zret dX8_plans_69 rfl narrow_b1
  · replace h := gif hc1 h
    refine g_aload_n dX8_plans_39 0 rfl rfl ?_
    refine g_iload_n dX8_plans_40 2 rfl rfl ?_
    obtain ⟨q2, hq2, h⟩ := gb h
    refine g_callVi [.int x3] [] dX8_plans_41 mk_X8_185 so_51 (ctX8_goesTo hq2) rfl (by decide) rfl (Nat.le_of_ble_eq_true rfl) ?_
    obtain ⟨v3, ev3, h⟩ := gle h
    refine g_istore_n (lv' := [(3, .int v3), (0, .ref (X.1 + 51)), (2, .int x2)]) dX8_plans_44 ev3 rfl (by decide) rfl ?_
    refine g_aload_n dX8_plans_45 1 rfl rfl ?_
    refine g_getr dX8_plans_46 lk_X8_66 sf_51_25 ?_
    refine g_aload_n dX8_plans_49 1 rfl rfl ?_
    refine g_geti dX8_plans_50 lk_X8_179 sf_51_26 ?_
    refine g_iload_n dX8_plans_53 0 rfl rfl ?_
    obtain ⟨hv4, h⟩ := gchk h
    obtain ⟨S5, eS5, h⟩ := gle h
    refine g_iast dX8_plans_54 sa_69 hv4 eS5 ?_
    refine g_aload_n dX8_plans_55 1 rfl rfl ?_
    refine g_dup dX8_plans_56 rfl ?_
    refine g_geti dX8_plans_57 lk_X8_179 sf_51_26 ?_
    refine g_iconst (v := 1) dX8_plans_60 (by decide) ?_
    refine g_iadd dX8_plans_61 ?_
    obtain ⟨S6, eS6, h⟩ := gle h
    refine g_puti dX8_plans_62 lp_X8_179 sf_51_26 eS6 ?_
    refine g_goto (tgt := 34) dX8_plans_65 (by decide) ?_
    refine g_sub [1, 2, 0] rfl ?_
    exact H34 (x2, v3, S6) h
noncomputable def bX8_plans_34l (F : Nat) : Nat → (Int32 × Int32 × gS) → Option (Int32 × gS) := g_fix (fun k34 s => bX8_plans_34 F k34 s.1 s.2.1 s.2.2)
theorem bX8_plans_34l_ok {X : gX} {F : Nat} {R : Int32 × gS} : ∀ (n : Nat) (s : Int32 × Int32 × gS), bX8_plans_34l F n s = some R → G X RX8 cX8_plans 4 (some .boolean) 2 (some (.int R.1)) R.2 34 [(0, .ref (X.1 + 51)), (2, .int s.1), (3, .int s.2.1)] [] s.2.2 := by
  intro n
  induction n with
  | zero => intro s h; cases h
  | succ n ih => intro s h; exact bX8_plans_34_ok (F := F) ih h
noncomputable def fX8_plans (F : Nat) (a0 : Int32) (a1 : Int32) (S : gS) : Option (Int32 × gS) := (fX8_findCosts F a1 (0 : Int32) S).bind (fun q1 : gS => gl (g_setI q1 51 26 (0 : Int32)) (fun S2 : gS => (fX8_mayBegin F a0 S2).bind (fun q3 : Int32 × gS => if q3.1 = 0 then (some ((0 : Int32), q3.2)) else (g_chk a0 64 (if (g_I q3.2 68 (a0).toNatClampNeg) < (100000 : Int32) then (bX8_plans_34l F F (a1, a0, q3.2)) else (some ((0 : Int32), q3.2)))))))
set_option maxRecDepth 20000 in
theorem fX8_plans_ok {X : gX} {F : Nat} {R : Int32 × gS} {a0 : Int32} {a1 : Int32} {S : gS} (h : fX8_plans F a0 a1 S = some R) : G X RX8 cX8_plans 4 (some .boolean) 2 (some (.int R.1)) R.2 0 [(0, .ref (X.1 + 51)), (1, .int a0), (2, .int a1)] [] S := by
  unfold fX8_plans at h
  refine g_aload_n dX8_plans_0 0 rfl rfl ?_
  refine g_iload_n dX8_plans_1 2 rfl rfl ?_
  refine g_iconst (v := 0) dX8_plans_2 (by decide) ?_
  obtain ⟨q1, hq1, h⟩ := gb h
  refine g_callVv [.int a1, .int (0 : Int32)] [] dX8_plans_3 mk_X8_175 so_51 (ctX8_findCosts hq1) rfl (by decide) rfl (Nat.le_of_ble_eq_true rfl) ?_
  refine g_aload_n dX8_plans_6 0 rfl rfl ?_
  refine g_iconst (v := 0) dX8_plans_7 (by decide) ?_
  obtain ⟨S2, eS2, h⟩ := gle h
  refine g_puti dX8_plans_8 lp_X8_179 sf_51_26 eS2 ?_
  refine g_aload_n dX8_plans_11 0 rfl rfl ?_
  refine g_iload_n dX8_plans_12 1 rfl rfl ?_
  obtain ⟨q3, hq3, h⟩ := gb h
  refine g_callVi [.int a0] [] dX8_plans_13 mk_X8_182 so_51 (ctX8_mayBegin hq3) rfl (by decide) rfl (Nat.le_of_ble_eq_true rfl) ?_
  refine g_if_eq (tgt := 30) dX8_plans_16 (by decide) (fun hc4 => ?_) (fun hc4 => ?_)
  · replace h := git hc4 h
    refine g_iconst (v := 0) dX8_plans_30 (by decide) ?_
    obtain rfl := Option.some.inj h
    exact g_zret dX8_plans_31 rfl narrow_b0
  · replace h := gif hc4 h
    refine g_aload_n dX8_plans_19 0 rfl rfl ?_
    refine g_getr dX8_plans_20 lk_X8_63 sf_51_20 ?_
    refine g_iload_n dX8_plans_23 1 rfl rfl ?_
    obtain ⟨hv5, h⟩ := gchk h
    refine g_iald dX8_plans_24 sa_68 hv5 ?_
    refine g_ldc dX8_plans_25 ck_X8_170 ?_
    refine g_icmp_lt (tgt := 32) dX8_plans_27 (by decide) (fun hc6 => ?_) (fun hc6 => ?_)
    · replace h := git hc6 h
      refine g_iload_n dX8_plans_32 1 rfl rfl ?_
      refine g_istore_n (lv' := [(3, .int a0), (0, .ref (X.1 + 51)), (1, .int a0), (2, .int a1)]) dX8_plans_33 rfl rfl (by decide) rfl ?_
      refine g_sub [1, 3, 0] rfl ?_
      exact bX8_plans_34l_ok F (a1, a0, q3.2) h
    · replace h := gif hc6 h
      refine g_iconst (v := 0) dX8_plans_30 (by decide) ?_
      obtain rfl := Option.some.inj h
      exact g_zret dX8_plans_31 rfl narrow_b0
theorem ctX8_plans {X : gX} {F : Nat} {R : Int32 × gS} {a0 : Int32} {a1 : Int32} {S : gS} (h : fX8_plans F a0 a1 S = some R) : g_C X yX8_plans cX8_plans 4 (some .boolean) 2 [.ref (X.1 + 51), .int a0, .int a1] S (some (.int R.1)) R.2 :=
  g_met (by decide) (Nat.le_of_ble_eq_true rfl) (fX8_plans_ok h)
noncomputable def fX8_planOf (F : Nat) (a0 : Int32) (a1 : Int32) (a2 : Int32) (S : gS) : Option (Int32 × gS) := (fX8_tries F S).bind (fun q1 : gS => (fX8_knows F (0 : Int32) q1).bind (fun q2 : gS => (fX8_plans F a0 a1 q2).bind (fun q3 : Int32 × gS => if q3.1 = 0 then (some ((-1 : Int32), q3.2)) else (if a2 = (-1 : Int32) then (g_chk a0 64 (some ((g_I q3.2 68 (a0).toNatClampNeg), q3.2))) else (if (g_I q3.2 51 26) ≤ a2 then (some ((-1 : Int32), q3.2)) else (g_chk a2 64 (some ((g_I q3.2 69 (a2).toNatClampNeg), q3.2))))))))
set_option maxRecDepth 20000 in
theorem fX8_planOf_ok {X : gX} {F : Nat} {R : Int32 × gS} {a0 : Int32} {a1 : Int32} {a2 : Int32} {S : gS} (h : fX8_planOf F a0 a1 a2 S = some R) : G X RX8 cX8_planOf 4 (some .int) 4 (some (.int R.1)) R.2 0 [(0, .ref (X.1 + 51)), (1, .int a0), (2, .int a1), (3, .int a2)] [] S := by
  unfold fX8_planOf at h
  refine g_aload_n dX8_planOf_0 0 rfl rfl ?_
  obtain ⟨q1, hq1, h⟩ := gb h
  refine g_callVv [] [] dX8_planOf_1 mk_X8_188 so_51 (ctX8_tries hq1) rfl (by decide) rfl (Nat.le_of_ble_eq_true rfl) ?_
  refine g_aload_n dX8_planOf_4 0 rfl rfl ?_
  refine g_iconst (v := 0) dX8_planOf_5 (by decide) ?_
  obtain ⟨q2, hq2, h⟩ := gb h
  refine g_callVv [.int (0 : Int32)] [] dX8_planOf_6 mk_X8_191 so_51 (ctX8_knows hq2) rfl (by decide) rfl (Nat.le_of_ble_eq_true rfl) ?_
  refine g_aload_n dX8_planOf_9 0 rfl rfl ?_
  refine g_iload_n dX8_planOf_10 1 rfl rfl ?_
  refine g_iload_n dX8_planOf_11 2 rfl rfl ?_
  obtain ⟨q3, hq3, h⟩ := gb h
  refine g_callVi [.int a0, .int a1] [] dX8_planOf_12 mk_X8_195 so_51 (ctX8_plans hq3) rfl (by decide) rfl (Nat.le_of_ble_eq_true rfl) ?_
  refine g_if_ne (tgt := 20) dX8_planOf_15 (by decide) (fun hc4 => ?_) (fun hc4 => ?_)
  · replace h := gif hc4 h
    refine g_iload_n dX8_planOf_20 3 rfl rfl ?_
    refine g_iconst (v := -1) dX8_planOf_21 (by decide) ?_
    refine g_icmp_ne (tgt := 34) dX8_planOf_22 (by decide) (fun hc5 => ?_) (fun hc5 => ?_)
    · replace h := gif hc5 h
      refine g_iload_n dX8_planOf_34 3 rfl rfl ?_
      refine g_aload_n dX8_planOf_35 0 rfl rfl ?_
      refine g_geti dX8_planOf_36 lk_X8_179 sf_51_26 ?_
      refine g_icmp_ge (tgt := 51) dX8_planOf_39 (by decide) (fun hc6 => ?_) (fun hc6 => ?_)
      · replace h := git hc6 h
        refine g_iconst (v := -1) dX8_planOf_51 (by decide) ?_
        obtain rfl := Option.some.inj h
        exact g_iret dX8_planOf_52 rfl
      · replace h := gif hc6 h
        refine g_aload_n dX8_planOf_42 0 rfl rfl ?_
        refine g_getr dX8_planOf_43 lk_X8_66 sf_51_25 ?_
        refine g_iload_n dX8_planOf_46 3 rfl rfl ?_
        obtain ⟨hv7, h⟩ := gchk h
        refine g_iald dX8_planOf_47 sa_69 hv7 ?_
        refine g_goto (tgt := 52) dX8_planOf_48 (by decide) ?_
        obtain rfl := Option.some.inj h
        exact g_iret dX8_planOf_52 rfl
    · replace h := git hc5 h
      refine g_aload_n dX8_planOf_25 0 rfl rfl ?_
      refine g_getr dX8_planOf_26 lk_X8_63 sf_51_20 ?_
      refine g_iload_n dX8_planOf_29 1 rfl rfl ?_
      obtain ⟨hv8, h⟩ := gchk h
      refine g_iald dX8_planOf_30 sa_68 hv8 ?_
      refine g_goto (tgt := 52) dX8_planOf_31 (by decide) ?_
      obtain rfl := Option.some.inj h
      exact g_iret dX8_planOf_52 rfl
  · replace h := git hc4 h
    refine g_iconst (v := -1) dX8_planOf_18 (by decide) ?_
    obtain rfl := Option.some.inj h
    exact g_iret dX8_planOf_19 rfl
theorem ctX8_planOf {X : gX} {F : Nat} {R : Int32 × gS} {a0 : Int32} {a1 : Int32} {a2 : Int32} {S : gS} (h : fX8_planOf F a0 a1 a2 S = some R) : g_C X yX8_planOf cX8_planOf 4 (some .int) 4 [.ref (X.1 + 51), .int a0, .int a1, .int a2] S (some (.int R.1)) R.2 :=
  g_met (by decide) (Nat.le_of_ble_eq_true rfl) (fX8_planOf_ok h)
noncomputable def fX8_plan (F : Nat) (a0 : Int32) (a1 : Int32) (a2 : Int32) (S : gS) : Option (Int32 × gS) := (fX8_isCell F a0 S).bind (fun q1 : Int32 × gS => if q1.1 = 0 then (some ((-2 : Int32), q1.2)) else ((fX8_isCell F a1 q1.2).bind (fun q3 : Int32 × gS => if q3.1 = 0 then (some ((-2 : Int32), q3.2)) else (if a2 < (-1 : Int32) then (some ((-2 : Int32), q3.2)) else ((fX8_planOf F a0 a1 a2 q3.2).bind (fun q6 : Int32 × gS => some (q6.1, q6.2)))))))
set_option maxRecDepth 20000 in
theorem fX8_plan_ok {X : gX} {F : Nat} {R : Int32 × gS} {a0 : Int32} {a1 : Int32} {a2 : Int32} {S : gS} (h : fX8_plan F a0 a1 a2 S = some R) : G X RX8 cX8_plan 4 (some .int) 5 (some (.int R.1)) R.2 0 [(0, .ref (X.1 + 51)), (1, .int a0), (2, .int a1), (3, .int a2)] [] S := by
  unfold fX8_plan at h
  refine g_iload_n dX8_plan_0 1 rfl rfl ?_
  obtain ⟨q1, hq1, h⟩ := gb h
  refine g_callSi [.int a0] [] dX8_plan_1 mk_X8_125 (ctX8_isCell hq1) rfl (by decide) rfl (Nat.le_of_ble_eq_true rfl) ?_
  refine g_if_eq (tgt := 29) dX8_plan_4 (by decide) (fun hc2 => ?_) (fun hc2 => ?_)
  · replace h := git hc2 h
    refine g_bipush (v := -2) dX8_plan_29 (by decide) ?_
    obtain rfl := Option.some.inj h
    exact g_iret dX8_plan_31 rfl
  · replace h := gif hc2 h
    refine g_iload_n dX8_plan_7 2 rfl rfl ?_
    obtain ⟨q3, hq3, h⟩ := gb h
    refine g_callSi [.int a1] [] dX8_plan_8 mk_X8_125 (ctX8_isCell hq3) rfl (by decide) rfl (Nat.le_of_ble_eq_true rfl) ?_
    refine g_if_eq (tgt := 29) dX8_plan_11 (by decide) (fun hc4 => ?_) (fun hc4 => ?_)
    · replace h := git hc4 h
      refine g_bipush (v := -2) dX8_plan_29 (by decide) ?_
      obtain rfl := Option.some.inj h
      exact g_iret dX8_plan_31 rfl
    · replace h := gif hc4 h
      refine g_iload_n dX8_plan_14 3 rfl rfl ?_
      refine g_iconst (v := -1) dX8_plan_15 (by decide) ?_
      refine g_icmp_lt (tgt := 29) dX8_plan_16 (by decide) (fun hc5 => ?_) (fun hc5 => ?_)
      · replace h := git hc5 h
        refine g_bipush (v := -2) dX8_plan_29 (by decide) ?_
        obtain rfl := Option.some.inj h
        exact g_iret dX8_plan_31 rfl
      · replace h := gif hc5 h
        refine g_aload_n dX8_plan_19 0 rfl rfl ?_
        refine g_iload_n dX8_plan_20 1 rfl rfl ?_
        refine g_iload_n dX8_plan_21 2 rfl rfl ?_
        refine g_iload_n dX8_plan_22 3 rfl rfl ?_
        obtain ⟨q6, hq6, h⟩ := gb h
        refine g_callVi [.int a0, .int a1, .int a2] [] dX8_plan_23 mk_X8_199 so_51 (ctX8_planOf hq6) rfl (by decide) rfl (Nat.le_of_ble_eq_true rfl) ?_
        refine g_goto (tgt := 31) dX8_plan_26 (by decide) ?_
        obtain rfl := Option.some.inj h
        exact g_iret dX8_plan_31 rfl
theorem ctX8_plan {X : gX} {F : Nat} {R : Int32 × gS} {a0 : Int32} {a1 : Int32} {a2 : Int32} {S : gS} (h : fX8_plan F a0 a1 a2 S = some R) : g_C X yX8_plan cX8_plan 4 (some .int) 5 [.ref (X.1 + 51), .int a0, .int a1, .int a2] S (some (.int R.1)) R.2 :=
  g_met (by decide) (Nat.le_of_ble_eq_true rfl) (fX8_plan_ok h)
noncomputable def fX8_treads (F : Nat) (a0 : Int32) (S : gS) : Option (gS) := g_chk a0 64 (gl (g_setI S 51 21 ((g_I S 51 21) + ((1 : Int32) + (g_I S 64 (a0).toNatClampNeg)))) (fun S2 : gS => gl (g_setI S2 51 22 ((g_I S2 51 22) + (1 : Int32))) (fun S3 : gS => g_chk a0 64 (g_chk a0 64 (gl (g_setI S3 66 (a0).toNatClampNeg ((g_I S3 66 (a0).toNatClampNeg) + (1 : Int32))) (fun S6 : gS => g_chk a0 64 (if (g_I S6 64 (a0).toNatClampNeg) ≤ 0 then (some S6) else (g_chk a0 64 (g_chk a0 64 (gl (g_setI S6 64 (a0).toNatClampNeg ((g_I S6 64 (a0).toNatClampNeg) - (1 : Int32))) (fun S11 : gS => g_chk a0 64 ((fX8_least F ((g_I S11 65 (a0).toNatClampNeg) + (1 : Int32)) (30 : Int32) S11).bind (fun q13 : Int32 × gS => g_chk a0 64 (gl (g_setI q13.2 65 (a0).toNatClampNeg q13.1) (fun S15 : gS => some S15)))))))))))))))
set_option maxRecDepth 20000 in
theorem fX8_treads_ok {X : gX} {F : Nat} {R : gS} {a0 : Int32} {S : gS} (h : fX8_treads F a0 S = some R) : G X RX8 cX8_treads 2 none 1 none R 0 [(0, .ref (X.1 + 51)), (1, .int a0)] [] S := by
  unfold fX8_treads at h
  refine g_aload_n dX8_treads_0 0 rfl rfl ?_
  refine g_dup dX8_treads_1 rfl ?_
  refine g_geti dX8_treads_2 lk_X8_152 sf_51_21 ?_
  refine g_iconst (v := 1) dX8_treads_5 (by decide) ?_
  refine g_aload_n dX8_treads_6 0 rfl rfl ?_
  refine g_getr dX8_treads_7 lk_X8_46 sf_51_15 ?_
  refine g_iload_n dX8_treads_10 1 rfl rfl ?_
  obtain ⟨hv1, h⟩ := gchk h
  refine g_iald dX8_treads_11 sa_64 hv1 ?_
  refine g_iadd dX8_treads_12 ?_
  refine g_iadd dX8_treads_13 ?_
  obtain ⟨S2, eS2, h⟩ := gle h
  refine g_puti dX8_treads_14 lp_X8_152 sf_51_21 eS2 ?_
  refine g_aload_n dX8_treads_17 0 rfl rfl ?_
  refine g_dup dX8_treads_18 rfl ?_
  refine g_geti dX8_treads_19 lk_X8_155 sf_51_22 ?_
  refine g_iconst (v := 1) dX8_treads_22 (by decide) ?_
  refine g_iadd dX8_treads_23 ?_
  obtain ⟨S3, eS3, h⟩ := gle h
  refine g_puti dX8_treads_24 lp_X8_155 sf_51_22 eS3 ?_
  refine g_aload_n dX8_treads_27 0 rfl rfl ?_
  refine g_getr dX8_treads_28 lk_X8_52 sf_51_17 ?_
  refine g_iload_n dX8_treads_31 1 rfl rfl ?_
  refine g_dup2 dX8_treads_32 rfl rfl ?_
  obtain ⟨hv4, h⟩ := gchk h
  refine g_iald dX8_treads_33 sa_66 hv4 ?_
  refine g_iconst (v := 1) dX8_treads_34 (by decide) ?_
  refine g_iadd dX8_treads_35 ?_
  obtain ⟨hv5, h⟩ := gchk h
  obtain ⟨S6, eS6, h⟩ := gle h
  refine g_iast dX8_treads_36 sa_66 hv5 eS6 ?_
  refine g_aload_n dX8_treads_37 0 rfl rfl ?_
  refine g_getr dX8_treads_38 lk_X8_46 sf_51_15 ?_
  refine g_iload_n dX8_treads_41 1 rfl rfl ?_
  obtain ⟨hv7, h⟩ := gchk h
  refine g_iald dX8_treads_42 sa_64 hv7 ?_
  refine g_if_le (tgt := 75) dX8_treads_43 (by decide) (fun hc8 => ?_) (fun hc8 => ?_)
  · replace h := git hc8 h
    obtain rfl := Option.some.inj h
    exact g_vret dX8_treads_75 rfl
  · replace h := gif hc8 h
    refine g_aload_n dX8_treads_46 0 rfl rfl ?_
    refine g_getr dX8_treads_47 lk_X8_46 sf_51_15 ?_
    refine g_iload_n dX8_treads_50 1 rfl rfl ?_
    refine g_dup2 dX8_treads_51 rfl rfl ?_
    obtain ⟨hv9, h⟩ := gchk h
    refine g_iald dX8_treads_52 sa_64 hv9 ?_
    refine g_iconst (v := 1) dX8_treads_53 (by decide) ?_
    refine g_isub dX8_treads_54 ?_
    obtain ⟨hv10, h⟩ := gchk h
    obtain ⟨S11, eS11, h⟩ := gle h
    refine g_iast dX8_treads_55 sa_64 hv10 eS11 ?_
    refine g_aload_n dX8_treads_56 0 rfl rfl ?_
    refine g_getr dX8_treads_57 lk_X8_49 sf_51_16 ?_
    refine g_iload_n dX8_treads_60 1 rfl rfl ?_
    refine g_aload_n dX8_treads_61 0 rfl rfl ?_
    refine g_getr dX8_treads_62 lk_X8_49 sf_51_16 ?_
    refine g_iload_n dX8_treads_65 1 rfl rfl ?_
    obtain ⟨hv12, h⟩ := gchk h
    refine g_iald dX8_treads_66 sa_65 hv12 ?_
    refine g_iconst (v := 1) dX8_treads_67 (by decide) ?_
    refine g_iadd dX8_treads_68 ?_
    refine g_bipush (v := 30) dX8_treads_69 (by decide) ?_
    obtain ⟨q13, hq13, h⟩ := gb h
    refine g_callSi [.int ((g_I S11 65 (a0).toNatClampNeg) + (1 : Int32)), .int (30 : Int32)] [.int a0, .ref (X.1 + 65)] dX8_treads_71 mk_X8_135 (ctX8_least hq13) rfl (by decide) rfl (Nat.le_of_ble_eq_true rfl) ?_
    obtain ⟨hv14, h⟩ := gchk h
    obtain ⟨S15, eS15, h⟩ := gle h
    refine g_iast dX8_treads_74 sa_65 hv14 eS15 ?_
    obtain rfl := Option.some.inj h
    exact g_vret dX8_treads_75 rfl
theorem ctX8_treads {X : gX} {F : Nat} {R : gS} {a0 : Int32} {S : gS} (h : fX8_treads F a0 S = some R) : g_C X yX8_treads cX8_treads 2 none 1 [.ref (X.1 + 51), .int a0] S none R :=
  g_met (by decide) (Nat.le_of_ble_eq_true rfl) (fX8_treads_ok h)
noncomputable def fX8_straightOf (F : Nat) (a0 : Int32) (S : gS) : Option (Int32 × gS) := (fX8_knows F (1 : Int32) S).bind (fun q1 : gS => g_chk a0 8 ((fX8_findCosts F (g_I q1 63 (a0).toNatClampNeg) (1 : Int32) q1).bind (fun q3 : gS => g_chk a0 8 ((fX8_mayBegin F (g_I q3 62 (a0).toNatClampNeg) q3).bind (fun q5 : Int32 × gS => if q5.1 = 0 then (some ((-1 : Int32), q5.2)) else (g_chk a0 8 (g_chk (g_I q5.2 62 (a0).toNatClampNeg) 64 (if (100000 : Int32) ≤ (g_I q5.2 68 ((g_I q5.2 62 (a0).toNatClampNeg)).toNatClampNeg) then (some ((-1 : Int32), q5.2)) else (g_chk a0 8 (g_chk (g_I q5.2 62 (a0).toNatClampNeg) 64 (some ((g_I q5.2 68 ((g_I q5.2 62 (a0).toNatClampNeg)).toNatClampNeg), q5.2))))))))))))
set_option maxRecDepth 20000 in
theorem fX8_straightOf_ok {X : gX} {F : Nat} {R : Int32 × gS} {a0 : Int32} {S : gS} (h : fX8_straightOf F a0 S = some R) : G X RX8 cX8_straightOf 2 (some .int) 2 (some (.int R.1)) R.2 0 [(0, .ref (X.1 + 51)), (1, .int a0)] [] S := by
  unfold fX8_straightOf at h
  refine g_aload_n dX8_straightOf_0 0 rfl rfl ?_
  refine g_iconst (v := 1) dX8_straightOf_1 (by decide) ?_
  obtain ⟨q1, hq1, h⟩ := gb h
  refine g_callVv [.int (1 : Int32)] [] dX8_straightOf_2 mk_X8_191 so_51 (ctX8_knows hq1) rfl (by decide) rfl (Nat.le_of_ble_eq_true rfl) ?_
  refine g_aload_n dX8_straightOf_5 0 rfl rfl ?_
  refine g_aload_n dX8_straightOf_6 0 rfl rfl ?_
  refine g_getr dX8_straightOf_7 lk_X8_43 sf_51_14 ?_
  refine g_iload_n dX8_straightOf_10 1 rfl rfl ?_
  obtain ⟨hv2, h⟩ := gchk h
  refine g_iald dX8_straightOf_11 sa_63 hv2 ?_
  refine g_iconst (v := 1) dX8_straightOf_12 (by decide) ?_
  obtain ⟨q3, hq3, h⟩ := gb h
  refine g_callVv [.int (g_I q1 63 (a0).toNatClampNeg), .int (1 : Int32)] [] dX8_straightOf_13 mk_X8_175 so_51 (ctX8_findCosts hq3) rfl (by decide) rfl (Nat.le_of_ble_eq_true rfl) ?_
  refine g_aload_n dX8_straightOf_16 0 rfl rfl ?_
  refine g_aload_n dX8_straightOf_17 0 rfl rfl ?_
  refine g_getr dX8_straightOf_18 lk_X8_40 sf_51_13 ?_
  refine g_iload_n dX8_straightOf_21 1 rfl rfl ?_
  obtain ⟨hv4, h⟩ := gchk h
  refine g_iald dX8_straightOf_22 sa_62 hv4 ?_
  obtain ⟨q5, hq5, h⟩ := gb h
  refine g_callVi [.int (g_I q3 62 (a0).toNatClampNeg)] [] dX8_straightOf_23 mk_X8_182 so_51 (ctX8_mayBegin hq5) rfl (by decide) rfl (Nat.le_of_ble_eq_true rfl) ?_
  refine g_if_eq (tgt := 59) dX8_straightOf_26 (by decide) (fun hc6 => ?_) (fun hc6 => ?_)
  · replace h := git hc6 h
    refine g_iconst (v := -1) dX8_straightOf_59 (by decide) ?_
    obtain rfl := Option.some.inj h
    exact g_iret dX8_straightOf_60 rfl
  · replace h := gif hc6 h
    refine g_aload_n dX8_straightOf_29 0 rfl rfl ?_
    refine g_getr dX8_straightOf_30 lk_X8_63 sf_51_20 ?_
    refine g_aload_n dX8_straightOf_33 0 rfl rfl ?_
    refine g_getr dX8_straightOf_34 lk_X8_40 sf_51_13 ?_
    refine g_iload_n dX8_straightOf_37 1 rfl rfl ?_
    obtain ⟨hv7, h⟩ := gchk h
    refine g_iald dX8_straightOf_38 sa_62 hv7 ?_
    obtain ⟨hv8, h⟩ := gchk h
    refine g_iald dX8_straightOf_39 sa_68 hv8 ?_
    refine g_ldc dX8_straightOf_40 ck_X8_170 ?_
    refine g_icmp_ge (tgt := 59) dX8_straightOf_42 (by decide) (fun hc9 => ?_) (fun hc9 => ?_)
    · replace h := git hc9 h
      refine g_iconst (v := -1) dX8_straightOf_59 (by decide) ?_
      obtain rfl := Option.some.inj h
      exact g_iret dX8_straightOf_60 rfl
    · replace h := gif hc9 h
      refine g_aload_n dX8_straightOf_45 0 rfl rfl ?_
      refine g_getr dX8_straightOf_46 lk_X8_63 sf_51_20 ?_
      refine g_aload_n dX8_straightOf_49 0 rfl rfl ?_
      refine g_getr dX8_straightOf_50 lk_X8_40 sf_51_13 ?_
      refine g_iload_n dX8_straightOf_53 1 rfl rfl ?_
      obtain ⟨hv10, h⟩ := gchk h
      refine g_iald dX8_straightOf_54 sa_62 hv10 ?_
      obtain ⟨hv11, h⟩ := gchk h
      refine g_iald dX8_straightOf_55 sa_68 hv11 ?_
      refine g_goto (tgt := 60) dX8_straightOf_56 (by decide) ?_
      obtain rfl := Option.some.inj h
      exact g_iret dX8_straightOf_60 rfl
theorem ctX8_straightOf {X : gX} {F : Nat} {R : Int32 × gS} {a0 : Int32} {S : gS} (h : fX8_straightOf F a0 S = some R) : g_C X yX8_straightOf cX8_straightOf 2 (some .int) 2 [.ref (X.1 + 51), .int a0] S (some (.int R.1)) R.2 :=
  g_met (by decide) (Nat.le_of_ble_eq_true rfl) (fX8_straightOf_ok h)
noncomputable def bX8_walks_105 (F : Nat) (k33 : (Int32 × Int32 × Int32 × Int32 × Int32 × gS) → Option (gS)) (x1 : Int32) (x2 : Int32) (x3 : Int32) (x4 : Int32) (x5 : Int32) (S : gS) : Option (gS) := k33 (x1, x2, x3, x4, x5, S)
set_option maxRecDepth 20000 in
theorem bX8_walks_105_ok {X : gX} {F : Nat} {k33 : (Int32 × Int32 × Int32 × Int32 × Int32 × gS) → Option (gS)} {R : gS} (H33 : ∀ s : Int32 × Int32 × Int32 × Int32 × Int32 × gS, k33 s = some R → G X RX8 cX8_walks 7 none 3 none R 33 [(0, .ref (X.1 + 51)), (1, .int s.1), (2, .int s.2.1), (3, .int s.2.2.1), (4, .int s.2.2.2.1), (5, .int s.2.2.2.2.1)] [] s.2.2.2.2.2) {x1 : Int32} {x2 : Int32} {x3 : Int32} {x4 : Int32} {x5 : Int32} {S : gS} (h : bX8_walks_105 F k33 x1 x2 x3 x4 x5 S = some R) : G X RX8 cX8_walks 7 none 3 none R 105 [(0, .ref (X.1 + 51)), (1, .int x1), (2, .int x2), (3, .int x3), (4, .int x4), (5, .int x5)] [] S := by
  unfold bX8_walks_105 at h
  refine g_goto (tgt := 33) dX8_walks_105 (by decide) ?_
  exact H33 (x1, x2, x3, x4, x5, S) h
noncomputable def bX8_walks_123 (F : Nat) (x1 : Int32) (x3 : Int32) (x4 : Int32) (t0 : Int32) (t1 : Int32) (S : gS) : Option (gS) := gl (g_setI S 51 23 (t1 + t0)) (fun S1 : gS => if x4 = 0 then (some S1) else ((fX8_straightOf F x1 S1).bind (fun q3 : Int32 × gS => gl (g_setI q3.2 51 24 ((g_I S1 51 24) + (((g_I S1 51 22) - x3) - q3.1))) (fun S4 : gS => some S4))))
set_option maxRecDepth 20000 in
theorem bX8_walks_123_ok {X : gX} {F : Nat} {R : gS} {x1 : Int32} {x3 : Int32} {x4 : Int32} {t0 : Int32} {t1 : Int32} {S : gS} (h : bX8_walks_123 F x1 x3 x4 t0 t1 S = some R) : G X RX8 cX8_walks 7 none 3 none R 123 [(0, .ref (X.1 + 51)), (1, .int x1), (3, .int x3), (4, .int x4)] [.int t0, .int t1, .ref (X.1 + 51)] S := by
  unfold bX8_walks_123 at h
  refine g_iadd dX8_walks_123 ?_
  obtain ⟨S1, eS1, h⟩ := gle h
  refine g_puti dX8_walks_124 lp_X8_158 sf_51_23 eS1 ?_
  refine g_iload dX8_walks_127 3 rfl ?_
  refine g_if_eq (tgt := 153) dX8_walks_129 (by decide) (fun hc2 => ?_) (fun hc2 => ?_)
  · replace h := git hc2 h
    obtain rfl := Option.some.inj h
    exact g_vret dX8_walks_153 rfl
  · replace h := gif hc2 h
    refine g_aload_n dX8_walks_132 0 rfl rfl ?_
    refine g_dup dX8_walks_133 rfl ?_
    refine g_geti dX8_walks_134 lk_X8_161 sf_51_24 ?_
    refine g_aload_n dX8_walks_137 0 rfl rfl ?_
    refine g_geti dX8_walks_138 lk_X8_155 sf_51_22 ?_
    refine g_iload_n dX8_walks_141 2 rfl rfl ?_
    refine g_isub dX8_walks_142 ?_
    refine g_aload_n dX8_walks_143 0 rfl rfl ?_
    refine g_iload_n dX8_walks_144 1 rfl rfl ?_
    obtain ⟨q3, hq3, h⟩ := gb h
    refine g_callVi [.int x1] [.int ((g_I S1 51 22) - x3), .int (g_I S1 51 24), .ref (X.1 + 51)] dX8_walks_145 mk_X8_206 so_51 (ctX8_straightOf hq3) rfl (by decide) rfl (Nat.le_of_ble_eq_true rfl) ?_
    refine g_isub dX8_walks_148 ?_
    refine g_iadd dX8_walks_149 ?_
    obtain ⟨S4, eS4, h⟩ := gle h
    refine g_puti dX8_walks_150 lp_X8_161 sf_51_24 eS4 ?_
    obtain rfl := Option.some.inj h
    exact g_vret dX8_walks_153 rfl
noncomputable def bX8_walks_108 (F : Nat) (x1 : Int32) (x3 : Int32) (x4 : Int32) (S : gS) : Option (gS) := if x4 = 0 then (bX8_walks_123 F x1 x3 x4 (1 : Int32) (g_I S 51 23) S) else (bX8_walks_123 F x1 x3 x4 (0 : Int32) (g_I S 51 23) S)
set_option maxRecDepth 20000 in
theorem bX8_walks_108_ok {X : gX} {F : Nat} {R : gS} {x1 : Int32} {x3 : Int32} {x4 : Int32} {S : gS} (h : bX8_walks_108 F x1 x3 x4 S = some R) : G X RX8 cX8_walks 7 none 3 none R 108 [(0, .ref (X.1 + 51)), (1, .int x1), (3, .int x3), (4, .int x4)] [] S := by
  unfold bX8_walks_108 at h
  refine g_aload_n dX8_walks_108 0 rfl rfl ?_
  refine g_dup dX8_walks_109 rfl ?_
  refine g_geti dX8_walks_110 lk_X8_158 sf_51_23 ?_
  refine g_iload dX8_walks_113 3 rfl ?_
  refine g_if_eq (tgt := 122) dX8_walks_115 (by decide) (fun hc1 => ?_) (fun hc1 => ?_)
  · replace h := git hc1 h
    refine g_iconst (v := 1) dX8_walks_122 (by decide) ?_
    exact bX8_walks_123_ok h
  · replace h := gif hc1 h
    refine g_iconst (v := 0) dX8_walks_118 (by decide) ?_
    refine g_goto (tgt := 123) dX8_walks_119 (by decide) ?_
    exact bX8_walks_123_ok h
noncomputable def bX8_walks_33 (F : Nat) (k33 : (Int32 × Int32 × Int32 × Int32 × Int32 × gS) → Option (gS)) (x1 : Int32) (x2 : Int32) (x3 : Int32) (x4 : Int32) (x5 : Int32) (S : gS) : Option (gS) := if x4 = 0 then (bX8_walks_108 F x1 x3 x4 S) else (g_chk x1 8 (if x2 = (g_I S 63 (x1).toNatClampNeg) then (bX8_walks_108 F x1 x3 x4 S) else (g_chk x5 64 (gl (g_I S 69 (x5).toNatClampNeg) (fun v5 : Int32 => (fX8_isHidden F v5 S).bind (fun q6 : Int32 × gS => if q6.1 = 0 then ((fX8_treads F v5 q6.2).bind (fun q8 : gS => gl (x5 + 1) (fun v9 : Int32 => bX8_walks_105 F k33 x1 v5 x3 x4 v9 q8))) else (g_chk v5 64 (gl (g_setI q6.2 67 (v5).toNatClampNeg (vp_nar .boolean (1 : Int32))) (fun S11 : gS => g_chk x1 8 ((fX8_plans F x2 (g_I S11 63 (x1).toNatClampNeg) S11).bind (fun q13 : Int32 × gS => gl q13.1 (fun v14 : Int32 => bX8_walks_105 F k33 x1 x2 x3 v14 (0 : Int32) q13.2))))))))))))
set_option maxRecDepth 20000 in
theorem bX8_walks_33_ok {X : gX} {F : Nat} {k33 : (Int32 × Int32 × Int32 × Int32 × Int32 × gS) → Option (gS)} {R : gS} (H33 : ∀ s : Int32 × Int32 × Int32 × Int32 × Int32 × gS, k33 s = some R → G X RX8 cX8_walks 7 none 3 none R 33 [(0, .ref (X.1 + 51)), (1, .int s.1), (2, .int s.2.1), (3, .int s.2.2.1), (4, .int s.2.2.2.1), (5, .int s.2.2.2.2.1)] [] s.2.2.2.2.2) {x1 : Int32} {x2 : Int32} {x3 : Int32} {x4 : Int32} {x5 : Int32} {S : gS} (h : bX8_walks_33 F k33 x1 x2 x3 x4 x5 S = some R) : G X RX8 cX8_walks 7 none 3 none R 33 [(0, .ref (X.1 + 51)), (1, .int x1), (2, .int x2), (3, .int x3), (4, .int x4), (5, .int x5)] [] S := by
  unfold bX8_walks_33 at h
  refine g_iload dX8_walks_33 4 rfl ?_
  refine g_if_eq (tgt := 108) dX8_walks_35 (by decide) (fun hc1 => ?_) (fun hc1 => ?_)
  · replace h := git hc1 h
    refine g_sub [0, 1, 3, 4] rfl ?_
    exact bX8_walks_108_ok h
  · replace h := gif hc1 h
    refine g_iload_n dX8_walks_38 2 rfl rfl ?_
    refine g_aload_n dX8_walks_39 0 rfl rfl ?_
    refine g_getr dX8_walks_40 lk_X8_43 sf_51_14 ?_
    refine g_iload_n dX8_walks_43 1 rfl rfl ?_
    obtain ⟨hv2, h⟩ := gchk h
    refine g_iald dX8_walks_44 sa_63 hv2 ?_
    refine g_icmp_eq (tgt := 108) dX8_walks_45 (by decide) (fun hc3 => ?_) (fun hc3 => ?_)
    · replace h := git hc3 h
      refine g_sub [0, 1, 3, 4] rfl ?_
      exact bX8_walks_108_ok h
    · replace h := gif hc3 h
      refine g_aload_n dX8_walks_48 0 rfl rfl ?_
      refine g_getr dX8_walks_49 lk_X8_66 sf_51_25 ?_
      refine g_iload dX8_walks_52 5 rfl ?_
      obtain ⟨hv4, h⟩ := gchk h
      refine g_iald dX8_walks_54 sa_69 hv4 ?_
      obtain ⟨v5, ev5, h⟩ := gle h
      refine g_istore (lv' := [(6, .int v5), (0, .ref (X.1 + 51)), (1, .int x1), (2, .int x2), (3, .int x3), (4, .int x4), (5, .int x5)]) dX8_walks_55 ev5 (by decide) rfl ?_
      refine g_aload_n dX8_walks_57 1 rfl rfl ?_
      refine g_iload dX8_walks_58 0 rfl ?_
      obtain ⟨q6, hq6, h⟩ := gb h
      refine g_callVi [.int v5] [] dX8_walks_60 mk_X8_164 so_51 (ctX8_isHidden hq6) rfl (by decide) rfl (Nat.le_of_ble_eq_true rfl) ?_
      refine g_if_eq (tgt := 93) dX8_walks_63 (by decide) (fun hc7 => ?_) (fun hc7 => ?_)
      · replace h := git hc7 h
        refine g_aload_n dX8_walks_93 1 rfl rfl ?_
        refine g_iload dX8_walks_94 0 rfl ?_
        obtain ⟨q8, hq8, h⟩ := gb h
        refine g_callVv [.int v5] [] dX8_walks_96 mk_X8_202 so_51 (ctX8_treads hq8) rfl (by decide) rfl (Nat.le_of_ble_eq_true rfl) ?_
        refine g_iload dX8_walks_99 0 rfl ?_
        refine g_istore_n (lv' := [(2, .int v5), (6, .int v5), (0, .ref (X.1 + 51)), (1, .int x1), (3, .int x3), (4, .int x4), (5, .int x5)]) dX8_walks_101 rfl rfl (by decide) rfl ?_
        obtain ⟨v9, ev9, h⟩ := gle h
        refine g_iinc (q := 6) (v := v9) (lv' := [(5, .int v9), (2, .int v5), (6, .int v5), (0, .ref (X.1 + 51)), (1, .int x1), (3, .int x3), (4, .int x4)]) dX8_walks_102 rfl (by rw [← ev9]; rfl) (by decide) rfl ?_
        refine g_sub [3, 4, 1, 5, 6, 0] rfl ?_
        exact bX8_walks_105_ok H33 h
      · replace h := gif hc7 h
        refine g_aload_n dX8_walks_66 1 rfl rfl ?_
        refine g_getr dX8_walks_67 lk_X8_55 sf_51_18 ?_
        refine g_iload dX8_walks_70 0 rfl ?_
        refine g_iconst (v := 1) dX8_walks_72 (by decide) ?_
        obtain ⟨hv10, h⟩ := gchk h
        obtain ⟨S11, eS11, h⟩ := gle h
        refine g_zast dX8_walks_73 sa_67 hv10 eS11 ?_
        refine g_aload_n dX8_walks_74 1 rfl rfl ?_
        refine g_iload_n dX8_walks_75 3 rfl rfl ?_
        refine g_aload_n dX8_walks_76 1 rfl rfl ?_
        refine g_getr dX8_walks_77 lk_X8_43 sf_51_14 ?_
        refine g_iload_n dX8_walks_80 2 rfl rfl ?_
        obtain ⟨hv12, h⟩ := gchk h
        refine g_iald dX8_walks_81 sa_63 hv12 ?_
        obtain ⟨q13, hq13, h⟩ := gb h
        refine g_callVi [.int x2, .int (g_I S11 63 (x1).toNatClampNeg)] [] dX8_walks_82 mk_X8_195 so_51 (ctX8_plans hq13) rfl (by decide) rfl (Nat.le_of_ble_eq_true rfl) ?_
        obtain ⟨v14, ev14, h⟩ := gle h
        refine g_istore (lv' := [(4, .int v14), (6, .int v5), (0, .ref (X.1 + 51)), (1, .int x1), (2, .int x2), (3, .int x3), (5, .int x5)]) dX8_walks_85 ev14 (by decide) rfl ?_
        refine g_iconst (v := 0) dX8_walks_87 (by decide) ?_
        refine g_istore (lv' := [(5, .int (0 : Int32)), (4, .int v14), (6, .int v5), (0, .ref (X.1 + 51)), (1, .int x1), (2, .int x2), (3, .int x3)]) dX8_walks_88 rfl (by decide) rfl ?_
        refine g_goto (tgt := 105) dX8_walks_90 (by decide) ?_
        refine g_sub [3, 4, 5, 6, 1, 0] rfl ?_
        exact bX8_walks_105_ok H33 h
noncomputable def bX8_walks_33l (F : Nat) : Nat → (Int32 × Int32 × Int32 × Int32 × Int32 × gS) → Option (gS) := g_fix (fun k33 s => bX8_walks_33 F k33 s.1 s.2.1 s.2.2.1 s.2.2.2.1 s.2.2.2.2.1 s.2.2.2.2.2)
theorem bX8_walks_33l_ok {X : gX} {F : Nat} {R : gS} : ∀ (n : Nat) (s : Int32 × Int32 × Int32 × Int32 × Int32 × gS), bX8_walks_33l F n s = some R → G X RX8 cX8_walks 7 none 3 none R 33 [(0, .ref (X.1 + 51)), (1, .int s.1), (2, .int s.2.1), (3, .int s.2.2.1), (4, .int s.2.2.2.1), (5, .int s.2.2.2.2.1)] [] s.2.2.2.2.2 := by
  intro n
  induction n with
  | zero => intro s h; cases h
  | succ n ih => intro s h; exact bX8_walks_33_ok (F := F) ih h
noncomputable def fX8_walks (F : Nat) (a0 : Int32) (S : gS) : Option (gS) := (fX8_knows F (0 : Int32) S).bind (fun q1 : gS => g_chk a0 8 (gl (g_I q1 62 (a0).toNatClampNeg) (fun v3 : Int32 => gl (g_I q1 51 22) (fun v4 : Int32 => g_chk a0 8 ((fX8_plans F v3 (g_I q1 63 (a0).toNatClampNeg) q1).bind (fun q6 : Int32 × gS => gl q6.1 (fun v7 : Int32 => bX8_walks_33l F F (a0, v3, v4, v7, (0 : Int32), q6.2))))))))
set_option maxRecDepth 20000 in
theorem fX8_walks_ok {X : gX} {F : Nat} {R : gS} {a0 : Int32} {S : gS} (h : fX8_walks F a0 S = some R) : G X RX8 cX8_walks 7 none 3 none R 0 [(0, .ref (X.1 + 51)), (1, .int a0)] [] S := by
  unfold fX8_walks at h
  refine g_aload_n dX8_walks_0 0 rfl rfl ?_
  refine g_iconst (v := 0) dX8_walks_1 (by decide) ?_
  obtain ⟨q1, hq1, h⟩ := gb h
  refine g_callVv [.int (0 : Int32)] [] dX8_walks_2 mk_X8_191 so_51 (ctX8_knows hq1) rfl (by decide) rfl (Nat.le_of_ble_eq_true rfl) ?_
  refine g_aload_n dX8_walks_5 0 rfl rfl ?_
  refine g_getr dX8_walks_6 lk_X8_40 sf_51_13 ?_
  refine g_iload_n dX8_walks_9 1 rfl rfl ?_
  obtain ⟨hv2, h⟩ := gchk h
  refine g_iald dX8_walks_10 sa_62 hv2 ?_
  obtain ⟨v3, ev3, h⟩ := gle h
  refine g_istore_n (lv' := [(2, .int v3), (0, .ref (X.1 + 51)), (1, .int a0)]) dX8_walks_11 ev3 rfl (by decide) rfl ?_
  refine g_aload_n dX8_walks_12 1 rfl rfl ?_
  refine g_geti dX8_walks_13 lk_X8_155 sf_51_22 ?_
  obtain ⟨v4, ev4, h⟩ := gle h
  refine g_istore_n (lv' := [(3, .int v4), (2, .int v3), (0, .ref (X.1 + 51)), (1, .int a0)]) dX8_walks_16 ev4 rfl (by decide) rfl ?_
  refine g_aload_n dX8_walks_17 2 rfl rfl ?_
  refine g_iload_n dX8_walks_18 1 rfl rfl ?_
  refine g_aload_n dX8_walks_19 2 rfl rfl ?_
  refine g_getr dX8_walks_20 lk_X8_43 sf_51_14 ?_
  refine g_iload_n dX8_walks_23 3 rfl rfl ?_
  obtain ⟨hv5, h⟩ := gchk h
  refine g_iald dX8_walks_24 sa_63 hv5 ?_
  obtain ⟨q6, hq6, h⟩ := gb h
  refine g_callVi [.int v3, .int (g_I q1 63 (a0).toNatClampNeg)] [] dX8_walks_25 mk_X8_195 so_51 (ctX8_plans hq6) rfl (by decide) rfl (Nat.le_of_ble_eq_true rfl) ?_
  obtain ⟨v7, ev7, h⟩ := gle h
  refine g_istore (lv' := [(4, .int v7), (3, .int v4), (2, .int v3), (0, .ref (X.1 + 51)), (1, .int a0)]) dX8_walks_28 ev7 (by decide) rfl ?_
  refine g_iconst (v := 0) dX8_walks_30 (by decide) ?_
  refine g_istore (lv' := [(5, .int (0 : Int32)), (4, .int v7), (3, .int v4), (2, .int v3), (0, .ref (X.1 + 51)), (1, .int a0)]) dX8_walks_31 rfl (by decide) rfl ?_
  refine g_sub [4, 5, 3, 2, 1, 0] rfl ?_
  exact bX8_walks_33l_ok F (a0, v3, v4, v7, (0 : Int32), q6.2) h
theorem ctX8_walks {X : gX} {F : Nat} {R : gS} {a0 : Int32} {S : gS} (h : fX8_walks F a0 S = some R) : g_C X yX8_walks cX8_walks 7 none 3 [.ref (X.1 + 51), .int a0] S none R :=
  g_met (by decide) (Nat.le_of_ble_eq_true rfl) (fX8_walks_ok h)
noncomputable def bX8_becomes_2 (F : Nat) (k2 : (Int32 × gS) → Option (Int32 × gS)) (x1 : Int32) (S : gS) : Option (Int32 × gS) := if (64 : Int32) ≤ x1 then (some ((g_I S 51 21), S)) else (g_chk x1 64 (g_chk x1 64 (gl (g_setI S 58 (x1).toNatClampNeg (g_I S 64 (x1).toNatClampNeg)) (fun S4 : gS => g_chk x1 64 (g_chk x1 64 (gl (g_setI S4 59 (x1).toNatClampNeg (g_I S4 65 (x1).toNatClampNeg)) (fun S7 : gS => g_chk x1 64 (g_chk x1 64 (g_chk x1 64 (gl (g_setI S7 61 (x1).toNatClampNeg ((g_I S7 61 (x1).toNatClampNeg) + (g_I S7 66 (x1).toNatClampNeg))) (fun S11 : gS => gl (x1 + 1) (fun v12 : Int32 => k2 (v12, S11)))))))))))))
set_option maxRecDepth 20000 in
theorem bX8_becomes_2_ok {X : gX} {F : Nat} {k2 : (Int32 × gS) → Option (Int32 × gS)} {R : Int32 × gS} (H2 : ∀ s : Int32 × gS, k2 s = some R → G X RX8 cX8_becomes 2 (some .int) 0 (some (.int R.1)) R.2 2 [(0, .ref (X.1 + 51)), (1, .int s.1)] [] s.2) {x1 : Int32} {S : gS} (h : bX8_becomes_2 F k2 x1 S = some R) : G X RX8 cX8_becomes 2 (some .int) 0 (some (.int R.1)) R.2 2 [(0, .ref (X.1 + 51)), (1, .int x1)] [] S := by
  unfold bX8_becomes_2 at h
  refine g_iload_n dX8_becomes_2 1 rfl rfl ?_
  refine g_bipush (v := 64) dX8_becomes_3 (by decide) ?_
  refine g_icmp_ge (tgt := 53) dX8_becomes_5 (by decide) (fun hc1 => ?_) (fun hc1 => ?_)
  · replace h := git hc1 h
    refine g_aload_n dX8_becomes_53 0 rfl rfl ?_
    refine g_geti dX8_becomes_54 lk_X8_152 sf_51_21 ?_
    obtain rfl := Option.some.inj h
    exact g_iret dX8_becomes_57 rfl
  · replace h := gif hc1 h
    refine g_aload_n dX8_becomes_8 0 rfl rfl ?_
    refine g_getr dX8_becomes_9 lk_X8_28 sf_51_8 ?_
    refine g_iload_n dX8_becomes_12 1 rfl rfl ?_
    refine g_aload_n dX8_becomes_13 0 rfl rfl ?_
    refine g_getr dX8_becomes_14 lk_X8_46 sf_51_15 ?_
    refine g_iload_n dX8_becomes_17 1 rfl rfl ?_
    obtain ⟨hv2, h⟩ := gchk h
    refine g_iald dX8_becomes_18 sa_64 hv2 ?_
    obtain ⟨hv3, h⟩ := gchk h
    obtain ⟨S4, eS4, h⟩ := gle h
    refine g_iast dX8_becomes_19 sa_58 hv3 eS4 ?_
    refine g_aload_n dX8_becomes_20 0 rfl rfl ?_
    refine g_getr dX8_becomes_21 lk_X8_31 sf_51_9 ?_
    refine g_iload_n dX8_becomes_24 1 rfl rfl ?_
    refine g_aload_n dX8_becomes_25 0 rfl rfl ?_
    refine g_getr dX8_becomes_26 lk_X8_49 sf_51_16 ?_
    refine g_iload_n dX8_becomes_29 1 rfl rfl ?_
    obtain ⟨hv5, h⟩ := gchk h
    refine g_iald dX8_becomes_30 sa_65 hv5 ?_
    obtain ⟨hv6, h⟩ := gchk h
    obtain ⟨S7, eS7, h⟩ := gle h
    refine g_iast dX8_becomes_31 sa_59 hv6 eS7 ?_
    refine g_aload_n dX8_becomes_32 0 rfl rfl ?_
    refine g_getr dX8_becomes_33 lk_X8_37 sf_51_11 ?_
    refine g_iload_n dX8_becomes_36 1 rfl rfl ?_
    refine g_dup2 dX8_becomes_37 rfl rfl ?_
    obtain ⟨hv8, h⟩ := gchk h
    refine g_iald dX8_becomes_38 sa_61 hv8 ?_
    refine g_aload_n dX8_becomes_39 0 rfl rfl ?_
    refine g_getr dX8_becomes_40 lk_X8_52 sf_51_17 ?_
    refine g_iload_n dX8_becomes_43 1 rfl rfl ?_
    obtain ⟨hv9, h⟩ := gchk h
    refine g_iald dX8_becomes_44 sa_66 hv9 ?_
    refine g_iadd dX8_becomes_45 ?_
    obtain ⟨hv10, h⟩ := gchk h
    obtain ⟨S11, eS11, h⟩ := gle h
    refine g_iast dX8_becomes_46 sa_61 hv10 eS11 ?_
    obtain ⟨v12, ev12, h⟩ := gle h
    refine g_iinc (q := 1) (v := v12) (lv' := [(1, .int v12), (0, .ref (X.1 + 51))]) dX8_becomes_47 rfl (by rw [← ev12]; rfl) (by decide) rfl ?_
    refine g_goto (tgt := 2) dX8_becomes_50 (by decide) ?_
    refine g_sub [1, 0] rfl ?_
    exact H2 (v12, S11) h
noncomputable def bX8_becomes_2l (F : Nat) : Nat → (Int32 × gS) → Option (Int32 × gS) := g_fix (fun k2 s => bX8_becomes_2 F k2 s.1 s.2)
theorem bX8_becomes_2l_ok {X : gX} {F : Nat} {R : Int32 × gS} : ∀ (n : Nat) (s : Int32 × gS), bX8_becomes_2l F n s = some R → G X RX8 cX8_becomes 2 (some .int) 0 (some (.int R.1)) R.2 2 [(0, .ref (X.1 + 51)), (1, .int s.1)] [] s.2 := by
  intro n
  induction n with
  | zero => intro s h; cases h
  | succ n ih => intro s h; exact bX8_becomes_2_ok (F := F) ih h
noncomputable def fX8_becomes (F : Nat) (S : gS) : Option (Int32 × gS) := bX8_becomes_2l F F ((0 : Int32), S)
set_option maxRecDepth 20000 in
theorem fX8_becomes_ok {X : gX} {F : Nat} {R : Int32 × gS} {S : gS} (h : fX8_becomes F S = some R) : G X RX8 cX8_becomes 2 (some .int) 0 (some (.int R.1)) R.2 0 [(0, .ref (X.1 + 51))] [] S := by
  unfold fX8_becomes at h
  refine g_iconst (v := 0) dX8_becomes_0 (by decide) ?_
  refine g_istore_n (lv' := [(1, .int (0 : Int32)), (0, .ref (X.1 + 51))]) dX8_becomes_1 rfl rfl (by decide) rfl ?_
  refine g_sub [1, 0] rfl ?_
  exact bX8_becomes_2l_ok F ((0 : Int32), S) h
theorem ctX8_becomes {X : gX} {F : Nat} {R : Int32 × gS} {S : gS} (h : fX8_becomes F S = some R) : g_C X yX8_becomes cX8_becomes 2 (some .int) 0 [.ref (X.1 + 51)] S (some (.int R.1)) R.2 :=
  g_met (by decide) (Nat.le_of_ble_eq_true rfl) (fX8_becomes_ok h)
noncomputable def fX8_walk (F : Nat) (a0 : Int32) (S : gS) : Option (Int32 × gS) := (fX8_isWalker F a0 S).bind (fun q1 : Int32 × gS => if q1.1 = 0 then (some ((-2 : Int32), q1.2)) else ((fX8_tries F q1.2).bind (fun q3 : gS => (fX8_walks F a0 q3).bind (fun q4 : gS => (fX8_becomes F q4).bind (fun q5 : Int32 × gS => some (q5.1, q5.2))))))
set_option maxRecDepth 20000 in
theorem fX8_walk_ok {X : gX} {F : Nat} {R : Int32 × gS} {a0 : Int32} {S : gS} (h : fX8_walk F a0 S = some R) : G X RX8 cX8_walk 2 (some .int) 4 (some (.int R.1)) R.2 0 [(0, .ref (X.1 + 51)), (1, .int a0)] [] S := by
  unfold fX8_walk at h
  refine g_aload_n dX8_walk_0 0 rfl rfl ?_
  refine g_iload_n dX8_walk_1 1 rfl rfl ?_
  obtain ⟨q1, hq1, h⟩ := gb h
  refine g_callVi [.int a0] [] dX8_walk_2 mk_X8_209 so_51 (ctX8_isWalker hq1) rfl (by decide) rfl (Nat.le_of_ble_eq_true rfl) ?_
  refine g_if_ne (tgt := 11) dX8_walk_5 (by decide) (fun hc2 => ?_) (fun hc2 => ?_)
  · replace h := gif hc2 h
    refine g_aload_n dX8_walk_11 0 rfl rfl ?_
    obtain ⟨q3, hq3, h⟩ := gb h
    refine g_callVv [] [] dX8_walk_12 mk_X8_188 so_51 (ctX8_tries hq3) rfl (by decide) rfl (Nat.le_of_ble_eq_true rfl) ?_
    refine g_aload_n dX8_walk_15 0 rfl rfl ?_
    refine g_iload_n dX8_walk_16 1 rfl rfl ?_
    obtain ⟨q4, hq4, h⟩ := gb h
    refine g_callVv [.int a0] [] dX8_walk_17 mk_X8_212 so_51 (ctX8_walks hq4) rfl (by decide) rfl (Nat.le_of_ble_eq_true rfl) ?_
    refine g_aload_n dX8_walk_20 0 rfl rfl ?_
    obtain ⟨q5, hq5, h⟩ := gb h
    refine g_callVi [] [] dX8_walk_21 mk_X8_215 so_51 (ctX8_becomes hq5) rfl (by decide) rfl (Nat.le_of_ble_eq_true rfl) ?_
    obtain rfl := Option.some.inj h
    exact g_iret dX8_walk_24 rfl
  · replace h := git hc2 h
    refine g_bipush (v := -2) dX8_walk_8 (by decide) ?_
    obtain rfl := Option.some.inj h
    exact g_iret dX8_walk_10 rfl
theorem ctX8_walk {X : gX} {F : Nat} {R : Int32 × gS} {a0 : Int32} {S : gS} (h : fX8_walk F a0 S = some R) : g_C X yX8_walk cX8_walk 2 (some .int) 4 [.ref (X.1 + 51), .int a0] S (some (.int R.1)) R.2 :=
  g_met (by decide) (Nat.le_of_ble_eq_true rfl) (fX8_walk_ok h)
noncomputable def bX8_mornings_2 (F : Nat) (k2 : (Int32 × gS) → Option (gS)) (x1 : Int32) (S : gS) : Option (gS) := if (g_I S 51 12) ≤ x1 then (some S) else ((fX8_walks F x1 S).bind (fun q2 : gS => gl (x1 + 1) (fun v3 : Int32 => k2 (v3, q2))))
set_option maxRecDepth 20000 in
theorem bX8_mornings_2_ok {X : gX} {F : Nat} {k2 : (Int32 × gS) → Option (gS)} {R : gS} (H2 : ∀ s : Int32 × gS, k2 s = some R → G X RX8 cX8_mornings 2 none 4 none R 2 [(0, .ref (X.1 + 51)), (1, .int s.1)] [] s.2) {x1 : Int32} {S : gS} (h : bX8_mornings_2 F k2 x1 S = some R) : G X RX8 cX8_mornings 2 none 4 none R 2 [(0, .ref (X.1 + 51)), (1, .int x1)] [] S := by
  unfold bX8_mornings_2 at h
  refine g_iload_n dX8_mornings_2 1 rfl rfl ?_
  refine g_aload_n dX8_mornings_3 0 rfl rfl ?_
  refine g_geti dX8_mornings_4 lk_X8_146 sf_51_12 ?_
  refine g_icmp_ge (tgt := 21) dX8_mornings_7 (by decide) (fun hc1 => ?_) (fun hc1 => ?_)
  · replace h := git hc1 h
    obtain rfl := Option.some.inj h
    exact g_vret dX8_mornings_21 rfl
  · replace h := gif hc1 h
    refine g_aload_n dX8_mornings_10 0 rfl rfl ?_
    refine g_iload_n dX8_mornings_11 1 rfl rfl ?_
    obtain ⟨q2, hq2, h⟩ := gb h
    refine g_callVv [.int x1] [] dX8_mornings_12 mk_X8_212 so_51 (ctX8_walks hq2) rfl (by decide) rfl (Nat.le_of_ble_eq_true rfl) ?_
    obtain ⟨v3, ev3, h⟩ := gle h
    refine g_iinc (q := 1) (v := v3) (lv' := [(1, .int v3), (0, .ref (X.1 + 51))]) dX8_mornings_15 rfl (by rw [← ev3]; rfl) (by decide) rfl ?_
    refine g_goto (tgt := 2) dX8_mornings_18 (by decide) ?_
    refine g_sub [1, 0] rfl ?_
    exact H2 (v3, q2) h
noncomputable def bX8_mornings_2l (F : Nat) : Nat → (Int32 × gS) → Option (gS) := g_fix (fun k2 s => bX8_mornings_2 F k2 s.1 s.2)
theorem bX8_mornings_2l_ok {X : gX} {F : Nat} {R : gS} : ∀ (n : Nat) (s : Int32 × gS), bX8_mornings_2l F n s = some R → G X RX8 cX8_mornings 2 none 4 none R 2 [(0, .ref (X.1 + 51)), (1, .int s.1)] [] s.2 := by
  intro n
  induction n with
  | zero => intro s h; cases h
  | succ n ih => intro s h; exact bX8_mornings_2_ok (F := F) ih h
noncomputable def fX8_mornings (F : Nat) (S : gS) : Option (gS) := bX8_mornings_2l F F ((0 : Int32), S)
set_option maxRecDepth 20000 in
theorem fX8_mornings_ok {X : gX} {F : Nat} {R : gS} {S : gS} (h : fX8_mornings F S = some R) : G X RX8 cX8_mornings 2 none 4 none R 0 [(0, .ref (X.1 + 51))] [] S := by
  unfold fX8_mornings at h
  refine g_iconst (v := 0) dX8_mornings_0 (by decide) ?_
  refine g_istore_n (lv' := [(1, .int (0 : Int32)), (0, .ref (X.1 + 51))]) dX8_mornings_1 rfl rfl (by decide) rfl ?_
  refine g_sub [1, 0] rfl ?_
  exact bX8_mornings_2l_ok F ((0 : Int32), S) h
theorem ctX8_mornings {X : gX} {F : Nat} {R : gS} {S : gS} (h : fX8_mornings F S = some R) : g_C X yX8_mornings cX8_mornings 2 none 4 [.ref (X.1 + 51)] S none R :=
  g_met (by decide) (Nat.le_of_ble_eq_true rfl) (fX8_mornings_ok h)
noncomputable def fX8_morning (F : Nat) (S : gS) : Option (Int32 × gS) := (fX8_tries F S).bind (fun q1 : gS => (fX8_mornings F q1).bind (fun q2 : gS => (fX8_becomes F q2).bind (fun q3 : Int32 × gS => some (q3.1, q3.2))))
set_option maxRecDepth 20000 in
theorem fX8_morning_ok {X : gX} {F : Nat} {R : Int32 × gS} {S : gS} (h : fX8_morning F S = some R) : G X RX8 cX8_morning 1 (some .int) 5 (some (.int R.1)) R.2 0 [(0, .ref (X.1 + 51))] [] S := by
  unfold fX8_morning at h
  refine g_aload_n dX8_morning_0 0 rfl rfl ?_
  obtain ⟨q1, hq1, h⟩ := gb h
  refine g_callVv [] [] dX8_morning_1 mk_X8_188 so_51 (ctX8_tries hq1) rfl (by decide) rfl (Nat.le_of_ble_eq_true rfl) ?_
  refine g_aload_n dX8_morning_4 0 rfl rfl ?_
  obtain ⟨q2, hq2, h⟩ := gb h
  refine g_callVv [] [] dX8_morning_5 mk_X8_218 so_51 (ctX8_mornings hq2) rfl (by decide) rfl (Nat.le_of_ble_eq_true rfl) ?_
  refine g_aload_n dX8_morning_8 0 rfl rfl ?_
  obtain ⟨q3, hq3, h⟩ := gb h
  refine g_callVi [] [] dX8_morning_9 mk_X8_215 so_51 (ctX8_becomes hq3) rfl (by decide) rfl (Nat.le_of_ble_eq_true rfl) ?_
  obtain rfl := Option.some.inj h
  exact g_iret dX8_morning_12 rfl
theorem ctX8_morning {X : gX} {F : Nat} {R : Int32 × gS} {S : gS} (h : fX8_morning F S = some R) : g_C X yX8_morning cX8_morning 1 (some .int) 5 [.ref (X.1 + 51)] S (some (.int R.1)) R.2 :=
  g_met (by decide) (Nat.le_of_ble_eq_true rfl) (fX8_morning_ok h)
noncomputable def bX8_allOf_33 (F : Nat) (k12 : (Int32 × Int32 × Int32 × gS) → Option (Int32 × gS)) (x1 : Int32) (x3 : Int32) (t0 : Int32) (t1 : Int32) (S : gS) : Option (Int32 × gS) := gl (t1 + t0) (fun v1 : Int32 => gl (x3 + 1) (fun v2 : Int32 => k12 (x1, v1, v2, S)))
set_option maxRecDepth 20000 in
theorem bX8_allOf_33_ok {X : gX} {F : Nat} {k12 : (Int32 × Int32 × Int32 × gS) → Option (Int32 × gS)} {R : Int32 × gS} (H12 : ∀ s : Int32 × Int32 × Int32 × gS, k12 s = some R → G X RX8 cX8_allOf 4 (some .int) 5 (some (.int R.1)) R.2 12 [(0, .ref (X.1 + 51)), (1, .int s.1), (2, .int s.2.1), (3, .int s.2.2.1)] [] s.2.2.2) {x1 : Int32} {x3 : Int32} {t0 : Int32} {t1 : Int32} {S : gS} (h : bX8_allOf_33 F k12 x1 x3 t0 t1 S = some R) : G X RX8 cX8_allOf 4 (some .int) 5 (some (.int R.1)) R.2 33 [(0, .ref (X.1 + 51)), (1, .int x1), (3, .int x3)] [.int t0, .int t1] S := by
  unfold bX8_allOf_33 at h
  refine g_iadd dX8_allOf_33 ?_
  obtain ⟨v1, ev1, h⟩ := gle h
  refine g_istore_n (lv' := [(2, .int v1), (0, .ref (X.1 + 51)), (1, .int x1), (3, .int x3)]) dX8_allOf_34 ev1 rfl (by decide) rfl ?_
  obtain ⟨v2, ev2, h⟩ := gle h
  refine g_iinc (q := 3) (v := v2) (lv' := [(3, .int v2), (2, .int v1), (0, .ref (X.1 + 51)), (1, .int x1)]) dX8_allOf_35 rfl (by rw [← ev2]; rfl) (by decide) rfl ?_
  refine g_goto (tgt := 12) dX8_allOf_38 (by decide) ?_
  refine g_sub [2, 3, 1, 0] rfl ?_
  exact H12 (x1, v1, v2, S) h
noncomputable def bX8_allOf_12 (F : Nat) (k12 : (Int32 × Int32 × Int32 × gS) → Option (Int32 × gS)) (x1 : Int32) (x2 : Int32) (x3 : Int32) (S : gS) : Option (Int32 × gS) := if (64 : Int32) ≤ x3 then (if x1 = 0 then (some ((g_I S 51 21), S)) else (if x1 = (1 : Int32) then (some ((g_I S 51 22), S)) else (if x1 = (2 : Int32) then (some (x2, S)) else (some ((g_I S 51 23), S))))) else (g_chk x3 64 (if (g_I S 66 (x3).toNatClampNeg) ≤ 0 then (bX8_allOf_33 F k12 x1 x3 (0 : Int32) x2 S) else (bX8_allOf_33 F k12 x1 x3 (1 : Int32) x2 S)))
set_option maxRecDepth 20000 in
theorem bX8_allOf_12_ok {X : gX} {F : Nat} {k12 : (Int32 × Int32 × Int32 × gS) → Option (Int32 × gS)} {R : Int32 × gS} (H12 : ∀ s : Int32 × Int32 × Int32 × gS, k12 s = some R → G X RX8 cX8_allOf 4 (some .int) 5 (some (.int R.1)) R.2 12 [(0, .ref (X.1 + 51)), (1, .int s.1), (2, .int s.2.1), (3, .int s.2.2.1)] [] s.2.2.2) {x1 : Int32} {x2 : Int32} {x3 : Int32} {S : gS} (h : bX8_allOf_12 F k12 x1 x2 x3 S = some R) : G X RX8 cX8_allOf 4 (some .int) 5 (some (.int R.1)) R.2 12 [(0, .ref (X.1 + 51)), (1, .int x1), (2, .int x2), (3, .int x3)] [] S := by
  unfold bX8_allOf_12 at h
  refine g_iload_n dX8_allOf_12 3 rfl rfl ?_
  refine g_bipush (v := 64) dX8_allOf_13 (by decide) ?_
  refine g_icmp_ge (tgt := 41) dX8_allOf_15 (by decide) (fun hc1 => ?_) (fun hc1 => ?_)
  · replace h := git hc1 h
    refine g_iload_n dX8_allOf_41 1 rfl rfl ?_
    refine g_if_ne (tgt := 52) dX8_allOf_42 (by decide) (fun hc2 => ?_) (fun hc2 => ?_)
    · replace h := gif hc2 h
      refine g_iload_n dX8_allOf_52 1 rfl rfl ?_
      refine g_iconst (v := 1) dX8_allOf_53 (by decide) ?_
      refine g_icmp_ne (tgt := 64) dX8_allOf_54 (by decide) (fun hc3 => ?_) (fun hc3 => ?_)
      · replace h := gif hc3 h
        refine g_iload_n dX8_allOf_64 1 rfl rfl ?_
        refine g_iconst (v := 2) dX8_allOf_65 (by decide) ?_
        refine g_icmp_ne (tgt := 73) dX8_allOf_66 (by decide) (fun hc4 => ?_) (fun hc4 => ?_)
        · replace h := gif hc4 h
          refine g_aload_n dX8_allOf_73 0 rfl rfl ?_
          refine g_geti dX8_allOf_74 lk_X8_158 sf_51_23 ?_
          obtain rfl := Option.some.inj h
          exact g_iret dX8_allOf_77 rfl
        · replace h := git hc4 h
          refine g_iload_n dX8_allOf_69 2 rfl rfl ?_
          refine g_goto (tgt := 77) dX8_allOf_70 (by decide) ?_
          obtain rfl := Option.some.inj h
          exact g_iret dX8_allOf_77 rfl
      · replace h := git hc3 h
        refine g_aload_n dX8_allOf_57 0 rfl rfl ?_
        refine g_geti dX8_allOf_58 lk_X8_155 sf_51_22 ?_
        refine g_goto (tgt := 77) dX8_allOf_61 (by decide) ?_
        obtain rfl := Option.some.inj h
        exact g_iret dX8_allOf_77 rfl
    · replace h := git hc2 h
      refine g_aload_n dX8_allOf_45 0 rfl rfl ?_
      refine g_geti dX8_allOf_46 lk_X8_152 sf_51_21 ?_
      refine g_goto (tgt := 77) dX8_allOf_49 (by decide) ?_
      obtain rfl := Option.some.inj h
      exact g_iret dX8_allOf_77 rfl
  · replace h := gif hc1 h
    refine g_iload_n dX8_allOf_18 2 rfl rfl ?_
    refine g_aload_n dX8_allOf_19 0 rfl rfl ?_
    refine g_getr dX8_allOf_20 lk_X8_52 sf_51_17 ?_
    refine g_iload_n dX8_allOf_23 3 rfl rfl ?_
    obtain ⟨hv5, h⟩ := gchk h
    refine g_iald dX8_allOf_24 sa_66 hv5 ?_
    refine g_if_le (tgt := 32) dX8_allOf_25 (by decide) (fun hc6 => ?_) (fun hc6 => ?_)
    · replace h := git hc6 h
      refine g_iconst (v := 0) dX8_allOf_32 (by decide) ?_
      refine g_sub [0, 1, 3] rfl ?_
      exact bX8_allOf_33_ok H12 h
    · replace h := gif hc6 h
      refine g_iconst (v := 1) dX8_allOf_28 (by decide) ?_
      refine g_goto (tgt := 33) dX8_allOf_29 (by decide) ?_
      refine g_sub [0, 1, 3] rfl ?_
      exact bX8_allOf_33_ok H12 h
noncomputable def bX8_allOf_12l (F : Nat) : Nat → (Int32 × Int32 × Int32 × gS) → Option (Int32 × gS) := g_fix (fun k12 s => bX8_allOf_12 F k12 s.1 s.2.1 s.2.2.1 s.2.2.2)
theorem bX8_allOf_12l_ok {X : gX} {F : Nat} {R : Int32 × gS} : ∀ (n : Nat) (s : Int32 × Int32 × Int32 × gS), bX8_allOf_12l F n s = some R → G X RX8 cX8_allOf 4 (some .int) 5 (some (.int R.1)) R.2 12 [(0, .ref (X.1 + 51)), (1, .int s.1), (2, .int s.2.1), (3, .int s.2.2.1)] [] s.2.2.2 := by
  intro n
  induction n with
  | zero => intro s h; cases h
  | succ n ih => intro s h; exact bX8_allOf_12_ok (F := F) ih h
noncomputable def fX8_allOf (F : Nat) (a0 : Int32) (S : gS) : Option (Int32 × gS) := (fX8_tries F S).bind (fun q1 : gS => (fX8_mornings F q1).bind (fun q2 : gS => bX8_allOf_12l F F (a0, (0 : Int32), (0 : Int32), q2)))
set_option maxRecDepth 20000 in
theorem fX8_allOf_ok {X : gX} {F : Nat} {R : Int32 × gS} {a0 : Int32} {S : gS} (h : fX8_allOf F a0 S = some R) : G X RX8 cX8_allOf 4 (some .int) 5 (some (.int R.1)) R.2 0 [(0, .ref (X.1 + 51)), (1, .int a0)] [] S := by
  unfold fX8_allOf at h
  refine g_aload_n dX8_allOf_0 0 rfl rfl ?_
  obtain ⟨q1, hq1, h⟩ := gb h
  refine g_callVv [] [] dX8_allOf_1 mk_X8_188 so_51 (ctX8_tries hq1) rfl (by decide) rfl (Nat.le_of_ble_eq_true rfl) ?_
  refine g_aload_n dX8_allOf_4 0 rfl rfl ?_
  obtain ⟨q2, hq2, h⟩ := gb h
  refine g_callVv [] [] dX8_allOf_5 mk_X8_218 so_51 (ctX8_mornings hq2) rfl (by decide) rfl (Nat.le_of_ble_eq_true rfl) ?_
  refine g_iconst (v := 0) dX8_allOf_8 (by decide) ?_
  refine g_istore_n (lv' := [(2, .int (0 : Int32)), (0, .ref (X.1 + 51)), (1, .int a0)]) dX8_allOf_9 rfl rfl (by decide) rfl ?_
  refine g_iconst (v := 0) dX8_allOf_10 (by decide) ?_
  refine g_istore_n (lv' := [(3, .int (0 : Int32)), (2, .int (0 : Int32)), (0, .ref (X.1 + 51)), (1, .int a0)]) dX8_allOf_11 rfl rfl (by decide) rfl ?_
  refine g_sub [2, 3, 1, 0] rfl ?_
  exact bX8_allOf_12l_ok F (a0, (0 : Int32), (0 : Int32), q2) h
theorem ctX8_allOf {X : gX} {F : Nat} {R : Int32 × gS} {a0 : Int32} {S : gS} (h : fX8_allOf F a0 S = some R) : g_C X yX8_allOf cX8_allOf 4 (some .int) 5 [.ref (X.1 + 51), .int a0] S (some (.int R.1)) R.2 :=
  g_met (by decide) (Nat.le_of_ble_eq_true rfl) (fX8_allOf_ok h)
noncomputable def fX8_all (F : Nat) (a0 : Int32) (S : gS) : Option (Int32 × gS) := (fX8_in F ((a0).toInt64) (0 : Int64) (3 : Int64) S).bind (fun q1 : Int32 × gS => if q1.1 = 0 then (some ((-2 : Int32), q1.2)) else ((fX8_allOf F a0 q1.2).bind (fun q3 : Int32 × gS => some (q3.1, q3.2))))
set_option maxRecDepth 20000 in
theorem fX8_all_ok {X : gX} {F : Nat} {R : Int32 × gS} {a0 : Int32} {S : gS} (h : fX8_all F a0 S = some R) : G X RX8 cX8_all 2 (some .int) 6 (some (.int R.1)) R.2 0 [(0, .ref (X.1 + 51)), (1, .int a0)] [] S := by
  unfold fX8_all at h
  refine g_iload_n dX8_all_0 1 rfl rfl ?_
  refine g_i2l dX8_all_1 ?_
  refine g_lconst (v := 0) dX8_all_2 (by decide) ?_
  refine g_ldc2 dX8_all_3 ck_X8_89 ?_
  obtain ⟨q1, hq1, h⟩ := gb h
  refine g_callSi [.long ((a0).toInt64), .long (0 : Int64), .long (3 : Int64)] [] dX8_all_6 mk_X8_80 (ctX8_in hq1) rfl (by decide) rfl (Nat.le_of_ble_eq_true rfl) ?_
  refine g_if_eq (tgt := 20) dX8_all_9 (by decide) (fun hc2 => ?_) (fun hc2 => ?_)
  · replace h := git hc2 h
    refine g_bipush (v := -2) dX8_all_20 (by decide) ?_
    obtain rfl := Option.some.inj h
    exact g_iret dX8_all_22 rfl
  · replace h := gif hc2 h
    refine g_aload_n dX8_all_12 0 rfl rfl ?_
    refine g_iload_n dX8_all_13 1 rfl rfl ?_
    obtain ⟨q3, hq3, h⟩ := gb h
    refine g_callVi [.int a0] [] dX8_all_14 mk_X8_221 so_51 (ctX8_allOf hq3) rfl (by decide) rfl (Nat.le_of_ble_eq_true rfl) ?_
    refine g_goto (tgt := 22) dX8_all_17 (by decide) ?_
    obtain rfl := Option.some.inj h
    exact g_iret dX8_all_22 rfl
theorem ctX8_all {X : gX} {F : Nat} {R : Int32 × gS} {a0 : Int32} {S : gS} (h : fX8_all F a0 S = some R) : g_C X yX8_all cX8_all 2 (some .int) 6 [.ref (X.1 + 51), .int a0] S (some (.int R.1)) R.2 :=
  g_met (by decide) (Nat.le_of_ble_eq_true rfl) (fX8_all_ok h)
noncomputable def fX8_straight (F : Nat) (a0 : Int32) (S : gS) : Option (Int32 × gS) := (fX8_isWalker F a0 S).bind (fun q1 : Int32 × gS => if q1.1 = 0 then (some ((-2 : Int32), q1.2)) else ((fX8_tries F q1.2).bind (fun q3 : gS => (fX8_straightOf F a0 q3).bind (fun q4 : Int32 × gS => some (q4.1, q4.2)))))
set_option maxRecDepth 20000 in
theorem fX8_straight_ok {X : gX} {F : Nat} {R : Int32 × gS} {a0 : Int32} {S : gS} (h : fX8_straight F a0 S = some R) : G X RX8 cX8_straight 2 (some .int) 4 (some (.int R.1)) R.2 0 [(0, .ref (X.1 + 51)), (1, .int a0)] [] S := by
  unfold fX8_straight at h
  refine g_aload_n dX8_straight_0 0 rfl rfl ?_
  refine g_iload_n dX8_straight_1 1 rfl rfl ?_
  obtain ⟨q1, hq1, h⟩ := gb h
  refine g_callVi [.int a0] [] dX8_straight_2 mk_X8_209 so_51 (ctX8_isWalker hq1) rfl (by decide) rfl (Nat.le_of_ble_eq_true rfl) ?_
  refine g_if_ne (tgt := 11) dX8_straight_5 (by decide) (fun hc2 => ?_) (fun hc2 => ?_)
  · replace h := gif hc2 h
    refine g_aload_n dX8_straight_11 0 rfl rfl ?_
    obtain ⟨q3, hq3, h⟩ := gb h
    refine g_callVv [] [] dX8_straight_12 mk_X8_188 so_51 (ctX8_tries hq3) rfl (by decide) rfl (Nat.le_of_ble_eq_true rfl) ?_
    refine g_aload_n dX8_straight_15 0 rfl rfl ?_
    refine g_iload_n dX8_straight_16 1 rfl rfl ?_
    obtain ⟨q4, hq4, h⟩ := gb h
    refine g_callVi [.int a0] [] dX8_straight_17 mk_X8_206 so_51 (ctX8_straightOf hq4) rfl (by decide) rfl (Nat.le_of_ble_eq_true rfl) ?_
    obtain rfl := Option.some.inj h
    exact g_iret dX8_straight_20 rfl
  · replace h := git hc2 h
    refine g_bipush (v := -2) dX8_straight_8 (by decide) ?_
    obtain rfl := Option.some.inj h
    exact g_iret dX8_straight_10 rfl
theorem ctX8_straight {X : gX} {F : Nat} {R : Int32 × gS} {a0 : Int32} {S : gS} (h : fX8_straight F a0 S = some R) : g_C X yX8_straight cX8_straight 2 (some .int) 4 [.ref (X.1 + 51), .int a0] S (some (.int R.1)) R.2 :=
  g_met (by decide) (Nat.le_of_ble_eq_true rfl) (fX8_straight_ok h)
noncomputable def fX8_longerNow (F : Nat) (S : gS) : Option (Int32 × gS) := (fX8_tries F S).bind (fun q1 : gS => (fX8_mornings F q1).bind (fun q2 : gS => some ((g_I q2 51 24), q2)))
set_option maxRecDepth 20000 in
theorem fX8_longerNow_ok {X : gX} {F : Nat} {R : Int32 × gS} {S : gS} (h : fX8_longerNow F S = some R) : G X RX8 cX8_longerNow 1 (some .int) 5 (some (.int R.1)) R.2 0 [(0, .ref (X.1 + 51))] [] S := by
  unfold fX8_longerNow at h
  refine g_aload_n dX8_longerNow_0 0 rfl rfl ?_
  obtain ⟨q1, hq1, h⟩ := gb h
  refine g_callVv [] [] dX8_longerNow_1 mk_X8_188 so_51 (ctX8_tries hq1) rfl (by decide) rfl (Nat.le_of_ble_eq_true rfl) ?_
  refine g_aload_n dX8_longerNow_4 0 rfl rfl ?_
  obtain ⟨q2, hq2, h⟩ := gb h
  refine g_callVv [] [] dX8_longerNow_5 mk_X8_218 so_51 (ctX8_mornings hq2) rfl (by decide) rfl (Nat.le_of_ble_eq_true rfl) ?_
  refine g_aload_n dX8_longerNow_8 0 rfl rfl ?_
  refine g_geti dX8_longerNow_9 lk_X8_161 sf_51_24 ?_
  obtain rfl := Option.some.inj h
  exact g_iret dX8_longerNow_12 rfl
theorem ctX8_longerNow {X : gX} {F : Nat} {R : Int32 × gS} {S : gS} (h : fX8_longerNow F S = some R) : g_C X yX8_longerNow cX8_longerNow 1 (some .int) 5 [.ref (X.1 + 51)] S (some (.int R.1)) R.2 :=
  g_met (by decide) (Nat.le_of_ble_eq_true rfl) (fX8_longerNow_ok h)
noncomputable def fX8_longer (F : Nat) (S : gS) : Option (Int32 × gS) := (fX8_longerNow F S).bind (fun q1 : Int32 × gS => some (q1.1, q1.2))
set_option maxRecDepth 20000 in
theorem fX8_longer_ok {X : gX} {F : Nat} {R : Int32 × gS} {S : gS} (h : fX8_longer F S = some R) : G X RX8 cX8_longer 1 (some .int) 6 (some (.int R.1)) R.2 0 [(0, .ref (X.1 + 51))] [] S := by
  unfold fX8_longer at h
  refine g_aload_n dX8_longer_0 0 rfl rfl ?_
  obtain ⟨q1, hq1, h⟩ := gb h
  refine g_callVi [] [] dX8_longer_1 mk_X8_224 so_51 (ctX8_longerNow hq1) rfl (by decide) rfl (Nat.le_of_ble_eq_true rfl) ?_
  obtain rfl := Option.some.inj h
  exact g_iret dX8_longer_4 rfl
theorem ctX8_longer {X : gX} {F : Nat} {R : Int32 × gS} {S : gS} (h : fX8_longer F S = some R) : g_C X yX8_longer cX8_longer 1 (some .int) 6 [.ref (X.1 + 51)] S (some (.int R.1)) R.2 :=
  g_met (by decide) (Nat.le_of_ble_eq_true rfl) (fX8_longer_ok h)
noncomputable def bX8_codes_4 (F : Nat) (k4 : (Int32 × Int32 × gS) → Option (Int32 × gS)) (x1 : Int32) (x2 : Int32) (S : gS) : Option (Int32 × gS) := if (g_I S 51 12) ≤ x2 then (some (x1, S)) else (gl (x1 * (g_I S 51 12)) (fun v2 : Int32 => gl (x2 + 1) (fun v3 : Int32 => k4 (v2, v3, S))))
set_option maxRecDepth 20000 in
theorem bX8_codes_4_ok {X : gX} {F : Nat} {k4 : (Int32 × Int32 × gS) → Option (Int32 × gS)} {R : Int32 × gS} (H4 : ∀ s : Int32 × Int32 × gS, k4 s = some R → G X RX8 cX8_codes 3 (some .int) 0 (some (.int R.1)) R.2 4 [(0, .ref (X.1 + 51)), (1, .int s.1), (2, .int s.2.1)] [] s.2.2) {x1 : Int32} {x2 : Int32} {S : gS} (h : bX8_codes_4 F k4 x1 x2 S = some R) : G X RX8 cX8_codes 3 (some .int) 0 (some (.int R.1)) R.2 4 [(0, .ref (X.1 + 51)), (1, .int x1), (2, .int x2)] [] S := by
  unfold bX8_codes_4 at h
  refine g_iload_n dX8_codes_4 2 rfl rfl ?_
  refine g_aload_n dX8_codes_5 0 rfl rfl ?_
  refine g_geti dX8_codes_6 lk_X8_146 sf_51_12 ?_
  refine g_icmp_ge (tgt := 25) dX8_codes_9 (by decide) (fun hc1 => ?_) (fun hc1 => ?_)
  · replace h := git hc1 h
    refine g_iload_n dX8_codes_25 1 rfl rfl ?_
    obtain rfl := Option.some.inj h
    exact g_iret dX8_codes_26 rfl
  · replace h := gif hc1 h
    refine g_iload_n dX8_codes_12 1 rfl rfl ?_
    refine g_aload_n dX8_codes_13 0 rfl rfl ?_
    refine g_geti dX8_codes_14 lk_X8_146 sf_51_12 ?_
    refine g_imul dX8_codes_17 ?_
    obtain ⟨v2, ev2, h⟩ := gle h
    refine g_istore_n (lv' := [(1, .int v2), (0, .ref (X.1 + 51)), (2, .int x2)]) dX8_codes_18 ev2 rfl (by decide) rfl ?_
    obtain ⟨v3, ev3, h⟩ := gle h
    refine g_iinc (q := 2) (v := v3) (lv' := [(2, .int v3), (1, .int v2), (0, .ref (X.1 + 51))]) dX8_codes_19 rfl (by rw [← ev3]; rfl) (by decide) rfl ?_
    refine g_goto (tgt := 4) dX8_codes_22 (by decide) ?_
    refine g_sub [2, 1, 0] rfl ?_
    exact H4 (v2, v3, S) h
noncomputable def bX8_codes_4l (F : Nat) : Nat → (Int32 × Int32 × gS) → Option (Int32 × gS) := g_fix (fun k4 s => bX8_codes_4 F k4 s.1 s.2.1 s.2.2)
theorem bX8_codes_4l_ok {X : gX} {F : Nat} {R : Int32 × gS} : ∀ (n : Nat) (s : Int32 × Int32 × gS), bX8_codes_4l F n s = some R → G X RX8 cX8_codes 3 (some .int) 0 (some (.int R.1)) R.2 4 [(0, .ref (X.1 + 51)), (1, .int s.1), (2, .int s.2.1)] [] s.2.2 := by
  intro n
  induction n with
  | zero => intro s h; cases h
  | succ n ih => intro s h; exact bX8_codes_4_ok (F := F) ih h
noncomputable def fX8_codes (F : Nat) (S : gS) : Option (Int32 × gS) := bX8_codes_4l F F ((1 : Int32), (0 : Int32), S)
set_option maxRecDepth 20000 in
theorem fX8_codes_ok {X : gX} {F : Nat} {R : Int32 × gS} {S : gS} (h : fX8_codes F S = some R) : G X RX8 cX8_codes 3 (some .int) 0 (some (.int R.1)) R.2 0 [(0, .ref (X.1 + 51))] [] S := by
  unfold fX8_codes at h
  refine g_iconst (v := 1) dX8_codes_0 (by decide) ?_
  refine g_istore_n (lv' := [(1, .int (1 : Int32)), (0, .ref (X.1 + 51))]) dX8_codes_1 rfl rfl (by decide) rfl ?_
  refine g_iconst (v := 0) dX8_codes_2 (by decide) ?_
  refine g_istore_n (lv' := [(2, .int (0 : Int32)), (1, .int (1 : Int32)), (0, .ref (X.1 + 51))]) dX8_codes_3 rfl rfl (by decide) rfl ?_
  refine g_sub [2, 1, 0] rfl ?_
  exact bX8_codes_4l_ok F ((1 : Int32), (0 : Int32), S) h
theorem ctX8_codes {X : gX} {F : Nat} {R : Int32 × gS} {S : gS} (h : fX8_codes F S = some R) : g_C X yX8_codes cX8_codes 3 (some .int) 0 [.ref (X.1 + 51)] S (some (.int R.1)) R.2 :=
  g_met (by decide) (Nat.le_of_ble_eq_true rfl) (fX8_codes_ok h)
noncomputable def bX8_isOrder_12 (F : Nat) (k12 : (Int32 × Int32 × Int32 × gS) → Option (Int32 × gS)) (x2 : Int32) (x3 : Int32) (x4 : Int32) (S : gS) : Option (Int32 × gS) := if x4 < 0 then (if x2 = (((1 : Int32) <<< ((g_I S 51 12) &&& 31)) - (1 : Int32)) then (some ((1 : Int32), S)) else (some ((0 : Int32), S))) else (g_nz (g_I S 51 12) (g_chk x4 5 (gl (g_setI S 70 (x4).toNatClampNeg (x3 - x3 / (g_I S 51 12) * (g_I S 51 12))) (fun S5 : gS => g_nz (g_I S5 51 12) (gl (x3 / (g_I S5 51 12)) (fun v7 : Int32 => g_chk x4 5 (gl (x2 ||| ((1 : Int32) <<< ((g_I S5 70 (x4).toNatClampNeg) &&& 31))) (fun v9 : Int32 => gl (x4 + -1) (fun v10 : Int32 => k12 (v9, v7, v10, S5))))))))))
set_option maxRecDepth 20000 in
theorem bX8_isOrder_12_ok {X : gX} {F : Nat} {k12 : (Int32 × Int32 × Int32 × gS) → Option (Int32 × gS)} {R : Int32 × gS} (H12 : ∀ s : Int32 × Int32 × Int32 × gS, k12 s = some R → G X RX8 cX8_isOrder 5 (some .boolean) 0 (some (.int R.1)) R.2 12 [(0, .ref (X.1 + 51)), (2, .int s.1), (3, .int s.2.1), (4, .int s.2.2.1)] [] s.2.2.2) {x2 : Int32} {x3 : Int32} {x4 : Int32} {S : gS} (h : bX8_isOrder_12 F k12 x2 x3 x4 S = some R) : G X RX8 cX8_isOrder 5 (some .boolean) 0 (some (.int R.1)) R.2 12 [(0, .ref (X.1 + 51)), (2, .int x2), (3, .int x3), (4, .int x4)] [] S := by
  unfold bX8_isOrder_12 at h
  refine g_iload dX8_isOrder_12 3 rfl ?_
  refine g_if_lt (tgt := 55) dX8_isOrder_14 (by decide) (fun hc1 => ?_) (fun hc1 => ?_)
  · replace h := git hc1 h
    refine g_iload_n dX8_isOrder_55 1 rfl rfl ?_
    refine g_iconst (v := 1) dX8_isOrder_56 (by decide) ?_
    refine g_aload_n dX8_isOrder_57 0 rfl rfl ?_
    refine g_geti dX8_isOrder_58 lk_X8_146 sf_51_12 ?_
    refine g_ishl dX8_isOrder_61 ?_
    refine g_iconst (v := 1) dX8_isOrder_62 (by decide) ?_
    refine g_isub dX8_isOrder_63 ?_
    refine g_icmp_ne (tgt := 71) dX8_isOrder_64 (by decide) (fun hc2 => ?_) (fun hc2 => ?_)
    · replace h := gif hc2 h
      refine g_iconst (v := 0) dX8_isOrder_71 (by decide) ?_
      obtain rfl := Option.some.inj h
      exact g_zret dX8_isOrder_72 rfl narrow_b0
    · replace h := git hc2 h
      refine g_iconst (v := 1) dX8_isOrder_67 (by decide) ?_
      refine g_goto (tgt := 72) dX8_isOrder_68 (by decide) ?_
      obtain rfl := Option.some.inj h
      exact g_zret dX8_isOrder_72 rfl narrow_b1
  · replace h := gif hc1 h
    refine g_aload_n dX8_isOrder_17 0 rfl rfl ?_
    refine g_getr dX8_isOrder_18 lk_X8_69 sf_51_27 ?_
    refine g_iload dX8_isOrder_21 3 rfl ?_
    refine g_iload_n dX8_isOrder_23 2 rfl rfl ?_
    refine g_aload_n dX8_isOrder_24 0 rfl rfl ?_
    refine g_geti dX8_isOrder_25 lk_X8_146 sf_51_12 ?_
    obtain ⟨hz3, h⟩ := gnz h
    refine g_irem dX8_isOrder_28 hz3 ?_
    obtain ⟨hv4, h⟩ := gchk h
    obtain ⟨S5, eS5, h⟩ := gle h
    refine g_iast dX8_isOrder_29 sa_70 hv4 eS5 ?_
    refine g_iload_n dX8_isOrder_30 2 rfl rfl ?_
    refine g_aload_n dX8_isOrder_31 0 rfl rfl ?_
    refine g_geti dX8_isOrder_32 lk_X8_146 sf_51_12 ?_
    obtain ⟨hz6, h⟩ := gnz h
    refine g_idiv dX8_isOrder_35 hz6 ?_
    obtain ⟨v7, ev7, h⟩ := gle h
    refine g_istore_n (lv' := [(3, .int v7), (0, .ref (X.1 + 51)), (2, .int x2), (4, .int x4)]) dX8_isOrder_36 ev7 rfl (by decide) rfl ?_
    refine g_iload_n dX8_isOrder_37 2 rfl rfl ?_
    refine g_iconst (v := 1) dX8_isOrder_38 (by decide) ?_
    refine g_aload_n dX8_isOrder_39 1 rfl rfl ?_
    refine g_getr dX8_isOrder_40 lk_X8_69 sf_51_27 ?_
    refine g_iload dX8_isOrder_43 3 rfl ?_
    obtain ⟨hv8, h⟩ := gchk h
    refine g_iald dX8_isOrder_45 sa_70 hv8 ?_
    refine g_ishl dX8_isOrder_46 ?_
    refine g_ior dX8_isOrder_47 ?_
    obtain ⟨v9, ev9, h⟩ := gle h
    refine g_istore_n (lv' := [(2, .int v9), (3, .int v7), (0, .ref (X.1 + 51)), (4, .int x4)]) dX8_isOrder_48 ev9 rfl (by decide) rfl ?_
    obtain ⟨v10, ev10, h⟩ := gle h
    refine g_iinc (q := 3) (v := v10) (lv' := [(4, .int v10), (2, .int v9), (3, .int v7), (0, .ref (X.1 + 51))]) dX8_isOrder_49 rfl (by rw [← ev10]; rfl) (by decide) rfl ?_
    refine g_goto (tgt := 12) dX8_isOrder_52 (by decide) ?_
    refine g_sub [3, 1, 2, 0] rfl ?_
    exact H12 (v9, v7, v10, S5) h
noncomputable def bX8_isOrder_12l (F : Nat) : Nat → (Int32 × Int32 × Int32 × gS) → Option (Int32 × gS) := g_fix (fun k12 s => bX8_isOrder_12 F k12 s.1 s.2.1 s.2.2.1 s.2.2.2)
theorem bX8_isOrder_12l_ok {X : gX} {F : Nat} {R : Int32 × gS} : ∀ (n : Nat) (s : Int32 × Int32 × Int32 × gS), bX8_isOrder_12l F n s = some R → G X RX8 cX8_isOrder 5 (some .boolean) 0 (some (.int R.1)) R.2 12 [(0, .ref (X.1 + 51)), (2, .int s.1), (3, .int s.2.1), (4, .int s.2.2.1)] [] s.2.2.2 := by
  intro n
  induction n with
  | zero => intro s h; cases h
  | succ n ih => intro s h; exact bX8_isOrder_12_ok (F := F) ih h
noncomputable def fX8_isOrder (F : Nat) (a0 : Int32) (S : gS) : Option (Int32 × gS) := gl ((g_I S 51 12) - (1 : Int32)) (fun v1 : Int32 => bX8_isOrder_12l F F ((0 : Int32), a0, v1, S))
set_option maxRecDepth 20000 in
theorem fX8_isOrder_ok {X : gX} {F : Nat} {R : Int32 × gS} {a0 : Int32} {S : gS} (h : fX8_isOrder F a0 S = some R) : G X RX8 cX8_isOrder 5 (some .boolean) 0 (some (.int R.1)) R.2 0 [(0, .ref (X.1 + 51)), (1, .int a0)] [] S := by
  unfold fX8_isOrder at h
  refine g_iconst (v := 0) dX8_isOrder_0 (by decide) ?_
  refine g_istore_n (lv' := [(2, .int (0 : Int32)), (0, .ref (X.1 + 51)), (1, .int a0)]) dX8_isOrder_1 rfl rfl (by decide) rfl ?_
  refine g_iload_n dX8_isOrder_2 2 rfl rfl ?_
  refine g_istore_n (lv' := [(3, .int a0), (2, .int (0 : Int32)), (0, .ref (X.1 + 51)), (1, .int a0)]) dX8_isOrder_3 rfl rfl (by decide) rfl ?_
  refine g_aload_n dX8_isOrder_4 2 rfl rfl ?_
  refine g_geti dX8_isOrder_5 lk_X8_146 sf_51_12 ?_
  refine g_iconst (v := 1) dX8_isOrder_8 (by decide) ?_
  refine g_isub dX8_isOrder_9 ?_
  obtain ⟨v1, ev1, h⟩ := gle h
  refine g_istore (lv' := [(4, .int v1), (3, .int a0), (2, .int (0 : Int32)), (0, .ref (X.1 + 51)), (1, .int a0)]) dX8_isOrder_10 ev1 (by decide) rfl ?_
  refine g_sub [3, 2, 1, 0] rfl ?_
  exact bX8_isOrder_12l_ok F ((0 : Int32), a0, v1, S) h
theorem ctX8_isOrder {X : gX} {F : Nat} {R : Int32 × gS} {a0 : Int32} {S : gS} (h : fX8_isOrder F a0 S = some R) : g_C X yX8_isOrder cX8_isOrder 5 (some .boolean) 0 [.ref (X.1 + 51), .int a0] S (some (.int R.1)) R.2 :=
  g_met (by decide) (Nat.le_of_ble_eq_true rfl) (fX8_isOrder_ok h)
noncomputable def bX8_triesRow_6 (F : Nat) (k6 : (Int32 × gS) → Option (gS)) (x1 : Int32) (S : gS) : Option (gS) := if (g_I S 51 12) ≤ x1 then (some S) else (g_chk x1 5 ((fX8_walks F (g_I S 70 (x1).toNatClampNeg) S).bind (fun q3 : gS => gl (x1 + 1) (fun v4 : Int32 => k6 (v4, q3)))))
set_option maxRecDepth 20000 in
theorem bX8_triesRow_6_ok {X : gX} {F : Nat} {k6 : (Int32 × gS) → Option (gS)} {R : gS} (H6 : ∀ s : Int32 × gS, k6 s = some R → G X RX8 cX8_triesRow 2 none 4 none R 6 [(0, .ref (X.1 + 51)), (1, .int s.1)] [] s.2) {x1 : Int32} {S : gS} (h : bX8_triesRow_6 F k6 x1 S = some R) : G X RX8 cX8_triesRow 2 none 4 none R 6 [(0, .ref (X.1 + 51)), (1, .int x1)] [] S := by
  unfold bX8_triesRow_6 at h
  refine g_iload_n dX8_triesRow_6 1 rfl rfl ?_
  refine g_aload_n dX8_triesRow_7 0 rfl rfl ?_
  refine g_geti dX8_triesRow_8 lk_X8_146 sf_51_12 ?_
  refine g_icmp_ge (tgt := 30) dX8_triesRow_11 (by decide) (fun hc1 => ?_) (fun hc1 => ?_)
  · replace h := git hc1 h
    obtain rfl := Option.some.inj h
    exact g_vret dX8_triesRow_30 rfl
  · replace h := gif hc1 h
    refine g_aload_n dX8_triesRow_14 0 rfl rfl ?_
    refine g_aload_n dX8_triesRow_15 0 rfl rfl ?_
    refine g_getr dX8_triesRow_16 lk_X8_69 sf_51_27 ?_
    refine g_iload_n dX8_triesRow_19 1 rfl rfl ?_
    obtain ⟨hv2, h⟩ := gchk h
    refine g_iald dX8_triesRow_20 sa_70 hv2 ?_
    obtain ⟨q3, hq3, h⟩ := gb h
    refine g_callVv [.int (g_I S 70 (x1).toNatClampNeg)] [] dX8_triesRow_21 mk_X8_212 so_51 (ctX8_walks hq3) rfl (by decide) rfl (Nat.le_of_ble_eq_true rfl) ?_
    obtain ⟨v4, ev4, h⟩ := gle h
    refine g_iinc (q := 1) (v := v4) (lv' := [(1, .int v4), (0, .ref (X.1 + 51))]) dX8_triesRow_24 rfl (by rw [← ev4]; rfl) (by decide) rfl ?_
    refine g_goto (tgt := 6) dX8_triesRow_27 (by decide) ?_
    refine g_sub [1, 0] rfl ?_
    exact H6 (v4, q3) h
noncomputable def bX8_triesRow_6l (F : Nat) : Nat → (Int32 × gS) → Option (gS) := g_fix (fun k6 s => bX8_triesRow_6 F k6 s.1 s.2)
theorem bX8_triesRow_6l_ok {X : gX} {F : Nat} {R : gS} : ∀ (n : Nat) (s : Int32 × gS), bX8_triesRow_6l F n s = some R → G X RX8 cX8_triesRow 2 none 4 none R 6 [(0, .ref (X.1 + 51)), (1, .int s.1)] [] s.2 := by
  intro n
  induction n with
  | zero => intro s h; cases h
  | succ n ih => intro s h; exact bX8_triesRow_6_ok (F := F) ih h
noncomputable def fX8_triesRow (F : Nat) (S : gS) : Option (gS) := (fX8_begins F S).bind (fun q1 : gS => bX8_triesRow_6l F F ((0 : Int32), q1))
set_option maxRecDepth 20000 in
theorem fX8_triesRow_ok {X : gX} {F : Nat} {R : gS} {S : gS} (h : fX8_triesRow F S = some R) : G X RX8 cX8_triesRow 2 none 4 none R 0 [(0, .ref (X.1 + 51))] [] S := by
  unfold fX8_triesRow at h
  refine g_aload_n dX8_triesRow_0 0 rfl rfl ?_
  obtain ⟨q1, hq1, h⟩ := gb h
  refine g_callVv [] [] dX8_triesRow_1 mk_X8_149 so_51 (ctX8_begins hq1) rfl (by decide) rfl (Nat.le_of_ble_eq_true rfl) ?_
  refine g_iconst (v := 0) dX8_triesRow_4 (by decide) ?_
  refine g_istore_n (lv' := [(1, .int (0 : Int32)), (0, .ref (X.1 + 51))]) dX8_triesRow_5 rfl rfl (by decide) rfl ?_
  refine g_sub [1, 0] rfl ?_
  exact bX8_triesRow_6l_ok F ((0 : Int32), q1) h
theorem ctX8_triesRow {X : gX} {F : Nat} {R : gS} {S : gS} (h : fX8_triesRow F S = some R) : g_C X yX8_triesRow cX8_triesRow 2 none 4 [.ref (X.1 + 51)] S none R :=
  g_met (by decide) (Nat.le_of_ble_eq_true rfl) (fX8_triesRow_ok h)
noncomputable def bX8_keepsRow_2 (F : Nat) (k2 : (Int32 × gS) → Option (gS)) (x1 : Int32) (S : gS) : Option (gS) := if (g_I S 51 12) ≤ x1 then (some S) else (g_chk x1 5 (g_chk x1 5 (gl (g_setI S 71 (x1).toNatClampNeg (g_I S 70 (x1).toNatClampNeg)) (fun S4 : gS => gl (x1 + 1) (fun v5 : Int32 => k2 (v5, S4))))))
set_option maxRecDepth 20000 in
theorem bX8_keepsRow_2_ok {X : gX} {F : Nat} {k2 : (Int32 × gS) → Option (gS)} {R : gS} (H2 : ∀ s : Int32 × gS, k2 s = some R → G X RX8 cX8_keepsRow 2 none 0 none R 2 [(0, .ref (X.1 + 51)), (1, .int s.1)] [] s.2) {x1 : Int32} {S : gS} (h : bX8_keepsRow_2 F k2 x1 S = some R) : G X RX8 cX8_keepsRow 2 none 0 none R 2 [(0, .ref (X.1 + 51)), (1, .int x1)] [] S := by
  unfold bX8_keepsRow_2 at h
  refine g_iload_n dX8_keepsRow_2 1 rfl rfl ?_
  refine g_aload_n dX8_keepsRow_3 0 rfl rfl ?_
  refine g_geti dX8_keepsRow_4 lk_X8_146 sf_51_12 ?_
  refine g_icmp_ge (tgt := 28) dX8_keepsRow_7 (by decide) (fun hc1 => ?_) (fun hc1 => ?_)
  · replace h := git hc1 h
    obtain rfl := Option.some.inj h
    exact g_vret dX8_keepsRow_28 rfl
  · replace h := gif hc1 h
    refine g_aload_n dX8_keepsRow_10 0 rfl rfl ?_
    refine g_getr dX8_keepsRow_11 lk_X8_72 sf_51_28 ?_
    refine g_iload_n dX8_keepsRow_14 1 rfl rfl ?_
    refine g_aload_n dX8_keepsRow_15 0 rfl rfl ?_
    refine g_getr dX8_keepsRow_16 lk_X8_69 sf_51_27 ?_
    refine g_iload_n dX8_keepsRow_19 1 rfl rfl ?_
    obtain ⟨hv2, h⟩ := gchk h
    refine g_iald dX8_keepsRow_20 sa_70 hv2 ?_
    obtain ⟨hv3, h⟩ := gchk h
    obtain ⟨S4, eS4, h⟩ := gle h
    refine g_iast dX8_keepsRow_21 sa_71 hv3 eS4 ?_
    obtain ⟨v5, ev5, h⟩ := gle h
    refine g_iinc (q := 1) (v := v5) (lv' := [(1, .int v5), (0, .ref (X.1 + 51))]) dX8_keepsRow_22 rfl (by rw [← ev5]; rfl) (by decide) rfl ?_
    refine g_goto (tgt := 2) dX8_keepsRow_25 (by decide) ?_
    refine g_sub [1, 0] rfl ?_
    exact H2 (v5, S4) h
noncomputable def bX8_keepsRow_2l (F : Nat) : Nat → (Int32 × gS) → Option (gS) := g_fix (fun k2 s => bX8_keepsRow_2 F k2 s.1 s.2)
theorem bX8_keepsRow_2l_ok {X : gX} {F : Nat} {R : gS} : ∀ (n : Nat) (s : Int32 × gS), bX8_keepsRow_2l F n s = some R → G X RX8 cX8_keepsRow 2 none 0 none R 2 [(0, .ref (X.1 + 51)), (1, .int s.1)] [] s.2 := by
  intro n
  induction n with
  | zero => intro s h; cases h
  | succ n ih => intro s h; exact bX8_keepsRow_2_ok (F := F) ih h
noncomputable def fX8_keepsRow (F : Nat) (S : gS) : Option (gS) := bX8_keepsRow_2l F F ((0 : Int32), S)
set_option maxRecDepth 20000 in
theorem fX8_keepsRow_ok {X : gX} {F : Nat} {R : gS} {S : gS} (h : fX8_keepsRow F S = some R) : G X RX8 cX8_keepsRow 2 none 0 none R 0 [(0, .ref (X.1 + 51))] [] S := by
  unfold fX8_keepsRow at h
  refine g_iconst (v := 0) dX8_keepsRow_0 (by decide) ?_
  refine g_istore_n (lv' := [(1, .int (0 : Int32)), (0, .ref (X.1 + 51))]) dX8_keepsRow_1 rfl rfl (by decide) rfl ?_
  refine g_sub [1, 0] rfl ?_
  exact bX8_keepsRow_2l_ok F ((0 : Int32), S) h
theorem ctX8_keepsRow {X : gX} {F : Nat} {R : gS} {S : gS} (h : fX8_keepsRow F S = some R) : g_C X yX8_keepsRow cX8_keepsRow 2 none 0 [.ref (X.1 + 51)] S none R :=
  g_met (by decide) (Nat.le_of_ble_eq_true rfl) (fX8_keepsRow_ok h)
noncomputable def bX8_findOrders_93 (F : Nat) (k16 : (Int32 × gS) → Option (gS)) (x1 : Int32) (S : gS) : Option (gS) := gl (x1 + 1) (fun v1 : Int32 => k16 (v1, S))
set_option maxRecDepth 20000 in
theorem bX8_findOrders_93_ok {X : gX} {F : Nat} {k16 : (Int32 × gS) → Option (gS)} {R : gS} (H16 : ∀ s : Int32 × gS, k16 s = some R → G X RX8 cX8_findOrders 2 none 5 none R 16 [(0, .ref (X.1 + 51)), (1, .int s.1)] [] s.2) {x1 : Int32} {S : gS} (h : bX8_findOrders_93 F k16 x1 S = some R) : G X RX8 cX8_findOrders 2 none 5 none R 93 [(0, .ref (X.1 + 51)), (1, .int x1)] [] S := by
  unfold bX8_findOrders_93 at h
  obtain ⟨v1, ev1, h⟩ := gle h
  refine g_iinc (q := 1) (v := v1) (lv' := [(1, .int v1), (0, .ref (X.1 + 51))]) dX8_findOrders_93 rfl (by rw [← ev1]; rfl) (by decide) rfl ?_
  refine g_goto (tgt := 16) dX8_findOrders_96 (by decide) ?_
  refine g_sub [1, 0] rfl ?_
  exact H16 (v1, S) h
noncomputable def bX8_findOrders_90 (F : Nat) (k16 : (Int32 × gS) → Option (gS)) (x1 : Int32) (t0 : Int32) (S : gS) : Option (gS) := gl (g_setI S 51 30 t0) (fun S1 : gS => bX8_findOrders_93 F k16 x1 S1)
set_option maxRecDepth 20000 in
theorem bX8_findOrders_90_ok {X : gX} {F : Nat} {k16 : (Int32 × gS) → Option (gS)} {R : gS} (H16 : ∀ s : Int32 × gS, k16 s = some R → G X RX8 cX8_findOrders 2 none 5 none R 16 [(0, .ref (X.1 + 51)), (1, .int s.1)] [] s.2) {x1 : Int32} {t0 : Int32} {S : gS} (h : bX8_findOrders_90 F k16 x1 t0 S = some R) : G X RX8 cX8_findOrders 2 none 5 none R 90 [(0, .ref (X.1 + 51)), (1, .int x1)] [.int t0, .ref (X.1 + 51)] S := by
  unfold bX8_findOrders_90 at h
  obtain ⟨S1, eS1, h⟩ := gle h
  refine g_puti dX8_findOrders_90 lp_X8_230 sf_51_30 eS1 ?_
  exact bX8_findOrders_93_ok H16 h
noncomputable def bX8_findOrders_67 (F : Nat) (k16 : (Int32 × gS) → Option (gS)) (x1 : Int32) (S : gS) : Option (gS) := if (g_I S 51 21) ≤ (g_I S 51 30) then (bX8_findOrders_90 F k16 x1 (g_I S 51 30) S) else (bX8_findOrders_90 F k16 x1 (g_I S 51 21) S)
set_option maxRecDepth 20000 in
theorem bX8_findOrders_67_ok {X : gX} {F : Nat} {k16 : (Int32 × gS) → Option (gS)} {R : gS} (H16 : ∀ s : Int32 × gS, k16 s = some R → G X RX8 cX8_findOrders 2 none 5 none R 16 [(0, .ref (X.1 + 51)), (1, .int s.1)] [] s.2) {x1 : Int32} {S : gS} (h : bX8_findOrders_67 F k16 x1 S = some R) : G X RX8 cX8_findOrders 2 none 5 none R 67 [(0, .ref (X.1 + 51)), (1, .int x1)] [] S := by
  unfold bX8_findOrders_67 at h
  refine g_aload_n dX8_findOrders_67 0 rfl rfl ?_
  refine g_aload_n dX8_findOrders_68 0 rfl rfl ?_
  refine g_geti dX8_findOrders_69 lk_X8_152 sf_51_21 ?_
  refine g_aload_n dX8_findOrders_72 0 rfl rfl ?_
  refine g_geti dX8_findOrders_73 lk_X8_230 sf_51_30 ?_
  refine g_icmp_le (tgt := 86) dX8_findOrders_76 (by decide) (fun hc1 => ?_) (fun hc1 => ?_)
  · replace h := git hc1 h
    refine g_aload_n dX8_findOrders_86 0 rfl rfl ?_
    refine g_geti dX8_findOrders_87 lk_X8_230 sf_51_30 ?_
    exact bX8_findOrders_90_ok H16 h
  · replace h := gif hc1 h
    refine g_aload_n dX8_findOrders_79 0 rfl rfl ?_
    refine g_geti dX8_findOrders_80 lk_X8_152 sf_51_21 ?_
    refine g_goto (tgt := 90) dX8_findOrders_83 (by decide) ?_
    exact bX8_findOrders_90_ok H16 h
noncomputable def bX8_findOrders_55 (F : Nat) (k16 : (Int32 × gS) → Option (gS)) (x1 : Int32) (S : gS) : Option (gS) := gl (g_setI S 51 29 (g_I S 51 21)) (fun S1 : gS => (fX8_keepsRow F S1).bind (fun q2 : gS => bX8_findOrders_67 F k16 x1 q2))
set_option maxRecDepth 20000 in
theorem bX8_findOrders_55_ok {X : gX} {F : Nat} {k16 : (Int32 × gS) → Option (gS)} {R : gS} (H16 : ∀ s : Int32 × gS, k16 s = some R → G X RX8 cX8_findOrders 2 none 5 none R 16 [(0, .ref (X.1 + 51)), (1, .int s.1)] [] s.2) {x1 : Int32} {S : gS} (h : bX8_findOrders_55 F k16 x1 S = some R) : G X RX8 cX8_findOrders 2 none 5 none R 55 [(0, .ref (X.1 + 51)), (1, .int x1)] [] S := by
  unfold bX8_findOrders_55 at h
  refine g_aload_n dX8_findOrders_55 0 rfl rfl ?_
  refine g_aload_n dX8_findOrders_56 0 rfl rfl ?_
  refine g_geti dX8_findOrders_57 lk_X8_152 sf_51_21 ?_
  obtain ⟨S1, eS1, h⟩ := gle h
  refine g_puti dX8_findOrders_60 lp_X8_227 sf_51_29 eS1 ?_
  refine g_aload_n dX8_findOrders_63 0 rfl rfl ?_
  obtain ⟨q2, hq2, h⟩ := gb h
  refine g_callVv [] [] dX8_findOrders_64 mk_X8_242 so_51 (ctX8_keepsRow hq2) rfl (by decide) rfl (Nat.le_of_ble_eq_true rfl) ?_
  exact bX8_findOrders_67_ok H16 h
noncomputable def bX8_findOrders_16 (F : Nat) (k16 : (Int32 × gS) → Option (gS)) (x1 : Int32) (S : gS) : Option (gS) := (fX8_codes F S).bind (fun q1 : Int32 × gS => if q1.1 ≤ x1 then (some q1.2) else ((fX8_isOrder F x1 q1.2).bind (fun q3 : Int32 × gS => if q3.1 = 0 then (bX8_findOrders_93 F k16 x1 q3.2) else ((fX8_triesRow F q3.2).bind (fun q5 : gS => if (g_I q5 51 29) = (-1 : Int32) then (bX8_findOrders_55 F k16 x1 q5) else (if (g_I q5 51 29) ≤ (g_I q5 51 21) then (bX8_findOrders_67 F k16 x1 q5) else (bX8_findOrders_55 F k16 x1 q5)))))))
set_option maxRecDepth 20000 in
theorem bX8_findOrders_16_ok {X : gX} {F : Nat} {k16 : (Int32 × gS) → Option (gS)} {R : gS} (H16 : ∀ s : Int32 × gS, k16 s = some R → G X RX8 cX8_findOrders 2 none 5 none R 16 [(0, .ref (X.1 + 51)), (1, .int s.1)] [] s.2) {x1 : Int32} {S : gS} (h : bX8_findOrders_16 F k16 x1 S = some R) : G X RX8 cX8_findOrders 2 none 5 none R 16 [(0, .ref (X.1 + 51)), (1, .int x1)] [] S := by
  unfold bX8_findOrders_16 at h
  refine g_iload_n dX8_findOrders_16 1 rfl rfl ?_
  refine g_aload_n dX8_findOrders_17 0 rfl rfl ?_
  obtain ⟨q1, hq1, h⟩ := gb h
  refine g_callVi [] [.int x1] dX8_findOrders_18 mk_X8_233 so_51 (ctX8_codes hq1) rfl (by decide) rfl (Nat.le_of_ble_eq_true rfl) ?_
  refine g_icmp_ge (tgt := 99) dX8_findOrders_21 (by decide) (fun hc2 => ?_) (fun hc2 => ?_)
  · replace h := git hc2 h
    obtain rfl := Option.some.inj h
    exact g_vret dX8_findOrders_99 rfl
  · replace h := gif hc2 h
    refine g_aload_n dX8_findOrders_24 0 rfl rfl ?_
    refine g_iload_n dX8_findOrders_25 1 rfl rfl ?_
    obtain ⟨q3, hq3, h⟩ := gb h
    refine g_callVi [.int x1] [] dX8_findOrders_26 mk_X8_236 so_51 (ctX8_isOrder hq3) rfl (by decide) rfl (Nat.le_of_ble_eq_true rfl) ?_
    refine g_if_eq (tgt := 93) dX8_findOrders_29 (by decide) (fun hc4 => ?_) (fun hc4 => ?_)
    · replace h := git hc4 h
      exact bX8_findOrders_93_ok H16 h
    · replace h := gif hc4 h
      refine g_aload_n dX8_findOrders_32 0 rfl rfl ?_
      obtain ⟨q5, hq5, h⟩ := gb h
      refine g_callVv [] [] dX8_findOrders_33 mk_X8_239 so_51 (ctX8_triesRow hq5) rfl (by decide) rfl (Nat.le_of_ble_eq_true rfl) ?_
      refine g_aload_n dX8_findOrders_36 0 rfl rfl ?_
      refine g_geti dX8_findOrders_37 lk_X8_227 sf_51_29 ?_
      refine g_iconst (v := -1) dX8_findOrders_40 (by decide) ?_
      refine g_icmp_eq (tgt := 55) dX8_findOrders_41 (by decide) (fun hc6 => ?_) (fun hc6 => ?_)
      · replace h := git hc6 h
        exact bX8_findOrders_55_ok H16 h
      · replace h := gif hc6 h
        refine g_aload_n dX8_findOrders_44 0 rfl rfl ?_
        refine g_geti dX8_findOrders_45 lk_X8_152 sf_51_21 ?_
        refine g_aload_n dX8_findOrders_48 0 rfl rfl ?_
        refine g_geti dX8_findOrders_49 lk_X8_227 sf_51_29 ?_
        refine g_icmp_ge (tgt := 67) dX8_findOrders_52 (by decide) (fun hc7 => ?_) (fun hc7 => ?_)
        · replace h := git hc7 h
          exact bX8_findOrders_67_ok H16 h
        · replace h := gif hc7 h
          exact bX8_findOrders_55_ok H16 h
noncomputable def bX8_findOrders_16l (F : Nat) : Nat → (Int32 × gS) → Option (gS) := g_fix (fun k16 s => bX8_findOrders_16 F k16 s.1 s.2)
theorem bX8_findOrders_16l_ok {X : gX} {F : Nat} {R : gS} : ∀ (n : Nat) (s : Int32 × gS), bX8_findOrders_16l F n s = some R → G X RX8 cX8_findOrders 2 none 5 none R 16 [(0, .ref (X.1 + 51)), (1, .int s.1)] [] s.2 := by
  intro n
  induction n with
  | zero => intro s h; cases h
  | succ n ih => intro s h; exact bX8_findOrders_16_ok (F := F) ih h
noncomputable def fX8_findOrders (F : Nat) (S : gS) : Option (gS) := (fX8_tries F S).bind (fun q1 : gS => gl (g_setI q1 51 29 (-1 : Int32)) (fun S2 : gS => gl (g_setI S2 51 30 (-1 : Int32)) (fun S3 : gS => bX8_findOrders_16l F F ((0 : Int32), S3))))
set_option maxRecDepth 20000 in
theorem fX8_findOrders_ok {X : gX} {F : Nat} {R : gS} {S : gS} (h : fX8_findOrders F S = some R) : G X RX8 cX8_findOrders 2 none 5 none R 0 [(0, .ref (X.1 + 51))] [] S := by
  unfold fX8_findOrders at h
  refine g_aload_n dX8_findOrders_0 0 rfl rfl ?_
  obtain ⟨q1, hq1, h⟩ := gb h
  refine g_callVv [] [] dX8_findOrders_1 mk_X8_188 so_51 (ctX8_tries hq1) rfl (by decide) rfl (Nat.le_of_ble_eq_true rfl) ?_
  refine g_aload_n dX8_findOrders_4 0 rfl rfl ?_
  refine g_iconst (v := -1) dX8_findOrders_5 (by decide) ?_
  obtain ⟨S2, eS2, h⟩ := gle h
  refine g_puti dX8_findOrders_6 lp_X8_227 sf_51_29 eS2 ?_
  refine g_aload_n dX8_findOrders_9 0 rfl rfl ?_
  refine g_iconst (v := -1) dX8_findOrders_10 (by decide) ?_
  obtain ⟨S3, eS3, h⟩ := gle h
  refine g_puti dX8_findOrders_11 lp_X8_230 sf_51_30 eS3 ?_
  refine g_iconst (v := 0) dX8_findOrders_14 (by decide) ?_
  refine g_istore_n (lv' := [(1, .int (0 : Int32)), (0, .ref (X.1 + 51))]) dX8_findOrders_15 rfl rfl (by decide) rfl ?_
  refine g_sub [1, 0] rfl ?_
  exact bX8_findOrders_16l_ok F ((0 : Int32), S3) h
theorem ctX8_findOrders {X : gX} {F : Nat} {R : gS} {S : gS} (h : fX8_findOrders F S = some R) : g_C X yX8_findOrders cX8_findOrders 2 none 5 [.ref (X.1 + 51)] S none R :=
  g_met (by decide) (Nat.le_of_ble_eq_true rfl) (fX8_findOrders_ok h)
noncomputable def fX8_orders (F : Nat) (a0 : Int32) (S : gS) : Option (Int32 × gS) := (fX8_isTwo F a0 S).bind (fun q1 : Int32 × gS => if q1.1 = 0 then (some ((-2 : Int32), q1.2)) else (if (g_I q1.2 51 12) ≤ (5 : Int32) then ((fX8_findOrders F q1.2).bind (fun q4 : gS => if a0 = 0 then (some ((g_I q4 51 29), q4)) else (some ((g_I q4 51 30), q4)))) else (some ((-4 : Int32), q1.2))))
set_option maxRecDepth 20000 in
theorem fX8_orders_ok {X : gX} {F : Nat} {R : Int32 × gS} {a0 : Int32} {S : gS} (h : fX8_orders F a0 S = some R) : G X RX8 cX8_orders 2 (some .int) 6 (some (.int R.1)) R.2 0 [(0, .ref (X.1 + 51)), (1, .int a0)] [] S := by
  unfold fX8_orders at h
  refine g_iload_n dX8_orders_0 1 rfl rfl ?_
  obtain ⟨q1, hq1, h⟩ := gb h
  refine g_callSi [.int a0] [] dX8_orders_1 mk_X8_245 (ctX8_isTwo hq1) rfl (by decide) rfl (Nat.le_of_ble_eq_true rfl) ?_
  refine g_if_ne (tgt := 10) dX8_orders_4 (by decide) (fun hc2 => ?_) (fun hc2 => ?_)
  · replace h := gif hc2 h
    refine g_aload_n dX8_orders_10 0 rfl rfl ?_
    refine g_geti dX8_orders_11 lk_X8_146 sf_51_12 ?_
    refine g_iconst (v := 5) dX8_orders_14 (by decide) ?_
    refine g_icmp_le (tgt := 21) dX8_orders_15 (by decide) (fun hc3 => ?_) (fun hc3 => ?_)
    · replace h := git hc3 h
      refine g_aload_n dX8_orders_21 0 rfl rfl ?_
      obtain ⟨q4, hq4, h⟩ := gb h
      refine g_callVv [] [] dX8_orders_22 mk_X8_248 so_51 (ctX8_findOrders hq4) rfl (by decide) rfl (Nat.le_of_ble_eq_true rfl) ?_
      refine g_iload_n dX8_orders_25 1 rfl rfl ?_
      refine g_if_ne (tgt := 36) dX8_orders_26 (by decide) (fun hc5 => ?_) (fun hc5 => ?_)
      · replace h := gif hc5 h
        refine g_aload_n dX8_orders_36 0 rfl rfl ?_
        refine g_geti dX8_orders_37 lk_X8_230 sf_51_30 ?_
        obtain rfl := Option.some.inj h
        exact g_iret dX8_orders_40 rfl
      · replace h := git hc5 h
        refine g_aload_n dX8_orders_29 0 rfl rfl ?_
        refine g_geti dX8_orders_30 lk_X8_227 sf_51_29 ?_
        refine g_goto (tgt := 40) dX8_orders_33 (by decide) ?_
        obtain rfl := Option.some.inj h
        exact g_iret dX8_orders_40 rfl
    · replace h := gif hc3 h
      refine g_bipush (v := -4) dX8_orders_18 (by decide) ?_
      obtain rfl := Option.some.inj h
      exact g_iret dX8_orders_20 rfl
  · replace h := git hc2 h
    refine g_bipush (v := -2) dX8_orders_7 (by decide) ?_
    obtain rfl := Option.some.inj h
    exact g_iret dX8_orders_9 rfl
theorem ctX8_orders {X : gX} {F : Nat} {R : Int32 × gS} {a0 : Int32} {S : gS} (h : fX8_orders F a0 S = some R) : g_C X yX8_orders cX8_orders 2 (some .int) 6 [.ref (X.1 + 51), .int a0] S (some (.int R.1)) R.2 :=
  g_met (by decide) (Nat.le_of_ble_eq_true rfl) (fX8_orders_ok h)

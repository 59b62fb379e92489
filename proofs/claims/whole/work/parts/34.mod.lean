noncomputable def fX8_tower (F : Nat) (a0 : Int32) (a1 : Int32) (S : gS) : Option (Int32 × gS) := (fX8_isSheet F a0 S).bind (fun q1 : Int32 × gS => if q1.1 = 0 then (some ((-2 : Int32), q1.2)) else ((fX8_isTwo F a1 q1.2).bind (fun q3 : Int32 × gS => if q3.1 = 0 then (some ((-2 : Int32), q3.2)) else (g_chk a0 4 (if 0 ≤ (g_I q3.2 52 (a0).toNatClampNeg) then (if (g_I q3.2 51 12) ≤ (5 : Int32) then ((fX8_findTower F a0 q3.2).bind (fun q8 : gS => if a1 = 0 then (some ((g_I q8 51 34), q8)) else (some ((g_I q8 51 35), q8)))) else (some ((-4 : Int32), q3.2))) else ((fX8_met F (1 : Int32) q3.2).bind (fun q10 : Int32 × gS => some (q10.1, q10.2))))))))
set_option maxRecDepth 20000 in
theorem fX8_tower_ok {X : gX} {F : Nat} {R : Int32 × gS} {a0 : Int32} {a1 : Int32} {S : gS} (h : fX8_tower F a0 a1 S = some R) : G X RX8 cX8_tower 3 (some .int) 6 (some (.int R.1)) R.2 0 [(0, .ref (X.1 + 51)), (1, .int a0), (2, .int a1)] [] S := by
  unfold fX8_tower at h
  refine g_iload_n dX8_tower_0 1 rfl rfl ?_
  obtain ⟨q1, hq1, h⟩ := gb h
  refine g_callSi [.int a0] [] dX8_tower_1 mk_X8_91 (ctX8_isSheet hq1) rfl (by decide) rfl (Nat.le_of_ble_eq_true rfl) ?_
  refine g_if_eq (tgt := 14) dX8_tower_4 (by decide) (fun hc2 => ?_) (fun hc2 => ?_)
  · replace h := git hc2 h
    refine g_bipush (v := -2) dX8_tower_14 (by decide) ?_
    obtain rfl := Option.some.inj h
    exact g_iret dX8_tower_16 rfl
  · replace h := gif hc2 h
    refine g_iload_n dX8_tower_7 2 rfl rfl ?_
    obtain ⟨q3, hq3, h⟩ := gb h
    refine g_callSi [.int a1] [] dX8_tower_8 mk_X8_245 (ctX8_isTwo hq3) rfl (by decide) rfl (Nat.le_of_ble_eq_true rfl) ?_
    refine g_if_ne (tgt := 17) dX8_tower_11 (by decide) (fun hc4 => ?_) (fun hc4 => ?_)
    · replace h := gif hc4 h
      refine g_aload_n dX8_tower_17 0 rfl rfl ?_
      refine g_getr dX8_tower_18 lk_X8_7 sf_51_0 ?_
      refine g_iload_n dX8_tower_21 1 rfl rfl ?_
      obtain ⟨hv5, h⟩ := gchk h
      refine g_iald dX8_tower_22 sa_52 hv5 ?_
      refine g_if_ge (tgt := 32) dX8_tower_23 (by decide) (fun hc6 => ?_) (fun hc6 => ?_)
      · replace h := git hc6 h
        refine g_aload_n dX8_tower_32 0 rfl rfl ?_
        refine g_geti dX8_tower_33 lk_X8_146 sf_51_12 ?_
        refine g_iconst (v := 5) dX8_tower_36 (by decide) ?_
        refine g_icmp_le (tgt := 43) dX8_tower_37 (by decide) (fun hc7 => ?_) (fun hc7 => ?_)
        · replace h := git hc7 h
          refine g_aload_n dX8_tower_43 0 rfl rfl ?_
          refine g_iload_n dX8_tower_44 1 rfl rfl ?_
          obtain ⟨q8, hq8, h⟩ := gb h
          refine g_callVv [.int a0] [] dX8_tower_45 mk_X8_292 so_51 (ctX8_findTower hq8) rfl (by decide) rfl (Nat.le_of_ble_eq_true rfl) ?_
          refine g_iload_n dX8_tower_48 2 rfl rfl ?_
          refine g_if_ne (tgt := 59) dX8_tower_49 (by decide) (fun hc9 => ?_) (fun hc9 => ?_)
          · replace h := gif hc9 h
            refine g_aload_n dX8_tower_59 0 rfl rfl ?_
            refine g_geti dX8_tower_60 lk_X8_286 sf_51_35 ?_
            obtain rfl := Option.some.inj h
            exact g_iret dX8_tower_63 rfl
          · replace h := git hc9 h
            refine g_aload_n dX8_tower_52 0 rfl rfl ?_
            refine g_geti dX8_tower_53 lk_X8_283 sf_51_34 ?_
            refine g_goto (tgt := 63) dX8_tower_56 (by decide) ?_
            obtain rfl := Option.some.inj h
            exact g_iret dX8_tower_63 rfl
        · replace h := gif hc7 h
          refine g_bipush (v := -4) dX8_tower_40 (by decide) ?_
          obtain rfl := Option.some.inj h
          exact g_iret dX8_tower_42 rfl
      · replace h := gif hc6 h
        refine g_aload_n dX8_tower_26 0 rfl rfl ?_
        refine g_iconst (v := 1) dX8_tower_27 (by decide) ?_
        obtain ⟨q10, hq10, h⟩ := gb h
        refine g_callVi [.int (1 : Int32)] [] dX8_tower_28 mk_X8_97 so_51 (ctX8_met hq10) rfl (by decide) rfl (Nat.le_of_ble_eq_true rfl) ?_
        obtain rfl := Option.some.inj h
        exact g_iret dX8_tower_31 rfl
    · replace h := git hc4 h
      refine g_bipush (v := -2) dX8_tower_14 (by decide) ?_
      obtain rfl := Option.some.inj h
      exact g_iret dX8_tower_16 rfl
theorem ctX8_tower {X : gX} {F : Nat} {R : Int32 × gS} {a0 : Int32} {a1 : Int32} {S : gS} (h : fX8_tower F a0 a1 S = some R) : g_C X yX8_tower cX8_tower 3 (some .int) 6 [.ref (X.1 + 51), .int a0, .int a1] S (some (.int R.1)) R.2 :=
  g_met (by decide) (Nat.le_of_ble_eq_true rfl) (fX8_tower_ok h)
noncomputable def fX8_towerOrder (F : Nat) (a0 : Int32) (a1 : Int32) (S : gS) : Option (Int32 × gS) := (fX8_isSheet F a0 S).bind (fun q1 : Int32 × gS => if q1.1 = 0 then (some ((-2 : Int32), q1.2)) else ((fX8_isWalker F a1 q1.2).bind (fun q3 : Int32 × gS => if q3.1 = 0 then (some ((-2 : Int32), q3.2)) else (g_chk a0 4 (if 0 ≤ (g_I q3.2 52 (a0).toNatClampNeg) then (if (g_I q3.2 51 12) ≤ (5 : Int32) then ((fX8_findTower F a0 q3.2).bind (fun q8 : gS => if (g_I q8 51 34) = 0 then (some ((-1 : Int32), q8)) else (g_chk a1 5 (some ((g_I q8 71 (a1).toNatClampNeg), q8))))) else (some ((-4 : Int32), q3.2))) else ((fX8_met F (1 : Int32) q3.2).bind (fun q11 : Int32 × gS => some (q11.1, q11.2))))))))
set_option maxRecDepth 20000 in
theorem fX8_towerOrder_ok {X : gX} {F : Nat} {R : Int32 × gS} {a0 : Int32} {a1 : Int32} {S : gS} (h : fX8_towerOrder F a0 a1 S = some R) : G X RX8 cX8_towerOrder 3 (some .int) 6 (some (.int R.1)) R.2 0 [(0, .ref (X.1 + 51)), (1, .int a0), (2, .int a1)] [] S := by
  unfold fX8_towerOrder at h
  refine g_iload_n dX8_towerOrder_0 1 rfl rfl ?_
  obtain ⟨q1, hq1, h⟩ := gb h
  refine g_callSi [.int a0] [] dX8_towerOrder_1 mk_X8_91 (ctX8_isSheet hq1) rfl (by decide) rfl (Nat.le_of_ble_eq_true rfl) ?_
  refine g_if_eq (tgt := 15) dX8_towerOrder_4 (by decide) (fun hc2 => ?_) (fun hc2 => ?_)
  · replace h := git hc2 h
    refine g_bipush (v := -2) dX8_towerOrder_15 (by decide) ?_
    obtain rfl := Option.some.inj h
    exact g_iret dX8_towerOrder_17 rfl
  · replace h := gif hc2 h
    refine g_aload_n dX8_towerOrder_7 0 rfl rfl ?_
    refine g_iload_n dX8_towerOrder_8 2 rfl rfl ?_
    obtain ⟨q3, hq3, h⟩ := gb h
    refine g_callVi [.int a1] [] dX8_towerOrder_9 mk_X8_209 so_51 (ctX8_isWalker hq3) rfl (by decide) rfl (Nat.le_of_ble_eq_true rfl) ?_
    refine g_if_ne (tgt := 18) dX8_towerOrder_12 (by decide) (fun hc4 => ?_) (fun hc4 => ?_)
    · replace h := gif hc4 h
      refine g_aload_n dX8_towerOrder_18 0 rfl rfl ?_
      refine g_getr dX8_towerOrder_19 lk_X8_7 sf_51_0 ?_
      refine g_iload_n dX8_towerOrder_22 1 rfl rfl ?_
      obtain ⟨hv5, h⟩ := gchk h
      refine g_iald dX8_towerOrder_23 sa_52 hv5 ?_
      refine g_if_ge (tgt := 33) dX8_towerOrder_24 (by decide) (fun hc6 => ?_) (fun hc6 => ?_)
      · replace h := git hc6 h
        refine g_aload_n dX8_towerOrder_33 0 rfl rfl ?_
        refine g_geti dX8_towerOrder_34 lk_X8_146 sf_51_12 ?_
        refine g_iconst (v := 5) dX8_towerOrder_37 (by decide) ?_
        refine g_icmp_le (tgt := 44) dX8_towerOrder_38 (by decide) (fun hc7 => ?_) (fun hc7 => ?_)
        · replace h := git hc7 h
          refine g_aload_n dX8_towerOrder_44 0 rfl rfl ?_
          refine g_iload_n dX8_towerOrder_45 1 rfl rfl ?_
          obtain ⟨q8, hq8, h⟩ := gb h
          refine g_callVv [.int a0] [] dX8_towerOrder_46 mk_X8_292 so_51 (ctX8_findTower hq8) rfl (by decide) rfl (Nat.le_of_ble_eq_true rfl) ?_
          refine g_aload_n dX8_towerOrder_49 0 rfl rfl ?_
          refine g_geti dX8_towerOrder_50 lk_X8_283 sf_51_34 ?_
          refine g_if_ne (tgt := 60) dX8_towerOrder_53 (by decide) (fun hc9 => ?_) (fun hc9 => ?_)
          · replace h := gif hc9 h
            refine g_aload_n dX8_towerOrder_60 0 rfl rfl ?_
            refine g_getr dX8_towerOrder_61 lk_X8_72 sf_51_28 ?_
            refine g_iload_n dX8_towerOrder_64 2 rfl rfl ?_
            obtain ⟨hv10, h⟩ := gchk h
            refine g_iald dX8_towerOrder_65 sa_71 hv10 ?_
            obtain rfl := Option.some.inj h
            exact g_iret dX8_towerOrder_66 rfl
          · replace h := git hc9 h
            refine g_iconst (v := -1) dX8_towerOrder_56 (by decide) ?_
            refine g_goto (tgt := 66) dX8_towerOrder_57 (by decide) ?_
            obtain rfl := Option.some.inj h
            exact g_iret dX8_towerOrder_66 rfl
        · replace h := gif hc7 h
          refine g_bipush (v := -4) dX8_towerOrder_41 (by decide) ?_
          obtain rfl := Option.some.inj h
          exact g_iret dX8_towerOrder_43 rfl
      · replace h := gif hc6 h
        refine g_aload_n dX8_towerOrder_27 0 rfl rfl ?_
        refine g_iconst (v := 1) dX8_towerOrder_28 (by decide) ?_
        obtain ⟨q11, hq11, h⟩ := gb h
        refine g_callVi [.int (1 : Int32)] [] dX8_towerOrder_29 mk_X8_97 so_51 (ctX8_met hq11) rfl (by decide) rfl (Nat.le_of_ble_eq_true rfl) ?_
        obtain rfl := Option.some.inj h
        exact g_iret dX8_towerOrder_32 rfl
    · replace h := git hc4 h
      refine g_bipush (v := -2) dX8_towerOrder_15 (by decide) ?_
      obtain rfl := Option.some.inj h
      exact g_iret dX8_towerOrder_17 rfl
theorem ctX8_towerOrder {X : gX} {F : Nat} {R : Int32 × gS} {a0 : Int32} {a1 : Int32} {S : gS} (h : fX8_towerOrder F a0 a1 S = some R) : g_C X yX8_towerOrder cX8_towerOrder 3 (some .int) 6 [.ref (X.1 + 51), .int a0, .int a1] S (some (.int R.1)) R.2 :=
  g_met (by decide) (Nat.le_of_ble_eq_true rfl) (fX8_towerOrder_ok h)
noncomputable def bX8_hints_127 (F : Nat) (k53 : (Int32 × Int32 × Int32 × Int32 × Int32 × Int32 × gS) → Option (Int32 × gS)) (x1 : Int32) (x2 : Int32) (x3 : Int32) (x4 : Int32) (x5 : Int32) (x6 : Int32) (S : gS) : Option (Int32 × gS) := gl (x6 + 1) (fun v1 : Int32 => k53 (x1, x2, x3, x4, x5, v1, S))
set_option maxRecDepth 20000 in
theorem bX8_hints_127_ok {X : gX} {F : Nat} {k53 : (Int32 × Int32 × Int32 × Int32 × Int32 × Int32 × gS) → Option (Int32 × gS)} {R : Int32 × gS} (H53 : ∀ s : Int32 × Int32 × Int32 × Int32 × Int32 × Int32 × gS, k53 s = some R → G X RX8 cX8_hints 8 (some .int) 4 (some (.int R.1)) R.2 53 [(0, .ref (X.1 + 51)), (1, .int s.1), (2, .int s.2.1), (3, .int s.2.2.1), (4, .int s.2.2.2.1), (5, .int s.2.2.2.2.1), (6, .int s.2.2.2.2.2.1)] [] s.2.2.2.2.2.2) {x1 : Int32} {x2 : Int32} {x3 : Int32} {x4 : Int32} {x5 : Int32} {x6 : Int32} {S : gS} (h : bX8_hints_127 F k53 x1 x2 x3 x4 x5 x6 S = some R) : G X RX8 cX8_hints 8 (some .int) 4 (some (.int R.1)) R.2 127 [(0, .ref (X.1 + 51)), (1, .int x1), (2, .int x2), (3, .int x3), (4, .int x4), (5, .int x5), (6, .int x6)] [] S := by
  unfold bX8_hints_127 at h
  obtain ⟨v1, ev1, h⟩ := gle h
  refine g_iinc (q := 6) (v := v1) (lv' := [(6, .int v1), (0, .ref (X.1 + 51)), (1, .int x1), (2, .int x2), (3, .int x3), (4, .int x4), (5, .int x5)]) dX8_hints_127 rfl (by rw [← ev1]; rfl) (by decide) rfl ?_
  refine g_goto (tgt := 53) dX8_hints_130 (by decide) ?_
  refine g_sub [1, 2, 3, 4, 5, 6, 0] rfl ?_
  exact H53 (x1, x2, x3, x4, x5, v1, S) h
noncomputable def bX8_hints_124 (F : Nat) (k53 : (Int32 × Int32 × Int32 × Int32 × Int32 × Int32 × gS) → Option (Int32 × gS)) (x1 : Int32) (x2 : Int32) (x3 : Int32) (x5 : Int32) (x6 : Int32) (t0 : Int32) (t1 : Int32) (S : gS) : Option (Int32 × gS) := gl (t1 + t0) (fun v1 : Int32 => bX8_hints_127 F k53 x1 x2 x3 v1 x5 x6 S)
set_option maxRecDepth 20000 in
theorem bX8_hints_124_ok {X : gX} {F : Nat} {k53 : (Int32 × Int32 × Int32 × Int32 × Int32 × Int32 × gS) → Option (Int32 × gS)} {R : Int32 × gS} (H53 : ∀ s : Int32 × Int32 × Int32 × Int32 × Int32 × Int32 × gS, k53 s = some R → G X RX8 cX8_hints 8 (some .int) 4 (some (.int R.1)) R.2 53 [(0, .ref (X.1 + 51)), (1, .int s.1), (2, .int s.2.1), (3, .int s.2.2.1), (4, .int s.2.2.2.1), (5, .int s.2.2.2.2.1), (6, .int s.2.2.2.2.2.1)] [] s.2.2.2.2.2.2) {x1 : Int32} {x2 : Int32} {x3 : Int32} {x5 : Int32} {x6 : Int32} {t0 : Int32} {t1 : Int32} {S : gS} (h : bX8_hints_124 F k53 x1 x2 x3 x5 x6 t0 t1 S = some R) : G X RX8 cX8_hints 8 (some .int) 4 (some (.int R.1)) R.2 124 [(0, .ref (X.1 + 51)), (1, .int x1), (2, .int x2), (3, .int x3), (5, .int x5), (6, .int x6)] [.int t0, .int t1] S := by
  unfold bX8_hints_124 at h
  refine g_iadd dX8_hints_124 ?_
  obtain ⟨v1, ev1, h⟩ := gle h
  refine g_istore (lv' := [(4, .int v1), (0, .ref (X.1 + 51)), (1, .int x1), (2, .int x2), (3, .int x3), (5, .int x5), (6, .int x6)]) dX8_hints_125 ev1 (by decide) rfl ?_
  refine g_sub [1, 2, 3, 4, 0, 5, 6] rfl ?_
  exact bX8_hints_127_ok H53 h
noncomputable def bX8_hints_110 (F : Nat) (k53 : (Int32 × Int32 × Int32 × Int32 × Int32 × Int32 × gS) → Option (Int32 × gS)) (x1 : Int32) (x2 : Int32) (x3 : Int32) (x4 : Int32) (x6 : Int32) (x7 : Int32) (t0 : Int32) (S : gS) : Option (Int32 × gS) := if x7 = 0 then (bX8_hints_124 F k53 x1 x2 x3 t0 x6 (0 : Int32) x4 S) else (bX8_hints_124 F k53 x1 x2 x3 t0 x6 (1 : Int32) x4 S)
set_option maxRecDepth 20000 in
theorem bX8_hints_110_ok {X : gX} {F : Nat} {k53 : (Int32 × Int32 × Int32 × Int32 × Int32 × Int32 × gS) → Option (Int32 × gS)} {R : Int32 × gS} (H53 : ∀ s : Int32 × Int32 × Int32 × Int32 × Int32 × Int32 × gS, k53 s = some R → G X RX8 cX8_hints 8 (some .int) 4 (some (.int R.1)) R.2 53 [(0, .ref (X.1 + 51)), (1, .int s.1), (2, .int s.2.1), (3, .int s.2.2.1), (4, .int s.2.2.2.1), (5, .int s.2.2.2.2.1), (6, .int s.2.2.2.2.2.1)] [] s.2.2.2.2.2.2) {x1 : Int32} {x2 : Int32} {x3 : Int32} {x4 : Int32} {x6 : Int32} {x7 : Int32} {t0 : Int32} {S : gS} (h : bX8_hints_110 F k53 x1 x2 x3 x4 x6 x7 t0 S = some R) : G X RX8 cX8_hints 8 (some .int) 4 (some (.int R.1)) R.2 110 [(0, .ref (X.1 + 51)), (1, .int x1), (2, .int x2), (3, .int x3), (4, .int x4), (6, .int x6), (7, .int x7)] [.int t0] S := by
  unfold bX8_hints_110 at h
  refine g_istore (lv' := [(5, .int t0), (0, .ref (X.1 + 51)), (1, .int x1), (2, .int x2), (3, .int x3), (4, .int x4), (6, .int x6), (7, .int x7)]) dX8_hints_110 rfl (by decide) rfl ?_
  refine g_iload dX8_hints_112 5 rfl ?_
  refine g_iload dX8_hints_114 7 rfl ?_
  refine g_if_eq (tgt := 123) dX8_hints_116 (by decide) (fun hc1 => ?_) (fun hc1 => ?_)
  · replace h := git hc1 h
    refine g_iconst (v := 0) dX8_hints_123 (by decide) ?_
    refine g_sub [1, 2, 3, 4, 0, 6] rfl ?_
    exact bX8_hints_124_ok H53 h
  · replace h := gif hc1 h
    refine g_iconst (v := 1) dX8_hints_119 (by decide) ?_
    refine g_goto (tgt := 124) dX8_hints_120 (by decide) ?_
    refine g_sub [1, 2, 3, 4, 0, 6] rfl ?_
    exact bX8_hints_124_ok H53 h
noncomputable def bX8_hints_108 (F : Nat) (k53 : (Int32 × Int32 × Int32 × Int32 × Int32 × Int32 × gS) → Option (Int32 × gS)) (x1 : Int32) (x2 : Int32) (x3 : Int32) (x4 : Int32) (x5 : Int32) (x6 : Int32) (x7 : Int32) (S : gS) : Option (Int32 × gS) := bX8_hints_110 F k53 x1 x2 x3 x4 x6 x7 x5 S
set_option maxRecDepth 20000 in
theorem bX8_hints_108_ok {X : gX} {F : Nat} {k53 : (Int32 × Int32 × Int32 × Int32 × Int32 × Int32 × gS) → Option (Int32 × gS)} {R : Int32 × gS} (H53 : ∀ s : Int32 × Int32 × Int32 × Int32 × Int32 × Int32 × gS, k53 s = some R → G X RX8 cX8_hints 8 (some .int) 4 (some (.int R.1)) R.2 53 [(0, .ref (X.1 + 51)), (1, .int s.1), (2, .int s.2.1), (3, .int s.2.2.1), (4, .int s.2.2.2.1), (5, .int s.2.2.2.2.1), (6, .int s.2.2.2.2.2.1)] [] s.2.2.2.2.2.2) {x1 : Int32} {x2 : Int32} {x3 : Int32} {x4 : Int32} {x5 : Int32} {x6 : Int32} {x7 : Int32} {S : gS} (h : bX8_hints_108 F k53 x1 x2 x3 x4 x5 x6 x7 S = some R) : G X RX8 cX8_hints 8 (some .int) 4 (some (.int R.1)) R.2 108 [(0, .ref (X.1 + 51)), (1, .int x1), (2, .int x2), (3, .int x3), (4, .int x4), (5, .int x5), (6, .int x6), (7, .int x7)] [] S := by
  unfold bX8_hints_108 at h
  refine g_iload dX8_hints_108 5 rfl ?_
  refine g_sub [0, 1, 2, 3, 4, 6, 7] rfl ?_
  exact bX8_hints_110_ok H53 h
noncomputable def bX8_hints_53 (F : Nat) (k53 : (Int32 × Int32 × Int32 × Int32 × Int32 × Int32 × gS) → Option (Int32 × gS)) (x1 : Int32) (x2 : Int32) (x3 : Int32) (x4 : Int32) (x5 : Int32) (x6 : Int32) (S : gS) : Option (Int32 × gS) := if (64 : Int32) ≤ x6 then (if x3 = 0 then (some (x4, S)) else (some (x5, S))) else (g_chk x6 64 (if (g_I S 57 (x6).toNatClampNeg) = 0 then (gl (g_setI S 51 19 x6) (fun S5 : gS => (fX8_begins F S5).bind (fun q6 : gS => (fX8_walks F x2 q6).bind (fun q7 : gS => (fX8_isPicture F x1 q7).bind (fun q8 : Int32 × gS => gl q8.1 (fun v9 : Int32 => if v9 = 0 then (bX8_hints_108 F k53 x1 x2 x3 x4 x5 x6 v9 q8.2) else (if x5 = (-1 : Int32) then (bX8_hints_110 F k53 x1 x2 x3 x4 x6 v9 x6 q8.2) else (bX8_hints_108 F k53 x1 x2 x3 x4 x5 x6 v9 q8.2)))))))) else (bX8_hints_127 F k53 x1 x2 x3 x4 x5 x6 S)))
set_option maxRecDepth 20000 in
theorem bX8_hints_53_ok {X : gX} {F : Nat} {k53 : (Int32 × Int32 × Int32 × Int32 × Int32 × Int32 × gS) → Option (Int32 × gS)} {R : Int32 × gS} (H53 : ∀ s : Int32 × Int32 × Int32 × Int32 × Int32 × Int32 × gS, k53 s = some R → G X RX8 cX8_hints 8 (some .int) 4 (some (.int R.1)) R.2 53 [(0, .ref (X.1 + 51)), (1, .int s.1), (2, .int s.2.1), (3, .int s.2.2.1), (4, .int s.2.2.2.1), (5, .int s.2.2.2.2.1), (6, .int s.2.2.2.2.2.1)] [] s.2.2.2.2.2.2) {x1 : Int32} {x2 : Int32} {x3 : Int32} {x4 : Int32} {x5 : Int32} {x6 : Int32} {S : gS} (h : bX8_hints_53 F k53 x1 x2 x3 x4 x5 x6 S = some R) : G X RX8 cX8_hints 8 (some .int) 4 (some (.int R.1)) R.2 53 [(0, .ref (X.1 + 51)), (1, .int x1), (2, .int x2), (3, .int x3), (4, .int x4), (5, .int x5), (6, .int x6)] [] S := by
  unfold bX8_hints_53 at h
  refine g_iload dX8_hints_53 6 rfl ?_
  refine g_bipush (v := 64) dX8_hints_55 (by decide) ?_
  refine g_icmp_ge (tgt := 133) dX8_hints_57 (by decide) (fun hc1 => ?_) (fun hc1 => ?_)
  · replace h := git hc1 h
    refine g_iload_n dX8_hints_133 3 rfl rfl ?_
    refine g_if_ne (tgt := 142) dX8_hints_134 (by decide) (fun hc2 => ?_) (fun hc2 => ?_)
    · replace h := gif hc2 h
      refine g_iload dX8_hints_142 5 rfl ?_
      obtain rfl := Option.some.inj h
      exact g_iret dX8_hints_144 rfl
    · replace h := git hc2 h
      refine g_iload dX8_hints_137 4 rfl ?_
      refine g_goto (tgt := 144) dX8_hints_139 (by decide) ?_
      obtain rfl := Option.some.inj h
      exact g_iret dX8_hints_144 rfl
  · replace h := gif hc1 h
    refine g_aload_n dX8_hints_60 0 rfl rfl ?_
    refine g_getr dX8_hints_61 lk_X8_25 sf_51_7 ?_
    refine g_iload dX8_hints_64 6 rfl ?_
    obtain ⟨hv3, h⟩ := gchk h
    refine g_iald dX8_hints_66 sa_57 hv3 ?_
    refine g_if_ne (tgt := 127) dX8_hints_67 (by decide) (fun hc4 => ?_) (fun hc4 => ?_)
    · replace h := gif hc4 h
      exact bX8_hints_127_ok H53 h
    · replace h := git hc4 h
      refine g_aload_n dX8_hints_70 0 rfl rfl ?_
      refine g_iload dX8_hints_71 6 rfl ?_
      obtain ⟨S5, eS5, h⟩ := gle h
      refine g_puti dX8_hints_73 lp_X8_59 sf_51_19 eS5 ?_
      refine g_aload_n dX8_hints_76 0 rfl rfl ?_
      obtain ⟨q6, hq6, h⟩ := gb h
      refine g_callVv [] [] dX8_hints_77 mk_X8_149 so_51 (ctX8_begins hq6) rfl (by decide) rfl (Nat.le_of_ble_eq_true rfl) ?_
      refine g_aload_n dX8_hints_80 0 rfl rfl ?_
      refine g_iload_n dX8_hints_81 2 rfl rfl ?_
      obtain ⟨q7, hq7, h⟩ := gb h
      refine g_callVv [.int x2] [] dX8_hints_82 mk_X8_212 so_51 (ctX8_walks hq7) rfl (by decide) rfl (Nat.le_of_ble_eq_true rfl) ?_
      refine g_aload_n dX8_hints_85 0 rfl rfl ?_
      refine g_iload_n dX8_hints_86 1 rfl rfl ?_
      obtain ⟨q8, hq8, h⟩ := gb h
      refine g_callVi [.int x1] [] dX8_hints_87 mk_X8_289 so_51 (ctX8_isPicture hq8) rfl (by decide) rfl (Nat.le_of_ble_eq_true rfl) ?_
      obtain ⟨v9, ev9, h⟩ := gle h
      refine g_istore (lv' := [(7, .int v9), (0, .ref (X.1 + 51)), (1, .int x1), (2, .int x2), (3, .int x3), (4, .int x4), (5, .int x5), (6, .int x6)]) dX8_hints_90 ev9 (by decide) rfl ?_
      refine g_iload dX8_hints_92 0 rfl ?_
      refine g_if_eq (tgt := 108) dX8_hints_94 (by decide) (fun hc10 => ?_) (fun hc10 => ?_)
      · replace h := git hc10 h
        refine g_sub [1, 2, 3, 4, 5, 6, 7, 0] rfl ?_
        exact bX8_hints_108_ok H53 h
      · replace h := gif hc10 h
        refine g_iload dX8_hints_97 6 rfl ?_
        refine g_iconst (v := -1) dX8_hints_99 (by decide) ?_
        refine g_icmp_ne (tgt := 108) dX8_hints_100 (by decide) (fun hc11 => ?_) (fun hc11 => ?_)
        · replace h := gif hc11 h
          refine g_sub [1, 2, 3, 4, 5, 6, 7, 0] rfl ?_
          exact bX8_hints_108_ok H53 h
        · replace h := git hc11 h
          refine g_iload dX8_hints_103 7 rfl ?_
          refine g_goto (tgt := 110) dX8_hints_105 (by decide) ?_
          refine g_sub [1, 2, 3, 4, 5, 7, 0] rfl ?_
          exact bX8_hints_110_ok H53 h
noncomputable def bX8_hints_53l (F : Nat) : Nat → (Int32 × Int32 × Int32 × Int32 × Int32 × Int32 × gS) → Option (Int32 × gS) := g_fix (fun k53 s => bX8_hints_53 F k53 s.1 s.2.1 s.2.2.1 s.2.2.2.1 s.2.2.2.2.1 s.2.2.2.2.2.1 s.2.2.2.2.2.2)
theorem bX8_hints_53l_ok {X : gX} {F : Nat} {R : Int32 × gS} : ∀ (n : Nat) (s : Int32 × Int32 × Int32 × Int32 × Int32 × Int32 × gS), bX8_hints_53l F n s = some R → G X RX8 cX8_hints 8 (some .int) 4 (some (.int R.1)) R.2 53 [(0, .ref (X.1 + 51)), (1, .int s.1), (2, .int s.2.1), (3, .int s.2.2.1), (4, .int s.2.2.2.1), (5, .int s.2.2.2.2.1), (6, .int s.2.2.2.2.2.1)] [] s.2.2.2.2.2.2 := by
  intro n
  induction n with
  | zero => intro s h; cases h
  | succ n ih => intro s h; exact bX8_hints_53_ok (F := F) ih h
noncomputable def fX8_hints (F : Nat) (a0 : Int32) (a1 : Int32) (a2 : Int32) (S : gS) : Option (Int32 × gS) := (fX8_isSheet F a0 S).bind (fun q1 : Int32 × gS => if q1.1 = 0 then (some ((-2 : Int32), q1.2)) else ((fX8_isWalker F a1 q1.2).bind (fun q3 : Int32 × gS => if q3.1 = 0 then (some ((-2 : Int32), q3.2)) else ((fX8_isTwo F a2 q3.2).bind (fun q5 : Int32 × gS => if q5.1 = 0 then (some ((-2 : Int32), q5.2)) else (g_chk a0 4 (if 0 ≤ (g_I q5.2 52 (a0).toNatClampNeg) then ((fX8_tries F q5.2).bind (fun q9 : gS => bX8_hints_53l F F (a0, a1, a2, (0 : Int32), (-1 : Int32), (0 : Int32), q9))) else ((fX8_met F (1 : Int32) q5.2).bind (fun q10 : Int32 × gS => some (q10.1, q10.2))))))))))
set_option maxRecDepth 20000 in
theorem fX8_hints_ok {X : gX} {F : Nat} {R : Int32 × gS} {a0 : Int32} {a1 : Int32} {a2 : Int32} {S : gS} (h : fX8_hints F a0 a1 a2 S = some R) : G X RX8 cX8_hints 8 (some .int) 4 (some (.int R.1)) R.2 0 [(0, .ref (X.1 + 51)), (1, .int a0), (2, .int a1), (3, .int a2)] [] S := by
  unfold fX8_hints at h
  refine g_iload_n dX8_hints_0 1 rfl rfl ?_
  obtain ⟨q1, hq1, h⟩ := gb h
  refine g_callSi [.int a0] [] dX8_hints_1 mk_X8_91 (ctX8_isSheet hq1) rfl (by decide) rfl (Nat.le_of_ble_eq_true rfl) ?_
  refine g_if_eq (tgt := 22) dX8_hints_4 (by decide) (fun hc2 => ?_) (fun hc2 => ?_)
  · replace h := git hc2 h
    refine g_bipush (v := -2) dX8_hints_22 (by decide) ?_
    obtain rfl := Option.some.inj h
    exact g_iret dX8_hints_24 rfl
  · replace h := gif hc2 h
    refine g_aload_n dX8_hints_7 0 rfl rfl ?_
    refine g_iload_n dX8_hints_8 2 rfl rfl ?_
    obtain ⟨q3, hq3, h⟩ := gb h
    refine g_callVi [.int a1] [] dX8_hints_9 mk_X8_209 so_51 (ctX8_isWalker hq3) rfl (by decide) rfl (Nat.le_of_ble_eq_true rfl) ?_
    refine g_if_eq (tgt := 22) dX8_hints_12 (by decide) (fun hc4 => ?_) (fun hc4 => ?_)
    · replace h := git hc4 h
      refine g_bipush (v := -2) dX8_hints_22 (by decide) ?_
      obtain rfl := Option.some.inj h
      exact g_iret dX8_hints_24 rfl
    · replace h := gif hc4 h
      refine g_iload_n dX8_hints_15 3 rfl rfl ?_
      obtain ⟨q5, hq5, h⟩ := gb h
      refine g_callSi [.int a2] [] dX8_hints_16 mk_X8_245 (ctX8_isTwo hq5) rfl (by decide) rfl (Nat.le_of_ble_eq_true rfl) ?_
      refine g_if_ne (tgt := 25) dX8_hints_19 (by decide) (fun hc6 => ?_) (fun hc6 => ?_)
      · replace h := gif hc6 h
        refine g_aload_n dX8_hints_25 0 rfl rfl ?_
        refine g_getr dX8_hints_26 lk_X8_7 sf_51_0 ?_
        refine g_iload_n dX8_hints_29 1 rfl rfl ?_
        obtain ⟨hv7, h⟩ := gchk h
        refine g_iald dX8_hints_30 sa_52 hv7 ?_
        refine g_if_ge (tgt := 40) dX8_hints_31 (by decide) (fun hc8 => ?_) (fun hc8 => ?_)
        · replace h := git hc8 h
          refine g_aload_n dX8_hints_40 0 rfl rfl ?_
          obtain ⟨q9, hq9, h⟩ := gb h
          refine g_callVv [] [] dX8_hints_41 mk_X8_188 so_51 (ctX8_tries hq9) rfl (by decide) rfl (Nat.le_of_ble_eq_true rfl) ?_
          refine g_iconst (v := 0) dX8_hints_44 (by decide) ?_
          refine g_istore (lv' := [(4, .int (0 : Int32)), (0, .ref (X.1 + 51)), (1, .int a0), (2, .int a1), (3, .int a2)]) dX8_hints_45 rfl (by decide) rfl ?_
          refine g_iconst (v := -1) dX8_hints_47 (by decide) ?_
          refine g_istore (lv' := [(5, .int (-1 : Int32)), (4, .int (0 : Int32)), (0, .ref (X.1 + 51)), (1, .int a0), (2, .int a1), (3, .int a2)]) dX8_hints_48 rfl (by decide) rfl ?_
          refine g_iconst (v := 0) dX8_hints_50 (by decide) ?_
          refine g_istore (lv' := [(6, .int (0 : Int32)), (5, .int (-1 : Int32)), (4, .int (0 : Int32)), (0, .ref (X.1 + 51)), (1, .int a0), (2, .int a1), (3, .int a2)]) dX8_hints_51 rfl (by decide) rfl ?_
          refine g_sub [3, 4, 5, 6, 2, 1, 0] rfl ?_
          exact bX8_hints_53l_ok F (a0, a1, a2, (0 : Int32), (-1 : Int32), (0 : Int32), q9) h
        · replace h := gif hc8 h
          refine g_aload_n dX8_hints_34 0 rfl rfl ?_
          refine g_iconst (v := 1) dX8_hints_35 (by decide) ?_
          obtain ⟨q10, hq10, h⟩ := gb h
          refine g_callVi [.int (1 : Int32)] [] dX8_hints_36 mk_X8_97 so_51 (ctX8_met hq10) rfl (by decide) rfl (Nat.le_of_ble_eq_true rfl) ?_
          obtain rfl := Option.some.inj h
          exact g_iret dX8_hints_39 rfl
      · replace h := git hc6 h
        refine g_bipush (v := -2) dX8_hints_22 (by decide) ?_
        obtain rfl := Option.some.inj h
        exact g_iret dX8_hints_24 rfl
theorem ctX8_hints {X : gX} {F : Nat} {R : Int32 × gS} {a0 : Int32} {a1 : Int32} {a2 : Int32} {S : gS} (h : fX8_hints F a0 a1 a2 S = some R) : g_C X yX8_hints cX8_hints 8 (some .int) 4 [.ref (X.1 + 51), .int a0, .int a1, .int a2] S (some (.int R.1)) R.2 :=
  g_met (by decide) (Nat.le_of_ble_eq_true rfl) (fX8_hints_ok h)
noncomputable def bX8_write_35 (F : Nat) (k35 : (Int32 × Int32 × gS) → Option (Int32 × gS)) (x1 : Int32) (x2 : Int32) (S : gS) : Option (Int32 × gS) := g_chk x1 4 (if (g_I S 53 (x1).toNatClampNeg) ≤ x2 then (g_chk x1 4 (some ((g_I S 53 (x1).toNatClampNeg), S))) else (g_chk x1 4 (g_chk x2 64 ((fX8_cut F (g_I S 52 (x1).toNatClampNeg) (g_I S 66 (x2).toNatClampNeg) S).bind (fun q6 : Int32 × gS => g_chk (((64 : Int32) * x1) + x2) 256 (gl (g_setI q6.2 54 ((((64 : Int32) * x1) + x2)).toNatClampNeg q6.1) (fun S8 : gS => gl (x2 + 1) (fun v9 : Int32 => k35 (x1, v9, S8)))))))))
set_option maxRecDepth 20000 in
theorem bX8_write_35_ok {X : gX} {F : Nat} {k35 : (Int32 × Int32 × gS) → Option (Int32 × gS)} {R : Int32 × gS} (H35 : ∀ s : Int32 × Int32 × gS, k35 s = some R → G X RX8 cX8_write 3 (some .int) 5 (some (.int R.1)) R.2 35 [(0, .ref (X.1 + 51)), (1, .int s.1), (2, .int s.2.1)] [] s.2.2) {x1 : Int32} {x2 : Int32} {S : gS} (h : bX8_write_35 F k35 x1 x2 S = some R) : G X RX8 cX8_write 3 (some .int) 5 (some (.int R.1)) R.2 35 [(0, .ref (X.1 + 51)), (1, .int x1), (2, .int x2)] [] S := by
  unfold bX8_write_35 at h
  refine g_iload_n dX8_write_35 2 rfl rfl ?_
  refine g_aload_n dX8_write_36 0 rfl rfl ?_
  refine g_getr dX8_write_37 lk_X8_13 sf_51_1 ?_
  refine g_iload_n dX8_write_40 1 rfl rfl ?_
  obtain ⟨hv1, h⟩ := gchk h
  refine g_iald dX8_write_41 sa_53 hv1 ?_
  refine g_icmp_ge (tgt := 77) dX8_write_42 (by decide) (fun hc2 => ?_) (fun hc2 => ?_)
  · replace h := git hc2 h
    refine g_aload_n dX8_write_77 0 rfl rfl ?_
    refine g_getr dX8_write_78 lk_X8_13 sf_51_1 ?_
    refine g_iload_n dX8_write_81 1 rfl rfl ?_
    obtain ⟨hv3, h⟩ := gchk h
    refine g_iald dX8_write_82 sa_53 hv3 ?_
    obtain rfl := Option.some.inj h
    exact g_iret dX8_write_83 rfl
  · replace h := gif hc2 h
    refine g_aload_n dX8_write_45 0 rfl rfl ?_
    refine g_getr dX8_write_46 lk_X8_16 sf_51_2 ?_
    refine g_bipush (v := 64) dX8_write_49 (by decide) ?_
    refine g_iload_n dX8_write_51 1 rfl rfl ?_
    refine g_imul dX8_write_52 ?_
    refine g_iload_n dX8_write_53 2 rfl rfl ?_
    refine g_iadd dX8_write_54 ?_
    refine g_aload_n dX8_write_55 0 rfl rfl ?_
    refine g_getr dX8_write_56 lk_X8_7 sf_51_0 ?_
    refine g_iload_n dX8_write_59 1 rfl rfl ?_
    obtain ⟨hv4, h⟩ := gchk h
    refine g_iald dX8_write_60 sa_52 hv4 ?_
    refine g_aload_n dX8_write_61 0 rfl rfl ?_
    refine g_getr dX8_write_62 lk_X8_52 sf_51_17 ?_
    refine g_iload_n dX8_write_65 2 rfl rfl ?_
    obtain ⟨hv5, h⟩ := gchk h
    refine g_iald dX8_write_66 sa_66 hv5 ?_
    obtain ⟨q6, hq6, h⟩ := gb h
    refine g_callSi [.int (g_I S 52 (x1).toNatClampNeg), .int (g_I S 66 (x2).toNatClampNeg)] [.int (((64 : Int32) * x1) + x2), .ref (X.1 + 54)] dX8_write_67 mk_X8_105 (ctX8_cut hq6) rfl (by decide) rfl (Nat.le_of_ble_eq_true rfl) ?_
    obtain ⟨hv7, h⟩ := gchk h
    obtain ⟨S8, eS8, h⟩ := gle h
    refine g_iast dX8_write_70 sa_54 hv7 eS8 ?_
    obtain ⟨v9, ev9, h⟩ := gle h
    refine g_iinc (q := 2) (v := v9) (lv' := [(2, .int v9), (0, .ref (X.1 + 51)), (1, .int x1)]) dX8_write_71 rfl (by rw [← ev9]; rfl) (by decide) rfl ?_
    refine g_goto (tgt := 35) dX8_write_74 (by decide) ?_
    refine g_sub [1, 2, 0] rfl ?_
    exact H35 (x1, v9, S8) h
noncomputable def bX8_write_35l (F : Nat) : Nat → (Int32 × Int32 × gS) → Option (Int32 × gS) := g_fix (fun k35 s => bX8_write_35 F k35 s.1 s.2.1 s.2.2)
theorem bX8_write_35l_ok {X : gX} {F : Nat} {R : Int32 × gS} : ∀ (n : Nat) (s : Int32 × Int32 × gS), bX8_write_35l F n s = some R → G X RX8 cX8_write 3 (some .int) 5 (some (.int R.1)) R.2 35 [(0, .ref (X.1 + 51)), (1, .int s.1), (2, .int s.2.1)] [] s.2.2 := by
  intro n
  induction n with
  | zero => intro s h; cases h
  | succ n ih => intro s h; exact bX8_write_35_ok (F := F) ih h
noncomputable def fX8_write (F : Nat) (a0 : Int32) (S : gS) : Option (Int32 × gS) := (fX8_isSheet F a0 S).bind (fun q1 : Int32 × gS => if q1.1 = 0 then (some ((-2 : Int32), q1.2)) else (g_chk a0 4 (if 0 ≤ (g_I q1.2 52 (a0).toNatClampNeg) then ((fX8_tries F q1.2).bind (fun q5 : gS => (fX8_mornings F q5).bind (fun q6 : gS => bX8_write_35l F F (a0, (0 : Int32), q6)))) else ((fX8_met F (1 : Int32) q1.2).bind (fun q7 : Int32 × gS => some (q7.1, q7.2))))))
set_option maxRecDepth 20000 in
theorem fX8_write_ok {X : gX} {F : Nat} {R : Int32 × gS} {a0 : Int32} {S : gS} (h : fX8_write F a0 S = some R) : G X RX8 cX8_write 3 (some .int) 5 (some (.int R.1)) R.2 0 [(0, .ref (X.1 + 51)), (1, .int a0)] [] S := by
  unfold fX8_write at h
  refine g_iload_n dX8_write_0 1 rfl rfl ?_
  obtain ⟨q1, hq1, h⟩ := gb h
  refine g_callSi [.int a0] [] dX8_write_1 mk_X8_91 (ctX8_isSheet hq1) rfl (by decide) rfl (Nat.le_of_ble_eq_true rfl) ?_
  refine g_if_ne (tgt := 10) dX8_write_4 (by decide) (fun hc2 => ?_) (fun hc2 => ?_)
  · replace h := gif hc2 h
    refine g_aload_n dX8_write_10 0 rfl rfl ?_
    refine g_getr dX8_write_11 lk_X8_7 sf_51_0 ?_
    refine g_iload_n dX8_write_14 1 rfl rfl ?_
    obtain ⟨hv3, h⟩ := gchk h
    refine g_iald dX8_write_15 sa_52 hv3 ?_
    refine g_if_ge (tgt := 25) dX8_write_16 (by decide) (fun hc4 => ?_) (fun hc4 => ?_)
    · replace h := git hc4 h
      refine g_aload_n dX8_write_25 0 rfl rfl ?_
      obtain ⟨q5, hq5, h⟩ := gb h
      refine g_callVv [] [] dX8_write_26 mk_X8_188 so_51 (ctX8_tries hq5) rfl (by decide) rfl (Nat.le_of_ble_eq_true rfl) ?_
      refine g_aload_n dX8_write_29 0 rfl rfl ?_
      obtain ⟨q6, hq6, h⟩ := gb h
      refine g_callVv [] [] dX8_write_30 mk_X8_218 so_51 (ctX8_mornings hq6) rfl (by decide) rfl (Nat.le_of_ble_eq_true rfl) ?_
      refine g_iconst (v := 0) dX8_write_33 (by decide) ?_
      refine g_istore_n (lv' := [(2, .int (0 : Int32)), (0, .ref (X.1 + 51)), (1, .int a0)]) dX8_write_34 rfl rfl (by decide) rfl ?_
      refine g_sub [1, 2, 0] rfl ?_
      exact bX8_write_35l_ok F (a0, (0 : Int32), q6) h
    · replace h := gif hc4 h
      refine g_aload_n dX8_write_19 0 rfl rfl ?_
      refine g_iconst (v := 1) dX8_write_20 (by decide) ?_
      obtain ⟨q7, hq7, h⟩ := gb h
      refine g_callVi [.int (1 : Int32)] [] dX8_write_21 mk_X8_97 so_51 (ctX8_met hq7) rfl (by decide) rfl (Nat.le_of_ble_eq_true rfl) ?_
      obtain rfl := Option.some.inj h
      exact g_iret dX8_write_24 rfl
  · replace h := git hc2 h
    refine g_bipush (v := -2) dX8_write_7 (by decide) ?_
    obtain rfl := Option.some.inj h
    exact g_iret dX8_write_9 rfl
theorem ctX8_write {X : gX} {F : Nat} {R : Int32 × gS} {a0 : Int32} {S : gS} (h : fX8_write F a0 S = some R) : g_C X yX8_write cX8_write 3 (some .int) 5 [.ref (X.1 + 51), .int a0] S (some (.int R.1)) R.2 :=
  g_met (by decide) (Nat.le_of_ble_eq_true rfl) (fX8_write_ok h)
noncomputable def bX8_count_89 (F : Nat) (k67 : (Int32 × Int32 × Int32 × gS) → Option (Int32 × gS)) (x1 : Int32) (x3 : Int32) (t0 : Int32) (t1 : Int32) (S : gS) : Option (Int32 × gS) := gl (t1 + t0) (fun v1 : Int32 => gl (x3 + 1) (fun v2 : Int32 => k67 (x1, v1, v2, S)))
set_option maxRecDepth 20000 in
theorem bX8_count_89_ok {X : gX} {F : Nat} {k67 : (Int32 × Int32 × Int32 × gS) → Option (Int32 × gS)} {R : Int32 × gS} (H67 : ∀ s : Int32 × Int32 × Int32 × gS, k67 s = some R → G X RX8 cX8_count 4 (some .int) 3 (some (.int R.1)) R.2 67 [(0, .ref (X.1 + 51)), (1, .int s.1), (2, .int s.2.1), (3, .int s.2.2.1)] [] s.2.2.2) {x1 : Int32} {x3 : Int32} {t0 : Int32} {t1 : Int32} {S : gS} (h : bX8_count_89 F k67 x1 x3 t0 t1 S = some R) : G X RX8 cX8_count 4 (some .int) 3 (some (.int R.1)) R.2 89 [(0, .ref (X.1 + 51)), (1, .int x1), (3, .int x3)] [.int t0, .int t1] S := by
  unfold bX8_count_89 at h
  refine g_iadd dX8_count_89 ?_
  obtain ⟨v1, ev1, h⟩ := gle h
  refine g_istore_n (lv' := [(2, .int v1), (0, .ref (X.1 + 51)), (1, .int x1), (3, .int x3)]) dX8_count_90 ev1 rfl (by decide) rfl ?_
  obtain ⟨v2, ev2, h⟩ := gle h
  refine g_iinc (q := 3) (v := v2) (lv' := [(3, .int v2), (2, .int v1), (0, .ref (X.1 + 51)), (1, .int x1)]) dX8_count_91 rfl (by rw [← ev2]; rfl) (by decide) rfl ?_
  refine g_goto (tgt := 67) dX8_count_94 (by decide) ?_
  refine g_sub [2, 3, 1, 0] rfl ?_
  exact H67 (x1, v1, v2, S) h
noncomputable def bX8_count_67 (F : Nat) (k67 : (Int32 × Int32 × Int32 × gS) → Option (Int32 × gS)) (x1 : Int32) (x2 : Int32) (x3 : Int32) (S : gS) : Option (Int32 × gS) := if (64 : Int32) ≤ x3 then (some (x2, S)) else (g_chk x3 64 (if (g_I S 57 (x3).toNatClampNeg) = x1 then (bX8_count_89 F k67 x1 x3 (1 : Int32) x2 S) else (bX8_count_89 F k67 x1 x3 (0 : Int32) x2 S)))
set_option maxRecDepth 20000 in
theorem bX8_count_67_ok {X : gX} {F : Nat} {k67 : (Int32 × Int32 × Int32 × gS) → Option (Int32 × gS)} {R : Int32 × gS} (H67 : ∀ s : Int32 × Int32 × Int32 × gS, k67 s = some R → G X RX8 cX8_count 4 (some .int) 3 (some (.int R.1)) R.2 67 [(0, .ref (X.1 + 51)), (1, .int s.1), (2, .int s.2.1), (3, .int s.2.2.1)] [] s.2.2.2) {x1 : Int32} {x2 : Int32} {x3 : Int32} {S : gS} (h : bX8_count_67 F k67 x1 x2 x3 S = some R) : G X RX8 cX8_count 4 (some .int) 3 (some (.int R.1)) R.2 67 [(0, .ref (X.1 + 51)), (1, .int x1), (2, .int x2), (3, .int x3)] [] S := by
  unfold bX8_count_67 at h
  refine g_iload_n dX8_count_67 3 rfl rfl ?_
  refine g_bipush (v := 64) dX8_count_68 (by decide) ?_
  refine g_icmp_ge (tgt := 97) dX8_count_70 (by decide) (fun hc1 => ?_) (fun hc1 => ?_)
  · replace h := git hc1 h
    refine g_iload_n dX8_count_97 2 rfl rfl ?_
    obtain rfl := Option.some.inj h
    exact g_iret dX8_count_98 rfl
  · replace h := gif hc1 h
    refine g_iload_n dX8_count_73 2 rfl rfl ?_
    refine g_aload_n dX8_count_74 0 rfl rfl ?_
    refine g_getr dX8_count_75 lk_X8_25 sf_51_7 ?_
    refine g_iload_n dX8_count_78 3 rfl rfl ?_
    obtain ⟨hv2, h⟩ := gchk h
    refine g_iald dX8_count_79 sa_57 hv2 ?_
    refine g_iload_n dX8_count_80 1 rfl rfl ?_
    refine g_icmp_ne (tgt := 88) dX8_count_81 (by decide) (fun hc3 => ?_) (fun hc3 => ?_)
    · replace h := gif hc3 h
      refine g_iconst (v := 0) dX8_count_88 (by decide) ?_
      refine g_sub [0, 1, 3] rfl ?_
      exact bX8_count_89_ok H67 h
    · replace h := git hc3 h
      refine g_iconst (v := 1) dX8_count_84 (by decide) ?_
      refine g_goto (tgt := 89) dX8_count_85 (by decide) ?_
      refine g_sub [0, 1, 3] rfl ?_
      exact bX8_count_89_ok H67 h
noncomputable def bX8_count_67l (F : Nat) : Nat → (Int32 × Int32 × Int32 × gS) → Option (Int32 × gS) := g_fix (fun k67 s => bX8_count_67 F k67 s.1 s.2.1 s.2.2.1 s.2.2.2)
theorem bX8_count_67l_ok {X : gX} {F : Nat} {R : Int32 × gS} : ∀ (n : Nat) (s : Int32 × Int32 × Int32 × gS), bX8_count_67l F n s = some R → G X RX8 cX8_count 4 (some .int) 3 (some (.int R.1)) R.2 67 [(0, .ref (X.1 + 51)), (1, .int s.1), (2, .int s.2.1), (3, .int s.2.2.1)] [] s.2.2.2 := by
  intro n
  induction n with
  | zero => intro s h; cases h
  | succ n ih => intro s h; exact bX8_count_67_ok (F := F) ih h
noncomputable def bX8_count_65 (F : Nat) (x1 : Int32) (x2 : Int32) (S : gS) : Option (Int32 × gS) := bX8_count_67l F F (x1, x2, (0 : Int32), S)
set_option maxRecDepth 20000 in
theorem bX8_count_65_ok {X : gX} {F : Nat} {R : Int32 × gS} {x1 : Int32} {x2 : Int32} {S : gS} (h : bX8_count_65 F x1 x2 S = some R) : G X RX8 cX8_count 4 (some .int) 3 (some (.int R.1)) R.2 65 [(0, .ref (X.1 + 51)), (1, .int x1), (2, .int x2)] [] S := by
  unfold bX8_count_65 at h
  refine g_iconst (v := 0) dX8_count_65 (by decide) ?_
  refine g_istore_n (lv' := [(3, .int (0 : Int32)), (0, .ref (X.1 + 51)), (1, .int x1), (2, .int x2)]) dX8_count_66 rfl rfl (by decide) rfl ?_
  refine g_sub [1, 2, 3, 0] rfl ?_
  exact bX8_count_67l_ok F (x1, x2, (0 : Int32), S) h
noncomputable def bX8_count_156 (F : Nat) (k101 : (Int32 × Int32 × Int32 × gS) → Option (Int32 × gS)) (x1 : Int32) (x3 : Int32) (t0 : Int32) (t1 : Int32) (S : gS) : Option (Int32 × gS) := gl (t1 + t0) (fun v1 : Int32 => gl (x3 + 1) (fun v2 : Int32 => k101 (x1, v1, v2, S)))
set_option maxRecDepth 20000 in
theorem bX8_count_156_ok {X : gX} {F : Nat} {k101 : (Int32 × Int32 × Int32 × gS) → Option (Int32 × gS)} {R : Int32 × gS} (H101 : ∀ s : Int32 × Int32 × Int32 × gS, k101 s = some R → G X RX8 cX8_count 4 (some .int) 3 (some (.int R.1)) R.2 101 [(0, .ref (X.1 + 51)), (1, .int s.1), (2, .int s.2.1), (3, .int s.2.2.1)] [] s.2.2.2) {x1 : Int32} {x3 : Int32} {t0 : Int32} {t1 : Int32} {S : gS} (h : bX8_count_156 F k101 x1 x3 t0 t1 S = some R) : G X RX8 cX8_count 4 (some .int) 3 (some (.int R.1)) R.2 156 [(0, .ref (X.1 + 51)), (1, .int x1), (3, .int x3)] [.int t0, .int t1] S := by
  unfold bX8_count_156 at h
  refine g_iadd dX8_count_156 ?_
  obtain ⟨v1, ev1, h⟩ := gle h
  refine g_istore_n (lv' := [(2, .int v1), (0, .ref (X.1 + 51)), (1, .int x1), (3, .int x3)]) dX8_count_157 ev1 rfl (by decide) rfl ?_
  obtain ⟨v2, ev2, h⟩ := gle h
  refine g_iinc (q := 3) (v := v2) (lv' := [(3, .int v2), (2, .int v1), (0, .ref (X.1 + 51)), (1, .int x1)]) dX8_count_158 rfl (by rw [← ev2]; rfl) (by decide) rfl ?_
  refine g_goto (tgt := 101) dX8_count_161 (by decide) ?_
  refine g_sub [2, 3, 1, 0] rfl ?_
  exact H101 (x1, v1, v2, S) h
noncomputable def bX8_count_101 (F : Nat) (k101 : (Int32 × Int32 × Int32 × gS) → Option (Int32 × gS)) (x1 : Int32) (x2 : Int32) (x3 : Int32) (S : gS) : Option (Int32 × gS) := if (64 : Int32) ≤ x3 then (some (x2, S)) else (if x1 = (3 : Int32) then (g_chk x3 64 (bX8_count_156 F k101 x1 x3 (g_I S 58 (x3).toNatClampNeg) x2 S)) else (if x1 = (4 : Int32) then (g_chk x3 64 (bX8_count_156 F k101 x1 x3 (g_I S 59 (x3).toNatClampNeg) x2 S)) else (if x1 = (5 : Int32) then (g_chk x3 64 (bX8_count_156 F k101 x1 x3 (g_I S 60 (x3).toNatClampNeg) x2 S)) else (g_chk x3 64 (bX8_count_156 F k101 x1 x3 (g_I S 61 (x3).toNatClampNeg) x2 S)))))
set_option maxRecDepth 20000 in
theorem bX8_count_101_ok {X : gX} {F : Nat} {k101 : (Int32 × Int32 × Int32 × gS) → Option (Int32 × gS)} {R : Int32 × gS} (H101 : ∀ s : Int32 × Int32 × Int32 × gS, k101 s = some R → G X RX8 cX8_count 4 (some .int) 3 (some (.int R.1)) R.2 101 [(0, .ref (X.1 + 51)), (1, .int s.1), (2, .int s.2.1), (3, .int s.2.2.1)] [] s.2.2.2) {x1 : Int32} {x2 : Int32} {x3 : Int32} {S : gS} (h : bX8_count_101 F k101 x1 x2 x3 S = some R) : G X RX8 cX8_count 4 (some .int) 3 (some (.int R.1)) R.2 101 [(0, .ref (X.1 + 51)), (1, .int x1), (2, .int x2), (3, .int x3)] [] S := by
  unfold bX8_count_101 at h
  refine g_iload_n dX8_count_101 3 rfl rfl ?_
  refine g_bipush (v := 64) dX8_count_102 (by decide) ?_
  refine g_icmp_ge (tgt := 164) dX8_count_104 (by decide) (fun hc1 => ?_) (fun hc1 => ?_)
  · replace h := git hc1 h
    refine g_iload_n dX8_count_164 2 rfl rfl ?_
    obtain rfl := Option.some.inj h
    exact g_iret dX8_count_165 rfl
  · replace h := gif hc1 h
    refine g_iload_n dX8_count_107 2 rfl rfl ?_
    refine g_iload_n dX8_count_108 1 rfl rfl ?_
    refine g_iconst (v := 3) dX8_count_109 (by decide) ?_
    refine g_icmp_ne (tgt := 122) dX8_count_110 (by decide) (fun hc2 => ?_) (fun hc2 => ?_)
    · replace h := gif hc2 h
      refine g_iload_n dX8_count_122 1 rfl rfl ?_
      refine g_iconst (v := 4) dX8_count_123 (by decide) ?_
      refine g_icmp_ne (tgt := 136) dX8_count_124 (by decide) (fun hc3 => ?_) (fun hc3 => ?_)
      · replace h := gif hc3 h
        refine g_iload_n dX8_count_136 1 rfl rfl ?_
        refine g_iconst (v := 5) dX8_count_137 (by decide) ?_
        refine g_icmp_ne (tgt := 150) dX8_count_138 (by decide) (fun hc4 => ?_) (fun hc4 => ?_)
        · replace h := gif hc4 h
          refine g_aload_n dX8_count_150 0 rfl rfl ?_
          refine g_getr dX8_count_151 lk_X8_37 sf_51_11 ?_
          refine g_iload_n dX8_count_154 3 rfl rfl ?_
          obtain ⟨hv5, h⟩ := gchk h
          refine g_iald dX8_count_155 sa_61 hv5 ?_
          refine g_sub [0, 1, 3] rfl ?_
          exact bX8_count_156_ok H101 h
        · replace h := git hc4 h
          refine g_aload_n dX8_count_141 0 rfl rfl ?_
          refine g_getr dX8_count_142 lk_X8_34 sf_51_10 ?_
          refine g_iload_n dX8_count_145 3 rfl rfl ?_
          obtain ⟨hv6, h⟩ := gchk h
          refine g_iald dX8_count_146 sa_60 hv6 ?_
          refine g_goto (tgt := 156) dX8_count_147 (by decide) ?_
          refine g_sub [0, 1, 3] rfl ?_
          exact bX8_count_156_ok H101 h
      · replace h := git hc3 h
        refine g_aload_n dX8_count_127 0 rfl rfl ?_
        refine g_getr dX8_count_128 lk_X8_31 sf_51_9 ?_
        refine g_iload_n dX8_count_131 3 rfl rfl ?_
        obtain ⟨hv7, h⟩ := gchk h
        refine g_iald dX8_count_132 sa_59 hv7 ?_
        refine g_goto (tgt := 156) dX8_count_133 (by decide) ?_
        refine g_sub [0, 1, 3] rfl ?_
        exact bX8_count_156_ok H101 h
    · replace h := git hc2 h
      refine g_aload_n dX8_count_113 0 rfl rfl ?_
      refine g_getr dX8_count_114 lk_X8_28 sf_51_8 ?_
      refine g_iload_n dX8_count_117 3 rfl rfl ?_
      obtain ⟨hv8, h⟩ := gchk h
      refine g_iald dX8_count_118 sa_58 hv8 ?_
      refine g_goto (tgt := 156) dX8_count_119 (by decide) ?_
      refine g_sub [0, 1, 3] rfl ?_
      exact bX8_count_156_ok H101 h
noncomputable def bX8_count_101l (F : Nat) : Nat → (Int32 × Int32 × Int32 × gS) → Option (Int32 × gS) := g_fix (fun k101 s => bX8_count_101 F k101 s.1 s.2.1 s.2.2.1 s.2.2.2)
theorem bX8_count_101l_ok {X : gX} {F : Nat} {R : Int32 × gS} : ∀ (n : Nat) (s : Int32 × Int32 × Int32 × gS), bX8_count_101l F n s = some R → G X RX8 cX8_count 4 (some .int) 3 (some (.int R.1)) R.2 101 [(0, .ref (X.1 + 51)), (1, .int s.1), (2, .int s.2.1), (3, .int s.2.2.1)] [] s.2.2.2 := by
  intro n
  induction n with
  | zero => intro s h; cases h
  | succ n ih => intro s h; exact bX8_count_101_ok (F := F) ih h
noncomputable def bX8_count_99 (F : Nat) (x1 : Int32) (x2 : Int32) (S : gS) : Option (Int32 × gS) := bX8_count_101l F F (x1, x2, (0 : Int32), S)
set_option maxRecDepth 20000 in
theorem bX8_count_99_ok {X : gX} {F : Nat} {R : Int32 × gS} {x1 : Int32} {x2 : Int32} {S : gS} (h : bX8_count_99 F x1 x2 S = some R) : G X RX8 cX8_count 4 (some .int) 3 (some (.int R.1)) R.2 99 [(0, .ref (X.1 + 51)), (1, .int x1), (2, .int x2)] [] S := by
  unfold bX8_count_99 at h
  refine g_iconst (v := 0) dX8_count_99 (by decide) ?_
  refine g_istore_n (lv' := [(3, .int (0 : Int32)), (0, .ref (X.1 + 51)), (1, .int x1), (2, .int x2)]) dX8_count_100 rfl rfl (by decide) rfl ?_
  refine g_sub [1, 2, 3, 0] rfl ?_
  exact bX8_count_101l_ok F (x1, x2, (0 : Int32), S) h
noncomputable def fX8_count (F : Nat) (a0 : Int32) (S : gS) : Option (Int32 × gS) := (fX8_reads F S).bind (fun q1 : Int32 × gS => if a0 = 0 then (some ((g_I q1.2 51 6), q1.2)) else (if a0 = 1 then (bX8_count_65 F a0 (0 : Int32) q1.2) else (if a0 = 2 then (bX8_count_65 F a0 (0 : Int32) q1.2) else (if a0 = 3 then (bX8_count_99 F a0 (0 : Int32) q1.2) else (if a0 = 4 then (bX8_count_99 F a0 (0 : Int32) q1.2) else (if a0 = 5 then (bX8_count_99 F a0 (0 : Int32) q1.2) else (if a0 = 6 then (bX8_count_99 F a0 (0 : Int32) q1.2) else (if a0 = 7 then (some ((g_I q1.2 51 12), q1.2)) else (if a0 = 8 then (some ((g_I q1.2 51 4), q1.2)) else (some ((-2 : Int32), q1.2)))))))))))
set_option maxRecDepth 20000 in
theorem fX8_count_ok {X : gX} {F : Nat} {R : Int32 × gS} {a0 : Int32} {S : gS} (h : fX8_count F a0 S = some R) : G X RX8 cX8_count 4 (some .int) 3 (some (.int R.1)) R.2 0 [(0, .ref (X.1 + 51)), (1, .int a0)] [] S := by
  unfold fX8_count at h
  refine g_iconst (v := 0) dX8_count_0 (by decide) ?_
  refine g_istore_n (lv' := [(2, .int (0 : Int32)), (0, .ref (X.1 + 51)), (1, .int a0)]) dX8_count_1 rfl rfl (by decide) rfl ?_
  refine g_aload_n dX8_count_2 1 rfl rfl ?_
  obtain ⟨q1, hq1, h⟩ := gb h
  refine g_callVi [] [] dX8_count_3 mk_X8_122 so_51 (ctX8_reads hq1) rfl (by decide) rfl (Nat.le_of_ble_eq_true rfl) ?_
  refine g_pop dX8_count_6 rfl ?_
  refine g_iload_n dX8_count_7 2 rfl rfl ?_
  by_cases hc2 : a0 = 0
  · replace h := git hc2 h
    refine g_tabIn (off := 52) (tgt := 60) dX8_count_8 (by have z := hc2; (try unfold g_I at z); rw [z]; decide) (by have z := hc2; (try unfold g_I at z); rw [z]; decide) (by have z := hc2; (try unfold g_I at z); rw [z]; rfl) (by decide) ?_
    refine g_aload_n dX8_count_60 1 rfl rfl ?_
    refine g_geti dX8_count_61 lk_X8_112 sf_51_6 ?_
    obtain rfl := Option.some.inj h
    exact g_iret dX8_count_64 rfl
  · replace h := gif hc2 h
    by_cases hc3 : a0 = 1
    · replace h := git hc3 h
      refine g_tabIn (off := 57) (tgt := 65) dX8_count_8 (by have z := hc3; (try unfold g_I at z); rw [z]; decide) (by have z := hc3; (try unfold g_I at z); rw [z]; decide) (by have z := hc3; (try unfold g_I at z); rw [z]; rfl) (by decide) ?_
      refine g_sub [1, 2, 0] rfl ?_
      exact bX8_count_65_ok h
    · replace h := gif hc3 h
      by_cases hc4 : a0 = 2
      · replace h := git hc4 h
        refine g_tabIn (off := 57) (tgt := 65) dX8_count_8 (by have z := hc4; (try unfold g_I at z); rw [z]; decide) (by have z := hc4; (try unfold g_I at z); rw [z]; decide) (by have z := hc4; (try unfold g_I at z); rw [z]; rfl) (by decide) ?_
        refine g_sub [1, 2, 0] rfl ?_
        exact bX8_count_65_ok h
      · replace h := gif hc4 h
        by_cases hc5 : a0 = 3
        · replace h := git hc5 h
          refine g_tabIn (off := 91) (tgt := 99) dX8_count_8 (by have z := hc5; (try unfold g_I at z); rw [z]; decide) (by have z := hc5; (try unfold g_I at z); rw [z]; decide) (by have z := hc5; (try unfold g_I at z); rw [z]; rfl) (by decide) ?_
          refine g_sub [1, 2, 0] rfl ?_
          exact bX8_count_99_ok h
        · replace h := gif hc5 h
          by_cases hc6 : a0 = 4
          · replace h := git hc6 h
            refine g_tabIn (off := 91) (tgt := 99) dX8_count_8 (by have z := hc6; (try unfold g_I at z); rw [z]; decide) (by have z := hc6; (try unfold g_I at z); rw [z]; decide) (by have z := hc6; (try unfold g_I at z); rw [z]; rfl) (by decide) ?_
            refine g_sub [1, 2, 0] rfl ?_
            exact bX8_count_99_ok h
          · replace h := gif hc6 h
            by_cases hc7 : a0 = 5
            · replace h := git hc7 h
              refine g_tabIn (off := 91) (tgt := 99) dX8_count_8 (by have z := hc7; (try unfold g_I at z); rw [z]; decide) (by have z := hc7; (try unfold g_I at z); rw [z]; decide) (by have z := hc7; (try unfold g_I at z); rw [z]; rfl) (by decide) ?_
              refine g_sub [1, 2, 0] rfl ?_
              exact bX8_count_99_ok h
            · replace h := gif hc7 h
              by_cases hc8 : a0 = 6
              · replace h := git hc8 h
                refine g_tabIn (off := 91) (tgt := 99) dX8_count_8 (by have z := hc8; (try unfold g_I at z); rw [z]; decide) (by have z := hc8; (try unfold g_I at z); rw [z]; decide) (by have z := hc8; (try unfold g_I at z); rw [z]; rfl) (by decide) ?_
                refine g_sub [1, 2, 0] rfl ?_
                exact bX8_count_99_ok h
              · replace h := gif hc8 h
                by_cases hc9 : a0 = 7
                · replace h := git hc9 h
                  refine g_tabIn (off := 158) (tgt := 166) dX8_count_8 (by have z := hc9; (try unfold g_I at z); rw [z]; decide) (by have z := hc9; (try unfold g_I at z); rw [z]; decide) (by have z := hc9; (try unfold g_I at z); rw [z]; rfl) (by decide) ?_
                  refine g_aload_n dX8_count_166 1 rfl rfl ?_
                  refine g_geti dX8_count_167 lk_X8_146 sf_51_12 ?_
                  obtain rfl := Option.some.inj h
                  exact g_iret dX8_count_170 rfl
                · replace h := gif hc9 h
                  by_cases hc10 : a0 = 8
                  · replace h := git hc10 h
                    refine g_tabIn (off := 163) (tgt := 171) dX8_count_8 (by have z := hc10; (try unfold g_I at z); rw [z]; decide) (by have z := hc10; (try unfold g_I at z); rw [z]; decide) (by have z := hc10; (try unfold g_I at z); rw [z]; rfl) (by decide) ?_
                    refine g_aload_n dX8_count_171 1 rfl rfl ?_
                    refine g_geti dX8_count_172 lk_X8_86 sf_51_4 ?_
                    obtain rfl := Option.some.inj h
                    exact g_iret dX8_count_175 rfl
                  · replace h := gif hc10 h
                    refine g_tabOut (tgt := 176) dX8_count_8 (g_tout (fun c h1 h2 => by have z0 := g_tne hc2; have z1 := g_tne hc3; have z2 := g_tne hc4; have z3 := g_tne hc5; have z4 := g_tne hc6; have z5 := g_tne hc7; have z6 := g_tne hc8; have z7 := g_tne hc9; have z8 := g_tne hc10; rw [show ((0 : Int32)).toInt = 0 from by decide] at z0; rw [show ((1 : Int32)).toInt = 1 from by decide] at z1; rw [show ((2 : Int32)).toInt = 2 from by decide] at z2; rw [show ((3 : Int32)).toInt = 3 from by decide] at z3; rw [show ((4 : Int32)).toInt = 4 from by decide] at z4; rw [show ((5 : Int32)).toInt = 5 from by decide] at z5; rw [show ((6 : Int32)).toInt = 6 from by decide] at z6; rw [show ((7 : Int32)).toInt = 7 from by decide] at z7; rw [show ((8 : Int32)).toInt = 8 from by decide] at z8; omega)) (by decide) ?_
                    refine g_bipush (v := -2) dX8_count_176 (by decide) ?_
                    obtain rfl := Option.some.inj h
                    exact g_iret dX8_count_178 rfl
theorem ctX8_count {X : gX} {F : Nat} {R : Int32 × gS} {a0 : Int32} {S : gS} (h : fX8_count F a0 S = some R) : g_C X yX8_count cX8_count 4 (some .int) 3 [.ref (X.1 + 51), .int a0] S (some (.int R.1)) R.2 :=
  g_met (by decide) (Nat.le_of_ble_eq_true rfl) (fX8_count_ok h)
noncomputable def bX8_digest_265 (F : Nat) (k265 : (Int64 × Int32 × gS) → Option (Int64 × gS)) (x1 : Int64) (x3 : Int32) (S : gS) : Option (Int64 × gS) := if (2 : Int32) ≤ x3 then (some (x1, S)) else ((fX8_leftOf F (2 : Int32) x3 S).bind (fun q2 : Int64 × gS => gl (((31 : Int64) * x1) + q2.1) (fun v3 : Int64 => gl (x3 + 1) (fun v4 : Int32 => k265 (v3, v4, q2.2)))))
set_option maxRecDepth 20000 in
theorem bX8_digest_265_ok {X : gX} {F : Nat} {k265 : (Int64 × Int32 × gS) → Option (Int64 × gS)} {R : Int64 × gS} (H265 : ∀ s : Int64 × Int32 × gS, k265 s = some R → G X RX8 cX8_digest 5 (some .long) 7 (some (.long R.1)) R.2 265 [(0, .ref (X.1 + 51)), (1, .long s.1), (3, .int s.2.1)] [] s.2.2) {x1 : Int64} {x3 : Int32} {S : gS} (h : bX8_digest_265 F k265 x1 x3 S = some R) : G X RX8 cX8_digest 5 (some .long) 7 (some (.long R.1)) R.2 265 [(0, .ref (X.1 + 51)), (1, .long x1), (3, .int x3)] [] S := by
  unfold bX8_digest_265 at h
  refine g_iload_n dX8_digest_265 2 rfl rfl ?_
  refine g_iconst (v := 2) dX8_digest_266 (by decide) ?_
  refine g_icmp_ge (tgt := 289) dX8_digest_267 (by decide) (fun hc1 => ?_) (fun hc1 => ?_)
  · replace h := git hc1 h
    refine g_lload_n dX8_digest_289 1 rfl rfl ?_
    obtain rfl := Option.some.inj h
    exact g_lret dX8_digest_290 rfl
  · replace h := gif hc1 h
    refine g_ldc2 dX8_digest_270 ck_X8_297 ?_
    refine g_lload_n dX8_digest_273 1 rfl rfl ?_
    refine g_lmul dX8_digest_274 ?_
    refine g_aload_n dX8_digest_275 0 rfl rfl ?_
    refine g_iconst (v := 2) dX8_digest_276 (by decide) ?_
    refine g_iload_n dX8_digest_277 2 rfl rfl ?_
    obtain ⟨q2, hq2, h⟩ := gb h
    refine g_callVl [.int (2 : Int32), .int x3] [.long ((31 : Int64) * x1)] dX8_digest_278 mk_X8_270 so_51 (ctX8_leftOf hq2) rfl (by decide) rfl (Nat.le_of_ble_eq_true rfl) ?_
    refine g_ladd dX8_digest_281 ?_
    obtain ⟨v3, ev3, h⟩ := gle h
    refine g_lstore_n (lv' := [(1, .long v3), (0, .ref (X.1 + 51)), (3, .int x3)]) dX8_digest_282 ev3 rfl (by decide) rfl ?_
    obtain ⟨v4, ev4, h⟩ := gle h
    refine g_iinc (q := 2) (v := v4) (lv' := [(3, .int v4), (1, .long v3), (0, .ref (X.1 + 51))]) dX8_digest_283 rfl (by rw [← ev4]; rfl) (by decide) rfl ?_
    refine g_goto (tgt := 265) dX8_digest_286 (by decide) ?_
    refine g_sub [2, 1, 0] rfl ?_
    exact H265 (v3, v4, q2.2) h
noncomputable def bX8_digest_265l (F : Nat) : Nat → (Int64 × Int32 × gS) → Option (Int64 × gS) := g_fix (fun k265 s => bX8_digest_265 F k265 s.1 s.2.1 s.2.2)
theorem bX8_digest_265l_ok {X : gX} {F : Nat} {R : Int64 × gS} : ∀ (n : Nat) (s : Int64 × Int32 × gS), bX8_digest_265l F n s = some R → G X RX8 cX8_digest 5 (some .long) 7 (some (.long R.1)) R.2 265 [(0, .ref (X.1 + 51)), (1, .long s.1), (3, .int s.2.1)] [] s.2.2 := by
  intro n
  induction n with
  | zero => intro s h; cases h
  | succ n ih => intro s h; exact bX8_digest_265_ok (F := F) ih h
noncomputable def bX8_digest_239 (F : Nat) (k239 : (Int64 × Int32 × gS) → Option (Int64 × gS)) (x1 : Int64) (x3 : Int32) (S : gS) : Option (Int64 × gS) := if (2 : Int32) ≤ x3 then (bX8_digest_265l F F (x1, (0 : Int32), S)) else ((fX8_leftOf F (0 : Int32) x3 S).bind (fun q2 : Int64 × gS => gl (((31 : Int64) * x1) + q2.1) (fun v3 : Int64 => gl (x3 + 1) (fun v4 : Int32 => k239 (v3, v4, q2.2)))))
set_option maxRecDepth 20000 in
theorem bX8_digest_239_ok {X : gX} {F : Nat} {k239 : (Int64 × Int32 × gS) → Option (Int64 × gS)} {R : Int64 × gS} (H239 : ∀ s : Int64 × Int32 × gS, k239 s = some R → G X RX8 cX8_digest 5 (some .long) 7 (some (.long R.1)) R.2 239 [(0, .ref (X.1 + 51)), (1, .long s.1), (3, .int s.2.1)] [] s.2.2) {x1 : Int64} {x3 : Int32} {S : gS} (h : bX8_digest_239 F k239 x1 x3 S = some R) : G X RX8 cX8_digest 5 (some .long) 7 (some (.long R.1)) R.2 239 [(0, .ref (X.1 + 51)), (1, .long x1), (3, .int x3)] [] S := by
  unfold bX8_digest_239 at h
  refine g_iload_n dX8_digest_239 2 rfl rfl ?_
  refine g_iconst (v := 2) dX8_digest_240 (by decide) ?_
  refine g_icmp_ge (tgt := 263) dX8_digest_241 (by decide) (fun hc1 => ?_) (fun hc1 => ?_)
  · replace h := git hc1 h
    refine g_iconst (v := 0) dX8_digest_263 (by decide) ?_
    refine g_istore_n (lv' := [(3, .int (0 : Int32)), (0, .ref (X.1 + 51)), (1, .long x1)]) dX8_digest_264 rfl rfl (by decide) rfl ?_
    refine g_sub [1, 2, 0] rfl ?_
    exact bX8_digest_265l_ok F (x1, (0 : Int32), S) h
  · replace h := gif hc1 h
    refine g_ldc2 dX8_digest_244 ck_X8_297 ?_
    refine g_lload_n dX8_digest_247 1 rfl rfl ?_
    refine g_lmul dX8_digest_248 ?_
    refine g_aload_n dX8_digest_249 0 rfl rfl ?_
    refine g_iconst (v := 0) dX8_digest_250 (by decide) ?_
    refine g_iload_n dX8_digest_251 2 rfl rfl ?_
    obtain ⟨q2, hq2, h⟩ := gb h
    refine g_callVl [.int (0 : Int32), .int x3] [.long ((31 : Int64) * x1)] dX8_digest_252 mk_X8_270 so_51 (ctX8_leftOf hq2) rfl (by decide) rfl (Nat.le_of_ble_eq_true rfl) ?_
    refine g_ladd dX8_digest_255 ?_
    obtain ⟨v3, ev3, h⟩ := gle h
    refine g_lstore_n (lv' := [(1, .long v3), (0, .ref (X.1 + 51)), (3, .int x3)]) dX8_digest_256 ev3 rfl (by decide) rfl ?_
    obtain ⟨v4, ev4, h⟩ := gle h
    refine g_iinc (q := 2) (v := v4) (lv' := [(3, .int v4), (1, .long v3), (0, .ref (X.1 + 51))]) dX8_digest_257 rfl (by rw [← ev4]; rfl) (by decide) rfl ?_
    refine g_goto (tgt := 239) dX8_digest_260 (by decide) ?_
    refine g_sub [2, 1, 0] rfl ?_
    exact H239 (v3, v4, q2.2) h
noncomputable def bX8_digest_239l (F : Nat) : Nat → (Int64 × Int32 × gS) → Option (Int64 × gS) := g_fix (fun k239 s => bX8_digest_239 F k239 s.1 s.2.1 s.2.2)
theorem bX8_digest_239l_ok {X : gX} {F : Nat} {R : Int64 × gS} : ∀ (n : Nat) (s : Int64 × Int32 × gS), bX8_digest_239l F n s = some R → G X RX8 cX8_digest 5 (some .long) 7 (some (.long R.1)) R.2 239 [(0, .ref (X.1 + 51)), (1, .long s.1), (3, .int s.2.1)] [] s.2.2 := by
  intro n
  induction n with
  | zero => intro s h; cases h
  | succ n ih => intro s h; exact bX8_digest_239_ok (F := F) ih h
noncomputable def bX8_digest_147 (F : Nat) (k147 : (Int64 × Int32 × gS) → Option (Int64 × gS)) (x1 : Int64) (x3 : Int32) (S : gS) : Option (Int64 × gS) := if (4 : Int32) ≤ x3 then ((fX8_longerNow F S).bind (fun q2 : Int32 × gS => gl (((31 : Int64) * x1) + (q2.1).toInt64) (fun v3 : Int64 => (fX8_firstOf F (0 : Int32) q2.2).bind (fun q4 : Int32 × gS => gl (((31 : Int64) * v3) + (q4.1).toInt64) (fun v5 : Int64 => (fX8_firstOf F (1 : Int32) q4.2).bind (fun q6 : Int32 × gS => gl (((31 : Int64) * v5) + (q6.1).toInt64) (fun v7 : Int64 => (fX8_findYard F q6.2).bind (fun q8 : gS => gl (((31 : Int64) * v7) + ((g_I q8 51 31)).toInt64) (fun v9 : Int64 => gl (((31 : Int64) * v9) + ((g_I q8 51 32)).toInt64) (fun v10 : Int64 => bX8_digest_239l F F (v10, (0 : Int32), q8))))))))))) else ((fX8_allOf F x3 S).bind (fun q11 : Int32 × gS => gl (((31 : Int64) * x1) + (q11.1).toInt64) (fun v12 : Int64 => gl (x3 + 1) (fun v13 : Int32 => k147 (v12, v13, q11.2)))))
set_option maxRecDepth 20000 in
theorem bX8_digest_147_ok {X : gX} {F : Nat} {k147 : (Int64 × Int32 × gS) → Option (Int64 × gS)} {R : Int64 × gS} (H147 : ∀ s : Int64 × Int32 × gS, k147 s = some R → G X RX8 cX8_digest 5 (some .long) 7 (some (.long R.1)) R.2 147 [(0, .ref (X.1 + 51)), (1, .long s.1), (3, .int s.2.1)] [] s.2.2) {x1 : Int64} {x3 : Int32} {S : gS} (h : bX8_digest_147 F k147 x1 x3 S = some R) : G X RX8 cX8_digest 5 (some .long) 7 (some (.long R.1)) R.2 147 [(0, .ref (X.1 + 51)), (1, .long x1), (3, .int x3)] [] S := by
  unfold bX8_digest_147 at h
  refine g_iload_n dX8_digest_147 2 rfl rfl ?_
  refine g_iconst (v := 4) dX8_digest_148 (by decide) ?_
  refine g_icmp_ge (tgt := 171) dX8_digest_149 (by decide) (fun hc1 => ?_) (fun hc1 => ?_)
  · replace h := git hc1 h
    refine g_ldc2 dX8_digest_171 ck_X8_297 ?_
    refine g_lload_n dX8_digest_174 1 rfl rfl ?_
    refine g_lmul dX8_digest_175 ?_
    refine g_aload_n dX8_digest_176 0 rfl rfl ?_
    obtain ⟨q2, hq2, h⟩ := gb h
    refine g_callVi [] [.long ((31 : Int64) * x1)] dX8_digest_177 mk_X8_224 so_51 (ctX8_longerNow hq2) rfl (by decide) rfl (Nat.le_of_ble_eq_true rfl) ?_
    refine g_i2l dX8_digest_180 ?_
    refine g_ladd dX8_digest_181 ?_
    obtain ⟨v3, ev3, h⟩ := gle h
    refine g_lstore_n (lv' := [(1, .long v3), (0, .ref (X.1 + 51)), (3, .int x3)]) dX8_digest_182 ev3 rfl (by decide) rfl ?_
    refine g_ldc2 dX8_digest_183 ck_X8_297 ?_
    refine g_lload_n dX8_digest_186 0 rfl rfl ?_
    refine g_lmul dX8_digest_187 ?_
    refine g_aload_n dX8_digest_188 1 rfl rfl ?_
    refine g_iconst (v := 0) dX8_digest_189 (by decide) ?_
    obtain ⟨q4, hq4, h⟩ := gb h
    refine g_callVi [.int (0 : Int32)] [.long ((31 : Int64) * v3)] dX8_digest_190 mk_X8_251 so_51 (ctX8_firstOf hq4) rfl (by decide) rfl (Nat.le_of_ble_eq_true rfl) ?_
    refine g_i2l dX8_digest_193 ?_
    refine g_ladd dX8_digest_194 ?_
    obtain ⟨v5, ev5, h⟩ := gle h
    refine g_lstore_n (lv' := [(1, .long v5), (0, .ref (X.1 + 51)), (3, .int x3)]) dX8_digest_195 ev5 rfl (by decide) rfl ?_
    refine g_ldc2 dX8_digest_196 ck_X8_297 ?_
    refine g_lload_n dX8_digest_199 0 rfl rfl ?_
    refine g_lmul dX8_digest_200 ?_
    refine g_aload_n dX8_digest_201 1 rfl rfl ?_
    refine g_iconst (v := 1) dX8_digest_202 (by decide) ?_
    obtain ⟨q6, hq6, h⟩ := gb h
    refine g_callVi [.int (1 : Int32)] [.long ((31 : Int64) * v5)] dX8_digest_203 mk_X8_251 so_51 (ctX8_firstOf hq6) rfl (by decide) rfl (Nat.le_of_ble_eq_true rfl) ?_
    refine g_i2l dX8_digest_206 ?_
    refine g_ladd dX8_digest_207 ?_
    obtain ⟨v7, ev7, h⟩ := gle h
    refine g_lstore_n (lv' := [(1, .long v7), (0, .ref (X.1 + 51)), (3, .int x3)]) dX8_digest_208 ev7 rfl (by decide) rfl ?_
    refine g_aload_n dX8_digest_209 1 rfl rfl ?_
    obtain ⟨q8, hq8, h⟩ := gb h
    refine g_callVv [] [] dX8_digest_210 mk_X8_260 so_51 (ctX8_findYard hq8) rfl (by decide) rfl (Nat.le_of_ble_eq_true rfl) ?_
    refine g_ldc2 dX8_digest_213 ck_X8_297 ?_
    refine g_lload_n dX8_digest_216 0 rfl rfl ?_
    refine g_lmul dX8_digest_217 ?_
    refine g_aload_n dX8_digest_218 1 rfl rfl ?_
    refine g_geti dX8_digest_219 lk_X8_254 sf_51_31 ?_
    refine g_i2l dX8_digest_222 ?_
    refine g_ladd dX8_digest_223 ?_
    obtain ⟨v9, ev9, h⟩ := gle h
    refine g_lstore_n (lv' := [(1, .long v9), (0, .ref (X.1 + 51)), (3, .int x3)]) dX8_digest_224 ev9 rfl (by decide) rfl ?_
    refine g_ldc2 dX8_digest_225 ck_X8_297 ?_
    refine g_lload_n dX8_digest_228 0 rfl rfl ?_
    refine g_lmul dX8_digest_229 ?_
    refine g_aload_n dX8_digest_230 1 rfl rfl ?_
    refine g_geti dX8_digest_231 lk_X8_257 sf_51_32 ?_
    refine g_i2l dX8_digest_234 ?_
    refine g_ladd dX8_digest_235 ?_
    obtain ⟨v10, ev10, h⟩ := gle h
    refine g_lstore_n (lv' := [(1, .long v10), (0, .ref (X.1 + 51)), (3, .int x3)]) dX8_digest_236 ev10 rfl (by decide) rfl ?_
    refine g_iconst (v := 0) dX8_digest_237 (by decide) ?_
    refine g_istore_n (lv' := [(3, .int (0 : Int32)), (1, .long v10), (0, .ref (X.1 + 51))]) dX8_digest_238 rfl rfl (by decide) rfl ?_
    refine g_sub [2, 1, 0] rfl ?_
    exact bX8_digest_239l_ok F (v10, (0 : Int32), q8) h
  · replace h := gif hc1 h
    refine g_ldc2 dX8_digest_152 ck_X8_297 ?_
    refine g_lload_n dX8_digest_155 1 rfl rfl ?_
    refine g_lmul dX8_digest_156 ?_
    refine g_aload_n dX8_digest_157 0 rfl rfl ?_
    refine g_iload_n dX8_digest_158 2 rfl rfl ?_
    obtain ⟨q11, hq11, h⟩ := gb h
    refine g_callVi [.int x3] [.long ((31 : Int64) * x1)] dX8_digest_159 mk_X8_221 so_51 (ctX8_allOf hq11) rfl (by decide) rfl (Nat.le_of_ble_eq_true rfl) ?_
    refine g_i2l dX8_digest_162 ?_
    refine g_ladd dX8_digest_163 ?_
    obtain ⟨v12, ev12, h⟩ := gle h
    refine g_lstore_n (lv' := [(1, .long v12), (0, .ref (X.1 + 51)), (3, .int x3)]) dX8_digest_164 ev12 rfl (by decide) rfl ?_
    obtain ⟨v13, ev13, h⟩ := gle h
    refine g_iinc (q := 2) (v := v13) (lv' := [(3, .int v13), (1, .long v12), (0, .ref (X.1 + 51))]) dX8_digest_165 rfl (by rw [← ev13]; rfl) (by decide) rfl ?_
    refine g_goto (tgt := 147) dX8_digest_168 (by decide) ?_
    refine g_sub [2, 1, 0] rfl ?_
    exact H147 (v12, v13, q11.2) h
noncomputable def bX8_digest_147l (F : Nat) : Nat → (Int64 × Int32 × gS) → Option (Int64 × gS) := g_fix (fun k147 s => bX8_digest_147 F k147 s.1 s.2.1 s.2.2)
theorem bX8_digest_147l_ok {X : gX} {F : Nat} {R : Int64 × gS} : ∀ (n : Nat) (s : Int64 × Int32 × gS), bX8_digest_147l F n s = some R → G X RX8 cX8_digest 5 (some .long) 7 (some (.long R.1)) R.2 147 [(0, .ref (X.1 + 51)), (1, .long s.1), (3, .int s.2.1)] [] s.2.2 := by
  intro n
  induction n with
  | zero => intro s h; cases h
  | succ n ih => intro s h; exact bX8_digest_147_ok (F := F) ih h
noncomputable def bX8_digest_89 (F : Nat) (k89 : (Int64 × Int32 × gS) → Option (Int64 × gS)) (x1 : Int64) (x3 : Int32) (S : gS) : Option (Int64 × gS) := if (g_I S 51 12) ≤ x3 then (bX8_digest_147l F F (x1, (0 : Int32), S)) else ((fX8_tries F S).bind (fun q2 : gS => (fX8_straightOf F x3 q2).bind (fun q3 : Int32 × gS => gl (((31 : Int64) * x1) + (q3.1).toInt64) (fun v4 : Int64 => g_chk x3 8 (g_chk x3 8 ((fX8_planOf F (g_I q3.2 62 (x3).toNatClampNeg) (g_I q3.2 63 (x3).toNatClampNeg) (-1 : Int32) q3.2).bind (fun q7 : Int32 × gS => gl (((31 : Int64) * v4) + (q7.1).toInt64) (fun v8 : Int64 => gl (x3 + 1) (fun v9 : Int32 => k89 (v8, v9, q7.2))))))))))
set_option maxRecDepth 20000 in
theorem bX8_digest_89_ok {X : gX} {F : Nat} {k89 : (Int64 × Int32 × gS) → Option (Int64 × gS)} {R : Int64 × gS} (H89 : ∀ s : Int64 × Int32 × gS, k89 s = some R → G X RX8 cX8_digest 5 (some .long) 7 (some (.long R.1)) R.2 89 [(0, .ref (X.1 + 51)), (1, .long s.1), (3, .int s.2.1)] [] s.2.2) {x1 : Int64} {x3 : Int32} {S : gS} (h : bX8_digest_89 F k89 x1 x3 S = some R) : G X RX8 cX8_digest 5 (some .long) 7 (some (.long R.1)) R.2 89 [(0, .ref (X.1 + 51)), (1, .long x1), (3, .int x3)] [] S := by
  unfold bX8_digest_89 at h
  refine g_iload_n dX8_digest_89 2 rfl rfl ?_
  refine g_aload_n dX8_digest_90 0 rfl rfl ?_
  refine g_geti dX8_digest_91 lk_X8_146 sf_51_12 ?_
  refine g_icmp_ge (tgt := 145) dX8_digest_94 (by decide) (fun hc1 => ?_) (fun hc1 => ?_)
  · replace h := git hc1 h
    refine g_iconst (v := 0) dX8_digest_145 (by decide) ?_
    refine g_istore_n (lv' := [(3, .int (0 : Int32)), (0, .ref (X.1 + 51)), (1, .long x1)]) dX8_digest_146 rfl rfl (by decide) rfl ?_
    refine g_sub [1, 2, 0] rfl ?_
    exact bX8_digest_147l_ok F (x1, (0 : Int32), S) h
  · replace h := gif hc1 h
    refine g_aload_n dX8_digest_97 0 rfl rfl ?_
    obtain ⟨q2, hq2, h⟩ := gb h
    refine g_callVv [] [] dX8_digest_98 mk_X8_188 so_51 (ctX8_tries hq2) rfl (by decide) rfl (Nat.le_of_ble_eq_true rfl) ?_
    refine g_ldc2 dX8_digest_101 ck_X8_297 ?_
    refine g_lload_n dX8_digest_104 1 rfl rfl ?_
    refine g_lmul dX8_digest_105 ?_
    refine g_aload_n dX8_digest_106 0 rfl rfl ?_
    refine g_iload_n dX8_digest_107 2 rfl rfl ?_
    obtain ⟨q3, hq3, h⟩ := gb h
    refine g_callVi [.int x3] [.long ((31 : Int64) * x1)] dX8_digest_108 mk_X8_206 so_51 (ctX8_straightOf hq3) rfl (by decide) rfl (Nat.le_of_ble_eq_true rfl) ?_
    refine g_i2l dX8_digest_111 ?_
    refine g_ladd dX8_digest_112 ?_
    obtain ⟨v4, ev4, h⟩ := gle h
    refine g_lstore_n (lv' := [(1, .long v4), (0, .ref (X.1 + 51)), (3, .int x3)]) dX8_digest_113 ev4 rfl (by decide) rfl ?_
    refine g_ldc2 dX8_digest_114 ck_X8_297 ?_
    refine g_lload_n dX8_digest_117 0 rfl rfl ?_
    refine g_lmul dX8_digest_118 ?_
    refine g_aload_n dX8_digest_119 1 rfl rfl ?_
    refine g_aload_n dX8_digest_120 1 rfl rfl ?_
    refine g_getr dX8_digest_121 lk_X8_40 sf_51_13 ?_
    refine g_iload_n dX8_digest_124 2 rfl rfl ?_
    obtain ⟨hv5, h⟩ := gchk h
    refine g_iald dX8_digest_125 sa_62 hv5 ?_
    refine g_aload_n dX8_digest_126 1 rfl rfl ?_
    refine g_getr dX8_digest_127 lk_X8_43 sf_51_14 ?_
    refine g_iload_n dX8_digest_130 2 rfl rfl ?_
    obtain ⟨hv6, h⟩ := gchk h
    refine g_iald dX8_digest_131 sa_63 hv6 ?_
    refine g_iconst (v := -1) dX8_digest_132 (by decide) ?_
    obtain ⟨q7, hq7, h⟩ := gb h
    refine g_callVi [.int (g_I q3.2 62 (x3).toNatClampNeg), .int (g_I q3.2 63 (x3).toNatClampNeg), .int (-1 : Int32)] [.long ((31 : Int64) * v4)] dX8_digest_133 mk_X8_199 so_51 (ctX8_planOf hq7) rfl (by decide) rfl (Nat.le_of_ble_eq_true rfl) ?_
    refine g_i2l dX8_digest_136 ?_
    refine g_ladd dX8_digest_137 ?_
    obtain ⟨v8, ev8, h⟩ := gle h
    refine g_lstore_n (lv' := [(1, .long v8), (0, .ref (X.1 + 51)), (3, .int x3)]) dX8_digest_138 ev8 rfl (by decide) rfl ?_
    obtain ⟨v9, ev9, h⟩ := gle h
    refine g_iinc (q := 2) (v := v9) (lv' := [(3, .int v9), (1, .long v8), (0, .ref (X.1 + 51))]) dX8_digest_139 rfl (by rw [← ev9]; rfl) (by decide) rfl ?_
    refine g_goto (tgt := 89) dX8_digest_142 (by decide) ?_
    refine g_sub [2, 1, 0] rfl ?_
    exact H89 (v8, v9, q7.2) h
noncomputable def bX8_digest_89l (F : Nat) : Nat → (Int64 × Int32 × gS) → Option (Int64 × gS) := g_fix (fun k89 s => bX8_digest_89 F k89 s.1 s.2.1 s.2.2)
theorem bX8_digest_89l_ok {X : gX} {F : Nat} {R : Int64 × gS} : ∀ (n : Nat) (s : Int64 × Int32 × gS), bX8_digest_89l F n s = some R → G X RX8 cX8_digest 5 (some .long) 7 (some (.long R.1)) R.2 89 [(0, .ref (X.1 + 51)), (1, .long s.1), (3, .int s.2.1)] [] s.2.2 := by
  intro n
  induction n with
  | zero => intro s h; cases h
  | succ n ih => intro s h; exact bX8_digest_89_ok (F := F) ih h
noncomputable def bX8_digest_54 (F : Nat) (k45 : (Int64 × Int32 × gS) → Option (Int64 × gS)) (k54 : (Int64 × Int32 × Int32 × gS) → Option (Int64 × gS)) (x1 : Int64) (x3 : Int32) (x4 : Int32) (S : gS) : Option (Int64 × gS) := if (5 : Int32) ≤ x4 then (gl (x3 + 1) (fun v2 : Int32 => k45 (x1, v2, S))) else ((fX8_cellOf F x3 x4 S).bind (fun q3 : Int32 × gS => gl (((31 : Int64) * x1) + (q3.1).toInt64) (fun v4 : Int64 => gl (x4 + 1) (fun v5 : Int32 => k54 (v4, x3, v5, q3.2)))))
set_option maxRecDepth 20000 in
theorem bX8_digest_54_ok {X : gX} {F : Nat} {k45 : (Int64 × Int32 × gS) → Option (Int64 × gS)} {k54 : (Int64 × Int32 × Int32 × gS) → Option (Int64 × gS)} {R : Int64 × gS} (H45 : ∀ s : Int64 × Int32 × gS, k45 s = some R → G X RX8 cX8_digest 5 (some .long) 7 (some (.long R.1)) R.2 45 [(0, .ref (X.1 + 51)), (1, .long s.1), (3, .int s.2.1)] [] s.2.2) (H54 : ∀ s : Int64 × Int32 × Int32 × gS, k54 s = some R → G X RX8 cX8_digest 5 (some .long) 7 (some (.long R.1)) R.2 54 [(0, .ref (X.1 + 51)), (1, .long s.1), (3, .int s.2.1), (4, .int s.2.2.1)] [] s.2.2.2) {x1 : Int64} {x3 : Int32} {x4 : Int32} {S : gS} (h : bX8_digest_54 F k45 k54 x1 x3 x4 S = some R) : G X RX8 cX8_digest 5 (some .long) 7 (some (.long R.1)) R.2 54 [(0, .ref (X.1 + 51)), (1, .long x1), (3, .int x3), (4, .int x4)] [] S := by
  unfold bX8_digest_54 at h
  refine g_iload dX8_digest_54 3 rfl ?_
  refine g_iconst (v := 5) dX8_digest_56 (by decide) ?_
  refine g_icmp_ge (tgt := 81) dX8_digest_57 (by decide) (fun hc1 => ?_) (fun hc1 => ?_)
  · replace h := git hc1 h
    obtain ⟨v2, ev2, h⟩ := gle h
    refine g_iinc (q := 2) (v := v2) (lv' := [(3, .int v2), (0, .ref (X.1 + 51)), (1, .long x1), (4, .int x4)]) dX8_digest_81 rfl (by rw [← ev2]; rfl) (by decide) rfl ?_
    refine g_goto (tgt := 45) dX8_digest_84 (by decide) ?_
    refine g_sub [1, 2, 0] rfl ?_
    exact H45 (x1, v2, S) h
  · replace h := gif hc1 h
    refine g_ldc2 dX8_digest_60 ck_X8_297 ?_
    refine g_lload_n dX8_digest_63 1 rfl rfl ?_
    refine g_lmul dX8_digest_64 ?_
    refine g_aload_n dX8_digest_65 0 rfl rfl ?_
    refine g_iload_n dX8_digest_66 2 rfl rfl ?_
    refine g_iload dX8_digest_67 3 rfl ?_
    obtain ⟨q3, hq3, h⟩ := gb h
    refine g_callVi [.int x3, .int x4] [.long ((31 : Int64) * x1)] dX8_digest_69 mk_X8_130 so_51 (ctX8_cellOf hq3) rfl (by decide) rfl (Nat.le_of_ble_eq_true rfl) ?_
    refine g_i2l dX8_digest_72 ?_
    refine g_ladd dX8_digest_73 ?_
    obtain ⟨v4, ev4, h⟩ := gle h
    refine g_lstore_n (lv' := [(1, .long v4), (0, .ref (X.1 + 51)), (3, .int x3), (4, .int x4)]) dX8_digest_74 ev4 rfl (by decide) rfl ?_
    obtain ⟨v5, ev5, h⟩ := gle h
    refine g_iinc (q := 3) (v := v5) (lv' := [(4, .int v5), (1, .long v4), (0, .ref (X.1 + 51)), (3, .int x3)]) dX8_digest_75 rfl (by rw [← ev5]; rfl) (by decide) rfl ?_
    refine g_goto (tgt := 54) dX8_digest_78 (by decide) ?_
    refine g_sub [2, 1, 3, 0] rfl ?_
    exact H54 (v4, x3, v5, q3.2) h
noncomputable def bX8_digest_54l (F : Nat) (k45 : (Int64 × Int32 × gS) → Option (Int64 × gS)) : Nat → (Int64 × Int32 × Int32 × gS) → Option (Int64 × gS) := g_fix (fun k54 s => bX8_digest_54 F k45 k54 s.1 s.2.1 s.2.2.1 s.2.2.2)
theorem bX8_digest_54l_ok {X : gX} {F : Nat} {k45 : (Int64 × Int32 × gS) → Option (Int64 × gS)} {R : Int64 × gS} (H45 : ∀ s : Int64 × Int32 × gS, k45 s = some R → G X RX8 cX8_digest 5 (some .long) 7 (some (.long R.1)) R.2 45 [(0, .ref (X.1 + 51)), (1, .long s.1), (3, .int s.2.1)] [] s.2.2) : ∀ (n : Nat) (s : Int64 × Int32 × Int32 × gS), bX8_digest_54l F k45 n s = some R → G X RX8 cX8_digest 5 (some .long) 7 (some (.long R.1)) R.2 54 [(0, .ref (X.1 + 51)), (1, .long s.1), (3, .int s.2.1), (4, .int s.2.2.1)] [] s.2.2.2 := by
  intro n
  induction n with
  | zero => intro s h; cases h
  | succ n ih => intro s h; exact bX8_digest_54_ok (F := F) H45 ih h
noncomputable def bX8_digest_45 (F : Nat) (k45 : (Int64 × Int32 × gS) → Option (Int64 × gS)) (x1 : Int64) (x3 : Int32) (S : gS) : Option (Int64 × gS) := if (64 : Int32) ≤ x3 then (bX8_digest_89l F F (x1, (0 : Int32), S)) else (bX8_digest_54l F k45 F (x1, x3, (0 : Int32), S))
set_option maxRecDepth 20000 in
theorem bX8_digest_45_ok {X : gX} {F : Nat} {k45 : (Int64 × Int32 × gS) → Option (Int64 × gS)} {R : Int64 × gS} (H45 : ∀ s : Int64 × Int32 × gS, k45 s = some R → G X RX8 cX8_digest 5 (some .long) 7 (some (.long R.1)) R.2 45 [(0, .ref (X.1 + 51)), (1, .long s.1), (3, .int s.2.1)] [] s.2.2) {x1 : Int64} {x3 : Int32} {S : gS} (h : bX8_digest_45 F k45 x1 x3 S = some R) : G X RX8 cX8_digest 5 (some .long) 7 (some (.long R.1)) R.2 45 [(0, .ref (X.1 + 51)), (1, .long x1), (3, .int x3)] [] S := by
  unfold bX8_digest_45 at h
  refine g_iload_n dX8_digest_45 2 rfl rfl ?_
  refine g_bipush (v := 64) dX8_digest_46 (by decide) ?_
  refine g_icmp_ge (tgt := 87) dX8_digest_48 (by decide) (fun hc1 => ?_) (fun hc1 => ?_)
  · replace h := git hc1 h
    refine g_iconst (v := 0) dX8_digest_87 (by decide) ?_
    refine g_istore_n (lv' := [(3, .int (0 : Int32)), (0, .ref (X.1 + 51)), (1, .long x1)]) dX8_digest_88 rfl rfl (by decide) rfl ?_
    refine g_sub [1, 2, 0] rfl ?_
    exact bX8_digest_89l_ok F (x1, (0 : Int32), S) h
  · replace h := gif hc1 h
    refine g_iconst (v := 0) dX8_digest_51 (by decide) ?_
    refine g_istore (lv' := [(4, .int (0 : Int32)), (0, .ref (X.1 + 51)), (1, .long x1), (3, .int x3)]) dX8_digest_52 rfl (by decide) rfl ?_
    refine g_sub [1, 2, 3, 0] rfl ?_
    exact bX8_digest_54l_ok H45 F (x1, x3, (0 : Int32), S) h
noncomputable def bX8_digest_45l (F : Nat) : Nat → (Int64 × Int32 × gS) → Option (Int64 × gS) := g_fix (fun k45 s => bX8_digest_45 F k45 s.1 s.2.1 s.2.2)
theorem bX8_digest_45l_ok {X : gX} {F : Nat} {R : Int64 × gS} : ∀ (n : Nat) (s : Int64 × Int32 × gS), bX8_digest_45l F n s = some R → G X RX8 cX8_digest 5 (some .long) 7 (some (.long R.1)) R.2 45 [(0, .ref (X.1 + 51)), (1, .long s.1), (3, .int s.2.1)] [] s.2.2 := by
  intro n
  induction n with
  | zero => intro s h; cases h
  | succ n ih => intro s h; exact bX8_digest_45_ok (F := F) ih h
noncomputable def bX8_digest_6 (F : Nat) (k6 : (Int64 × Int32 × gS) → Option (Int64 × gS)) (x1 : Int64) (x3 : Int32) (S : gS) : Option (Int64 × gS) := if (8 : Int32) ≤ x3 then ((fX8_reads F S).bind (fun q2 : Int32 × gS => gl (((31 : Int64) * x1) + (q2.1).toInt64) (fun v3 : Int64 => bX8_digest_45l F F (v3, (0 : Int32), q2.2)))) else ((fX8_count F x3 S).bind (fun q4 : Int32 × gS => gl (((31 : Int64) * x1) + (q4.1).toInt64) (fun v5 : Int64 => gl (x3 + 1) (fun v6 : Int32 => k6 (v5, v6, q4.2)))))
set_option maxRecDepth 20000 in
theorem bX8_digest_6_ok {X : gX} {F : Nat} {k6 : (Int64 × Int32 × gS) → Option (Int64 × gS)} {R : Int64 × gS} (H6 : ∀ s : Int64 × Int32 × gS, k6 s = some R → G X RX8 cX8_digest 5 (some .long) 7 (some (.long R.1)) R.2 6 [(0, .ref (X.1 + 51)), (1, .long s.1), (3, .int s.2.1)] [] s.2.2) {x1 : Int64} {x3 : Int32} {S : gS} (h : bX8_digest_6 F k6 x1 x3 S = some R) : G X RX8 cX8_digest 5 (some .long) 7 (some (.long R.1)) R.2 6 [(0, .ref (X.1 + 51)), (1, .long x1), (3, .int x3)] [] S := by
  unfold bX8_digest_6 at h
  refine g_iload_n dX8_digest_6 2 rfl rfl ?_
  refine g_bipush (v := 8) dX8_digest_7 (by decide) ?_
  refine g_icmp_ge (tgt := 31) dX8_digest_9 (by decide) (fun hc1 => ?_) (fun hc1 => ?_)
  · replace h := git hc1 h
    refine g_ldc2 dX8_digest_31 ck_X8_297 ?_
    refine g_lload_n dX8_digest_34 1 rfl rfl ?_
    refine g_lmul dX8_digest_35 ?_
    refine g_aload_n dX8_digest_36 0 rfl rfl ?_
    obtain ⟨q2, hq2, h⟩ := gb h
    refine g_callVi [] [.long ((31 : Int64) * x1)] dX8_digest_37 mk_X8_122 so_51 (ctX8_reads hq2) rfl (by decide) rfl (Nat.le_of_ble_eq_true rfl) ?_
    refine g_i2l dX8_digest_40 ?_
    refine g_ladd dX8_digest_41 ?_
    obtain ⟨v3, ev3, h⟩ := gle h
    refine g_lstore_n (lv' := [(1, .long v3), (0, .ref (X.1 + 51)), (3, .int x3)]) dX8_digest_42 ev3 rfl (by decide) rfl ?_
    refine g_iconst (v := 0) dX8_digest_43 (by decide) ?_
    refine g_istore_n (lv' := [(3, .int (0 : Int32)), (1, .long v3), (0, .ref (X.1 + 51))]) dX8_digest_44 rfl rfl (by decide) rfl ?_
    refine g_sub [2, 1, 0] rfl ?_
    exact bX8_digest_45l_ok F (v3, (0 : Int32), q2.2) h
  · replace h := gif hc1 h
    refine g_ldc2 dX8_digest_12 ck_X8_297 ?_
    refine g_lload_n dX8_digest_15 1 rfl rfl ?_
    refine g_lmul dX8_digest_16 ?_
    refine g_aload_n dX8_digest_17 0 rfl rfl ?_
    refine g_iload_n dX8_digest_18 2 rfl rfl ?_
    obtain ⟨q4, hq4, h⟩ := gb h
    refine g_callVi [.int x3] [.long ((31 : Int64) * x1)] dX8_digest_19 mk_X8_299 so_51 (ctX8_count hq4) rfl (by decide) rfl (Nat.le_of_ble_eq_true rfl) ?_
    refine g_i2l dX8_digest_22 ?_
    refine g_ladd dX8_digest_23 ?_
    obtain ⟨v5, ev5, h⟩ := gle h
    refine g_lstore_n (lv' := [(1, .long v5), (0, .ref (X.1 + 51)), (3, .int x3)]) dX8_digest_24 ev5 rfl (by decide) rfl ?_
    obtain ⟨v6, ev6, h⟩ := gle h
    refine g_iinc (q := 2) (v := v6) (lv' := [(3, .int v6), (1, .long v5), (0, .ref (X.1 + 51))]) dX8_digest_25 rfl (by rw [← ev6]; rfl) (by decide) rfl ?_
    refine g_goto (tgt := 6) dX8_digest_28 (by decide) ?_
    refine g_sub [2, 1, 0] rfl ?_
    exact H6 (v5, v6, q4.2) h
noncomputable def bX8_digest_6l (F : Nat) : Nat → (Int64 × Int32 × gS) → Option (Int64 × gS) := g_fix (fun k6 s => bX8_digest_6 F k6 s.1 s.2.1 s.2.2)
theorem bX8_digest_6l_ok {X : gX} {F : Nat} {R : Int64 × gS} : ∀ (n : Nat) (s : Int64 × Int32 × gS), bX8_digest_6l F n s = some R → G X RX8 cX8_digest 5 (some .long) 7 (some (.long R.1)) R.2 6 [(0, .ref (X.1 + 51)), (1, .long s.1), (3, .int s.2.1)] [] s.2.2 := by
  intro n
  induction n with
  | zero => intro s h; cases h
  | succ n ih => intro s h; exact bX8_digest_6_ok (F := F) ih h
noncomputable def fX8_digest (F : Nat) (S : gS) : Option (Int64 × gS) := bX8_digest_6l F F ((17 : Int64), (0 : Int32), S)
set_option maxRecDepth 20000 in
theorem fX8_digest_ok {X : gX} {F : Nat} {R : Int64 × gS} {S : gS} (h : fX8_digest F S = some R) : G X RX8 cX8_digest 5 (some .long) 7 (some (.long R.1)) R.2 0 [(0, .ref (X.1 + 51))] [] S := by
  unfold fX8_digest at h
  refine g_ldc2 dX8_digest_0 ck_X8_295 ?_
  refine g_lstore_n (lv' := [(1, .long (17 : Int64)), (0, .ref (X.1 + 51))]) dX8_digest_3 rfl rfl (by decide) rfl ?_
  refine g_iconst (v := 0) dX8_digest_4 (by decide) ?_
  refine g_istore_n (lv' := [(3, .int (0 : Int32)), (1, .long (17 : Int64)), (0, .ref (X.1 + 51))]) dX8_digest_5 rfl rfl (by decide) rfl ?_
  refine g_sub [2, 1, 0] rfl ?_
  exact bX8_digest_6l_ok F ((17 : Int64), (0 : Int32), S) h
theorem ctX8_digest {X : gX} {F : Nat} {R : Int64 × gS} {S : gS} (h : fX8_digest F S = some R) : g_C X yX8_digest cX8_digest 5 (some .long) 7 [.ref (X.1 + 51)] S (some (.long R.1)) R.2 :=
  g_met (by decide) (Nat.le_of_ble_eq_true rfl) (fX8_digest_ok h)

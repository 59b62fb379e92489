noncomputable def bX7_grit_38 (F : Nat) (k38 : (Int32 × Int64 × Int32 × Int32 × gS) → Option (Int32 × gS)) (x2 : Int32) (x3 : Int64) (x5 : Int32) (x6 : Int32) (S : gS) : Option (Int32 × gS) := if x2 < x6 then (some (x5, S)) else ((fX7_mostSlippery F x3 S).bind (fun q2 : Int32 × gS => gl q2.1 (fun v3 : Int32 => if v3 = (-1 : Int32) then (some ((-1 : Int32), q2.2)) else ((fX7_bit F v3 q2.2).bind (fun q5 : Int64 × gS => gl (x3 ||| q5.1) (fun v6 : Int64 => gl (x6 + 1) (fun v7 : Int32 => k38 (x2, v6, v3, v7, q5.2))))))))
set_option maxRecDepth 20000 in
theorem bX7_grit_38_ok {X : gX} {F : Nat} {k38 : (Int32 × Int64 × Int32 × Int32 × gS) → Option (Int32 × gS)} {R : Int32 × gS} (H38 : ∀ s : Int32 × Int64 × Int32 × Int32 × gS, k38 s = some R → G X RX7 cX7_grit 7 (some .int) 5 (some (.int R.1)) R.2 38 [(0, .ref (X.1 + 0)), (2, .int s.1), (3, .long s.2.1), (5, .int s.2.2.1), (6, .int s.2.2.2.1)] [] s.2.2.2.2) {x2 : Int32} {x3 : Int64} {x5 : Int32} {x6 : Int32} {S : gS} (h : bX7_grit_38 F k38 x2 x3 x5 x6 S = some R) : G X RX7 cX7_grit 7 (some .int) 5 (some (.int R.1)) R.2 38 [(0, .ref (X.1 + 0)), (2, .int x2), (3, .long x3), (5, .int x5), (6, .int x6)] [] S := by
  unfold bX7_grit_38 at h
  refine g_iload dX7_grit_38 4 rfl ?_
  refine g_iload_n dX7_grit_40 1 rfl rfl ?_
  refine g_icmp_gt (tgt := 73) dX7_grit_41 (by decide) (fun hc1 => ?_) (fun hc1 => ?_)
  · replace h := git hc1 h
    refine g_iload dX7_grit_73 3 rfl ?_
    obtain rfl := Option.some.inj h
    exact g_iret dX7_grit_75 rfl
  · replace h := gif hc1 h
    refine g_aload_n dX7_grit_44 0 rfl rfl ?_
    refine g_lload_n dX7_grit_45 2 rfl rfl ?_
    obtain ⟨q2, hq2, h⟩ := gb h
    refine g_callVi [.long x3] [] dX7_grit_46 mk_X7_229 so_0 (ctX7_mostSlippery hq2) rfl (by decide) rfl (Nat.le_of_ble_eq_true rfl) ?_
    obtain ⟨v3, ev3, h⟩ := gle h
    refine g_istore (lv' := [(5, .int v3), (0, .ref (X.1 + 0)), (2, .int x2), (3, .long x3), (6, .int x6)]) dX7_grit_49 ev3 (by decide) rfl ?_
    refine g_iload dX7_grit_51 0 rfl ?_
    refine g_iconst (v := -1) dX7_grit_53 (by decide) ?_
    refine g_icmp_ne (tgt := 59) dX7_grit_54 (by decide) (fun hc4 => ?_) (fun hc4 => ?_)
    · replace h := gif hc4 h
      refine g_lload_n dX7_grit_59 3 rfl rfl ?_
      refine g_iload dX7_grit_60 0 rfl ?_
      obtain ⟨q5, hq5, h⟩ := gb h
      refine g_callSl [.int v3] [.long x3] dX7_grit_62 mk_X7_233 (ctX7_bit hq5) rfl (by decide) rfl (Nat.le_of_ble_eq_true rfl) ?_
      refine g_lor dX7_grit_65 ?_
      obtain ⟨v6, ev6, h⟩ := gle h
      refine g_lstore_n (lv' := [(3, .long v6), (5, .int v3), (0, .ref (X.1 + 0)), (2, .int x2), (6, .int x6)]) dX7_grit_66 ev6 rfl (by decide) rfl ?_
      obtain ⟨v7, ev7, h⟩ := gle h
      refine g_iinc (q := 4) (v := v7) (lv' := [(6, .int v7), (3, .long v6), (5, .int v3), (0, .ref (X.1 + 0)), (2, .int x2)]) dX7_grit_67 rfl (by rw [← ev7]; rfl) (by decide) rfl ?_
      refine g_goto (tgt := 38) dX7_grit_70 (by decide) ?_
      refine g_sub [3, 4, 1, 2, 0] rfl ?_
      exact H38 (x2, v6, v3, v7, q5.2) h
    · replace h := git hc4 h
      refine g_iconst (v := -1) dX7_grit_57 (by decide) ?_
      obtain rfl := Option.some.inj h
      exact g_iret dX7_grit_58 rfl
noncomputable def bX7_grit_38l (F : Nat) : Nat → (Int32 × Int64 × Int32 × Int32 × gS) → Option (Int32 × gS) := g_fix (fun k38 s => bX7_grit_38 F k38 s.1 s.2.1 s.2.2.1 s.2.2.2.1 s.2.2.2.2)
theorem bX7_grit_38l_ok {X : gX} {F : Nat} {R : Int32 × gS} : ∀ (n : Nat) (s : Int32 × Int64 × Int32 × Int32 × gS), bX7_grit_38l F n s = some R → G X RX7 cX7_grit 7 (some .int) 5 (some (.int R.1)) R.2 38 [(0, .ref (X.1 + 0)), (2, .int s.1), (3, .long s.2.1), (5, .int s.2.2.1), (6, .int s.2.2.2.1)] [] s.2.2.2.2 := by
  intro n
  induction n with
  | zero => intro s h; cases h
  | succ n ih => intro s h; exact bX7_grit_38_ok (F := F) ih h
noncomputable def fX7_grit (F : Nat) (a0 : Int32) (a1 : Int32) (S : gS) : Option (Int32 × gS) := if a0 < 0 then (some ((-2 : Int32), S)) else (if (8 : Int32) < a0 then (some ((-2 : Int32), S)) else (if 0 ≤ a1 then (if a1 < a0 then ((fX7_tryMorning F (-1 : Int32) (-1 : Int32) S).bind (fun q5 : gS => bX7_grit_38l F F (a1, (0 : Int64), (-1 : Int32), (0 : Int32), q5))) else (some ((-1 : Int32), S))) else (some ((-2 : Int32), S))))
set_option maxRecDepth 20000 in
theorem fX7_grit_ok {X : gX} {F : Nat} {R : Int32 × gS} {a0 : Int32} {a1 : Int32} {S : gS} (h : fX7_grit F a0 a1 S = some R) : G X RX7 cX7_grit 7 (some .int) 5 (some (.int R.1)) R.2 0 [(0, .ref (X.1 + 0)), (1, .int a0), (2, .int a1)] [] S := by
  unfold fX7_grit at h
  refine g_iload_n dX7_grit_0 1 rfl rfl ?_
  refine g_if_lt (tgt := 14) dX7_grit_1 (by decide) (fun hc1 => ?_) (fun hc1 => ?_)
  · replace h := git hc1 h
    refine g_bipush (v := -2) dX7_grit_14 (by decide) ?_
    obtain rfl := Option.some.inj h
    exact g_iret dX7_grit_16 rfl
  · replace h := gif hc1 h
    refine g_iload_n dX7_grit_4 1 rfl rfl ?_
    refine g_bipush (v := 8) dX7_grit_5 (by decide) ?_
    refine g_icmp_gt (tgt := 14) dX7_grit_7 (by decide) (fun hc2 => ?_) (fun hc2 => ?_)
    · replace h := git hc2 h
      refine g_bipush (v := -2) dX7_grit_14 (by decide) ?_
      obtain rfl := Option.some.inj h
      exact g_iret dX7_grit_16 rfl
    · replace h := gif hc2 h
      refine g_iload_n dX7_grit_10 2 rfl rfl ?_
      refine g_if_ge (tgt := 17) dX7_grit_11 (by decide) (fun hc3 => ?_) (fun hc3 => ?_)
      · replace h := git hc3 h
        refine g_iload_n dX7_grit_17 2 rfl rfl ?_
        refine g_iload_n dX7_grit_18 1 rfl rfl ?_
        refine g_icmp_lt (tgt := 24) dX7_grit_19 (by decide) (fun hc4 => ?_) (fun hc4 => ?_)
        · replace h := git hc4 h
          refine g_aload_n dX7_grit_24 0 rfl rfl ?_
          refine g_iconst (v := -1) dX7_grit_25 (by decide) ?_
          refine g_iconst (v := -1) dX7_grit_26 (by decide) ?_
          obtain ⟨q5, hq5, h⟩ := gb h
          refine g_callVv [.int (-1 : Int32), .int (-1 : Int32)] [] dX7_grit_27 mk_X7_193 so_0 (ctX7_tryMorning hq5) rfl (by decide) rfl (Nat.le_of_ble_eq_true rfl) ?_
          refine g_lconst (v := 0) dX7_grit_30 (by decide) ?_
          refine g_lstore_n (lv' := [(3, .long (0 : Int64)), (0, .ref (X.1 + 0)), (1, .int a0), (2, .int a1)]) dX7_grit_31 rfl rfl (by decide) rfl ?_
          refine g_iconst (v := -1) dX7_grit_32 (by decide) ?_
          refine g_istore (lv' := [(5, .int (-1 : Int32)), (3, .long (0 : Int64)), (0, .ref (X.1 + 0)), (1, .int a0), (2, .int a1)]) dX7_grit_33 rfl (by decide) rfl ?_
          refine g_iconst (v := 0) dX7_grit_35 (by decide) ?_
          refine g_istore (lv' := [(6, .int (0 : Int32)), (5, .int (-1 : Int32)), (3, .long (0 : Int64)), (0, .ref (X.1 + 0)), (1, .int a0), (2, .int a1)]) dX7_grit_36 rfl (by decide) rfl ?_
          refine g_sub [3, 5, 2, 1, 0] rfl ?_
          exact bX7_grit_38l_ok F (a1, (0 : Int64), (-1 : Int32), (0 : Int32), q5) h
        · replace h := gif hc4 h
          refine g_iconst (v := -1) dX7_grit_22 (by decide) ?_
          obtain rfl := Option.some.inj h
          exact g_iret dX7_grit_23 rfl
      · replace h := gif hc3 h
        refine g_bipush (v := -2) dX7_grit_14 (by decide) ?_
        obtain rfl := Option.some.inj h
        exact g_iret dX7_grit_16 rfl
theorem ctX7_grit {X : gX} {F : Nat} {R : Int32 × gS} {a0 : Int32} {a1 : Int32} {S : gS} (h : fX7_grit F a0 a1 S = some R) : g_C X yX7_grit cX7_grit 7 (some .int) 5 [.ref (X.1 + 0), .int a0, .int a1] S (some (.int R.1)) R.2 :=
  g_met (by decide) (Nat.le_of_ble_eq_true rfl) (fX7_grit_ok h)
noncomputable def fX7_tower (F : Nat) (a0 : Int32) (a1 : Int32) (S : gS) : Option (Int32 × gS) := (fX7_isSheet F a0 S).bind (fun q1 : Int32 × gS => if q1.1 = 0 then (some ((-2 : Int32), q1.2)) else (if a1 < 0 then (some ((-2 : Int32), q1.2)) else (if a1 ≤ (1 : Int32) then (g_chk a0 4 ((fX5_isLost F (43 + 2 * (a0).toNatClampNeg) q1.2).bind (fun q6 : Int32 × gS => if q6.1 = 0 then (if (g_I q6.2 9 2) ≤ (5 : Int32) then (g_chk a0 4 ((fX2_tryAll_s F (43 + 2 * (a0).toNatClampNeg) q6.2).bind (fun q10 : gS => if a1 = 0 then (some ((g_I q10 19 8), q10)) else (some ((g_I q10 19 9), q10))))) else (some ((-4 : Int32), q6.2))) else ((fX7_found F (1 : Int32) q6.2).bind (fun q12 : Int32 × gS => some (q12.1, q12.2)))))) else (some ((-2 : Int32), q1.2)))))
set_option maxRecDepth 20000 in
theorem fX7_tower_ok {X : gX} {F : Nat} {R : Int32 × gS} {a0 : Int32} {a1 : Int32} {S : gS} (h : fX7_tower F a0 a1 S = some R) : G X RX7 cX7_tower 3 (some .int) 6 (some (.int R.1)) R.2 0 [(0, .ref (X.1 + 0)), (1, .int a0), (2, .int a1)] [] S := by
  unfold fX7_tower at h
  refine g_iload_n dX7_tower_0 1 rfl rfl ?_
  obtain ⟨q1, hq1, h⟩ := gb h
  refine g_callSi [.int a0] [] dX7_tower_1 mk_X7_137 (ctX7_isSheet hq1) rfl (by decide) rfl (Nat.le_of_ble_eq_true rfl) ?_
  refine g_if_eq (tgt := 16) dX7_tower_4 (by decide) (fun hc2 => ?_) (fun hc2 => ?_)
  · replace h := git hc2 h
    refine g_bipush (v := -2) dX7_tower_16 (by decide) ?_
    obtain rfl := Option.some.inj h
    exact g_iret dX7_tower_18 rfl
  · replace h := gif hc2 h
    refine g_iload_n dX7_tower_7 2 rfl rfl ?_
    refine g_if_lt (tgt := 16) dX7_tower_8 (by decide) (fun hc3 => ?_) (fun hc3 => ?_)
    · replace h := git hc3 h
      refine g_bipush (v := -2) dX7_tower_16 (by decide) ?_
      obtain rfl := Option.some.inj h
      exact g_iret dX7_tower_18 rfl
    · replace h := gif hc3 h
      refine g_iload_n dX7_tower_11 2 rfl rfl ?_
      refine g_iconst (v := 1) dX7_tower_12 (by decide) ?_
      refine g_icmp_le (tgt := 19) dX7_tower_13 (by decide) (fun hc4 => ?_) (fun hc4 => ?_)
      · replace h := git hc4 h
        refine g_aload_n dX7_tower_19 0 rfl rfl ?_
        refine g_getr dX7_tower_20 lk_X7_57 sf_0_6 ?_
        refine g_iload_n dX7_tower_23 1 rfl rfl ?_
        obtain ⟨hv5, h⟩ := gchk h
        refine g_aald4 dX7_tower_24 sa_42 hv5 ?_
        obtain ⟨q6, hq6, h⟩ := gb h
        refine g_callVi [] [] dX7_tower_25 mk_X7_140 (sht_o (sht_at hv5)) (ctX5_isLost (sht_at hv5) hq6) rfl (by decide) rfl (Nat.le_of_ble_eq_true rfl) ?_
        refine g_if_eq (tgt := 37) dX7_tower_28 (by decide) (fun hc7 => ?_) (fun hc7 => ?_)
        · replace h := git hc7 h
          refine g_aload_n dX7_tower_37 0 rfl rfl ?_
          refine g_getr dX7_tower_38 lk_X7_26 sf_0_2 ?_
          refine g_geti dX7_tower_41 lk_X7_155 sf_9_2 ?_
          refine g_iconst (v := 5) dX7_tower_44 (by decide) ?_
          refine g_icmp_le (tgt := 51) dX7_tower_45 (by decide) (fun hc8 => ?_) (fun hc8 => ?_)
          · replace h := git hc8 h
            refine g_aload_n dX7_tower_51 0 rfl rfl ?_
            refine g_getr dX7_tower_52 lk_X7_51 sf_0_5 ?_
            refine g_aload_n dX7_tower_55 0 rfl rfl ?_
            refine g_getr dX7_tower_56 lk_X7_19 sf_0_1 ?_
            refine g_getr dX7_tower_59 lk_X7_98 sf_3_0 ?_
            refine g_aload_n dX7_tower_62 0 rfl rfl ?_
            refine g_getr dX7_tower_63 lk_X7_57 sf_0_6 ?_
            refine g_iload_n dX7_tower_66 1 rfl rfl ?_
            obtain ⟨hv9, h⟩ := gchk h
            refine g_aald4 dX7_tower_67 sa_42 hv9 ?_
            obtain ⟨q10, hq10, h⟩ := gb h
            refine g_callVv [.ref (X.1 + 4), .ref (X.1 + (43 + 2 * (a0).toNatClampNeg))] [] dX7_tower_68 mk_X7_206 so_19 (ctX2_tryAll_s (sht_at hv9) hq10) rfl (by decide) rfl (Nat.le_of_ble_eq_true rfl) ?_
            refine g_iload_n dX7_tower_71 2 rfl rfl ?_
            refine g_if_ne (tgt := 85) dX7_tower_72 (by decide) (fun hc11 => ?_) (fun hc11 => ?_)
            · replace h := gif hc11 h
              refine g_aload_n dX7_tower_85 0 rfl rfl ?_
              refine g_getr dX7_tower_86 lk_X7_51 sf_0_5 ?_
              refine g_geti dX7_tower_89 lk_X7_249 sf_19_9 ?_
              obtain rfl := Option.some.inj h
              exact g_iret dX7_tower_92 rfl
            · replace h := git hc11 h
              refine g_aload_n dX7_tower_75 0 rfl rfl ?_
              refine g_getr dX7_tower_76 lk_X7_51 sf_0_5 ?_
              refine g_geti dX7_tower_79 lk_X7_246 sf_19_8 ?_
              refine g_goto (tgt := 92) dX7_tower_82 (by decide) ?_
              obtain rfl := Option.some.inj h
              exact g_iret dX7_tower_92 rfl
          · replace h := gif hc8 h
            refine g_bipush (v := -4) dX7_tower_48 (by decide) ?_
            obtain rfl := Option.some.inj h
            exact g_iret dX7_tower_50 rfl
        · replace h := gif hc7 h
          refine g_aload_n dX7_tower_31 0 rfl rfl ?_
          refine g_iconst (v := 1) dX7_tower_32 (by decide) ?_
          obtain ⟨q12, hq12, h⟩ := gb h
          refine g_callVi [.int (1 : Int32)] [] dX7_tower_33 mk_X7_144 so_0 (ctX7_found hq12) rfl (by decide) rfl (Nat.le_of_ble_eq_true rfl) ?_
          obtain rfl := Option.some.inj h
          exact g_iret dX7_tower_36 rfl
      · replace h := gif hc4 h
        refine g_bipush (v := -2) dX7_tower_16 (by decide) ?_
        obtain rfl := Option.some.inj h
        exact g_iret dX7_tower_18 rfl
theorem ctX7_tower {X : gX} {F : Nat} {R : Int32 × gS} {a0 : Int32} {a1 : Int32} {S : gS} (h : fX7_tower F a0 a1 S = some R) : g_C X yX7_tower cX7_tower 3 (some .int) 6 [.ref (X.1 + 0), .int a0, .int a1] S (some (.int R.1)) R.2 :=
  g_met (by decide) (Nat.le_of_ble_eq_true rfl) (fX7_tower_ok h)
noncomputable def fX7_towerOrder (F : Nat) (a0 : Int32) (a1 : Int32) (S : gS) : Option (Int32 × gS) := (fX7_isSheet F a0 S).bind (fun q1 : Int32 × gS => if q1.1 = 0 then (some ((-2 : Int32), q1.2)) else (if a1 < 0 then (some ((-2 : Int32), q1.2)) else (if a1 < (g_I q1.2 9 2) then (g_chk a0 4 ((fX5_isLost F (43 + 2 * (a0).toNatClampNeg) q1.2).bind (fun q6 : Int32 × gS => if q6.1 = 0 then (if (g_I q6.2 9 2) ≤ (5 : Int32) then (g_chk a0 4 ((fX2_tryAll_s F (43 + 2 * (a0).toNatClampNeg) q6.2).bind (fun q10 : gS => if (g_I q10 19 8) = 0 then (some ((-1 : Int32), q10)) else (g_chk a1 5 (some ((g_I q10 23 (a1).toNatClampNeg), q10)))))) else (some ((-4 : Int32), q6.2))) else ((fX7_found F (1 : Int32) q6.2).bind (fun q13 : Int32 × gS => some (q13.1, q13.2)))))) else (some ((-2 : Int32), q1.2)))))
set_option maxRecDepth 20000 in
theorem fX7_towerOrder_ok {X : gX} {F : Nat} {R : Int32 × gS} {a0 : Int32} {a1 : Int32} {S : gS} (h : fX7_towerOrder F a0 a1 S = some R) : G X RX7 cX7_towerOrder 3 (some .int) 6 (some (.int R.1)) R.2 0 [(0, .ref (X.1 + 0)), (1, .int a0), (2, .int a1)] [] S := by
  unfold fX7_towerOrder at h
  refine g_iload_n dX7_towerOrder_0 1 rfl rfl ?_
  obtain ⟨q1, hq1, h⟩ := gb h
  refine g_callSi [.int a0] [] dX7_towerOrder_1 mk_X7_137 (ctX7_isSheet hq1) rfl (by decide) rfl (Nat.le_of_ble_eq_true rfl) ?_
  refine g_if_eq (tgt := 22) dX7_towerOrder_4 (by decide) (fun hc2 => ?_) (fun hc2 => ?_)
  · replace h := git hc2 h
    refine g_bipush (v := -2) dX7_towerOrder_22 (by decide) ?_
    obtain rfl := Option.some.inj h
    exact g_iret dX7_towerOrder_24 rfl
  · replace h := gif hc2 h
    refine g_iload_n dX7_towerOrder_7 2 rfl rfl ?_
    refine g_if_lt (tgt := 22) dX7_towerOrder_8 (by decide) (fun hc3 => ?_) (fun hc3 => ?_)
    · replace h := git hc3 h
      refine g_bipush (v := -2) dX7_towerOrder_22 (by decide) ?_
      obtain rfl := Option.some.inj h
      exact g_iret dX7_towerOrder_24 rfl
    · replace h := gif hc3 h
      refine g_iload_n dX7_towerOrder_11 2 rfl rfl ?_
      refine g_aload_n dX7_towerOrder_12 0 rfl rfl ?_
      refine g_getr dX7_towerOrder_13 lk_X7_26 sf_0_2 ?_
      refine g_geti dX7_towerOrder_16 lk_X7_155 sf_9_2 ?_
      refine g_icmp_lt (tgt := 25) dX7_towerOrder_19 (by decide) (fun hc4 => ?_) (fun hc4 => ?_)
      · replace h := git hc4 h
        refine g_aload_n dX7_towerOrder_25 0 rfl rfl ?_
        refine g_getr dX7_towerOrder_26 lk_X7_57 sf_0_6 ?_
        refine g_iload_n dX7_towerOrder_29 1 rfl rfl ?_
        obtain ⟨hv5, h⟩ := gchk h
        refine g_aald4 dX7_towerOrder_30 sa_42 hv5 ?_
        obtain ⟨q6, hq6, h⟩ := gb h
        refine g_callVi [] [] dX7_towerOrder_31 mk_X7_140 (sht_o (sht_at hv5)) (ctX5_isLost (sht_at hv5) hq6) rfl (by decide) rfl (Nat.le_of_ble_eq_true rfl) ?_
        refine g_if_eq (tgt := 43) dX7_towerOrder_34 (by decide) (fun hc7 => ?_) (fun hc7 => ?_)
        · replace h := git hc7 h
          refine g_aload_n dX7_towerOrder_43 0 rfl rfl ?_
          refine g_getr dX7_towerOrder_44 lk_X7_26 sf_0_2 ?_
          refine g_geti dX7_towerOrder_47 lk_X7_155 sf_9_2 ?_
          refine g_iconst (v := 5) dX7_towerOrder_50 (by decide) ?_
          refine g_icmp_le (tgt := 57) dX7_towerOrder_51 (by decide) (fun hc8 => ?_) (fun hc8 => ?_)
          · replace h := git hc8 h
            refine g_aload_n dX7_towerOrder_57 0 rfl rfl ?_
            refine g_getr dX7_towerOrder_58 lk_X7_51 sf_0_5 ?_
            refine g_aload_n dX7_towerOrder_61 0 rfl rfl ?_
            refine g_getr dX7_towerOrder_62 lk_X7_19 sf_0_1 ?_
            refine g_getr dX7_towerOrder_65 lk_X7_98 sf_3_0 ?_
            refine g_aload_n dX7_towerOrder_68 0 rfl rfl ?_
            refine g_getr dX7_towerOrder_69 lk_X7_57 sf_0_6 ?_
            refine g_iload_n dX7_towerOrder_72 1 rfl rfl ?_
            obtain ⟨hv9, h⟩ := gchk h
            refine g_aald4 dX7_towerOrder_73 sa_42 hv9 ?_
            obtain ⟨q10, hq10, h⟩ := gb h
            refine g_callVv [.ref (X.1 + 4), .ref (X.1 + (43 + 2 * (a0).toNatClampNeg))] [] dX7_towerOrder_74 mk_X7_206 so_19 (ctX2_tryAll_s (sht_at hv9) hq10) rfl (by decide) rfl (Nat.le_of_ble_eq_true rfl) ?_
            refine g_aload_n dX7_towerOrder_77 0 rfl rfl ?_
            refine g_getr dX7_towerOrder_78 lk_X7_51 sf_0_5 ?_
            refine g_geti dX7_towerOrder_81 lk_X7_246 sf_19_8 ?_
            refine g_if_ne (tgt := 91) dX7_towerOrder_84 (by decide) (fun hc11 => ?_) (fun hc11 => ?_)
            · replace h := gif hc11 h
              refine g_aload_n dX7_towerOrder_91 0 rfl rfl ?_
              refine g_getr dX7_towerOrder_92 lk_X7_51 sf_0_5 ?_
              refine g_getr dX7_towerOrder_95 lk_X7_252 sf_19_5 ?_
              refine g_iload_n dX7_towerOrder_98 2 rfl rfl ?_
              obtain ⟨hv12, h⟩ := gchk h
              refine g_iald dX7_towerOrder_99 sa_23 hv12 ?_
              obtain rfl := Option.some.inj h
              exact g_iret dX7_towerOrder_100 rfl
            · replace h := git hc11 h
              refine g_iconst (v := -1) dX7_towerOrder_87 (by decide) ?_
              refine g_goto (tgt := 100) dX7_towerOrder_88 (by decide) ?_
              obtain rfl := Option.some.inj h
              exact g_iret dX7_towerOrder_100 rfl
          · replace h := gif hc8 h
            refine g_bipush (v := -4) dX7_towerOrder_54 (by decide) ?_
            obtain rfl := Option.some.inj h
            exact g_iret dX7_towerOrder_56 rfl
        · replace h := gif hc7 h
          refine g_aload_n dX7_towerOrder_37 0 rfl rfl ?_
          refine g_iconst (v := 1) dX7_towerOrder_38 (by decide) ?_
          obtain ⟨q13, hq13, h⟩ := gb h
          refine g_callVi [.int (1 : Int32)] [] dX7_towerOrder_39 mk_X7_144 so_0 (ctX7_found hq13) rfl (by decide) rfl (Nat.le_of_ble_eq_true rfl) ?_
          obtain rfl := Option.some.inj h
          exact g_iret dX7_towerOrder_42 rfl
      · replace h := gif hc4 h
        refine g_bipush (v := -2) dX7_towerOrder_22 (by decide) ?_
        obtain rfl := Option.some.inj h
        exact g_iret dX7_towerOrder_24 rfl
theorem ctX7_towerOrder {X : gX} {F : Nat} {R : Int32 × gS} {a0 : Int32} {a1 : Int32} {S : gS} (h : fX7_towerOrder F a0 a1 S = some R) : g_C X yX7_towerOrder cX7_towerOrder 3 (some .int) 6 [.ref (X.1 + 0), .int a0, .int a1] S (some (.int R.1)) R.2 :=
  g_met (by decide) (Nat.le_of_ble_eq_true rfl) (fX7_towerOrder_ok h)
noncomputable def fX7_wouldShow (F : Nat) (sh : Nat) (a1 : Int32) (a2 : Int32) (S : gS) : Option (Int32 × gS) := (fX3_begin F 16 S).bind (fun q1 : gS => (fX7_bit F a2 q1).bind (fun q2 : Int64 × gS => gl ((g_J q1 1 4) ||| q2.1) (fun v3 : Int64 => g_chk a1 8 (g_chk a1 8 ((fX3_go F 16 (g_I q2.2 10 (a1).toNatClampNeg) (g_I q2.2 11 (a1).toNatClampNeg) v3 q2.2).bind (fun q6 : Int32 × gS => (fX5_shows F sh 18 q6.2).bind (fun q7 : Int32 × gS => g_bo q7.1 (some (q7.1, q7.2)))))))))
set_option maxRecDepth 20000 in
theorem fX7_wouldShow_ok {X : gX} {F : Nat} {sh : Nat} (hsh : g_isSht sh) {R : Int32 × gS} {a1 : Int32} {a2 : Int32} {S : gS} (h : fX7_wouldShow F sh a1 a2 S = some R) : G X RX7 cX7_wouldShow 6 (some .boolean) 4 (some (.int R.1)) R.2 0 [(0, .ref (X.1 + 0)), (1, .ref (X.1 + sh)), (2, .int a1), (3, .int a2)] [] S := by
  unfold fX7_wouldShow at h
  refine g_aload_n dX7_wouldShow_0 0 rfl rfl ?_
  refine g_getr dX7_wouldShow_1 lk_X7_42 sf_0_4 ?_
  refine g_aload_n dX7_wouldShow_4 0 rfl rfl ?_
  refine g_getr dX7_wouldShow_5 lk_X7_19 sf_0_1 ?_
  refine g_getr dX7_wouldShow_8 lk_X7_98 sf_3_0 ?_
  obtain ⟨q1, hq1, h⟩ := gb h
  refine g_callVv [.ref (X.1 + 4)] [] dX7_wouldShow_11 mk_X7_172 so_16 (ctX3_begin out_16 hq1) rfl (by decide) rfl (Nat.le_of_ble_eq_true rfl) ?_
  refine g_aload_n dX7_wouldShow_14 0 rfl rfl ?_
  refine g_getr dX7_wouldShow_15 lk_X7_10 sf_0_0 ?_
  refine g_getj dX7_wouldShow_18 lk_X7_158 sf_1_4 ?_
  refine g_iload_n dX7_wouldShow_21 3 rfl rfl ?_
  obtain ⟨q2, hq2, h⟩ := gb h
  refine g_callSl [.int a2] [.long (g_J q1 1 4)] dX7_wouldShow_22 mk_X7_233 (ctX7_bit hq2) rfl (by decide) rfl (Nat.le_of_ble_eq_true rfl) ?_
  refine g_lor dX7_wouldShow_25 ?_
  obtain ⟨v3, ev3, h⟩ := gle h
  refine g_lstore (lv' := [(4, .long v3), (0, .ref (X.1 + 0)), (1, .ref (X.1 + sh)), (2, .int a1), (3, .int a2)]) dX7_wouldShow_26 ev3 (by decide) rfl ?_
  refine g_aload_n dX7_wouldShow_28 1 rfl rfl ?_
  refine g_getr dX7_wouldShow_29 lk_X7_42 sf_0_4 ?_
  refine g_aload_n dX7_wouldShow_32 1 rfl rfl ?_
  refine g_getr dX7_wouldShow_33 lk_X7_26 sf_0_2 ?_
  refine g_getr dX7_wouldShow_36 lk_X7_176 sf_9_0 ?_
  refine g_iload_n dX7_wouldShow_39 3 rfl rfl ?_
  obtain ⟨hv4, h⟩ := gchk h
  refine g_iald dX7_wouldShow_40 sa_10 hv4 ?_
  refine g_aload_n dX7_wouldShow_41 1 rfl rfl ?_
  refine g_getr dX7_wouldShow_42 lk_X7_26 sf_0_2 ?_
  refine g_getr dX7_wouldShow_45 lk_X7_179 sf_9_1 ?_
  refine g_iload_n dX7_wouldShow_48 3 rfl rfl ?_
  obtain ⟨hv5, h⟩ := gchk h
  refine g_iald dX7_wouldShow_49 sa_11 hv5 ?_
  refine g_lload dX7_wouldShow_50 0 rfl ?_
  obtain ⟨q6, hq6, h⟩ := gb h
  refine g_callVi [.int (g_I q2.2 10 (a1).toNatClampNeg), .int (g_I q2.2 11 (a1).toNatClampNeg), .long v3] [] dX7_wouldShow_52 mk_X7_182 so_16 (ctX3_go out_16 hq6) rfl (by decide) rfl (Nat.le_of_ble_eq_true rfl) ?_
  refine g_pop dX7_wouldShow_55 rfl ?_
  refine g_aload_n dX7_wouldShow_56 2 rfl rfl ?_
  refine g_aload_n dX7_wouldShow_57 1 rfl rfl ?_
  refine g_getr dX7_wouldShow_58 lk_X7_42 sf_0_4 ?_
  refine g_getr dX7_wouldShow_61 lk_X7_291 sf_16_3 ?_
  obtain ⟨q7, hq7, h⟩ := gb h
  refine g_callVi [.ref (X.1 + 18)] [] dX7_wouldShow_64 mk_X7_341 (sht_o hsh) (ctX5_shows hsh sa_18 hq7) rfl (by decide) rfl (Nat.le_of_ble_eq_true rfl) ?_
  obtain ⟨hb8, h⟩ := gbo h
  obtain rfl := Option.some.inj h
  exact g_zret dX7_wouldShow_67 rfl hb8
theorem ctX7_wouldShow {X : gX} {F : Nat} {sh : Nat} (hsh : g_isSht sh) {R : Int32 × gS} {a1 : Int32} {a2 : Int32} {S : gS} (h : fX7_wouldShow F sh a1 a2 S = some R) : g_C X yX7_wouldShow cX7_wouldShow 6 (some .boolean) 4 [.ref (X.1 + 0), .ref (X.1 + sh), .int a1, .int a2] S (some (.int R.1)) R.2 :=
  g_met (by decide) (Nat.le_of_ble_eq_true rfl) (fX7_wouldShow_ok hsh h)
noncomputable def bX7_hints_107 (F : Nat) (k54 : (Int32 × Int32 × Int32 × Int32 × Int32 × Int32 × gS) → Option (Int32 × gS)) (x1 : Int32) (x2 : Int32) (x3 : Int32) (x4 : Int32) (x5 : Int32) (x6 : Int32) (S : gS) : Option (Int32 × gS) := gl (x6 + 1) (fun v1 : Int32 => k54 (x1, x2, x3, x4, x5, v1, S))
set_option maxRecDepth 20000 in
theorem bX7_hints_107_ok {X : gX} {F : Nat} {k54 : (Int32 × Int32 × Int32 × Int32 × Int32 × Int32 × gS) → Option (Int32 × gS)} {R : Int32 × gS} (H54 : ∀ s : Int32 × Int32 × Int32 × Int32 × Int32 × Int32 × gS, k54 s = some R → G X RX7 cX7_hints 7 (some .int) 5 (some (.int R.1)) R.2 54 [(0, .ref (X.1 + 0)), (1, .int s.1), (2, .int s.2.1), (3, .int s.2.2.1), (4, .int s.2.2.2.1), (5, .int s.2.2.2.2.1), (6, .int s.2.2.2.2.2.1)] [] s.2.2.2.2.2.2) {x1 : Int32} {x2 : Int32} {x3 : Int32} {x4 : Int32} {x5 : Int32} {x6 : Int32} {S : gS} (h : bX7_hints_107 F k54 x1 x2 x3 x4 x5 x6 S = some R) : G X RX7 cX7_hints 7 (some .int) 5 (some (.int R.1)) R.2 107 [(0, .ref (X.1 + 0)), (1, .int x1), (2, .int x2), (3, .int x3), (4, .int x4), (5, .int x5), (6, .int x6)] [] S := by
  unfold bX7_hints_107 at h
  obtain ⟨v1, ev1, h⟩ := gle h
  refine g_iinc (q := 6) (v := v1) (lv' := [(6, .int v1), (0, .ref (X.1 + 0)), (1, .int x1), (2, .int x2), (3, .int x3), (4, .int x4), (5, .int x5)]) dX7_hints_107 rfl (by rw [← ev1]; rfl) (by decide) rfl ?_
  refine g_goto (tgt := 54) dX7_hints_110 (by decide) ?_
  refine g_sub [1, 2, 3, 4, 5, 6, 0] rfl ?_
  exact H54 (x1, x2, x3, x4, x5, v1, S) h
noncomputable def bX7_hints_105 (F : Nat) (k54 : (Int32 × Int32 × Int32 × Int32 × Int32 × Int32 × gS) → Option (Int32 × gS)) (x1 : Int32) (x2 : Int32) (x3 : Int32) (x4 : Int32) (x6 : Int32) (t0 : Int32) (S : gS) : Option (Int32 × gS) := bX7_hints_107 F k54 x1 x2 x3 x4 t0 x6 S
set_option maxRecDepth 20000 in
theorem bX7_hints_105_ok {X : gX} {F : Nat} {k54 : (Int32 × Int32 × Int32 × Int32 × Int32 × Int32 × gS) → Option (Int32 × gS)} {R : Int32 × gS} (H54 : ∀ s : Int32 × Int32 × Int32 × Int32 × Int32 × Int32 × gS, k54 s = some R → G X RX7 cX7_hints 7 (some .int) 5 (some (.int R.1)) R.2 54 [(0, .ref (X.1 + 0)), (1, .int s.1), (2, .int s.2.1), (3, .int s.2.2.1), (4, .int s.2.2.2.1), (5, .int s.2.2.2.2.1), (6, .int s.2.2.2.2.2.1)] [] s.2.2.2.2.2.2) {x1 : Int32} {x2 : Int32} {x3 : Int32} {x4 : Int32} {x6 : Int32} {t0 : Int32} {S : gS} (h : bX7_hints_105 F k54 x1 x2 x3 x4 x6 t0 S = some R) : G X RX7 cX7_hints 7 (some .int) 5 (some (.int R.1)) R.2 105 [(0, .ref (X.1 + 0)), (1, .int x1), (2, .int x2), (3, .int x3), (4, .int x4), (6, .int x6)] [.int t0] S := by
  unfold bX7_hints_105 at h
  refine g_istore (lv' := [(5, .int t0), (0, .ref (X.1 + 0)), (1, .int x1), (2, .int x2), (3, .int x3), (4, .int x4), (6, .int x6)]) dX7_hints_105 rfl (by decide) rfl ?_
  refine g_sub [1, 2, 3, 4, 5, 0, 6] rfl ?_
  exact bX7_hints_107_ok H54 h
noncomputable def bX7_hints_54 (F : Nat) (k54 : (Int32 × Int32 × Int32 × Int32 × Int32 × Int32 × gS) → Option (Int32 × gS)) (x1 : Int32) (x2 : Int32) (x3 : Int32) (x4 : Int32) (x5 : Int32) (x6 : Int32) (S : gS) : Option (Int32 × gS) := if (64 : Int32) ≤ x6 then (if x3 = 0 then (some (x4, S)) else (some (x5, S))) else ((fX0_kindOf F x6 S).bind (fun q3 : Int32 × gS => if q3.1 = 0 then (g_chk x1 4 ((fX7_wouldShow F (43 + 2 * (x1).toNatClampNeg) x2 x6 q3.2).bind (fun q6 : Int32 × gS => if q6.1 = 0 then (bX7_hints_107 F k54 x1 x2 x3 x4 x5 x6 q6.2) else (gl (x4 + 1) (fun v8 : Int32 => if x5 = (-1 : Int32) then (bX7_hints_105 F k54 x1 x2 x3 v8 x6 x6 q6.2) else (bX7_hints_105 F k54 x1 x2 x3 v8 x6 x5 q6.2)))))) else (bX7_hints_107 F k54 x1 x2 x3 x4 x5 x6 q3.2)))
set_option maxRecDepth 20000 in
theorem bX7_hints_54_ok {X : gX} {F : Nat} {k54 : (Int32 × Int32 × Int32 × Int32 × Int32 × Int32 × gS) → Option (Int32 × gS)} {R : Int32 × gS} (H54 : ∀ s : Int32 × Int32 × Int32 × Int32 × Int32 × Int32 × gS, k54 s = some R → G X RX7 cX7_hints 7 (some .int) 5 (some (.int R.1)) R.2 54 [(0, .ref (X.1 + 0)), (1, .int s.1), (2, .int s.2.1), (3, .int s.2.2.1), (4, .int s.2.2.2.1), (5, .int s.2.2.2.2.1), (6, .int s.2.2.2.2.2.1)] [] s.2.2.2.2.2.2) {x1 : Int32} {x2 : Int32} {x3 : Int32} {x4 : Int32} {x5 : Int32} {x6 : Int32} {S : gS} (h : bX7_hints_54 F k54 x1 x2 x3 x4 x5 x6 S = some R) : G X RX7 cX7_hints 7 (some .int) 5 (some (.int R.1)) R.2 54 [(0, .ref (X.1 + 0)), (1, .int x1), (2, .int x2), (3, .int x3), (4, .int x4), (5, .int x5), (6, .int x6)] [] S := by
  unfold bX7_hints_54 at h
  refine g_iload dX7_hints_54 6 rfl ?_
  refine g_bipush (v := 64) dX7_hints_56 (by decide) ?_
  refine g_icmp_ge (tgt := 113) dX7_hints_58 (by decide) (fun hc1 => ?_) (fun hc1 => ?_)
  · replace h := git hc1 h
    refine g_iload_n dX7_hints_113 3 rfl rfl ?_
    refine g_if_ne (tgt := 122) dX7_hints_114 (by decide) (fun hc2 => ?_) (fun hc2 => ?_)
    · replace h := gif hc2 h
      refine g_iload dX7_hints_122 5 rfl ?_
      obtain rfl := Option.some.inj h
      exact g_iret dX7_hints_124 rfl
    · replace h := git hc2 h
      refine g_iload dX7_hints_117 4 rfl ?_
      refine g_goto (tgt := 124) dX7_hints_119 (by decide) ?_
      obtain rfl := Option.some.inj h
      exact g_iret dX7_hints_124 rfl
  · replace h := gif hc1 h
    refine g_aload_n dX7_hints_61 0 rfl rfl ?_
    refine g_getr dX7_hints_62 lk_X7_10 sf_0_0 ?_
    refine g_iload dX7_hints_65 6 rfl ?_
    obtain ⟨q3, hq3, h⟩ := gb h
    refine g_callVi [.int x6] [] dX7_hints_67 mk_X7_94 so_1 (ctX0_kindOf hq3) rfl (by decide) rfl (Nat.le_of_ble_eq_true rfl) ?_
    refine g_if_ne (tgt := 107) dX7_hints_70 (by decide) (fun hc4 => ?_) (fun hc4 => ?_)
    · replace h := gif hc4 h
      exact bX7_hints_107_ok H54 h
    · replace h := git hc4 h
      refine g_aload_n dX7_hints_73 0 rfl rfl ?_
      refine g_aload_n dX7_hints_74 0 rfl rfl ?_
      refine g_getr dX7_hints_75 lk_X7_57 sf_0_6 ?_
      refine g_iload_n dX7_hints_78 1 rfl rfl ?_
      obtain ⟨hv5, h⟩ := gchk h
      refine g_aald4 dX7_hints_79 sa_42 hv5 ?_
      refine g_iload_n dX7_hints_80 2 rfl rfl ?_
      refine g_iload dX7_hints_81 6 rfl ?_
      obtain ⟨q6, hq6, h⟩ := gb h
      refine g_callVi [.ref (X.1 + (43 + 2 * (x1).toNatClampNeg)), .int x2, .int x6] [] dX7_hints_83 mk_X7_255 so_0 (ctX7_wouldShow (sht_at hv5) hq6) rfl (by decide) rfl (Nat.le_of_ble_eq_true rfl) ?_
      refine g_if_eq (tgt := 107) dX7_hints_86 (by decide) (fun hc7 => ?_) (fun hc7 => ?_)
      · replace h := git hc7 h
        exact bX7_hints_107_ok H54 h
      · replace h := gif hc7 h
        obtain ⟨v8, ev8, h⟩ := gle h
        refine g_iinc (q := 4) (v := v8) (lv' := [(4, .int v8), (0, .ref (X.1 + 0)), (1, .int x1), (2, .int x2), (3, .int x3), (5, .int x5), (6, .int x6)]) dX7_hints_89 rfl (by rw [← ev8]; rfl) (by decide) rfl ?_
        refine g_iload dX7_hints_92 5 rfl ?_
        refine g_iconst (v := -1) dX7_hints_94 (by decide) ?_
        refine g_icmp_ne (tgt := 103) dX7_hints_95 (by decide) (fun hc9 => ?_) (fun hc9 => ?_)
        · replace h := gif hc9 h
          refine g_iload dX7_hints_103 5 rfl ?_
          refine g_sub [1, 2, 3, 4, 0, 6] rfl ?_
          exact bX7_hints_105_ok H54 h
        · replace h := git hc9 h
          refine g_iload dX7_hints_98 6 rfl ?_
          refine g_goto (tgt := 105) dX7_hints_100 (by decide) ?_
          refine g_sub [1, 2, 3, 4, 0, 6] rfl ?_
          exact bX7_hints_105_ok H54 h
noncomputable def bX7_hints_54l (F : Nat) : Nat → (Int32 × Int32 × Int32 × Int32 × Int32 × Int32 × gS) → Option (Int32 × gS) := g_fix (fun k54 s => bX7_hints_54 F k54 s.1 s.2.1 s.2.2.1 s.2.2.2.1 s.2.2.2.2.1 s.2.2.2.2.2.1 s.2.2.2.2.2.2)
theorem bX7_hints_54l_ok {X : gX} {F : Nat} {R : Int32 × gS} : ∀ (n : Nat) (s : Int32 × Int32 × Int32 × Int32 × Int32 × Int32 × gS), bX7_hints_54l F n s = some R → G X RX7 cX7_hints 7 (some .int) 5 (some (.int R.1)) R.2 54 [(0, .ref (X.1 + 0)), (1, .int s.1), (2, .int s.2.1), (3, .int s.2.2.1), (4, .int s.2.2.2.1), (5, .int s.2.2.2.2.1), (6, .int s.2.2.2.2.2.1)] [] s.2.2.2.2.2.2 := by
  intro n
  induction n with
  | zero => intro s h; cases h
  | succ n ih => intro s h; exact bX7_hints_54_ok (F := F) ih h
noncomputable def fX7_hints (F : Nat) (a0 : Int32) (a1 : Int32) (a2 : Int32) (S : gS) : Option (Int32 × gS) := (fX7_isSheet F a0 S).bind (fun q1 : Int32 × gS => if q1.1 = 0 then (some ((-2 : Int32), q1.2)) else ((fX7_isWalker F a1 q1.2).bind (fun q3 : Int32 × gS => if q3.1 = 0 then (some ((-2 : Int32), q3.2)) else (if a2 < 0 then (some ((-2 : Int32), q3.2)) else (if a2 ≤ (1 : Int32) then (g_chk a0 4 ((fX5_isLost F (43 + 2 * (a0).toNatClampNeg) q3.2).bind (fun q8 : Int32 × gS => if q8.1 = 0 then (bX7_hints_54l F F (a0, a1, a2, (0 : Int32), (-1 : Int32), (0 : Int32), q8.2)) else ((fX7_found F (1 : Int32) q8.2).bind (fun q10 : Int32 × gS => some (q10.1, q10.2)))))) else (some ((-2 : Int32), q3.2)))))))
set_option maxRecDepth 20000 in
theorem fX7_hints_ok {X : gX} {F : Nat} {R : Int32 × gS} {a0 : Int32} {a1 : Int32} {a2 : Int32} {S : gS} (h : fX7_hints F a0 a1 a2 S = some R) : G X RX7 cX7_hints 7 (some .int) 5 (some (.int R.1)) R.2 0 [(0, .ref (X.1 + 0)), (1, .int a0), (2, .int a1), (3, .int a2)] [] S := by
  unfold fX7_hints at h
  refine g_iload_n dX7_hints_0 1 rfl rfl ?_
  obtain ⟨q1, hq1, h⟩ := gb h
  refine g_callSi [.int a0] [] dX7_hints_1 mk_X7_137 (ctX7_isSheet hq1) rfl (by decide) rfl (Nat.le_of_ble_eq_true rfl) ?_
  refine g_if_eq (tgt := 24) dX7_hints_4 (by decide) (fun hc2 => ?_) (fun hc2 => ?_)
  · replace h := git hc2 h
    refine g_bipush (v := -2) dX7_hints_24 (by decide) ?_
    obtain rfl := Option.some.inj h
    exact g_iret dX7_hints_26 rfl
  · replace h := gif hc2 h
    refine g_aload_n dX7_hints_7 0 rfl rfl ?_
    refine g_iload_n dX7_hints_8 2 rfl rfl ?_
    obtain ⟨q3, hq3, h⟩ := gb h
    refine g_callVi [.int a1] [] dX7_hints_9 mk_X7_169 so_0 (ctX7_isWalker hq3) rfl (by decide) rfl (Nat.le_of_ble_eq_true rfl) ?_
    refine g_if_eq (tgt := 24) dX7_hints_12 (by decide) (fun hc4 => ?_) (fun hc4 => ?_)
    · replace h := git hc4 h
      refine g_bipush (v := -2) dX7_hints_24 (by decide) ?_
      obtain rfl := Option.some.inj h
      exact g_iret dX7_hints_26 rfl
    · replace h := gif hc4 h
      refine g_iload_n dX7_hints_15 3 rfl rfl ?_
      refine g_if_lt (tgt := 24) dX7_hints_16 (by decide) (fun hc5 => ?_) (fun hc5 => ?_)
      · replace h := git hc5 h
        refine g_bipush (v := -2) dX7_hints_24 (by decide) ?_
        obtain rfl := Option.some.inj h
        exact g_iret dX7_hints_26 rfl
      · replace h := gif hc5 h
        refine g_iload_n dX7_hints_19 3 rfl rfl ?_
        refine g_iconst (v := 1) dX7_hints_20 (by decide) ?_
        refine g_icmp_le (tgt := 27) dX7_hints_21 (by decide) (fun hc6 => ?_) (fun hc6 => ?_)
        · replace h := git hc6 h
          refine g_aload_n dX7_hints_27 0 rfl rfl ?_
          refine g_getr dX7_hints_28 lk_X7_57 sf_0_6 ?_
          refine g_iload_n dX7_hints_31 1 rfl rfl ?_
          obtain ⟨hv7, h⟩ := gchk h
          refine g_aald4 dX7_hints_32 sa_42 hv7 ?_
          obtain ⟨q8, hq8, h⟩ := gb h
          refine g_callVi [] [] dX7_hints_33 mk_X7_140 (sht_o (sht_at hv7)) (ctX5_isLost (sht_at hv7) hq8) rfl (by decide) rfl (Nat.le_of_ble_eq_true rfl) ?_
          refine g_if_eq (tgt := 45) dX7_hints_36 (by decide) (fun hc9 => ?_) (fun hc9 => ?_)
          · replace h := git hc9 h
            refine g_iconst (v := 0) dX7_hints_45 (by decide) ?_
            refine g_istore (lv' := [(4, .int (0 : Int32)), (0, .ref (X.1 + 0)), (1, .int a0), (2, .int a1), (3, .int a2)]) dX7_hints_46 rfl (by decide) rfl ?_
            refine g_iconst (v := -1) dX7_hints_48 (by decide) ?_
            refine g_istore (lv' := [(5, .int (-1 : Int32)), (4, .int (0 : Int32)), (0, .ref (X.1 + 0)), (1, .int a0), (2, .int a1), (3, .int a2)]) dX7_hints_49 rfl (by decide) rfl ?_
            refine g_iconst (v := 0) dX7_hints_51 (by decide) ?_
            refine g_istore (lv' := [(6, .int (0 : Int32)), (5, .int (-1 : Int32)), (4, .int (0 : Int32)), (0, .ref (X.1 + 0)), (1, .int a0), (2, .int a1), (3, .int a2)]) dX7_hints_52 rfl (by decide) rfl ?_
            refine g_sub [3, 4, 5, 6, 2, 1, 0] rfl ?_
            exact bX7_hints_54l_ok F (a0, a1, a2, (0 : Int32), (-1 : Int32), (0 : Int32), q8.2) h
          · replace h := gif hc9 h
            refine g_aload_n dX7_hints_39 0 rfl rfl ?_
            refine g_iconst (v := 1) dX7_hints_40 (by decide) ?_
            obtain ⟨q10, hq10, h⟩ := gb h
            refine g_callVi [.int (1 : Int32)] [] dX7_hints_41 mk_X7_144 so_0 (ctX7_found hq10) rfl (by decide) rfl (Nat.le_of_ble_eq_true rfl) ?_
            obtain rfl := Option.some.inj h
            exact g_iret dX7_hints_44 rfl
        · replace h := gif hc6 h
          refine g_bipush (v := -2) dX7_hints_24 (by decide) ?_
          obtain rfl := Option.some.inj h
          exact g_iret dX7_hints_26 rfl
theorem ctX7_hints {X : gX} {F : Nat} {R : Int32 × gS} {a0 : Int32} {a1 : Int32} {a2 : Int32} {S : gS} (h : fX7_hints F a0 a1 a2 S = some R) : g_C X yX7_hints cX7_hints 7 (some .int) 5 [.ref (X.1 + 0), .int a0, .int a1, .int a2] S (some (.int R.1)) R.2 :=
  g_met (by decide) (Nat.le_of_ble_eq_true rfl) (fX7_hints_ok h)
noncomputable def fX7_isForm (F : Nat) (a0 : Int32) (S : gS) : Option (Int32 × gS) := if a0 < 0 then (some ((0 : Int32), S)) else (if (2 : Int32) < a0 then (some ((0 : Int32), S)) else (some ((1 : Int32), S)))
set_option maxRecDepth 20000 in
theorem fX7_isForm_ok {X : gX} {F : Nat} {R : Int32 × gS} {a0 : Int32} {S : gS} (h : fX7_isForm F a0 S = some R) : G X RX7 cX7_isForm 1 (some .boolean) 0 (some (.int R.1)) R.2 0 [(0, .int a0)] [] S := by
  unfold fX7_isForm at h
  refine g_iload_n dX7_isForm_0 0 rfl rfl ?_
  refine g_if_lt (tgt := 13) dX7_isForm_1 (by decide) (fun hc1 => ?_) (fun hc1 => ?_)
  · replace h := git hc1 h
    refine g_iconst (v := 0) dX7_isForm_13 (by decide) ?_
    obtain rfl := Option.some.inj h
    exact g_zret dX7_isForm_14 rfl narrow_b0
  · replace h := gif hc1 h
    refine g_iload_n dX7_isForm_4 0 rfl rfl ?_
    refine g_iconst (v := 2) dX7_isForm_5 (by decide) ?_
    refine g_icmp_gt (tgt := 13) dX7_isForm_6 (by decide) (fun hc2 => ?_) (fun hc2 => ?_)
    · replace h := git hc2 h
      refine g_iconst (v := 0) dX7_isForm_13 (by decide) ?_
      obtain rfl := Option.some.inj h
      exact g_zret dX7_isForm_14 rfl narrow_b0
    · replace h := gif hc2 h
      refine g_iconst (v := 1) dX7_isForm_9 (by decide) ?_
      refine g_goto (tgt := 14) dX7_isForm_10 (by decide) ?_
      obtain rfl := Option.some.inj h
      exact g_zret dX7_isForm_14 rfl narrow_b1
theorem ctX7_isForm {X : gX} {F : Nat} {R : Int32 × gS} {a0 : Int32} {S : gS} (h : fX7_isForm F a0 S = some R) : g_C X yX7_isForm cX7_isForm 1 (some .boolean) 0 [.int a0] S (some (.int R.1)) R.2 :=
  g_met (by decide) (Nat.le_of_ble_eq_true rfl) (fX7_isForm_ok h)
noncomputable def fX7_sheet (F : Nat) (a0 : Int32) (a1 : Int32) (a2 : Int32) (S : gS) : Option (Int32 × gS) := (fX7_isSheet F a0 S).bind (fun q1 : Int32 × gS => if q1.1 = 0 then (some ((-2 : Int32), q1.2)) else ((fX7_isForm F a1 q1.2).bind (fun q3 : Int32 × gS => if q3.1 = 0 then (some ((-2 : Int32), q3.2)) else (if a2 ≤ (64 : Int32) then (if 0 ≤ a2 then (g_chk a0 4 ((fX5_renew F (43 + 2 * (a0).toNatClampNeg) a1 a2 q3.2).bind (fun q8 : gS => some (a2, q8)))) else ((fX7_found F (5 : Int32) q3.2).bind (fun q9 : Int32 × gS => some (q9.1, q9.2)))) else (some ((-2 : Int32), q3.2))))))
set_option maxRecDepth 20000 in
theorem fX7_sheet_ok {X : gX} {F : Nat} {R : Int32 × gS} {a0 : Int32} {a1 : Int32} {a2 : Int32} {S : gS} (h : fX7_sheet F a0 a1 a2 S = some R) : G X RX7 cX7_sheet 4 (some .int) 2 (some (.int R.1)) R.2 0 [(0, .ref (X.1 + 0)), (1, .int a0), (2, .int a1), (3, .int a2)] [] S := by
  unfold fX7_sheet at h
  refine g_iload_n dX7_sheet_0 1 rfl rfl ?_
  obtain ⟨q1, hq1, h⟩ := gb h
  refine g_callSi [.int a0] [] dX7_sheet_1 mk_X7_137 (ctX7_isSheet hq1) rfl (by decide) rfl (Nat.le_of_ble_eq_true rfl) ?_
  refine g_if_eq (tgt := 20) dX7_sheet_4 (by decide) (fun hc2 => ?_) (fun hc2 => ?_)
  · replace h := git hc2 h
    refine g_bipush (v := -2) dX7_sheet_20 (by decide) ?_
    obtain rfl := Option.some.inj h
    exact g_iret dX7_sheet_22 rfl
  · replace h := gif hc2 h
    refine g_iload_n dX7_sheet_7 2 rfl rfl ?_
    obtain ⟨q3, hq3, h⟩ := gb h
    refine g_callSi [.int a1] [] dX7_sheet_8 mk_X7_259 (ctX7_isForm hq3) rfl (by decide) rfl (Nat.le_of_ble_eq_true rfl) ?_
    refine g_if_eq (tgt := 20) dX7_sheet_11 (by decide) (fun hc4 => ?_) (fun hc4 => ?_)
    · replace h := git hc4 h
      refine g_bipush (v := -2) dX7_sheet_20 (by decide) ?_
      obtain rfl := Option.some.inj h
      exact g_iret dX7_sheet_22 rfl
    · replace h := gif hc4 h
      refine g_iload_n dX7_sheet_14 3 rfl rfl ?_
      refine g_bipush (v := 64) dX7_sheet_15 (by decide) ?_
      refine g_icmp_le (tgt := 23) dX7_sheet_17 (by decide) (fun hc5 => ?_) (fun hc5 => ?_)
      · replace h := git hc5 h
        refine g_iload_n dX7_sheet_23 3 rfl rfl ?_
        refine g_if_ge (tgt := 33) dX7_sheet_24 (by decide) (fun hc6 => ?_) (fun hc6 => ?_)
        · replace h := git hc6 h
          refine g_aload_n dX7_sheet_33 0 rfl rfl ?_
          refine g_getr dX7_sheet_34 lk_X7_57 sf_0_6 ?_
          refine g_iload_n dX7_sheet_37 1 rfl rfl ?_
          obtain ⟨hv7, h⟩ := gchk h
          refine g_aald4 dX7_sheet_38 sa_42 hv7 ?_
          refine g_iload_n dX7_sheet_39 2 rfl rfl ?_
          refine g_iload_n dX7_sheet_40 3 rfl rfl ?_
          obtain ⟨q8, hq8, h⟩ := gb h
          refine g_callVv [.int a1, .int a2] [] dX7_sheet_41 mk_X7_262 (sht_o (sht_at hv7)) (ctX5_renew (sht_at hv7) hq8) rfl (by decide) rfl (Nat.le_of_ble_eq_true rfl) ?_
          refine g_iload_n dX7_sheet_44 3 rfl rfl ?_
          obtain rfl := Option.some.inj h
          exact g_iret dX7_sheet_45 rfl
        · replace h := gif hc6 h
          refine g_aload_n dX7_sheet_27 0 rfl rfl ?_
          refine g_iconst (v := 5) dX7_sheet_28 (by decide) ?_
          obtain ⟨q9, hq9, h⟩ := gb h
          refine g_callVi [.int (5 : Int32)] [] dX7_sheet_29 mk_X7_144 so_0 (ctX7_found hq9) rfl (by decide) rfl (Nat.le_of_ble_eq_true rfl) ?_
          obtain rfl := Option.some.inj h
          exact g_iret dX7_sheet_32 rfl
      · replace h := gif hc5 h
        refine g_bipush (v := -2) dX7_sheet_20 (by decide) ?_
        obtain rfl := Option.some.inj h
        exact g_iret dX7_sheet_22 rfl
theorem ctX7_sheet {X : gX} {F : Nat} {R : Int32 × gS} {a0 : Int32} {a1 : Int32} {a2 : Int32} {S : gS} (h : fX7_sheet F a0 a1 a2 S = some R) : g_C X yX7_sheet cX7_sheet 4 (some .int) 2 [.ref (X.1 + 0), .int a0, .int a1, .int a2] S (some (.int R.1)) R.2 :=
  g_met (by decide) (Nat.le_of_ble_eq_true rfl) (fX7_sheet_ok h)
noncomputable def fX7_lose (F : Nat) (a0 : Int32) (S : gS) : Option (Int32 × gS) := (fX7_isSheet F a0 S).bind (fun q1 : Int32 × gS => if q1.1 = 0 then (some ((-2 : Int32), q1.2)) else (g_chk a0 4 ((fX5_isLost F (43 + 2 * (a0).toNatClampNeg) q1.2).bind (fun q4 : Int32 × gS => if q4.1 = 0 then (g_chk a0 4 (gl (g_I q4.2 (43 + 2 * (a0).toNatClampNeg) 2) (fun v7 : Int32 => g_chk a0 4 ((fX5_renew F (43 + 2 * (a0).toNatClampNeg) (-1 : Int32) (0 : Int32) q4.2).bind (fun q9 : gS => some (v7, q9)))))) else ((fX7_found F (1 : Int32) q4.2).bind (fun q10 : Int32 × gS => some (q10.1, q10.2)))))))
set_option maxRecDepth 20000 in
theorem fX7_lose_ok {X : gX} {F : Nat} {R : Int32 × gS} {a0 : Int32} {S : gS} (h : fX7_lose F a0 S = some R) : G X RX7 cX7_lose 3 (some .int) 2 (some (.int R.1)) R.2 0 [(0, .ref (X.1 + 0)), (1, .int a0)] [] S := by
  unfold fX7_lose at h
  refine g_iload_n dX7_lose_0 1 rfl rfl ?_
  obtain ⟨q1, hq1, h⟩ := gb h
  refine g_callSi [.int a0] [] dX7_lose_1 mk_X7_137 (ctX7_isSheet hq1) rfl (by decide) rfl (Nat.le_of_ble_eq_true rfl) ?_
  refine g_if_ne (tgt := 10) dX7_lose_4 (by decide) (fun hc2 => ?_) (fun hc2 => ?_)
  · replace h := gif hc2 h
    refine g_aload_n dX7_lose_10 0 rfl rfl ?_
    refine g_getr dX7_lose_11 lk_X7_57 sf_0_6 ?_
    refine g_iload_n dX7_lose_14 1 rfl rfl ?_
    obtain ⟨hv3, h⟩ := gchk h
    refine g_aald4 dX7_lose_15 sa_42 hv3 ?_
    obtain ⟨q4, hq4, h⟩ := gb h
    refine g_callVi [] [] dX7_lose_16 mk_X7_140 (sht_o (sht_at hv3)) (ctX5_isLost (sht_at hv3) hq4) rfl (by decide) rfl (Nat.le_of_ble_eq_true rfl) ?_
    refine g_if_eq (tgt := 28) dX7_lose_19 (by decide) (fun hc5 => ?_) (fun hc5 => ?_)
    · replace h := git hc5 h
      refine g_aload_n dX7_lose_28 0 rfl rfl ?_
      refine g_getr dX7_lose_29 lk_X7_57 sf_0_6 ?_
      refine g_iload_n dX7_lose_32 1 rfl rfl ?_
      obtain ⟨hv6, h⟩ := gchk h
      refine g_aald4 dX7_lose_33 sa_42 hv6 ?_
      refine g_geti dX7_lose_34 lk_X7_265 (sht_2 (sht_at hv6)) ?_
      obtain ⟨v7, ev7, h⟩ := gle h
      refine g_istore_n (lv' := [(2, .int v7), (0, .ref (X.1 + 0)), (1, .int a0)]) dX7_lose_37 ev7 rfl (by decide) rfl ?_
      refine g_aload_n dX7_lose_38 1 rfl rfl ?_
      refine g_getr dX7_lose_39 lk_X7_57 sf_0_6 ?_
      refine g_iload_n dX7_lose_42 2 rfl rfl ?_
      obtain ⟨hv8, h⟩ := gchk h
      refine g_aald4 dX7_lose_43 sa_42 hv8 ?_
      refine g_iconst (v := -1) dX7_lose_44 (by decide) ?_
      refine g_iconst (v := 0) dX7_lose_45 (by decide) ?_
      obtain ⟨q9, hq9, h⟩ := gb h
      refine g_callVv [.int (-1 : Int32), .int (0 : Int32)] [] dX7_lose_46 mk_X7_262 (sht_o (sht_at hv8)) (ctX5_renew (sht_at hv8) hq9) rfl (by decide) rfl (Nat.le_of_ble_eq_true rfl) ?_
      refine g_iload_n dX7_lose_49 0 rfl rfl ?_
      obtain rfl := Option.some.inj h
      exact g_iret dX7_lose_50 rfl
    · replace h := gif hc5 h
      refine g_aload_n dX7_lose_22 0 rfl rfl ?_
      refine g_iconst (v := 1) dX7_lose_23 (by decide) ?_
      obtain ⟨q10, hq10, h⟩ := gb h
      refine g_callVi [.int (1 : Int32)] [] dX7_lose_24 mk_X7_144 so_0 (ctX7_found hq10) rfl (by decide) rfl (Nat.le_of_ble_eq_true rfl) ?_
      obtain rfl := Option.some.inj h
      exact g_iret dX7_lose_27 rfl
  · replace h := git hc2 h
    refine g_bipush (v := -2) dX7_lose_7 (by decide) ?_
    obtain rfl := Option.some.inj h
    exact g_iret dX7_lose_9 rfl
theorem ctX7_lose {X : gX} {F : Nat} {R : Int32 × gS} {a0 : Int32} {S : gS} (h : fX7_lose F a0 S = some R) : g_C X yX7_lose cX7_lose 3 (some .int) 2 [.ref (X.1 + 0), .int a0] S (some (.int R.1)) R.2 :=
  g_met (by decide) (Nat.le_of_ble_eq_true rfl) (fX7_lose_ok h)
noncomputable def fX7_refusedItem (F : Nat) (a0 : Int32) (a1 : Int32) (a2 : Int32) (S : gS) : Option (Int32 × gS) := (fX7_isSheet F a0 S).bind (fun q1 : Int32 × gS => if q1.1 = 0 then (some ((-2 : Int32), q1.2)) else ((fX7_isForm F a1 q1.2).bind (fun q3 : Int32 × gS => if q3.1 = 0 then (some ((-2 : Int32), q3.2)) else (g_chk a0 4 ((fX5_isLost F (43 + 2 * (a0).toNatClampNeg) q3.2).bind (fun q6 : Int32 × gS => if q6.1 = 0 then (g_chk a0 4 (if (g_I q6.2 (43 + 2 * (a0).toNatClampNeg) 1) = a1 then (g_chk a0 4 ((fX5_holds F (43 + 2 * (a0).toNatClampNeg) a2 (1 : Int32) q6.2).bind (fun q11 : Int32 × gS => if q11.1 = 0 then ((fX7_found F (2 : Int32) q11.2).bind (fun q13 : Int32 × gS => some (q13.1, q13.2))) else (some ((0 : Int32), q11.2))))) else ((fX7_found F (3 : Int32) q6.2).bind (fun q14 : Int32 × gS => some (q14.1, q14.2))))) else ((fX7_found F (1 : Int32) q6.2).bind (fun q15 : Int32 × gS => some (q15.1, q15.2)))))))))
set_option maxRecDepth 20000 in
theorem fX7_refusedItem_ok {X : gX} {F : Nat} {R : Int32 × gS} {a0 : Int32} {a1 : Int32} {a2 : Int32} {S : gS} (h : fX7_refusedItem F a0 a1 a2 S = some R) : G X RX7 cX7_refusedItem 4 (some .int) 1 (some (.int R.1)) R.2 0 [(0, .ref (X.1 + 0)), (1, .int a0), (2, .int a1), (3, .int a2)] [] S := by
  unfold fX7_refusedItem at h
  refine g_iload_n dX7_refusedItem_0 1 rfl rfl ?_
  obtain ⟨q1, hq1, h⟩ := gb h
  refine g_callSi [.int a0] [] dX7_refusedItem_1 mk_X7_137 (ctX7_isSheet hq1) rfl (by decide) rfl (Nat.le_of_ble_eq_true rfl) ?_
  refine g_if_eq (tgt := 14) dX7_refusedItem_4 (by decide) (fun hc2 => ?_) (fun hc2 => ?_)
  · replace h := git hc2 h
    refine g_bipush (v := -2) dX7_refusedItem_14 (by decide) ?_
    obtain rfl := Option.some.inj h
    exact g_iret dX7_refusedItem_16 rfl
  · replace h := gif hc2 h
    refine g_iload_n dX7_refusedItem_7 2 rfl rfl ?_
    obtain ⟨q3, hq3, h⟩ := gb h
    refine g_callSi [.int a1] [] dX7_refusedItem_8 mk_X7_259 (ctX7_isForm hq3) rfl (by decide) rfl (Nat.le_of_ble_eq_true rfl) ?_
    refine g_if_ne (tgt := 17) dX7_refusedItem_11 (by decide) (fun hc4 => ?_) (fun hc4 => ?_)
    · replace h := gif hc4 h
      refine g_aload_n dX7_refusedItem_17 0 rfl rfl ?_
      refine g_getr dX7_refusedItem_18 lk_X7_57 sf_0_6 ?_
      refine g_iload_n dX7_refusedItem_21 1 rfl rfl ?_
      obtain ⟨hv5, h⟩ := gchk h
      refine g_aald4 dX7_refusedItem_22 sa_42 hv5 ?_
      obtain ⟨q6, hq6, h⟩ := gb h
      refine g_callVi [] [] dX7_refusedItem_23 mk_X7_140 (sht_o (sht_at hv5)) (ctX5_isLost (sht_at hv5) hq6) rfl (by decide) rfl (Nat.le_of_ble_eq_true rfl) ?_
      refine g_if_eq (tgt := 35) dX7_refusedItem_26 (by decide) (fun hc7 => ?_) (fun hc7 => ?_)
      · replace h := git hc7 h
        refine g_aload_n dX7_refusedItem_35 0 rfl rfl ?_
        refine g_getr dX7_refusedItem_36 lk_X7_57 sf_0_6 ?_
        refine g_iload_n dX7_refusedItem_39 1 rfl rfl ?_
        obtain ⟨hv8, h⟩ := gchk h
        refine g_aald4 dX7_refusedItem_40 sa_42 hv8 ?_
        refine g_geti dX7_refusedItem_41 lk_X7_279 (sht_1 (sht_at hv8)) ?_
        refine g_iload_n dX7_refusedItem_44 2 rfl rfl ?_
        refine g_icmp_eq (tgt := 54) dX7_refusedItem_45 (by decide) (fun hc9 => ?_) (fun hc9 => ?_)
        · replace h := git hc9 h
          refine g_aload_n dX7_refusedItem_54 0 rfl rfl ?_
          refine g_getr dX7_refusedItem_55 lk_X7_57 sf_0_6 ?_
          refine g_iload_n dX7_refusedItem_58 1 rfl rfl ?_
          obtain ⟨hv10, h⟩ := gchk h
          refine g_aald4 dX7_refusedItem_59 sa_42 hv10 ?_
          refine g_iload_n dX7_refusedItem_60 3 rfl rfl ?_
          refine g_iconst (v := 1) dX7_refusedItem_61 (by decide) ?_
          obtain ⟨q11, hq11, h⟩ := gb h
          refine g_callVi [.int a2, .int (1 : Int32)] [] dX7_refusedItem_62 mk_X7_282 (sht_o (sht_at hv10)) (ctX5_holds (sht_at hv10) hq11) rfl (by decide) rfl (Nat.le_of_ble_eq_true rfl) ?_
          refine g_if_eq (tgt := 72) dX7_refusedItem_65 (by decide) (fun hc12 => ?_) (fun hc12 => ?_)
          · replace h := git hc12 h
            refine g_aload_n dX7_refusedItem_72 0 rfl rfl ?_
            refine g_iconst (v := 2) dX7_refusedItem_73 (by decide) ?_
            obtain ⟨q13, hq13, h⟩ := gb h
            refine g_callVi [.int (2 : Int32)] [] dX7_refusedItem_74 mk_X7_144 so_0 (ctX7_found hq13) rfl (by decide) rfl (Nat.le_of_ble_eq_true rfl) ?_
            obtain rfl := Option.some.inj h
            exact g_iret dX7_refusedItem_77 rfl
          · replace h := gif hc12 h
            refine g_iconst (v := 0) dX7_refusedItem_68 (by decide) ?_
            refine g_goto (tgt := 77) dX7_refusedItem_69 (by decide) ?_
            obtain rfl := Option.some.inj h
            exact g_iret dX7_refusedItem_77 rfl
        · replace h := gif hc9 h
          refine g_aload_n dX7_refusedItem_48 0 rfl rfl ?_
          refine g_iconst (v := 3) dX7_refusedItem_49 (by decide) ?_
          obtain ⟨q14, hq14, h⟩ := gb h
          refine g_callVi [.int (3 : Int32)] [] dX7_refusedItem_50 mk_X7_144 so_0 (ctX7_found hq14) rfl (by decide) rfl (Nat.le_of_ble_eq_true rfl) ?_
          obtain rfl := Option.some.inj h
          exact g_iret dX7_refusedItem_53 rfl
      · replace h := gif hc7 h
        refine g_aload_n dX7_refusedItem_29 0 rfl rfl ?_
        refine g_iconst (v := 1) dX7_refusedItem_30 (by decide) ?_
        obtain ⟨q15, hq15, h⟩ := gb h
        refine g_callVi [.int (1 : Int32)] [] dX7_refusedItem_31 mk_X7_144 so_0 (ctX7_found hq15) rfl (by decide) rfl (Nat.le_of_ble_eq_true rfl) ?_
        obtain rfl := Option.some.inj h
        exact g_iret dX7_refusedItem_34 rfl
    · replace h := git hc4 h
      refine g_bipush (v := -2) dX7_refusedItem_14 (by decide) ?_
      obtain rfl := Option.some.inj h
      exact g_iret dX7_refusedItem_16 rfl
theorem ctX7_refusedItem {X : gX} {F : Nat} {R : Int32 × gS} {a0 : Int32} {a1 : Int32} {a2 : Int32} {S : gS} (h : fX7_refusedItem F a0 a1 a2 S = some R) : g_C X yX7_refusedItem cX7_refusedItem 4 (some .int) 1 [.ref (X.1 + 0), .int a0, .int a1, .int a2] S (some (.int R.1)) R.2 :=
  g_met (by decide) (Nat.le_of_ble_eq_true rfl) (fX7_refusedItem_ok h)
noncomputable def fX7_lay (F : Nat) (a0 : Int32) (a1 : Int32) (a2 : Int32) (a3 : Int32) (S : gS) : Option (Int32 × gS) := (fX7_refusedItem F a0 a1 a2 S).bind (fun q1 : Int32 × gS => gl q1.1 (fun v2 : Int32 => if v2 = 0 then (g_chk a0 4 ((fX5_put F (43 + 2 * (a0).toNatClampNeg) a2 a3 q1.2).bind (fun q5 : gS => some ((1 : Int32), q5)))) else (some (v2, q1.2))))
set_option maxRecDepth 20000 in
theorem fX7_lay_ok {X : gX} {F : Nat} {R : Int32 × gS} {a0 : Int32} {a1 : Int32} {a2 : Int32} {a3 : Int32} {S : gS} (h : fX7_lay F a0 a1 a2 a3 S = some R) : G X RX7 cX7_lay 6 (some .int) 2 (some (.int R.1)) R.2 0 [(0, .ref (X.1 + 0)), (1, .int a0), (2, .int a1), (3, .int a2), (4, .int a3)] [] S := by
  unfold fX7_lay at h
  refine g_aload_n dX7_lay_0 0 rfl rfl ?_
  refine g_iload_n dX7_lay_1 1 rfl rfl ?_
  refine g_iload_n dX7_lay_2 2 rfl rfl ?_
  refine g_iload_n dX7_lay_3 3 rfl rfl ?_
  obtain ⟨q1, hq1, h⟩ := gb h
  refine g_callVi [.int a0, .int a1, .int a2] [] dX7_lay_4 mk_X7_268 so_0 (ctX7_refusedItem hq1) rfl (by decide) rfl (Nat.le_of_ble_eq_true rfl) ?_
  obtain ⟨v2, ev2, h⟩ := gle h
  refine g_istore (lv' := [(5, .int v2), (0, .ref (X.1 + 0)), (1, .int a0), (2, .int a1), (3, .int a2), (4, .int a3)]) dX7_lay_7 ev2 (by decide) rfl ?_
  refine g_iload dX7_lay_9 0 rfl ?_
  refine g_if_eq (tgt := 17) dX7_lay_11 (by decide) (fun hc3 => ?_) (fun hc3 => ?_)
  · replace h := git hc3 h
    refine g_aload_n dX7_lay_17 1 rfl rfl ?_
    refine g_getr dX7_lay_18 lk_X7_57 sf_0_6 ?_
    refine g_iload_n dX7_lay_21 2 rfl rfl ?_
    obtain ⟨hv4, h⟩ := gchk h
    refine g_aald4 dX7_lay_22 sa_42 hv4 ?_
    refine g_iload_n dX7_lay_23 4 rfl rfl ?_
    refine g_iload dX7_lay_24 5 rfl ?_
    obtain ⟨q5, hq5, h⟩ := gb h
    refine g_callVv [.int a2, .int a3] [] dX7_lay_26 mk_X7_272 (sht_o (sht_at hv4)) (ctX5_put (sht_at hv4) hq5) rfl (by decide) rfl (Nat.le_of_ble_eq_true rfl) ?_
    refine g_iconst (v := 1) dX7_lay_29 (by decide) ?_
    obtain rfl := Option.some.inj h
    exact g_iret dX7_lay_30 rfl
  · replace h := gif hc3 h
    refine g_iload dX7_lay_14 0 rfl ?_
    obtain rfl := Option.some.inj h
    exact g_iret dX7_lay_16 rfl
theorem ctX7_lay {X : gX} {F : Nat} {R : Int32 × gS} {a0 : Int32} {a1 : Int32} {a2 : Int32} {a3 : Int32} {S : gS} (h : fX7_lay F a0 a1 a2 a3 S = some R) : g_C X yX7_lay cX7_lay 6 (some .int) 2 [.ref (X.1 + 0), .int a0, .int a1, .int a2, .int a3] S (some (.int R.1)) R.2 :=
  g_met (by decide) (Nat.le_of_ble_eq_true rfl) (fX7_lay_ok h)
noncomputable def fX7_get (F : Nat) (a0 : Int32) (a1 : Int32) (a2 : Int32) (S : gS) : Option (Int32 × gS) := (fX7_refusedItem F a0 a1 a2 S).bind (fun q1 : Int32 × gS => if q1.1 = 0 then (g_chk a0 4 (g_chk a2 64 (some ((g_I q1.2 (((43 + 2 * (a0).toNatClampNeg)) + 1) (a2).toNatClampNeg), q1.2)))) else (some ((-2147483648 : Int32), q1.2)))
set_option maxRecDepth 20000 in
theorem fX7_get_ok {X : gX} {F : Nat} {R : Int32 × gS} {a0 : Int32} {a1 : Int32} {a2 : Int32} {S : gS} (h : fX7_get F a0 a1 a2 S = some R) : G X RX7 cX7_get 4 (some .int) 2 (some (.int R.1)) R.2 0 [(0, .ref (X.1 + 0)), (1, .int a0), (2, .int a1), (3, .int a2)] [] S := by
  unfold fX7_get at h
  refine g_aload_n dX7_get_0 0 rfl rfl ?_
  refine g_iload_n dX7_get_1 1 rfl rfl ?_
  refine g_iload_n dX7_get_2 2 rfl rfl ?_
  refine g_iload_n dX7_get_3 3 rfl rfl ?_
  obtain ⟨q1, hq1, h⟩ := gb h
  refine g_callVi [.int a0, .int a1, .int a2] [] dX7_get_4 mk_X7_268 so_0 (ctX7_refusedItem hq1) rfl (by decide) rfl (Nat.le_of_ble_eq_true rfl) ?_
  refine g_if_eq (tgt := 16) dX7_get_7 (by decide) (fun hc2 => ?_) (fun hc2 => ?_)
  · replace h := git hc2 h
    refine g_aload_n dX7_get_16 0 rfl rfl ?_
    refine g_getr dX7_get_17 lk_X7_57 sf_0_6 ?_
    refine g_iload_n dX7_get_20 1 rfl rfl ?_
    obtain ⟨hv3, h⟩ := gchk h
    refine g_aald4 dX7_get_21 sa_42 hv3 ?_
    refine g_getr dX7_get_22 lk_X7_276 (sht_0 (sht_at hv3)) ?_
    refine g_iload_n dX7_get_25 3 rfl rfl ?_
    obtain ⟨hv4, h⟩ := gchk h
    refine g_iald dX7_get_26 (sht_a1 (sht_at hv3)) hv4 ?_
    obtain rfl := Option.some.inj h
    exact g_iret dX7_get_27 rfl
  · replace h := gif hc2 h
    refine g_ldcw dX7_get_10 ck_X7_275 ?_
    refine g_goto (tgt := 27) dX7_get_13 (by decide) ?_
    obtain rfl := Option.some.inj h
    exact g_iret dX7_get_27 rfl
theorem ctX7_get {X : gX} {F : Nat} {R : Int32 × gS} {a0 : Int32} {a1 : Int32} {a2 : Int32} {S : gS} (h : fX7_get F a0 a1 a2 S = some R) : g_C X yX7_get cX7_get 4 (some .int) 2 [.ref (X.1 + 0), .int a0, .int a1, .int a2] S (some (.int R.1)) R.2 :=
  g_met (by decide) (Nat.le_of_ble_eq_true rfl) (fX7_get_ok h)
noncomputable def bX7_copy_41 (F : Nat) (S : gS) : Option (Int32 × gS) := (fX7_found F (1 : Int32) S).bind (fun q1 : Int32 × gS => some (q1.1, q1.2))
set_option maxRecDepth 20000 in
theorem bX7_copy_41_ok {X : gX} {F : Nat} {R : Int32 × gS} {S : gS} (h : bX7_copy_41 F S = some R) : G X RX7 cX7_copy 6 (some .int) 1 (some (.int R.1)) R.2 41 [(0, .ref (X.1 + 0))] [] S := by
  unfold bX7_copy_41 at h
  refine g_aload_n dX7_copy_41 0 rfl rfl ?_
  refine g_iconst (v := 1) dX7_copy_42 (by decide) ?_
  obtain ⟨q1, hq1, h⟩ := gb h
  refine g_callVi [.int (1 : Int32)] [] dX7_copy_43 mk_X7_144 so_0 (ctX7_found hq1) rfl (by decide) rfl (Nat.le_of_ble_eq_true rfl) ?_
  obtain rfl := Option.some.inj h
  exact g_iret dX7_copy_46 rfl
noncomputable def bX7_copy_105 (F : Nat) (S : gS) : Option (Int32 × gS) := (fX7_found F (2 : Int32) S).bind (fun q1 : Int32 × gS => some (q1.1, q1.2))
set_option maxRecDepth 20000 in
theorem bX7_copy_105_ok {X : gX} {F : Nat} {R : Int32 × gS} {S : gS} (h : bX7_copy_105 F S = some R) : G X RX7 cX7_copy 6 (some .int) 1 (some (.int R.1)) R.2 105 [(0, .ref (X.1 + 0))] [] S := by
  unfold bX7_copy_105 at h
  refine g_aload_n dX7_copy_105 0 rfl rfl ?_
  refine g_iconst (v := 2) dX7_copy_106 (by decide) ?_
  obtain ⟨q1, hq1, h⟩ := gb h
  refine g_callVi [.int (2 : Int32)] [] dX7_copy_107 mk_X7_144 so_0 (ctX7_found hq1) rfl (by decide) rfl (Nat.le_of_ble_eq_true rfl) ?_
  obtain rfl := Option.some.inj h
  exact g_iret dX7_copy_110 rfl
noncomputable def fX7_copy (F : Nat) (a0 : Int32) (a1 : Int32) (a2 : Int32) (a3 : Int32) (a4 : Int32) (S : gS) : Option (Int32 × gS) := (fX7_isSheet F a0 S).bind (fun q1 : Int32 × gS => if q1.1 = 0 then (some ((-2 : Int32), q1.2)) else ((fX7_isSheet F a2 q1.2).bind (fun q3 : Int32 × gS => if q3.1 = 0 then (some ((-2 : Int32), q3.2)) else (g_chk a0 4 ((fX5_isLost F (43 + 2 * (a0).toNatClampNeg) q3.2).bind (fun q6 : Int32 × gS => if q6.1 = 0 then (g_chk a2 4 ((fX5_isLost F (43 + 2 * (a2).toNatClampNeg) q6.2).bind (fun q9 : Int32 × gS => if q9.1 = 0 then (g_chk a0 4 (g_chk a2 4 (if (g_I q9.2 (43 + 2 * (a0).toNatClampNeg) 1) = (g_I q9.2 (43 + 2 * (a2).toNatClampNeg) 1) then (g_chk a0 4 ((fX5_holds F (43 + 2 * (a0).toNatClampNeg) a1 a4 q9.2).bind (fun q15 : Int32 × gS => if q15.1 = 0 then (bX7_copy_105 F q15.2) else (g_chk a2 4 ((fX5_holds F (43 + 2 * (a2).toNatClampNeg) a3 a4 q15.2).bind (fun q18 : Int32 × gS => if q18.1 = 0 then (bX7_copy_105 F q18.2) else (g_chk a0 4 (g_chk a2 4 (g_cpyOk a1 a3 a4 64 64 (gl (g_cpyI q18.2 (((43 + 2 * (a0).toNatClampNeg)) + 1) (((43 + 2 * (a2).toNatClampNeg)) + 1) (a1).toNatClampNeg (a3).toNatClampNeg (a4).toNatClampNeg) (fun S23 : gS => some ((1 : Int32), S23)))))))))))) else ((fX7_found F (4 : Int32) q9.2).bind (fun q24 : Int32 × gS => some (q24.1, q24.2)))))) else (bX7_copy_41 F q9.2)))) else (bX7_copy_41 F q6.2)))))))
set_option maxRecDepth 20000 in
theorem fX7_copy_ok {X : gX} {F : Nat} {R : Int32 × gS} {a0 : Int32} {a1 : Int32} {a2 : Int32} {a3 : Int32} {a4 : Int32} {S : gS} (h : fX7_copy F a0 a1 a2 a3 a4 S = some R) : G X RX7 cX7_copy 6 (some .int) 1 (some (.int R.1)) R.2 0 [(0, .ref (X.1 + 0)), (1, .int a0), (2, .int a1), (3, .int a2), (4, .int a3), (5, .int a4)] [] S := by
  unfold fX7_copy at h
  refine g_iload_n dX7_copy_0 1 rfl rfl ?_
  obtain ⟨q1, hq1, h⟩ := gb h
  refine g_callSi [.int a0] [] dX7_copy_1 mk_X7_137 (ctX7_isSheet hq1) rfl (by decide) rfl (Nat.le_of_ble_eq_true rfl) ?_
  refine g_if_eq (tgt := 14) dX7_copy_4 (by decide) (fun hc2 => ?_) (fun hc2 => ?_)
  · replace h := git hc2 h
    refine g_bipush (v := -2) dX7_copy_14 (by decide) ?_
    obtain rfl := Option.some.inj h
    exact g_iret dX7_copy_16 rfl
  · replace h := gif hc2 h
    refine g_iload_n dX7_copy_7 3 rfl rfl ?_
    obtain ⟨q3, hq3, h⟩ := gb h
    refine g_callSi [.int a2] [] dX7_copy_8 mk_X7_137 (ctX7_isSheet hq3) rfl (by decide) rfl (Nat.le_of_ble_eq_true rfl) ?_
    refine g_if_ne (tgt := 17) dX7_copy_11 (by decide) (fun hc4 => ?_) (fun hc4 => ?_)
    · replace h := gif hc4 h
      refine g_aload_n dX7_copy_17 0 rfl rfl ?_
      refine g_getr dX7_copy_18 lk_X7_57 sf_0_6 ?_
      refine g_iload_n dX7_copy_21 1 rfl rfl ?_
      obtain ⟨hv5, h⟩ := gchk h
      refine g_aald4 dX7_copy_22 sa_42 hv5 ?_
      obtain ⟨q6, hq6, h⟩ := gb h
      refine g_callVi [] [] dX7_copy_23 mk_X7_140 (sht_o (sht_at hv5)) (ctX5_isLost (sht_at hv5) hq6) rfl (by decide) rfl (Nat.le_of_ble_eq_true rfl) ?_
      refine g_if_ne (tgt := 41) dX7_copy_26 (by decide) (fun hc7 => ?_) (fun hc7 => ?_)
      · replace h := gif hc7 h
        refine g_sub [0] rfl ?_
        exact bX7_copy_41_ok h
      · replace h := git hc7 h
        refine g_aload_n dX7_copy_29 0 rfl rfl ?_
        refine g_getr dX7_copy_30 lk_X7_57 sf_0_6 ?_
        refine g_iload_n dX7_copy_33 3 rfl rfl ?_
        obtain ⟨hv8, h⟩ := gchk h
        refine g_aald4 dX7_copy_34 sa_42 hv8 ?_
        obtain ⟨q9, hq9, h⟩ := gb h
        refine g_callVi [] [] dX7_copy_35 mk_X7_140 (sht_o (sht_at hv8)) (ctX5_isLost (sht_at hv8) hq9) rfl (by decide) rfl (Nat.le_of_ble_eq_true rfl) ?_
        refine g_if_eq (tgt := 47) dX7_copy_38 (by decide) (fun hc10 => ?_) (fun hc10 => ?_)
        · replace h := git hc10 h
          refine g_aload_n dX7_copy_47 0 rfl rfl ?_
          refine g_getr dX7_copy_48 lk_X7_57 sf_0_6 ?_
          refine g_iload_n dX7_copy_51 1 rfl rfl ?_
          obtain ⟨hv11, h⟩ := gchk h
          refine g_aald4 dX7_copy_52 sa_42 hv11 ?_
          refine g_geti dX7_copy_53 lk_X7_279 (sht_1 (sht_at hv11)) ?_
          refine g_aload_n dX7_copy_56 0 rfl rfl ?_
          refine g_getr dX7_copy_57 lk_X7_57 sf_0_6 ?_
          refine g_iload_n dX7_copy_60 3 rfl rfl ?_
          obtain ⟨hv12, h⟩ := gchk h
          refine g_aald4 dX7_copy_61 sa_42 hv12 ?_
          refine g_geti dX7_copy_62 lk_X7_279 (sht_1 (sht_at hv12)) ?_
          refine g_icmp_eq (tgt := 74) dX7_copy_65 (by decide) (fun hc13 => ?_) (fun hc13 => ?_)
          · replace h := git hc13 h
            refine g_aload_n dX7_copy_74 0 rfl rfl ?_
            refine g_getr dX7_copy_75 lk_X7_57 sf_0_6 ?_
            refine g_iload_n dX7_copy_78 1 rfl rfl ?_
            obtain ⟨hv14, h⟩ := gchk h
            refine g_aald4 dX7_copy_79 sa_42 hv14 ?_
            refine g_iload_n dX7_copy_80 2 rfl rfl ?_
            refine g_iload dX7_copy_81 5 rfl ?_
            obtain ⟨q15, hq15, h⟩ := gb h
            refine g_callVi [.int a1, .int a4] [] dX7_copy_83 mk_X7_282 (sht_o (sht_at hv14)) (ctX5_holds (sht_at hv14) hq15) rfl (by decide) rfl (Nat.le_of_ble_eq_true rfl) ?_
            refine g_if_eq (tgt := 105) dX7_copy_86 (by decide) (fun hc16 => ?_) (fun hc16 => ?_)
            · replace h := git hc16 h
              refine g_sub [0] rfl ?_
              exact bX7_copy_105_ok h
            · replace h := gif hc16 h
              refine g_aload_n dX7_copy_89 0 rfl rfl ?_
              refine g_getr dX7_copy_90 lk_X7_57 sf_0_6 ?_
              refine g_iload_n dX7_copy_93 3 rfl rfl ?_
              obtain ⟨hv17, h⟩ := gchk h
              refine g_aald4 dX7_copy_94 sa_42 hv17 ?_
              refine g_iload dX7_copy_95 4 rfl ?_
              refine g_iload dX7_copy_97 5 rfl ?_
              obtain ⟨q18, hq18, h⟩ := gb h
              refine g_callVi [.int a3, .int a4] [] dX7_copy_99 mk_X7_282 (sht_o (sht_at hv17)) (ctX5_holds (sht_at hv17) hq18) rfl (by decide) rfl (Nat.le_of_ble_eq_true rfl) ?_
              refine g_if_ne (tgt := 111) dX7_copy_102 (by decide) (fun hc19 => ?_) (fun hc19 => ?_)
              · replace h := gif hc19 h
                refine g_aload_n dX7_copy_111 0 rfl rfl ?_
                refine g_getr dX7_copy_112 lk_X7_57 sf_0_6 ?_
                refine g_iload_n dX7_copy_115 1 rfl rfl ?_
                obtain ⟨hv20, h⟩ := gchk h
                refine g_aald4 dX7_copy_116 sa_42 hv20 ?_
                refine g_getr dX7_copy_117 lk_X7_276 (sht_0 (sht_at hv20)) ?_
                refine g_iload_n dX7_copy_120 2 rfl rfl ?_
                refine g_aload_n dX7_copy_121 0 rfl rfl ?_
                refine g_getr dX7_copy_122 lk_X7_57 sf_0_6 ?_
                refine g_iload_n dX7_copy_125 3 rfl rfl ?_
                obtain ⟨hv21, h⟩ := gchk h
                refine g_aald4 dX7_copy_126 sa_42 hv21 ?_
                refine g_getr dX7_copy_127 lk_X7_276 (sht_0 (sht_at hv21)) ?_
                refine g_iload dX7_copy_130 4 rfl ?_
                refine g_iload dX7_copy_132 5 rfl ?_
                obtain ⟨hv22, h⟩ := gcpy h
                obtain ⟨S23, eS23, h⟩ := gle h
                refine g_cpy dX7_copy_134 ac_X7_285 (sht_a1 (sht_at hv20)) (sht_a1 (sht_at hv21)) hv22 (by decide) (by decide) eS23 ?_
                refine g_iconst (v := 1) dX7_copy_137 (by decide) ?_
                obtain rfl := Option.some.inj h
                exact g_iret dX7_copy_138 rfl
              · replace h := git hc19 h
                refine g_sub [0] rfl ?_
                exact bX7_copy_105_ok h
          · replace h := gif hc13 h
            refine g_aload_n dX7_copy_68 0 rfl rfl ?_
            refine g_iconst (v := 4) dX7_copy_69 (by decide) ?_
            obtain ⟨q24, hq24, h⟩ := gb h
            refine g_callVi [.int (4 : Int32)] [] dX7_copy_70 mk_X7_144 so_0 (ctX7_found hq24) rfl (by decide) rfl (Nat.le_of_ble_eq_true rfl) ?_
            obtain rfl := Option.some.inj h
            exact g_iret dX7_copy_73 rfl
        · replace h := gif hc10 h
          refine g_sub [0] rfl ?_
          exact bX7_copy_41_ok h
    · replace h := git hc4 h
      refine g_bipush (v := -2) dX7_copy_14 (by decide) ?_
      obtain rfl := Option.some.inj h
      exact g_iret dX7_copy_16 rfl
theorem ctX7_copy {X : gX} {F : Nat} {R : Int32 × gS} {a0 : Int32} {a1 : Int32} {a2 : Int32} {a3 : Int32} {a4 : Int32} {S : gS} (h : fX7_copy F a0 a1 a2 a3 a4 S = some R) : g_C X yX7_copy cX7_copy 6 (some .int) 1 [.ref (X.1 + 0), .int a0, .int a1, .int a2, .int a3, .int a4] S (some (.int R.1)) R.2 :=
  g_met (by decide) (Nat.le_of_ble_eq_true rfl) (fX7_copy_ok h)
noncomputable def bX7_write_36 (F : Nat) (k36 : (Int32 × Int32 × gS) → Option (Int32 × gS)) (x1 : Int32) (x2 : Int32) (S : gS) : Option (Int32 × gS) := g_chk x1 4 (if (g_I S (43 + 2 * (x1).toNatClampNeg) 2) ≤ x2 then (g_chk x1 4 (some ((g_I S (43 + 2 * (x1).toNatClampNeg) 2), S))) else (g_chk x1 4 (g_chk x2 64 ((fX5_put F (43 + 2 * (x1).toNatClampNeg) x2 (g_I S 18 (x2).toNatClampNeg) S).bind (fun q6 : gS => gl (x2 + 1) (fun v7 : Int32 => k36 (x1, v7, q6)))))))
set_option maxRecDepth 20000 in
theorem bX7_write_36_ok {X : gX} {F : Nat} {k36 : (Int32 × Int32 × gS) → Option (Int32 × gS)} {R : Int32 × gS} (H36 : ∀ s : Int32 × Int32 × gS, k36 s = some R → G X RX7 cX7_write 3 (some .int) 5 (some (.int R.1)) R.2 36 [(0, .ref (X.1 + 0)), (1, .int s.1), (2, .int s.2.1)] [] s.2.2) {x1 : Int32} {x2 : Int32} {S : gS} (h : bX7_write_36 F k36 x1 x2 S = some R) : G X RX7 cX7_write 3 (some .int) 5 (some (.int R.1)) R.2 36 [(0, .ref (X.1 + 0)), (1, .int x1), (2, .int x2)] [] S := by
  unfold bX7_write_36 at h
  refine g_iload_n dX7_write_36 2 rfl rfl ?_
  refine g_aload_n dX7_write_37 0 rfl rfl ?_
  refine g_getr dX7_write_38 lk_X7_57 sf_0_6 ?_
  refine g_iload_n dX7_write_41 1 rfl rfl ?_
  obtain ⟨hv1, h⟩ := gchk h
  refine g_aald4 dX7_write_42 sa_42 hv1 ?_
  refine g_geti dX7_write_43 lk_X7_265 (sht_2 (sht_at hv1)) ?_
  refine g_icmp_ge (tgt := 74) dX7_write_46 (by decide) (fun hc2 => ?_) (fun hc2 => ?_)
  · replace h := git hc2 h
    refine g_aload_n dX7_write_74 0 rfl rfl ?_
    refine g_getr dX7_write_75 lk_X7_57 sf_0_6 ?_
    refine g_iload_n dX7_write_78 1 rfl rfl ?_
    obtain ⟨hv3, h⟩ := gchk h
    refine g_aald4 dX7_write_79 sa_42 hv3 ?_
    refine g_geti dX7_write_80 lk_X7_265 (sht_2 (sht_at hv3)) ?_
    obtain rfl := Option.some.inj h
    exact g_iret dX7_write_83 rfl
  · replace h := gif hc2 h
    refine g_aload_n dX7_write_49 0 rfl rfl ?_
    refine g_getr dX7_write_50 lk_X7_57 sf_0_6 ?_
    refine g_iload_n dX7_write_53 1 rfl rfl ?_
    obtain ⟨hv4, h⟩ := gchk h
    refine g_aald4 dX7_write_54 sa_42 hv4 ?_
    refine g_iload_n dX7_write_55 2 rfl rfl ?_
    refine g_aload_n dX7_write_56 0 rfl rfl ?_
    refine g_getr dX7_write_57 lk_X7_42 sf_0_4 ?_
    refine g_getr dX7_write_60 lk_X7_291 sf_16_3 ?_
    refine g_iload_n dX7_write_63 2 rfl rfl ?_
    obtain ⟨hv5, h⟩ := gchk h
    refine g_iald dX7_write_64 sa_18 hv5 ?_
    obtain ⟨q6, hq6, h⟩ := gb h
    refine g_callVv [.int x2, .int (g_I S 18 (x2).toNatClampNeg)] [] dX7_write_65 mk_X7_272 (sht_o (sht_at hv4)) (ctX5_put (sht_at hv4) hq6) rfl (by decide) rfl (Nat.le_of_ble_eq_true rfl) ?_
    obtain ⟨v7, ev7, h⟩ := gle h
    refine g_iinc (q := 2) (v := v7) (lv' := [(2, .int v7), (0, .ref (X.1 + 0)), (1, .int x1)]) dX7_write_68 rfl (by rw [← ev7]; rfl) (by decide) rfl ?_
    refine g_goto (tgt := 36) dX7_write_71 (by decide) ?_
    refine g_sub [1, 2, 0] rfl ?_
    exact H36 (x1, v7, q6) h
noncomputable def bX7_write_36l (F : Nat) : Nat → (Int32 × Int32 × gS) → Option (Int32 × gS) := g_fix (fun k36 s => bX7_write_36 F k36 s.1 s.2.1 s.2.2)
theorem bX7_write_36l_ok {X : gX} {F : Nat} {R : Int32 × gS} : ∀ (n : Nat) (s : Int32 × Int32 × gS), bX7_write_36l F n s = some R → G X RX7 cX7_write 3 (some .int) 5 (some (.int R.1)) R.2 36 [(0, .ref (X.1 + 0)), (1, .int s.1), (2, .int s.2.1)] [] s.2.2 := by
  intro n
  induction n with
  | zero => intro s h; cases h
  | succ n ih => intro s h; exact bX7_write_36_ok (F := F) ih h
noncomputable def fX7_write (F : Nat) (a0 : Int32) (S : gS) : Option (Int32 × gS) := (fX7_isSheet F a0 S).bind (fun q1 : Int32 × gS => if q1.1 = 0 then (some ((-2 : Int32), q1.2)) else (g_chk a0 4 ((fX5_isLost F (43 + 2 * (a0).toNatClampNeg) q1.2).bind (fun q4 : Int32 × gS => if q4.1 = 0 then ((fX7_tryMorning F (-1 : Int32) (-1 : Int32) q4.2).bind (fun q6 : gS => bX7_write_36l F F (a0, (0 : Int32), q6))) else ((fX7_found F (1 : Int32) q4.2).bind (fun q7 : Int32 × gS => some (q7.1, q7.2)))))))
set_option maxRecDepth 20000 in
theorem fX7_write_ok {X : gX} {F : Nat} {R : Int32 × gS} {a0 : Int32} {S : gS} (h : fX7_write F a0 S = some R) : G X RX7 cX7_write 3 (some .int) 5 (some (.int R.1)) R.2 0 [(0, .ref (X.1 + 0)), (1, .int a0)] [] S := by
  unfold fX7_write at h
  refine g_iload_n dX7_write_0 1 rfl rfl ?_
  obtain ⟨q1, hq1, h⟩ := gb h
  refine g_callSi [.int a0] [] dX7_write_1 mk_X7_137 (ctX7_isSheet hq1) rfl (by decide) rfl (Nat.le_of_ble_eq_true rfl) ?_
  refine g_if_ne (tgt := 10) dX7_write_4 (by decide) (fun hc2 => ?_) (fun hc2 => ?_)
  · replace h := gif hc2 h
    refine g_aload_n dX7_write_10 0 rfl rfl ?_
    refine g_getr dX7_write_11 lk_X7_57 sf_0_6 ?_
    refine g_iload_n dX7_write_14 1 rfl rfl ?_
    obtain ⟨hv3, h⟩ := gchk h
    refine g_aald4 dX7_write_15 sa_42 hv3 ?_
    obtain ⟨q4, hq4, h⟩ := gb h
    refine g_callVi [] [] dX7_write_16 mk_X7_140 (sht_o (sht_at hv3)) (ctX5_isLost (sht_at hv3) hq4) rfl (by decide) rfl (Nat.le_of_ble_eq_true rfl) ?_
    refine g_if_eq (tgt := 28) dX7_write_19 (by decide) (fun hc5 => ?_) (fun hc5 => ?_)
    · replace h := git hc5 h
      refine g_aload_n dX7_write_28 0 rfl rfl ?_
      refine g_iconst (v := -1) dX7_write_29 (by decide) ?_
      refine g_iconst (v := -1) dX7_write_30 (by decide) ?_
      obtain ⟨q6, hq6, h⟩ := gb h
      refine g_callVv [.int (-1 : Int32), .int (-1 : Int32)] [] dX7_write_31 mk_X7_193 so_0 (ctX7_tryMorning hq6) rfl (by decide) rfl (Nat.le_of_ble_eq_true rfl) ?_
      refine g_iconst (v := 0) dX7_write_34 (by decide) ?_
      refine g_istore_n (lv' := [(2, .int (0 : Int32)), (0, .ref (X.1 + 0)), (1, .int a0)]) dX7_write_35 rfl rfl (by decide) rfl ?_
      refine g_sub [1, 2, 0] rfl ?_
      exact bX7_write_36l_ok F (a0, (0 : Int32), q6) h
    · replace h := gif hc5 h
      refine g_aload_n dX7_write_22 0 rfl rfl ?_
      refine g_iconst (v := 1) dX7_write_23 (by decide) ?_
      obtain ⟨q7, hq7, h⟩ := gb h
      refine g_callVi [.int (1 : Int32)] [] dX7_write_24 mk_X7_144 so_0 (ctX7_found hq7) rfl (by decide) rfl (Nat.le_of_ble_eq_true rfl) ?_
      obtain rfl := Option.some.inj h
      exact g_iret dX7_write_27 rfl
  · replace h := git hc2 h
    refine g_bipush (v := -2) dX7_write_7 (by decide) ?_
    obtain rfl := Option.some.inj h
    exact g_iret dX7_write_9 rfl
theorem ctX7_write {X : gX} {F : Nat} {R : Int32 × gS} {a0 : Int32} {S : gS} (h : fX7_write F a0 S = some R) : g_C X yX7_write cX7_write 3 (some .int) 5 [.ref (X.1 + 0), .int a0] S (some (.int R.1)) R.2 :=
  g_met (by decide) (Nat.le_of_ble_eq_true rfl) (fX7_write_ok h)
noncomputable def bX7_sum_10 (F : Nat) (ar : Nat) (k10 : (Int32 × Int32 × Int32 × gS) → Option (Int32 × gS)) (x1 : Int32) (x3 : Int32) (x4 : Int32) (S : gS) : Option (Int32 × gS) := if x3 ≤ x4 then (some (x1, S)) else (g_chk x4 64 (gl (g_I S ar (x4).toNatClampNeg) (fun v3 : Int32 => gl (x1 + v3) (fun v4 : Int32 => gl (x4 + 1) (fun v5 : Int32 => k10 (v4, x3, v5, S))))))
set_option maxRecDepth 20000 in
theorem bX7_sum_10_ok {X : gX} {F : Nat} {ar : Nat} (har : g_isA ar 0 64) {k10 : (Int32 × Int32 × Int32 × gS) → Option (Int32 × gS)} {R : Int32 × gS} (H10 : ∀ s : Int32 × Int32 × Int32 × gS, k10 s = some R → G X RX7 cX7_sum 6 (some .int) 0 (some (.int R.1)) R.2 10 [(1, .int s.1), (2, .ref (X.1 + ar)), (3, .int s.2.1), (4, .int s.2.2.1)] [] s.2.2.2) {x1 : Int32} {x3 : Int32} {x4 : Int32} {S : gS} (h : bX7_sum_10 F ar k10 x1 x3 x4 S = some R) : G X RX7 cX7_sum 6 (some .int) 0 (some (.int R.1)) R.2 10 [(1, .int x1), (2, .ref (X.1 + ar)), (3, .int x3), (4, .int x4)] [] S := by
  unfold bX7_sum_10 at h
  refine g_iload dX7_sum_10 3 rfl ?_
  refine g_iload_n dX7_sum_12 2 rfl rfl ?_
  refine g_icmp_ge (tgt := 33) dX7_sum_13 (by decide) (fun hc1 => ?_) (fun hc1 => ?_)
  · replace h := git hc1 h
    refine g_iload_n dX7_sum_33 0 rfl rfl ?_
    obtain rfl := Option.some.inj h
    exact g_iret dX7_sum_34 rfl
  · replace h := gif hc1 h
    refine g_aload_n dX7_sum_16 1 rfl rfl ?_
    refine g_iload dX7_sum_17 3 rfl ?_
    obtain ⟨hv2, h⟩ := gchk h
    refine g_iald dX7_sum_19 har hv2 ?_
    obtain ⟨v3, ev3, h⟩ := gle h
    refine g_istore (lv' := [(5, .int v3), (1, .int x1), (2, .ref (X.1 + ar)), (3, .int x3), (4, .int x4)]) dX7_sum_20 ev3 (by decide) rfl ?_
    refine g_iload_n dX7_sum_22 1 rfl rfl ?_
    refine g_iload dX7_sum_23 0 rfl ?_
    refine g_iadd dX7_sum_25 ?_
    obtain ⟨v4, ev4, h⟩ := gle h
    refine g_istore_n (lv' := [(1, .int v4), (5, .int v3), (2, .ref (X.1 + ar)), (3, .int x3), (4, .int x4)]) dX7_sum_26 ev4 rfl (by decide) rfl ?_
    obtain ⟨v5, ev5, h⟩ := gle h
    refine g_iinc (q := 4) (v := v5) (lv' := [(4, .int v5), (1, .int v4), (5, .int v3), (2, .ref (X.1 + ar)), (3, .int x3)]) dX7_sum_27 rfl (by rw [← ev5]; rfl) (by decide) rfl ?_
    refine g_goto (tgt := 10) dX7_sum_30 (by decide) ?_
    refine g_sub [1, 3, 4, 0] rfl ?_
    exact H10 (v4, x3, v5, S) h
noncomputable def bX7_sum_10l (F : Nat) (ar : Nat) : Nat → (Int32 × Int32 × Int32 × gS) → Option (Int32 × gS) := g_fix (fun k10 s => bX7_sum_10 F ar k10 s.1 s.2.1 s.2.2.1 s.2.2.2)
theorem bX7_sum_10l_ok {X : gX} {F : Nat} {ar : Nat} (har : g_isA ar 0 64) {R : Int32 × gS} : ∀ (n : Nat) (s : Int32 × Int32 × Int32 × gS), bX7_sum_10l F ar n s = some R → G X RX7 cX7_sum 6 (some .int) 0 (some (.int R.1)) R.2 10 [(1, .int s.1), (2, .ref (X.1 + ar)), (3, .int s.2.1), (4, .int s.2.2.1)] [] s.2.2.2 := by
  intro n
  induction n with
  | zero => intro s h; cases h
  | succ n ih => intro s h; exact bX7_sum_10_ok (F := F) har ih h
noncomputable def fX7_sum (F : Nat) (ar : Nat) (S : gS) : Option (Int32 × gS) := gl (Int32.ofNat 64) (fun v1 : Int32 => bX7_sum_10l F ar F ((0 : Int32), v1, (0 : Int32), S))
set_option maxRecDepth 20000 in
theorem fX7_sum_ok {X : gX} {F : Nat} {ar : Nat} (har : g_isA ar 0 64) {R : Int32 × gS} {S : gS} (h : fX7_sum F ar S = some R) : G X RX7 cX7_sum 6 (some .int) 0 (some (.int R.1)) R.2 0 [(0, .ref (X.1 + ar))] [] S := by
  unfold fX7_sum at h
  refine g_iconst (v := 0) dX7_sum_0 (by decide) ?_
  refine g_istore_n (lv' := [(1, .int (0 : Int32)), (0, .ref (X.1 + ar))]) dX7_sum_1 rfl rfl (by decide) rfl ?_
  refine g_aload_n dX7_sum_2 1 rfl rfl ?_
  refine g_astore_n (lv' := [(2, .ref (X.1 + ar)), (1, .int (0 : Int32)), (0, .ref (X.1 + ar))]) dX7_sum_3 rfl rfl (by decide) rfl ?_
  refine g_aload_n dX7_sum_4 0 rfl rfl ?_
  refine g_alen dX7_sum_5 (by decide) har ?_
  obtain ⟨v1, ev1, h⟩ := gle h
  refine g_istore_n (lv' := [(3, .int v1), (2, .ref (X.1 + ar)), (1, .int (0 : Int32)), (0, .ref (X.1 + ar))]) dX7_sum_6 ev1 rfl (by decide) rfl ?_
  refine g_iconst (v := 0) dX7_sum_7 (by decide) ?_
  refine g_istore (lv' := [(4, .int (0 : Int32)), (3, .int v1), (2, .ref (X.1 + ar)), (1, .int (0 : Int32)), (0, .ref (X.1 + ar))]) dX7_sum_8 rfl (by decide) rfl ?_
  refine g_sub [3, 2, 1, 0] rfl ?_
  exact bX7_sum_10l_ok har F ((0 : Int32), v1, (0 : Int32), S) h
theorem ctX7_sum {X : gX} {F : Nat} {ar : Nat} (har : g_isA ar 0 64) {R : Int32 × gS} {S : gS} (h : fX7_sum F ar S = some R) : g_C X yX7_sum cX7_sum 6 (some .int) 0 [.ref (X.1 + ar)] S (some (.int R.1)) R.2 :=
  g_met (by decide) (Nat.le_of_ble_eq_true rfl) (fX7_sum_ok har h)
noncomputable def fX7_count (F : Nat) (a0 : Int32) (S : gS) : Option (Int32 × gS) := if a0 = 0 then (some ((g_I S 1 1), S)) else (if a0 = 1 then ((fJ13_bitCount_95d88 F (g_J S 1 3) S).bind (fun q3 : Int32 × gS => some (q3.1, q3.2))) else (if a0 = 2 then ((fJ13_bitCount_95d88 F (g_J S 1 4) S).bind (fun q5 : Int32 × gS => some (q5.1, q5.2))) else (if a0 = 3 then ((fX7_sum F 4 S).bind (fun q7 : Int32 × gS => some (q7.1, q7.2))) else (if a0 = 4 then ((fX7_sum F 5 S).bind (fun q9 : Int32 × gS => some (q9.1, q9.2))) else (if a0 = 5 then ((fX7_sum F 6 S).bind (fun q11 : Int32 × gS => some (q11.1, q11.2))) else (if a0 = 6 then ((fX7_sum F 7 S).bind (fun q13 : Int32 × gS => some (q13.1, q13.2))) else (if a0 = 7 then (some ((g_I S 9 2), S)) else (if a0 = 8 then (some ((g_I S 0 7), S)) else (some ((-2 : Int32), S))))))))))
set_option maxRecDepth 20000 in
theorem fX7_count_ok {X : gX} {F : Nat} {R : Int32 × gS} {a0 : Int32} {S : gS} (h : fX7_count F a0 S = some R) : G X RX7 cX7_count 2 (some .int) 1 (some (.int R.1)) R.2 0 [(0, .ref (X.1 + 0)), (1, .int a0)] [] S := by
  unfold fX7_count at h
  refine g_iload_n dX7_count_0 1 rfl rfl ?_
  by_cases hc1 : a0 = 0
  · replace h := git hc1 h
    refine g_tabIn (off := 51) (tgt := 52) dX7_count_1 (by have z := hc1; (try unfold g_I at z); rw [z]; decide) (by have z := hc1; (try unfold g_I at z); rw [z]; decide) (by have z := hc1; (try unfold g_I at z); rw [z]; rfl) (by decide) ?_
    refine g_aload_n dX7_count_52 0 rfl rfl ?_
    refine g_getr dX7_count_53 lk_X7_10 sf_0_0 ?_
    refine g_geti dX7_count_56 lk_X7_82 sf_1_1 ?_
    obtain rfl := Option.some.inj h
    exact g_iret dX7_count_59 rfl
  · replace h := gif hc1 h
    by_cases hc2 : a0 = 1
    · replace h := git hc2 h
      refine g_tabIn (off := 59) (tgt := 60) dX7_count_1 (by have z := hc2; (try unfold g_I at z); rw [z]; decide) (by have z := hc2; (try unfold g_I at z); rw [z]; decide) (by have z := hc2; (try unfold g_I at z); rw [z]; rfl) (by decide) ?_
      refine g_aload_n dX7_count_60 0 rfl rfl ?_
      refine g_getr dX7_count_61 lk_X7_10 sf_0_0 ?_
      refine g_getj dX7_count_64 lk_X7_111 sf_1_3 ?_
      obtain ⟨q3, hq3, h⟩ := gb h
      refine g_callSi [.long (g_J S 1 3)] [] dX7_count_67 mk_X7_294 (ctJ13_bitCount_95d88 hq3) rfl (by decide) rfl (Nat.le_of_ble_eq_true rfl) ?_
      obtain rfl := Option.some.inj h
      exact g_iret dX7_count_70 rfl
    · replace h := gif hc2 h
      by_cases hc4 : a0 = 2
      · replace h := git hc4 h
        refine g_tabIn (off := 70) (tgt := 71) dX7_count_1 (by have z := hc4; (try unfold g_I at z); rw [z]; decide) (by have z := hc4; (try unfold g_I at z); rw [z]; decide) (by have z := hc4; (try unfold g_I at z); rw [z]; rfl) (by decide) ?_
        refine g_aload_n dX7_count_71 0 rfl rfl ?_
        refine g_getr dX7_count_72 lk_X7_10 sf_0_0 ?_
        refine g_getj dX7_count_75 lk_X7_158 sf_1_4 ?_
        obtain ⟨q5, hq5, h⟩ := gb h
        refine g_callSi [.long (g_J S 1 4)] [] dX7_count_78 mk_X7_294 (ctJ13_bitCount_95d88 hq5) rfl (by decide) rfl (Nat.le_of_ble_eq_true rfl) ?_
        obtain rfl := Option.some.inj h
        exact g_iret dX7_count_81 rfl
      · replace h := gif hc4 h
        by_cases hc6 : a0 = 3
        · replace h := git hc6 h
          refine g_tabIn (off := 81) (tgt := 82) dX7_count_1 (by have z := hc6; (try unfold g_I at z); rw [z]; decide) (by have z := hc6; (try unfold g_I at z); rw [z]; decide) (by have z := hc6; (try unfold g_I at z); rw [z]; rfl) (by decide) ?_
          refine g_aload_n dX7_count_82 0 rfl rfl ?_
          refine g_getr dX7_count_83 lk_X7_19 sf_0_1 ?_
          refine g_getr dX7_count_86 lk_X7_98 sf_3_0 ?_
          obtain ⟨q7, hq7, h⟩ := gb h
          refine g_callSi [.ref (X.1 + 4)] [] dX7_count_89 mk_X7_299 (ctX7_sum sa_4 hq7) rfl (by decide) rfl (Nat.le_of_ble_eq_true rfl) ?_
          obtain rfl := Option.some.inj h
          exact g_iret dX7_count_92 rfl
        · replace h := gif hc6 h
          by_cases hc8 : a0 = 4
          · replace h := git hc8 h
            refine g_tabIn (off := 92) (tgt := 93) dX7_count_1 (by have z := hc8; (try unfold g_I at z); rw [z]; decide) (by have z := hc8; (try unfold g_I at z); rw [z]; decide) (by have z := hc8; (try unfold g_I at z); rw [z]; rfl) (by decide) ?_
            refine g_aload_n dX7_count_93 0 rfl rfl ?_
            refine g_getr dX7_count_94 lk_X7_19 sf_0_1 ?_
            refine g_getr dX7_count_97 lk_X7_102 sf_3_1 ?_
            obtain ⟨q9, hq9, h⟩ := gb h
            refine g_callSi [.ref (X.1 + 5)] [] dX7_count_100 mk_X7_299 (ctX7_sum sa_5 hq9) rfl (by decide) rfl (Nat.le_of_ble_eq_true rfl) ?_
            obtain rfl := Option.some.inj h
            exact g_iret dX7_count_103 rfl
          · replace h := gif hc8 h
            by_cases hc10 : a0 = 5
            · replace h := git hc10 h
              refine g_tabIn (off := 103) (tgt := 104) dX7_count_1 (by have z := hc10; (try unfold g_I at z); rw [z]; decide) (by have z := hc10; (try unfold g_I at z); rw [z]; decide) (by have z := hc10; (try unfold g_I at z); rw [z]; rfl) (by decide) ?_
              refine g_aload_n dX7_count_104 0 rfl rfl ?_
              refine g_getr dX7_count_105 lk_X7_19 sf_0_1 ?_
              refine g_getr dX7_count_108 lk_X7_105 sf_3_2 ?_
              obtain ⟨q11, hq11, h⟩ := gb h
              refine g_callSi [.ref (X.1 + 6)] [] dX7_count_111 mk_X7_299 (ctX7_sum sa_6 hq11) rfl (by decide) rfl (Nat.le_of_ble_eq_true rfl) ?_
              obtain rfl := Option.some.inj h
              exact g_iret dX7_count_114 rfl
            · replace h := gif hc10 h
              by_cases hc12 : a0 = 6
              · replace h := git hc12 h
                refine g_tabIn (off := 114) (tgt := 115) dX7_count_1 (by have z := hc12; (try unfold g_I at z); rw [z]; decide) (by have z := hc12; (try unfold g_I at z); rw [z]; decide) (by have z := hc12; (try unfold g_I at z); rw [z]; rfl) (by decide) ?_
                refine g_aload_n dX7_count_115 0 rfl rfl ?_
                refine g_getr dX7_count_116 lk_X7_19 sf_0_1 ?_
                refine g_getr dX7_count_119 lk_X7_108 sf_3_3 ?_
                obtain ⟨q13, hq13, h⟩ := gb h
                refine g_callSi [.ref (X.1 + 7)] [] dX7_count_122 mk_X7_299 (ctX7_sum sa_7 hq13) rfl (by decide) rfl (Nat.le_of_ble_eq_true rfl) ?_
                obtain rfl := Option.some.inj h
                exact g_iret dX7_count_125 rfl
              · replace h := gif hc12 h
                by_cases hc14 : a0 = 7
                · replace h := git hc14 h
                  refine g_tabIn (off := 125) (tgt := 126) dX7_count_1 (by have z := hc14; (try unfold g_I at z); rw [z]; decide) (by have z := hc14; (try unfold g_I at z); rw [z]; decide) (by have z := hc14; (try unfold g_I at z); rw [z]; rfl) (by decide) ?_
                  refine g_aload_n dX7_count_126 0 rfl rfl ?_
                  refine g_getr dX7_count_127 lk_X7_26 sf_0_2 ?_
                  refine g_geti dX7_count_130 lk_X7_155 sf_9_2 ?_
                  obtain rfl := Option.some.inj h
                  exact g_iret dX7_count_133 rfl
                · replace h := gif hc14 h
                  by_cases hc15 : a0 = 8
                  · replace h := git hc15 h
                    refine g_tabIn (off := 133) (tgt := 134) dX7_count_1 (by have z := hc15; (try unfold g_I at z); rw [z]; decide) (by have z := hc15; (try unfold g_I at z); rw [z]; decide) (by have z := hc15; (try unfold g_I at z); rw [z]; rfl) (by decide) ?_
                    refine g_aload_n dX7_count_134 0 rfl rfl ?_
                    refine g_geti dX7_count_135 lk_X7_61 sf_0_7 ?_
                    obtain rfl := Option.some.inj h
                    exact g_iret dX7_count_138 rfl
                  · replace h := gif hc15 h
                    refine g_tabOut (tgt := 139) dX7_count_1 (g_tout (fun c h1 h2 => by have z0 := g_tne hc1; have z1 := g_tne hc2; have z2 := g_tne hc4; have z3 := g_tne hc6; have z4 := g_tne hc8; have z5 := g_tne hc10; have z6 := g_tne hc12; have z7 := g_tne hc14; have z8 := g_tne hc15; rw [show ((0 : Int32)).toInt = 0 from by decide] at z0; rw [show ((1 : Int32)).toInt = 1 from by decide] at z1; rw [show ((2 : Int32)).toInt = 2 from by decide] at z2; rw [show ((3 : Int32)).toInt = 3 from by decide] at z3; rw [show ((4 : Int32)).toInt = 4 from by decide] at z4; rw [show ((5 : Int32)).toInt = 5 from by decide] at z5; rw [show ((6 : Int32)).toInt = 6 from by decide] at z6; rw [show ((7 : Int32)).toInt = 7 from by decide] at z7; rw [show ((8 : Int32)).toInt = 8 from by decide] at z8; omega)) (by decide) ?_
                    refine g_bipush (v := -2) dX7_count_139 (by decide) ?_
                    obtain rfl := Option.some.inj h
                    exact g_iret dX7_count_141 rfl
theorem ctX7_count {X : gX} {F : Nat} {R : Int32 × gS} {a0 : Int32} {S : gS} (h : fX7_count F a0 S = some R) : g_C X yX7_count cX7_count 2 (some .int) 1 [.ref (X.1 + 0), .int a0] S (some (.int R.1)) R.2 :=
  g_met (by decide) (Nat.le_of_ble_eq_true rfl) (fX7_count_ok h)

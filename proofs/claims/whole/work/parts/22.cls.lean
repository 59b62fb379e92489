noncomputable def bX2_tryAll_n_130 (F : Nat) (k62 : (Int32 × Int32 × Int32 × gS) → Option (gS)) (x3 : Int32) (x5 : Int32) (S : gS) : Option (gS) := (fX2_advance F x3 S).bind (fun q1 : Int32 × gS => gl q1.1 (fun v2 : Int32 => gl (x5 + 1) (fun v3 : Int32 => k62 (x3, v2, v3, q1.2))))
set_option maxRecDepth 20000 in
theorem bX2_tryAll_n_130_ok {X : gX} {F : Nat} {k62 : (Int32 × Int32 × Int32 × gS) → Option (gS)} {R : gS} (H62 : ∀ s : Int32 × Int32 × Int32 × gS, k62 s = some R → G X RX2 cX2_tryAll 6 none 5 none R 62 [(0, .ref (X.1 + 19)), (2, .null), (3, .int s.1), (4, .int s.2.1), (5, .int s.2.2.1)] [] s.2.2.2) {x3 : Int32} {x5 : Int32} {S : gS} (h : bX2_tryAll_n_130 F k62 x3 x5 S = some R) : G X RX2 cX2_tryAll 6 none 5 none R 130 [(0, .ref (X.1 + 19)), (2, .null), (3, .int x3), (5, .int x5)] [] S := by
  unfold bX2_tryAll_n_130 at h
  refine g_aload_n dX2_tryAll_130 0 rfl rfl ?_
  refine g_iload_n dX2_tryAll_131 2 rfl rfl ?_
  obtain ⟨q1, hq1, h⟩ := gb h
  refine g_callVi [.int x3] [] dX2_tryAll_132 mk_X2_90 so_19 (ctX2_advance hq1) rfl (by decide) rfl (Nat.le_of_ble_eq_true rfl) ?_
  obtain ⟨v2, ev2, h⟩ := gle h
  refine g_istore (lv' := [(4, .int v2), (0, .ref (X.1 + 19)), (2, .null), (3, .int x3), (5, .int x5)]) dX2_tryAll_135 ev2 (by decide) rfl ?_
  obtain ⟨v3, ev3, h⟩ := gle h
  refine g_iinc (q := 4) (v := v3) (lv' := [(5, .int v3), (4, .int v2), (0, .ref (X.1 + 19)), (2, .null), (3, .int x3)]) dX2_tryAll_137 rfl (by rw [← ev3]; rfl) (by decide) rfl ?_
  refine g_goto (tgt := 62) dX2_tryAll_140 (by decide) ?_
  refine g_sub [2, 3, 4, 1, 0] rfl ?_
  exact H62 (x3, v2, v3, q1.2) h
noncomputable def bX2_tryAll_n_102 (F : Nat) (k62 : (Int32 × Int32 × Int32 × gS) → Option (gS)) (x3 : Int32) (x5 : Int32) (t0 : Int32) (t1 : Int32) (S : gS) : Option (gS) := (fX2_weigh F t1 t0 S).bind (fun q1 : gS => bX2_tryAll_n_130 F k62 x3 x5 q1)
set_option maxRecDepth 20000 in
theorem bX2_tryAll_n_102_ok {X : gX} {F : Nat} {k62 : (Int32 × Int32 × Int32 × gS) → Option (gS)} {R : gS} (H62 : ∀ s : Int32 × Int32 × Int32 × gS, k62 s = some R → G X RX2 cX2_tryAll 6 none 5 none R 62 [(0, .ref (X.1 + 19)), (2, .null), (3, .int s.1), (4, .int s.2.1), (5, .int s.2.2.1)] [] s.2.2.2) {x3 : Int32} {x5 : Int32} {t0 : Int32} {t1 : Int32} {S : gS} (h : bX2_tryAll_n_102 F k62 x3 x5 t0 t1 S = some R) : G X RX2 cX2_tryAll 6 none 5 none R 102 [(0, .ref (X.1 + 19)), (2, .null), (3, .int x3), (5, .int x5)] [.int t0, .int t1, .ref (X.1 + 19)] S := by
  unfold bX2_tryAll_n_102 at h
  obtain ⟨q1, hq1, h⟩ := gb h
  refine g_callVv [.int t1, .int t0] [] dX2_tryAll_102 mk_X2_73 so_19 (ctX2_weigh hq1) rfl (by decide) rfl (Nat.le_of_ble_eq_true rfl) ?_
  refine g_aload_nN dX2_tryAll_105 1 rfl rfl ?_
  refine g_ifnullN (tgt := 130) dX2_tryAll_106 (by decide) ?_
  exact bX2_tryAll_n_130_ok H62 h
noncomputable def bX2_tryAll_n_62 (F : Nat) (k62 : (Int32 × Int32 × Int32 × gS) → Option (gS)) (x3 : Int32) (x4 : Int32) (x5 : Int32) (S : gS) : Option (gS) := if (120 : Int32) ≤ x5 then (some S) else (if x4 = (-1 : Int32) then (some S) else ((fX2_sendFrom F x4 x3 S).bind (fun q3 : gS => g_chk x3 6 (if x5 = 0 then (bX2_tryAll_n_102 F k62 x3 x5 (1 : Int32) (g_I q3 (24 + 3 * (x3).toNatClampNeg) 4) q3) else (bX2_tryAll_n_102 F k62 x3 x5 (0 : Int32) (g_I q3 (24 + 3 * (x3).toNatClampNeg) 4) q3)))))
set_option maxRecDepth 20000 in
theorem bX2_tryAll_n_62_ok {X : gX} {F : Nat} {k62 : (Int32 × Int32 × Int32 × gS) → Option (gS)} {R : gS} (H62 : ∀ s : Int32 × Int32 × Int32 × gS, k62 s = some R → G X RX2 cX2_tryAll 6 none 5 none R 62 [(0, .ref (X.1 + 19)), (2, .null), (3, .int s.1), (4, .int s.2.1), (5, .int s.2.2.1)] [] s.2.2.2) {x3 : Int32} {x4 : Int32} {x5 : Int32} {S : gS} (h : bX2_tryAll_n_62 F k62 x3 x4 x5 S = some R) : G X RX2 cX2_tryAll 6 none 5 none R 62 [(0, .ref (X.1 + 19)), (2, .null), (3, .int x3), (4, .int x4), (5, .int x5)] [] S := by
  unfold bX2_tryAll_n_62 at h
  refine g_iload dX2_tryAll_62 4 rfl ?_
  refine g_bipush (v := 120) dX2_tryAll_64 (by decide) ?_
  refine g_icmp_ge (tgt := 143) dX2_tryAll_66 (by decide) (fun hc1 => ?_) (fun hc1 => ?_)
  · replace h := git hc1 h
    obtain rfl := Option.some.inj h
    exact g_vret dX2_tryAll_143 rfl
  · replace h := gif hc1 h
    refine g_iload dX2_tryAll_69 3 rfl ?_
    refine g_iconst (v := -1) dX2_tryAll_71 (by decide) ?_
    refine g_icmp_eq (tgt := 143) dX2_tryAll_72 (by decide) (fun hc2 => ?_) (fun hc2 => ?_)
    · replace h := git hc2 h
      obtain rfl := Option.some.inj h
      exact g_vret dX2_tryAll_143 rfl
    · replace h := gif hc2 h
      refine g_aload_n dX2_tryAll_75 0 rfl rfl ?_
      refine g_iload dX2_tryAll_76 3 rfl ?_
      refine g_iload_n dX2_tryAll_78 2 rfl rfl ?_
      obtain ⟨q3, hq3, h⟩ := gb h
      refine g_callVv [.int x4, .int x3] [] dX2_tryAll_79 mk_X2_66 so_19 (ctX2_sendFrom hq3) rfl (by decide) rfl (Nat.le_of_ble_eq_true rfl) ?_
      refine g_aload_n dX2_tryAll_82 0 rfl rfl ?_
      refine g_aload_n dX2_tryAll_83 0 rfl rfl ?_
      refine g_getr dX2_tryAll_84 lk_X2_11 sf_19_2 ?_
      refine g_iload_n dX2_tryAll_87 2 rfl rfl ?_
      obtain ⟨hv4, h⟩ := gchk h
      refine g_aald3 dX2_tryAll_88 sa_20 hv4 ?_
      refine g_geti dX2_tryAll_89 lk_X2_70 (out_4 (out_st hv4)) ?_
      refine g_iload dX2_tryAll_92 4 rfl ?_
      refine g_if_ne (tgt := 101) dX2_tryAll_94 (by decide) (fun hc5 => ?_) (fun hc5 => ?_)
      · replace h := gif hc5 h
        refine g_iconst (v := 0) dX2_tryAll_101 (by decide) ?_
        refine g_sub [0, 1, 2, 4] rfl ?_
        exact bX2_tryAll_n_102_ok H62 h
      · replace h := git hc5 h
        refine g_iconst (v := 1) dX2_tryAll_97 (by decide) ?_
        refine g_goto (tgt := 102) dX2_tryAll_98 (by decide) ?_
        refine g_sub [0, 1, 2, 4] rfl ?_
        exact bX2_tryAll_n_102_ok H62 h
noncomputable def bX2_tryAll_n_62l (F : Nat) : Nat → (Int32 × Int32 × Int32 × gS) → Option (gS) := g_fix (fun k62 s => bX2_tryAll_n_62 F k62 s.1 s.2.1 s.2.2.1 s.2.2.2)
theorem bX2_tryAll_n_62l_ok {X : gX} {F : Nat} {R : gS} : ∀ (n : Nat) (s : Int32 × Int32 × Int32 × gS), bX2_tryAll_n_62l F n s = some R → G X RX2 cX2_tryAll 6 none 5 none R 62 [(0, .ref (X.1 + 19)), (2, .null), (3, .int s.1), (4, .int s.2.1), (5, .int s.2.2.1)] [] s.2.2.2 := by
  intro n
  induction n with
  | zero => intro s h; cases h
  | succ n ih => intro s h; exact bX2_tryAll_n_62_ok (F := F) ih h
noncomputable def bX2_tryAll_n_15 (F : Nat) (k15 : (Int32 × Int32 × gS) → Option (gS)) (x3 : Int32) (x4 : Int32) (S : gS) : Option (gS) := if x3 ≤ x4 then (gl (g_setI S 19 8 (0 : Int32)) (fun S2 : gS => gl (g_setI S2 19 9 (0 : Int32)) (fun S3 : gS => g_chk (0 : Int32) 6 ((fX3_begin F (24 + 3 * ((0 : Int32)).toNatClampNeg) S3).bind (fun q5 : gS => bX2_tryAll_n_62l F F (x3, (0 : Int32), (0 : Int32), q5)))))) else (g_chk x4 5 (gl (g_setI S 21 (x4).toNatClampNeg x4) (fun S7 : gS => gl (x4 + 1) (fun v8 : Int32 => k15 (x3, v8, S7)))))
set_option maxRecDepth 20000 in
theorem bX2_tryAll_n_15_ok {X : gX} {F : Nat} {k15 : (Int32 × Int32 × gS) → Option (gS)} {R : gS} (H15 : ∀ s : Int32 × Int32 × gS, k15 s = some R → G X RX2 cX2_tryAll 6 none 5 none R 15 [(0, .ref (X.1 + 19)), (1, .ref (X.1 + 4)), (2, .null), (3, .int s.1), (4, .int s.2.1)] [] s.2.2) {x3 : Int32} {x4 : Int32} {S : gS} (h : bX2_tryAll_n_15 F k15 x3 x4 S = some R) : G X RX2 cX2_tryAll 6 none 5 none R 15 [(0, .ref (X.1 + 19)), (1, .ref (X.1 + 4)), (2, .null), (3, .int x3), (4, .int x4)] [] S := by
  unfold bX2_tryAll_n_15 at h
  refine g_iload dX2_tryAll_15 4 rfl ?_
  refine g_iload_n dX2_tryAll_17 3 rfl rfl ?_
  refine g_icmp_ge (tgt := 36) dX2_tryAll_18 (by decide) (fun hc1 => ?_) (fun hc1 => ?_)
  · replace h := git hc1 h
    refine g_aload_n dX2_tryAll_36 0 rfl rfl ?_
    refine g_iconst (v := 0) dX2_tryAll_37 (by decide) ?_
    obtain ⟨S2, eS2, h⟩ := gle h
    refine g_puti dX2_tryAll_38 lp_X2_34 sf_19_8 eS2 ?_
    refine g_aload_n dX2_tryAll_41 0 rfl rfl ?_
    refine g_iconst (v := 0) dX2_tryAll_42 (by decide) ?_
    obtain ⟨S3, eS3, h⟩ := gle h
    refine g_puti dX2_tryAll_43 lp_X2_37 sf_19_9 eS3 ?_
    refine g_aload_n dX2_tryAll_46 0 rfl rfl ?_
    refine g_getr dX2_tryAll_47 lk_X2_11 sf_19_2 ?_
    refine g_iconst (v := 0) dX2_tryAll_50 (by decide) ?_
    obtain ⟨hv4, h⟩ := gchk h
    refine g_aald3 dX2_tryAll_51 sa_20 hv4 ?_
    refine g_aload_n dX2_tryAll_52 1 rfl rfl ?_
    obtain ⟨q5, hq5, h⟩ := gb h
    refine g_callVv [.ref (X.1 + 4)] [] dX2_tryAll_53 mk_X2_62 (out_o (out_st hv4)) (ctX3_begin (out_st hv4) hq5) rfl (by decide) rfl (Nat.le_of_ble_eq_true rfl) ?_
    refine g_iconst (v := 0) dX2_tryAll_56 (by decide) ?_
    refine g_istore (lv' := [(4, .int (0 : Int32)), (0, .ref (X.1 + 19)), (1, .ref (X.1 + 4)), (2, .null), (3, .int x3)]) dX2_tryAll_57 rfl (by decide) rfl ?_
    refine g_iconst (v := 0) dX2_tryAll_59 (by decide) ?_
    refine g_istore (lv' := [(5, .int (0 : Int32)), (4, .int (0 : Int32)), (0, .ref (X.1 + 19)), (1, .ref (X.1 + 4)), (2, .null), (3, .int x3)]) dX2_tryAll_60 rfl (by decide) rfl ?_
    refine g_sub [2, 4, 5, 1, 0] rfl ?_
    exact bX2_tryAll_n_62l_ok F (x3, (0 : Int32), (0 : Int32), q5) h
  · replace h := gif hc1 h
    refine g_aload_n dX2_tryAll_21 0 rfl rfl ?_
    refine g_getr dX2_tryAll_22 lk_X2_17 sf_19_3 ?_
    refine g_iload dX2_tryAll_25 4 rfl ?_
    refine g_iload dX2_tryAll_27 4 rfl ?_
    obtain ⟨hv6, h⟩ := gchk h
    obtain ⟨S7, eS7, h⟩ := gle h
    refine g_iast dX2_tryAll_29 sa_21 hv6 eS7 ?_
    obtain ⟨v8, ev8, h⟩ := gle h
    refine g_iinc (q := 4) (v := v8) (lv' := [(4, .int v8), (0, .ref (X.1 + 19)), (1, .ref (X.1 + 4)), (2, .null), (3, .int x3)]) dX2_tryAll_30 rfl (by rw [← ev8]; rfl) (by decide) rfl ?_
    refine g_goto (tgt := 15) dX2_tryAll_33 (by decide) ?_
    refine g_sub [1, 2, 3, 4, 0] rfl ?_
    exact H15 (x3, v8, S7) h
noncomputable def bX2_tryAll_n_15l (F : Nat) : Nat → (Int32 × Int32 × gS) → Option (gS) := g_fix (fun k15 s => bX2_tryAll_n_15 F k15 s.1 s.2.1 s.2.2)
theorem bX2_tryAll_n_15l_ok {X : gX} {F : Nat} {R : gS} : ∀ (n : Nat) (s : Int32 × Int32 × gS), bX2_tryAll_n_15l F n s = some R → G X RX2 cX2_tryAll 6 none 5 none R 15 [(0, .ref (X.1 + 19)), (1, .ref (X.1 + 4)), (2, .null), (3, .int s.1), (4, .int s.2.1)] [] s.2.2 := by
  intro n
  induction n with
  | zero => intro s h; cases h
  | succ n ih => intro s h; exact bX2_tryAll_n_15_ok (F := F) ih h
noncomputable def fX2_tryAll_n (F : Nat) (S : gS) : Option (gS) := gl (if (5 : Int32) < (g_I S 9 2) then (5 : Int32) else (g_I S 9 2)) (fun v1 : Int32 => bX2_tryAll_n_15l F F (v1, (0 : Int32), S))
set_option maxRecDepth 20000 in
theorem fX2_tryAll_n_ok {X : gX} {F : Nat} {R : gS} {S : gS} (h : fX2_tryAll_n F S = some R) : G X RX2 cX2_tryAll 6 none 5 none R 0 [(0, .ref (X.1 + 19)), (1, .ref (X.1 + 4)), (2, .null)] [] S := by
  unfold fX2_tryAll_n at h
  refine g_aload_n dX2_tryAll_0 0 rfl rfl ?_
  refine g_getr dX2_tryAll_1 lk_X2_44 sf_19_1 ?_
  refine g_geti dX2_tryAll_4 lk_X2_51 sf_9_2 ?_
  refine g_iconst (v := 5) dX2_tryAll_7 (by decide) ?_
  refine g_mmin dX2_tryAll_8 mm_X2_56 (by decide) (Nat.le_of_ble_eq_true rfl) ?_
  obtain ⟨v1, ev1, h⟩ := gle h
  refine g_istore_n (lv' := [(3, .int v1), (0, .ref (X.1 + 19)), (1, .ref (X.1 + 4)), (2, .null)]) dX2_tryAll_11 ev1 rfl (by decide) rfl ?_
  refine g_iconst (v := 0) dX2_tryAll_12 (by decide) ?_
  refine g_istore (lv' := [(4, .int (0 : Int32)), (3, .int v1), (0, .ref (X.1 + 19)), (1, .ref (X.1 + 4)), (2, .null)]) dX2_tryAll_13 rfl (by decide) rfl ?_
  refine g_sub [2, 3, 4, 1, 0] rfl ?_
  exact bX2_tryAll_n_15l_ok F (v1, (0 : Int32), S) h
theorem ctX2_tryAll_n {X : gX} {F : Nat} {R : gS} {S : gS} (h : fX2_tryAll_n F S = some R) : g_C X yX2_tryAll cX2_tryAll 6 none 5 [.ref (X.1 + 19), .ref (X.1 + 4), .null] S none R :=
  g_met (by decide) (Nat.le_of_ble_eq_true rfl) (fX2_tryAll_n_ok h)
noncomputable def bX2_tryAll_s_130 (F : Nat) (sh : Nat) (k62 : (Int32 × Int32 × Int32 × gS) → Option (gS)) (x3 : Int32) (x5 : Int32) (S : gS) : Option (gS) := (fX2_advance F x3 S).bind (fun q1 : Int32 × gS => gl q1.1 (fun v2 : Int32 => gl (x5 + 1) (fun v3 : Int32 => k62 (x3, v2, v3, q1.2))))
set_option maxRecDepth 20000 in
theorem bX2_tryAll_s_130_ok {X : gX} {F : Nat} {sh : Nat} (hsh : g_isSht sh) {k62 : (Int32 × Int32 × Int32 × gS) → Option (gS)} {R : gS} (H62 : ∀ s : Int32 × Int32 × Int32 × gS, k62 s = some R → G X RX2 cX2_tryAll 6 none 5 none R 62 [(0, .ref (X.1 + 19)), (2, .ref (X.1 + sh)), (3, .int s.1), (4, .int s.2.1), (5, .int s.2.2.1)] [] s.2.2.2) {x3 : Int32} {x5 : Int32} {S : gS} (h : bX2_tryAll_s_130 F sh k62 x3 x5 S = some R) : G X RX2 cX2_tryAll 6 none 5 none R 130 [(0, .ref (X.1 + 19)), (2, .ref (X.1 + sh)), (3, .int x3), (5, .int x5)] [] S := by
  unfold bX2_tryAll_s_130 at h
  refine g_aload_n dX2_tryAll_130 0 rfl rfl ?_
  refine g_iload_n dX2_tryAll_131 2 rfl rfl ?_
  obtain ⟨q1, hq1, h⟩ := gb h
  refine g_callVi [.int x3] [] dX2_tryAll_132 mk_X2_90 so_19 (ctX2_advance hq1) rfl (by decide) rfl (Nat.le_of_ble_eq_true rfl) ?_
  obtain ⟨v2, ev2, h⟩ := gle h
  refine g_istore (lv' := [(4, .int v2), (0, .ref (X.1 + 19)), (2, .ref (X.1 + sh)), (3, .int x3), (5, .int x5)]) dX2_tryAll_135 ev2 (by decide) rfl ?_
  obtain ⟨v3, ev3, h⟩ := gle h
  refine g_iinc (q := 4) (v := v3) (lv' := [(5, .int v3), (4, .int v2), (0, .ref (X.1 + 19)), (2, .ref (X.1 + sh)), (3, .int x3)]) dX2_tryAll_137 rfl (by rw [← ev3]; rfl) (by decide) rfl ?_
  refine g_goto (tgt := 62) dX2_tryAll_140 (by decide) ?_
  refine g_sub [2, 3, 4, 1, 0] rfl ?_
  exact H62 (x3, v2, v3, q1.2) h
noncomputable def bX2_tryAll_s_102 (F : Nat) (sh : Nat) (k62 : (Int32 × Int32 × Int32 × gS) → Option (gS)) (x3 : Int32) (x5 : Int32) (t0 : Int32) (t1 : Int32) (S : gS) : Option (gS) := (fX2_weigh F t1 t0 S).bind (fun q1 : gS => g_chk x3 6 ((fX5_shows F sh (((24 + 3 * (x3).toNatClampNeg)) + 2) q1).bind (fun q3 : Int32 × gS => if q3.1 = 0 then (bX2_tryAll_s_130 F sh k62 x3 x5 q3.2) else ((fX2_keepAlike F x3 q3.2).bind (fun q5 : gS => bX2_tryAll_s_130 F sh k62 x3 x5 q5)))))
set_option maxRecDepth 20000 in
theorem bX2_tryAll_s_102_ok {X : gX} {F : Nat} {sh : Nat} (hsh : g_isSht sh) {k62 : (Int32 × Int32 × Int32 × gS) → Option (gS)} {R : gS} (H62 : ∀ s : Int32 × Int32 × Int32 × gS, k62 s = some R → G X RX2 cX2_tryAll 6 none 5 none R 62 [(0, .ref (X.1 + 19)), (2, .ref (X.1 + sh)), (3, .int s.1), (4, .int s.2.1), (5, .int s.2.2.1)] [] s.2.2.2) {x3 : Int32} {x5 : Int32} {t0 : Int32} {t1 : Int32} {S : gS} (h : bX2_tryAll_s_102 F sh k62 x3 x5 t0 t1 S = some R) : G X RX2 cX2_tryAll 6 none 5 none R 102 [(0, .ref (X.1 + 19)), (2, .ref (X.1 + sh)), (3, .int x3), (5, .int x5)] [.int t0, .int t1, .ref (X.1 + 19)] S := by
  unfold bX2_tryAll_s_102 at h
  obtain ⟨q1, hq1, h⟩ := gb h
  refine g_callVv [.int t1, .int t0] [] dX2_tryAll_102 mk_X2_73 so_19 (ctX2_weigh hq1) rfl (by decide) rfl (Nat.le_of_ble_eq_true rfl) ?_
  refine g_aload_n dX2_tryAll_105 1 rfl rfl ?_
  refine g_ifnull dX2_tryAll_106 ?_
  refine g_aload_n dX2_tryAll_109 1 rfl rfl ?_
  refine g_aload_n dX2_tryAll_110 0 rfl rfl ?_
  refine g_getr dX2_tryAll_111 lk_X2_11 sf_19_2 ?_
  refine g_iload_n dX2_tryAll_114 2 rfl rfl ?_
  obtain ⟨hv2, h⟩ := gchk h
  refine g_aald3 dX2_tryAll_115 sa_20 hv2 ?_
  refine g_getr dX2_tryAll_116 lk_X2_77 (out_3 (out_st hv2)) ?_
  obtain ⟨q3, hq3, h⟩ := gb h
  refine g_callVi [.ref (X.1 + (((24 + 3 * (x3).toNatClampNeg)) + 2))] [] dX2_tryAll_119 mk_X2_80 (sht_o hsh) (ctX5_shows hsh (out_a2 (out_st hv2)) hq3) rfl (by decide) rfl (Nat.le_of_ble_eq_true rfl) ?_
  refine g_if_eq (tgt := 130) dX2_tryAll_122 (by decide) (fun hc4 => ?_) (fun hc4 => ?_)
  · replace h := git hc4 h
    exact bX2_tryAll_s_130_ok hsh H62 h
  · replace h := gif hc4 h
    refine g_aload_n dX2_tryAll_125 0 rfl rfl ?_
    refine g_iload_n dX2_tryAll_126 2 rfl rfl ?_
    obtain ⟨q5, hq5, h⟩ := gb h
    refine g_callVv [.int x3] [] dX2_tryAll_127 mk_X2_86 so_19 (ctX2_keepAlike hq5) rfl (by decide) rfl (Nat.le_of_ble_eq_true rfl) ?_
    exact bX2_tryAll_s_130_ok hsh H62 h
noncomputable def bX2_tryAll_s_62 (F : Nat) (sh : Nat) (k62 : (Int32 × Int32 × Int32 × gS) → Option (gS)) (x3 : Int32) (x4 : Int32) (x5 : Int32) (S : gS) : Option (gS) := if (120 : Int32) ≤ x5 then (some S) else (if x4 = (-1 : Int32) then (some S) else ((fX2_sendFrom F x4 x3 S).bind (fun q3 : gS => g_chk x3 6 (if x5 = 0 then (bX2_tryAll_s_102 F sh k62 x3 x5 (1 : Int32) (g_I q3 (24 + 3 * (x3).toNatClampNeg) 4) q3) else (bX2_tryAll_s_102 F sh k62 x3 x5 (0 : Int32) (g_I q3 (24 + 3 * (x3).toNatClampNeg) 4) q3)))))
set_option maxRecDepth 20000 in
theorem bX2_tryAll_s_62_ok {X : gX} {F : Nat} {sh : Nat} (hsh : g_isSht sh) {k62 : (Int32 × Int32 × Int32 × gS) → Option (gS)} {R : gS} (H62 : ∀ s : Int32 × Int32 × Int32 × gS, k62 s = some R → G X RX2 cX2_tryAll 6 none 5 none R 62 [(0, .ref (X.1 + 19)), (2, .ref (X.1 + sh)), (3, .int s.1), (4, .int s.2.1), (5, .int s.2.2.1)] [] s.2.2.2) {x3 : Int32} {x4 : Int32} {x5 : Int32} {S : gS} (h : bX2_tryAll_s_62 F sh k62 x3 x4 x5 S = some R) : G X RX2 cX2_tryAll 6 none 5 none R 62 [(0, .ref (X.1 + 19)), (2, .ref (X.1 + sh)), (3, .int x3), (4, .int x4), (5, .int x5)] [] S := by
  unfold bX2_tryAll_s_62 at h
  refine g_iload dX2_tryAll_62 4 rfl ?_
  refine g_bipush (v := 120) dX2_tryAll_64 (by decide) ?_
  refine g_icmp_ge (tgt := 143) dX2_tryAll_66 (by decide) (fun hc1 => ?_) (fun hc1 => ?_)
  · replace h := git hc1 h
    obtain rfl := Option.some.inj h
    exact g_vret dX2_tryAll_143 rfl
  · replace h := gif hc1 h
    refine g_iload dX2_tryAll_69 3 rfl ?_
    refine g_iconst (v := -1) dX2_tryAll_71 (by decide) ?_
    refine g_icmp_eq (tgt := 143) dX2_tryAll_72 (by decide) (fun hc2 => ?_) (fun hc2 => ?_)
    · replace h := git hc2 h
      obtain rfl := Option.some.inj h
      exact g_vret dX2_tryAll_143 rfl
    · replace h := gif hc2 h
      refine g_aload_n dX2_tryAll_75 0 rfl rfl ?_
      refine g_iload dX2_tryAll_76 3 rfl ?_
      refine g_iload_n dX2_tryAll_78 2 rfl rfl ?_
      obtain ⟨q3, hq3, h⟩ := gb h
      refine g_callVv [.int x4, .int x3] [] dX2_tryAll_79 mk_X2_66 so_19 (ctX2_sendFrom hq3) rfl (by decide) rfl (Nat.le_of_ble_eq_true rfl) ?_
      refine g_aload_n dX2_tryAll_82 0 rfl rfl ?_
      refine g_aload_n dX2_tryAll_83 0 rfl rfl ?_
      refine g_getr dX2_tryAll_84 lk_X2_11 sf_19_2 ?_
      refine g_iload_n dX2_tryAll_87 2 rfl rfl ?_
      obtain ⟨hv4, h⟩ := gchk h
      refine g_aald3 dX2_tryAll_88 sa_20 hv4 ?_
      refine g_geti dX2_tryAll_89 lk_X2_70 (out_4 (out_st hv4)) ?_
      refine g_iload dX2_tryAll_92 4 rfl ?_
      refine g_if_ne (tgt := 101) dX2_tryAll_94 (by decide) (fun hc5 => ?_) (fun hc5 => ?_)
      · replace h := gif hc5 h
        refine g_iconst (v := 0) dX2_tryAll_101 (by decide) ?_
        refine g_sub [0, 1, 2, 4] rfl ?_
        exact bX2_tryAll_s_102_ok hsh H62 h
      · replace h := git hc5 h
        refine g_iconst (v := 1) dX2_tryAll_97 (by decide) ?_
        refine g_goto (tgt := 102) dX2_tryAll_98 (by decide) ?_
        refine g_sub [0, 1, 2, 4] rfl ?_
        exact bX2_tryAll_s_102_ok hsh H62 h
noncomputable def bX2_tryAll_s_62l (F : Nat) (sh : Nat) : Nat → (Int32 × Int32 × Int32 × gS) → Option (gS) := g_fix (fun k62 s => bX2_tryAll_s_62 F sh k62 s.1 s.2.1 s.2.2.1 s.2.2.2)
theorem bX2_tryAll_s_62l_ok {X : gX} {F : Nat} {sh : Nat} (hsh : g_isSht sh) {R : gS} : ∀ (n : Nat) (s : Int32 × Int32 × Int32 × gS), bX2_tryAll_s_62l F sh n s = some R → G X RX2 cX2_tryAll 6 none 5 none R 62 [(0, .ref (X.1 + 19)), (2, .ref (X.1 + sh)), (3, .int s.1), (4, .int s.2.1), (5, .int s.2.2.1)] [] s.2.2.2 := by
  intro n
  induction n with
  | zero => intro s h; cases h
  | succ n ih => intro s h; exact bX2_tryAll_s_62_ok (F := F) hsh ih h
noncomputable def bX2_tryAll_s_15 (F : Nat) (sh : Nat) (k15 : (Int32 × Int32 × gS) → Option (gS)) (x3 : Int32) (x4 : Int32) (S : gS) : Option (gS) := if x3 ≤ x4 then (gl (g_setI S 19 8 (0 : Int32)) (fun S2 : gS => gl (g_setI S2 19 9 (0 : Int32)) (fun S3 : gS => g_chk (0 : Int32) 6 ((fX3_begin F (24 + 3 * ((0 : Int32)).toNatClampNeg) S3).bind (fun q5 : gS => bX2_tryAll_s_62l F sh F (x3, (0 : Int32), (0 : Int32), q5)))))) else (g_chk x4 5 (gl (g_setI S 21 (x4).toNatClampNeg x4) (fun S7 : gS => gl (x4 + 1) (fun v8 : Int32 => k15 (x3, v8, S7)))))
set_option maxRecDepth 20000 in
theorem bX2_tryAll_s_15_ok {X : gX} {F : Nat} {sh : Nat} (hsh : g_isSht sh) {k15 : (Int32 × Int32 × gS) → Option (gS)} {R : gS} (H15 : ∀ s : Int32 × Int32 × gS, k15 s = some R → G X RX2 cX2_tryAll 6 none 5 none R 15 [(0, .ref (X.1 + 19)), (1, .ref (X.1 + 4)), (2, .ref (X.1 + sh)), (3, .int s.1), (4, .int s.2.1)] [] s.2.2) {x3 : Int32} {x4 : Int32} {S : gS} (h : bX2_tryAll_s_15 F sh k15 x3 x4 S = some R) : G X RX2 cX2_tryAll 6 none 5 none R 15 [(0, .ref (X.1 + 19)), (1, .ref (X.1 + 4)), (2, .ref (X.1 + sh)), (3, .int x3), (4, .int x4)] [] S := by
  unfold bX2_tryAll_s_15 at h
  refine g_iload dX2_tryAll_15 4 rfl ?_
  refine g_iload_n dX2_tryAll_17 3 rfl rfl ?_
  refine g_icmp_ge (tgt := 36) dX2_tryAll_18 (by decide) (fun hc1 => ?_) (fun hc1 => ?_)
  · replace h := git hc1 h
    refine g_aload_n dX2_tryAll_36 0 rfl rfl ?_
    refine g_iconst (v := 0) dX2_tryAll_37 (by decide) ?_
    obtain ⟨S2, eS2, h⟩ := gle h
    refine g_puti dX2_tryAll_38 lp_X2_34 sf_19_8 eS2 ?_
    refine g_aload_n dX2_tryAll_41 0 rfl rfl ?_
    refine g_iconst (v := 0) dX2_tryAll_42 (by decide) ?_
    obtain ⟨S3, eS3, h⟩ := gle h
    refine g_puti dX2_tryAll_43 lp_X2_37 sf_19_9 eS3 ?_
    refine g_aload_n dX2_tryAll_46 0 rfl rfl ?_
    refine g_getr dX2_tryAll_47 lk_X2_11 sf_19_2 ?_
    refine g_iconst (v := 0) dX2_tryAll_50 (by decide) ?_
    obtain ⟨hv4, h⟩ := gchk h
    refine g_aald3 dX2_tryAll_51 sa_20 hv4 ?_
    refine g_aload_n dX2_tryAll_52 1 rfl rfl ?_
    obtain ⟨q5, hq5, h⟩ := gb h
    refine g_callVv [.ref (X.1 + 4)] [] dX2_tryAll_53 mk_X2_62 (out_o (out_st hv4)) (ctX3_begin (out_st hv4) hq5) rfl (by decide) rfl (Nat.le_of_ble_eq_true rfl) ?_
    refine g_iconst (v := 0) dX2_tryAll_56 (by decide) ?_
    refine g_istore (lv' := [(4, .int (0 : Int32)), (0, .ref (X.1 + 19)), (1, .ref (X.1 + 4)), (2, .ref (X.1 + sh)), (3, .int x3)]) dX2_tryAll_57 rfl (by decide) rfl ?_
    refine g_iconst (v := 0) dX2_tryAll_59 (by decide) ?_
    refine g_istore (lv' := [(5, .int (0 : Int32)), (4, .int (0 : Int32)), (0, .ref (X.1 + 19)), (1, .ref (X.1 + 4)), (2, .ref (X.1 + sh)), (3, .int x3)]) dX2_tryAll_60 rfl (by decide) rfl ?_
    refine g_sub [2, 4, 5, 1, 0] rfl ?_
    exact bX2_tryAll_s_62l_ok hsh F (x3, (0 : Int32), (0 : Int32), q5) h
  · replace h := gif hc1 h
    refine g_aload_n dX2_tryAll_21 0 rfl rfl ?_
    refine g_getr dX2_tryAll_22 lk_X2_17 sf_19_3 ?_
    refine g_iload dX2_tryAll_25 4 rfl ?_
    refine g_iload dX2_tryAll_27 4 rfl ?_
    obtain ⟨hv6, h⟩ := gchk h
    obtain ⟨S7, eS7, h⟩ := gle h
    refine g_iast dX2_tryAll_29 sa_21 hv6 eS7 ?_
    obtain ⟨v8, ev8, h⟩ := gle h
    refine g_iinc (q := 4) (v := v8) (lv' := [(4, .int v8), (0, .ref (X.1 + 19)), (1, .ref (X.1 + 4)), (2, .ref (X.1 + sh)), (3, .int x3)]) dX2_tryAll_30 rfl (by rw [← ev8]; rfl) (by decide) rfl ?_
    refine g_goto (tgt := 15) dX2_tryAll_33 (by decide) ?_
    refine g_sub [1, 2, 3, 4, 0] rfl ?_
    exact H15 (x3, v8, S7) h
noncomputable def bX2_tryAll_s_15l (F : Nat) (sh : Nat) : Nat → (Int32 × Int32 × gS) → Option (gS) := g_fix (fun k15 s => bX2_tryAll_s_15 F sh k15 s.1 s.2.1 s.2.2)
theorem bX2_tryAll_s_15l_ok {X : gX} {F : Nat} {sh : Nat} (hsh : g_isSht sh) {R : gS} : ∀ (n : Nat) (s : Int32 × Int32 × gS), bX2_tryAll_s_15l F sh n s = some R → G X RX2 cX2_tryAll 6 none 5 none R 15 [(0, .ref (X.1 + 19)), (1, .ref (X.1 + 4)), (2, .ref (X.1 + sh)), (3, .int s.1), (4, .int s.2.1)] [] s.2.2 := by
  intro n
  induction n with
  | zero => intro s h; cases h
  | succ n ih => intro s h; exact bX2_tryAll_s_15_ok (F := F) hsh ih h
noncomputable def fX2_tryAll_s (F : Nat) (sh : Nat) (S : gS) : Option (gS) := gl (if (5 : Int32) < (g_I S 9 2) then (5 : Int32) else (g_I S 9 2)) (fun v1 : Int32 => bX2_tryAll_s_15l F sh F (v1, (0 : Int32), S))
set_option maxRecDepth 20000 in
theorem fX2_tryAll_s_ok {X : gX} {F : Nat} {sh : Nat} (hsh : g_isSht sh) {R : gS} {S : gS} (h : fX2_tryAll_s F sh S = some R) : G X RX2 cX2_tryAll 6 none 5 none R 0 [(0, .ref (X.1 + 19)), (1, .ref (X.1 + 4)), (2, .ref (X.1 + sh))] [] S := by
  unfold fX2_tryAll_s at h
  refine g_aload_n dX2_tryAll_0 0 rfl rfl ?_
  refine g_getr dX2_tryAll_1 lk_X2_44 sf_19_1 ?_
  refine g_geti dX2_tryAll_4 lk_X2_51 sf_9_2 ?_
  refine g_iconst (v := 5) dX2_tryAll_7 (by decide) ?_
  refine g_mmin dX2_tryAll_8 mm_X2_56 (by decide) (Nat.le_of_ble_eq_true rfl) ?_
  obtain ⟨v1, ev1, h⟩ := gle h
  refine g_istore_n (lv' := [(3, .int v1), (0, .ref (X.1 + 19)), (1, .ref (X.1 + 4)), (2, .ref (X.1 + sh))]) dX2_tryAll_11 ev1 rfl (by decide) rfl ?_
  refine g_iconst (v := 0) dX2_tryAll_12 (by decide) ?_
  refine g_istore (lv' := [(4, .int (0 : Int32)), (3, .int v1), (0, .ref (X.1 + 19)), (1, .ref (X.1 + 4)), (2, .ref (X.1 + sh))]) dX2_tryAll_13 rfl (by decide) rfl ?_
  refine g_sub [2, 3, 4, 1, 0] rfl ?_
  exact bX2_tryAll_s_15l_ok hsh F (v1, (0 : Int32), S) h
theorem ctX2_tryAll_s {X : gX} {F : Nat} {sh : Nat} (hsh : g_isSht sh) {R : gS} {S : gS} (h : fX2_tryAll_s F sh S = some R) : g_C X yX2_tryAll cX2_tryAll 6 none 5 [.ref (X.1 + 19), .ref (X.1 + 4), .ref (X.1 + sh)] S none R :=
  g_met (by decide) (Nat.le_of_ble_eq_true rfl) (fX2_tryAll_s_ok hsh h)
noncomputable def bX3_cellsPassed_33 (F : Nat) (o : Nat) (k13 : (Int32 × Int32 × Int32 × gS) → Option (Int32 × gS)) (x1 : Int32) (x3 : Int32) (x4 : Int32) (S : gS) : Option (Int32 × gS) := gl (x4 + 1) (fun v1 : Int32 => k13 (x1, x3, v1, S))
set_option maxRecDepth 20000 in
theorem bX3_cellsPassed_33_ok {X : gX} {F : Nat} {o : Nat} (ho : g_isOut o) {k13 : (Int32 × Int32 × Int32 × gS) → Option (Int32 × gS)} {R : Int32 × gS} (H13 : ∀ s : Int32 × Int32 × Int32 × gS, k13 s = some R → G X RX3 cX3_cellsPassed 6 (some .int) 0 (some (.int R.1)) R.2 13 [(1, .int s.1), (2, .ref (X.1 + (o + 2))), (3, .int s.2.1), (4, .int s.2.2.1)] [] s.2.2.2) {x1 : Int32} {x3 : Int32} {x4 : Int32} {S : gS} (h : bX3_cellsPassed_33 F o k13 x1 x3 x4 S = some R) : G X RX3 cX3_cellsPassed 6 (some .int) 0 (some (.int R.1)) R.2 33 [(1, .int x1), (2, .ref (X.1 + (o + 2))), (3, .int x3), (4, .int x4)] [] S := by
  unfold bX3_cellsPassed_33 at h
  obtain ⟨v1, ev1, h⟩ := gle h
  refine g_iinc (q := 3) (v := v1) (lv' := [(4, .int v1), (1, .int x1), (2, .ref (X.1 + (o + 2))), (3, .int x3)]) dX3_cellsPassed_33 rfl (by rw [← ev1]; rfl) (by decide) rfl ?_
  refine g_goto (tgt := 13) dX3_cellsPassed_36 (by decide) ?_
  refine g_sub [1, 2, 3, 0] rfl ?_
  exact H13 (x1, x3, v1, S) h
noncomputable def bX3_cellsPassed_13 (F : Nat) (o : Nat) (k13 : (Int32 × Int32 × Int32 × gS) → Option (Int32 × gS)) (x1 : Int32) (x3 : Int32) (x4 : Int32) (S : gS) : Option (Int32 × gS) := if x3 ≤ x4 then (some (x1, S)) else (g_chk x4 64 (gl (g_I S (o + 2) (x4).toNatClampNeg) (fun v3 : Int32 => if v3 ≤ 0 then (bX3_cellsPassed_33 F o k13 x1 x3 x4 S) else (gl (x1 + 1) (fun v5 : Int32 => bX3_cellsPassed_33 F o k13 v5 x3 x4 S)))))
set_option maxRecDepth 20000 in
theorem bX3_cellsPassed_13_ok {X : gX} {F : Nat} {o : Nat} (ho : g_isOut o) {k13 : (Int32 × Int32 × Int32 × gS) → Option (Int32 × gS)} {R : Int32 × gS} (H13 : ∀ s : Int32 × Int32 × Int32 × gS, k13 s = some R → G X RX3 cX3_cellsPassed 6 (some .int) 0 (some (.int R.1)) R.2 13 [(1, .int s.1), (2, .ref (X.1 + (o + 2))), (3, .int s.2.1), (4, .int s.2.2.1)] [] s.2.2.2) {x1 : Int32} {x3 : Int32} {x4 : Int32} {S : gS} (h : bX3_cellsPassed_13 F o k13 x1 x3 x4 S = some R) : G X RX3 cX3_cellsPassed 6 (some .int) 0 (some (.int R.1)) R.2 13 [(1, .int x1), (2, .ref (X.1 + (o + 2))), (3, .int x3), (4, .int x4)] [] S := by
  unfold bX3_cellsPassed_13 at h
  refine g_iload dX3_cellsPassed_13 3 rfl ?_
  refine g_iload_n dX3_cellsPassed_15 2 rfl rfl ?_
  refine g_icmp_ge (tgt := 39) dX3_cellsPassed_16 (by decide) (fun hc1 => ?_) (fun hc1 => ?_)
  · replace h := git hc1 h
    refine g_iload_n dX3_cellsPassed_39 0 rfl rfl ?_
    obtain rfl := Option.some.inj h
    exact g_iret dX3_cellsPassed_40 rfl
  · replace h := gif hc1 h
    refine g_aload_n dX3_cellsPassed_19 1 rfl rfl ?_
    refine g_iload dX3_cellsPassed_20 3 rfl ?_
    obtain ⟨hv2, h⟩ := gchk h
    refine g_iald dX3_cellsPassed_22 (out_a2 ho) hv2 ?_
    obtain ⟨v3, ev3, h⟩ := gle h
    refine g_istore (lv' := [(5, .int v3), (1, .int x1), (2, .ref (X.1 + (o + 2))), (3, .int x3), (4, .int x4)]) dX3_cellsPassed_23 ev3 (by decide) rfl ?_
    refine g_iload dX3_cellsPassed_25 0 rfl ?_
    refine g_if_le (tgt := 33) dX3_cellsPassed_27 (by decide) (fun hc4 => ?_) (fun hc4 => ?_)
    · replace h := git hc4 h
      refine g_sub [1, 2, 3, 4] rfl ?_
      exact bX3_cellsPassed_33_ok ho H13 h
    · replace h := gif hc4 h
      obtain ⟨v5, ev5, h⟩ := gle h
      refine g_iinc (q := 1) (v := v5) (lv' := [(1, .int v5), (5, .int v3), (2, .ref (X.1 + (o + 2))), (3, .int x3), (4, .int x4)]) dX3_cellsPassed_30 rfl (by rw [← ev5]; rfl) (by decide) rfl ?_
      refine g_sub [0, 2, 3, 4] rfl ?_
      exact bX3_cellsPassed_33_ok ho H13 h
noncomputable def bX3_cellsPassed_13l (F : Nat) (o : Nat) : Nat → (Int32 × Int32 × Int32 × gS) → Option (Int32 × gS) := g_fix (fun k13 s => bX3_cellsPassed_13 F o k13 s.1 s.2.1 s.2.2.1 s.2.2.2)
theorem bX3_cellsPassed_13l_ok {X : gX} {F : Nat} {o : Nat} (ho : g_isOut o) {R : Int32 × gS} : ∀ (n : Nat) (s : Int32 × Int32 × Int32 × gS), bX3_cellsPassed_13l F o n s = some R → G X RX3 cX3_cellsPassed 6 (some .int) 0 (some (.int R.1)) R.2 13 [(1, .int s.1), (2, .ref (X.1 + (o + 2))), (3, .int s.2.1), (4, .int s.2.2.1)] [] s.2.2.2 := by
  intro n
  induction n with
  | zero => intro s h; cases h
  | succ n ih => intro s h; exact bX3_cellsPassed_13_ok (F := F) ho ih h
noncomputable def fX3_cellsPassed (F : Nat) (o : Nat) (S : gS) : Option (Int32 × gS) := gl (Int32.ofNat 64) (fun v1 : Int32 => bX3_cellsPassed_13l F o F ((0 : Int32), v1, (0 : Int32), S))
set_option maxRecDepth 20000 in
theorem fX3_cellsPassed_ok {X : gX} {F : Nat} {o : Nat} (ho : g_isOut o) {R : Int32 × gS} {S : gS} (h : fX3_cellsPassed F o S = some R) : G X RX3 cX3_cellsPassed 6 (some .int) 0 (some (.int R.1)) R.2 0 [(0, .ref (X.1 + o))] [] S := by
  unfold fX3_cellsPassed at h
  refine g_iconst (v := 0) dX3_cellsPassed_0 (by decide) ?_
  refine g_istore_n (lv' := [(1, .int (0 : Int32)), (0, .ref (X.1 + o))]) dX3_cellsPassed_1 rfl rfl (by decide) rfl ?_
  refine g_aload_n dX3_cellsPassed_2 1 rfl rfl ?_
  refine g_getr dX3_cellsPassed_3 lk_X3_15 (out_3 ho) ?_
  refine g_astore_n (lv' := [(2, .ref (X.1 + (o + 2))), (1, .int (0 : Int32)), (0, .ref (X.1 + o))]) dX3_cellsPassed_6 rfl rfl (by decide) rfl ?_
  refine g_aload_n dX3_cellsPassed_7 0 rfl rfl ?_
  refine g_alen dX3_cellsPassed_8 (by decide) (out_a2 ho) ?_
  obtain ⟨v1, ev1, h⟩ := gle h
  refine g_istore_n (lv' := [(3, .int v1), (2, .ref (X.1 + (o + 2))), (1, .int (0 : Int32)), (0, .ref (X.1 + o))]) dX3_cellsPassed_9 ev1 rfl (by decide) rfl ?_
  refine g_iconst (v := 0) dX3_cellsPassed_10 (by decide) ?_
  refine g_istore (lv' := [(4, .int (0 : Int32)), (3, .int v1), (2, .ref (X.1 + (o + 2))), (1, .int (0 : Int32)), (0, .ref (X.1 + o))]) dX3_cellsPassed_11 rfl (by decide) rfl ?_
  refine g_sub [3, 2, 1, 0] rfl ?_
  exact bX3_cellsPassed_13l_ok ho F ((0 : Int32), v1, (0 : Int32), S) h
theorem ctX3_cellsPassed {X : gX} {F : Nat} {o : Nat} (ho : g_isOut o) {R : Int32 × gS} {S : gS} (h : fX3_cellsPassed F o S = some R) : g_C X yX3_cellsPassed cX3_cellsPassed 6 (some .int) 0 [.ref (X.1 + o)] S (some (.int R.1)) R.2 :=
  g_met (by decide) (Nat.le_of_ble_eq_true rfl) (fX3_cellsPassed_ok ho h)
noncomputable def fX5_isLost (F : Nat) (o : Nat) (S : gS) : Option (Int32 × gS) := if (g_I S o 1) = (-1 : Int32) then (some ((1 : Int32), S)) else (some ((0 : Int32), S))
set_option maxRecDepth 20000 in
theorem fX5_isLost_ok {X : gX} {F : Nat} {o : Nat} (ho : g_isSht o) {R : Int32 × gS} {S : gS} (h : fX5_isLost F o S = some R) : G X RX5 cX5_isLost 1 (some .boolean) 0 (some (.int R.1)) R.2 0 [(0, .ref (X.1 + o))] [] S := by
  unfold fX5_isLost at h
  refine g_aload_n dX5_isLost_0 0 rfl rfl ?_
  refine g_geti dX5_isLost_1 lk_X5_15 (sht_1 ho) ?_
  refine g_iconst (v := -1) dX5_isLost_4 (by decide) ?_
  refine g_icmp_ne (tgt := 12) dX5_isLost_5 (by decide) (fun hc1 => ?_) (fun hc1 => ?_)
  · replace h := gif hc1 h
    refine g_iconst (v := 0) dX5_isLost_12 (by decide) ?_
    obtain rfl := Option.some.inj h
    exact g_zret dX5_isLost_13 rfl narrow_b0
  · replace h := git hc1 h
    refine g_iconst (v := 1) dX5_isLost_8 (by decide) ?_
    refine g_goto (tgt := 13) dX5_isLost_9 (by decide) ?_
    obtain rfl := Option.some.inj h
    exact g_zret dX5_isLost_13 rfl narrow_b1
theorem ctX5_isLost {X : gX} {F : Nat} {o : Nat} (ho : g_isSht o) {R : Int32 × gS} {S : gS} (h : fX5_isLost F o S = some R) : g_C X yX5_isLost cX5_isLost 1 (some .boolean) 0 [.ref (X.1 + o)] S (some (.int R.1)) R.2 :=
  g_met (by decide) (Nat.le_of_ble_eq_true rfl) (fX5_isLost_ok ho h)
noncomputable def fX5_renew (F : Nat) (o : Nat) (a0 : Int32) (a1 : Int32) (S : gS) : Option (gS) := gl (g_setI S o 1 a0) (fun S1 : gS => gl (g_setI S1 o 2 a1) (fun S2 : gS => (fJ7_fill_53178 F (o + 1) (0 : Int32) S2).bind (fun q3 : gS => some q3)))
set_option maxRecDepth 20000 in
theorem fX5_renew_ok {X : gX} {F : Nat} {o : Nat} (ho : g_isSht o) {R : gS} {a0 : Int32} {a1 : Int32} {S : gS} (h : fX5_renew F o a0 a1 S = some R) : G X RX5 cX5_renew 3 none 1 none R 0 [(0, .ref (X.1 + o)), (1, .int a0), (2, .int a1)] [] S := by
  unfold fX5_renew at h
  refine g_aload_n dX5_renew_0 0 rfl rfl ?_
  refine g_iload_n dX5_renew_1 1 rfl rfl ?_
  obtain ⟨S1, eS1, h⟩ := gle h
  refine g_puti dX5_renew_2 lp_X5_15 (sht_1 ho) eS1 ?_
  refine g_aload_n dX5_renew_5 0 rfl rfl ?_
  refine g_iload_n dX5_renew_6 2 rfl rfl ?_
  obtain ⟨S2, eS2, h⟩ := gle h
  refine g_puti dX5_renew_7 lp_X5_19 (sht_2 ho) eS2 ?_
  refine g_aload_n dX5_renew_10 0 rfl rfl ?_
  refine g_getr dX5_renew_11 lk_X5_9 (sht_0 ho) ?_
  refine g_iconst (v := 0) dX5_renew_14 (by decide) ?_
  obtain ⟨q3, hq3, h⟩ := gb h
  refine g_callSv [.ref (X.1 + (o + 1)), .int (0 : Int32)] [] dX5_renew_15 mk_X5_22 (ctJ7_fill_53178 (sht_a1 ho) hq3) rfl (by decide) rfl (Nat.le_of_ble_eq_true rfl) ?_
  obtain rfl := Option.some.inj h
  exact g_vret dX5_renew_18 rfl
theorem ctX5_renew {X : gX} {F : Nat} {o : Nat} (ho : g_isSht o) {R : gS} {a0 : Int32} {a1 : Int32} {S : gS} (h : fX5_renew F o a0 a1 S = some R) : g_C X yX5_renew cX5_renew 3 none 1 [.ref (X.1 + o), .int a0, .int a1] S none R :=
  g_met (by decide) (Nat.le_of_ble_eq_true rfl) (fX5_renew_ok ho h)
noncomputable def fX5_put (F : Nat) (o : Nat) (a0 : Int32) (a1 : Int32) (S : gS) : Option (gS) := if (g_I S o 1) = 0 then (g_chk a0 64 (gl (g_setI S (o + 1) (a0).toNatClampNeg ((a1).toInt8.toInt32)) (fun S3 : gS => some S3))) else (if (g_I S o 1) = 1 then (g_chk a0 64 (gl (g_setI S (o + 1) (a0).toNatClampNeg ((a1).toInt16.toInt32)) (fun S6 : gS => some S6))) else (g_chk a0 64 (gl (g_setI S (o + 1) (a0).toNatClampNeg a1) (fun S8 : gS => some S8))))
set_option maxRecDepth 20000 in
theorem fX5_put_ok {X : gX} {F : Nat} {o : Nat} (ho : g_isSht o) {R : gS} {a0 : Int32} {a1 : Int32} {S : gS} (h : fX5_put F o a0 a1 S = some R) : G X RX5 cX5_put 3 none 0 none R 0 [(0, .ref (X.1 + o)), (1, .int a0), (2, .int a1)] [] S := by
  unfold fX5_put at h
  refine g_aload_n dX5_put_0 0 rfl rfl ?_
  refine g_geti dX5_put_1 lk_X5_15 (sht_1 ho) ?_
  by_cases hc1 : (g_I S o 1) = 0
  · replace h := git hc1 h
    refine g_lookup (off := 28) (tgt := 32) dX5_put_4 (by decide) (by have z := hc1; (try unfold g_I at z); rw [z]; rfl) (by decide) ?_
    refine g_aload_n dX5_put_32 0 rfl rfl ?_
    refine g_getr dX5_put_33 lk_X5_9 (sht_0 ho) ?_
    refine g_iload_n dX5_put_36 1 rfl rfl ?_
    refine g_iload_n dX5_put_37 2 rfl rfl ?_
    refine g_i2b dX5_put_38 ?_
    obtain ⟨hv2, h⟩ := gchk h
    obtain ⟨S3, eS3, h⟩ := gle h
    refine g_iast dX5_put_39 (sht_a1 ho) hv2 eS3 ?_
    refine g_goto (tgt := 61) dX5_put_40 (by decide) ?_
    obtain rfl := Option.some.inj h
    exact g_vret dX5_put_61 rfl
  · replace h := gif hc1 h
    by_cases hc4 : (g_I S o 1) = 1
    · replace h := git hc4 h
      refine g_lookup (off := 39) (tgt := 43) dX5_put_4 (by decide) (by have z := hc4; (try unfold g_I at z); rw [z]; rfl) (by decide) ?_
      refine g_aload_n dX5_put_43 0 rfl rfl ?_
      refine g_getr dX5_put_44 lk_X5_9 (sht_0 ho) ?_
      refine g_iload_n dX5_put_47 1 rfl rfl ?_
      refine g_iload_n dX5_put_48 2 rfl rfl ?_
      refine g_i2s dX5_put_49 ?_
      obtain ⟨hv5, h⟩ := gchk h
      obtain ⟨S6, eS6, h⟩ := gle h
      refine g_iast dX5_put_50 (sht_a1 ho) hv5 eS6 ?_
      refine g_goto (tgt := 61) dX5_put_51 (by decide) ?_
      obtain rfl := Option.some.inj h
      exact g_vret dX5_put_61 rfl
    · replace h := gif hc4 h
      refine g_lookup (off := 50) (tgt := 54) dX5_put_4 (by decide) (by show Op.lookupswitch.offset [(0, 28), (1, 39)] 50 _ = _; rw [lv_osw hc1 (by decide), lv_osw hc4 (by decide)]; rfl) (by decide) ?_
      refine g_aload_n dX5_put_54 0 rfl rfl ?_
      refine g_getr dX5_put_55 lk_X5_9 (sht_0 ho) ?_
      refine g_iload_n dX5_put_58 1 rfl rfl ?_
      refine g_iload_n dX5_put_59 2 rfl rfl ?_
      obtain ⟨hv7, h⟩ := gchk h
      obtain ⟨S8, eS8, h⟩ := gle h
      refine g_iast dX5_put_60 (sht_a1 ho) hv7 eS8 ?_
      obtain rfl := Option.some.inj h
      exact g_vret dX5_put_61 rfl
theorem ctX5_put {X : gX} {F : Nat} {o : Nat} (ho : g_isSht o) {R : gS} {a0 : Int32} {a1 : Int32} {S : gS} (h : fX5_put F o a0 a1 S = some R) : g_C X yX5_put cX5_put 3 none 0 [.ref (X.1 + o), .int a0, .int a1] S none R :=
  g_met (by decide) (Nat.le_of_ble_eq_true rfl) (fX5_put_ok ho h)
noncomputable def fX5_holds (F : Nat) (o : Nat) (a0 : Int32) (a1 : Int32) (S : gS) : Option (Int32 × gS) := if a0 < 0 then (some ((0 : Int32), S)) else (if a1 < 0 then (some ((0 : Int32), S)) else (if (g_I S o 2) < a0 then (some ((0 : Int32), S)) else (if ((g_I S o 2) - a0) < a1 then (some ((0 : Int32), S)) else (some ((1 : Int32), S)))))
set_option maxRecDepth 20000 in
theorem fX5_holds_ok {X : gX} {F : Nat} {o : Nat} (ho : g_isSht o) {R : Int32 × gS} {a0 : Int32} {a1 : Int32} {S : gS} (h : fX5_holds F o a0 a1 S = some R) : G X RX5 cX5_holds 3 (some .boolean) 0 (some (.int R.1)) R.2 0 [(0, .ref (X.1 + o)), (1, .int a0), (2, .int a1)] [] S := by
  unfold fX5_holds at h
  refine g_iload_n dX5_holds_0 1 rfl rfl ?_
  refine g_if_lt (tgt := 30) dX5_holds_1 (by decide) (fun hc1 => ?_) (fun hc1 => ?_)
  · replace h := git hc1 h
    refine g_iconst (v := 0) dX5_holds_30 (by decide) ?_
    obtain rfl := Option.some.inj h
    exact g_zret dX5_holds_31 rfl narrow_b0
  · replace h := gif hc1 h
    refine g_iload_n dX5_holds_4 2 rfl rfl ?_
    refine g_if_lt (tgt := 30) dX5_holds_5 (by decide) (fun hc2 => ?_) (fun hc2 => ?_)
    · replace h := git hc2 h
      refine g_iconst (v := 0) dX5_holds_30 (by decide) ?_
      obtain rfl := Option.some.inj h
      exact g_zret dX5_holds_31 rfl narrow_b0
    · replace h := gif hc2 h
      refine g_iload_n dX5_holds_8 1 rfl rfl ?_
      refine g_aload_n dX5_holds_9 0 rfl rfl ?_
      refine g_geti dX5_holds_10 lk_X5_19 (sht_2 ho) ?_
      refine g_icmp_gt (tgt := 30) dX5_holds_13 (by decide) (fun hc3 => ?_) (fun hc3 => ?_)
      · replace h := git hc3 h
        refine g_iconst (v := 0) dX5_holds_30 (by decide) ?_
        obtain rfl := Option.some.inj h
        exact g_zret dX5_holds_31 rfl narrow_b0
      · replace h := gif hc3 h
        refine g_iload_n dX5_holds_16 2 rfl rfl ?_
        refine g_aload_n dX5_holds_17 0 rfl rfl ?_
        refine g_geti dX5_holds_18 lk_X5_19 (sht_2 ho) ?_
        refine g_iload_n dX5_holds_21 1 rfl rfl ?_
        refine g_isub dX5_holds_22 ?_
        refine g_icmp_gt (tgt := 30) dX5_holds_23 (by decide) (fun hc4 => ?_) (fun hc4 => ?_)
        · replace h := git hc4 h
          refine g_iconst (v := 0) dX5_holds_30 (by decide) ?_
          obtain rfl := Option.some.inj h
          exact g_zret dX5_holds_31 rfl narrow_b0
        · replace h := gif hc4 h
          refine g_iconst (v := 1) dX5_holds_26 (by decide) ?_
          refine g_goto (tgt := 31) dX5_holds_27 (by decide) ?_
          obtain rfl := Option.some.inj h
          exact g_zret dX5_holds_31 rfl narrow_b1
theorem ctX5_holds {X : gX} {F : Nat} {o : Nat} (ho : g_isSht o) {R : Int32 × gS} {a0 : Int32} {a1 : Int32} {S : gS} (h : fX5_holds F o a0 a1 S = some R) : g_C X yX5_holds cX5_holds 3 (some .boolean) 0 [.ref (X.1 + o), .int a0, .int a1] S (some (.int R.1)) R.2 :=
  g_met (by decide) (Nat.le_of_ble_eq_true rfl) (fX5_holds_ok ho h)
noncomputable def fX6_join (F : Nat) (a0 : Int32) (a1 : Int32) (S : gS) : Option (Int32 × gS) := if (g_I S 9 2) < (8 : Int32) then (g_chk (g_I S 9 2) 8 (gl (g_setI S 10 ((g_I S 9 2)).toNatClampNeg a0) (fun S3 : gS => g_chk (g_I S3 9 2) 8 (gl (g_setI S3 11 ((g_I S3 9 2)).toNatClampNeg a1) (fun S5 : gS => gl (g_setI S5 9 2 ((g_I S5 9 2) + (1 : Int32))) (fun S6 : gS => some ((1 : Int32), S6))))))) else (some ((0 : Int32), S))
set_option maxRecDepth 20000 in
theorem fX6_join_ok {X : gX} {F : Nat} {R : Int32 × gS} {a0 : Int32} {a1 : Int32} {S : gS} (h : fX6_join F a0 a1 S = some R) : G X RX6 cX6_join 3 (some .boolean) 0 (some (.int R.1)) R.2 0 [(0, .ref (X.1 + 9)), (1, .int a0), (2, .int a1)] [] S := by
  unfold fX6_join at h
  refine g_aload_n dX6_join_0 0 rfl rfl ?_
  refine g_geti dX6_join_1 lk_X6_18 sf_9_2 ?_
  refine g_bipush (v := 8) dX6_join_4 (by decide) ?_
  refine g_icmp_lt (tgt := 11) dX6_join_6 (by decide) (fun hc1 => ?_) (fun hc1 => ?_)
  · replace h := git hc1 h
    refine g_aload_n dX6_join_11 0 rfl rfl ?_
    refine g_getr dX6_join_12 lk_X6_9 sf_9_0 ?_
    refine g_aload_n dX6_join_15 0 rfl rfl ?_
    refine g_geti dX6_join_16 lk_X6_18 sf_9_2 ?_
    refine g_iload_n dX6_join_19 1 rfl rfl ?_
    obtain ⟨hv2, h⟩ := gchk h
    obtain ⟨S3, eS3, h⟩ := gle h
    refine g_iast dX6_join_20 sa_10 hv2 eS3 ?_
    refine g_aload_n dX6_join_21 0 rfl rfl ?_
    refine g_getr dX6_join_22 lk_X6_15 sf_9_1 ?_
    refine g_aload_n dX6_join_25 0 rfl rfl ?_
    refine g_geti dX6_join_26 lk_X6_18 sf_9_2 ?_
    refine g_iload_n dX6_join_29 2 rfl rfl ?_
    obtain ⟨hv4, h⟩ := gchk h
    obtain ⟨S5, eS5, h⟩ := gle h
    refine g_iast dX6_join_30 sa_11 hv4 eS5 ?_
    refine g_aload_n dX6_join_31 0 rfl rfl ?_
    refine g_dup dX6_join_32 rfl ?_
    refine g_geti dX6_join_33 lk_X6_18 sf_9_2 ?_
    refine g_iconst (v := 1) dX6_join_36 (by decide) ?_
    refine g_iadd dX6_join_37 ?_
    obtain ⟨S6, eS6, h⟩ := gle h
    refine g_puti dX6_join_38 lp_X6_18 sf_9_2 eS6 ?_
    refine g_iconst (v := 1) dX6_join_41 (by decide) ?_
    obtain rfl := Option.some.inj h
    exact g_zret dX6_join_42 rfl narrow_b1
  · replace h := gif hc1 h
    refine g_iconst (v := 0) dX6_join_9 (by decide) ?_
    obtain rfl := Option.some.inj h
    exact g_zret dX6_join_10 rfl narrow_b0
theorem ctX6_join {X : gX} {F : Nat} {R : Int32 × gS} {a0 : Int32} {a1 : Int32} {S : gS} (h : fX6_join F a0 a1 S = some R) : g_C X yX6_join cX6_join 3 (some .boolean) 0 [.ref (X.1 + 9), .int a0, .int a1] S (some (.int R.1)) R.2 :=
  g_met (by decide) (Nat.le_of_ble_eq_true rfl) (fX6_join_ok h)
noncomputable def fX7_type (F : Nat) (a0 : Int32) (S : gS) : Option (Int32 × gS) := if a0 < 0 then (some ((-2 : Int32), S)) else (if a0 ≤ (255 : Int32) then ((fX0_append F a0 S).bind (fun q3 : Int32 × gS => if q3.1 = 0 then (some ((-4 : Int32), q3.2)) else (some ((g_I q3.2 1 1), q3.2)))) else (some ((-2 : Int32), S)))
set_option maxRecDepth 20000 in
theorem fX7_type_ok {X : gX} {F : Nat} {R : Int32 × gS} {a0 : Int32} {S : gS} (h : fX7_type F a0 S = some R) : G X RX7 cX7_type 2 (some .int) 4 (some (.int R.1)) R.2 0 [(0, .ref (X.1 + 0)), (1, .int a0)] [] S := by
  unfold fX7_type at h
  refine g_iload_n dX7_type_0 1 rfl rfl ?_
  refine g_if_lt (tgt := 11) dX7_type_1 (by decide) (fun hc1 => ?_) (fun hc1 => ?_)
  · replace h := git hc1 h
    refine g_bipush (v := -2) dX7_type_11 (by decide) ?_
    obtain rfl := Option.some.inj h
    exact g_iret dX7_type_13 rfl
  · replace h := gif hc1 h
    refine g_iload_n dX7_type_4 1 rfl rfl ?_
    refine g_sipush (v := 255) dX7_type_5 (by decide) ?_
    refine g_icmp_le (tgt := 14) dX7_type_8 (by decide) (fun hc2 => ?_) (fun hc2 => ?_)
    · replace h := git hc2 h
      refine g_aload_n dX7_type_14 0 rfl rfl ?_
      refine g_getr dX7_type_15 lk_X7_10 sf_0_0 ?_
      refine g_iload_n dX7_type_18 1 rfl rfl ?_
      obtain ⟨q3, hq3, h⟩ := gb h
      refine g_callVi [.int a0] [] dX7_type_19 mk_X7_78 so_1 (ctX0_append hq3) rfl (by decide) rfl (Nat.le_of_ble_eq_true rfl) ?_
      refine g_if_eq (tgt := 35) dX7_type_22 (by decide) (fun hc4 => ?_) (fun hc4 => ?_)
      · replace h := git hc4 h
        refine g_bipush (v := -4) dX7_type_35 (by decide) ?_
        obtain rfl := Option.some.inj h
        exact g_iret dX7_type_37 rfl
      · replace h := gif hc4 h
        refine g_aload_n dX7_type_25 0 rfl rfl ?_
        refine g_getr dX7_type_26 lk_X7_10 sf_0_0 ?_
        refine g_geti dX7_type_29 lk_X7_82 sf_1_1 ?_
        refine g_goto (tgt := 37) dX7_type_32 (by decide) ?_
        obtain rfl := Option.some.inj h
        exact g_iret dX7_type_37 rfl
    · replace h := gif hc2 h
      refine g_bipush (v := -2) dX7_type_11 (by decide) ?_
      obtain rfl := Option.some.inj h
      exact g_iret dX7_type_13 rfl
theorem ctX7_type {X : gX} {F : Nat} {R : Int32 × gS} {a0 : Int32} {S : gS} (h : fX7_type F a0 S = some R) : g_C X yX7_type cX7_type 2 (some .int) 4 [.ref (X.1 + 0), .int a0] S (some (.int R.1)) R.2 :=
  g_met (by decide) (Nat.le_of_ble_eq_true rfl) (fX7_type_ok h)
noncomputable def fX7_wipe (F : Nat) (S : gS) : Option (Int32 × gS) := gl (g_I S 1 1) (fun v1 : Int32 => (fX0_empty F S).bind (fun q2 : gS => some (v1, q2)))
set_option maxRecDepth 20000 in
theorem fX7_wipe_ok {X : gX} {F : Nat} {R : Int32 × gS} {S : gS} (h : fX7_wipe F S = some R) : G X RX7 cX7_wipe 2 (some .int) 4 (some (.int R.1)) R.2 0 [(0, .ref (X.1 + 0))] [] S := by
  unfold fX7_wipe at h
  refine g_aload_n dX7_wipe_0 0 rfl rfl ?_
  refine g_getr dX7_wipe_1 lk_X7_10 sf_0_0 ?_
  refine g_geti dX7_wipe_4 lk_X7_82 sf_1_1 ?_
  obtain ⟨v1, ev1, h⟩ := gle h
  refine g_istore_n (lv' := [(1, .int v1), (0, .ref (X.1 + 0))]) dX7_wipe_7 ev1 rfl (by decide) rfl ?_
  refine g_aload_n dX7_wipe_8 1 rfl rfl ?_
  refine g_getr dX7_wipe_9 lk_X7_10 sf_0_0 ?_
  obtain ⟨q2, hq2, h⟩ := gb h
  refine g_callVv [] [] dX7_wipe_12 mk_X7_85 so_1 (ctX0_empty hq2) rfl (by decide) rfl (Nat.le_of_ble_eq_true rfl) ?_
  refine g_iload_n dX7_wipe_15 0 rfl rfl ?_
  obtain rfl := Option.some.inj h
  exact g_iret dX7_wipe_16 rfl
theorem ctX7_wipe {X : gX} {F : Nat} {R : Int32 × gS} {S : gS} (h : fX7_wipe F S = some R) : g_C X yX7_wipe cX7_wipe 2 (some .int) 4 [.ref (X.1 + 0)] S (some (.int R.1)) R.2 :=
  g_met (by decide) (Nat.le_of_ble_eq_true rfl) (fX7_wipe_ok h)
noncomputable def fX7_fault (F : Nat) (S : gS) : Option (Int32 × gS) := some ((g_I S 1 2), S)
set_option maxRecDepth 20000 in
theorem fX7_fault_ok {X : gX} {F : Nat} {R : Int32 × gS} {S : gS} (h : fX7_fault F S = some R) : G X RX7 cX7_fault 1 (some .int) 0 (some (.int R.1)) R.2 0 [(0, .ref (X.1 + 0))] [] S := by
  unfold fX7_fault at h
  refine g_aload_n dX7_fault_0 0 rfl rfl ?_
  refine g_getr dX7_fault_1 lk_X7_10 sf_0_0 ?_
  refine g_geti dX7_fault_4 lk_X7_88 sf_1_2 ?_
  obtain rfl := Option.some.inj h
  exact g_iret dX7_fault_7 rfl
theorem ctX7_fault {X : gX} {F : Nat} {R : Int32 × gS} {S : gS} (h : fX7_fault F S = some R) : g_C X yX7_fault cX7_fault 1 (some .int) 0 [.ref (X.1 + 0)] S (some (.int R.1)) R.2 :=
  g_met (by decide) (Nat.le_of_ble_eq_true rfl) (fX7_fault_ok h)
noncomputable def fX7_isCell (F : Nat) (a0 : Int32) (S : gS) : Option (Int32 × gS) := if a0 < 0 then (some ((0 : Int32), S)) else (if (64 : Int32) ≤ a0 then (some ((0 : Int32), S)) else (some ((1 : Int32), S)))
set_option maxRecDepth 20000 in
theorem fX7_isCell_ok {X : gX} {F : Nat} {R : Int32 × gS} {a0 : Int32} {S : gS} (h : fX7_isCell F a0 S = some R) : G X RX7 cX7_isCell 1 (some .boolean) 0 (some (.int R.1)) R.2 0 [(0, .int a0)] [] S := by
  unfold fX7_isCell at h
  refine g_iload_n dX7_isCell_0 0 rfl rfl ?_
  refine g_if_lt (tgt := 14) dX7_isCell_1 (by decide) (fun hc1 => ?_) (fun hc1 => ?_)
  · replace h := git hc1 h
    refine g_iconst (v := 0) dX7_isCell_14 (by decide) ?_
    obtain rfl := Option.some.inj h
    exact g_zret dX7_isCell_15 rfl narrow_b0
  · replace h := gif hc1 h
    refine g_iload_n dX7_isCell_4 0 rfl rfl ?_
    refine g_bipush (v := 64) dX7_isCell_5 (by decide) ?_
    refine g_icmp_ge (tgt := 14) dX7_isCell_7 (by decide) (fun hc2 => ?_) (fun hc2 => ?_)
    · replace h := git hc2 h
      refine g_iconst (v := 0) dX7_isCell_14 (by decide) ?_
      obtain rfl := Option.some.inj h
      exact g_zret dX7_isCell_15 rfl narrow_b0
    · replace h := gif hc2 h
      refine g_iconst (v := 1) dX7_isCell_10 (by decide) ?_
      refine g_goto (tgt := 15) dX7_isCell_11 (by decide) ?_
      obtain rfl := Option.some.inj h
      exact g_zret dX7_isCell_15 rfl narrow_b1
theorem ctX7_isCell {X : gX} {F : Nat} {R : Int32 × gS} {a0 : Int32} {S : gS} (h : fX7_isCell F a0 S = some R) : g_C X yX7_isCell cX7_isCell 1 (some .boolean) 0 [.int a0] S (some (.int R.1)) R.2 :=
  g_met (by decide) (Nat.le_of_ble_eq_true rfl) (fX7_isCell_ok h)
noncomputable def fX7_cell (F : Nat) (a0 : Int32) (a1 : Int32) (S : gS) : Option (Int32 × gS) := (fX7_isCell F a0 S).bind (fun q1 : Int32 × gS => if q1.1 = 0 then (some ((-2 : Int32), q1.2)) else (if a1 = 0 then ((fX0_kindOf F a0 q1.2).bind (fun q4 : Int32 × gS => some (q4.1, q4.2))) else (if a1 = 1 then (g_chk a0 64 (some ((g_I q1.2 4 (a0).toNatClampNeg), q1.2))) else (if a1 = 2 then (g_chk a0 64 (some ((g_I q1.2 5 (a0).toNatClampNeg), q1.2))) else (if a1 = 3 then (g_chk a0 64 (some ((g_I q1.2 6 (a0).toNatClampNeg), q1.2))) else (if a1 = 4 then (g_chk a0 64 (some ((g_I q1.2 7 (a0).toNatClampNeg), q1.2))) else (some ((-2 : Int32), q1.2))))))))
set_option maxRecDepth 20000 in
theorem fX7_cell_ok {X : gX} {F : Nat} {R : Int32 × gS} {a0 : Int32} {a1 : Int32} {S : gS} (h : fX7_cell F a0 a1 S = some R) : G X RX7 cX7_cell 3 (some .int) 2 (some (.int R.1)) R.2 0 [(0, .ref (X.1 + 0)), (1, .int a0), (2, .int a1)] [] S := by
  unfold fX7_cell at h
  refine g_iload_n dX7_cell_0 1 rfl rfl ?_
  obtain ⟨q1, hq1, h⟩ := gb h
  refine g_callSi [.int a0] [] dX7_cell_1 mk_X7_91 (ctX7_isCell hq1) rfl (by decide) rfl (Nat.le_of_ble_eq_true rfl) ?_
  refine g_if_ne (tgt := 10) dX7_cell_4 (by decide) (fun hc2 => ?_) (fun hc2 => ?_)
  · replace h := gif hc2 h
    refine g_iload_n dX7_cell_10 2 rfl rfl ?_
    by_cases hc3 : a1 = 0
    · replace h := git hc3 h
      refine g_tabIn (off := 33) (tgt := 44) dX7_cell_11 (by have z := hc3; (try unfold g_I at z); rw [z]; decide) (by have z := hc3; (try unfold g_I at z); rw [z]; decide) (by have z := hc3; (try unfold g_I at z); rw [z]; rfl) (by decide) ?_
      refine g_aload_n dX7_cell_44 0 rfl rfl ?_
      refine g_getr dX7_cell_45 lk_X7_10 sf_0_0 ?_
      refine g_iload_n dX7_cell_48 1 rfl rfl ?_
      obtain ⟨q4, hq4, h⟩ := gb h
      refine g_callVi [.int a0] [] dX7_cell_49 mk_X7_94 so_1 (ctX0_kindOf hq4) rfl (by decide) rfl (Nat.le_of_ble_eq_true rfl) ?_
      obtain rfl := Option.some.inj h
      exact g_iret dX7_cell_52 rfl
    · replace h := gif hc3 h
      by_cases hc5 : a1 = 1
      · replace h := git hc5 h
        refine g_tabIn (off := 42) (tgt := 53) dX7_cell_11 (by have z := hc5; (try unfold g_I at z); rw [z]; decide) (by have z := hc5; (try unfold g_I at z); rw [z]; decide) (by have z := hc5; (try unfold g_I at z); rw [z]; rfl) (by decide) ?_
        refine g_aload_n dX7_cell_53 0 rfl rfl ?_
        refine g_getr dX7_cell_54 lk_X7_19 sf_0_1 ?_
        refine g_getr dX7_cell_57 lk_X7_98 sf_3_0 ?_
        refine g_iload_n dX7_cell_60 1 rfl rfl ?_
        obtain ⟨hv6, h⟩ := gchk h
        refine g_iald dX7_cell_61 sa_4 hv6 ?_
        obtain rfl := Option.some.inj h
        exact g_iret dX7_cell_62 rfl
      · replace h := gif hc5 h
        by_cases hc7 : a1 = 2
        · replace h := git hc7 h
          refine g_tabIn (off := 52) (tgt := 63) dX7_cell_11 (by have z := hc7; (try unfold g_I at z); rw [z]; decide) (by have z := hc7; (try unfold g_I at z); rw [z]; decide) (by have z := hc7; (try unfold g_I at z); rw [z]; rfl) (by decide) ?_
          refine g_aload_n dX7_cell_63 0 rfl rfl ?_
          refine g_getr dX7_cell_64 lk_X7_19 sf_0_1 ?_
          refine g_getr dX7_cell_67 lk_X7_102 sf_3_1 ?_
          refine g_iload_n dX7_cell_70 1 rfl rfl ?_
          obtain ⟨hv8, h⟩ := gchk h
          refine g_iald dX7_cell_71 sa_5 hv8 ?_
          obtain rfl := Option.some.inj h
          exact g_iret dX7_cell_72 rfl
        · replace h := gif hc7 h
          by_cases hc9 : a1 = 3
          · replace h := git hc9 h
            refine g_tabIn (off := 62) (tgt := 73) dX7_cell_11 (by have z := hc9; (try unfold g_I at z); rw [z]; decide) (by have z := hc9; (try unfold g_I at z); rw [z]; decide) (by have z := hc9; (try unfold g_I at z); rw [z]; rfl) (by decide) ?_
            refine g_aload_n dX7_cell_73 0 rfl rfl ?_
            refine g_getr dX7_cell_74 lk_X7_19 sf_0_1 ?_
            refine g_getr dX7_cell_77 lk_X7_105 sf_3_2 ?_
            refine g_iload_n dX7_cell_80 1 rfl rfl ?_
            obtain ⟨hv10, h⟩ := gchk h
            refine g_iald dX7_cell_81 sa_6 hv10 ?_
            obtain rfl := Option.some.inj h
            exact g_iret dX7_cell_82 rfl
          · replace h := gif hc9 h
            by_cases hc11 : a1 = 4
            · replace h := git hc11 h
              refine g_tabIn (off := 72) (tgt := 83) dX7_cell_11 (by have z := hc11; (try unfold g_I at z); rw [z]; decide) (by have z := hc11; (try unfold g_I at z); rw [z]; decide) (by have z := hc11; (try unfold g_I at z); rw [z]; rfl) (by decide) ?_
              refine g_aload_n dX7_cell_83 0 rfl rfl ?_
              refine g_getr dX7_cell_84 lk_X7_19 sf_0_1 ?_
              refine g_getr dX7_cell_87 lk_X7_108 sf_3_3 ?_
              refine g_iload_n dX7_cell_90 1 rfl rfl ?_
              obtain ⟨hv12, h⟩ := gchk h
              refine g_iald dX7_cell_91 sa_7 hv12 ?_
              obtain rfl := Option.some.inj h
              exact g_iret dX7_cell_92 rfl
            · replace h := gif hc11 h
              refine g_tabOut (tgt := 93) dX7_cell_11 (g_tout (fun c h1 h2 => by have z0 := g_tne hc3; have z1 := g_tne hc5; have z2 := g_tne hc7; have z3 := g_tne hc9; have z4 := g_tne hc11; rw [show ((0 : Int32)).toInt = 0 from by decide] at z0; rw [show ((1 : Int32)).toInt = 1 from by decide] at z1; rw [show ((2 : Int32)).toInt = 2 from by decide] at z2; rw [show ((3 : Int32)).toInt = 3 from by decide] at z3; rw [show ((4 : Int32)).toInt = 4 from by decide] at z4; omega)) (by decide) ?_
              refine g_bipush (v := -2) dX7_cell_93 (by decide) ?_
              obtain rfl := Option.some.inj h
              exact g_iret dX7_cell_95 rfl
  · replace h := git hc2 h
    refine g_bipush (v := -2) dX7_cell_7 (by decide) ?_
    obtain rfl := Option.some.inj h
    exact g_iret dX7_cell_9 rfl
theorem ctX7_cell {X : gX} {F : Nat} {R : Int32 × gS} {a0 : Int32} {a1 : Int32} {S : gS} (h : fX7_cell F a0 a1 S = some R) : g_C X yX7_cell cX7_cell 3 (some .int) 2 [.ref (X.1 + 0), .int a0, .int a1] S (some (.int R.1)) R.2 :=
  g_met (by decide) (Nat.le_of_ble_eq_true rfl) (fX7_cell_ok h)
noncomputable def fX7_snows (F : Nat) (a0 : Int32) (S : gS) : Option (Int32 × gS) := if a0 < 0 then (some ((-2 : Int32), S)) else (if a0 ≤ (9 : Int32) then ((fX1_addSnow F a0 (g_J S 1 3) S).bind (fun q3 : Int32 × gS => some (q3.1, q3.2))) else (some ((-2 : Int32), S)))
set_option maxRecDepth 20000 in
theorem fX7_snows_ok {X : gX} {F : Nat} {R : Int32 × gS} {a0 : Int32} {S : gS} (h : fX7_snows F a0 S = some R) : G X RX7 cX7_snows 2 (some .int) 2 (some (.int R.1)) R.2 0 [(0, .ref (X.1 + 0)), (1, .int a0)] [] S := by
  unfold fX7_snows at h
  refine g_iload_n dX7_snows_0 1 rfl rfl ?_
  refine g_if_lt (tgt := 10) dX7_snows_1 (by decide) (fun hc1 => ?_) (fun hc1 => ?_)
  · replace h := git hc1 h
    refine g_bipush (v := -2) dX7_snows_10 (by decide) ?_
    refine g_goto (tgt := 30) dX7_snows_12 (by decide) ?_
    obtain rfl := Option.some.inj h
    exact g_iret dX7_snows_30 rfl
  · replace h := gif hc1 h
    refine g_iload_n dX7_snows_4 1 rfl rfl ?_
    refine g_bipush (v := 9) dX7_snows_5 (by decide) ?_
    refine g_icmp_le (tgt := 15) dX7_snows_7 (by decide) (fun hc2 => ?_) (fun hc2 => ?_)
    · replace h := git hc2 h
      refine g_aload_n dX7_snows_15 0 rfl rfl ?_
      refine g_getr dX7_snows_16 lk_X7_19 sf_0_1 ?_
      refine g_iload_n dX7_snows_19 1 rfl rfl ?_
      refine g_aload_n dX7_snows_20 0 rfl rfl ?_
      refine g_getr dX7_snows_21 lk_X7_10 sf_0_0 ?_
      refine g_getj dX7_snows_24 lk_X7_111 sf_1_3 ?_
      obtain ⟨q3, hq3, h⟩ := gb h
      refine g_callVi [.int a0, .long (g_J S 1 3)] [] dX7_snows_27 mk_X7_115 so_3 (ctX1_addSnow hq3) rfl (by decide) rfl (Nat.le_of_ble_eq_true rfl) ?_
      obtain rfl := Option.some.inj h
      exact g_iret dX7_snows_30 rfl
    · replace h := gif hc2 h
      refine g_bipush (v := -2) dX7_snows_10 (by decide) ?_
      refine g_goto (tgt := 30) dX7_snows_12 (by decide) ?_
      obtain rfl := Option.some.inj h
      exact g_iret dX7_snows_30 rfl
theorem ctX7_snows {X : gX} {F : Nat} {R : Int32 × gS} {a0 : Int32} {S : gS} (h : fX7_snows F a0 S = some R) : g_C X yX7_snows cX7_snows 2 (some .int) 2 [.ref (X.1 + 0), .int a0] S (some (.int R.1)) R.2 :=
  g_met (by decide) (Nat.le_of_ble_eq_true rfl) (fX7_snows_ok h)
noncomputable def fX7_thaws (F : Nat) (a0 : Int32) (S : gS) : Option (Int32 × gS) := if a0 < 0 then (some ((-2 : Int32), S)) else (if a0 ≤ (9 : Int32) then ((fX1_melt F a0 S).bind (fun q3 : Int32 × gS => some (q3.1, q3.2))) else (some ((-2 : Int32), S)))
set_option maxRecDepth 20000 in
theorem fX7_thaws_ok {X : gX} {F : Nat} {R : Int32 × gS} {a0 : Int32} {S : gS} (h : fX7_thaws F a0 S = some R) : G X RX7 cX7_thaws 2 (some .int) 2 (some (.int R.1)) R.2 0 [(0, .ref (X.1 + 0)), (1, .int a0)] [] S := by
  unfold fX7_thaws at h
  refine g_iload_n dX7_thaws_0 1 rfl rfl ?_
  refine g_if_lt (tgt := 10) dX7_thaws_1 (by decide) (fun hc1 => ?_) (fun hc1 => ?_)
  · replace h := git hc1 h
    refine g_bipush (v := -2) dX7_thaws_10 (by decide) ?_
    refine g_goto (tgt := 23) dX7_thaws_12 (by decide) ?_
    obtain rfl := Option.some.inj h
    exact g_iret dX7_thaws_23 rfl
  · replace h := gif hc1 h
    refine g_iload_n dX7_thaws_4 1 rfl rfl ?_
    refine g_bipush (v := 9) dX7_thaws_5 (by decide) ?_
    refine g_icmp_le (tgt := 15) dX7_thaws_7 (by decide) (fun hc2 => ?_) (fun hc2 => ?_)
    · replace h := git hc2 h
      refine g_aload_n dX7_thaws_15 0 rfl rfl ?_
      refine g_getr dX7_thaws_16 lk_X7_19 sf_0_1 ?_
      refine g_iload_n dX7_thaws_19 1 rfl rfl ?_
      obtain ⟨q3, hq3, h⟩ := gb h
      refine g_callVi [.int a0] [] dX7_thaws_20 mk_X7_119 so_3 (ctX1_melt hq3) rfl (by decide) rfl (Nat.le_of_ble_eq_true rfl) ?_
      obtain rfl := Option.some.inj h
      exact g_iret dX7_thaws_23 rfl
    · replace h := gif hc2 h
      refine g_bipush (v := -2) dX7_thaws_10 (by decide) ?_
      refine g_goto (tgt := 23) dX7_thaws_12 (by decide) ?_
      obtain rfl := Option.some.inj h
      exact g_iret dX7_thaws_23 rfl
theorem ctX7_thaws {X : gX} {F : Nat} {R : Int32 × gS} {a0 : Int32} {S : gS} (h : fX7_thaws F a0 S = some R) : g_C X yX7_thaws cX7_thaws 2 (some .int) 2 [.ref (X.1 + 0), .int a0] S (some (.int R.1)) R.2 :=
  g_met (by decide) (Nat.le_of_ble_eq_true rfl) (fX7_thaws_ok h)
noncomputable def fX7_freezes (F : Nat) (S : gS) : Option (Int32 × gS) := (fX1_freeze F S).bind (fun q1 : Int32 × gS => some (q1.1, q1.2))
set_option maxRecDepth 20000 in
theorem fX7_freezes_ok {X : gX} {F : Nat} {R : Int32 × gS} {S : gS} (h : fX7_freezes F S = some R) : G X RX7 cX7_freezes 1 (some .int) 1 (some (.int R.1)) R.2 0 [(0, .ref (X.1 + 0))] [] S := by
  unfold fX7_freezes at h
  refine g_aload_n dX7_freezes_0 0 rfl rfl ?_
  refine g_getr dX7_freezes_1 lk_X7_19 sf_0_1 ?_
  obtain ⟨q1, hq1, h⟩ := gb h
  refine g_callVi [] [] dX7_freezes_4 mk_X7_122 so_3 (ctX1_freeze hq1) rfl (by decide) rfl (Nat.le_of_ble_eq_true rfl) ?_
  obtain rfl := Option.some.inj h
  exact g_iret dX7_freezes_7 rfl
theorem ctX7_freezes {X : gX} {F : Nat} {R : Int32 × gS} {S : gS} (h : fX7_freezes F S = some R) : g_C X yX7_freezes cX7_freezes 1 (some .int) 1 [.ref (X.1 + 0)] S (some (.int R.1)) R.2 :=
  g_met (by decide) (Nat.le_of_ble_eq_true rfl) (fX7_freezes_ok h)
noncomputable def fX7_clear (F : Nat) (a0 : Int32) (a1 : Int32) (S : gS) : Option (Int32 × gS) := (fX7_isCell F a0 S).bind (fun q1 : Int32 × gS => if q1.1 = 0 then (some ((-2 : Int32), q1.2)) else (if a1 < 0 then (some ((-2 : Int32), q1.2)) else (if a1 ≤ (3 : Int32) then ((fX7_beside F a0 a1 q1.2).bind (fun q5 : Int32 × gS => gl q5.1 (fun v6 : Int32 => if v6 = (-1 : Int32) then (some ((-3 : Int32), q5.2)) else ((fX7_has F (g_J q5.2 1 3) a0 q5.2).bind (fun q8 : Int32 × gS => if q8.1 = 0 then ((fX7_has F (g_J q8.2 1 3) v6 q8.2).bind (fun q10 : Int32 × gS => if q10.1 = 0 then ((fX1_shovel F a0 v6 q10.2).bind (fun q12 : Int32 × gS => some (q12.1, q12.2))) else (some ((-3 : Int32), q10.2)))) else (some ((-3 : Int32), q8.2))))))) else (some ((-2 : Int32), q1.2)))))
set_option maxRecDepth 20000 in
theorem fX7_clear_ok {X : gX} {F : Nat} {R : Int32 × gS} {a0 : Int32} {a1 : Int32} {S : gS} (h : fX7_clear F a0 a1 S = some R) : G X RX7 cX7_clear 4 (some .int) 2 (some (.int R.1)) R.2 0 [(0, .ref (X.1 + 0)), (1, .int a0), (2, .int a1)] [] S := by
  unfold fX7_clear at h
  refine g_iload_n dX7_clear_0 1 rfl rfl ?_
  obtain ⟨q1, hq1, h⟩ := gb h
  refine g_callSi [.int a0] [] dX7_clear_1 mk_X7_91 (ctX7_isCell hq1) rfl (by decide) rfl (Nat.le_of_ble_eq_true rfl) ?_
  refine g_if_eq (tgt := 16) dX7_clear_4 (by decide) (fun hc2 => ?_) (fun hc2 => ?_)
  · replace h := git hc2 h
    refine g_bipush (v := -2) dX7_clear_16 (by decide) ?_
    obtain rfl := Option.some.inj h
    exact g_iret dX7_clear_18 rfl
  · replace h := gif hc2 h
    refine g_iload_n dX7_clear_7 2 rfl rfl ?_
    refine g_if_lt (tgt := 16) dX7_clear_8 (by decide) (fun hc3 => ?_) (fun hc3 => ?_)
    · replace h := git hc3 h
      refine g_bipush (v := -2) dX7_clear_16 (by decide) ?_
      obtain rfl := Option.some.inj h
      exact g_iret dX7_clear_18 rfl
    · replace h := gif hc3 h
      refine g_iload_n dX7_clear_11 2 rfl rfl ?_
      refine g_iconst (v := 3) dX7_clear_12 (by decide) ?_
      refine g_icmp_le (tgt := 19) dX7_clear_13 (by decide) (fun hc4 => ?_) (fun hc4 => ?_)
      · replace h := git hc4 h
        refine g_iload_n dX7_clear_19 1 rfl rfl ?_
        refine g_iload_n dX7_clear_20 2 rfl rfl ?_
        obtain ⟨q5, hq5, h⟩ := gb h
        refine g_callSi [.int a0, .int a1] [] dX7_clear_21 mk_X7_126 (ctX7_beside hq5) rfl (by decide) rfl (Nat.le_of_ble_eq_true rfl) ?_
        obtain ⟨v6, ev6, h⟩ := gle h
        refine g_istore_n (lv' := [(3, .int v6), (0, .ref (X.1 + 0)), (1, .int a0), (2, .int a1)]) dX7_clear_24 ev6 rfl (by decide) rfl ?_
        refine g_iload_n dX7_clear_25 0 rfl rfl ?_
        refine g_iconst (v := -1) dX7_clear_26 (by decide) ?_
        refine g_icmp_eq (tgt := 58) dX7_clear_27 (by decide) (fun hc7 => ?_) (fun hc7 => ?_)
        · replace h := git hc7 h
          refine g_bipush (v := -3) dX7_clear_58 (by decide) ?_
          obtain rfl := Option.some.inj h
          exact g_iret dX7_clear_60 rfl
        · replace h := gif hc7 h
          refine g_aload_n dX7_clear_30 1 rfl rfl ?_
          refine g_getr dX7_clear_31 lk_X7_10 sf_0_0 ?_
          refine g_getj dX7_clear_34 lk_X7_111 sf_1_3 ?_
          refine g_iload_n dX7_clear_37 2 rfl rfl ?_
          obtain ⟨q8, hq8, h⟩ := gb h
          refine g_callSi [.long (g_J q5.2 1 3), .int a0] [] dX7_clear_38 mk_X7_130 (ctX7_has hq8) rfl (by decide) rfl (Nat.le_of_ble_eq_true rfl) ?_
          refine g_if_ne (tgt := 58) dX7_clear_41 (by decide) (fun hc9 => ?_) (fun hc9 => ?_)
          · replace h := gif hc9 h
            refine g_bipush (v := -3) dX7_clear_58 (by decide) ?_
            obtain rfl := Option.some.inj h
            exact g_iret dX7_clear_60 rfl
          · replace h := git hc9 h
            refine g_aload_n dX7_clear_44 1 rfl rfl ?_
            refine g_getr dX7_clear_45 lk_X7_10 sf_0_0 ?_
            refine g_getj dX7_clear_48 lk_X7_111 sf_1_3 ?_
            refine g_iload_n dX7_clear_51 0 rfl rfl ?_
            obtain ⟨q10, hq10, h⟩ := gb h
            refine g_callSi [.long (g_J q8.2 1 3), .int v6] [] dX7_clear_52 mk_X7_130 (ctX7_has hq10) rfl (by decide) rfl (Nat.le_of_ble_eq_true rfl) ?_
            refine g_if_eq (tgt := 61) dX7_clear_55 (by decide) (fun hc11 => ?_) (fun hc11 => ?_)
            · replace h := git hc11 h
              refine g_aload_n dX7_clear_61 1 rfl rfl ?_
              refine g_getr dX7_clear_62 lk_X7_19 sf_0_1 ?_
              refine g_iload_n dX7_clear_65 2 rfl rfl ?_
              refine g_iload_n dX7_clear_66 0 rfl rfl ?_
              obtain ⟨q12, hq12, h⟩ := gb h
              refine g_callVi [.int a0, .int v6] [] dX7_clear_67 mk_X7_134 so_3 (ctX1_shovel hq12) rfl (by decide) rfl (Nat.le_of_ble_eq_true rfl) ?_
              obtain rfl := Option.some.inj h
              exact g_iret dX7_clear_70 rfl
            · replace h := gif hc11 h
              refine g_bipush (v := -3) dX7_clear_58 (by decide) ?_
              obtain rfl := Option.some.inj h
              exact g_iret dX7_clear_60 rfl
      · replace h := gif hc4 h
        refine g_bipush (v := -2) dX7_clear_16 (by decide) ?_
        obtain rfl := Option.some.inj h
        exact g_iret dX7_clear_18 rfl
theorem ctX7_clear {X : gX} {F : Nat} {R : Int32 × gS} {a0 : Int32} {a1 : Int32} {S : gS} (h : fX7_clear F a0 a1 S = some R) : g_C X yX7_clear cX7_clear 4 (some .int) 2 [.ref (X.1 + 0), .int a0, .int a1] S (some (.int R.1)) R.2 :=
  g_met (by decide) (Nat.le_of_ble_eq_true rfl) (fX7_clear_ok h)
noncomputable def fX7_found (F : Nat) (a0 : Int32) (S : gS) : Option (Int32 × gS) := gl (g_setI S 0 7 a0) (fun S1 : gS => some (((-10 : Int32) - a0), S1))
set_option maxRecDepth 20000 in
theorem fX7_found_ok {X : gX} {F : Nat} {R : Int32 × gS} {a0 : Int32} {S : gS} (h : fX7_found F a0 S = some R) : G X RX7 cX7_found 2 (some .int) 0 (some (.int R.1)) R.2 0 [(0, .ref (X.1 + 0)), (1, .int a0)] [] S := by
  unfold fX7_found at h
  refine g_aload_n dX7_found_0 0 rfl rfl ?_
  refine g_iload_n dX7_found_1 1 rfl rfl ?_
  obtain ⟨S1, eS1, h⟩ := gle h
  refine g_puti dX7_found_2 lp_X7_61 sf_0_7 eS1 ?_
  refine g_bipush (v := -10) dX7_found_5 (by decide) ?_
  refine g_iload_n dX7_found_7 1 rfl rfl ?_
  refine g_isub dX7_found_8 ?_
  obtain rfl := Option.some.inj h
  exact g_iret dX7_found_9 rfl
theorem ctX7_found {X : gX} {F : Nat} {R : Int32 × gS} {a0 : Int32} {S : gS} (h : fX7_found F a0 S = some R) : g_C X yX7_found cX7_found 2 (some .int) 0 [.ref (X.1 + 0), .int a0] S (some (.int R.1)) R.2 :=
  g_met (by decide) (Nat.le_of_ble_eq_true rfl) (fX7_found_ok h)
noncomputable def fX7_isSheet (F : Nat) (a0 : Int32) (S : gS) : Option (Int32 × gS) := if a0 < 0 then (some ((0 : Int32), S)) else (if (4 : Int32) ≤ a0 then (some ((0 : Int32), S)) else (some ((1 : Int32), S)))
set_option maxRecDepth 20000 in
theorem fX7_isSheet_ok {X : gX} {F : Nat} {R : Int32 × gS} {a0 : Int32} {S : gS} (h : fX7_isSheet F a0 S = some R) : G X RX7 cX7_isSheet 1 (some .boolean) 0 (some (.int R.1)) R.2 0 [(0, .int a0)] [] S := by
  unfold fX7_isSheet at h
  refine g_iload_n dX7_isSheet_0 0 rfl rfl ?_
  refine g_if_lt (tgt := 13) dX7_isSheet_1 (by decide) (fun hc1 => ?_) (fun hc1 => ?_)
  · replace h := git hc1 h
    refine g_iconst (v := 0) dX7_isSheet_13 (by decide) ?_
    obtain rfl := Option.some.inj h
    exact g_zret dX7_isSheet_14 rfl narrow_b0
  · replace h := gif hc1 h
    refine g_iload_n dX7_isSheet_4 0 rfl rfl ?_
    refine g_iconst (v := 4) dX7_isSheet_5 (by decide) ?_
    refine g_icmp_ge (tgt := 13) dX7_isSheet_6 (by decide) (fun hc2 => ?_) (fun hc2 => ?_)
    · replace h := git hc2 h
      refine g_iconst (v := 0) dX7_isSheet_13 (by decide) ?_
      obtain rfl := Option.some.inj h
      exact g_zret dX7_isSheet_14 rfl narrow_b0
    · replace h := gif hc2 h
      refine g_iconst (v := 1) dX7_isSheet_9 (by decide) ?_
      refine g_goto (tgt := 14) dX7_isSheet_10 (by decide) ?_
      obtain rfl := Option.some.inj h
      exact g_zret dX7_isSheet_14 rfl narrow_b1
theorem ctX7_isSheet {X : gX} {F : Nat} {R : Int32 × gS} {a0 : Int32} {S : gS} (h : fX7_isSheet F a0 S = some R) : g_C X yX7_isSheet cX7_isSheet 1 (some .boolean) 0 [.int a0] S (some (.int R.1)) R.2 :=
  g_met (by decide) (Nat.le_of_ble_eq_true rfl) (fX7_isSheet_ok h)
noncomputable def fX7_read (F : Nat) (a0 : Int32) (S : gS) : Option (Int32 × gS) := (fX7_isSheet F a0 S).bind (fun q1 : Int32 × gS => if q1.1 = 0 then (some ((-2 : Int32), q1.2)) else (g_chk a0 4 ((fX5_isLost F (43 + 2 * (a0).toNatClampNeg) q1.2).bind (fun q4 : Int32 × gS => if q4.1 = 0 then (g_chk a0 4 ((fX1_setSnow F (43 + 2 * (a0).toNatClampNeg) q4.2).bind (fun q7 : Int32 × gS => some (q7.1, q7.2)))) else ((fX7_found F (1 : Int32) q4.2).bind (fun q8 : Int32 × gS => some (q8.1, q8.2)))))))
set_option maxRecDepth 20000 in
theorem fX7_read_ok {X : gX} {F : Nat} {R : Int32 × gS} {a0 : Int32} {S : gS} (h : fX7_read F a0 S = some R) : G X RX7 cX7_read 2 (some .int) 1 (some (.int R.1)) R.2 0 [(0, .ref (X.1 + 0)), (1, .int a0)] [] S := by
  unfold fX7_read at h
  refine g_iload_n dX7_read_0 1 rfl rfl ?_
  obtain ⟨q1, hq1, h⟩ := gb h
  refine g_callSi [.int a0] [] dX7_read_1 mk_X7_137 (ctX7_isSheet hq1) rfl (by decide) rfl (Nat.le_of_ble_eq_true rfl) ?_
  refine g_if_ne (tgt := 10) dX7_read_4 (by decide) (fun hc2 => ?_) (fun hc2 => ?_)
  · replace h := gif hc2 h
    refine g_aload_n dX7_read_10 0 rfl rfl ?_
    refine g_getr dX7_read_11 lk_X7_57 sf_0_6 ?_
    refine g_iload_n dX7_read_14 1 rfl rfl ?_
    obtain ⟨hv3, h⟩ := gchk h
    refine g_aald4 dX7_read_15 sa_42 hv3 ?_
    obtain ⟨q4, hq4, h⟩ := gb h
    refine g_callVi [] [] dX7_read_16 mk_X7_140 (sht_o (sht_at hv3)) (ctX5_isLost (sht_at hv3) hq4) rfl (by decide) rfl (Nat.le_of_ble_eq_true rfl) ?_
    refine g_if_eq (tgt := 28) dX7_read_19 (by decide) (fun hc5 => ?_) (fun hc5 => ?_)
    · replace h := git hc5 h
      refine g_aload_n dX7_read_28 0 rfl rfl ?_
      refine g_getr dX7_read_29 lk_X7_19 sf_0_1 ?_
      refine g_aload_n dX7_read_32 0 rfl rfl ?_
      refine g_getr dX7_read_33 lk_X7_57 sf_0_6 ?_
      refine g_iload_n dX7_read_36 1 rfl rfl ?_
      obtain ⟨hv6, h⟩ := gchk h
      refine g_aald4 dX7_read_37 sa_42 hv6 ?_
      obtain ⟨q7, hq7, h⟩ := gb h
      refine g_callVi [.ref (X.1 + (43 + 2 * (a0).toNatClampNeg))] [] dX7_read_38 mk_X7_147 so_3 (ctX1_setSnow (sht_at hv6) hq7) rfl (by decide) rfl (Nat.le_of_ble_eq_true rfl) ?_
      obtain rfl := Option.some.inj h
      exact g_iret dX7_read_41 rfl
    · replace h := gif hc5 h
      refine g_aload_n dX7_read_22 0 rfl rfl ?_
      refine g_iconst (v := 1) dX7_read_23 (by decide) ?_
      obtain ⟨q8, hq8, h⟩ := gb h
      refine g_callVi [.int (1 : Int32)] [] dX7_read_24 mk_X7_144 so_0 (ctX7_found hq8) rfl (by decide) rfl (Nat.le_of_ble_eq_true rfl) ?_
      obtain rfl := Option.some.inj h
      exact g_iret dX7_read_27 rfl
  · replace h := git hc2 h
    refine g_bipush (v := -2) dX7_read_7 (by decide) ?_
    obtain rfl := Option.some.inj h
    exact g_iret dX7_read_9 rfl
theorem ctX7_read {X : gX} {F : Nat} {R : Int32 × gS} {a0 : Int32} {S : gS} (h : fX7_read F a0 S = some R) : g_C X yX7_read cX7_read 2 (some .int) 1 [.ref (X.1 + 0), .int a0] S (some (.int R.1)) R.2 :=
  g_met (by decide) (Nat.le_of_ble_eq_true rfl) (fX7_read_ok h)
noncomputable def fX7_walker (F : Nat) (a0 : Int32) (a1 : Int32) (S : gS) : Option (Int32 × gS) := (fX7_isCell F a0 S).bind (fun q1 : Int32 × gS => if q1.1 = 0 then (some ((-2 : Int32), q1.2)) else ((fX7_isCell F a1 q1.2).bind (fun q3 : Int32 × gS => if q3.1 = 0 then (some ((-2 : Int32), q3.2)) else ((fX6_join F a0 a1 q3.2).bind (fun q5 : Int32 × gS => if q5.1 = 0 then (some ((-4 : Int32), q5.2)) else (some (((g_I q5.2 9 2) - (1 : Int32)), q5.2)))))))
set_option maxRecDepth 20000 in
theorem fX7_walker_ok {X : gX} {F : Nat} {R : Int32 × gS} {a0 : Int32} {a1 : Int32} {S : gS} (h : fX7_walker F a0 a1 S = some R) : G X RX7 cX7_walker 3 (some .int) 1 (some (.int R.1)) R.2 0 [(0, .ref (X.1 + 0)), (1, .int a0), (2, .int a1)] [] S := by
  unfold fX7_walker at h
  refine g_iload_n dX7_walker_0 1 rfl rfl ?_
  obtain ⟨q1, hq1, h⟩ := gb h
  refine g_callSi [.int a0] [] dX7_walker_1 mk_X7_91 (ctX7_isCell hq1) rfl (by decide) rfl (Nat.le_of_ble_eq_true rfl) ?_
  refine g_if_eq (tgt := 14) dX7_walker_4 (by decide) (fun hc2 => ?_) (fun hc2 => ?_)
  · replace h := git hc2 h
    refine g_bipush (v := -2) dX7_walker_14 (by decide) ?_
    obtain rfl := Option.some.inj h
    exact g_iret dX7_walker_16 rfl
  · replace h := gif hc2 h
    refine g_iload_n dX7_walker_7 2 rfl rfl ?_
    obtain ⟨q3, hq3, h⟩ := gb h
    refine g_callSi [.int a1] [] dX7_walker_8 mk_X7_91 (ctX7_isCell hq3) rfl (by decide) rfl (Nat.le_of_ble_eq_true rfl) ?_
    refine g_if_ne (tgt := 17) dX7_walker_11 (by decide) (fun hc4 => ?_) (fun hc4 => ?_)
    · replace h := gif hc4 h
      refine g_aload_n dX7_walker_17 0 rfl rfl ?_
      refine g_getr dX7_walker_18 lk_X7_26 sf_0_2 ?_
      refine g_iload_n dX7_walker_21 1 rfl rfl ?_
      refine g_iload_n dX7_walker_22 2 rfl rfl ?_
      obtain ⟨q5, hq5, h⟩ := gb h
      refine g_callVi [.int a0, .int a1] [] dX7_walker_23 mk_X7_151 so_9 (ctX6_join hq5) rfl (by decide) rfl (Nat.le_of_ble_eq_true rfl) ?_
      refine g_if_eq (tgt := 41) dX7_walker_26 (by decide) (fun hc6 => ?_) (fun hc6 => ?_)
      · replace h := git hc6 h
        refine g_bipush (v := -4) dX7_walker_41 (by decide) ?_
        obtain rfl := Option.some.inj h
        exact g_iret dX7_walker_43 rfl
      · replace h := gif hc6 h
        refine g_aload_n dX7_walker_29 0 rfl rfl ?_
        refine g_getr dX7_walker_30 lk_X7_26 sf_0_2 ?_
        refine g_geti dX7_walker_33 lk_X7_155 sf_9_2 ?_
        refine g_iconst (v := 1) dX7_walker_36 (by decide) ?_
        refine g_isub dX7_walker_37 ?_
        refine g_goto (tgt := 43) dX7_walker_38 (by decide) ?_
        obtain rfl := Option.some.inj h
        exact g_iret dX7_walker_43 rfl
    · replace h := git hc4 h
      refine g_bipush (v := -2) dX7_walker_14 (by decide) ?_
      obtain rfl := Option.some.inj h
      exact g_iret dX7_walker_16 rfl
theorem ctX7_walker {X : gX} {F : Nat} {R : Int32 × gS} {a0 : Int32} {a1 : Int32} {S : gS} (h : fX7_walker F a0 a1 S = some R) : g_C X yX7_walker cX7_walker 3 (some .int) 1 [.ref (X.1 + 0), .int a0, .int a1] S (some (.int R.1)) R.2 :=
  g_met (by decide) (Nat.le_of_ble_eq_true rfl) (fX7_walker_ok h)
noncomputable def fX7_gone (F : Nat) (S : gS) : Option (Int32 × gS) := gl (g_I S 9 2) (fun v1 : Int32 => gl (g_setI S 9 2 (0 : Int32)) (fun S2 : gS => some (v1, S2)))
set_option maxRecDepth 20000 in
theorem fX7_gone_ok {X : gX} {F : Nat} {R : Int32 × gS} {S : gS} (h : fX7_gone F S = some R) : G X RX7 cX7_gone 2 (some .int) 0 (some (.int R.1)) R.2 0 [(0, .ref (X.1 + 0))] [] S := by
  unfold fX7_gone at h
  refine g_aload_n dX7_gone_0 0 rfl rfl ?_
  refine g_getr dX7_gone_1 lk_X7_26 sf_0_2 ?_
  refine g_geti dX7_gone_4 lk_X7_155 sf_9_2 ?_
  obtain ⟨v1, ev1, h⟩ := gle h
  refine g_istore_n (lv' := [(1, .int v1), (0, .ref (X.1 + 0))]) dX7_gone_7 ev1 rfl (by decide) rfl ?_
  refine g_aload_n dX7_gone_8 1 rfl rfl ?_
  refine g_getr dX7_gone_9 lk_X7_26 sf_0_2 ?_
  refine g_iconst (v := 0) dX7_gone_12 (by decide) ?_
  obtain ⟨S2, eS2, h⟩ := gle h
  refine g_puti dX7_gone_13 lp_X7_155 sf_9_2 eS2 ?_
  refine g_iload_n dX7_gone_16 0 rfl rfl ?_
  obtain rfl := Option.some.inj h
  exact g_iret dX7_gone_17 rfl
theorem ctX7_gone {X : gX} {F : Nat} {R : Int32 × gS} {S : gS} (h : fX7_gone F S = some R) : g_C X yX7_gone cX7_gone 2 (some .int) 0 [.ref (X.1 + 0)] S (some (.int R.1)) R.2 :=
  g_met (by decide) (Nat.le_of_ble_eq_true rfl) (fX7_gone_ok h)
noncomputable def fX7_plan (F : Nat) (a0 : Int32) (a1 : Int32) (a2 : Int32) (S : gS) : Option (Int32 × gS) := (fX7_isCell F a0 S).bind (fun q1 : Int32 × gS => if q1.1 = 0 then (some ((-2 : Int32), q1.2)) else ((fX7_isCell F a1 q1.2).bind (fun q3 : Int32 × gS => if q3.1 = 0 then (some ((-2 : Int32), q3.2)) else (if (-1 : Int32) ≤ a2 then ((fX7_has F (g_J q3.2 1 4) a0 q3.2).bind (fun q6 : Int32 × gS => if q6.1 = 0 then ((fX4_find F 4 a0 a1 (g_J q6.2 1 3) q6.2).bind (fun q8 : Int32 × gS => gl q8.1 (fun v9 : Int32 => if a2 = (-1 : Int32) then (some (v9, q8.2)) else (if (g_I q8.2 12 3) ≤ a2 then (some ((-1 : Int32), q8.2)) else (g_chk a2 64 (some ((g_I q8.2 15 (a2).toNatClampNeg), q8.2))))))) else (some ((-1 : Int32), q6.2)))) else (some ((-2 : Int32), q3.2))))))
set_option maxRecDepth 20000 in
theorem fX7_plan_ok {X : gX} {F : Nat} {R : Int32 × gS} {a0 : Int32} {a1 : Int32} {a2 : Int32} {S : gS} (h : fX7_plan F a0 a1 a2 S = some R) : G X RX7 cX7_plan 5 (some .int) 3 (some (.int R.1)) R.2 0 [(0, .ref (X.1 + 0)), (1, .int a0), (2, .int a1), (3, .int a2)] [] S := by
  unfold fX7_plan at h
  refine g_iload_n dX7_plan_0 1 rfl rfl ?_
  obtain ⟨q1, hq1, h⟩ := gb h
  refine g_callSi [.int a0] [] dX7_plan_1 mk_X7_91 (ctX7_isCell hq1) rfl (by decide) rfl (Nat.le_of_ble_eq_true rfl) ?_
  refine g_if_eq (tgt := 19) dX7_plan_4 (by decide) (fun hc2 => ?_) (fun hc2 => ?_)
  · replace h := git hc2 h
    refine g_bipush (v := -2) dX7_plan_19 (by decide) ?_
    obtain rfl := Option.some.inj h
    exact g_iret dX7_plan_21 rfl
  · replace h := gif hc2 h
    refine g_iload_n dX7_plan_7 2 rfl rfl ?_
    obtain ⟨q3, hq3, h⟩ := gb h
    refine g_callSi [.int a1] [] dX7_plan_8 mk_X7_91 (ctX7_isCell hq3) rfl (by decide) rfl (Nat.le_of_ble_eq_true rfl) ?_
    refine g_if_eq (tgt := 19) dX7_plan_11 (by decide) (fun hc4 => ?_) (fun hc4 => ?_)
    · replace h := git hc4 h
      refine g_bipush (v := -2) dX7_plan_19 (by decide) ?_
      obtain rfl := Option.some.inj h
      exact g_iret dX7_plan_21 rfl
    · replace h := gif hc4 h
      refine g_iload_n dX7_plan_14 3 rfl rfl ?_
      refine g_iconst (v := -1) dX7_plan_15 (by decide) ?_
      refine g_icmp_ge (tgt := 22) dX7_plan_16 (by decide) (fun hc5 => ?_) (fun hc5 => ?_)
      · replace h := git hc5 h
        refine g_aload_n dX7_plan_22 0 rfl rfl ?_
        refine g_getr dX7_plan_23 lk_X7_10 sf_0_0 ?_
        refine g_getj dX7_plan_26 lk_X7_158 sf_1_4 ?_
        refine g_iload_n dX7_plan_29 1 rfl rfl ?_
        obtain ⟨q6, hq6, h⟩ := gb h
        refine g_callSi [.long (g_J q3.2 1 4), .int a0] [] dX7_plan_30 mk_X7_130 (ctX7_has hq6) rfl (by decide) rfl (Nat.le_of_ble_eq_true rfl) ?_
        refine g_if_eq (tgt := 38) dX7_plan_33 (by decide) (fun hc7 => ?_) (fun hc7 => ?_)
        · replace h := git hc7 h
          refine g_aload_n dX7_plan_38 0 rfl rfl ?_
          refine g_getr dX7_plan_39 lk_X7_33 sf_0_3 ?_
          refine g_iload_n dX7_plan_42 1 rfl rfl ?_
          refine g_iload_n dX7_plan_43 2 rfl rfl ?_
          refine g_aload_n dX7_plan_44 0 rfl rfl ?_
          refine g_getr dX7_plan_45 lk_X7_10 sf_0_0 ?_
          refine g_getj dX7_plan_48 lk_X7_111 sf_1_3 ?_
          refine g_aload_n dX7_plan_51 0 rfl rfl ?_
          refine g_getr dX7_plan_52 lk_X7_19 sf_0_1 ?_
          refine g_getr dX7_plan_55 lk_X7_98 sf_3_0 ?_
          obtain ⟨q8, hq8, h⟩ := gb h
          refine g_callVi [.int a0, .int a1, .long (g_J q6.2 1 3), .ref (X.1 + 4)] [] dX7_plan_58 mk_X7_161 so_12 (ctX4_find sa_4 hq8) rfl (by decide) rfl (Nat.le_of_ble_eq_true rfl) ?_
          obtain ⟨v9, ev9, h⟩ := gle h
          refine g_istore (lv' := [(4, .int v9), (0, .ref (X.1 + 0)), (1, .int a0), (2, .int a1), (3, .int a2)]) dX7_plan_61 ev9 (by decide) rfl ?_
          refine g_iload_n dX7_plan_63 4 rfl rfl ?_
          refine g_iconst (v := -1) dX7_plan_64 (by decide) ?_
          refine g_icmp_ne (tgt := 71) dX7_plan_65 (by decide) (fun hc10 => ?_) (fun hc10 => ?_)
          · replace h := gif hc10 h
            refine g_iload_n dX7_plan_71 4 rfl rfl ?_
            refine g_aload_n dX7_plan_72 1 rfl rfl ?_
            refine g_getr dX7_plan_73 lk_X7_33 sf_0_3 ?_
            refine g_geti dX7_plan_76 lk_X7_165 sf_12_3 ?_
            refine g_icmp_ge (tgt := 94) dX7_plan_79 (by decide) (fun hc11 => ?_) (fun hc11 => ?_)
            · replace h := git hc11 h
              refine g_iconst (v := -1) dX7_plan_94 (by decide) ?_
              obtain rfl := Option.some.inj h
              exact g_iret dX7_plan_95 rfl
            · replace h := gif hc11 h
              refine g_aload_n dX7_plan_82 1 rfl rfl ?_
              refine g_getr dX7_plan_83 lk_X7_33 sf_0_3 ?_
              refine g_getr dX7_plan_86 lk_X7_166 sf_12_2 ?_
              refine g_iload_n dX7_plan_89 4 rfl rfl ?_
              obtain ⟨hv12, h⟩ := gchk h
              refine g_iald dX7_plan_90 sa_15 hv12 ?_
              refine g_goto (tgt := 95) dX7_plan_91 (by decide) ?_
              obtain rfl := Option.some.inj h
              exact g_iret dX7_plan_95 rfl
          · replace h := git hc10 h
            refine g_iload dX7_plan_68 0 rfl ?_
            obtain rfl := Option.some.inj h
            exact g_iret dX7_plan_70 rfl
        · replace h := gif hc7 h
          refine g_iconst (v := -1) dX7_plan_36 (by decide) ?_
          obtain rfl := Option.some.inj h
          exact g_iret dX7_plan_37 rfl
      · replace h := gif hc5 h
        refine g_bipush (v := -2) dX7_plan_19 (by decide) ?_
        obtain rfl := Option.some.inj h
        exact g_iret dX7_plan_21 rfl
theorem ctX7_plan {X : gX} {F : Nat} {R : Int32 × gS} {a0 : Int32} {a1 : Int32} {a2 : Int32} {S : gS} (h : fX7_plan F a0 a1 a2 S = some R) : g_C X yX7_plan cX7_plan 5 (some .int) 3 [.ref (X.1 + 0), .int a0, .int a1, .int a2] S (some (.int R.1)) R.2 :=
  g_met (by decide) (Nat.le_of_ble_eq_true rfl) (fX7_plan_ok h)
noncomputable def fX7_isWalker (F : Nat) (a0 : Int32) (S : gS) : Option (Int32 × gS) := if a0 < 0 then (some ((0 : Int32), S)) else (if (g_I S 9 2) ≤ a0 then (some ((0 : Int32), S)) else (some ((1 : Int32), S)))
set_option maxRecDepth 20000 in
theorem fX7_isWalker_ok {X : gX} {F : Nat} {R : Int32 × gS} {a0 : Int32} {S : gS} (h : fX7_isWalker F a0 S = some R) : G X RX7 cX7_isWalker 2 (some .boolean) 0 (some (.int R.1)) R.2 0 [(0, .ref (X.1 + 0)), (1, .int a0)] [] S := by
  unfold fX7_isWalker at h
  refine g_iload_n dX7_isWalker_0 1 rfl rfl ?_
  refine g_if_lt (tgt := 19) dX7_isWalker_1 (by decide) (fun hc1 => ?_) (fun hc1 => ?_)
  · replace h := git hc1 h
    refine g_iconst (v := 0) dX7_isWalker_19 (by decide) ?_
    obtain rfl := Option.some.inj h
    exact g_zret dX7_isWalker_20 rfl narrow_b0
  · replace h := gif hc1 h
    refine g_iload_n dX7_isWalker_4 1 rfl rfl ?_
    refine g_aload_n dX7_isWalker_5 0 rfl rfl ?_
    refine g_getr dX7_isWalker_6 lk_X7_26 sf_0_2 ?_
    refine g_geti dX7_isWalker_9 lk_X7_155 sf_9_2 ?_
    refine g_icmp_ge (tgt := 19) dX7_isWalker_12 (by decide) (fun hc2 => ?_) (fun hc2 => ?_)
    · replace h := git hc2 h
      refine g_iconst (v := 0) dX7_isWalker_19 (by decide) ?_
      obtain rfl := Option.some.inj h
      exact g_zret dX7_isWalker_20 rfl narrow_b0
    · replace h := gif hc2 h
      refine g_iconst (v := 1) dX7_isWalker_15 (by decide) ?_
      refine g_goto (tgt := 20) dX7_isWalker_16 (by decide) ?_
      obtain rfl := Option.some.inj h
      exact g_zret dX7_isWalker_20 rfl narrow_b1
theorem ctX7_isWalker {X : gX} {F : Nat} {R : Int32 × gS} {a0 : Int32} {S : gS} (h : fX7_isWalker F a0 S = some R) : g_C X yX7_isWalker cX7_isWalker 2 (some .boolean) 0 [.ref (X.1 + 0), .int a0] S (some (.int R.1)) R.2 :=
  g_met (by decide) (Nat.le_of_ble_eq_true rfl) (fX7_isWalker_ok h)
noncomputable def fX7_walk (F : Nat) (a0 : Int32) (S : gS) : Option (Int32 × gS) := (fX7_isWalker F a0 S).bind (fun q1 : Int32 × gS => if q1.1 = 0 then (some ((-2 : Int32), q1.2)) else ((fX3_begin F 16 q1.2).bind (fun q3 : gS => g_chk a0 8 (g_chk a0 8 ((fX3_go F 16 (g_I q3 10 (a0).toNatClampNeg) (g_I q3 11 (a0).toNatClampNeg) (g_J q3 1 4) q3).bind (fun q6 : Int32 × gS => (fX1_treadAs F q6.2).bind (fun q7 : gS => some ((g_I q7 16 4), q7))))))))
set_option maxRecDepth 20000 in
theorem fX7_walk_ok {X : gX} {F : Nat} {R : Int32 × gS} {a0 : Int32} {S : gS} (h : fX7_walk F a0 S = some R) : G X RX7 cX7_walk 2 (some .int) 4 (some (.int R.1)) R.2 0 [(0, .ref (X.1 + 0)), (1, .int a0)] [] S := by
  unfold fX7_walk at h
  refine g_aload_n dX7_walk_0 0 rfl rfl ?_
  refine g_iload_n dX7_walk_1 1 rfl rfl ?_
  obtain ⟨q1, hq1, h⟩ := gb h
  refine g_callVi [.int a0] [] dX7_walk_2 mk_X7_169 so_0 (ctX7_isWalker hq1) rfl (by decide) rfl (Nat.le_of_ble_eq_true rfl) ?_
  refine g_if_ne (tgt := 11) dX7_walk_5 (by decide) (fun hc2 => ?_) (fun hc2 => ?_)
  · replace h := gif hc2 h
    refine g_aload_n dX7_walk_11 0 rfl rfl ?_
    refine g_getr dX7_walk_12 lk_X7_42 sf_0_4 ?_
    refine g_aload_n dX7_walk_15 0 rfl rfl ?_
    refine g_getr dX7_walk_16 lk_X7_19 sf_0_1 ?_
    refine g_getr dX7_walk_19 lk_X7_98 sf_3_0 ?_
    obtain ⟨q3, hq3, h⟩ := gb h
    refine g_callVv [.ref (X.1 + 4)] [] dX7_walk_22 mk_X7_172 so_16 (ctX3_begin out_16 hq3) rfl (by decide) rfl (Nat.le_of_ble_eq_true rfl) ?_
    refine g_aload_n dX7_walk_25 0 rfl rfl ?_
    refine g_getr dX7_walk_26 lk_X7_42 sf_0_4 ?_
    refine g_aload_n dX7_walk_29 0 rfl rfl ?_
    refine g_getr dX7_walk_30 lk_X7_26 sf_0_2 ?_
    refine g_getr dX7_walk_33 lk_X7_176 sf_9_0 ?_
    refine g_iload_n dX7_walk_36 1 rfl rfl ?_
    obtain ⟨hv4, h⟩ := gchk h
    refine g_iald dX7_walk_37 sa_10 hv4 ?_
    refine g_aload_n dX7_walk_38 0 rfl rfl ?_
    refine g_getr dX7_walk_39 lk_X7_26 sf_0_2 ?_
    refine g_getr dX7_walk_42 lk_X7_179 sf_9_1 ?_
    refine g_iload_n dX7_walk_45 1 rfl rfl ?_
    obtain ⟨hv5, h⟩ := gchk h
    refine g_iald dX7_walk_46 sa_11 hv5 ?_
    refine g_aload_n dX7_walk_47 0 rfl rfl ?_
    refine g_getr dX7_walk_48 lk_X7_10 sf_0_0 ?_
    refine g_getj dX7_walk_51 lk_X7_158 sf_1_4 ?_
    obtain ⟨q6, hq6, h⟩ := gb h
    refine g_callVi [.int (g_I q3 10 (a0).toNatClampNeg), .int (g_I q3 11 (a0).toNatClampNeg), .long (g_J q3 1 4)] [] dX7_walk_54 mk_X7_182 so_16 (ctX3_go out_16 hq6) rfl (by decide) rfl (Nat.le_of_ble_eq_true rfl) ?_
    refine g_pop dX7_walk_57 rfl ?_
    refine g_aload_n dX7_walk_58 0 rfl rfl ?_
    refine g_getr dX7_walk_59 lk_X7_19 sf_0_1 ?_
    refine g_aload_n dX7_walk_62 0 rfl rfl ?_
    refine g_getr dX7_walk_63 lk_X7_42 sf_0_4 ?_
    obtain ⟨q7, hq7, h⟩ := gb h
    refine g_callVv [.ref (X.1 + 16)] [] dX7_walk_66 mk_X7_186 so_3 (ctX1_treadAs hq7) rfl (by decide) rfl (Nat.le_of_ble_eq_true rfl) ?_
    refine g_aload_n dX7_walk_69 0 rfl rfl ?_
    refine g_getr dX7_walk_70 lk_X7_42 sf_0_4 ?_
    refine g_geti dX7_walk_73 lk_X7_190 sf_16_4 ?_
    obtain rfl := Option.some.inj h
    exact g_iret dX7_walk_76 rfl
  · replace h := git hc2 h
    refine g_bipush (v := -2) dX7_walk_8 (by decide) ?_
    obtain rfl := Option.some.inj h
    exact g_iret dX7_walk_10 rfl
theorem ctX7_walk {X : gX} {F : Nat} {R : Int32 × gS} {a0 : Int32} {S : gS} (h : fX7_walk F a0 S = some R) : g_C X yX7_walk cX7_walk 2 (some .int) 4 [.ref (X.1 + 0), .int a0] S (some (.int R.1)) R.2 :=
  g_met (by decide) (Nat.le_of_ble_eq_true rfl) (fX7_walk_ok h)

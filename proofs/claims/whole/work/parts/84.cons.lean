theorem dfX0 : ∀ j, j < 5 → defaultValue (tyX0 j) = vp_V [.null, .int 0, .int 0, .long 0, .long 0] j := fun j hj => match j, hj with
  | 0, _ => rfl
  | 1, _ => rfl
  | 2, _ => rfl
  | 3, _ => rfl
  | 4, _ => rfl
  | j + 5, h => absurd h (by omega)
theorem dfX1 : ∀ j, j < 5 → defaultValue (tyX1 j) = vp_V [.null, .null, .null, .null, .null] j := fun j hj => match j, hj with
  | 0, _ => rfl
  | 1, _ => rfl
  | 2, _ => rfl
  | 3, _ => rfl
  | 4, _ => rfl
  | j + 5, h => absurd h (by omega)
theorem dfX2 : ∀ j, j < 10 → defaultValue (tyX2 j) = vp_V [.null, .null, .null, .null, .null, .null, .int 0, .int 0, .int 0, .int 0] j := fun j hj => match j, hj with
  | 0, _ => rfl
  | 1, _ => rfl
  | 2, _ => rfl
  | 3, _ => rfl
  | 4, _ => rfl
  | 5, _ => rfl
  | 6, _ => rfl
  | 7, _ => rfl
  | 8, _ => rfl
  | 9, _ => rfl
  | j + 10, h => absurd h (by omega)
theorem dfX3 : ∀ j, j < 8 → defaultValue (tyX3 j) = vp_V [.null, .null, .null, .null, .int 0, .int 0, .int 0, .int 0] j := fun j hj => match j, hj with
  | 0, _ => rfl
  | 1, _ => rfl
  | 2, _ => rfl
  | 3, _ => rfl
  | 4, _ => rfl
  | 5, _ => rfl
  | 6, _ => rfl
  | 7, _ => rfl
  | j + 8, h => absurd h (by omega)
theorem dfX4 : ∀ j, j < 5 → defaultValue (tyX4 j) = vp_V [.null, .null, .null, .int 0, .long 0] j := fun j hj => match j, hj with
  | 0, _ => rfl
  | 1, _ => rfl
  | 2, _ => rfl
  | 3, _ => rfl
  | 4, _ => rfl
  | j + 5, h => absurd h (by omega)
theorem dfX5 : ∀ j, j < 3 → defaultValue (tyX5 j) = vp_V [.null, .int 0, .int 0] j := fun j hj => match j, hj with
  | 0, _ => rfl
  | 1, _ => rfl
  | 2, _ => rfl
  | j + 3, h => absurd h (by omega)
theorem dfX6 : ∀ j, j < 3 → defaultValue (tyX6 j) = vp_V [.null, .null, .int 0] j := fun j hj => match j, hj with
  | 0, _ => rfl
  | 1, _ => rfl
  | 2, _ => rfl
  | j + 3, h => absurd h (by omega)
theorem dfX7 : ∀ j, j < 12 → defaultValue (tyX7 j) = vp_V [.null, .null, .null, .null, .null, .null, .null, .int 0, .int 0, .int 0, .int 0, .int 0] j := fun j hj => match j, hj with
  | 0, _ => rfl
  | 1, _ => rfl
  | 2, _ => rfl
  | 3, _ => rfl
  | 4, _ => rfl
  | 5, _ => rfl
  | 6, _ => rfl
  | 7, _ => rfl
  | 8, _ => rfl
  | 9, _ => rfl
  | 10, _ => rfl
  | 11, _ => rfl
  | j + 12, h => absurd h (by omega)
theorem dfX8 : ∀ j, j < 36 → defaultValue (tyX8 j) = vp_V [.null, .null, .null, .null, .int 0, .null, .int 0, .null, .null, .null, .null, .null, .int 0, .null, .null, .null, .null, .null, .null, .int 0, .null, .int 0, .int 0, .int 0, .int 0, .null, .int 0, .null, .null, .int 0, .int 0, .int 0, .int 0, .null, .int 0, .int 0] j := fun j hj => match j, hj with
  | 0, _ => rfl
  | 1, _ => rfl
  | 2, _ => rfl
  | 3, _ => rfl
  | 4, _ => rfl
  | 5, _ => rfl
  | 6, _ => rfl
  | 7, _ => rfl
  | 8, _ => rfl
  | 9, _ => rfl
  | 10, _ => rfl
  | 11, _ => rfl
  | 12, _ => rfl
  | 13, _ => rfl
  | 14, _ => rfl
  | 15, _ => rfl
  | 16, _ => rfl
  | 17, _ => rfl
  | 18, _ => rfl
  | 19, _ => rfl
  | 20, _ => rfl
  | 21, _ => rfl
  | 22, _ => rfl
  | 23, _ => rfl
  | 24, _ => rfl
  | 25, _ => rfl
  | 26, _ => rfl
  | 27, _ => rfl
  | 28, _ => rfl
  | 29, _ => rfl
  | 30, _ => rfl
  | 31, _ => rfl
  | 32, _ => rfl
  | 33, _ => rfl
  | 34, _ => rfl
  | 35, _ => rfl
  | j + 36, h => absurd h (by omega)
set_option maxRecDepth 100000 in
theorem aC_int : Cond.arrayClass .int ∈ gW := gW_t 50 rfl rfl
set_option maxRecDepth 100000 in
theorem aC_long : Cond.arrayClass .long ∈ gW := gW_t 126 rfl rfl
set_option maxRecDepth 100000 in
theorem aC_bool : Cond.arrayClass .boolean ∈ gW := gW_t 790 rfl rfl
set_option maxRecDepth 100000 in
theorem oi_i : Cond.instanceMethod objectInit ∈ gW := gW_t 20 rfl rfl
set_option maxRecDepth 100000 in
theorem oi_c : Cond.code objectInit ⟨#[0xb1]⟩ 1 none ∈ gW := gW_t 21 (by decide +kernel) rfl
set_option maxRecDepth 100000 in
theorem ol_X5 : Cond.methodLink RX5 3 objectInit ∈ gW := gW_t 219 rfl rfl
set_option maxRecDepth 100000 in
theorem pf_X5_9 : Cond.fieldLink RX5 9 RX5 (TX5 0).2.1 (TX5 0).2.2.1 ∈ gW := gW_t 220 rfl rfl
set_option maxRecDepth 100000 in
theorem pf_X5_15 : Cond.fieldLink RX5 15 RX5 (TX5 1).2.1 (TX5 1).2.2.1 ∈ gW := gW_t 223 rfl rfl
set_option maxRecDepth 100000 in
theorem pf_X5_19 : Cond.fieldLink RX5 19 RX5 (TX5 2).2.1 (TX5 2).2.2.1 ∈ gW := gW_t 225 rfl rfl
def finX5 (X : gX) (a : Nat) : List va_E := [.inr (5, [.ref (a + 1), .int (-1), .int 0]), .inl (X.2.2 0, (64, .inl (fun _ => 0)))]
set_option maxRecDepth 100000 in
set_option maxHeartbeats 4000000 in
theorem ctX5_init (X : gX) (a : Nat) : cC X yX5_init cX5_init 1 1 1 64 [.ref a] a (.inr (5, [.null, .int 0, .int 0])) (finX5 X a) := by
  refine k_met (by decide +kernel) rfl (Nat.le_of_ble_eq_true rfl) ?_
  intro p l e s m args below meth c ls A hKA hr hlk hnm hM hl
  have A : g_At X RX5 cX5_init 1 p s m args c := A
  have hl : lv_has ls 1 [(0, .ref a)] := hl
  generalize hH : s.heap = H at hM ⊢
  generalize hlo : ([] : List Loc) = locs at hM ⊢
  have hM : cM X s a [.inr (5, [.null, .int 0, .int 0])] H locs 0 := hM
  refine lv_aload_n A.1 A.2.1 dX5_init_0 rfl (lv_at hl 0 rfl) ?_
  refine k_obj A hl.1 ol_X5 oi_i oi_c (Nat.le_of_ble_eq_true rfl) (Nat.le_of_ble_eq_true rfl) dX5_init_1 ?_
  refine W.eq (g2 := F0 m 4 ls []) rfl ?_
  refine lv_aload_n A.1 A.2.1 dX5_init_4 rfl (lv_at hl 0 rfl) ?_
  refine lv_bipush (v := 64) A.1 A.2.1 dX5_init_5 (by decide) ?_
  refine k_newa (kd := 0) (N := 64) (a0 := (64, .inl (fun _ => 0))) A hM aC_int rfl rfl (fun _ _ h1 h2 => Option.some.inj (h1.symm.trans h2)) (fun _ => rfl) (by decide) (by decide) (by decide) (Nat.le_of_ble_eq_true rfl) (Nat.le_of_ble_eq_true rfl) dX5_init_7 (fun H hM => ?_)
  have hM : cM X s a [.inr (5, [.null, .int 0, .int 0]), .inl (X.2.2 0, (64, .inl (fun _ => 0)))] H locs 1 := hM
  refine W.widen (k := 1) (n := 64) (Nat.le_refl _) (Nat.le_refl _) ?_
  refine W.eq (g2 := F0 m 9 ls [.ref (a + 1), .ref a]) rfl ?_
  refine k_put (i := 0) (ci := 5) (k := 0) (ty := (.array .int)) (fs := [.null, .int 0, .int 0]) A hM hnm rfl rfl iwX5 tyX5 tyX5_ok nmX5 (by decide) rfl pf_X5_9 (by decide +kernel) rfl rfl (Nat.le_of_ble_eq_true rfl) dX5_init_9 (fun H locs hM => ?_)
  have hM : cM X s a [.inr (5, [.ref (a + 1), .int 0, .int 0]), .inl (X.2.2 0, (64, .inl (fun _ => 0)))] H locs 1 := hM
  refine lv_aload_n A.1 A.2.1 dX5_init_12 rfl (lv_at hl 0 rfl) ?_
  refine lv_iconst (v := -1) A.1 A.2.1 dX5_init_13 (by decide) ?_
  refine k_put (i := 0) (ci := 5) (k := 1) (ty := .int) (fs := [.ref (a + 1), .int 0, .int 0]) A hM hnm rfl rfl iwX5 tyX5 tyX5_ok nmX5 (by decide) rfl pf_X5_15 (by decide +kernel) rfl rfl (Nat.le_of_ble_eq_true rfl) dX5_init_14 (fun H locs hM => ?_)
  have hM : cM X s a [.inr (5, [.ref (a + 1), .int (-1), .int 0]), .inl (X.2.2 0, (64, .inl (fun _ => 0)))] H locs 1 := hM
  refine lv_aload_n A.1 A.2.1 dX5_init_17 rfl (lv_at hl 0 rfl) ?_
  refine lv_iconst (v := 0) A.1 A.2.1 dX5_init_18 (by decide) ?_
  refine k_put (i := 0) (ci := 5) (k := 2) (ty := .int) (fs := [.ref (a + 1), .int (-1), .int 0]) A hM hnm rfl rfl iwX5 tyX5 tyX5_ok nmX5 (by decide) rfl pf_X5_19 (by decide +kernel) rfl rfl (Nat.le_of_ble_eq_true rfl) dX5_init_19 (fun H locs hM => ?_)
  have hM : cM X s a [.inr (5, [.ref (a + 1), .int (-1), .int 0]), .inl (X.2.2 0, (64, .inl (fun _ => 0)))] H locs 1 := hM
  exact k_ret A hM hr hlk rfl dX5_init_22
set_option maxRecDepth 100000 in
theorem ol_X6 : Cond.methodLink RX6 3 objectInit ∈ gW := gW_t 83 rfl rfl
set_option maxRecDepth 100000 in
theorem pf_X6_9 : Cond.fieldLink RX6 9 RX6 (TX6 0).2.1 (TX6 0).2.2.1 ∈ gW := gW_t 84 rfl rfl
set_option maxRecDepth 100000 in
theorem pf_X6_15 : Cond.fieldLink RX6 15 RX6 (TX6 1).2.1 (TX6 1).2.2.1 ∈ gW := gW_t 87 rfl rfl
set_option maxRecDepth 100000 in
theorem pf_X6_18 : Cond.fieldLink RX6 18 RX6 (TX6 2).2.1 (TX6 2).2.2.1 ∈ gW := gW_t 90 rfl rfl
def finX6 (X : gX) (a : Nat) : List va_E := [.inr (6, [.ref (a + 1), .ref (a + 2), .int 0]), .inl (X.2.2 0, (8, .inl (fun _ => 0))), .inl (X.2.2 0, (8, .inl (fun _ => 0)))]
set_option maxRecDepth 100000 in
set_option maxHeartbeats 4000000 in
theorem ctX6_init (X : gX) (a : Nat) : cC X yX6_init cX6_init 1 1 2 16 [.ref a] a (.inr (6, [.null, .null, .int 0])) (finX6 X a) := by
  refine k_met (by decide +kernel) rfl (Nat.le_of_ble_eq_true rfl) ?_
  intro p l e s m args below meth c ls A hKA hr hlk hnm hM hl
  have A : g_At X RX6 cX6_init 1 p s m args c := A
  have hl : lv_has ls 1 [(0, .ref a)] := hl
  generalize hH : s.heap = H at hM ⊢
  generalize hlo : ([] : List Loc) = locs at hM ⊢
  have hM : cM X s a [.inr (6, [.null, .null, .int 0])] H locs 0 := hM
  refine lv_aload_n A.1 A.2.1 dX6_init_0 rfl (lv_at hl 0 rfl) ?_
  refine k_obj A hl.1 ol_X6 oi_i oi_c (Nat.le_of_ble_eq_true rfl) (Nat.le_of_ble_eq_true rfl) dX6_init_1 ?_
  refine W.eq (g2 := F0 m 4 ls []) rfl ?_
  refine lv_aload_n A.1 A.2.1 dX6_init_4 rfl (lv_at hl 0 rfl) ?_
  refine lv_bipush (v := 8) A.1 A.2.1 dX6_init_5 (by decide) ?_
  refine k_newa (kd := 0) (N := 8) (a0 := (8, .inl (fun _ => 0))) A hM aC_int rfl rfl (fun _ _ h1 h2 => Option.some.inj (h1.symm.trans h2)) (fun _ => rfl) (by decide) (by decide) (by decide) (Nat.le_of_ble_eq_true rfl) (Nat.le_of_ble_eq_true rfl) dX6_init_7 (fun H hM => ?_)
  have hM : cM X s a [.inr (6, [.null, .null, .int 0]), .inl (X.2.2 0, (8, .inl (fun _ => 0)))] H locs 1 := hM
  refine W.widen (k := 1) (n := 8) (Nat.le_refl _) (Nat.le_refl _) ?_
  refine W.eq (g2 := F0 m 9 ls [.ref (a + 1), .ref a]) rfl ?_
  refine k_put (i := 0) (ci := 6) (k := 0) (ty := (.array .int)) (fs := [.null, .null, .int 0]) A hM hnm rfl rfl iwX6 tyX6 tyX6_ok nmX6 (by decide) rfl pf_X6_9 (by decide +kernel) rfl rfl (Nat.le_of_ble_eq_true rfl) dX6_init_9 (fun H locs hM => ?_)
  have hM : cM X s a [.inr (6, [.ref (a + 1), .null, .int 0]), .inl (X.2.2 0, (8, .inl (fun _ => 0)))] H locs 1 := hM
  refine lv_aload_n A.1 A.2.1 dX6_init_12 rfl (lv_at hl 0 rfl) ?_
  refine lv_bipush (v := 8) A.1 A.2.1 dX6_init_13 (by decide) ?_
  refine k_newa (kd := 0) (N := 8) (a0 := (8, .inl (fun _ => 0))) A hM aC_int rfl rfl (fun _ _ h1 h2 => Option.some.inj (h1.symm.trans h2)) (fun _ => rfl) (by decide) (by decide) (by decide) (Nat.le_of_ble_eq_true rfl) (Nat.le_of_ble_eq_true rfl) dX6_init_15 (fun H hM => ?_)
  have hM : cM X s a [.inr (6, [.ref (a + 1), .null, .int 0]), .inl (X.2.2 0, (8, .inl (fun _ => 0))), .inl (X.2.2 0, (8, .inl (fun _ => 0)))] H locs 2 := hM
  refine W.widen (k := 2) (n := 16) (Nat.le_refl _) (Nat.le_refl _) ?_
  refine W.eq (g2 := F0 m 17 ls [.ref (a + 2), .ref a]) rfl ?_
  refine k_put (i := 0) (ci := 6) (k := 1) (ty := (.array .int)) (fs := [.ref (a + 1), .null, .int 0]) A hM hnm rfl rfl iwX6 tyX6 tyX6_ok nmX6 (by decide) rfl pf_X6_15 (by decide +kernel) rfl rfl (Nat.le_of_ble_eq_true rfl) dX6_init_17 (fun H locs hM => ?_)
  have hM : cM X s a [.inr (6, [.ref (a + 1), .ref (a + 2), .int 0]), .inl (X.2.2 0, (8, .inl (fun _ => 0))), .inl (X.2.2 0, (8, .inl (fun _ => 0)))] H locs 2 := hM
  refine lv_aload_n A.1 A.2.1 dX6_init_20 rfl (lv_at hl 0 rfl) ?_
  refine lv_iconst (v := 0) A.1 A.2.1 dX6_init_21 (by decide) ?_
  refine k_put (i := 0) (ci := 6) (k := 2) (ty := .int) (fs := [.ref (a + 1), .ref (a + 2), .int 0]) A hM hnm rfl rfl iwX6 tyX6 tyX6_ok nmX6 (by decide) rfl pf_X6_18 (by decide +kernel) rfl rfl (Nat.le_of_ble_eq_true rfl) dX6_init_22 (fun H locs hM => ?_)
  have hM : cM X s a [.inr (6, [.ref (a + 1), .ref (a + 2), .int 0]), .inl (X.2.2 0, (8, .inl (fun _ => 0))), .inl (X.2.2 0, (8, .inl (fun _ => 0)))] H locs 2 := hM
  exact k_ret A hM hr hlk rfl dX6_init_25
set_option maxRecDepth 100000 in
theorem ol_X0 : Cond.methodLink RX0 3 objectInit ∈ gW := gW_t 27 rfl rfl
set_option maxRecDepth 100000 in
theorem pf_X0_11 : Cond.fieldLink RX0 11 RX0 (TX0 0).2.1 (TX0 0).2.2.1 ∈ gW := gW_t 28 rfl rfl
set_option maxRecDepth 100000 in
theorem pf_X0_15 : Cond.fieldLink RX0 15 RX0 (TX0 1).2.1 (TX0 1).2.2.1 ∈ gW := gW_t 29 rfl rfl
set_option maxRecDepth 100000 in
theorem pf_X0_19 : Cond.fieldLink RX0 19 RX0 (TX0 2).2.1 (TX0 2).2.2.1 ∈ gW := gW_t 31 rfl rfl
set_option maxRecDepth 100000 in
theorem pf_X0_22 : Cond.fieldLink RX0 22 RX0 (TX0 3).2.1 (TX0 3).2.2.1 ∈ gW := gW_t 33 rfl rfl
set_option maxRecDepth 100000 in
theorem pf_X0_26 : Cond.fieldLink RX0 26 RX0 (TX0 4).2.1 (TX0 4).2.2.1 ∈ gW := gW_t 36 rfl rfl
def finX0 (X : gX) (a : Nat) : List va_E := [.inr (0, [.ref (a + 1), .int 0, .int 0, .long 0, .long 0]), .inl (X.2.2 0, (75, .inl (fun _ => 0)))]
set_option maxRecDepth 100000 in
set_option maxHeartbeats 4000000 in
theorem ctX0_init (X : gX) (a : Nat) : cC X yX0_init cX0_init 1 1 1 75 [.ref a] a (.inr (0, [.null, .int 0, .int 0, .long 0, .long 0])) (finX0 X a) := by
  refine k_met (by decide +kernel) rfl (Nat.le_of_ble_eq_true rfl) ?_
  intro p l e s m args below meth c ls A hKA hr hlk hnm hM hl
  have A : g_At X RX0 cX0_init 1 p s m args c := A
  have hl : lv_has ls 1 [(0, .ref a)] := hl
  generalize hH : s.heap = H at hM ⊢
  generalize hlo : ([] : List Loc) = locs at hM ⊢
  have hM : cM X s a [.inr (0, [.null, .int 0, .int 0, .long 0, .long 0])] H locs 0 := hM
  refine lv_aload_n A.1 A.2.1 dX0_init_0 rfl (lv_at hl 0 rfl) ?_
  refine k_obj A hl.1 ol_X0 oi_i oi_c (Nat.le_of_ble_eq_true rfl) (Nat.le_of_ble_eq_true rfl) dX0_init_1 ?_
  refine W.eq (g2 := F0 m 4 ls []) rfl ?_
  refine lv_aload_n A.1 A.2.1 dX0_init_4 rfl (lv_at hl 0 rfl) ?_
  refine lv_bipush (v := 75) A.1 A.2.1 dX0_init_5 (by decide) ?_
  refine k_newa (kd := 0) (N := 75) (a0 := (75, .inl (fun _ => 0))) A hM aC_int rfl rfl (fun _ _ h1 h2 => Option.some.inj (h1.symm.trans h2)) (fun _ => rfl) (by decide) (by decide) (by decide) (Nat.le_of_ble_eq_true rfl) (Nat.le_of_ble_eq_true rfl) dX0_init_7 (fun H hM => ?_)
  have hM : cM X s a [.inr (0, [.null, .int 0, .int 0, .long 0, .long 0]), .inl (X.2.2 0, (75, .inl (fun _ => 0)))] H locs 1 := hM
  refine W.widen (k := 1) (n := 75) (Nat.le_refl _) (Nat.le_refl _) ?_
  refine W.eq (g2 := F0 m 9 ls [.ref (a + 1), .ref a]) rfl ?_
  refine k_put (i := 0) (ci := 0) (k := 0) (ty := (.array .int)) (fs := [.null, .int 0, .int 0, .long 0, .long 0]) A hM hnm rfl rfl iwX0 tyX0 tyX0_ok nmX0 (by decide) rfl pf_X0_11 (by decide +kernel) rfl rfl (Nat.le_of_ble_eq_true rfl) dX0_init_9 (fun H locs hM => ?_)
  have hM : cM X s a [.inr (0, [.ref (a + 1), .int 0, .int 0, .long 0, .long 0]), .inl (X.2.2 0, (75, .inl (fun _ => 0)))] H locs 1 := hM
  refine lv_aload_n A.1 A.2.1 dX0_init_12 rfl (lv_at hl 0 rfl) ?_
  refine lv_iconst (v := 0) A.1 A.2.1 dX0_init_13 (by decide) ?_
  refine k_put (i := 0) (ci := 0) (k := 1) (ty := .int) (fs := [.ref (a + 1), .int 0, .int 0, .long 0, .long 0]) A hM hnm rfl rfl iwX0 tyX0 tyX0_ok nmX0 (by decide) rfl pf_X0_15 (by decide +kernel) rfl rfl (Nat.le_of_ble_eq_true rfl) dX0_init_14 (fun H locs hM => ?_)
  have hM : cM X s a [.inr (0, [.ref (a + 1), .int 0, .int 0, .long 0, .long 0]), .inl (X.2.2 0, (75, .inl (fun _ => 0)))] H locs 1 := hM
  refine lv_aload_n A.1 A.2.1 dX0_init_17 rfl (lv_at hl 0 rfl) ?_
  refine lv_iconst (v := 0) A.1 A.2.1 dX0_init_18 (by decide) ?_
  refine k_put (i := 0) (ci := 0) (k := 2) (ty := .int) (fs := [.ref (a + 1), .int 0, .int 0, .long 0, .long 0]) A hM hnm rfl rfl iwX0 tyX0 tyX0_ok nmX0 (by decide) rfl pf_X0_19 (by decide +kernel) rfl rfl (Nat.le_of_ble_eq_true rfl) dX0_init_19 (fun H locs hM => ?_)
  have hM : cM X s a [.inr (0, [.ref (a + 1), .int 0, .int 0, .long 0, .long 0]), .inl (X.2.2 0, (75, .inl (fun _ => 0)))] H locs 1 := hM
  refine lv_aload_n A.1 A.2.1 dX0_init_22 rfl (lv_at hl 0 rfl) ?_
  refine lv_lconst (v := 0) A.1 A.2.1 dX0_init_23 (by decide) ?_
  refine k_put (i := 0) (ci := 0) (k := 3) (ty := .long) (fs := [.ref (a + 1), .int 0, .int 0, .long 0, .long 0]) A hM hnm rfl rfl iwX0 tyX0 tyX0_ok nmX0 (by decide) rfl pf_X0_22 (by decide +kernel) rfl rfl (Nat.le_of_ble_eq_true rfl) dX0_init_24 (fun H locs hM => ?_)
  have hM : cM X s a [.inr (0, [.ref (a + 1), .int 0, .int 0, .long 0, .long 0]), .inl (X.2.2 0, (75, .inl (fun _ => 0)))] H locs 1 := hM
  refine lv_aload_n A.1 A.2.1 dX0_init_27 rfl (lv_at hl 0 rfl) ?_
  refine lv_lconst (v := 0) A.1 A.2.1 dX0_init_28 (by decide) ?_
  refine k_put (i := 0) (ci := 0) (k := 4) (ty := .long) (fs := [.ref (a + 1), .int 0, .int 0, .long 0, .long 0]) A hM hnm rfl rfl iwX0 tyX0 tyX0_ok nmX0 (by decide) rfl pf_X0_26 (by decide +kernel) rfl rfl (Nat.le_of_ble_eq_true rfl) dX0_init_29 (fun H locs hM => ?_)
  have hM : cM X s a [.inr (0, [.ref (a + 1), .int 0, .int 0, .long 0, .long 0]), .inl (X.2.2 0, (75, .inl (fun _ => 0)))] H locs 1 := hM
  exact k_ret A hM hr hlk rfl dX0_init_32
set_option maxRecDepth 100000 in
theorem ol_X4 : Cond.methodLink RX4 3 objectInit ∈ gW := gW_t 105 rfl rfl
set_option maxRecDepth 100000 in
theorem pf_X4_9 : Cond.fieldLink RX4 9 RX4 (TX4 0).2.1 (TX4 0).2.2.1 ∈ gW := gW_t 106 rfl rfl
set_option maxRecDepth 100000 in
theorem pf_X4_15 : Cond.fieldLink RX4 15 RX4 (TX4 1).2.1 (TX4 1).2.2.1 ∈ gW := gW_t 107 rfl rfl
set_option maxRecDepth 100000 in
theorem pf_X4_19 : Cond.fieldLink RX4 19 RX4 (TX4 2).2.1 (TX4 2).2.2.1 ∈ gW := gW_t 108 rfl rfl
set_option maxRecDepth 100000 in
theorem pf_X4_22 : Cond.fieldLink RX4 22 RX4 (TX4 3).2.1 (TX4 3).2.2.1 ∈ gW := gW_t 111 rfl rfl
set_option maxRecDepth 100000 in
theorem pf_X4_26 : Cond.fieldLink RX4 26 RX4 (TX4 4).2.1 (TX4 4).2.2.1 ∈ gW := gW_t 114 rfl rfl
def finX4 (X : gX) (a : Nat) : List va_E := [.inr (4, [.ref (a + 1), .ref (a + 2), .ref (a + 3), .int 0, .long 0]), .inl (X.2.2 0, (64, .inl (fun _ => 0))), .inl (X.2.2 1, (32, .inr (.inl (fun _ => 0)))), .inl (X.2.2 0, (64, .inl (fun _ => 0)))]
set_option maxRecDepth 100000 in
set_option maxHeartbeats 4000000 in
theorem ctX4_init (X : gX) (a : Nat) : cC X yX4_init cX4_init 1 1 3 160 [.ref a] a (.inr (4, [.null, .null, .null, .int 0, .long 0])) (finX4 X a) := by
  refine k_met (by decide +kernel) rfl (Nat.le_of_ble_eq_true rfl) ?_
  intro p l e s m args below meth c ls A hKA hr hlk hnm hM hl
  have A : g_At X RX4 cX4_init 1 p s m args c := A
  have hl : lv_has ls 1 [(0, .ref a)] := hl
  generalize hH : s.heap = H at hM ⊢
  generalize hlo : ([] : List Loc) = locs at hM ⊢
  have hM : cM X s a [.inr (4, [.null, .null, .null, .int 0, .long 0])] H locs 0 := hM
  refine lv_aload_n A.1 A.2.1 dX4_init_0 rfl (lv_at hl 0 rfl) ?_
  refine k_obj A hl.1 ol_X4 oi_i oi_c (Nat.le_of_ble_eq_true rfl) (Nat.le_of_ble_eq_true rfl) dX4_init_1 ?_
  refine W.eq (g2 := F0 m 4 ls []) rfl ?_
  refine lv_aload_n A.1 A.2.1 dX4_init_4 rfl (lv_at hl 0 rfl) ?_
  refine lv_bipush (v := 64) A.1 A.2.1 dX4_init_5 (by decide) ?_
  refine k_newa (kd := 0) (N := 64) (a0 := (64, .inl (fun _ => 0))) A hM aC_int rfl rfl (fun _ _ h1 h2 => Option.some.inj (h1.symm.trans h2)) (fun _ => rfl) (by decide) (by decide) (by decide) (Nat.le_of_ble_eq_true rfl) (Nat.le_of_ble_eq_true rfl) dX4_init_7 (fun H hM => ?_)
  have hM : cM X s a [.inr (4, [.null, .null, .null, .int 0, .long 0]), .inl (X.2.2 0, (64, .inl (fun _ => 0)))] H locs 1 := hM
  refine W.widen (k := 1) (n := 64) (Nat.le_refl _) (Nat.le_refl _) ?_
  refine W.eq (g2 := F0 m 9 ls [.ref (a + 1), .ref a]) rfl ?_
  refine k_put (i := 0) (ci := 4) (k := 0) (ty := (.array .int)) (fs := [.null, .null, .null, .int 0, .long 0]) A hM hnm rfl rfl iwX4 tyX4 tyX4_ok nmX4 (by decide) rfl pf_X4_9 (by decide +kernel) rfl rfl (Nat.le_of_ble_eq_true rfl) dX4_init_9 (fun H locs hM => ?_)
  have hM : cM X s a [.inr (4, [.ref (a + 1), .null, .null, .int 0, .long 0]), .inl (X.2.2 0, (64, .inl (fun _ => 0)))] H locs 1 := hM
  refine lv_aload_n A.1 A.2.1 dX4_init_12 rfl (lv_at hl 0 rfl) ?_
  refine lv_bipush (v := 32) A.1 A.2.1 dX4_init_13 (by decide) ?_
  refine k_newa (kd := 1) (N := 32) (a0 := (32, .inr (.inl (fun _ => 0)))) A hM aC_long rfl rfl (fun _ _ h1 h2 => Option.some.inj (h1.symm.trans h2)) (fun _ => rfl) (by decide) (by decide) (by decide) (Nat.le_of_ble_eq_true rfl) (Nat.le_of_ble_eq_true rfl) dX4_init_15 (fun H hM => ?_)
  have hM : cM X s a [.inr (4, [.ref (a + 1), .null, .null, .int 0, .long 0]), .inl (X.2.2 0, (64, .inl (fun _ => 0))), .inl (X.2.2 1, (32, .inr (.inl (fun _ => 0))))] H locs 2 := hM
  refine W.widen (k := 2) (n := 96) (Nat.le_refl _) (Nat.le_refl _) ?_
  refine W.eq (g2 := F0 m 17 ls [.ref (a + 2), .ref a]) rfl ?_
  refine k_put (i := 0) (ci := 4) (k := 1) (ty := (.array .long)) (fs := [.ref (a + 1), .null, .null, .int 0, .long 0]) A hM hnm rfl rfl iwX4 tyX4 tyX4_ok nmX4 (by decide) rfl pf_X4_15 (by decide +kernel) rfl rfl (Nat.le_of_ble_eq_true rfl) dX4_init_17 (fun H locs hM => ?_)
  have hM : cM X s a [.inr (4, [.ref (a + 1), .ref (a + 2), .null, .int 0, .long 0]), .inl (X.2.2 0, (64, .inl (fun _ => 0))), .inl (X.2.2 1, (32, .inr (.inl (fun _ => 0))))] H locs 2 := hM
  refine lv_aload_n A.1 A.2.1 dX4_init_20 rfl (lv_at hl 0 rfl) ?_
  refine lv_bipush (v := 64) A.1 A.2.1 dX4_init_21 (by decide) ?_
  refine k_newa (kd := 0) (N := 64) (a0 := (64, .inl (fun _ => 0))) A hM aC_int rfl rfl (fun _ _ h1 h2 => Option.some.inj (h1.symm.trans h2)) (fun _ => rfl) (by decide) (by decide) (by decide) (Nat.le_of_ble_eq_true rfl) (Nat.le_of_ble_eq_true rfl) dX4_init_23 (fun H hM => ?_)
  have hM : cM X s a [.inr (4, [.ref (a + 1), .ref (a + 2), .null, .int 0, .long 0]), .inl (X.2.2 0, (64, .inl (fun _ => 0))), .inl (X.2.2 1, (32, .inr (.inl (fun _ => 0)))), .inl (X.2.2 0, (64, .inl (fun _ => 0)))] H locs 3 := hM
  refine W.widen (k := 3) (n := 160) (Nat.le_refl _) (Nat.le_refl _) ?_
  refine W.eq (g2 := F0 m 25 ls [.ref (a + 3), .ref a]) rfl ?_
  refine k_put (i := 0) (ci := 4) (k := 2) (ty := (.array .int)) (fs := [.ref (a + 1), .ref (a + 2), .null, .int 0, .long 0]) A hM hnm rfl rfl iwX4 tyX4 tyX4_ok nmX4 (by decide) rfl pf_X4_19 (by decide +kernel) rfl rfl (Nat.le_of_ble_eq_true rfl) dX4_init_25 (fun H locs hM => ?_)
  have hM : cM X s a [.inr (4, [.ref (a + 1), .ref (a + 2), .ref (a + 3), .int 0, .long 0]), .inl (X.2.2 0, (64, .inl (fun _ => 0))), .inl (X.2.2 1, (32, .inr (.inl (fun _ => 0)))), .inl (X.2.2 0, (64, .inl (fun _ => 0)))] H locs 3 := hM
  refine lv_aload_n A.1 A.2.1 dX4_init_28 rfl (lv_at hl 0 rfl) ?_
  refine lv_iconst (v := 0) A.1 A.2.1 dX4_init_29 (by decide) ?_
  refine k_put (i := 0) (ci := 4) (k := 3) (ty := .int) (fs := [.ref (a + 1), .ref (a + 2), .ref (a + 3), .int 0, .long 0]) A hM hnm rfl rfl iwX4 tyX4 tyX4_ok nmX4 (by decide) rfl pf_X4_22 (by decide +kernel) rfl rfl (Nat.le_of_ble_eq_true rfl) dX4_init_30 (fun H locs hM => ?_)
  have hM : cM X s a [.inr (4, [.ref (a + 1), .ref (a + 2), .ref (a + 3), .int 0, .long 0]), .inl (X.2.2 0, (64, .inl (fun _ => 0))), .inl (X.2.2 1, (32, .inr (.inl (fun _ => 0)))), .inl (X.2.2 0, (64, .inl (fun _ => 0)))] H locs 3 := hM
  refine lv_aload_n A.1 A.2.1 dX4_init_33 rfl (lv_at hl 0 rfl) ?_
  refine lv_lconst (v := 0) A.1 A.2.1 dX4_init_34 (by decide) ?_
  refine k_put (i := 0) (ci := 4) (k := 4) (ty := .long) (fs := [.ref (a + 1), .ref (a + 2), .ref (a + 3), .int 0, .long 0]) A hM hnm rfl rfl iwX4 tyX4 tyX4_ok nmX4 (by decide) rfl pf_X4_26 (by decide +kernel) rfl rfl (Nat.le_of_ble_eq_true rfl) dX4_init_35 (fun H locs hM => ?_)
  have hM : cM X s a [.inr (4, [.ref (a + 1), .ref (a + 2), .ref (a + 3), .int 0, .long 0]), .inl (X.2.2 0, (64, .inl (fun _ => 0))), .inl (X.2.2 1, (32, .inr (.inl (fun _ => 0)))), .inl (X.2.2 0, (64, .inl (fun _ => 0)))] H locs 3 := hM
  exact k_ret A hM hr hlk rfl dX4_init_38
set_option maxRecDepth 100000 in
theorem ol_X3 : Cond.methodLink RX3 3 objectInit ∈ gW := gW_t 132 rfl rfl
set_option maxRecDepth 100000 in
theorem pf_X3_9 : Cond.fieldLink RX3 9 RX3 (TX3 2).2.1 (TX3 2).2.2.1 ∈ gW := gW_t 135 rfl rfl
set_option maxRecDepth 100000 in
theorem pf_X3_15 : Cond.fieldLink RX3 15 RX3 (TX3 3).2.1 (TX3 3).2.2.1 ∈ gW := gW_t 138 rfl rfl
set_option maxRecDepth 100000 in
theorem pf_X3_18 : Cond.fieldLink RX3 18 RX3 (TX3 4).2.1 (TX3 4).2.2.1 ∈ gW := gW_t 142 rfl rfl
set_option maxRecDepth 100000 in
theorem pf_X3_22 : Cond.fieldLink RX3 22 RX3 (TX3 5).2.1 (TX3 5).2.2.1 ∈ gW := gW_t 145 rfl rfl
set_option maxRecDepth 100000 in
theorem pf_X3_25 : Cond.fieldLink RX3 25 RX3 (TX3 6).2.1 (TX3 6).2.2.1 ∈ gW := gW_t 147 rfl rfl
set_option maxRecDepth 100000 in
theorem pf_X3_28 : Cond.fieldLink RX3 28 RX3 (TX3 7).2.1 (TX3 7).2.2.1 ∈ gW := gW_t 149 rfl rfl
set_option maxRecDepth 100000 in
theorem pf_X3_31 : Cond.fieldLink RX3 31 RX3 (TX3 0).2.1 (TX3 0).2.2.1 ∈ gW := gW_t 133 rfl rfl
set_option maxRecDepth 100000 in
theorem pf_X3_35 : Cond.fieldLink RX3 35 RX3 (TX3 1).2.1 (TX3 1).2.2.1 ∈ gW := gW_t 134 rfl rfl
def finX3 (X : gX) (a : Nat) (g : Nat) (ro : Nat) : List va_E := [.inr (3, [.ref g, .ref ro, .ref (a + 1), .ref (a + 2), .int 0, .int 0, .int 0, .int (-1)]), .inl (X.2.2 0, (64, .inl (fun _ => 0))), .inl (X.2.2 0, (64, .inl (fun _ => 0)))]
set_option maxRecDepth 100000 in
set_option maxHeartbeats 4000000 in
theorem ctX3_init (X : gX) (a : Nat) (g : Nat) (ro : Nat) : cC X yX3_init cX3_init 3 1 2 128 [.ref a, .ref g, .ref ro] a (.inr (3, [.null, .null, .null, .null, .int 0, .int 0, .int 0, .int 0])) (finX3 X a g ro) := by
  refine k_met (by decide +kernel) rfl (Nat.le_of_ble_eq_true rfl) ?_
  intro p l e s m args below meth c ls A hKA hr hlk hnm hM hl
  have A : g_At X RX3 cX3_init 3 p s m args c := A
  have hl : lv_has ls 3 [(0, .ref a), (1, .ref g), (2, .ref ro)] := hl
  generalize hH : s.heap = H at hM ⊢
  generalize hlo : ([] : List Loc) = locs at hM ⊢
  have hM : cM X s a [.inr (3, [.null, .null, .null, .null, .int 0, .int 0, .int 0, .int 0])] H locs 0 := hM
  refine lv_aload_n A.1 A.2.1 dX3_init_0 rfl (lv_at hl 0 rfl) ?_
  refine k_obj A hl.1 ol_X3 oi_i oi_c (Nat.le_of_ble_eq_true rfl) (Nat.le_of_ble_eq_true rfl) dX3_init_1 ?_
  refine W.eq (g2 := F0 m 4 ls []) rfl ?_
  refine lv_aload_n A.1 A.2.1 dX3_init_4 rfl (lv_at hl 0 rfl) ?_
  refine lv_bipush (v := 64) A.1 A.2.1 dX3_init_5 (by decide) ?_
  refine k_newa (kd := 0) (N := 64) (a0 := (64, .inl (fun _ => 0))) A hM aC_int rfl rfl (fun _ _ h1 h2 => Option.some.inj (h1.symm.trans h2)) (fun _ => rfl) (by decide) (by decide) (by decide) (Nat.le_of_ble_eq_true rfl) (Nat.le_of_ble_eq_true rfl) dX3_init_7 (fun H hM => ?_)
  have hM : cM X s a [.inr (3, [.null, .null, .null, .null, .int 0, .int 0, .int 0, .int 0]), .inl (X.2.2 0, (64, .inl (fun _ => 0)))] H locs 1 := hM
  refine W.widen (k := 1) (n := 64) (Nat.le_refl _) (Nat.le_refl _) ?_
  refine W.eq (g2 := F0 m 9 ls [.ref (a + 1), .ref a]) rfl ?_
  refine k_put (i := 0) (ci := 3) (k := 2) (ty := (.array .int)) (fs := [.null, .null, .null, .null, .int 0, .int 0, .int 0, .int 0]) A hM hnm rfl rfl iwX3 tyX3 tyX3_ok nmX3 (by decide) rfl pf_X3_9 (by decide +kernel) rfl rfl (Nat.le_of_ble_eq_true rfl) dX3_init_9 (fun H locs hM => ?_)
  have hM : cM X s a [.inr (3, [.null, .null, .ref (a + 1), .null, .int 0, .int 0, .int 0, .int 0]), .inl (X.2.2 0, (64, .inl (fun _ => 0)))] H locs 1 := hM
  refine lv_aload_n A.1 A.2.1 dX3_init_12 rfl (lv_at hl 0 rfl) ?_
  refine lv_bipush (v := 64) A.1 A.2.1 dX3_init_13 (by decide) ?_
  refine k_newa (kd := 0) (N := 64) (a0 := (64, .inl (fun _ => 0))) A hM aC_int rfl rfl (fun _ _ h1 h2 => Option.some.inj (h1.symm.trans h2)) (fun _ => rfl) (by decide) (by decide) (by decide) (Nat.le_of_ble_eq_true rfl) (Nat.le_of_ble_eq_true rfl) dX3_init_15 (fun H hM => ?_)
  have hM : cM X s a [.inr (3, [.null, .null, .ref (a + 1), .null, .int 0, .int 0, .int 0, .int 0]), .inl (X.2.2 0, (64, .inl (fun _ => 0))), .inl (X.2.2 0, (64, .inl (fun _ => 0)))] H locs 2 := hM
  refine W.widen (k := 2) (n := 128) (Nat.le_refl _) (Nat.le_refl _) ?_
  refine W.eq (g2 := F0 m 17 ls [.ref (a + 2), .ref a]) rfl ?_
  refine k_put (i := 0) (ci := 3) (k := 3) (ty := (.array .int)) (fs := [.null, .null, .ref (a + 1), .null, .int 0, .int 0, .int 0, .int 0]) A hM hnm rfl rfl iwX3 tyX3 tyX3_ok nmX3 (by decide) rfl pf_X3_15 (by decide +kernel) rfl rfl (Nat.le_of_ble_eq_true rfl) dX3_init_17 (fun H locs hM => ?_)
  have hM : cM X s a [.inr (3, [.null, .null, .ref (a + 1), .ref (a + 2), .int 0, .int 0, .int 0, .int 0]), .inl (X.2.2 0, (64, .inl (fun _ => 0))), .inl (X.2.2 0, (64, .inl (fun _ => 0)))] H locs 2 := hM
  refine lv_aload_n A.1 A.2.1 dX3_init_20 rfl (lv_at hl 0 rfl) ?_
  refine lv_iconst (v := 0) A.1 A.2.1 dX3_init_21 (by decide) ?_
  refine k_put (i := 0) (ci := 3) (k := 4) (ty := .int) (fs := [.null, .null, .ref (a + 1), .ref (a + 2), .int 0, .int 0, .int 0, .int 0]) A hM hnm rfl rfl iwX3 tyX3 tyX3_ok nmX3 (by decide) rfl pf_X3_18 (by decide +kernel) rfl rfl (Nat.le_of_ble_eq_true rfl) dX3_init_22 (fun H locs hM => ?_)
  have hM : cM X s a [.inr (3, [.null, .null, .ref (a + 1), .ref (a + 2), .int 0, .int 0, .int 0, .int 0]), .inl (X.2.2 0, (64, .inl (fun _ => 0))), .inl (X.2.2 0, (64, .inl (fun _ => 0)))] H locs 2 := hM
  refine lv_aload_n A.1 A.2.1 dX3_init_25 rfl (lv_at hl 0 rfl) ?_
  refine lv_iconst (v := 0) A.1 A.2.1 dX3_init_26 (by decide) ?_
  refine k_put (i := 0) (ci := 3) (k := 5) (ty := .int) (fs := [.null, .null, .ref (a + 1), .ref (a + 2), .int 0, .int 0, .int 0, .int 0]) A hM hnm rfl rfl iwX3 tyX3 tyX3_ok nmX3 (by decide) rfl pf_X3_22 (by decide +kernel) rfl rfl (Nat.le_of_ble_eq_true rfl) dX3_init_27 (fun H locs hM => ?_)
  have hM : cM X s a [.inr (3, [.null, .null, .ref (a + 1), .ref (a + 2), .int 0, .int 0, .int 0, .int 0]), .inl (X.2.2 0, (64, .inl (fun _ => 0))), .inl (X.2.2 0, (64, .inl (fun _ => 0)))] H locs 2 := hM
  refine lv_aload_n A.1 A.2.1 dX3_init_30 rfl (lv_at hl 0 rfl) ?_
  refine lv_iconst (v := 0) A.1 A.2.1 dX3_init_31 (by decide) ?_
  refine k_put (i := 0) (ci := 3) (k := 6) (ty := .int) (fs := [.null, .null, .ref (a + 1), .ref (a + 2), .int 0, .int 0, .int 0, .int 0]) A hM hnm rfl rfl iwX3 tyX3 tyX3_ok nmX3 (by decide) rfl pf_X3_25 (by decide +kernel) rfl rfl (Nat.le_of_ble_eq_true rfl) dX3_init_32 (fun H locs hM => ?_)
  have hM : cM X s a [.inr (3, [.null, .null, .ref (a + 1), .ref (a + 2), .int 0, .int 0, .int 0, .int 0]), .inl (X.2.2 0, (64, .inl (fun _ => 0))), .inl (X.2.2 0, (64, .inl (fun _ => 0)))] H locs 2 := hM
  refine lv_aload_n A.1 A.2.1 dX3_init_35 rfl (lv_at hl 0 rfl) ?_
  refine lv_iconst (v := -1) A.1 A.2.1 dX3_init_36 (by decide) ?_
  refine k_put (i := 0) (ci := 3) (k := 7) (ty := .int) (fs := [.null, .null, .ref (a + 1), .ref (a + 2), .int 0, .int 0, .int 0, .int 0]) A hM hnm rfl rfl iwX3 tyX3 tyX3_ok nmX3 (by decide) rfl pf_X3_28 (by decide +kernel) rfl rfl (Nat.le_of_ble_eq_true rfl) dX3_init_37 (fun H locs hM => ?_)
  have hM : cM X s a [.inr (3, [.null, .null, .ref (a + 1), .ref (a + 2), .int 0, .int 0, .int 0, .int (-1)]), .inl (X.2.2 0, (64, .inl (fun _ => 0))), .inl (X.2.2 0, (64, .inl (fun _ => 0)))] H locs 2 := hM
  refine lv_aload_n A.1 A.2.1 dX3_init_40 rfl (lv_at hl 0 rfl) ?_
  refine lv_aload_n A.1 A.2.1 dX3_init_41 rfl (lv_at hl 1 rfl) ?_
  refine k_put (i := 0) (ci := 3) (k := 0) (ty := (.object "SnowPaths$Green")) (fs := [.null, .null, .ref (a + 1), .ref (a + 2), .int 0, .int 0, .int 0, .int (-1)]) A hM hnm rfl rfl iwX3 tyX3 tyX3_ok nmX3 (by decide) rfl pf_X3_31 (by decide +kernel) rfl rfl (Nat.le_of_ble_eq_true rfl) dX3_init_42 (fun H locs hM => ?_)
  have hM : cM X s a [.inr (3, [.ref g, .null, .ref (a + 1), .ref (a + 2), .int 0, .int 0, .int 0, .int (-1)]), .inl (X.2.2 0, (64, .inl (fun _ => 0))), .inl (X.2.2 0, (64, .inl (fun _ => 0)))] H locs 2 := hM
  refine lv_aload_n A.1 A.2.1 dX3_init_45 rfl (lv_at hl 0 rfl) ?_
  refine lv_aload_n A.1 A.2.1 dX3_init_46 rfl (lv_at hl 2 rfl) ?_
  refine k_put (i := 0) (ci := 3) (k := 1) (ty := (.object "SnowPaths$Route")) (fs := [.ref g, .null, .ref (a + 1), .ref (a + 2), .int 0, .int 0, .int 0, .int (-1)]) A hM hnm rfl rfl iwX3 tyX3 tyX3_ok nmX3 (by decide) rfl pf_X3_35 (by decide +kernel) rfl rfl (Nat.le_of_ble_eq_true rfl) dX3_init_47 (fun H locs hM => ?_)
  have hM : cM X s a [.inr (3, [.ref g, .ref ro, .ref (a + 1), .ref (a + 2), .int 0, .int 0, .int 0, .int (-1)]), .inl (X.2.2 0, (64, .inl (fun _ => 0))), .inl (X.2.2 0, (64, .inl (fun _ => 0)))] H locs 2 := hM
  exact k_ret A hM hr hlk rfl dX3_init_50
set_option maxRecDepth 100000 in
theorem ol_X1 : Cond.methodLink RX1 3 objectInit ∈ gW := gW_t 56 rfl rfl
set_option maxRecDepth 100000 in
theorem pf_X1_9 : Cond.fieldLink RX1 9 RX1 (TX1 0).2.1 (TX1 0).2.2.1 ∈ gW := gW_t 57 rfl rfl
set_option maxRecDepth 100000 in
theorem pf_X1_15 : Cond.fieldLink RX1 15 RX1 (TX1 1).2.1 (TX1 1).2.2.1 ∈ gW := gW_t 59 rfl rfl
set_option maxRecDepth 100000 in
theorem pf_X1_18 : Cond.fieldLink RX1 18 RX1 (TX1 2).2.1 (TX1 2).2.2.1 ∈ gW := gW_t 61 rfl rfl
set_option maxRecDepth 100000 in
theorem pf_X1_21 : Cond.fieldLink RX1 21 RX1 (TX1 3).2.1 (TX1 3).2.2.1 ∈ gW := gW_t 63 rfl rfl
set_option maxRecDepth 100000 in
theorem pf_X1_24 : Cond.fieldLink RX1 24 RX1 (TX1 4).2.1 (TX1 4).2.2.1 ∈ gW := gW_t 65 rfl rfl
def finX1 (X : gX) (a : Nat) : List va_E := [.inr (1, [.ref (a + 1), .ref (a + 2), .ref (a + 3), .ref (a + 4), .ref (a + 5)]), .inl (X.2.2 0, (64, .inl (fun _ => 0))), .inl (X.2.2 0, (64, .inl (fun _ => 0))), .inl (X.2.2 0, (64, .inl (fun _ => 0))), .inl (X.2.2 0, (64, .inl (fun _ => 0))), .inl (X.2.2 0, (64, .inl (fun _ => 0)))]
set_option maxRecDepth 100000 in
set_option maxHeartbeats 4000000 in
theorem ctX1_init (X : gX) (a : Nat) : cC X yX1_init cX1_init 1 1 5 320 [.ref a] a (.inr (1, [.null, .null, .null, .null, .null])) (finX1 X a) := by
  refine k_met (by decide +kernel) rfl (Nat.le_of_ble_eq_true rfl) ?_
  intro p l e s m args below meth c ls A hKA hr hlk hnm hM hl
  have A : g_At X RX1 cX1_init 1 p s m args c := A
  have hl : lv_has ls 1 [(0, .ref a)] := hl
  generalize hH : s.heap = H at hM ⊢
  generalize hlo : ([] : List Loc) = locs at hM ⊢
  have hM : cM X s a [.inr (1, [.null, .null, .null, .null, .null])] H locs 0 := hM
  refine lv_aload_n A.1 A.2.1 dX1_init_0 rfl (lv_at hl 0 rfl) ?_
  refine k_obj A hl.1 ol_X1 oi_i oi_c (Nat.le_of_ble_eq_true rfl) (Nat.le_of_ble_eq_true rfl) dX1_init_1 ?_
  refine W.eq (g2 := F0 m 4 ls []) rfl ?_
  refine lv_aload_n A.1 A.2.1 dX1_init_4 rfl (lv_at hl 0 rfl) ?_
  refine lv_bipush (v := 64) A.1 A.2.1 dX1_init_5 (by decide) ?_
  refine k_newa (kd := 0) (N := 64) (a0 := (64, .inl (fun _ => 0))) A hM aC_int rfl rfl (fun _ _ h1 h2 => Option.some.inj (h1.symm.trans h2)) (fun _ => rfl) (by decide) (by decide) (by decide) (Nat.le_of_ble_eq_true rfl) (Nat.le_of_ble_eq_true rfl) dX1_init_7 (fun H hM => ?_)
  have hM : cM X s a [.inr (1, [.null, .null, .null, .null, .null]), .inl (X.2.2 0, (64, .inl (fun _ => 0)))] H locs 1 := hM
  refine W.widen (k := 1) (n := 64) (Nat.le_refl _) (Nat.le_refl _) ?_
  refine W.eq (g2 := F0 m 9 ls [.ref (a + 1), .ref a]) rfl ?_
  refine k_put (i := 0) (ci := 1) (k := 0) (ty := (.array .int)) (fs := [.null, .null, .null, .null, .null]) A hM hnm rfl rfl iwX1 tyX1 tyX1_ok nmX1 (by decide) rfl pf_X1_9 (by decide +kernel) rfl rfl (Nat.le_of_ble_eq_true rfl) dX1_init_9 (fun H locs hM => ?_)
  have hM : cM X s a [.inr (1, [.ref (a + 1), .null, .null, .null, .null]), .inl (X.2.2 0, (64, .inl (fun _ => 0)))] H locs 1 := hM
  refine lv_aload_n A.1 A.2.1 dX1_init_12 rfl (lv_at hl 0 rfl) ?_
  refine lv_bipush (v := 64) A.1 A.2.1 dX1_init_13 (by decide) ?_
  refine k_newa (kd := 0) (N := 64) (a0 := (64, .inl (fun _ => 0))) A hM aC_int rfl rfl (fun _ _ h1 h2 => Option.some.inj (h1.symm.trans h2)) (fun _ => rfl) (by decide) (by decide) (by decide) (Nat.le_of_ble_eq_true rfl) (Nat.le_of_ble_eq_true rfl) dX1_init_15 (fun H hM => ?_)
  have hM : cM X s a [.inr (1, [.ref (a + 1), .null, .null, .null, .null]), .inl (X.2.2 0, (64, .inl (fun _ => 0))), .inl (X.2.2 0, (64, .inl (fun _ => 0)))] H locs 2 := hM
  refine W.widen (k := 2) (n := 128) (Nat.le_refl _) (Nat.le_refl _) ?_
  refine W.eq (g2 := F0 m 17 ls [.ref (a + 2), .ref a]) rfl ?_
  refine k_put (i := 0) (ci := 1) (k := 1) (ty := (.array .int)) (fs := [.ref (a + 1), .null, .null, .null, .null]) A hM hnm rfl rfl iwX1 tyX1 tyX1_ok nmX1 (by decide) rfl pf_X1_15 (by decide +kernel) rfl rfl (Nat.le_of_ble_eq_true rfl) dX1_init_17 (fun H locs hM => ?_)
  have hM : cM X s a [.inr (1, [.ref (a + 1), .ref (a + 2), .null, .null, .null]), .inl (X.2.2 0, (64, .inl (fun _ => 0))), .inl (X.2.2 0, (64, .inl (fun _ => 0)))] H locs 2 := hM
  refine lv_aload_n A.1 A.2.1 dX1_init_20 rfl (lv_at hl 0 rfl) ?_
  refine lv_bipush (v := 64) A.1 A.2.1 dX1_init_21 (by decide) ?_
  refine k_newa (kd := 0) (N := 64) (a0 := (64, .inl (fun _ => 0))) A hM aC_int rfl rfl (fun _ _ h1 h2 => Option.some.inj (h1.symm.trans h2)) (fun _ => rfl) (by decide) (by decide) (by decide) (Nat.le_of_ble_eq_true rfl) (Nat.le_of_ble_eq_true rfl) dX1_init_23 (fun H hM => ?_)
  have hM : cM X s a [.inr (1, [.ref (a + 1), .ref (a + 2), .null, .null, .null]), .inl (X.2.2 0, (64, .inl (fun _ => 0))), .inl (X.2.2 0, (64, .inl (fun _ => 0))), .inl (X.2.2 0, (64, .inl (fun _ => 0)))] H locs 3 := hM
  refine W.widen (k := 3) (n := 192) (Nat.le_refl _) (Nat.le_refl _) ?_
  refine W.eq (g2 := F0 m 25 ls [.ref (a + 3), .ref a]) rfl ?_
  refine k_put (i := 0) (ci := 1) (k := 2) (ty := (.array .int)) (fs := [.ref (a + 1), .ref (a + 2), .null, .null, .null]) A hM hnm rfl rfl iwX1 tyX1 tyX1_ok nmX1 (by decide) rfl pf_X1_18 (by decide +kernel) rfl rfl (Nat.le_of_ble_eq_true rfl) dX1_init_25 (fun H locs hM => ?_)
  have hM : cM X s a [.inr (1, [.ref (a + 1), .ref (a + 2), .ref (a + 3), .null, .null]), .inl (X.2.2 0, (64, .inl (fun _ => 0))), .inl (X.2.2 0, (64, .inl (fun _ => 0))), .inl (X.2.2 0, (64, .inl (fun _ => 0)))] H locs 3 := hM
  refine lv_aload_n A.1 A.2.1 dX1_init_28 rfl (lv_at hl 0 rfl) ?_
  refine lv_bipush (v := 64) A.1 A.2.1 dX1_init_29 (by decide) ?_
  refine k_newa (kd := 0) (N := 64) (a0 := (64, .inl (fun _ => 0))) A hM aC_int rfl rfl (fun _ _ h1 h2 => Option.some.inj (h1.symm.trans h2)) (fun _ => rfl) (by decide) (by decide) (by decide) (Nat.le_of_ble_eq_true rfl) (Nat.le_of_ble_eq_true rfl) dX1_init_31 (fun H hM => ?_)
  have hM : cM X s a [.inr (1, [.ref (a + 1), .ref (a + 2), .ref (a + 3), .null, .null]), .inl (X.2.2 0, (64, .inl (fun _ => 0))), .inl (X.2.2 0, (64, .inl (fun _ => 0))), .inl (X.2.2 0, (64, .inl (fun _ => 0))), .inl (X.2.2 0, (64, .inl (fun _ => 0)))] H locs 4 := hM
  refine W.widen (k := 4) (n := 256) (Nat.le_refl _) (Nat.le_refl _) ?_
  refine W.eq (g2 := F0 m 33 ls [.ref (a + 4), .ref a]) rfl ?_
  refine k_put (i := 0) (ci := 1) (k := 3) (ty := (.array .int)) (fs := [.ref (a + 1), .ref (a + 2), .ref (a + 3), .null, .null]) A hM hnm rfl rfl iwX1 tyX1 tyX1_ok nmX1 (by decide) rfl pf_X1_21 (by decide +kernel) rfl rfl (Nat.le_of_ble_eq_true rfl) dX1_init_33 (fun H locs hM => ?_)
  have hM : cM X s a [.inr (1, [.ref (a + 1), .ref (a + 2), .ref (a + 3), .ref (a + 4), .null]), .inl (X.2.2 0, (64, .inl (fun _ => 0))), .inl (X.2.2 0, (64, .inl (fun _ => 0))), .inl (X.2.2 0, (64, .inl (fun _ => 0))), .inl (X.2.2 0, (64, .inl (fun _ => 0)))] H locs 4 := hM
  refine lv_aload_n A.1 A.2.1 dX1_init_36 rfl (lv_at hl 0 rfl) ?_
  refine lv_bipush (v := 64) A.1 A.2.1 dX1_init_37 (by decide) ?_
  refine k_newa (kd := 0) (N := 64) (a0 := (64, .inl (fun _ => 0))) A hM aC_int rfl rfl (fun _ _ h1 h2 => Option.some.inj (h1.symm.trans h2)) (fun _ => rfl) (by decide) (by decide) (by decide) (Nat.le_of_ble_eq_true rfl) (Nat.le_of_ble_eq_true rfl) dX1_init_39 (fun H hM => ?_)
  have hM : cM X s a [.inr (1, [.ref (a + 1), .ref (a + 2), .ref (a + 3), .ref (a + 4), .null]), .inl (X.2.2 0, (64, .inl (fun _ => 0))), .inl (X.2.2 0, (64, .inl (fun _ => 0))), .inl (X.2.2 0, (64, .inl (fun _ => 0))), .inl (X.2.2 0, (64, .inl (fun _ => 0))), .inl (X.2.2 0, (64, .inl (fun _ => 0)))] H locs 5 := hM
  refine W.widen (k := 5) (n := 320) (Nat.le_refl _) (Nat.le_refl _) ?_
  refine W.eq (g2 := F0 m 41 ls [.ref (a + 5), .ref a]) rfl ?_
  refine k_put (i := 0) (ci := 1) (k := 4) (ty := (.array .int)) (fs := [.ref (a + 1), .ref (a + 2), .ref (a + 3), .ref (a + 4), .null]) A hM hnm rfl rfl iwX1 tyX1 tyX1_ok nmX1 (by decide) rfl pf_X1_24 (by decide +kernel) rfl rfl (Nat.le_of_ble_eq_true rfl) dX1_init_41 (fun H locs hM => ?_)
  have hM : cM X s a [.inr (1, [.ref (a + 1), .ref (a + 2), .ref (a + 3), .ref (a + 4), .ref (a + 5)]), .inl (X.2.2 0, (64, .inl (fun _ => 0))), .inl (X.2.2 0, (64, .inl (fun _ => 0))), .inl (X.2.2 0, (64, .inl (fun _ => 0))), .inl (X.2.2 0, (64, .inl (fun _ => 0))), .inl (X.2.2 0, (64, .inl (fun _ => 0)))] H locs 5 := hM
  exact k_ret A hM hr hlk rfl dX1_init_44
set_option maxRecDepth 100000 in
theorem ol_X2 : Cond.methodLink RX2 3 objectInit ∈ gW := gW_t 172 rfl rfl
set_option maxRecDepth 100000 in
theorem cl_X2_9 : Cond.classLink RX2 9 RX3 ∈ gW := gW_t 173 rfl rfl
set_option maxRecDepth 100000 in
theorem pf_X2_11 : Cond.fieldLink RX2 11 RX2 (TX2 2).2.1 (TX2 2).2.2.1 ∈ gW := gW_t 178 rfl rfl
set_option maxRecDepth 100000 in
theorem pf_X2_17 : Cond.fieldLink RX2 17 RX2 (TX2 3).2.1 (TX2 3).2.2.1 ∈ gW := gW_t 179 rfl rfl
set_option maxRecDepth 100000 in
theorem pf_X2_21 : Cond.fieldLink RX2 21 RX2 (TX2 4).2.1 (TX2 4).2.2.1 ∈ gW := gW_t 180 rfl rfl
set_option maxRecDepth 100000 in
theorem pf_X2_24 : Cond.fieldLink RX2 24 RX2 (TX2 5).2.1 (TX2 5).2.2.1 ∈ gW := gW_t 182 rfl rfl
set_option maxRecDepth 100000 in
theorem pf_X2_27 : Cond.fieldLink RX2 27 RX2 (TX2 6).2.1 (TX2 6).2.2.1 ∈ gW := gW_t 184 rfl rfl
set_option maxRecDepth 100000 in
theorem pf_X2_31 : Cond.fieldLink RX2 31 RX2 (TX2 7).2.1 (TX2 7).2.2.1 ∈ gW := gW_t 186 rfl rfl
set_option maxRecDepth 100000 in
theorem pf_X2_34 : Cond.fieldLink RX2 34 RX2 (TX2 8).2.1 (TX2 8).2.2.1 ∈ gW := gW_t 188 rfl rfl
set_option maxRecDepth 100000 in
theorem pf_X2_37 : Cond.fieldLink RX2 37 RX2 (TX2 9).2.1 (TX2 9).2.2.1 ∈ gW := gW_t 190 rfl rfl
set_option maxRecDepth 100000 in
theorem pf_X2_40 : Cond.fieldLink RX2 40 RX2 (TX2 0).2.1 (TX2 0).2.2.1 ∈ gW := gW_t 176 rfl rfl
set_option maxRecDepth 100000 in
theorem pf_X2_44 : Cond.fieldLink RX2 44 RX2 (TX2 1).2.1 (TX2 1).2.2.1 ∈ gW := gW_t 177 rfl rfl
set_option maxRecDepth 100000 in
theorem ib_X3 : Cond.instantiable RX3 8 ∈ gW := gW_t 128 rfl rfl
set_option maxRecDepth 100000 in
theorem in_X3 : Cond.initialized RX3 ∈ gW := gW_t 6 rfl rfl
set_option maxRecDepth 100000 in
theorem ml_X2_48 : c_ml RX2 48 yX3_init cX3_init 3 2 := ⟨Or.inr ⟨"SnowPaths", gN_t 175 rfl rfl⟩, in_X3, gW_t 131 rfl rfl, by decide +kernel, rfl, gW_t 130 rfl rfl⟩
def finX2 (X : gX) (a : Nat) (g : Nat) (w : Nat) (ro : Nat) : List va_E := (((((([.inr (2, [.ref g, .ref w, .ref (a + 1), .ref (a + 2), .ref (a + 3), .ref (a + 4), .int 0, .int 0, .int 0, .int 0]), .inl (X.2.2 3, 6, .inr (.inr (.inr (.inr (fun j => some (a + (5 + 3 * j))))))), .inl (X.2.2 0, (5, .inl (fun _ => 0))), .inl (X.2.2 0, (5, .inl (fun _ => 0))), .inl (X.2.2 0, (5, .inl (fun _ => 0)))] ++ finX3 X (a + 5) g ro) ++ finX3 X (a + 8) g ro) ++ finX3 X (a + 11) g ro) ++ finX3 X (a + 14) g ro) ++ finX3 X (a + 17) g ro) ++ finX3 X (a + 20) g ro)
set_option maxRecDepth 100000 in
set_option maxHeartbeats 4000000 in
theorem ctX2_init (X : gX) (a : Nat) (g : Nat) (w : Nat) (ro : Nat) : cC X yX2_init cX2_init 5 2 22 837 [.ref a, .ref g, .ref w, .ref ro] a (.inr (2, [.null, .null, .null, .null, .null, .null, .int 0, .int 0, .int 0, .int 0])) (finX2 X a g w ro) := by
  refine k_met (by decide +kernel) rfl (Nat.le_of_ble_eq_true rfl) ?_
  intro p l e s m args below meth c ls A hKA hr hlk hnm hM hl
  have A : g_At X RX2 cX2_init 5 p s m args c := A
  have hl : lv_has ls 5 [(0, .ref a), (1, .ref g), (2, .ref w), (3, .ref ro)] := hl
  generalize hH : s.heap = H at hM ⊢
  generalize hlo : ([] : List Loc) = locs at hM ⊢
  have hM : cM X s a [.inr (2, [.null, .null, .null, .null, .null, .null, .int 0, .int 0, .int 0, .int 0])] H locs 0 := hM
  refine lv_aload_n A.1 A.2.1 dX2_init_0 rfl (lv_at hl 0 rfl) ?_
  refine k_obj A hl.1 ol_X2 oi_i oi_c (Nat.le_of_ble_eq_true rfl) (Nat.le_of_ble_eq_true rfl) dX2_init_1 ?_
  refine W.eq (g2 := F0 m 4 ls []) rfl ?_
  refine lv_aload_n A.1 A.2.1 dX2_init_4 rfl (lv_at hl 0 rfl) ?_
  refine lv_bipush (v := 6) A.1 A.2.1 dX2_init_5 (by decide) ?_
  refine k_newq (kd := 3) (N := 6) A hM cl_X2_9 hKA.1 rfl (by decide) (by decide) (by decide) (Nat.le_of_ble_eq_true rfl) (Nat.le_of_ble_eq_true rfl) dX2_init_7 (fun H hM => ?_)
  have hM : cM X s a [.inr (2, [.null, .null, .null, .null, .null, .null, .int 0, .int 0, .int 0, .int 0]), .inl (X.2.2 3, 6, .inr (.inr (.inr (.inr (fun _ => none)))))] H locs 1 := hM
  refine W.eq (g2 := F0 m 10 ls [.ref (a + 1), .ref a]) rfl ?_
  refine k_put (i := 0) (ci := 2) (k := 2) (ty := (.array (.object "SnowPaths$Outing"))) (fs := [.null, .null, .null, .null, .null, .null, .int 0, .int 0, .int 0, .int 0]) A hM hnm rfl rfl iwX2 tyX2 tyX2_ok nmX2 (by decide) rfl pf_X2_11 (by decide +kernel) rfl rfl (Nat.le_of_ble_eq_true rfl) dX2_init_10 (fun H locs hM => ?_)
  have hM : cM X s a [.inr (2, [.null, .null, .ref (a + 1), .null, .null, .null, .int 0, .int 0, .int 0, .int 0]), .inl (X.2.2 3, 6, .inr (.inr (.inr (.inr (fun _ => none)))))] H locs 1 := hM
  refine lv_aload_n A.1 A.2.1 dX2_init_13 rfl (lv_at hl 0 rfl) ?_
  refine lv_iconst (v := 5) A.1 A.2.1 dX2_init_14 (by decide) ?_
  refine k_newa (kd := 0) (N := 5) (a0 := (5, .inl (fun _ => 0))) A hM aC_int rfl rfl (fun _ _ h1 h2 => Option.some.inj (h1.symm.trans h2)) (fun _ => rfl) (by decide) (by decide) (by decide) (Nat.le_of_ble_eq_true rfl) (Nat.le_of_ble_eq_true rfl) dX2_init_15 (fun H hM => ?_)
  have hM : cM X s a [.inr (2, [.null, .null, .ref (a + 1), .null, .null, .null, .int 0, .int 0, .int 0, .int 0]), .inl (X.2.2 3, 6, .inr (.inr (.inr (.inr (fun _ => none))))), .inl (X.2.2 0, (5, .inl (fun _ => 0)))] H locs 2 := hM
  refine W.widen (k := 2) (n := 11) (Nat.le_refl _) (Nat.le_refl _) ?_
  refine W.eq (g2 := F0 m 17 ls [.ref (a + 2), .ref a]) rfl ?_
  refine k_put (i := 0) (ci := 2) (k := 3) (ty := (.array .int)) (fs := [.null, .null, .ref (a + 1), .null, .null, .null, .int 0, .int 0, .int 0, .int 0]) A hM hnm rfl rfl iwX2 tyX2 tyX2_ok nmX2 (by decide) rfl pf_X2_17 (by decide +kernel) rfl rfl (Nat.le_of_ble_eq_true rfl) dX2_init_17 (fun H locs hM => ?_)
  have hM : cM X s a [.inr (2, [.null, .null, .ref (a + 1), .ref (a + 2), .null, .null, .int 0, .int 0, .int 0, .int 0]), .inl (X.2.2 3, 6, .inr (.inr (.inr (.inr (fun _ => none))))), .inl (X.2.2 0, (5, .inl (fun _ => 0)))] H locs 2 := hM
  refine lv_aload_n A.1 A.2.1 dX2_init_20 rfl (lv_at hl 0 rfl) ?_
  refine lv_iconst (v := 5) A.1 A.2.1 dX2_init_21 (by decide) ?_
  refine k_newa (kd := 0) (N := 5) (a0 := (5, .inl (fun _ => 0))) A hM aC_int rfl rfl (fun _ _ h1 h2 => Option.some.inj (h1.symm.trans h2)) (fun _ => rfl) (by decide) (by decide) (by decide) (Nat.le_of_ble_eq_true rfl) (Nat.le_of_ble_eq_true rfl) dX2_init_22 (fun H hM => ?_)
  have hM : cM X s a [.inr (2, [.null, .null, .ref (a + 1), .ref (a + 2), .null, .null, .int 0, .int 0, .int 0, .int 0]), .inl (X.2.2 3, 6, .inr (.inr (.inr (.inr (fun _ => none))))), .inl (X.2.2 0, (5, .inl (fun _ => 0))), .inl (X.2.2 0, (5, .inl (fun _ => 0)))] H locs 3 := hM
  refine W.widen (k := 3) (n := 16) (Nat.le_refl _) (Nat.le_refl _) ?_
  refine W.eq (g2 := F0 m 24 ls [.ref (a + 3), .ref a]) rfl ?_
  refine k_put (i := 0) (ci := 2) (k := 4) (ty := (.array .int)) (fs := [.null, .null, .ref (a + 1), .ref (a + 2), .null, .null, .int 0, .int 0, .int 0, .int 0]) A hM hnm rfl rfl iwX2 tyX2 tyX2_ok nmX2 (by decide) rfl pf_X2_21 (by decide +kernel) rfl rfl (Nat.le_of_ble_eq_true rfl) dX2_init_24 (fun H locs hM => ?_)
  have hM : cM X s a [.inr (2, [.null, .null, .ref (a + 1), .ref (a + 2), .ref (a + 3), .null, .int 0, .int 0, .int 0, .int 0]), .inl (X.2.2 3, 6, .inr (.inr (.inr (.inr (fun _ => none))))), .inl (X.2.2 0, (5, .inl (fun _ => 0))), .inl (X.2.2 0, (5, .inl (fun _ => 0)))] H locs 3 := hM
  refine lv_aload_n A.1 A.2.1 dX2_init_27 rfl (lv_at hl 0 rfl) ?_
  refine lv_iconst (v := 5) A.1 A.2.1 dX2_init_28 (by decide) ?_
  refine k_newa (kd := 0) (N := 5) (a0 := (5, .inl (fun _ => 0))) A hM aC_int rfl rfl (fun _ _ h1 h2 => Option.some.inj (h1.symm.trans h2)) (fun _ => rfl) (by decide) (by decide) (by decide) (Nat.le_of_ble_eq_true rfl) (Nat.le_of_ble_eq_true rfl) dX2_init_29 (fun H hM => ?_)
  have hM : cM X s a [.inr (2, [.null, .null, .ref (a + 1), .ref (a + 2), .ref (a + 3), .null, .int 0, .int 0, .int 0, .int 0]), .inl (X.2.2 3, 6, .inr (.inr (.inr (.inr (fun _ => none))))), .inl (X.2.2 0, (5, .inl (fun _ => 0))), .inl (X.2.2 0, (5, .inl (fun _ => 0))), .inl (X.2.2 0, (5, .inl (fun _ => 0)))] H locs 4 := hM
  refine W.widen (k := 4) (n := 21) (Nat.le_refl _) (Nat.le_refl _) ?_
  refine W.eq (g2 := F0 m 31 ls [.ref (a + 4), .ref a]) rfl ?_
  refine k_put (i := 0) (ci := 2) (k := 5) (ty := (.array .int)) (fs := [.null, .null, .ref (a + 1), .ref (a + 2), .ref (a + 3), .null, .int 0, .int 0, .int 0, .int 0]) A hM hnm rfl rfl iwX2 tyX2 tyX2_ok nmX2 (by decide) rfl pf_X2_24 (by decide +kernel) rfl rfl (Nat.le_of_ble_eq_true rfl) dX2_init_31 (fun H locs hM => ?_)
  have hM : cM X s a [.inr (2, [.null, .null, .ref (a + 1), .ref (a + 2), .ref (a + 3), .ref (a + 4), .int 0, .int 0, .int 0, .int 0]), .inl (X.2.2 3, 6, .inr (.inr (.inr (.inr (fun _ => none))))), .inl (X.2.2 0, (5, .inl (fun _ => 0))), .inl (X.2.2 0, (5, .inl (fun _ => 0))), .inl (X.2.2 0, (5, .inl (fun _ => 0)))] H locs 4 := hM
  refine lv_aload_n A.1 A.2.1 dX2_init_34 rfl (lv_at hl 0 rfl) ?_
  refine lv_iconst (v := 0) A.1 A.2.1 dX2_init_35 (by decide) ?_
  refine k_put (i := 0) (ci := 2) (k := 6) (ty := .int) (fs := [.null, .null, .ref (a + 1), .ref (a + 2), .ref (a + 3), .ref (a + 4), .int 0, .int 0, .int 0, .int 0]) A hM hnm rfl rfl iwX2 tyX2 tyX2_ok nmX2 (by decide) rfl pf_X2_27 (by decide +kernel) rfl rfl (Nat.le_of_ble_eq_true rfl) dX2_init_36 (fun H locs hM => ?_)
  have hM : cM X s a [.inr (2, [.null, .null, .ref (a + 1), .ref (a + 2), .ref (a + 3), .ref (a + 4), .int 0, .int 0, .int 0, .int 0]), .inl (X.2.2 3, 6, .inr (.inr (.inr (.inr (fun _ => none))))), .inl (X.2.2 0, (5, .inl (fun _ => 0))), .inl (X.2.2 0, (5, .inl (fun _ => 0))), .inl (X.2.2 0, (5, .inl (fun _ => 0)))] H locs 4 := hM
  refine lv_aload_n A.1 A.2.1 dX2_init_39 rfl (lv_at hl 0 rfl) ?_
  refine lv_iconst (v := 0) A.1 A.2.1 dX2_init_40 (by decide) ?_
  refine k_put (i := 0) (ci := 2) (k := 7) (ty := .int) (fs := [.null, .null, .ref (a + 1), .ref (a + 2), .ref (a + 3), .ref (a + 4), .int 0, .int 0, .int 0, .int 0]) A hM hnm rfl rfl iwX2 tyX2 tyX2_ok nmX2 (by decide) rfl pf_X2_31 (by decide +kernel) rfl rfl (Nat.le_of_ble_eq_true rfl) dX2_init_41 (fun H locs hM => ?_)
  have hM : cM X s a [.inr (2, [.null, .null, .ref (a + 1), .ref (a + 2), .ref (a + 3), .ref (a + 4), .int 0, .int 0, .int 0, .int 0]), .inl (X.2.2 3, 6, .inr (.inr (.inr (.inr (fun _ => none))))), .inl (X.2.2 0, (5, .inl (fun _ => 0))), .inl (X.2.2 0, (5, .inl (fun _ => 0))), .inl (X.2.2 0, (5, .inl (fun _ => 0)))] H locs 4 := hM
  refine lv_aload_n A.1 A.2.1 dX2_init_44 rfl (lv_at hl 0 rfl) ?_
  refine lv_iconst (v := 0) A.1 A.2.1 dX2_init_45 (by decide) ?_
  refine k_put (i := 0) (ci := 2) (k := 8) (ty := .int) (fs := [.null, .null, .ref (a + 1), .ref (a + 2), .ref (a + 3), .ref (a + 4), .int 0, .int 0, .int 0, .int 0]) A hM hnm rfl rfl iwX2 tyX2 tyX2_ok nmX2 (by decide) rfl pf_X2_34 (by decide +kernel) rfl rfl (Nat.le_of_ble_eq_true rfl) dX2_init_46 (fun H locs hM => ?_)
  have hM : cM X s a [.inr (2, [.null, .null, .ref (a + 1), .ref (a + 2), .ref (a + 3), .ref (a + 4), .int 0, .int 0, .int 0, .int 0]), .inl (X.2.2 3, 6, .inr (.inr (.inr (.inr (fun _ => none))))), .inl (X.2.2 0, (5, .inl (fun _ => 0))), .inl (X.2.2 0, (5, .inl (fun _ => 0))), .inl (X.2.2 0, (5, .inl (fun _ => 0)))] H locs 4 := hM
  refine lv_aload_n A.1 A.2.1 dX2_init_49 rfl (lv_at hl 0 rfl) ?_
  refine lv_iconst (v := 0) A.1 A.2.1 dX2_init_50 (by decide) ?_
  refine k_put (i := 0) (ci := 2) (k := 9) (ty := .int) (fs := [.null, .null, .ref (a + 1), .ref (a + 2), .ref (a + 3), .ref (a + 4), .int 0, .int 0, .int 0, .int 0]) A hM hnm rfl rfl iwX2 tyX2 tyX2_ok nmX2 (by decide) rfl pf_X2_37 (by decide +kernel) rfl rfl (Nat.le_of_ble_eq_true rfl) dX2_init_51 (fun H locs hM => ?_)
  have hM : cM X s a [.inr (2, [.null, .null, .ref (a + 1), .ref (a + 2), .ref (a + 3), .ref (a + 4), .int 0, .int 0, .int 0, .int 0]), .inl (X.2.2 3, 6, .inr (.inr (.inr (.inr (fun _ => none))))), .inl (X.2.2 0, (5, .inl (fun _ => 0))), .inl (X.2.2 0, (5, .inl (fun _ => 0))), .inl (X.2.2 0, (5, .inl (fun _ => 0)))] H locs 4 := hM
  refine lv_aload_n A.1 A.2.1 dX2_init_54 rfl (lv_at hl 0 rfl) ?_
  refine lv_aload_n A.1 A.2.1 dX2_init_55 rfl (lv_at hl 1 rfl) ?_
  refine k_put (i := 0) (ci := 2) (k := 0) (ty := (.object "SnowPaths$Green")) (fs := [.null, .null, .ref (a + 1), .ref (a + 2), .ref (a + 3), .ref (a + 4), .int 0, .int 0, .int 0, .int 0]) A hM hnm rfl rfl iwX2 tyX2 tyX2_ok nmX2 (by decide) rfl pf_X2_40 (by decide +kernel) rfl rfl (Nat.le_of_ble_eq_true rfl) dX2_init_56 (fun H locs hM => ?_)
  have hM : cM X s a [.inr (2, [.ref g, .null, .ref (a + 1), .ref (a + 2), .ref (a + 3), .ref (a + 4), .int 0, .int 0, .int 0, .int 0]), .inl (X.2.2 3, 6, .inr (.inr (.inr (.inr (fun _ => none))))), .inl (X.2.2 0, (5, .inl (fun _ => 0))), .inl (X.2.2 0, (5, .inl (fun _ => 0))), .inl (X.2.2 0, (5, .inl (fun _ => 0)))] H locs 4 := hM
  refine lv_aload_n A.1 A.2.1 dX2_init_59 rfl (lv_at hl 0 rfl) ?_
  refine lv_aload_n A.1 A.2.1 dX2_init_60 rfl (lv_at hl 2 rfl) ?_
  refine k_put (i := 0) (ci := 2) (k := 1) (ty := (.object "SnowPaths$Walkers")) (fs := [.ref g, .null, .ref (a + 1), .ref (a + 2), .ref (a + 3), .ref (a + 4), .int 0, .int 0, .int 0, .int 0]) A hM hnm rfl rfl iwX2 tyX2 tyX2_ok nmX2 (by decide) rfl pf_X2_44 (by decide +kernel) rfl rfl (Nat.le_of_ble_eq_true rfl) dX2_init_61 (fun H locs hM => ?_)
  have hM : cM X s a [.inr (2, [.ref g, .ref w, .ref (a + 1), .ref (a + 2), .ref (a + 3), .ref (a + 4), .int 0, .int 0, .int 0, .int 0]), .inl (X.2.2 3, 6, .inr (.inr (.inr (.inr (fun _ => none))))), .inl (X.2.2 0, (5, .inl (fun _ => 0))), .inl (X.2.2 0, (5, .inl (fun _ => 0))), .inl (X.2.2 0, (5, .inl (fun _ => 0)))] H locs 4 := hM
  refine lv_iconst (v := 0) A.1 A.2.1 dX2_init_64 (by decide) ?_
  refine lv_istore (lv' := [(4, .int 0), (0, .ref a), (1, .ref g), (2, .ref w), (3, .ref ro)]) A.1 A.2.1 dX2_init_65 hl (by decide) rfl (fun ls hl => ?_)
  refine lv_iload A.1 A.2.1 dX2_init_67 (lv_at hl 0 rfl) ?_
  refine lv_iconst (v := 5) A.1 A.2.1 dX2_init_69 (by decide) ?_
  refine lv_icmp_gt (tgt := 95) A.1 A.2.1 dX2_init_70 (by decide) (fun h => absurd h (by decide)) (fun _ => ?_)
  refine W.eq (g2 := F0 m 73 ls []) rfl ?_
  refine lv_aload_n A.1 A.2.1 dX2_init_73 rfl (lv_at hl 1 rfl) ?_
  refine k_get (i := 0) (ci := 2) (k := 2) (fs := [.ref g, .ref w, .ref (a + 1), .ref (a + 2), .ref (a + 3), .ref (a + 4), .int 0, .int 0, .int 0, .int 0]) (v := .ref (a + 1)) A hM rfl rfl iwX2 (by decide) rfl pf_X2_11 rfl dX2_init_74 ?_
  refine lv_iload A.1 A.2.1 dX2_init_77 (lv_at hl 0 rfl) ?_
  refine k_new (ci := 3) (fs := [.null, .null, .null, .null, .int 0, .int 0, .int 0, .int 0]) A hM rfl iwX3 tyX3 tyX3_ok cl_X2_9 ib_X3 in_X3 dfX3 (Nat.le_of_ble_eq_true rfl) (Nat.le_of_ble_eq_true rfl) dX2_init_79 (fun H hM => ?_)
  have hM : cM X s a [.inr (2, [.ref g, .ref w, .ref (a + 1), .ref (a + 2), .ref (a + 3), .ref (a + 4), .int 0, .int 0, .int 0, .int 0]), .inl (X.2.2 3, 6, .inr (.inr (.inr (.inr (fun _ => none))))), .inl (X.2.2 0, (5, .inl (fun _ => 0))), .inl (X.2.2 0, (5, .inl (fun _ => 0))), .inl (X.2.2 0, (5, .inl (fun _ => 0))), .inr (3, [.null, .null, .null, .null, .int 0, .int 0, .int 0, .int 0])] H locs 5 := hM
  refine W.eq (g2 := F0 m 82 ls [.ref (a + 5), .int 0, .ref (a + 1)]) rfl ?_
  refine lv_dup A.1 A.2.1 dX2_init_82 rfl ?_
  refine lv_aload_n A.1 A.2.1 dX2_init_83 rfl (lv_at hl 2 rfl) ?_
  refine lv_aload_n A.1 A.2.1 dX2_init_84 rfl (lv_at hl 4 rfl) ?_
  refine k_call (t := [.inr (2, [.ref g, .ref w, .ref (a + 1), .ref (a + 2), .ref (a + 3), .ref (a + 4), .int 0, .int 0, .int 0, .int 0]), .inl (X.2.2 3, 6, .inr (.inr (.inr (.inr (fun _ => none))))), .inl (X.2.2 0, (5, .inl (fun _ => 0))), .inl (X.2.2 0, (5, .inl (fun _ => 0))), .inl (X.2.2 0, (5, .inl (fun _ => 0)))]) (D := .inr (3, [.null, .null, .null, .null, .int 0, .int 0, .int 0, .int 0])) (As := [.ref g, .ref ro]) (rest := [.ref (a + 5), .int 0, .ref (a + 1)]) A hKA hl.1 hM ml_X2_48 (ctX3_init X (a + 5) g ro) rfl ⟨Nat.le_of_ble_eq_true rfl, Nat.le_of_ble_eq_true rfl⟩ ⟨Nat.le_of_ble_eq_true rfl, Nat.le_of_ble_eq_true rfl⟩ rfl (Nat.le_of_ble_eq_true rfl) rfl dX2_init_85 (fun H locs hM => ?_)
  have hM : cM X s a ([.inr (2, [.ref g, .ref w, .ref (a + 1), .ref (a + 2), .ref (a + 3), .ref (a + 4), .int 0, .int 0, .int 0, .int 0]), .inl (X.2.2 3, 6, .inr (.inr (.inr (.inr (fun _ => none))))), .inl (X.2.2 0, (5, .inl (fun _ => 0))), .inl (X.2.2 0, (5, .inl (fun _ => 0))), .inl (X.2.2 0, (5, .inl (fun _ => 0)))] ++ finX3 X (a + 5) g ro) H locs 7 := hM
  refine W.eq (g2 := F0 m 88 ls [.ref (a + 5), .int 0, .ref (a + 1)]) rfl ?_
  refine k_ast (i := 1) (kd := 3) (j := 5) (ci := 3) (N := 6) (r := (RX3, TX3, 8)) A hM rfl rfl rfl rfl (by unfold vp_in; decide) dX2_init_88 (fun H locs hM => ?_)
  have hM : cM X s a ([.inr (2, [.ref g, .ref w, .ref (a + 1), .ref (a + 2), .ref (a + 3), .ref (a + 4), .int 0, .int 0, .int 0, .int 0]), .inl (X.2.2 3, 6, .inr (.inr (.inr (.inr (va_up (fun _ => none) 0 (some (a + 5))))))), .inl (X.2.2 0, (5, .inl (fun _ => 0))), .inl (X.2.2 0, (5, .inl (fun _ => 0))), .inl (X.2.2 0, (5, .inl (fun _ => 0)))] ++ finX3 X (a + 5) g ro) H locs 7 := hM
  refine lv_iinc (v := 1) (lv' := [(4, .int 1), (0, .ref a), (1, .ref g), (2, .ref w), (3, .ref ro)]) A.1 A.2.1 dX2_init_89 hl (k := 0) rfl (by decide) (by decide) rfl (fun ls hl => ?_)
  refine lv_goto (tgt := 67) A.1 A.2.1 dX2_init_92 (by decide) ?_
  refine lv_iload A.1 A.2.1 dX2_init_67 (lv_at hl 0 rfl) ?_
  refine lv_iconst (v := 5) A.1 A.2.1 dX2_init_69 (by decide) ?_
  refine lv_icmp_gt (tgt := 95) A.1 A.2.1 dX2_init_70 (by decide) (fun h => absurd h (by decide)) (fun _ => ?_)
  refine W.eq (g2 := F0 m 73 ls []) rfl ?_
  refine lv_aload_n A.1 A.2.1 dX2_init_73 rfl (lv_at hl 1 rfl) ?_
  refine k_get (i := 0) (ci := 2) (k := 2) (fs := [.ref g, .ref w, .ref (a + 1), .ref (a + 2), .ref (a + 3), .ref (a + 4), .int 0, .int 0, .int 0, .int 0]) (v := .ref (a + 1)) A hM rfl rfl iwX2 (by decide) rfl pf_X2_11 rfl dX2_init_74 ?_
  refine lv_iload A.1 A.2.1 dX2_init_77 (lv_at hl 0 rfl) ?_
  refine k_new (ci := 3) (fs := [.null, .null, .null, .null, .int 0, .int 0, .int 0, .int 0]) A hM rfl iwX3 tyX3 tyX3_ok cl_X2_9 ib_X3 in_X3 dfX3 (Nat.le_of_ble_eq_true rfl) (Nat.le_of_ble_eq_true rfl) dX2_init_79 (fun H hM => ?_)
  have hM : cM X s a (([.inr (2, [.ref g, .ref w, .ref (a + 1), .ref (a + 2), .ref (a + 3), .ref (a + 4), .int 0, .int 0, .int 0, .int 0]), .inl (X.2.2 3, 6, .inr (.inr (.inr (.inr (va_up (fun _ => none) 0 (some (a + 5))))))), .inl (X.2.2 0, (5, .inl (fun _ => 0))), .inl (X.2.2 0, (5, .inl (fun _ => 0))), .inl (X.2.2 0, (5, .inl (fun _ => 0)))] ++ finX3 X (a + 5) g ro) ++ [.inr (3, [.null, .null, .null, .null, .int 0, .int 0, .int 0, .int 0])]) H locs 8 := hM
  refine W.eq (g2 := F0 m 82 ls [.ref (a + 8), .int 1, .ref (a + 1)]) rfl ?_
  refine lv_dup A.1 A.2.1 dX2_init_82 rfl ?_
  refine lv_aload_n A.1 A.2.1 dX2_init_83 rfl (lv_at hl 2 rfl) ?_
  refine lv_aload_n A.1 A.2.1 dX2_init_84 rfl (lv_at hl 4 rfl) ?_
  refine k_call (t := ([.inr (2, [.ref g, .ref w, .ref (a + 1), .ref (a + 2), .ref (a + 3), .ref (a + 4), .int 0, .int 0, .int 0, .int 0]), .inl (X.2.2 3, 6, .inr (.inr (.inr (.inr (va_up (fun _ => none) 0 (some (a + 5))))))), .inl (X.2.2 0, (5, .inl (fun _ => 0))), .inl (X.2.2 0, (5, .inl (fun _ => 0))), .inl (X.2.2 0, (5, .inl (fun _ => 0)))] ++ finX3 X (a + 5) g ro)) (D := .inr (3, [.null, .null, .null, .null, .int 0, .int 0, .int 0, .int 0])) (As := [.ref g, .ref ro]) (rest := [.ref (a + 8), .int 1, .ref (a + 1)]) A hKA hl.1 hM ml_X2_48 (ctX3_init X (a + 8) g ro) rfl ⟨Nat.le_of_ble_eq_true rfl, Nat.le_of_ble_eq_true rfl⟩ ⟨Nat.le_of_ble_eq_true rfl, Nat.le_of_ble_eq_true rfl⟩ rfl (Nat.le_of_ble_eq_true rfl) rfl dX2_init_85 (fun H locs hM => ?_)
  have hM : cM X s a (([.inr (2, [.ref g, .ref w, .ref (a + 1), .ref (a + 2), .ref (a + 3), .ref (a + 4), .int 0, .int 0, .int 0, .int 0]), .inl (X.2.2 3, 6, .inr (.inr (.inr (.inr (va_up (fun _ => none) 0 (some (a + 5))))))), .inl (X.2.2 0, (5, .inl (fun _ => 0))), .inl (X.2.2 0, (5, .inl (fun _ => 0))), .inl (X.2.2 0, (5, .inl (fun _ => 0)))] ++ finX3 X (a + 5) g ro) ++ finX3 X (a + 8) g ro) H locs 10 := hM
  refine W.eq (g2 := F0 m 88 ls [.ref (a + 8), .int 1, .ref (a + 1)]) rfl ?_
  refine k_ast (i := 1) (kd := 3) (j := 8) (ci := 3) (N := 6) (r := (RX3, TX3, 8)) A hM rfl rfl rfl rfl (by unfold vp_in; decide) dX2_init_88 (fun H locs hM => ?_)
  have hM : cM X s a (([.inr (2, [.ref g, .ref w, .ref (a + 1), .ref (a + 2), .ref (a + 3), .ref (a + 4), .int 0, .int 0, .int 0, .int 0]), .inl (X.2.2 3, 6, .inr (.inr (.inr (.inr (va_up (va_up (fun _ => none) 0 (some (a + 5))) 1 (some (a + 8))))))), .inl (X.2.2 0, (5, .inl (fun _ => 0))), .inl (X.2.2 0, (5, .inl (fun _ => 0))), .inl (X.2.2 0, (5, .inl (fun _ => 0)))] ++ finX3 X (a + 5) g ro) ++ finX3 X (a + 8) g ro) H locs 10 := hM
  refine lv_iinc (v := 2) (lv' := [(4, .int 2), (0, .ref a), (1, .ref g), (2, .ref w), (3, .ref ro)]) A.1 A.2.1 dX2_init_89 hl (k := 0) rfl (by decide) (by decide) rfl (fun ls hl => ?_)
  refine lv_goto (tgt := 67) A.1 A.2.1 dX2_init_92 (by decide) ?_
  refine lv_iload A.1 A.2.1 dX2_init_67 (lv_at hl 0 rfl) ?_
  refine lv_iconst (v := 5) A.1 A.2.1 dX2_init_69 (by decide) ?_
  refine lv_icmp_gt (tgt := 95) A.1 A.2.1 dX2_init_70 (by decide) (fun h => absurd h (by decide)) (fun _ => ?_)
  refine W.eq (g2 := F0 m 73 ls []) rfl ?_
  refine lv_aload_n A.1 A.2.1 dX2_init_73 rfl (lv_at hl 1 rfl) ?_
  refine k_get (i := 0) (ci := 2) (k := 2) (fs := [.ref g, .ref w, .ref (a + 1), .ref (a + 2), .ref (a + 3), .ref (a + 4), .int 0, .int 0, .int 0, .int 0]) (v := .ref (a + 1)) A hM rfl rfl iwX2 (by decide) rfl pf_X2_11 rfl dX2_init_74 ?_
  refine lv_iload A.1 A.2.1 dX2_init_77 (lv_at hl 0 rfl) ?_
  refine k_new (ci := 3) (fs := [.null, .null, .null, .null, .int 0, .int 0, .int 0, .int 0]) A hM rfl iwX3 tyX3 tyX3_ok cl_X2_9 ib_X3 in_X3 dfX3 (Nat.le_of_ble_eq_true rfl) (Nat.le_of_ble_eq_true rfl) dX2_init_79 (fun H hM => ?_)
  have hM : cM X s a ((([.inr (2, [.ref g, .ref w, .ref (a + 1), .ref (a + 2), .ref (a + 3), .ref (a + 4), .int 0, .int 0, .int 0, .int 0]), .inl (X.2.2 3, 6, .inr (.inr (.inr (.inr (va_up (va_up (fun _ => none) 0 (some (a + 5))) 1 (some (a + 8))))))), .inl (X.2.2 0, (5, .inl (fun _ => 0))), .inl (X.2.2 0, (5, .inl (fun _ => 0))), .inl (X.2.2 0, (5, .inl (fun _ => 0)))] ++ finX3 X (a + 5) g ro) ++ finX3 X (a + 8) g ro) ++ [.inr (3, [.null, .null, .null, .null, .int 0, .int 0, .int 0, .int 0])]) H locs 11 := hM
  refine W.eq (g2 := F0 m 82 ls [.ref (a + 11), .int 2, .ref (a + 1)]) rfl ?_
  refine lv_dup A.1 A.2.1 dX2_init_82 rfl ?_
  refine lv_aload_n A.1 A.2.1 dX2_init_83 rfl (lv_at hl 2 rfl) ?_
  refine lv_aload_n A.1 A.2.1 dX2_init_84 rfl (lv_at hl 4 rfl) ?_
  refine k_call (t := (([.inr (2, [.ref g, .ref w, .ref (a + 1), .ref (a + 2), .ref (a + 3), .ref (a + 4), .int 0, .int 0, .int 0, .int 0]), .inl (X.2.2 3, 6, .inr (.inr (.inr (.inr (va_up (va_up (fun _ => none) 0 (some (a + 5))) 1 (some (a + 8))))))), .inl (X.2.2 0, (5, .inl (fun _ => 0))), .inl (X.2.2 0, (5, .inl (fun _ => 0))), .inl (X.2.2 0, (5, .inl (fun _ => 0)))] ++ finX3 X (a + 5) g ro) ++ finX3 X (a + 8) g ro)) (D := .inr (3, [.null, .null, .null, .null, .int 0, .int 0, .int 0, .int 0])) (As := [.ref g, .ref ro]) (rest := [.ref (a + 11), .int 2, .ref (a + 1)]) A hKA hl.1 hM ml_X2_48 (ctX3_init X (a + 11) g ro) rfl ⟨Nat.le_of_ble_eq_true rfl, Nat.le_of_ble_eq_true rfl⟩ ⟨Nat.le_of_ble_eq_true rfl, Nat.le_of_ble_eq_true rfl⟩ rfl (Nat.le_of_ble_eq_true rfl) rfl dX2_init_85 (fun H locs hM => ?_)
  have hM : cM X s a ((([.inr (2, [.ref g, .ref w, .ref (a + 1), .ref (a + 2), .ref (a + 3), .ref (a + 4), .int 0, .int 0, .int 0, .int 0]), .inl (X.2.2 3, 6, .inr (.inr (.inr (.inr (va_up (va_up (fun _ => none) 0 (some (a + 5))) 1 (some (a + 8))))))), .inl (X.2.2 0, (5, .inl (fun _ => 0))), .inl (X.2.2 0, (5, .inl (fun _ => 0))), .inl (X.2.2 0, (5, .inl (fun _ => 0)))] ++ finX3 X (a + 5) g ro) ++ finX3 X (a + 8) g ro) ++ finX3 X (a + 11) g ro) H locs 13 := hM
  refine W.eq (g2 := F0 m 88 ls [.ref (a + 11), .int 2, .ref (a + 1)]) rfl ?_
  refine k_ast (i := 1) (kd := 3) (j := 11) (ci := 3) (N := 6) (r := (RX3, TX3, 8)) A hM rfl rfl rfl rfl (by unfold vp_in; decide) dX2_init_88 (fun H locs hM => ?_)
  have hM : cM X s a ((([.inr (2, [.ref g, .ref w, .ref (a + 1), .ref (a + 2), .ref (a + 3), .ref (a + 4), .int 0, .int 0, .int 0, .int 0]), .inl (X.2.2 3, 6, .inr (.inr (.inr (.inr (va_up (va_up (va_up (fun _ => none) 0 (some (a + 5))) 1 (some (a + 8))) 2 (some (a + 11))))))), .inl (X.2.2 0, (5, .inl (fun _ => 0))), .inl (X.2.2 0, (5, .inl (fun _ => 0))), .inl (X.2.2 0, (5, .inl (fun _ => 0)))] ++ finX3 X (a + 5) g ro) ++ finX3 X (a + 8) g ro) ++ finX3 X (a + 11) g ro) H locs 13 := hM
  refine lv_iinc (v := 3) (lv' := [(4, .int 3), (0, .ref a), (1, .ref g), (2, .ref w), (3, .ref ro)]) A.1 A.2.1 dX2_init_89 hl (k := 0) rfl (by decide) (by decide) rfl (fun ls hl => ?_)
  refine lv_goto (tgt := 67) A.1 A.2.1 dX2_init_92 (by decide) ?_
  refine lv_iload A.1 A.2.1 dX2_init_67 (lv_at hl 0 rfl) ?_
  refine lv_iconst (v := 5) A.1 A.2.1 dX2_init_69 (by decide) ?_
  refine lv_icmp_gt (tgt := 95) A.1 A.2.1 dX2_init_70 (by decide) (fun h => absurd h (by decide)) (fun _ => ?_)
  refine W.eq (g2 := F0 m 73 ls []) rfl ?_
  refine lv_aload_n A.1 A.2.1 dX2_init_73 rfl (lv_at hl 1 rfl) ?_
  refine k_get (i := 0) (ci := 2) (k := 2) (fs := [.ref g, .ref w, .ref (a + 1), .ref (a + 2), .ref (a + 3), .ref (a + 4), .int 0, .int 0, .int 0, .int 0]) (v := .ref (a + 1)) A hM rfl rfl iwX2 (by decide) rfl pf_X2_11 rfl dX2_init_74 ?_
  refine lv_iload A.1 A.2.1 dX2_init_77 (lv_at hl 0 rfl) ?_
  refine k_new (ci := 3) (fs := [.null, .null, .null, .null, .int 0, .int 0, .int 0, .int 0]) A hM rfl iwX3 tyX3 tyX3_ok cl_X2_9 ib_X3 in_X3 dfX3 (Nat.le_of_ble_eq_true rfl) (Nat.le_of_ble_eq_true rfl) dX2_init_79 (fun H hM => ?_)
  have hM : cM X s a (((([.inr (2, [.ref g, .ref w, .ref (a + 1), .ref (a + 2), .ref (a + 3), .ref (a + 4), .int 0, .int 0, .int 0, .int 0]), .inl (X.2.2 3, 6, .inr (.inr (.inr (.inr (va_up (va_up (va_up (fun _ => none) 0 (some (a + 5))) 1 (some (a + 8))) 2 (some (a + 11))))))), .inl (X.2.2 0, (5, .inl (fun _ => 0))), .inl (X.2.2 0, (5, .inl (fun _ => 0))), .inl (X.2.2 0, (5, .inl (fun _ => 0)))] ++ finX3 X (a + 5) g ro) ++ finX3 X (a + 8) g ro) ++ finX3 X (a + 11) g ro) ++ [.inr (3, [.null, .null, .null, .null, .int 0, .int 0, .int 0, .int 0])]) H locs 14 := hM
  refine W.eq (g2 := F0 m 82 ls [.ref (a + 14), .int 3, .ref (a + 1)]) rfl ?_
  refine lv_dup A.1 A.2.1 dX2_init_82 rfl ?_
  refine lv_aload_n A.1 A.2.1 dX2_init_83 rfl (lv_at hl 2 rfl) ?_
  refine lv_aload_n A.1 A.2.1 dX2_init_84 rfl (lv_at hl 4 rfl) ?_
  refine k_call (t := ((([.inr (2, [.ref g, .ref w, .ref (a + 1), .ref (a + 2), .ref (a + 3), .ref (a + 4), .int 0, .int 0, .int 0, .int 0]), .inl (X.2.2 3, 6, .inr (.inr (.inr (.inr (va_up (va_up (va_up (fun _ => none) 0 (some (a + 5))) 1 (some (a + 8))) 2 (some (a + 11))))))), .inl (X.2.2 0, (5, .inl (fun _ => 0))), .inl (X.2.2 0, (5, .inl (fun _ => 0))), .inl (X.2.2 0, (5, .inl (fun _ => 0)))] ++ finX3 X (a + 5) g ro) ++ finX3 X (a + 8) g ro) ++ finX3 X (a + 11) g ro)) (D := .inr (3, [.null, .null, .null, .null, .int 0, .int 0, .int 0, .int 0])) (As := [.ref g, .ref ro]) (rest := [.ref (a + 14), .int 3, .ref (a + 1)]) A hKA hl.1 hM ml_X2_48 (ctX3_init X (a + 14) g ro) rfl ⟨Nat.le_of_ble_eq_true rfl, Nat.le_of_ble_eq_true rfl⟩ ⟨Nat.le_of_ble_eq_true rfl, Nat.le_of_ble_eq_true rfl⟩ rfl (Nat.le_of_ble_eq_true rfl) rfl dX2_init_85 (fun H locs hM => ?_)
  have hM : cM X s a (((([.inr (2, [.ref g, .ref w, .ref (a + 1), .ref (a + 2), .ref (a + 3), .ref (a + 4), .int 0, .int 0, .int 0, .int 0]), .inl (X.2.2 3, 6, .inr (.inr (.inr (.inr (va_up (va_up (va_up (fun _ => none) 0 (some (a + 5))) 1 (some (a + 8))) 2 (some (a + 11))))))), .inl (X.2.2 0, (5, .inl (fun _ => 0))), .inl (X.2.2 0, (5, .inl (fun _ => 0))), .inl (X.2.2 0, (5, .inl (fun _ => 0)))] ++ finX3 X (a + 5) g ro) ++ finX3 X (a + 8) g ro) ++ finX3 X (a + 11) g ro) ++ finX3 X (a + 14) g ro) H locs 16 := hM
  refine W.eq (g2 := F0 m 88 ls [.ref (a + 14), .int 3, .ref (a + 1)]) rfl ?_
  refine k_ast (i := 1) (kd := 3) (j := 14) (ci := 3) (N := 6) (r := (RX3, TX3, 8)) A hM rfl rfl rfl rfl (by unfold vp_in; decide) dX2_init_88 (fun H locs hM => ?_)
  have hM : cM X s a (((([.inr (2, [.ref g, .ref w, .ref (a + 1), .ref (a + 2), .ref (a + 3), .ref (a + 4), .int 0, .int 0, .int 0, .int 0]), .inl (X.2.2 3, 6, .inr (.inr (.inr (.inr (va_up (va_up (va_up (va_up (fun _ => none) 0 (some (a + 5))) 1 (some (a + 8))) 2 (some (a + 11))) 3 (some (a + 14))))))), .inl (X.2.2 0, (5, .inl (fun _ => 0))), .inl (X.2.2 0, (5, .inl (fun _ => 0))), .inl (X.2.2 0, (5, .inl (fun _ => 0)))] ++ finX3 X (a + 5) g ro) ++ finX3 X (a + 8) g ro) ++ finX3 X (a + 11) g ro) ++ finX3 X (a + 14) g ro) H locs 16 := hM
  refine lv_iinc (v := 4) (lv' := [(4, .int 4), (0, .ref a), (1, .ref g), (2, .ref w), (3, .ref ro)]) A.1 A.2.1 dX2_init_89 hl (k := 0) rfl (by decide) (by decide) rfl (fun ls hl => ?_)
  refine lv_goto (tgt := 67) A.1 A.2.1 dX2_init_92 (by decide) ?_
  refine lv_iload A.1 A.2.1 dX2_init_67 (lv_at hl 0 rfl) ?_
  refine lv_iconst (v := 5) A.1 A.2.1 dX2_init_69 (by decide) ?_
  refine lv_icmp_gt (tgt := 95) A.1 A.2.1 dX2_init_70 (by decide) (fun h => absurd h (by decide)) (fun _ => ?_)
  refine W.eq (g2 := F0 m 73 ls []) rfl ?_
  refine lv_aload_n A.1 A.2.1 dX2_init_73 rfl (lv_at hl 1 rfl) ?_
  refine k_get (i := 0) (ci := 2) (k := 2) (fs := [.ref g, .ref w, .ref (a + 1), .ref (a + 2), .ref (a + 3), .ref (a + 4), .int 0, .int 0, .int 0, .int 0]) (v := .ref (a + 1)) A hM rfl rfl iwX2 (by decide) rfl pf_X2_11 rfl dX2_init_74 ?_
  refine lv_iload A.1 A.2.1 dX2_init_77 (lv_at hl 0 rfl) ?_
  refine k_new (ci := 3) (fs := [.null, .null, .null, .null, .int 0, .int 0, .int 0, .int 0]) A hM rfl iwX3 tyX3 tyX3_ok cl_X2_9 ib_X3 in_X3 dfX3 (Nat.le_of_ble_eq_true rfl) (Nat.le_of_ble_eq_true rfl) dX2_init_79 (fun H hM => ?_)
  have hM : cM X s a ((((([.inr (2, [.ref g, .ref w, .ref (a + 1), .ref (a + 2), .ref (a + 3), .ref (a + 4), .int 0, .int 0, .int 0, .int 0]), .inl (X.2.2 3, 6, .inr (.inr (.inr (.inr (va_up (va_up (va_up (va_up (fun _ => none) 0 (some (a + 5))) 1 (some (a + 8))) 2 (some (a + 11))) 3 (some (a + 14))))))), .inl (X.2.2 0, (5, .inl (fun _ => 0))), .inl (X.2.2 0, (5, .inl (fun _ => 0))), .inl (X.2.2 0, (5, .inl (fun _ => 0)))] ++ finX3 X (a + 5) g ro) ++ finX3 X (a + 8) g ro) ++ finX3 X (a + 11) g ro) ++ finX3 X (a + 14) g ro) ++ [.inr (3, [.null, .null, .null, .null, .int 0, .int 0, .int 0, .int 0])]) H locs 17 := hM
  refine W.eq (g2 := F0 m 82 ls [.ref (a + 17), .int 4, .ref (a + 1)]) rfl ?_
  refine lv_dup A.1 A.2.1 dX2_init_82 rfl ?_
  refine lv_aload_n A.1 A.2.1 dX2_init_83 rfl (lv_at hl 2 rfl) ?_
  refine lv_aload_n A.1 A.2.1 dX2_init_84 rfl (lv_at hl 4 rfl) ?_
  refine k_call (t := (((([.inr (2, [.ref g, .ref w, .ref (a + 1), .ref (a + 2), .ref (a + 3), .ref (a + 4), .int 0, .int 0, .int 0, .int 0]), .inl (X.2.2 3, 6, .inr (.inr (.inr (.inr (va_up (va_up (va_up (va_up (fun _ => none) 0 (some (a + 5))) 1 (some (a + 8))) 2 (some (a + 11))) 3 (some (a + 14))))))), .inl (X.2.2 0, (5, .inl (fun _ => 0))), .inl (X.2.2 0, (5, .inl (fun _ => 0))), .inl (X.2.2 0, (5, .inl (fun _ => 0)))] ++ finX3 X (a + 5) g ro) ++ finX3 X (a + 8) g ro) ++ finX3 X (a + 11) g ro) ++ finX3 X (a + 14) g ro)) (D := .inr (3, [.null, .null, .null, .null, .int 0, .int 0, .int 0, .int 0])) (As := [.ref g, .ref ro]) (rest := [.ref (a + 17), .int 4, .ref (a + 1)]) A hKA hl.1 hM ml_X2_48 (ctX3_init X (a + 17) g ro) rfl ⟨Nat.le_of_ble_eq_true rfl, Nat.le_of_ble_eq_true rfl⟩ ⟨Nat.le_of_ble_eq_true rfl, Nat.le_of_ble_eq_true rfl⟩ rfl (Nat.le_of_ble_eq_true rfl) rfl dX2_init_85 (fun H locs hM => ?_)
  have hM : cM X s a ((((([.inr (2, [.ref g, .ref w, .ref (a + 1), .ref (a + 2), .ref (a + 3), .ref (a + 4), .int 0, .int 0, .int 0, .int 0]), .inl (X.2.2 3, 6, .inr (.inr (.inr (.inr (va_up (va_up (va_up (va_up (fun _ => none) 0 (some (a + 5))) 1 (some (a + 8))) 2 (some (a + 11))) 3 (some (a + 14))))))), .inl (X.2.2 0, (5, .inl (fun _ => 0))), .inl (X.2.2 0, (5, .inl (fun _ => 0))), .inl (X.2.2 0, (5, .inl (fun _ => 0)))] ++ finX3 X (a + 5) g ro) ++ finX3 X (a + 8) g ro) ++ finX3 X (a + 11) g ro) ++ finX3 X (a + 14) g ro) ++ finX3 X (a + 17) g ro) H locs 19 := hM
  refine W.eq (g2 := F0 m 88 ls [.ref (a + 17), .int 4, .ref (a + 1)]) rfl ?_
  refine k_ast (i := 1) (kd := 3) (j := 17) (ci := 3) (N := 6) (r := (RX3, TX3, 8)) A hM rfl rfl rfl rfl (by unfold vp_in; decide) dX2_init_88 (fun H locs hM => ?_)
  have hM : cM X s a ((((([.inr (2, [.ref g, .ref w, .ref (a + 1), .ref (a + 2), .ref (a + 3), .ref (a + 4), .int 0, .int 0, .int 0, .int 0]), .inl (X.2.2 3, 6, .inr (.inr (.inr (.inr (va_up (va_up (va_up (va_up (va_up (fun _ => none) 0 (some (a + 5))) 1 (some (a + 8))) 2 (some (a + 11))) 3 (some (a + 14))) 4 (some (a + 17))))))), .inl (X.2.2 0, (5, .inl (fun _ => 0))), .inl (X.2.2 0, (5, .inl (fun _ => 0))), .inl (X.2.2 0, (5, .inl (fun _ => 0)))] ++ finX3 X (a + 5) g ro) ++ finX3 X (a + 8) g ro) ++ finX3 X (a + 11) g ro) ++ finX3 X (a + 14) g ro) ++ finX3 X (a + 17) g ro) H locs 19 := hM
  refine lv_iinc (v := 5) (lv' := [(4, .int 5), (0, .ref a), (1, .ref g), (2, .ref w), (3, .ref ro)]) A.1 A.2.1 dX2_init_89 hl (k := 0) rfl (by decide) (by decide) rfl (fun ls hl => ?_)
  refine lv_goto (tgt := 67) A.1 A.2.1 dX2_init_92 (by decide) ?_
  refine lv_iload A.1 A.2.1 dX2_init_67 (lv_at hl 0 rfl) ?_
  refine lv_iconst (v := 5) A.1 A.2.1 dX2_init_69 (by decide) ?_
  refine lv_icmp_gt (tgt := 95) A.1 A.2.1 dX2_init_70 (by decide) (fun h => absurd h (by decide)) (fun _ => ?_)
  refine W.eq (g2 := F0 m 73 ls []) rfl ?_
  refine lv_aload_n A.1 A.2.1 dX2_init_73 rfl (lv_at hl 1 rfl) ?_
  refine k_get (i := 0) (ci := 2) (k := 2) (fs := [.ref g, .ref w, .ref (a + 1), .ref (a + 2), .ref (a + 3), .ref (a + 4), .int 0, .int 0, .int 0, .int 0]) (v := .ref (a + 1)) A hM rfl rfl iwX2 (by decide) rfl pf_X2_11 rfl dX2_init_74 ?_
  refine lv_iload A.1 A.2.1 dX2_init_77 (lv_at hl 0 rfl) ?_
  refine k_new (ci := 3) (fs := [.null, .null, .null, .null, .int 0, .int 0, .int 0, .int 0]) A hM rfl iwX3 tyX3 tyX3_ok cl_X2_9 ib_X3 in_X3 dfX3 (Nat.le_of_ble_eq_true rfl) (Nat.le_of_ble_eq_true rfl) dX2_init_79 (fun H hM => ?_)
  have hM : cM X s a (((((([.inr (2, [.ref g, .ref w, .ref (a + 1), .ref (a + 2), .ref (a + 3), .ref (a + 4), .int 0, .int 0, .int 0, .int 0]), .inl (X.2.2 3, 6, .inr (.inr (.inr (.inr (va_up (va_up (va_up (va_up (va_up (fun _ => none) 0 (some (a + 5))) 1 (some (a + 8))) 2 (some (a + 11))) 3 (some (a + 14))) 4 (some (a + 17))))))), .inl (X.2.2 0, (5, .inl (fun _ => 0))), .inl (X.2.2 0, (5, .inl (fun _ => 0))), .inl (X.2.2 0, (5, .inl (fun _ => 0)))] ++ finX3 X (a + 5) g ro) ++ finX3 X (a + 8) g ro) ++ finX3 X (a + 11) g ro) ++ finX3 X (a + 14) g ro) ++ finX3 X (a + 17) g ro) ++ [.inr (3, [.null, .null, .null, .null, .int 0, .int 0, .int 0, .int 0])]) H locs 20 := hM
  refine W.eq (g2 := F0 m 82 ls [.ref (a + 20), .int 5, .ref (a + 1)]) rfl ?_
  refine lv_dup A.1 A.2.1 dX2_init_82 rfl ?_
  refine lv_aload_n A.1 A.2.1 dX2_init_83 rfl (lv_at hl 2 rfl) ?_
  refine lv_aload_n A.1 A.2.1 dX2_init_84 rfl (lv_at hl 4 rfl) ?_
  refine k_call (t := ((((([.inr (2, [.ref g, .ref w, .ref (a + 1), .ref (a + 2), .ref (a + 3), .ref (a + 4), .int 0, .int 0, .int 0, .int 0]), .inl (X.2.2 3, 6, .inr (.inr (.inr (.inr (va_up (va_up (va_up (va_up (va_up (fun _ => none) 0 (some (a + 5))) 1 (some (a + 8))) 2 (some (a + 11))) 3 (some (a + 14))) 4 (some (a + 17))))))), .inl (X.2.2 0, (5, .inl (fun _ => 0))), .inl (X.2.2 0, (5, .inl (fun _ => 0))), .inl (X.2.2 0, (5, .inl (fun _ => 0)))] ++ finX3 X (a + 5) g ro) ++ finX3 X (a + 8) g ro) ++ finX3 X (a + 11) g ro) ++ finX3 X (a + 14) g ro) ++ finX3 X (a + 17) g ro)) (D := .inr (3, [.null, .null, .null, .null, .int 0, .int 0, .int 0, .int 0])) (As := [.ref g, .ref ro]) (rest := [.ref (a + 20), .int 5, .ref (a + 1)]) A hKA hl.1 hM ml_X2_48 (ctX3_init X (a + 20) g ro) rfl ⟨Nat.le_of_ble_eq_true rfl, Nat.le_of_ble_eq_true rfl⟩ ⟨Nat.le_of_ble_eq_true rfl, Nat.le_of_ble_eq_true rfl⟩ rfl (Nat.le_of_ble_eq_true rfl) rfl dX2_init_85 (fun H locs hM => ?_)
  have hM : cM X s a (((((([.inr (2, [.ref g, .ref w, .ref (a + 1), .ref (a + 2), .ref (a + 3), .ref (a + 4), .int 0, .int 0, .int 0, .int 0]), .inl (X.2.2 3, 6, .inr (.inr (.inr (.inr (va_up (va_up (va_up (va_up (va_up (fun _ => none) 0 (some (a + 5))) 1 (some (a + 8))) 2 (some (a + 11))) 3 (some (a + 14))) 4 (some (a + 17))))))), .inl (X.2.2 0, (5, .inl (fun _ => 0))), .inl (X.2.2 0, (5, .inl (fun _ => 0))), .inl (X.2.2 0, (5, .inl (fun _ => 0)))] ++ finX3 X (a + 5) g ro) ++ finX3 X (a + 8) g ro) ++ finX3 X (a + 11) g ro) ++ finX3 X (a + 14) g ro) ++ finX3 X (a + 17) g ro) ++ finX3 X (a + 20) g ro) H locs 22 := hM
  refine W.eq (g2 := F0 m 88 ls [.ref (a + 20), .int 5, .ref (a + 1)]) rfl ?_
  refine k_ast (i := 1) (kd := 3) (j := 20) (ci := 3) (N := 6) (r := (RX3, TX3, 8)) A hM rfl rfl rfl rfl (by unfold vp_in; decide) dX2_init_88 (fun H locs hM => ?_)
  have hM : cM X s a (((((([.inr (2, [.ref g, .ref w, .ref (a + 1), .ref (a + 2), .ref (a + 3), .ref (a + 4), .int 0, .int 0, .int 0, .int 0]), .inl (X.2.2 3, 6, .inr (.inr (.inr (.inr (va_up (va_up (va_up (va_up (va_up (va_up (fun _ => none) 0 (some (a + 5))) 1 (some (a + 8))) 2 (some (a + 11))) 3 (some (a + 14))) 4 (some (a + 17))) 5 (some (a + 20))))))), .inl (X.2.2 0, (5, .inl (fun _ => 0))), .inl (X.2.2 0, (5, .inl (fun _ => 0))), .inl (X.2.2 0, (5, .inl (fun _ => 0)))] ++ finX3 X (a + 5) g ro) ++ finX3 X (a + 8) g ro) ++ finX3 X (a + 11) g ro) ++ finX3 X (a + 14) g ro) ++ finX3 X (a + 17) g ro) ++ finX3 X (a + 20) g ro) H locs 22 := hM
  refine lv_iinc (v := 6) (lv' := [(4, .int 6), (0, .ref a), (1, .ref g), (2, .ref w), (3, .ref ro)]) A.1 A.2.1 dX2_init_89 hl (k := 0) rfl (by decide) (by decide) rfl (fun ls hl => ?_)
  refine lv_goto (tgt := 67) A.1 A.2.1 dX2_init_92 (by decide) ?_
  refine lv_iload A.1 A.2.1 dX2_init_67 (lv_at hl 0 rfl) ?_
  refine lv_iconst (v := 5) A.1 A.2.1 dX2_init_69 (by decide) ?_
  refine lv_icmp_gt (tgt := 95) A.1 A.2.1 dX2_init_70 (by decide) (fun _ => ?_) (fun h => absurd (by decide) h)
  refine W.eq (g2 := F0 m 95 ls []) rfl ?_
  have hM := k_norm (i := 1) (g := (fun j => some (a + (5 + 3 * j)))) hM rfl (fun j hj => by
    rcases (show j = 0 ∨ j = 1 ∨ j = 2 ∨ j = 3 ∨ j = 4 ∨ j = 5 by omega) with rfl | rfl | rfl | rfl | rfl | rfl <;> rfl)
  have hM : cM X s a (((((([.inr (2, [.ref g, .ref w, .ref (a + 1), .ref (a + 2), .ref (a + 3), .ref (a + 4), .int 0, .int 0, .int 0, .int 0]), .inl (X.2.2 3, 6, .inr (.inr (.inr (.inr (fun j => some (a + (5 + 3 * j))))))), .inl (X.2.2 0, (5, .inl (fun _ => 0))), .inl (X.2.2 0, (5, .inl (fun _ => 0))), .inl (X.2.2 0, (5, .inl (fun _ => 0)))] ++ finX3 X (a + 5) g ro) ++ finX3 X (a + 8) g ro) ++ finX3 X (a + 11) g ro) ++ finX3 X (a + 14) g ro) ++ finX3 X (a + 17) g ro) ++ finX3 X (a + 20) g ro) H locs 22 := hM
  exact k_ret A hM hr hlk rfl dX2_init_95
set_option maxRecDepth 100000 in
theorem ol_X8 : Cond.methodLink RX8 1 objectInit ∈ gW := gW_t 680 rfl rfl
set_option maxRecDepth 100000 in
theorem pf_X8_7 : Cond.fieldLink RX8 7 RX8 (TX8 0).2.1 (TX8 0).2.2.1 ∈ gW := gW_t 681 rfl rfl
set_option maxRecDepth 100000 in
theorem pf_X8_13 : Cond.fieldLink RX8 13 RX8 (TX8 1).2.1 (TX8 1).2.2.1 ∈ gW := gW_t 682 rfl rfl
set_option maxRecDepth 100000 in
theorem pf_X8_16 : Cond.fieldLink RX8 16 RX8 (TX8 2).2.1 (TX8 2).2.2.1 ∈ gW := gW_t 683 rfl rfl
set_option maxRecDepth 100000 in
theorem pf_X8_19 : Cond.fieldLink RX8 19 RX8 (TX8 3).2.1 (TX8 3).2.2.1 ∈ gW := gW_t 684 rfl rfl
set_option maxRecDepth 100000 in
theorem pf_X8_22 : Cond.fieldLink RX8 22 RX8 (TX8 5).2.1 (TX8 5).2.2.1 ∈ gW := gW_t 686 rfl rfl
set_option maxRecDepth 100000 in
theorem pf_X8_25 : Cond.fieldLink RX8 25 RX8 (TX8 7).2.1 (TX8 7).2.2.1 ∈ gW := gW_t 688 rfl rfl
set_option maxRecDepth 100000 in
theorem pf_X8_28 : Cond.fieldLink RX8 28 RX8 (TX8 8).2.1 (TX8 8).2.2.1 ∈ gW := gW_t 689 rfl rfl
set_option maxRecDepth 100000 in
theorem pf_X8_31 : Cond.fieldLink RX8 31 RX8 (TX8 9).2.1 (TX8 9).2.2.1 ∈ gW := gW_t 690 rfl rfl
set_option maxRecDepth 100000 in
theorem pf_X8_34 : Cond.fieldLink RX8 34 RX8 (TX8 10).2.1 (TX8 10).2.2.1 ∈ gW := gW_t 691 rfl rfl
set_option maxRecDepth 100000 in
theorem pf_X8_37 : Cond.fieldLink RX8 37 RX8 (TX8 11).2.1 (TX8 11).2.2.1 ∈ gW := gW_t 692 rfl rfl
set_option maxRecDepth 100000 in
theorem pf_X8_40 : Cond.fieldLink RX8 40 RX8 (TX8 13).2.1 (TX8 13).2.2.1 ∈ gW := gW_t 694 rfl rfl
set_option maxRecDepth 100000 in
theorem pf_X8_43 : Cond.fieldLink RX8 43 RX8 (TX8 14).2.1 (TX8 14).2.2.1 ∈ gW := gW_t 695 rfl rfl
set_option maxRecDepth 100000 in
theorem pf_X8_46 : Cond.fieldLink RX8 46 RX8 (TX8 15).2.1 (TX8 15).2.2.1 ∈ gW := gW_t 696 rfl rfl
set_option maxRecDepth 100000 in
theorem pf_X8_49 : Cond.fieldLink RX8 49 RX8 (TX8 16).2.1 (TX8 16).2.2.1 ∈ gW := gW_t 697 rfl rfl
set_option maxRecDepth 100000 in
theorem pf_X8_52 : Cond.fieldLink RX8 52 RX8 (TX8 17).2.1 (TX8 17).2.2.1 ∈ gW := gW_t 698 rfl rfl
set_option maxRecDepth 100000 in
theorem pf_X8_55 : Cond.fieldLink RX8 55 RX8 (TX8 18).2.1 (TX8 18).2.2.1 ∈ gW := gW_t 699 rfl rfl
set_option maxRecDepth 100000 in
theorem pf_X8_59 : Cond.fieldLink RX8 59 RX8 (TX8 19).2.1 (TX8 19).2.2.1 ∈ gW := gW_t 700 rfl rfl
set_option maxRecDepth 100000 in
theorem pf_X8_63 : Cond.fieldLink RX8 63 RX8 (TX8 20).2.1 (TX8 20).2.2.1 ∈ gW := gW_t 701 rfl rfl
set_option maxRecDepth 100000 in
theorem pf_X8_66 : Cond.fieldLink RX8 66 RX8 (TX8 25).2.1 (TX8 25).2.2.1 ∈ gW := gW_t 706 rfl rfl
set_option maxRecDepth 100000 in
theorem pf_X8_69 : Cond.fieldLink RX8 69 RX8 (TX8 27).2.1 (TX8 27).2.2.1 ∈ gW := gW_t 708 rfl rfl
set_option maxRecDepth 100000 in
theorem pf_X8_72 : Cond.fieldLink RX8 72 RX8 (TX8 28).2.1 (TX8 28).2.2.1 ∈ gW := gW_t 709 rfl rfl
set_option maxRecDepth 100000 in
theorem pf_X8_75 : Cond.fieldLink RX8 75 RX8 (TX8 33).2.1 (TX8 33).2.2.1 ∈ gW := gW_t 714 rfl rfl
def finX8 (X : gX) (a : Nat) : List va_E := [.inr (8, [.ref (a + 1), .ref (a + 2), .ref (a + 3), .ref (a + 4), .int 0, .ref (a + 5), .int 0, .ref (a + 6), .ref (a + 7), .ref (a + 8), .ref (a + 9), .ref (a + 10), .int 0, .ref (a + 11), .ref (a + 12), .ref (a + 13), .ref (a + 14), .ref (a + 15), .ref (a + 16), .int (-1), .ref (a + 17), .int 0, .int 0, .int 0, .int 0, .ref (a + 18), .int 0, .ref (a + 19), .ref (a + 20), .int 0, .int 0, .int 0, .int 0, .ref (a + 21), .int 0, .int 0]), .inl (X.2.2 0, (4, .inl (fun _ => -1))), .inl (X.2.2 0, (4, .inl (fun _ => 0))), .inl (X.2.2 0, (256, .inl (fun _ => 0))), .inl (X.2.2 0, (64, .inl (fun _ => 0))), .inl (X.2.2 0, (75, .inl (fun _ => 0))), .inl (X.2.2 0, (64, .inl (fun _ => 0))), .inl (X.2.2 0, (64, .inl (fun _ => 0))), .inl (X.2.2 0, (64, .inl (fun _ => 0))), .inl (X.2.2 0, (64, .inl (fun _ => 0))), .inl (X.2.2 0, (64, .inl (fun _ => 0))), .inl (X.2.2 0, (8, .inl (fun _ => 0))), .inl (X.2.2 0, (8, .inl (fun _ => 0))), .inl (X.2.2 0, (64, .inl (fun _ => 0))), .inl (X.2.2 0, (64, .inl (fun _ => 0))), .inl (X.2.2 0, (64, .inl (fun _ => 0))), .inl (X.2.2 2, (64, .inl (fun _ => 0))), .inl (X.2.2 0, (64, .inl (fun _ => 0))), .inl (X.2.2 0, (64, .inl (fun _ => 0))), .inl (X.2.2 0, (5, .inl (fun _ => 0))), .inl (X.2.2 0, (5, .inl (fun _ => 0))), .inl (X.2.2 2, (64, .inl (fun _ => 0)))]
set_option maxRecDepth 100000 in
set_option maxHeartbeats 4000000 in
theorem ctX8_init (X : gX) (a : Nat) : cC X yX8_init cX8_init 2 1 21 1197 [.ref a] a (.inr (8, [.null, .null, .null, .null, .int 0, .null, .int 0, .null, .null, .null, .null, .null, .int 0, .null, .null, .null, .null, .null, .null, .int 0, .null, .int 0, .int 0, .int 0, .int 0, .null, .int 0, .null, .null, .int 0, .int 0, .int 0, .int 0, .null, .int 0, .int 0])) (finX8 X a) := by
  refine k_met (by decide +kernel) rfl (Nat.le_of_ble_eq_true rfl) ?_
  intro p l e s m args below meth c ls A hKA hr hlk hnm hM hl
  have A : g_At X RX8 cX8_init 2 p s m args c := A
  have hl : lv_has ls 2 [(0, .ref a)] := hl
  generalize hH : s.heap = H at hM ⊢
  generalize hlo : ([] : List Loc) = locs at hM ⊢
  have hM : cM X s a [.inr (8, [.null, .null, .null, .null, .int 0, .null, .int 0, .null, .null, .null, .null, .null, .int 0, .null, .null, .null, .null, .null, .null, .int 0, .null, .int 0, .int 0, .int 0, .int 0, .null, .int 0, .null, .null, .int 0, .int 0, .int 0, .int 0, .null, .int 0, .int 0])] H locs 0 := hM
  refine lv_aload_n A.1 A.2.1 dX8_init_0 rfl (lv_at hl 0 rfl) ?_
  refine k_obj A hl.1 ol_X8 oi_i oi_c (Nat.le_of_ble_eq_true rfl) (Nat.le_of_ble_eq_true rfl) dX8_init_1 ?_
  refine W.eq (g2 := F0 m 4 ls []) rfl ?_
  refine lv_aload_n A.1 A.2.1 dX8_init_4 rfl (lv_at hl 0 rfl) ?_
  refine lv_iconst (v := 4) A.1 A.2.1 dX8_init_5 (by decide) ?_
  refine k_newa (kd := 0) (N := 4) (a0 := (4, .inl (fun _ => 0))) A hM aC_int rfl rfl (fun _ _ h1 h2 => Option.some.inj (h1.symm.trans h2)) (fun _ => rfl) (by decide) (by decide) (by decide) (Nat.le_of_ble_eq_true rfl) (Nat.le_of_ble_eq_true rfl) dX8_init_6 (fun H hM => ?_)
  have hM : cM X s a [.inr (8, [.null, .null, .null, .null, .int 0, .null, .int 0, .null, .null, .null, .null, .null, .int 0, .null, .null, .null, .null, .null, .null, .int 0, .null, .int 0, .int 0, .int 0, .int 0, .null, .int 0, .null, .null, .int 0, .int 0, .int 0, .int 0, .null, .int 0, .int 0]), .inl (X.2.2 0, (4, .inl (fun _ => 0)))] H locs 1 := hM
  refine W.widen (k := 1) (n := 4) (Nat.le_refl _) (Nat.le_refl _) ?_
  refine W.eq (g2 := F0 m 8 ls [.ref (a + 1), .ref a]) rfl ?_
  refine k_put (i := 0) (ci := 8) (k := 0) (ty := (.array .int)) (fs := [.null, .null, .null, .null, .int 0, .null, .int 0, .null, .null, .null, .null, .null, .int 0, .null, .null, .null, .null, .null, .null, .int 0, .null, .int 0, .int 0, .int 0, .int 0, .null, .int 0, .null, .null, .int 0, .int 0, .int 0, .int 0, .null, .int 0, .int 0]) A hM hnm rfl rfl iwX8 tyX8 tyX8_ok nmX8 (by decide) rfl pf_X8_7 (by decide +kernel) rfl rfl (Nat.le_of_ble_eq_true rfl) dX8_init_8 (fun H locs hM => ?_)
  have hM : cM X s a [.inr (8, [.ref (a + 1), .null, .null, .null, .int 0, .null, .int 0, .null, .null, .null, .null, .null, .int 0, .null, .null, .null, .null, .null, .null, .int 0, .null, .int 0, .int 0, .int 0, .int 0, .null, .int 0, .null, .null, .int 0, .int 0, .int 0, .int 0, .null, .int 0, .int 0]), .inl (X.2.2 0, (4, .inl (fun _ => 0)))] H locs 1 := hM
  refine lv_aload_n A.1 A.2.1 dX8_init_11 rfl (lv_at hl 0 rfl) ?_
  refine lv_iconst (v := 4) A.1 A.2.1 dX8_init_12 (by decide) ?_
  refine k_newa (kd := 0) (N := 4) (a0 := (4, .inl (fun _ => 0))) A hM aC_int rfl rfl (fun _ _ h1 h2 => Option.some.inj (h1.symm.trans h2)) (fun _ => rfl) (by decide) (by decide) (by decide) (Nat.le_of_ble_eq_true rfl) (Nat.le_of_ble_eq_true rfl) dX8_init_13 (fun H hM => ?_)
  have hM : cM X s a [.inr (8, [.ref (a + 1), .null, .null, .null, .int 0, .null, .int 0, .null, .null, .null, .null, .null, .int 0, .null, .null, .null, .null, .null, .null, .int 0, .null, .int 0, .int 0, .int 0, .int 0, .null, .int 0, .null, .null, .int 0, .int 0, .int 0, .int 0, .null, .int 0, .int 0]), .inl (X.2.2 0, (4, .inl (fun _ => 0))), .inl (X.2.2 0, (4, .inl (fun _ => 0)))] H locs 2 := hM
  refine W.widen (k := 2) (n := 8) (Nat.le_refl _) (Nat.le_refl _) ?_
  refine W.eq (g2 := F0 m 15 ls [.ref (a + 2), .ref a]) rfl ?_
  refine k_put (i := 0) (ci := 8) (k := 1) (ty := (.array .int)) (fs := [.ref (a + 1), .null, .null, .null, .int 0, .null, .int 0, .null, .null, .null, .null, .null, .int 0, .null, .null, .null, .null, .null, .null, .int 0, .null, .int 0, .int 0, .int 0, .int 0, .null, .int 0, .null, .null, .int 0, .int 0, .int 0, .int 0, .null, .int 0, .int 0]) A hM hnm rfl rfl iwX8 tyX8 tyX8_ok nmX8 (by decide) rfl pf_X8_13 (by decide +kernel) rfl rfl (Nat.le_of_ble_eq_true rfl) dX8_init_15 (fun H locs hM => ?_)
  have hM : cM X s a [.inr (8, [.ref (a + 1), .ref (a + 2), .null, .null, .int 0, .null, .int 0, .null, .null, .null, .null, .null, .int 0, .null, .null, .null, .null, .null, .null, .int 0, .null, .int 0, .int 0, .int 0, .int 0, .null, .int 0, .null, .null, .int 0, .int 0, .int 0, .int 0, .null, .int 0, .int 0]), .inl (X.2.2 0, (4, .inl (fun _ => 0))), .inl (X.2.2 0, (4, .inl (fun _ => 0)))] H locs 2 := hM
  refine lv_aload_n A.1 A.2.1 dX8_init_18 rfl (lv_at hl 0 rfl) ?_
  refine lv_sipush (v := 256) A.1 A.2.1 dX8_init_19 (by decide) ?_
  refine k_newa (kd := 0) (N := 256) (a0 := (256, .inl (fun _ => 0))) A hM aC_int rfl rfl (fun _ _ h1 h2 => Option.some.inj (h1.symm.trans h2)) (fun _ => rfl) (by decide) (by decide) (by decide) (Nat.le_of_ble_eq_true rfl) (Nat.le_of_ble_eq_true rfl) dX8_init_22 (fun H hM => ?_)
  have hM : cM X s a [.inr (8, [.ref (a + 1), .ref (a + 2), .null, .null, .int 0, .null, .int 0, .null, .null, .null, .null, .null, .int 0, .null, .null, .null, .null, .null, .null, .int 0, .null, .int 0, .int 0, .int 0, .int 0, .null, .int 0, .null, .null, .int 0, .int 0, .int 0, .int 0, .null, .int 0, .int 0]), .inl (X.2.2 0, (4, .inl (fun _ => 0))), .inl (X.2.2 0, (4, .inl (fun _ => 0))), .inl (X.2.2 0, (256, .inl (fun _ => 0)))] H locs 3 := hM
  refine W.widen (k := 3) (n := 264) (Nat.le_refl _) (Nat.le_refl _) ?_
  refine W.eq (g2 := F0 m 24 ls [.ref (a + 3), .ref a]) rfl ?_
  refine k_put (i := 0) (ci := 8) (k := 2) (ty := (.array .int)) (fs := [.ref (a + 1), .ref (a + 2), .null, .null, .int 0, .null, .int 0, .null, .null, .null, .null, .null, .int 0, .null, .null, .null, .null, .null, .null, .int 0, .null, .int 0, .int 0, .int 0, .int 0, .null, .int 0, .null, .null, .int 0, .int 0, .int 0, .int 0, .null, .int 0, .int 0]) A hM hnm rfl rfl iwX8 tyX8 tyX8_ok nmX8 (by decide) rfl pf_X8_16 (by decide +kernel) rfl rfl (Nat.le_of_ble_eq_true rfl) dX8_init_24 (fun H locs hM => ?_)
  have hM : cM X s a [.inr (8, [.ref (a + 1), .ref (a + 2), .ref (a + 3), .null, .int 0, .null, .int 0, .null, .null, .null, .null, .null, .int 0, .null, .null, .null, .null, .null, .null, .int 0, .null, .int 0, .int 0, .int 0, .int 0, .null, .int 0, .null, .null, .int 0, .int 0, .int 0, .int 0, .null, .int 0, .int 0]), .inl (X.2.2 0, (4, .inl (fun _ => 0))), .inl (X.2.2 0, (4, .inl (fun _ => 0))), .inl (X.2.2 0, (256, .inl (fun _ => 0)))] H locs 3 := hM
  refine lv_aload_n A.1 A.2.1 dX8_init_27 rfl (lv_at hl 0 rfl) ?_
  refine lv_bipush (v := 64) A.1 A.2.1 dX8_init_28 (by decide) ?_
  refine k_newa (kd := 0) (N := 64) (a0 := (64, .inl (fun _ => 0))) A hM aC_int rfl rfl (fun _ _ h1 h2 => Option.some.inj (h1.symm.trans h2)) (fun _ => rfl) (by decide) (by decide) (by decide) (Nat.le_of_ble_eq_true rfl) (Nat.le_of_ble_eq_true rfl) dX8_init_30 (fun H hM => ?_)
  have hM : cM X s a [.inr (8, [.ref (a + 1), .ref (a + 2), .ref (a + 3), .null, .int 0, .null, .int 0, .null, .null, .null, .null, .null, .int 0, .null, .null, .null, .null, .null, .null, .int 0, .null, .int 0, .int 0, .int 0, .int 0, .null, .int 0, .null, .null, .int 0, .int 0, .int 0, .int 0, .null, .int 0, .int 0]), .inl (X.2.2 0, (4, .inl (fun _ => 0))), .inl (X.2.2 0, (4, .inl (fun _ => 0))), .inl (X.2.2 0, (256, .inl (fun _ => 0))), .inl (X.2.2 0, (64, .inl (fun _ => 0)))] H locs 4 := hM
  refine W.widen (k := 4) (n := 328) (Nat.le_refl _) (Nat.le_refl _) ?_
  refine W.eq (g2 := F0 m 32 ls [.ref (a + 4), .ref a]) rfl ?_
  refine k_put (i := 0) (ci := 8) (k := 3) (ty := (.array .int)) (fs := [.ref (a + 1), .ref (a + 2), .ref (a + 3), .null, .int 0, .null, .int 0, .null, .null, .null, .null, .null, .int 0, .null, .null, .null, .null, .null, .null, .int 0, .null, .int 0, .int 0, .int 0, .int 0, .null, .int 0, .null, .null, .int 0, .int 0, .int 0, .int 0, .null, .int 0, .int 0]) A hM hnm rfl rfl iwX8 tyX8 tyX8_ok nmX8 (by decide) rfl pf_X8_19 (by decide +kernel) rfl rfl (Nat.le_of_ble_eq_true rfl) dX8_init_32 (fun H locs hM => ?_)
  have hM : cM X s a [.inr (8, [.ref (a + 1), .ref (a + 2), .ref (a + 3), .ref (a + 4), .int 0, .null, .int 0, .null, .null, .null, .null, .null, .int 0, .null, .null, .null, .null, .null, .null, .int 0, .null, .int 0, .int 0, .int 0, .int 0, .null, .int 0, .null, .null, .int 0, .int 0, .int 0, .int 0, .null, .int 0, .int 0]), .inl (X.2.2 0, (4, .inl (fun _ => 0))), .inl (X.2.2 0, (4, .inl (fun _ => 0))), .inl (X.2.2 0, (256, .inl (fun _ => 0))), .inl (X.2.2 0, (64, .inl (fun _ => 0)))] H locs 4 := hM
  refine lv_aload_n A.1 A.2.1 dX8_init_35 rfl (lv_at hl 0 rfl) ?_
  refine lv_bipush (v := 75) A.1 A.2.1 dX8_init_36 (by decide) ?_
  refine k_newa (kd := 0) (N := 75) (a0 := (75, .inl (fun _ => 0))) A hM aC_int rfl rfl (fun _ _ h1 h2 => Option.some.inj (h1.symm.trans h2)) (fun _ => rfl) (by decide) (by decide) (by decide) (Nat.le_of_ble_eq_true rfl) (Nat.le_of_ble_eq_true rfl) dX8_init_38 (fun H hM => ?_)
  have hM : cM X s a [.inr (8, [.ref (a + 1), .ref (a + 2), .ref (a + 3), .ref (a + 4), .int 0, .null, .int 0, .null, .null, .null, .null, .null, .int 0, .null, .null, .null, .null, .null, .null, .int 0, .null, .int 0, .int 0, .int 0, .int 0, .null, .int 0, .null, .null, .int 0, .int 0, .int 0, .int 0, .null, .int 0, .int 0]), .inl (X.2.2 0, (4, .inl (fun _ => 0))), .inl (X.2.2 0, (4, .inl (fun _ => 0))), .inl (X.2.2 0, (256, .inl (fun _ => 0))), .inl (X.2.2 0, (64, .inl (fun _ => 0))), .inl (X.2.2 0, (75, .inl (fun _ => 0)))] H locs 5 := hM
  refine W.widen (k := 5) (n := 403) (Nat.le_refl _) (Nat.le_refl _) ?_
  refine W.eq (g2 := F0 m 40 ls [.ref (a + 5), .ref a]) rfl ?_
  refine k_put (i := 0) (ci := 8) (k := 5) (ty := (.array .int)) (fs := [.ref (a + 1), .ref (a + 2), .ref (a + 3), .ref (a + 4), .int 0, .null, .int 0, .null, .null, .null, .null, .null, .int 0, .null, .null, .null, .null, .null, .null, .int 0, .null, .int 0, .int 0, .int 0, .int 0, .null, .int 0, .null, .null, .int 0, .int 0, .int 0, .int 0, .null, .int 0, .int 0]) A hM hnm rfl rfl iwX8 tyX8 tyX8_ok nmX8 (by decide) rfl pf_X8_22 (by decide +kernel) rfl rfl (Nat.le_of_ble_eq_true rfl) dX8_init_40 (fun H locs hM => ?_)
  have hM : cM X s a [.inr (8, [.ref (a + 1), .ref (a + 2), .ref (a + 3), .ref (a + 4), .int 0, .ref (a + 5), .int 0, .null, .null, .null, .null, .null, .int 0, .null, .null, .null, .null, .null, .null, .int 0, .null, .int 0, .int 0, .int 0, .int 0, .null, .int 0, .null, .null, .int 0, .int 0, .int 0, .int 0, .null, .int 0, .int 0]), .inl (X.2.2 0, (4, .inl (fun _ => 0))), .inl (X.2.2 0, (4, .inl (fun _ => 0))), .inl (X.2.2 0, (256, .inl (fun _ => 0))), .inl (X.2.2 0, (64, .inl (fun _ => 0))), .inl (X.2.2 0, (75, .inl (fun _ => 0)))] H locs 5 := hM
  refine lv_aload_n A.1 A.2.1 dX8_init_43 rfl (lv_at hl 0 rfl) ?_
  refine lv_bipush (v := 64) A.1 A.2.1 dX8_init_44 (by decide) ?_
  refine k_newa (kd := 0) (N := 64) (a0 := (64, .inl (fun _ => 0))) A hM aC_int rfl rfl (fun _ _ h1 h2 => Option.some.inj (h1.symm.trans h2)) (fun _ => rfl) (by decide) (by decide) (by decide) (Nat.le_of_ble_eq_true rfl) (Nat.le_of_ble_eq_true rfl) dX8_init_46 (fun H hM => ?_)
  have hM : cM X s a [.inr (8, [.ref (a + 1), .ref (a + 2), .ref (a + 3), .ref (a + 4), .int 0, .ref (a + 5), .int 0, .null, .null, .null, .null, .null, .int 0, .null, .null, .null, .null, .null, .null, .int 0, .null, .int 0, .int 0, .int 0, .int 0, .null, .int 0, .null, .null, .int 0, .int 0, .int 0, .int 0, .null, .int 0, .int 0]), .inl (X.2.2 0, (4, .inl (fun _ => 0))), .inl (X.2.2 0, (4, .inl (fun _ => 0))), .inl (X.2.2 0, (256, .inl (fun _ => 0))), .inl (X.2.2 0, (64, .inl (fun _ => 0))), .inl (X.2.2 0, (75, .inl (fun _ => 0))), .inl (X.2.2 0, (64, .inl (fun _ => 0)))] H locs 6 := hM
  refine W.widen (k := 6) (n := 467) (Nat.le_refl _) (Nat.le_refl _) ?_
  refine W.eq (g2 := F0 m 48 ls [.ref (a + 6), .ref a]) rfl ?_
  refine k_put (i := 0) (ci := 8) (k := 7) (ty := (.array .int)) (fs := [.ref (a + 1), .ref (a + 2), .ref (a + 3), .ref (a + 4), .int 0, .ref (a + 5), .int 0, .null, .null, .null, .null, .null, .int 0, .null, .null, .null, .null, .null, .null, .int 0, .null, .int 0, .int 0, .int 0, .int 0, .null, .int 0, .null, .null, .int 0, .int 0, .int 0, .int 0, .null, .int 0, .int 0]) A hM hnm rfl rfl iwX8 tyX8 tyX8_ok nmX8 (by decide) rfl pf_X8_25 (by decide +kernel) rfl rfl (Nat.le_of_ble_eq_true rfl) dX8_init_48 (fun H locs hM => ?_)
  have hM : cM X s a [.inr (8, [.ref (a + 1), .ref (a + 2), .ref (a + 3), .ref (a + 4), .int 0, .ref (a + 5), .int 0, .ref (a + 6), .null, .null, .null, .null, .int 0, .null, .null, .null, .null, .null, .null, .int 0, .null, .int 0, .int 0, .int 0, .int 0, .null, .int 0, .null, .null, .int 0, .int 0, .int 0, .int 0, .null, .int 0, .int 0]), .inl (X.2.2 0, (4, .inl (fun _ => 0))), .inl (X.2.2 0, (4, .inl (fun _ => 0))), .inl (X.2.2 0, (256, .inl (fun _ => 0))), .inl (X.2.2 0, (64, .inl (fun _ => 0))), .inl (X.2.2 0, (75, .inl (fun _ => 0))), .inl (X.2.2 0, (64, .inl (fun _ => 0)))] H locs 6 := hM
  refine lv_aload_n A.1 A.2.1 dX8_init_51 rfl (lv_at hl 0 rfl) ?_
  refine lv_bipush (v := 64) A.1 A.2.1 dX8_init_52 (by decide) ?_
  refine k_newa (kd := 0) (N := 64) (a0 := (64, .inl (fun _ => 0))) A hM aC_int rfl rfl (fun _ _ h1 h2 => Option.some.inj (h1.symm.trans h2)) (fun _ => rfl) (by decide) (by decide) (by decide) (Nat.le_of_ble_eq_true rfl) (Nat.le_of_ble_eq_true rfl) dX8_init_54 (fun H hM => ?_)
  have hM : cM X s a [.inr (8, [.ref (a + 1), .ref (a + 2), .ref (a + 3), .ref (a + 4), .int 0, .ref (a + 5), .int 0, .ref (a + 6), .null, .null, .null, .null, .int 0, .null, .null, .null, .null, .null, .null, .int 0, .null, .int 0, .int 0, .int 0, .int 0, .null, .int 0, .null, .null, .int 0, .int 0, .int 0, .int 0, .null, .int 0, .int 0]), .inl (X.2.2 0, (4, .inl (fun _ => 0))), .inl (X.2.2 0, (4, .inl (fun _ => 0))), .inl (X.2.2 0, (256, .inl (fun _ => 0))), .inl (X.2.2 0, (64, .inl (fun _ => 0))), .inl (X.2.2 0, (75, .inl (fun _ => 0))), .inl (X.2.2 0, (64, .inl (fun _ => 0))), .inl (X.2.2 0, (64, .inl (fun _ => 0)))] H locs 7 := hM
  refine W.widen (k := 7) (n := 531) (Nat.le_refl _) (Nat.le_refl _) ?_
  refine W.eq (g2 := F0 m 56 ls [.ref (a + 7), .ref a]) rfl ?_
  refine k_put (i := 0) (ci := 8) (k := 8) (ty := (.array .int)) (fs := [.ref (a + 1), .ref (a + 2), .ref (a + 3), .ref (a + 4), .int 0, .ref (a + 5), .int 0, .ref (a + 6), .null, .null, .null, .null, .int 0, .null, .null, .null, .null, .null, .null, .int 0, .null, .int 0, .int 0, .int 0, .int 0, .null, .int 0, .null, .null, .int 0, .int 0, .int 0, .int 0, .null, .int 0, .int 0]) A hM hnm rfl rfl iwX8 tyX8 tyX8_ok nmX8 (by decide) rfl pf_X8_28 (by decide +kernel) rfl rfl (Nat.le_of_ble_eq_true rfl) dX8_init_56 (fun H locs hM => ?_)
  have hM : cM X s a [.inr (8, [.ref (a + 1), .ref (a + 2), .ref (a + 3), .ref (a + 4), .int 0, .ref (a + 5), .int 0, .ref (a + 6), .ref (a + 7), .null, .null, .null, .int 0, .null, .null, .null, .null, .null, .null, .int 0, .null, .int 0, .int 0, .int 0, .int 0, .null, .int 0, .null, .null, .int 0, .int 0, .int 0, .int 0, .null, .int 0, .int 0]), .inl (X.2.2 0, (4, .inl (fun _ => 0))), .inl (X.2.2 0, (4, .inl (fun _ => 0))), .inl (X.2.2 0, (256, .inl (fun _ => 0))), .inl (X.2.2 0, (64, .inl (fun _ => 0))), .inl (X.2.2 0, (75, .inl (fun _ => 0))), .inl (X.2.2 0, (64, .inl (fun _ => 0))), .inl (X.2.2 0, (64, .inl (fun _ => 0)))] H locs 7 := hM
  refine lv_aload_n A.1 A.2.1 dX8_init_59 rfl (lv_at hl 0 rfl) ?_
  refine lv_bipush (v := 64) A.1 A.2.1 dX8_init_60 (by decide) ?_
  refine k_newa (kd := 0) (N := 64) (a0 := (64, .inl (fun _ => 0))) A hM aC_int rfl rfl (fun _ _ h1 h2 => Option.some.inj (h1.symm.trans h2)) (fun _ => rfl) (by decide) (by decide) (by decide) (Nat.le_of_ble_eq_true rfl) (Nat.le_of_ble_eq_true rfl) dX8_init_62 (fun H hM => ?_)
  have hM : cM X s a [.inr (8, [.ref (a + 1), .ref (a + 2), .ref (a + 3), .ref (a + 4), .int 0, .ref (a + 5), .int 0, .ref (a + 6), .ref (a + 7), .null, .null, .null, .int 0, .null, .null, .null, .null, .null, .null, .int 0, .null, .int 0, .int 0, .int 0, .int 0, .null, .int 0, .null, .null, .int 0, .int 0, .int 0, .int 0, .null, .int 0, .int 0]), .inl (X.2.2 0, (4, .inl (fun _ => 0))), .inl (X.2.2 0, (4, .inl (fun _ => 0))), .inl (X.2.2 0, (256, .inl (fun _ => 0))), .inl (X.2.2 0, (64, .inl (fun _ => 0))), .inl (X.2.2 0, (75, .inl (fun _ => 0))), .inl (X.2.2 0, (64, .inl (fun _ => 0))), .inl (X.2.2 0, (64, .inl (fun _ => 0))), .inl (X.2.2 0, (64, .inl (fun _ => 0)))] H locs 8 := hM
  refine W.widen (k := 8) (n := 595) (Nat.le_refl _) (Nat.le_refl _) ?_
  refine W.eq (g2 := F0 m 64 ls [.ref (a + 8), .ref a]) rfl ?_
  refine k_put (i := 0) (ci := 8) (k := 9) (ty := (.array .int)) (fs := [.ref (a + 1), .ref (a + 2), .ref (a + 3), .ref (a + 4), .int 0, .ref (a + 5), .int 0, .ref (a + 6), .ref (a + 7), .null, .null, .null, .int 0, .null, .null, .null, .null, .null, .null, .int 0, .null, .int 0, .int 0, .int 0, .int 0, .null, .int 0, .null, .null, .int 0, .int 0, .int 0, .int 0, .null, .int 0, .int 0]) A hM hnm rfl rfl iwX8 tyX8 tyX8_ok nmX8 (by decide) rfl pf_X8_31 (by decide +kernel) rfl rfl (Nat.le_of_ble_eq_true rfl) dX8_init_64 (fun H locs hM => ?_)
  have hM : cM X s a [.inr (8, [.ref (a + 1), .ref (a + 2), .ref (a + 3), .ref (a + 4), .int 0, .ref (a + 5), .int 0, .ref (a + 6), .ref (a + 7), .ref (a + 8), .null, .null, .int 0, .null, .null, .null, .null, .null, .null, .int 0, .null, .int 0, .int 0, .int 0, .int 0, .null, .int 0, .null, .null, .int 0, .int 0, .int 0, .int 0, .null, .int 0, .int 0]), .inl (X.2.2 0, (4, .inl (fun _ => 0))), .inl (X.2.2 0, (4, .inl (fun _ => 0))), .inl (X.2.2 0, (256, .inl (fun _ => 0))), .inl (X.2.2 0, (64, .inl (fun _ => 0))), .inl (X.2.2 0, (75, .inl (fun _ => 0))), .inl (X.2.2 0, (64, .inl (fun _ => 0))), .inl (X.2.2 0, (64, .inl (fun _ => 0))), .inl (X.2.2 0, (64, .inl (fun _ => 0)))] H locs 8 := hM
  refine lv_aload_n A.1 A.2.1 dX8_init_67 rfl (lv_at hl 0 rfl) ?_
  refine lv_bipush (v := 64) A.1 A.2.1 dX8_init_68 (by decide) ?_
  refine k_newa (kd := 0) (N := 64) (a0 := (64, .inl (fun _ => 0))) A hM aC_int rfl rfl (fun _ _ h1 h2 => Option.some.inj (h1.symm.trans h2)) (fun _ => rfl) (by decide) (by decide) (by decide) (Nat.le_of_ble_eq_true rfl) (Nat.le_of_ble_eq_true rfl) dX8_init_70 (fun H hM => ?_)
  have hM : cM X s a [.inr (8, [.ref (a + 1), .ref (a + 2), .ref (a + 3), .ref (a + 4), .int 0, .ref (a + 5), .int 0, .ref (a + 6), .ref (a + 7), .ref (a + 8), .null, .null, .int 0, .null, .null, .null, .null, .null, .null, .int 0, .null, .int 0, .int 0, .int 0, .int 0, .null, .int 0, .null, .null, .int 0, .int 0, .int 0, .int 0, .null, .int 0, .int 0]), .inl (X.2.2 0, (4, .inl (fun _ => 0))), .inl (X.2.2 0, (4, .inl (fun _ => 0))), .inl (X.2.2 0, (256, .inl (fun _ => 0))), .inl (X.2.2 0, (64, .inl (fun _ => 0))), .inl (X.2.2 0, (75, .inl (fun _ => 0))), .inl (X.2.2 0, (64, .inl (fun _ => 0))), .inl (X.2.2 0, (64, .inl (fun _ => 0))), .inl (X.2.2 0, (64, .inl (fun _ => 0))), .inl (X.2.2 0, (64, .inl (fun _ => 0)))] H locs 9 := hM
  refine W.widen (k := 9) (n := 659) (Nat.le_refl _) (Nat.le_refl _) ?_
  refine W.eq (g2 := F0 m 72 ls [.ref (a + 9), .ref a]) rfl ?_
  refine k_put (i := 0) (ci := 8) (k := 10) (ty := (.array .int)) (fs := [.ref (a + 1), .ref (a + 2), .ref (a + 3), .ref (a + 4), .int 0, .ref (a + 5), .int 0, .ref (a + 6), .ref (a + 7), .ref (a + 8), .null, .null, .int 0, .null, .null, .null, .null, .null, .null, .int 0, .null, .int 0, .int 0, .int 0, .int 0, .null, .int 0, .null, .null, .int 0, .int 0, .int 0, .int 0, .null, .int 0, .int 0]) A hM hnm rfl rfl iwX8 tyX8 tyX8_ok nmX8 (by decide) rfl pf_X8_34 (by decide +kernel) rfl rfl (Nat.le_of_ble_eq_true rfl) dX8_init_72 (fun H locs hM => ?_)
  have hM : cM X s a [.inr (8, [.ref (a + 1), .ref (a + 2), .ref (a + 3), .ref (a + 4), .int 0, .ref (a + 5), .int 0, .ref (a + 6), .ref (a + 7), .ref (a + 8), .ref (a + 9), .null, .int 0, .null, .null, .null, .null, .null, .null, .int 0, .null, .int 0, .int 0, .int 0, .int 0, .null, .int 0, .null, .null, .int 0, .int 0, .int 0, .int 0, .null, .int 0, .int 0]), .inl (X.2.2 0, (4, .inl (fun _ => 0))), .inl (X.2.2 0, (4, .inl (fun _ => 0))), .inl (X.2.2 0, (256, .inl (fun _ => 0))), .inl (X.2.2 0, (64, .inl (fun _ => 0))), .inl (X.2.2 0, (75, .inl (fun _ => 0))), .inl (X.2.2 0, (64, .inl (fun _ => 0))), .inl (X.2.2 0, (64, .inl (fun _ => 0))), .inl (X.2.2 0, (64, .inl (fun _ => 0))), .inl (X.2.2 0, (64, .inl (fun _ => 0)))] H locs 9 := hM
  refine lv_aload_n A.1 A.2.1 dX8_init_75 rfl (lv_at hl 0 rfl) ?_
  refine lv_bipush (v := 64) A.1 A.2.1 dX8_init_76 (by decide) ?_
  refine k_newa (kd := 0) (N := 64) (a0 := (64, .inl (fun _ => 0))) A hM aC_int rfl rfl (fun _ _ h1 h2 => Option.some.inj (h1.symm.trans h2)) (fun _ => rfl) (by decide) (by decide) (by decide) (Nat.le_of_ble_eq_true rfl) (Nat.le_of_ble_eq_true rfl) dX8_init_78 (fun H hM => ?_)
  have hM : cM X s a [.inr (8, [.ref (a + 1), .ref (a + 2), .ref (a + 3), .ref (a + 4), .int 0, .ref (a + 5), .int 0, .ref (a + 6), .ref (a + 7), .ref (a + 8), .ref (a + 9), .null, .int 0, .null, .null, .null, .null, .null, .null, .int 0, .null, .int 0, .int 0, .int 0, .int 0, .null, .int 0, .null, .null, .int 0, .int 0, .int 0, .int 0, .null, .int 0, .int 0]), .inl (X.2.2 0, (4, .inl (fun _ => 0))), .inl (X.2.2 0, (4, .inl (fun _ => 0))), .inl (X.2.2 0, (256, .inl (fun _ => 0))), .inl (X.2.2 0, (64, .inl (fun _ => 0))), .inl (X.2.2 0, (75, .inl (fun _ => 0))), .inl (X.2.2 0, (64, .inl (fun _ => 0))), .inl (X.2.2 0, (64, .inl (fun _ => 0))), .inl (X.2.2 0, (64, .inl (fun _ => 0))), .inl (X.2.2 0, (64, .inl (fun _ => 0))), .inl (X.2.2 0, (64, .inl (fun _ => 0)))] H locs 10 := hM
  refine W.widen (k := 10) (n := 723) (Nat.le_refl _) (Nat.le_refl _) ?_
  refine W.eq (g2 := F0 m 80 ls [.ref (a + 10), .ref a]) rfl ?_
  refine k_put (i := 0) (ci := 8) (k := 11) (ty := (.array .int)) (fs := [.ref (a + 1), .ref (a + 2), .ref (a + 3), .ref (a + 4), .int 0, .ref (a + 5), .int 0, .ref (a + 6), .ref (a + 7), .ref (a + 8), .ref (a + 9), .null, .int 0, .null, .null, .null, .null, .null, .null, .int 0, .null, .int 0, .int 0, .int 0, .int 0, .null, .int 0, .null, .null, .int 0, .int 0, .int 0, .int 0, .null, .int 0, .int 0]) A hM hnm rfl rfl iwX8 tyX8 tyX8_ok nmX8 (by decide) rfl pf_X8_37 (by decide +kernel) rfl rfl (Nat.le_of_ble_eq_true rfl) dX8_init_80 (fun H locs hM => ?_)
  have hM : cM X s a [.inr (8, [.ref (a + 1), .ref (a + 2), .ref (a + 3), .ref (a + 4), .int 0, .ref (a + 5), .int 0, .ref (a + 6), .ref (a + 7), .ref (a + 8), .ref (a + 9), .ref (a + 10), .int 0, .null, .null, .null, .null, .null, .null, .int 0, .null, .int 0, .int 0, .int 0, .int 0, .null, .int 0, .null, .null, .int 0, .int 0, .int 0, .int 0, .null, .int 0, .int 0]), .inl (X.2.2 0, (4, .inl (fun _ => 0))), .inl (X.2.2 0, (4, .inl (fun _ => 0))), .inl (X.2.2 0, (256, .inl (fun _ => 0))), .inl (X.2.2 0, (64, .inl (fun _ => 0))), .inl (X.2.2 0, (75, .inl (fun _ => 0))), .inl (X.2.2 0, (64, .inl (fun _ => 0))), .inl (X.2.2 0, (64, .inl (fun _ => 0))), .inl (X.2.2 0, (64, .inl (fun _ => 0))), .inl (X.2.2 0, (64, .inl (fun _ => 0))), .inl (X.2.2 0, (64, .inl (fun _ => 0)))] H locs 10 := hM
  refine lv_aload_n A.1 A.2.1 dX8_init_83 rfl (lv_at hl 0 rfl) ?_
  refine lv_bipush (v := 8) A.1 A.2.1 dX8_init_84 (by decide) ?_
  refine k_newa (kd := 0) (N := 8) (a0 := (8, .inl (fun _ => 0))) A hM aC_int rfl rfl (fun _ _ h1 h2 => Option.some.inj (h1.symm.trans h2)) (fun _ => rfl) (by decide) (by decide) (by decide) (Nat.le_of_ble_eq_true rfl) (Nat.le_of_ble_eq_true rfl) dX8_init_86 (fun H hM => ?_)
  have hM : cM X s a [.inr (8, [.ref (a + 1), .ref (a + 2), .ref (a + 3), .ref (a + 4), .int 0, .ref (a + 5), .int 0, .ref (a + 6), .ref (a + 7), .ref (a + 8), .ref (a + 9), .ref (a + 10), .int 0, .null, .null, .null, .null, .null, .null, .int 0, .null, .int 0, .int 0, .int 0, .int 0, .null, .int 0, .null, .null, .int 0, .int 0, .int 0, .int 0, .null, .int 0, .int 0]), .inl (X.2.2 0, (4, .inl (fun _ => 0))), .inl (X.2.2 0, (4, .inl (fun _ => 0))), .inl (X.2.2 0, (256, .inl (fun _ => 0))), .inl (X.2.2 0, (64, .inl (fun _ => 0))), .inl (X.2.2 0, (75, .inl (fun _ => 0))), .inl (X.2.2 0, (64, .inl (fun _ => 0))), .inl (X.2.2 0, (64, .inl (fun _ => 0))), .inl (X.2.2 0, (64, .inl (fun _ => 0))), .inl (X.2.2 0, (64, .inl (fun _ => 0))), .inl (X.2.2 0, (64, .inl (fun _ => 0))), .inl (X.2.2 0, (8, .inl (fun _ => 0)))] H locs 11 := hM
  refine W.widen (k := 11) (n := 731) (Nat.le_refl _) (Nat.le_refl _) ?_
  refine W.eq (g2 := F0 m 88 ls [.ref (a + 11), .ref a]) rfl ?_
  refine k_put (i := 0) (ci := 8) (k := 13) (ty := (.array .int)) (fs := [.ref (a + 1), .ref (a + 2), .ref (a + 3), .ref (a + 4), .int 0, .ref (a + 5), .int 0, .ref (a + 6), .ref (a + 7), .ref (a + 8), .ref (a + 9), .ref (a + 10), .int 0, .null, .null, .null, .null, .null, .null, .int 0, .null, .int 0, .int 0, .int 0, .int 0, .null, .int 0, .null, .null, .int 0, .int 0, .int 0, .int 0, .null, .int 0, .int 0]) A hM hnm rfl rfl iwX8 tyX8 tyX8_ok nmX8 (by decide) rfl pf_X8_40 (by decide +kernel) rfl rfl (Nat.le_of_ble_eq_true rfl) dX8_init_88 (fun H locs hM => ?_)
  have hM : cM X s a [.inr (8, [.ref (a + 1), .ref (a + 2), .ref (a + 3), .ref (a + 4), .int 0, .ref (a + 5), .int 0, .ref (a + 6), .ref (a + 7), .ref (a + 8), .ref (a + 9), .ref (a + 10), .int 0, .ref (a + 11), .null, .null, .null, .null, .null, .int 0, .null, .int 0, .int 0, .int 0, .int 0, .null, .int 0, .null, .null, .int 0, .int 0, .int 0, .int 0, .null, .int 0, .int 0]), .inl (X.2.2 0, (4, .inl (fun _ => 0))), .inl (X.2.2 0, (4, .inl (fun _ => 0))), .inl (X.2.2 0, (256, .inl (fun _ => 0))), .inl (X.2.2 0, (64, .inl (fun _ => 0))), .inl (X.2.2 0, (75, .inl (fun _ => 0))), .inl (X.2.2 0, (64, .inl (fun _ => 0))), .inl (X.2.2 0, (64, .inl (fun _ => 0))), .inl (X.2.2 0, (64, .inl (fun _ => 0))), .inl (X.2.2 0, (64, .inl (fun _ => 0))), .inl (X.2.2 0, (64, .inl (fun _ => 0))), .inl (X.2.2 0, (8, .inl (fun _ => 0)))] H locs 11 := hM
  refine lv_aload_n A.1 A.2.1 dX8_init_91 rfl (lv_at hl 0 rfl) ?_
  refine lv_bipush (v := 8) A.1 A.2.1 dX8_init_92 (by decide) ?_
  refine k_newa (kd := 0) (N := 8) (a0 := (8, .inl (fun _ => 0))) A hM aC_int rfl rfl (fun _ _ h1 h2 => Option.some.inj (h1.symm.trans h2)) (fun _ => rfl) (by decide) (by decide) (by decide) (Nat.le_of_ble_eq_true rfl) (Nat.le_of_ble_eq_true rfl) dX8_init_94 (fun H hM => ?_)
  have hM : cM X s a [.inr (8, [.ref (a + 1), .ref (a + 2), .ref (a + 3), .ref (a + 4), .int 0, .ref (a + 5), .int 0, .ref (a + 6), .ref (a + 7), .ref (a + 8), .ref (a + 9), .ref (a + 10), .int 0, .ref (a + 11), .null, .null, .null, .null, .null, .int 0, .null, .int 0, .int 0, .int 0, .int 0, .null, .int 0, .null, .null, .int 0, .int 0, .int 0, .int 0, .null, .int 0, .int 0]), .inl (X.2.2 0, (4, .inl (fun _ => 0))), .inl (X.2.2 0, (4, .inl (fun _ => 0))), .inl (X.2.2 0, (256, .inl (fun _ => 0))), .inl (X.2.2 0, (64, .inl (fun _ => 0))), .inl (X.2.2 0, (75, .inl (fun _ => 0))), .inl (X.2.2 0, (64, .inl (fun _ => 0))), .inl (X.2.2 0, (64, .inl (fun _ => 0))), .inl (X.2.2 0, (64, .inl (fun _ => 0))), .inl (X.2.2 0, (64, .inl (fun _ => 0))), .inl (X.2.2 0, (64, .inl (fun _ => 0))), .inl (X.2.2 0, (8, .inl (fun _ => 0))), .inl (X.2.2 0, (8, .inl (fun _ => 0)))] H locs 12 := hM
  refine W.widen (k := 12) (n := 739) (Nat.le_refl _) (Nat.le_refl _) ?_
  refine W.eq (g2 := F0 m 96 ls [.ref (a + 12), .ref a]) rfl ?_
  refine k_put (i := 0) (ci := 8) (k := 14) (ty := (.array .int)) (fs := [.ref (a + 1), .ref (a + 2), .ref (a + 3), .ref (a + 4), .int 0, .ref (a + 5), .int 0, .ref (a + 6), .ref (a + 7), .ref (a + 8), .ref (a + 9), .ref (a + 10), .int 0, .ref (a + 11), .null, .null, .null, .null, .null, .int 0, .null, .int 0, .int 0, .int 0, .int 0, .null, .int 0, .null, .null, .int 0, .int 0, .int 0, .int 0, .null, .int 0, .int 0]) A hM hnm rfl rfl iwX8 tyX8 tyX8_ok nmX8 (by decide) rfl pf_X8_43 (by decide +kernel) rfl rfl (Nat.le_of_ble_eq_true rfl) dX8_init_96 (fun H locs hM => ?_)
  have hM : cM X s a [.inr (8, [.ref (a + 1), .ref (a + 2), .ref (a + 3), .ref (a + 4), .int 0, .ref (a + 5), .int 0, .ref (a + 6), .ref (a + 7), .ref (a + 8), .ref (a + 9), .ref (a + 10), .int 0, .ref (a + 11), .ref (a + 12), .null, .null, .null, .null, .int 0, .null, .int 0, .int 0, .int 0, .int 0, .null, .int 0, .null, .null, .int 0, .int 0, .int 0, .int 0, .null, .int 0, .int 0]), .inl (X.2.2 0, (4, .inl (fun _ => 0))), .inl (X.2.2 0, (4, .inl (fun _ => 0))), .inl (X.2.2 0, (256, .inl (fun _ => 0))), .inl (X.2.2 0, (64, .inl (fun _ => 0))), .inl (X.2.2 0, (75, .inl (fun _ => 0))), .inl (X.2.2 0, (64, .inl (fun _ => 0))), .inl (X.2.2 0, (64, .inl (fun _ => 0))), .inl (X.2.2 0, (64, .inl (fun _ => 0))), .inl (X.2.2 0, (64, .inl (fun _ => 0))), .inl (X.2.2 0, (64, .inl (fun _ => 0))), .inl (X.2.2 0, (8, .inl (fun _ => 0))), .inl (X.2.2 0, (8, .inl (fun _ => 0)))] H locs 12 := hM
  refine lv_aload_n A.1 A.2.1 dX8_init_99 rfl (lv_at hl 0 rfl) ?_
  refine lv_bipush (v := 64) A.1 A.2.1 dX8_init_100 (by decide) ?_
  refine k_newa (kd := 0) (N := 64) (a0 := (64, .inl (fun _ => 0))) A hM aC_int rfl rfl (fun _ _ h1 h2 => Option.some.inj (h1.symm.trans h2)) (fun _ => rfl) (by decide) (by decide) (by decide) (Nat.le_of_ble_eq_true rfl) (Nat.le_of_ble_eq_true rfl) dX8_init_102 (fun H hM => ?_)
  have hM : cM X s a [.inr (8, [.ref (a + 1), .ref (a + 2), .ref (a + 3), .ref (a + 4), .int 0, .ref (a + 5), .int 0, .ref (a + 6), .ref (a + 7), .ref (a + 8), .ref (a + 9), .ref (a + 10), .int 0, .ref (a + 11), .ref (a + 12), .null, .null, .null, .null, .int 0, .null, .int 0, .int 0, .int 0, .int 0, .null, .int 0, .null, .null, .int 0, .int 0, .int 0, .int 0, .null, .int 0, .int 0]), .inl (X.2.2 0, (4, .inl (fun _ => 0))), .inl (X.2.2 0, (4, .inl (fun _ => 0))), .inl (X.2.2 0, (256, .inl (fun _ => 0))), .inl (X.2.2 0, (64, .inl (fun _ => 0))), .inl (X.2.2 0, (75, .inl (fun _ => 0))), .inl (X.2.2 0, (64, .inl (fun _ => 0))), .inl (X.2.2 0, (64, .inl (fun _ => 0))), .inl (X.2.2 0, (64, .inl (fun _ => 0))), .inl (X.2.2 0, (64, .inl (fun _ => 0))), .inl (X.2.2 0, (64, .inl (fun _ => 0))), .inl (X.2.2 0, (8, .inl (fun _ => 0))), .inl (X.2.2 0, (8, .inl (fun _ => 0))), .inl (X.2.2 0, (64, .inl (fun _ => 0)))] H locs 13 := hM
  refine W.widen (k := 13) (n := 803) (Nat.le_refl _) (Nat.le_refl _) ?_
  refine W.eq (g2 := F0 m 104 ls [.ref (a + 13), .ref a]) rfl ?_
  refine k_put (i := 0) (ci := 8) (k := 15) (ty := (.array .int)) (fs := [.ref (a + 1), .ref (a + 2), .ref (a + 3), .ref (a + 4), .int 0, .ref (a + 5), .int 0, .ref (a + 6), .ref (a + 7), .ref (a + 8), .ref (a + 9), .ref (a + 10), .int 0, .ref (a + 11), .ref (a + 12), .null, .null, .null, .null, .int 0, .null, .int 0, .int 0, .int 0, .int 0, .null, .int 0, .null, .null, .int 0, .int 0, .int 0, .int 0, .null, .int 0, .int 0]) A hM hnm rfl rfl iwX8 tyX8 tyX8_ok nmX8 (by decide) rfl pf_X8_46 (by decide +kernel) rfl rfl (Nat.le_of_ble_eq_true rfl) dX8_init_104 (fun H locs hM => ?_)
  have hM : cM X s a [.inr (8, [.ref (a + 1), .ref (a + 2), .ref (a + 3), .ref (a + 4), .int 0, .ref (a + 5), .int 0, .ref (a + 6), .ref (a + 7), .ref (a + 8), .ref (a + 9), .ref (a + 10), .int 0, .ref (a + 11), .ref (a + 12), .ref (a + 13), .null, .null, .null, .int 0, .null, .int 0, .int 0, .int 0, .int 0, .null, .int 0, .null, .null, .int 0, .int 0, .int 0, .int 0, .null, .int 0, .int 0]), .inl (X.2.2 0, (4, .inl (fun _ => 0))), .inl (X.2.2 0, (4, .inl (fun _ => 0))), .inl (X.2.2 0, (256, .inl (fun _ => 0))), .inl (X.2.2 0, (64, .inl (fun _ => 0))), .inl (X.2.2 0, (75, .inl (fun _ => 0))), .inl (X.2.2 0, (64, .inl (fun _ => 0))), .inl (X.2.2 0, (64, .inl (fun _ => 0))), .inl (X.2.2 0, (64, .inl (fun _ => 0))), .inl (X.2.2 0, (64, .inl (fun _ => 0))), .inl (X.2.2 0, (64, .inl (fun _ => 0))), .inl (X.2.2 0, (8, .inl (fun _ => 0))), .inl (X.2.2 0, (8, .inl (fun _ => 0))), .inl (X.2.2 0, (64, .inl (fun _ => 0)))] H locs 13 := hM
  refine lv_aload_n A.1 A.2.1 dX8_init_107 rfl (lv_at hl 0 rfl) ?_
  refine lv_bipush (v := 64) A.1 A.2.1 dX8_init_108 (by decide) ?_
  refine k_newa (kd := 0) (N := 64) (a0 := (64, .inl (fun _ => 0))) A hM aC_int rfl rfl (fun _ _ h1 h2 => Option.some.inj (h1.symm.trans h2)) (fun _ => rfl) (by decide) (by decide) (by decide) (Nat.le_of_ble_eq_true rfl) (Nat.le_of_ble_eq_true rfl) dX8_init_110 (fun H hM => ?_)
  have hM : cM X s a [.inr (8, [.ref (a + 1), .ref (a + 2), .ref (a + 3), .ref (a + 4), .int 0, .ref (a + 5), .int 0, .ref (a + 6), .ref (a + 7), .ref (a + 8), .ref (a + 9), .ref (a + 10), .int 0, .ref (a + 11), .ref (a + 12), .ref (a + 13), .null, .null, .null, .int 0, .null, .int 0, .int 0, .int 0, .int 0, .null, .int 0, .null, .null, .int 0, .int 0, .int 0, .int 0, .null, .int 0, .int 0]), .inl (X.2.2 0, (4, .inl (fun _ => 0))), .inl (X.2.2 0, (4, .inl (fun _ => 0))), .inl (X.2.2 0, (256, .inl (fun _ => 0))), .inl (X.2.2 0, (64, .inl (fun _ => 0))), .inl (X.2.2 0, (75, .inl (fun _ => 0))), .inl (X.2.2 0, (64, .inl (fun _ => 0))), .inl (X.2.2 0, (64, .inl (fun _ => 0))), .inl (X.2.2 0, (64, .inl (fun _ => 0))), .inl (X.2.2 0, (64, .inl (fun _ => 0))), .inl (X.2.2 0, (64, .inl (fun _ => 0))), .inl (X.2.2 0, (8, .inl (fun _ => 0))), .inl (X.2.2 0, (8, .inl (fun _ => 0))), .inl (X.2.2 0, (64, .inl (fun _ => 0))), .inl (X.2.2 0, (64, .inl (fun _ => 0)))] H locs 14 := hM
  refine W.widen (k := 14) (n := 867) (Nat.le_refl _) (Nat.le_refl _) ?_
  refine W.eq (g2 := F0 m 112 ls [.ref (a + 14), .ref a]) rfl ?_
  refine k_put (i := 0) (ci := 8) (k := 16) (ty := (.array .int)) (fs := [.ref (a + 1), .ref (a + 2), .ref (a + 3), .ref (a + 4), .int 0, .ref (a + 5), .int 0, .ref (a + 6), .ref (a + 7), .ref (a + 8), .ref (a + 9), .ref (a + 10), .int 0, .ref (a + 11), .ref (a + 12), .ref (a + 13), .null, .null, .null, .int 0, .null, .int 0, .int 0, .int 0, .int 0, .null, .int 0, .null, .null, .int 0, .int 0, .int 0, .int 0, .null, .int 0, .int 0]) A hM hnm rfl rfl iwX8 tyX8 tyX8_ok nmX8 (by decide) rfl pf_X8_49 (by decide +kernel) rfl rfl (Nat.le_of_ble_eq_true rfl) dX8_init_112 (fun H locs hM => ?_)
  have hM : cM X s a [.inr (8, [.ref (a + 1), .ref (a + 2), .ref (a + 3), .ref (a + 4), .int 0, .ref (a + 5), .int 0, .ref (a + 6), .ref (a + 7), .ref (a + 8), .ref (a + 9), .ref (a + 10), .int 0, .ref (a + 11), .ref (a + 12), .ref (a + 13), .ref (a + 14), .null, .null, .int 0, .null, .int 0, .int 0, .int 0, .int 0, .null, .int 0, .null, .null, .int 0, .int 0, .int 0, .int 0, .null, .int 0, .int 0]), .inl (X.2.2 0, (4, .inl (fun _ => 0))), .inl (X.2.2 0, (4, .inl (fun _ => 0))), .inl (X.2.2 0, (256, .inl (fun _ => 0))), .inl (X.2.2 0, (64, .inl (fun _ => 0))), .inl (X.2.2 0, (75, .inl (fun _ => 0))), .inl (X.2.2 0, (64, .inl (fun _ => 0))), .inl (X.2.2 0, (64, .inl (fun _ => 0))), .inl (X.2.2 0, (64, .inl (fun _ => 0))), .inl (X.2.2 0, (64, .inl (fun _ => 0))), .inl (X.2.2 0, (64, .inl (fun _ => 0))), .inl (X.2.2 0, (8, .inl (fun _ => 0))), .inl (X.2.2 0, (8, .inl (fun _ => 0))), .inl (X.2.2 0, (64, .inl (fun _ => 0))), .inl (X.2.2 0, (64, .inl (fun _ => 0)))] H locs 14 := hM
  refine lv_aload_n A.1 A.2.1 dX8_init_115 rfl (lv_at hl 0 rfl) ?_
  refine lv_bipush (v := 64) A.1 A.2.1 dX8_init_116 (by decide) ?_
  refine k_newa (kd := 0) (N := 64) (a0 := (64, .inl (fun _ => 0))) A hM aC_int rfl rfl (fun _ _ h1 h2 => Option.some.inj (h1.symm.trans h2)) (fun _ => rfl) (by decide) (by decide) (by decide) (Nat.le_of_ble_eq_true rfl) (Nat.le_of_ble_eq_true rfl) dX8_init_118 (fun H hM => ?_)
  have hM : cM X s a [.inr (8, [.ref (a + 1), .ref (a + 2), .ref (a + 3), .ref (a + 4), .int 0, .ref (a + 5), .int 0, .ref (a + 6), .ref (a + 7), .ref (a + 8), .ref (a + 9), .ref (a + 10), .int 0, .ref (a + 11), .ref (a + 12), .ref (a + 13), .ref (a + 14), .null, .null, .int 0, .null, .int 0, .int 0, .int 0, .int 0, .null, .int 0, .null, .null, .int 0, .int 0, .int 0, .int 0, .null, .int 0, .int 0]), .inl (X.2.2 0, (4, .inl (fun _ => 0))), .inl (X.2.2 0, (4, .inl (fun _ => 0))), .inl (X.2.2 0, (256, .inl (fun _ => 0))), .inl (X.2.2 0, (64, .inl (fun _ => 0))), .inl (X.2.2 0, (75, .inl (fun _ => 0))), .inl (X.2.2 0, (64, .inl (fun _ => 0))), .inl (X.2.2 0, (64, .inl (fun _ => 0))), .inl (X.2.2 0, (64, .inl (fun _ => 0))), .inl (X.2.2 0, (64, .inl (fun _ => 0))), .inl (X.2.2 0, (64, .inl (fun _ => 0))), .inl (X.2.2 0, (8, .inl (fun _ => 0))), .inl (X.2.2 0, (8, .inl (fun _ => 0))), .inl (X.2.2 0, (64, .inl (fun _ => 0))), .inl (X.2.2 0, (64, .inl (fun _ => 0))), .inl (X.2.2 0, (64, .inl (fun _ => 0)))] H locs 15 := hM
  refine W.widen (k := 15) (n := 931) (Nat.le_refl _) (Nat.le_refl _) ?_
  refine W.eq (g2 := F0 m 120 ls [.ref (a + 15), .ref a]) rfl ?_
  refine k_put (i := 0) (ci := 8) (k := 17) (ty := (.array .int)) (fs := [.ref (a + 1), .ref (a + 2), .ref (a + 3), .ref (a + 4), .int 0, .ref (a + 5), .int 0, .ref (a + 6), .ref (a + 7), .ref (a + 8), .ref (a + 9), .ref (a + 10), .int 0, .ref (a + 11), .ref (a + 12), .ref (a + 13), .ref (a + 14), .null, .null, .int 0, .null, .int 0, .int 0, .int 0, .int 0, .null, .int 0, .null, .null, .int 0, .int 0, .int 0, .int 0, .null, .int 0, .int 0]) A hM hnm rfl rfl iwX8 tyX8 tyX8_ok nmX8 (by decide) rfl pf_X8_52 (by decide +kernel) rfl rfl (Nat.le_of_ble_eq_true rfl) dX8_init_120 (fun H locs hM => ?_)
  have hM : cM X s a [.inr (8, [.ref (a + 1), .ref (a + 2), .ref (a + 3), .ref (a + 4), .int 0, .ref (a + 5), .int 0, .ref (a + 6), .ref (a + 7), .ref (a + 8), .ref (a + 9), .ref (a + 10), .int 0, .ref (a + 11), .ref (a + 12), .ref (a + 13), .ref (a + 14), .ref (a + 15), .null, .int 0, .null, .int 0, .int 0, .int 0, .int 0, .null, .int 0, .null, .null, .int 0, .int 0, .int 0, .int 0, .null, .int 0, .int 0]), .inl (X.2.2 0, (4, .inl (fun _ => 0))), .inl (X.2.2 0, (4, .inl (fun _ => 0))), .inl (X.2.2 0, (256, .inl (fun _ => 0))), .inl (X.2.2 0, (64, .inl (fun _ => 0))), .inl (X.2.2 0, (75, .inl (fun _ => 0))), .inl (X.2.2 0, (64, .inl (fun _ => 0))), .inl (X.2.2 0, (64, .inl (fun _ => 0))), .inl (X.2.2 0, (64, .inl (fun _ => 0))), .inl (X.2.2 0, (64, .inl (fun _ => 0))), .inl (X.2.2 0, (64, .inl (fun _ => 0))), .inl (X.2.2 0, (8, .inl (fun _ => 0))), .inl (X.2.2 0, (8, .inl (fun _ => 0))), .inl (X.2.2 0, (64, .inl (fun _ => 0))), .inl (X.2.2 0, (64, .inl (fun _ => 0))), .inl (X.2.2 0, (64, .inl (fun _ => 0)))] H locs 15 := hM
  refine lv_aload_n A.1 A.2.1 dX8_init_123 rfl (lv_at hl 0 rfl) ?_
  refine lv_bipush (v := 64) A.1 A.2.1 dX8_init_124 (by decide) ?_
  refine k_newa (kd := 2) (N := 64) (a0 := (64, .inl (fun _ => 0))) A hM aC_bool rfl rfl (fun _ _ h1 h2 => Option.some.inj (h1.symm.trans h2)) (fun _ => rfl) (by decide) (by decide) (by decide) (Nat.le_of_ble_eq_true rfl) (Nat.le_of_ble_eq_true rfl) dX8_init_126 (fun H hM => ?_)
  have hM : cM X s a [.inr (8, [.ref (a + 1), .ref (a + 2), .ref (a + 3), .ref (a + 4), .int 0, .ref (a + 5), .int 0, .ref (a + 6), .ref (a + 7), .ref (a + 8), .ref (a + 9), .ref (a + 10), .int 0, .ref (a + 11), .ref (a + 12), .ref (a + 13), .ref (a + 14), .ref (a + 15), .null, .int 0, .null, .int 0, .int 0, .int 0, .int 0, .null, .int 0, .null, .null, .int 0, .int 0, .int 0, .int 0, .null, .int 0, .int 0]), .inl (X.2.2 0, (4, .inl (fun _ => 0))), .inl (X.2.2 0, (4, .inl (fun _ => 0))), .inl (X.2.2 0, (256, .inl (fun _ => 0))), .inl (X.2.2 0, (64, .inl (fun _ => 0))), .inl (X.2.2 0, (75, .inl (fun _ => 0))), .inl (X.2.2 0, (64, .inl (fun _ => 0))), .inl (X.2.2 0, (64, .inl (fun _ => 0))), .inl (X.2.2 0, (64, .inl (fun _ => 0))), .inl (X.2.2 0, (64, .inl (fun _ => 0))), .inl (X.2.2 0, (64, .inl (fun _ => 0))), .inl (X.2.2 0, (8, .inl (fun _ => 0))), .inl (X.2.2 0, (8, .inl (fun _ => 0))), .inl (X.2.2 0, (64, .inl (fun _ => 0))), .inl (X.2.2 0, (64, .inl (fun _ => 0))), .inl (X.2.2 0, (64, .inl (fun _ => 0))), .inl (X.2.2 2, (64, .inl (fun _ => 0)))] H locs 16 := hM
  refine W.widen (k := 16) (n := 995) (Nat.le_refl _) (Nat.le_refl _) ?_
  refine W.eq (g2 := F0 m 128 ls [.ref (a + 16), .ref a]) rfl ?_
  refine k_put (i := 0) (ci := 8) (k := 18) (ty := (.array .boolean)) (fs := [.ref (a + 1), .ref (a + 2), .ref (a + 3), .ref (a + 4), .int 0, .ref (a + 5), .int 0, .ref (a + 6), .ref (a + 7), .ref (a + 8), .ref (a + 9), .ref (a + 10), .int 0, .ref (a + 11), .ref (a + 12), .ref (a + 13), .ref (a + 14), .ref (a + 15), .null, .int 0, .null, .int 0, .int 0, .int 0, .int 0, .null, .int 0, .null, .null, .int 0, .int 0, .int 0, .int 0, .null, .int 0, .int 0]) A hM hnm rfl rfl iwX8 tyX8 tyX8_ok nmX8 (by decide) rfl pf_X8_55 (by decide +kernel) rfl rfl (Nat.le_of_ble_eq_true rfl) dX8_init_128 (fun H locs hM => ?_)
  have hM : cM X s a [.inr (8, [.ref (a + 1), .ref (a + 2), .ref (a + 3), .ref (a + 4), .int 0, .ref (a + 5), .int 0, .ref (a + 6), .ref (a + 7), .ref (a + 8), .ref (a + 9), .ref (a + 10), .int 0, .ref (a + 11), .ref (a + 12), .ref (a + 13), .ref (a + 14), .ref (a + 15), .ref (a + 16), .int 0, .null, .int 0, .int 0, .int 0, .int 0, .null, .int 0, .null, .null, .int 0, .int 0, .int 0, .int 0, .null, .int 0, .int 0]), .inl (X.2.2 0, (4, .inl (fun _ => 0))), .inl (X.2.2 0, (4, .inl (fun _ => 0))), .inl (X.2.2 0, (256, .inl (fun _ => 0))), .inl (X.2.2 0, (64, .inl (fun _ => 0))), .inl (X.2.2 0, (75, .inl (fun _ => 0))), .inl (X.2.2 0, (64, .inl (fun _ => 0))), .inl (X.2.2 0, (64, .inl (fun _ => 0))), .inl (X.2.2 0, (64, .inl (fun _ => 0))), .inl (X.2.2 0, (64, .inl (fun _ => 0))), .inl (X.2.2 0, (64, .inl (fun _ => 0))), .inl (X.2.2 0, (8, .inl (fun _ => 0))), .inl (X.2.2 0, (8, .inl (fun _ => 0))), .inl (X.2.2 0, (64, .inl (fun _ => 0))), .inl (X.2.2 0, (64, .inl (fun _ => 0))), .inl (X.2.2 0, (64, .inl (fun _ => 0))), .inl (X.2.2 2, (64, .inl (fun _ => 0)))] H locs 16 := hM
  refine lv_aload_n A.1 A.2.1 dX8_init_131 rfl (lv_at hl 0 rfl) ?_
  refine lv_iconst (v := -1) A.1 A.2.1 dX8_init_132 (by decide) ?_
  refine k_put (i := 0) (ci := 8) (k := 19) (ty := .int) (fs := [.ref (a + 1), .ref (a + 2), .ref (a + 3), .ref (a + 4), .int 0, .ref (a + 5), .int 0, .ref (a + 6), .ref (a + 7), .ref (a + 8), .ref (a + 9), .ref (a + 10), .int 0, .ref (a + 11), .ref (a + 12), .ref (a + 13), .ref (a + 14), .ref (a + 15), .ref (a + 16), .int 0, .null, .int 0, .int 0, .int 0, .int 0, .null, .int 0, .null, .null, .int 0, .int 0, .int 0, .int 0, .null, .int 0, .int 0]) A hM hnm rfl rfl iwX8 tyX8 tyX8_ok nmX8 (by decide) rfl pf_X8_59 (by decide +kernel) rfl rfl (Nat.le_of_ble_eq_true rfl) dX8_init_133 (fun H locs hM => ?_)
  have hM : cM X s a [.inr (8, [.ref (a + 1), .ref (a + 2), .ref (a + 3), .ref (a + 4), .int 0, .ref (a + 5), .int 0, .ref (a + 6), .ref (a + 7), .ref (a + 8), .ref (a + 9), .ref (a + 10), .int 0, .ref (a + 11), .ref (a + 12), .ref (a + 13), .ref (a + 14), .ref (a + 15), .ref (a + 16), .int (-1), .null, .int 0, .int 0, .int 0, .int 0, .null, .int 0, .null, .null, .int 0, .int 0, .int 0, .int 0, .null, .int 0, .int 0]), .inl (X.2.2 0, (4, .inl (fun _ => 0))), .inl (X.2.2 0, (4, .inl (fun _ => 0))), .inl (X.2.2 0, (256, .inl (fun _ => 0))), .inl (X.2.2 0, (64, .inl (fun _ => 0))), .inl (X.2.2 0, (75, .inl (fun _ => 0))), .inl (X.2.2 0, (64, .inl (fun _ => 0))), .inl (X.2.2 0, (64, .inl (fun _ => 0))), .inl (X.2.2 0, (64, .inl (fun _ => 0))), .inl (X.2.2 0, (64, .inl (fun _ => 0))), .inl (X.2.2 0, (64, .inl (fun _ => 0))), .inl (X.2.2 0, (8, .inl (fun _ => 0))), .inl (X.2.2 0, (8, .inl (fun _ => 0))), .inl (X.2.2 0, (64, .inl (fun _ => 0))), .inl (X.2.2 0, (64, .inl (fun _ => 0))), .inl (X.2.2 0, (64, .inl (fun _ => 0))), .inl (X.2.2 2, (64, .inl (fun _ => 0)))] H locs 16 := hM
  refine lv_aload_n A.1 A.2.1 dX8_init_136 rfl (lv_at hl 0 rfl) ?_
  refine lv_bipush (v := 64) A.1 A.2.1 dX8_init_137 (by decide) ?_
  refine k_newa (kd := 0) (N := 64) (a0 := (64, .inl (fun _ => 0))) A hM aC_int rfl rfl (fun _ _ h1 h2 => Option.some.inj (h1.symm.trans h2)) (fun _ => rfl) (by decide) (by decide) (by decide) (Nat.le_of_ble_eq_true rfl) (Nat.le_of_ble_eq_true rfl) dX8_init_139 (fun H hM => ?_)
  have hM : cM X s a [.inr (8, [.ref (a + 1), .ref (a + 2), .ref (a + 3), .ref (a + 4), .int 0, .ref (a + 5), .int 0, .ref (a + 6), .ref (a + 7), .ref (a + 8), .ref (a + 9), .ref (a + 10), .int 0, .ref (a + 11), .ref (a + 12), .ref (a + 13), .ref (a + 14), .ref (a + 15), .ref (a + 16), .int (-1), .null, .int 0, .int 0, .int 0, .int 0, .null, .int 0, .null, .null, .int 0, .int 0, .int 0, .int 0, .null, .int 0, .int 0]), .inl (X.2.2 0, (4, .inl (fun _ => 0))), .inl (X.2.2 0, (4, .inl (fun _ => 0))), .inl (X.2.2 0, (256, .inl (fun _ => 0))), .inl (X.2.2 0, (64, .inl (fun _ => 0))), .inl (X.2.2 0, (75, .inl (fun _ => 0))), .inl (X.2.2 0, (64, .inl (fun _ => 0))), .inl (X.2.2 0, (64, .inl (fun _ => 0))), .inl (X.2.2 0, (64, .inl (fun _ => 0))), .inl (X.2.2 0, (64, .inl (fun _ => 0))), .inl (X.2.2 0, (64, .inl (fun _ => 0))), .inl (X.2.2 0, (8, .inl (fun _ => 0))), .inl (X.2.2 0, (8, .inl (fun _ => 0))), .inl (X.2.2 0, (64, .inl (fun _ => 0))), .inl (X.2.2 0, (64, .inl (fun _ => 0))), .inl (X.2.2 0, (64, .inl (fun _ => 0))), .inl (X.2.2 2, (64, .inl (fun _ => 0))), .inl (X.2.2 0, (64, .inl (fun _ => 0)))] H locs 17 := hM
  refine W.widen (k := 17) (n := 1059) (Nat.le_refl _) (Nat.le_refl _) ?_
  refine W.eq (g2 := F0 m 141 ls [.ref (a + 17), .ref a]) rfl ?_
  refine k_put (i := 0) (ci := 8) (k := 20) (ty := (.array .int)) (fs := [.ref (a + 1), .ref (a + 2), .ref (a + 3), .ref (a + 4), .int 0, .ref (a + 5), .int 0, .ref (a + 6), .ref (a + 7), .ref (a + 8), .ref (a + 9), .ref (a + 10), .int 0, .ref (a + 11), .ref (a + 12), .ref (a + 13), .ref (a + 14), .ref (a + 15), .ref (a + 16), .int (-1), .null, .int 0, .int 0, .int 0, .int 0, .null, .int 0, .null, .null, .int 0, .int 0, .int 0, .int 0, .null, .int 0, .int 0]) A hM hnm rfl rfl iwX8 tyX8 tyX8_ok nmX8 (by decide) rfl pf_X8_63 (by decide +kernel) rfl rfl (Nat.le_of_ble_eq_true rfl) dX8_init_141 (fun H locs hM => ?_)
  have hM : cM X s a [.inr (8, [.ref (a + 1), .ref (a + 2), .ref (a + 3), .ref (a + 4), .int 0, .ref (a + 5), .int 0, .ref (a + 6), .ref (a + 7), .ref (a + 8), .ref (a + 9), .ref (a + 10), .int 0, .ref (a + 11), .ref (a + 12), .ref (a + 13), .ref (a + 14), .ref (a + 15), .ref (a + 16), .int (-1), .ref (a + 17), .int 0, .int 0, .int 0, .int 0, .null, .int 0, .null, .null, .int 0, .int 0, .int 0, .int 0, .null, .int 0, .int 0]), .inl (X.2.2 0, (4, .inl (fun _ => 0))), .inl (X.2.2 0, (4, .inl (fun _ => 0))), .inl (X.2.2 0, (256, .inl (fun _ => 0))), .inl (X.2.2 0, (64, .inl (fun _ => 0))), .inl (X.2.2 0, (75, .inl (fun _ => 0))), .inl (X.2.2 0, (64, .inl (fun _ => 0))), .inl (X.2.2 0, (64, .inl (fun _ => 0))), .inl (X.2.2 0, (64, .inl (fun _ => 0))), .inl (X.2.2 0, (64, .inl (fun _ => 0))), .inl (X.2.2 0, (64, .inl (fun _ => 0))), .inl (X.2.2 0, (8, .inl (fun _ => 0))), .inl (X.2.2 0, (8, .inl (fun _ => 0))), .inl (X.2.2 0, (64, .inl (fun _ => 0))), .inl (X.2.2 0, (64, .inl (fun _ => 0))), .inl (X.2.2 0, (64, .inl (fun _ => 0))), .inl (X.2.2 2, (64, .inl (fun _ => 0))), .inl (X.2.2 0, (64, .inl (fun _ => 0)))] H locs 17 := hM
  refine lv_aload_n A.1 A.2.1 dX8_init_144 rfl (lv_at hl 0 rfl) ?_
  refine lv_bipush (v := 64) A.1 A.2.1 dX8_init_145 (by decide) ?_
  refine k_newa (kd := 0) (N := 64) (a0 := (64, .inl (fun _ => 0))) A hM aC_int rfl rfl (fun _ _ h1 h2 => Option.some.inj (h1.symm.trans h2)) (fun _ => rfl) (by decide) (by decide) (by decide) (Nat.le_of_ble_eq_true rfl) (Nat.le_of_ble_eq_true rfl) dX8_init_147 (fun H hM => ?_)
  have hM : cM X s a [.inr (8, [.ref (a + 1), .ref (a + 2), .ref (a + 3), .ref (a + 4), .int 0, .ref (a + 5), .int 0, .ref (a + 6), .ref (a + 7), .ref (a + 8), .ref (a + 9), .ref (a + 10), .int 0, .ref (a + 11), .ref (a + 12), .ref (a + 13), .ref (a + 14), .ref (a + 15), .ref (a + 16), .int (-1), .ref (a + 17), .int 0, .int 0, .int 0, .int 0, .null, .int 0, .null, .null, .int 0, .int 0, .int 0, .int 0, .null, .int 0, .int 0]), .inl (X.2.2 0, (4, .inl (fun _ => 0))), .inl (X.2.2 0, (4, .inl (fun _ => 0))), .inl (X.2.2 0, (256, .inl (fun _ => 0))), .inl (X.2.2 0, (64, .inl (fun _ => 0))), .inl (X.2.2 0, (75, .inl (fun _ => 0))), .inl (X.2.2 0, (64, .inl (fun _ => 0))), .inl (X.2.2 0, (64, .inl (fun _ => 0))), .inl (X.2.2 0, (64, .inl (fun _ => 0))), .inl (X.2.2 0, (64, .inl (fun _ => 0))), .inl (X.2.2 0, (64, .inl (fun _ => 0))), .inl (X.2.2 0, (8, .inl (fun _ => 0))), .inl (X.2.2 0, (8, .inl (fun _ => 0))), .inl (X.2.2 0, (64, .inl (fun _ => 0))), .inl (X.2.2 0, (64, .inl (fun _ => 0))), .inl (X.2.2 0, (64, .inl (fun _ => 0))), .inl (X.2.2 2, (64, .inl (fun _ => 0))), .inl (X.2.2 0, (64, .inl (fun _ => 0))), .inl (X.2.2 0, (64, .inl (fun _ => 0)))] H locs 18 := hM
  refine W.widen (k := 18) (n := 1123) (Nat.le_refl _) (Nat.le_refl _) ?_
  refine W.eq (g2 := F0 m 149 ls [.ref (a + 18), .ref a]) rfl ?_
  refine k_put (i := 0) (ci := 8) (k := 25) (ty := (.array .int)) (fs := [.ref (a + 1), .ref (a + 2), .ref (a + 3), .ref (a + 4), .int 0, .ref (a + 5), .int 0, .ref (a + 6), .ref (a + 7), .ref (a + 8), .ref (a + 9), .ref (a + 10), .int 0, .ref (a + 11), .ref (a + 12), .ref (a + 13), .ref (a + 14), .ref (a + 15), .ref (a + 16), .int (-1), .ref (a + 17), .int 0, .int 0, .int 0, .int 0, .null, .int 0, .null, .null, .int 0, .int 0, .int 0, .int 0, .null, .int 0, .int 0]) A hM hnm rfl rfl iwX8 tyX8 tyX8_ok nmX8 (by decide) rfl pf_X8_66 (by decide +kernel) rfl rfl (Nat.le_of_ble_eq_true rfl) dX8_init_149 (fun H locs hM => ?_)
  have hM : cM X s a [.inr (8, [.ref (a + 1), .ref (a + 2), .ref (a + 3), .ref (a + 4), .int 0, .ref (a + 5), .int 0, .ref (a + 6), .ref (a + 7), .ref (a + 8), .ref (a + 9), .ref (a + 10), .int 0, .ref (a + 11), .ref (a + 12), .ref (a + 13), .ref (a + 14), .ref (a + 15), .ref (a + 16), .int (-1), .ref (a + 17), .int 0, .int 0, .int 0, .int 0, .ref (a + 18), .int 0, .null, .null, .int 0, .int 0, .int 0, .int 0, .null, .int 0, .int 0]), .inl (X.2.2 0, (4, .inl (fun _ => 0))), .inl (X.2.2 0, (4, .inl (fun _ => 0))), .inl (X.2.2 0, (256, .inl (fun _ => 0))), .inl (X.2.2 0, (64, .inl (fun _ => 0))), .inl (X.2.2 0, (75, .inl (fun _ => 0))), .inl (X.2.2 0, (64, .inl (fun _ => 0))), .inl (X.2.2 0, (64, .inl (fun _ => 0))), .inl (X.2.2 0, (64, .inl (fun _ => 0))), .inl (X.2.2 0, (64, .inl (fun _ => 0))), .inl (X.2.2 0, (64, .inl (fun _ => 0))), .inl (X.2.2 0, (8, .inl (fun _ => 0))), .inl (X.2.2 0, (8, .inl (fun _ => 0))), .inl (X.2.2 0, (64, .inl (fun _ => 0))), .inl (X.2.2 0, (64, .inl (fun _ => 0))), .inl (X.2.2 0, (64, .inl (fun _ => 0))), .inl (X.2.2 2, (64, .inl (fun _ => 0))), .inl (X.2.2 0, (64, .inl (fun _ => 0))), .inl (X.2.2 0, (64, .inl (fun _ => 0)))] H locs 18 := hM
  refine lv_aload_n A.1 A.2.1 dX8_init_152 rfl (lv_at hl 0 rfl) ?_
  refine lv_iconst (v := 5) A.1 A.2.1 dX8_init_153 (by decide) ?_
  refine k_newa (kd := 0) (N := 5) (a0 := (5, .inl (fun _ => 0))) A hM aC_int rfl rfl (fun _ _ h1 h2 => Option.some.inj (h1.symm.trans h2)) (fun _ => rfl) (by decide) (by decide) (by decide) (Nat.le_of_ble_eq_true rfl) (Nat.le_of_ble_eq_true rfl) dX8_init_154 (fun H hM => ?_)
  have hM : cM X s a [.inr (8, [.ref (a + 1), .ref (a + 2), .ref (a + 3), .ref (a + 4), .int 0, .ref (a + 5), .int 0, .ref (a + 6), .ref (a + 7), .ref (a + 8), .ref (a + 9), .ref (a + 10), .int 0, .ref (a + 11), .ref (a + 12), .ref (a + 13), .ref (a + 14), .ref (a + 15), .ref (a + 16), .int (-1), .ref (a + 17), .int 0, .int 0, .int 0, .int 0, .ref (a + 18), .int 0, .null, .null, .int 0, .int 0, .int 0, .int 0, .null, .int 0, .int 0]), .inl (X.2.2 0, (4, .inl (fun _ => 0))), .inl (X.2.2 0, (4, .inl (fun _ => 0))), .inl (X.2.2 0, (256, .inl (fun _ => 0))), .inl (X.2.2 0, (64, .inl (fun _ => 0))), .inl (X.2.2 0, (75, .inl (fun _ => 0))), .inl (X.2.2 0, (64, .inl (fun _ => 0))), .inl (X.2.2 0, (64, .inl (fun _ => 0))), .inl (X.2.2 0, (64, .inl (fun _ => 0))), .inl (X.2.2 0, (64, .inl (fun _ => 0))), .inl (X.2.2 0, (64, .inl (fun _ => 0))), .inl (X.2.2 0, (8, .inl (fun _ => 0))), .inl (X.2.2 0, (8, .inl (fun _ => 0))), .inl (X.2.2 0, (64, .inl (fun _ => 0))), .inl (X.2.2 0, (64, .inl (fun _ => 0))), .inl (X.2.2 0, (64, .inl (fun _ => 0))), .inl (X.2.2 2, (64, .inl (fun _ => 0))), .inl (X.2.2 0, (64, .inl (fun _ => 0))), .inl (X.2.2 0, (64, .inl (fun _ => 0))), .inl (X.2.2 0, (5, .inl (fun _ => 0)))] H locs 19 := hM
  refine W.widen (k := 19) (n := 1128) (Nat.le_refl _) (Nat.le_refl _) ?_
  refine W.eq (g2 := F0 m 156 ls [.ref (a + 19), .ref a]) rfl ?_
  refine k_put (i := 0) (ci := 8) (k := 27) (ty := (.array .int)) (fs := [.ref (a + 1), .ref (a + 2), .ref (a + 3), .ref (a + 4), .int 0, .ref (a + 5), .int 0, .ref (a + 6), .ref (a + 7), .ref (a + 8), .ref (a + 9), .ref (a + 10), .int 0, .ref (a + 11), .ref (a + 12), .ref (a + 13), .ref (a + 14), .ref (a + 15), .ref (a + 16), .int (-1), .ref (a + 17), .int 0, .int 0, .int 0, .int 0, .ref (a + 18), .int 0, .null, .null, .int 0, .int 0, .int 0, .int 0, .null, .int 0, .int 0]) A hM hnm rfl rfl iwX8 tyX8 tyX8_ok nmX8 (by decide) rfl pf_X8_69 (by decide +kernel) rfl rfl (Nat.le_of_ble_eq_true rfl) dX8_init_156 (fun H locs hM => ?_)
  have hM : cM X s a [.inr (8, [.ref (a + 1), .ref (a + 2), .ref (a + 3), .ref (a + 4), .int 0, .ref (a + 5), .int 0, .ref (a + 6), .ref (a + 7), .ref (a + 8), .ref (a + 9), .ref (a + 10), .int 0, .ref (a + 11), .ref (a + 12), .ref (a + 13), .ref (a + 14), .ref (a + 15), .ref (a + 16), .int (-1), .ref (a + 17), .int 0, .int 0, .int 0, .int 0, .ref (a + 18), .int 0, .ref (a + 19), .null, .int 0, .int 0, .int 0, .int 0, .null, .int 0, .int 0]), .inl (X.2.2 0, (4, .inl (fun _ => 0))), .inl (X.2.2 0, (4, .inl (fun _ => 0))), .inl (X.2.2 0, (256, .inl (fun _ => 0))), .inl (X.2.2 0, (64, .inl (fun _ => 0))), .inl (X.2.2 0, (75, .inl (fun _ => 0))), .inl (X.2.2 0, (64, .inl (fun _ => 0))), .inl (X.2.2 0, (64, .inl (fun _ => 0))), .inl (X.2.2 0, (64, .inl (fun _ => 0))), .inl (X.2.2 0, (64, .inl (fun _ => 0))), .inl (X.2.2 0, (64, .inl (fun _ => 0))), .inl (X.2.2 0, (8, .inl (fun _ => 0))), .inl (X.2.2 0, (8, .inl (fun _ => 0))), .inl (X.2.2 0, (64, .inl (fun _ => 0))), .inl (X.2.2 0, (64, .inl (fun _ => 0))), .inl (X.2.2 0, (64, .inl (fun _ => 0))), .inl (X.2.2 2, (64, .inl (fun _ => 0))), .inl (X.2.2 0, (64, .inl (fun _ => 0))), .inl (X.2.2 0, (64, .inl (fun _ => 0))), .inl (X.2.2 0, (5, .inl (fun _ => 0)))] H locs 19 := hM
  refine lv_aload_n A.1 A.2.1 dX8_init_159 rfl (lv_at hl 0 rfl) ?_
  refine lv_iconst (v := 5) A.1 A.2.1 dX8_init_160 (by decide) ?_
  refine k_newa (kd := 0) (N := 5) (a0 := (5, .inl (fun _ => 0))) A hM aC_int rfl rfl (fun _ _ h1 h2 => Option.some.inj (h1.symm.trans h2)) (fun _ => rfl) (by decide) (by decide) (by decide) (Nat.le_of_ble_eq_true rfl) (Nat.le_of_ble_eq_true rfl) dX8_init_161 (fun H hM => ?_)
  have hM : cM X s a [.inr (8, [.ref (a + 1), .ref (a + 2), .ref (a + 3), .ref (a + 4), .int 0, .ref (a + 5), .int 0, .ref (a + 6), .ref (a + 7), .ref (a + 8), .ref (a + 9), .ref (a + 10), .int 0, .ref (a + 11), .ref (a + 12), .ref (a + 13), .ref (a + 14), .ref (a + 15), .ref (a + 16), .int (-1), .ref (a + 17), .int 0, .int 0, .int 0, .int 0, .ref (a + 18), .int 0, .ref (a + 19), .null, .int 0, .int 0, .int 0, .int 0, .null, .int 0, .int 0]), .inl (X.2.2 0, (4, .inl (fun _ => 0))), .inl (X.2.2 0, (4, .inl (fun _ => 0))), .inl (X.2.2 0, (256, .inl (fun _ => 0))), .inl (X.2.2 0, (64, .inl (fun _ => 0))), .inl (X.2.2 0, (75, .inl (fun _ => 0))), .inl (X.2.2 0, (64, .inl (fun _ => 0))), .inl (X.2.2 0, (64, .inl (fun _ => 0))), .inl (X.2.2 0, (64, .inl (fun _ => 0))), .inl (X.2.2 0, (64, .inl (fun _ => 0))), .inl (X.2.2 0, (64, .inl (fun _ => 0))), .inl (X.2.2 0, (8, .inl (fun _ => 0))), .inl (X.2.2 0, (8, .inl (fun _ => 0))), .inl (X.2.2 0, (64, .inl (fun _ => 0))), .inl (X.2.2 0, (64, .inl (fun _ => 0))), .inl (X.2.2 0, (64, .inl (fun _ => 0))), .inl (X.2.2 2, (64, .inl (fun _ => 0))), .inl (X.2.2 0, (64, .inl (fun _ => 0))), .inl (X.2.2 0, (64, .inl (fun _ => 0))), .inl (X.2.2 0, (5, .inl (fun _ => 0))), .inl (X.2.2 0, (5, .inl (fun _ => 0)))] H locs 20 := hM
  refine W.widen (k := 20) (n := 1133) (Nat.le_refl _) (Nat.le_refl _) ?_
  refine W.eq (g2 := F0 m 163 ls [.ref (a + 20), .ref a]) rfl ?_
  refine k_put (i := 0) (ci := 8) (k := 28) (ty := (.array .int)) (fs := [.ref (a + 1), .ref (a + 2), .ref (a + 3), .ref (a + 4), .int 0, .ref (a + 5), .int 0, .ref (a + 6), .ref (a + 7), .ref (a + 8), .ref (a + 9), .ref (a + 10), .int 0, .ref (a + 11), .ref (a + 12), .ref (a + 13), .ref (a + 14), .ref (a + 15), .ref (a + 16), .int (-1), .ref (a + 17), .int 0, .int 0, .int 0, .int 0, .ref (a + 18), .int 0, .ref (a + 19), .null, .int 0, .int 0, .int 0, .int 0, .null, .int 0, .int 0]) A hM hnm rfl rfl iwX8 tyX8 tyX8_ok nmX8 (by decide) rfl pf_X8_72 (by decide +kernel) rfl rfl (Nat.le_of_ble_eq_true rfl) dX8_init_163 (fun H locs hM => ?_)
  have hM : cM X s a [.inr (8, [.ref (a + 1), .ref (a + 2), .ref (a + 3), .ref (a + 4), .int 0, .ref (a + 5), .int 0, .ref (a + 6), .ref (a + 7), .ref (a + 8), .ref (a + 9), .ref (a + 10), .int 0, .ref (a + 11), .ref (a + 12), .ref (a + 13), .ref (a + 14), .ref (a + 15), .ref (a + 16), .int (-1), .ref (a + 17), .int 0, .int 0, .int 0, .int 0, .ref (a + 18), .int 0, .ref (a + 19), .ref (a + 20), .int 0, .int 0, .int 0, .int 0, .null, .int 0, .int 0]), .inl (X.2.2 0, (4, .inl (fun _ => 0))), .inl (X.2.2 0, (4, .inl (fun _ => 0))), .inl (X.2.2 0, (256, .inl (fun _ => 0))), .inl (X.2.2 0, (64, .inl (fun _ => 0))), .inl (X.2.2 0, (75, .inl (fun _ => 0))), .inl (X.2.2 0, (64, .inl (fun _ => 0))), .inl (X.2.2 0, (64, .inl (fun _ => 0))), .inl (X.2.2 0, (64, .inl (fun _ => 0))), .inl (X.2.2 0, (64, .inl (fun _ => 0))), .inl (X.2.2 0, (64, .inl (fun _ => 0))), .inl (X.2.2 0, (8, .inl (fun _ => 0))), .inl (X.2.2 0, (8, .inl (fun _ => 0))), .inl (X.2.2 0, (64, .inl (fun _ => 0))), .inl (X.2.2 0, (64, .inl (fun _ => 0))), .inl (X.2.2 0, (64, .inl (fun _ => 0))), .inl (X.2.2 2, (64, .inl (fun _ => 0))), .inl (X.2.2 0, (64, .inl (fun _ => 0))), .inl (X.2.2 0, (64, .inl (fun _ => 0))), .inl (X.2.2 0, (5, .inl (fun _ => 0))), .inl (X.2.2 0, (5, .inl (fun _ => 0)))] H locs 20 := hM
  refine lv_aload_n A.1 A.2.1 dX8_init_166 rfl (lv_at hl 0 rfl) ?_
  refine lv_bipush (v := 64) A.1 A.2.1 dX8_init_167 (by decide) ?_
  refine k_newa (kd := 2) (N := 64) (a0 := (64, .inl (fun _ => 0))) A hM aC_bool rfl rfl (fun _ _ h1 h2 => Option.some.inj (h1.symm.trans h2)) (fun _ => rfl) (by decide) (by decide) (by decide) (Nat.le_of_ble_eq_true rfl) (Nat.le_of_ble_eq_true rfl) dX8_init_169 (fun H hM => ?_)
  have hM : cM X s a [.inr (8, [.ref (a + 1), .ref (a + 2), .ref (a + 3), .ref (a + 4), .int 0, .ref (a + 5), .int 0, .ref (a + 6), .ref (a + 7), .ref (a + 8), .ref (a + 9), .ref (a + 10), .int 0, .ref (a + 11), .ref (a + 12), .ref (a + 13), .ref (a + 14), .ref (a + 15), .ref (a + 16), .int (-1), .ref (a + 17), .int 0, .int 0, .int 0, .int 0, .ref (a + 18), .int 0, .ref (a + 19), .ref (a + 20), .int 0, .int 0, .int 0, .int 0, .null, .int 0, .int 0]), .inl (X.2.2 0, (4, .inl (fun _ => 0))), .inl (X.2.2 0, (4, .inl (fun _ => 0))), .inl (X.2.2 0, (256, .inl (fun _ => 0))), .inl (X.2.2 0, (64, .inl (fun _ => 0))), .inl (X.2.2 0, (75, .inl (fun _ => 0))), .inl (X.2.2 0, (64, .inl (fun _ => 0))), .inl (X.2.2 0, (64, .inl (fun _ => 0))), .inl (X.2.2 0, (64, .inl (fun _ => 0))), .inl (X.2.2 0, (64, .inl (fun _ => 0))), .inl (X.2.2 0, (64, .inl (fun _ => 0))), .inl (X.2.2 0, (8, .inl (fun _ => 0))), .inl (X.2.2 0, (8, .inl (fun _ => 0))), .inl (X.2.2 0, (64, .inl (fun _ => 0))), .inl (X.2.2 0, (64, .inl (fun _ => 0))), .inl (X.2.2 0, (64, .inl (fun _ => 0))), .inl (X.2.2 2, (64, .inl (fun _ => 0))), .inl (X.2.2 0, (64, .inl (fun _ => 0))), .inl (X.2.2 0, (64, .inl (fun _ => 0))), .inl (X.2.2 0, (5, .inl (fun _ => 0))), .inl (X.2.2 0, (5, .inl (fun _ => 0))), .inl (X.2.2 2, (64, .inl (fun _ => 0)))] H locs 21 := hM
  refine W.widen (k := 21) (n := 1197) (Nat.le_refl _) (Nat.le_refl _) ?_
  refine W.eq (g2 := F0 m 171 ls [.ref (a + 21), .ref a]) rfl ?_
  refine k_put (i := 0) (ci := 8) (k := 33) (ty := (.array .boolean)) (fs := [.ref (a + 1), .ref (a + 2), .ref (a + 3), .ref (a + 4), .int 0, .ref (a + 5), .int 0, .ref (a + 6), .ref (a + 7), .ref (a + 8), .ref (a + 9), .ref (a + 10), .int 0, .ref (a + 11), .ref (a + 12), .ref (a + 13), .ref (a + 14), .ref (a + 15), .ref (a + 16), .int (-1), .ref (a + 17), .int 0, .int 0, .int 0, .int 0, .ref (a + 18), .int 0, .ref (a + 19), .ref (a + 20), .int 0, .int 0, .int 0, .int 0, .null, .int 0, .int 0]) A hM hnm rfl rfl iwX8 tyX8 tyX8_ok nmX8 (by decide) rfl pf_X8_75 (by decide +kernel) rfl rfl (Nat.le_of_ble_eq_true rfl) dX8_init_171 (fun H locs hM => ?_)
  have hM : cM X s a [.inr (8, [.ref (a + 1), .ref (a + 2), .ref (a + 3), .ref (a + 4), .int 0, .ref (a + 5), .int 0, .ref (a + 6), .ref (a + 7), .ref (a + 8), .ref (a + 9), .ref (a + 10), .int 0, .ref (a + 11), .ref (a + 12), .ref (a + 13), .ref (a + 14), .ref (a + 15), .ref (a + 16), .int (-1), .ref (a + 17), .int 0, .int 0, .int 0, .int 0, .ref (a + 18), .int 0, .ref (a + 19), .ref (a + 20), .int 0, .int 0, .int 0, .int 0, .ref (a + 21), .int 0, .int 0]), .inl (X.2.2 0, (4, .inl (fun _ => 0))), .inl (X.2.2 0, (4, .inl (fun _ => 0))), .inl (X.2.2 0, (256, .inl (fun _ => 0))), .inl (X.2.2 0, (64, .inl (fun _ => 0))), .inl (X.2.2 0, (75, .inl (fun _ => 0))), .inl (X.2.2 0, (64, .inl (fun _ => 0))), .inl (X.2.2 0, (64, .inl (fun _ => 0))), .inl (X.2.2 0, (64, .inl (fun _ => 0))), .inl (X.2.2 0, (64, .inl (fun _ => 0))), .inl (X.2.2 0, (64, .inl (fun _ => 0))), .inl (X.2.2 0, (8, .inl (fun _ => 0))), .inl (X.2.2 0, (8, .inl (fun _ => 0))), .inl (X.2.2 0, (64, .inl (fun _ => 0))), .inl (X.2.2 0, (64, .inl (fun _ => 0))), .inl (X.2.2 0, (64, .inl (fun _ => 0))), .inl (X.2.2 2, (64, .inl (fun _ => 0))), .inl (X.2.2 0, (64, .inl (fun _ => 0))), .inl (X.2.2 0, (64, .inl (fun _ => 0))), .inl (X.2.2 0, (5, .inl (fun _ => 0))), .inl (X.2.2 0, (5, .inl (fun _ => 0))), .inl (X.2.2 2, (64, .inl (fun _ => 0)))] H locs 21 := hM
  refine lv_iconst (v := 0) A.1 A.2.1 dX8_init_174 (by decide) ?_
  refine lv_istore_n (lv' := [(1, .int 0), (0, .ref a)]) A.1 A.2.1 dX8_init_175 rfl hl (by decide) rfl (fun ls hl => ?_)
  refine lv_iload_n A.1 A.2.1 dX8_init_176 rfl (lv_at hl 0 rfl) ?_
  refine lv_iconst (v := 4) A.1 A.2.1 dX8_init_177 (by decide) ?_
  refine lv_icmp_ge (tgt := 194) A.1 A.2.1 dX8_init_178 (by decide) (fun h => absurd h (by decide)) (fun _ => ?_)
  refine W.eq (g2 := F0 m 181 ls []) rfl ?_
  refine lv_aload_n A.1 A.2.1 dX8_init_181 rfl (lv_at hl 1 rfl) ?_
  refine k_get (i := 0) (ci := 8) (k := 0) (fs := [.ref (a + 1), .ref (a + 2), .ref (a + 3), .ref (a + 4), .int 0, .ref (a + 5), .int 0, .ref (a + 6), .ref (a + 7), .ref (a + 8), .ref (a + 9), .ref (a + 10), .int 0, .ref (a + 11), .ref (a + 12), .ref (a + 13), .ref (a + 14), .ref (a + 15), .ref (a + 16), .int (-1), .ref (a + 17), .int 0, .int 0, .int 0, .int 0, .ref (a + 18), .int 0, .ref (a + 19), .ref (a + 20), .int 0, .int 0, .int 0, .int 0, .ref (a + 21), .int 0, .int 0]) (v := .ref (a + 1)) A hM rfl rfl iwX8 (by decide) rfl pf_X8_7 rfl dX8_init_182 ?_
  refine lv_iload_n A.1 A.2.1 dX8_init_185 rfl (lv_at hl 0 rfl) ?_
  refine lv_iconst (v := -1) A.1 A.2.1 dX8_init_186 (by decide) ?_
  refine k_ist (i := 1) (N := 4) A hM rfl (by unfold vp_in; decide) dX8_init_187 (fun H locs hM => ?_)
  have hM : cM X s a [.inr (8, [.ref (a + 1), .ref (a + 2), .ref (a + 3), .ref (a + 4), .int 0, .ref (a + 5), .int 0, .ref (a + 6), .ref (a + 7), .ref (a + 8), .ref (a + 9), .ref (a + 10), .int 0, .ref (a + 11), .ref (a + 12), .ref (a + 13), .ref (a + 14), .ref (a + 15), .ref (a + 16), .int (-1), .ref (a + 17), .int 0, .int 0, .int 0, .int 0, .ref (a + 18), .int 0, .ref (a + 19), .ref (a + 20), .int 0, .int 0, .int 0, .int 0, .ref (a + 21), .int 0, .int 0]), .inl (X.2.2 0, (4, .inl (upd (fun _ => 0) 0 (-1)))), .inl (X.2.2 0, (4, .inl (fun _ => 0))), .inl (X.2.2 0, (256, .inl (fun _ => 0))), .inl (X.2.2 0, (64, .inl (fun _ => 0))), .inl (X.2.2 0, (75, .inl (fun _ => 0))), .inl (X.2.2 0, (64, .inl (fun _ => 0))), .inl (X.2.2 0, (64, .inl (fun _ => 0))), .inl (X.2.2 0, (64, .inl (fun _ => 0))), .inl (X.2.2 0, (64, .inl (fun _ => 0))), .inl (X.2.2 0, (64, .inl (fun _ => 0))), .inl (X.2.2 0, (8, .inl (fun _ => 0))), .inl (X.2.2 0, (8, .inl (fun _ => 0))), .inl (X.2.2 0, (64, .inl (fun _ => 0))), .inl (X.2.2 0, (64, .inl (fun _ => 0))), .inl (X.2.2 0, (64, .inl (fun _ => 0))), .inl (X.2.2 2, (64, .inl (fun _ => 0))), .inl (X.2.2 0, (64, .inl (fun _ => 0))), .inl (X.2.2 0, (64, .inl (fun _ => 0))), .inl (X.2.2 0, (5, .inl (fun _ => 0))), .inl (X.2.2 0, (5, .inl (fun _ => 0))), .inl (X.2.2 2, (64, .inl (fun _ => 0)))] H locs 21 := hM
  refine lv_iinc (v := 1) (lv' := [(1, .int 1), (0, .ref a)]) A.1 A.2.1 dX8_init_188 hl (k := 0) rfl (by decide) (by decide) rfl (fun ls hl => ?_)
  refine lv_goto (tgt := 176) A.1 A.2.1 dX8_init_191 (by decide) ?_
  refine lv_iload_n A.1 A.2.1 dX8_init_176 rfl (lv_at hl 0 rfl) ?_
  refine lv_iconst (v := 4) A.1 A.2.1 dX8_init_177 (by decide) ?_
  refine lv_icmp_ge (tgt := 194) A.1 A.2.1 dX8_init_178 (by decide) (fun h => absurd h (by decide)) (fun _ => ?_)
  refine W.eq (g2 := F0 m 181 ls []) rfl ?_
  refine lv_aload_n A.1 A.2.1 dX8_init_181 rfl (lv_at hl 1 rfl) ?_
  refine k_get (i := 0) (ci := 8) (k := 0) (fs := [.ref (a + 1), .ref (a + 2), .ref (a + 3), .ref (a + 4), .int 0, .ref (a + 5), .int 0, .ref (a + 6), .ref (a + 7), .ref (a + 8), .ref (a + 9), .ref (a + 10), .int 0, .ref (a + 11), .ref (a + 12), .ref (a + 13), .ref (a + 14), .ref (a + 15), .ref (a + 16), .int (-1), .ref (a + 17), .int 0, .int 0, .int 0, .int 0, .ref (a + 18), .int 0, .ref (a + 19), .ref (a + 20), .int 0, .int 0, .int 0, .int 0, .ref (a + 21), .int 0, .int 0]) (v := .ref (a + 1)) A hM rfl rfl iwX8 (by decide) rfl pf_X8_7 rfl dX8_init_182 ?_
  refine lv_iload_n A.1 A.2.1 dX8_init_185 rfl (lv_at hl 0 rfl) ?_
  refine lv_iconst (v := -1) A.1 A.2.1 dX8_init_186 (by decide) ?_
  refine k_ist (i := 1) (N := 4) A hM rfl (by unfold vp_in; decide) dX8_init_187 (fun H locs hM => ?_)
  have hM : cM X s a [.inr (8, [.ref (a + 1), .ref (a + 2), .ref (a + 3), .ref (a + 4), .int 0, .ref (a + 5), .int 0, .ref (a + 6), .ref (a + 7), .ref (a + 8), .ref (a + 9), .ref (a + 10), .int 0, .ref (a + 11), .ref (a + 12), .ref (a + 13), .ref (a + 14), .ref (a + 15), .ref (a + 16), .int (-1), .ref (a + 17), .int 0, .int 0, .int 0, .int 0, .ref (a + 18), .int 0, .ref (a + 19), .ref (a + 20), .int 0, .int 0, .int 0, .int 0, .ref (a + 21), .int 0, .int 0]), .inl (X.2.2 0, (4, .inl (upd (upd (fun _ => 0) 0 (-1)) 1 (-1)))), .inl (X.2.2 0, (4, .inl (fun _ => 0))), .inl (X.2.2 0, (256, .inl (fun _ => 0))), .inl (X.2.2 0, (64, .inl (fun _ => 0))), .inl (X.2.2 0, (75, .inl (fun _ => 0))), .inl (X.2.2 0, (64, .inl (fun _ => 0))), .inl (X.2.2 0, (64, .inl (fun _ => 0))), .inl (X.2.2 0, (64, .inl (fun _ => 0))), .inl (X.2.2 0, (64, .inl (fun _ => 0))), .inl (X.2.2 0, (64, .inl (fun _ => 0))), .inl (X.2.2 0, (8, .inl (fun _ => 0))), .inl (X.2.2 0, (8, .inl (fun _ => 0))), .inl (X.2.2 0, (64, .inl (fun _ => 0))), .inl (X.2.2 0, (64, .inl (fun _ => 0))), .inl (X.2.2 0, (64, .inl (fun _ => 0))), .inl (X.2.2 2, (64, .inl (fun _ => 0))), .inl (X.2.2 0, (64, .inl (fun _ => 0))), .inl (X.2.2 0, (64, .inl (fun _ => 0))), .inl (X.2.2 0, (5, .inl (fun _ => 0))), .inl (X.2.2 0, (5, .inl (fun _ => 0))), .inl (X.2.2 2, (64, .inl (fun _ => 0)))] H locs 21 := hM
  refine lv_iinc (v := 2) (lv' := [(1, .int 2), (0, .ref a)]) A.1 A.2.1 dX8_init_188 hl (k := 0) rfl (by decide) (by decide) rfl (fun ls hl => ?_)
  refine lv_goto (tgt := 176) A.1 A.2.1 dX8_init_191 (by decide) ?_
  refine lv_iload_n A.1 A.2.1 dX8_init_176 rfl (lv_at hl 0 rfl) ?_
  refine lv_iconst (v := 4) A.1 A.2.1 dX8_init_177 (by decide) ?_
  refine lv_icmp_ge (tgt := 194) A.1 A.2.1 dX8_init_178 (by decide) (fun h => absurd h (by decide)) (fun _ => ?_)
  refine W.eq (g2 := F0 m 181 ls []) rfl ?_
  refine lv_aload_n A.1 A.2.1 dX8_init_181 rfl (lv_at hl 1 rfl) ?_
  refine k_get (i := 0) (ci := 8) (k := 0) (fs := [.ref (a + 1), .ref (a + 2), .ref (a + 3), .ref (a + 4), .int 0, .ref (a + 5), .int 0, .ref (a + 6), .ref (a + 7), .ref (a + 8), .ref (a + 9), .ref (a + 10), .int 0, .ref (a + 11), .ref (a + 12), .ref (a + 13), .ref (a + 14), .ref (a + 15), .ref (a + 16), .int (-1), .ref (a + 17), .int 0, .int 0, .int 0, .int 0, .ref (a + 18), .int 0, .ref (a + 19), .ref (a + 20), .int 0, .int 0, .int 0, .int 0, .ref (a + 21), .int 0, .int 0]) (v := .ref (a + 1)) A hM rfl rfl iwX8 (by decide) rfl pf_X8_7 rfl dX8_init_182 ?_
  refine lv_iload_n A.1 A.2.1 dX8_init_185 rfl (lv_at hl 0 rfl) ?_
  refine lv_iconst (v := -1) A.1 A.2.1 dX8_init_186 (by decide) ?_
  refine k_ist (i := 1) (N := 4) A hM rfl (by unfold vp_in; decide) dX8_init_187 (fun H locs hM => ?_)
  have hM : cM X s a [.inr (8, [.ref (a + 1), .ref (a + 2), .ref (a + 3), .ref (a + 4), .int 0, .ref (a + 5), .int 0, .ref (a + 6), .ref (a + 7), .ref (a + 8), .ref (a + 9), .ref (a + 10), .int 0, .ref (a + 11), .ref (a + 12), .ref (a + 13), .ref (a + 14), .ref (a + 15), .ref (a + 16), .int (-1), .ref (a + 17), .int 0, .int 0, .int 0, .int 0, .ref (a + 18), .int 0, .ref (a + 19), .ref (a + 20), .int 0, .int 0, .int 0, .int 0, .ref (a + 21), .int 0, .int 0]), .inl (X.2.2 0, (4, .inl (upd (upd (upd (fun _ => 0) 0 (-1)) 1 (-1)) 2 (-1)))), .inl (X.2.2 0, (4, .inl (fun _ => 0))), .inl (X.2.2 0, (256, .inl (fun _ => 0))), .inl (X.2.2 0, (64, .inl (fun _ => 0))), .inl (X.2.2 0, (75, .inl (fun _ => 0))), .inl (X.2.2 0, (64, .inl (fun _ => 0))), .inl (X.2.2 0, (64, .inl (fun _ => 0))), .inl (X.2.2 0, (64, .inl (fun _ => 0))), .inl (X.2.2 0, (64, .inl (fun _ => 0))), .inl (X.2.2 0, (64, .inl (fun _ => 0))), .inl (X.2.2 0, (8, .inl (fun _ => 0))), .inl (X.2.2 0, (8, .inl (fun _ => 0))), .inl (X.2.2 0, (64, .inl (fun _ => 0))), .inl (X.2.2 0, (64, .inl (fun _ => 0))), .inl (X.2.2 0, (64, .inl (fun _ => 0))), .inl (X.2.2 2, (64, .inl (fun _ => 0))), .inl (X.2.2 0, (64, .inl (fun _ => 0))), .inl (X.2.2 0, (64, .inl (fun _ => 0))), .inl (X.2.2 0, (5, .inl (fun _ => 0))), .inl (X.2.2 0, (5, .inl (fun _ => 0))), .inl (X.2.2 2, (64, .inl (fun _ => 0)))] H locs 21 := hM
  refine lv_iinc (v := 3) (lv' := [(1, .int 3), (0, .ref a)]) A.1 A.2.1 dX8_init_188 hl (k := 0) rfl (by decide) (by decide) rfl (fun ls hl => ?_)
  refine lv_goto (tgt := 176) A.1 A.2.1 dX8_init_191 (by decide) ?_
  refine lv_iload_n A.1 A.2.1 dX8_init_176 rfl (lv_at hl 0 rfl) ?_
  refine lv_iconst (v := 4) A.1 A.2.1 dX8_init_177 (by decide) ?_
  refine lv_icmp_ge (tgt := 194) A.1 A.2.1 dX8_init_178 (by decide) (fun h => absurd h (by decide)) (fun _ => ?_)
  refine W.eq (g2 := F0 m 181 ls []) rfl ?_
  refine lv_aload_n A.1 A.2.1 dX8_init_181 rfl (lv_at hl 1 rfl) ?_
  refine k_get (i := 0) (ci := 8) (k := 0) (fs := [.ref (a + 1), .ref (a + 2), .ref (a + 3), .ref (a + 4), .int 0, .ref (a + 5), .int 0, .ref (a + 6), .ref (a + 7), .ref (a + 8), .ref (a + 9), .ref (a + 10), .int 0, .ref (a + 11), .ref (a + 12), .ref (a + 13), .ref (a + 14), .ref (a + 15), .ref (a + 16), .int (-1), .ref (a + 17), .int 0, .int 0, .int 0, .int 0, .ref (a + 18), .int 0, .ref (a + 19), .ref (a + 20), .int 0, .int 0, .int 0, .int 0, .ref (a + 21), .int 0, .int 0]) (v := .ref (a + 1)) A hM rfl rfl iwX8 (by decide) rfl pf_X8_7 rfl dX8_init_182 ?_
  refine lv_iload_n A.1 A.2.1 dX8_init_185 rfl (lv_at hl 0 rfl) ?_
  refine lv_iconst (v := -1) A.1 A.2.1 dX8_init_186 (by decide) ?_
  refine k_ist (i := 1) (N := 4) A hM rfl (by unfold vp_in; decide) dX8_init_187 (fun H locs hM => ?_)
  have hM : cM X s a [.inr (8, [.ref (a + 1), .ref (a + 2), .ref (a + 3), .ref (a + 4), .int 0, .ref (a + 5), .int 0, .ref (a + 6), .ref (a + 7), .ref (a + 8), .ref (a + 9), .ref (a + 10), .int 0, .ref (a + 11), .ref (a + 12), .ref (a + 13), .ref (a + 14), .ref (a + 15), .ref (a + 16), .int (-1), .ref (a + 17), .int 0, .int 0, .int 0, .int 0, .ref (a + 18), .int 0, .ref (a + 19), .ref (a + 20), .int 0, .int 0, .int 0, .int 0, .ref (a + 21), .int 0, .int 0]), .inl (X.2.2 0, (4, .inl (upd (upd (upd (upd (fun _ => 0) 0 (-1)) 1 (-1)) 2 (-1)) 3 (-1)))), .inl (X.2.2 0, (4, .inl (fun _ => 0))), .inl (X.2.2 0, (256, .inl (fun _ => 0))), .inl (X.2.2 0, (64, .inl (fun _ => 0))), .inl (X.2.2 0, (75, .inl (fun _ => 0))), .inl (X.2.2 0, (64, .inl (fun _ => 0))), .inl (X.2.2 0, (64, .inl (fun _ => 0))), .inl (X.2.2 0, (64, .inl (fun _ => 0))), .inl (X.2.2 0, (64, .inl (fun _ => 0))), .inl (X.2.2 0, (64, .inl (fun _ => 0))), .inl (X.2.2 0, (8, .inl (fun _ => 0))), .inl (X.2.2 0, (8, .inl (fun _ => 0))), .inl (X.2.2 0, (64, .inl (fun _ => 0))), .inl (X.2.2 0, (64, .inl (fun _ => 0))), .inl (X.2.2 0, (64, .inl (fun _ => 0))), .inl (X.2.2 2, (64, .inl (fun _ => 0))), .inl (X.2.2 0, (64, .inl (fun _ => 0))), .inl (X.2.2 0, (64, .inl (fun _ => 0))), .inl (X.2.2 0, (5, .inl (fun _ => 0))), .inl (X.2.2 0, (5, .inl (fun _ => 0))), .inl (X.2.2 2, (64, .inl (fun _ => 0)))] H locs 21 := hM
  refine lv_iinc (v := 4) (lv' := [(1, .int 4), (0, .ref a)]) A.1 A.2.1 dX8_init_188 hl (k := 0) rfl (by decide) (by decide) rfl (fun ls hl => ?_)
  refine lv_goto (tgt := 176) A.1 A.2.1 dX8_init_191 (by decide) ?_
  refine lv_iload_n A.1 A.2.1 dX8_init_176 rfl (lv_at hl 0 rfl) ?_
  refine lv_iconst (v := 4) A.1 A.2.1 dX8_init_177 (by decide) ?_
  refine lv_icmp_ge (tgt := 194) A.1 A.2.1 dX8_init_178 (by decide) (fun _ => ?_) (fun h => absurd (by decide) h)
  refine W.eq (g2 := F0 m 194 ls []) rfl ?_
  have hM := k_normI (i := 1) (g := fun _ => -1) hM rfl (fun j hj => by
    rcases (show j = 0 ∨ j = 1 ∨ j = 2 ∨ j = 3 by omega) with rfl | rfl | rfl | rfl <;> rfl)
  have hM : cM X s a [.inr (8, [.ref (a + 1), .ref (a + 2), .ref (a + 3), .ref (a + 4), .int 0, .ref (a + 5), .int 0, .ref (a + 6), .ref (a + 7), .ref (a + 8), .ref (a + 9), .ref (a + 10), .int 0, .ref (a + 11), .ref (a + 12), .ref (a + 13), .ref (a + 14), .ref (a + 15), .ref (a + 16), .int (-1), .ref (a + 17), .int 0, .int 0, .int 0, .int 0, .ref (a + 18), .int 0, .ref (a + 19), .ref (a + 20), .int 0, .int 0, .int 0, .int 0, .ref (a + 21), .int 0, .int 0]), .inl (X.2.2 0, (4, .inl (fun _ => -1))), .inl (X.2.2 0, (4, .inl (fun _ => 0))), .inl (X.2.2 0, (256, .inl (fun _ => 0))), .inl (X.2.2 0, (64, .inl (fun _ => 0))), .inl (X.2.2 0, (75, .inl (fun _ => 0))), .inl (X.2.2 0, (64, .inl (fun _ => 0))), .inl (X.2.2 0, (64, .inl (fun _ => 0))), .inl (X.2.2 0, (64, .inl (fun _ => 0))), .inl (X.2.2 0, (64, .inl (fun _ => 0))), .inl (X.2.2 0, (64, .inl (fun _ => 0))), .inl (X.2.2 0, (8, .inl (fun _ => 0))), .inl (X.2.2 0, (8, .inl (fun _ => 0))), .inl (X.2.2 0, (64, .inl (fun _ => 0))), .inl (X.2.2 0, (64, .inl (fun _ => 0))), .inl (X.2.2 0, (64, .inl (fun _ => 0))), .inl (X.2.2 2, (64, .inl (fun _ => 0))), .inl (X.2.2 0, (64, .inl (fun _ => 0))), .inl (X.2.2 0, (64, .inl (fun _ => 0))), .inl (X.2.2 0, (5, .inl (fun _ => 0))), .inl (X.2.2 0, (5, .inl (fun _ => 0))), .inl (X.2.2 2, (64, .inl (fun _ => 0)))] H locs 21 := hM
  exact k_ret A hM hr hlk rfl dX8_init_194
set_option maxRecDepth 100000 in
theorem ol_X7 : Cond.methodLink RX7 1 objectInit ∈ gW := gW_t 19 rfl rfl
set_option maxRecDepth 100000 in
theorem cl_X7_7 : Cond.classLink RX7 7 RX0 ∈ gW := gW_t 22 rfl rfl
set_option maxRecDepth 100000 in
theorem ib_X0 : Cond.instantiable RX0 5 ∈ gW := gW_t 23 rfl rfl
set_option maxRecDepth 100000 in
theorem in_X0 : Cond.initialized RX0 ∈ gW := gW_t 2 rfl rfl
set_option maxRecDepth 100000 in
theorem ml_X7_9 : c_ml RX7 9 yX0_init cX0_init 1 0 := ⟨Or.inr ⟨"SnowPaths", gN_t 24 rfl rfl⟩, in_X0, gW_t 26 rfl rfl, by decide +kernel, rfl, gW_t 25 rfl rfl⟩
set_option maxRecDepth 100000 in
theorem pf_X7_10 : Cond.fieldLink RX7 10 RX7 (TX7 0).2.1 (TX7 0).2.2.1 ∈ gW := gW_t 235 rfl rfl
set_option maxRecDepth 100000 in
theorem cl_X7_16 : Cond.classLink RX7 16 RX1 ∈ gW := gW_t 51 rfl rfl
set_option maxRecDepth 100000 in
theorem ib_X1 : Cond.instantiable RX1 5 ∈ gW := gW_t 52 rfl rfl
set_option maxRecDepth 100000 in
theorem in_X1 : Cond.initialized RX1 ∈ gW := gW_t 3 rfl rfl
set_option maxRecDepth 100000 in
theorem ml_X7_18 : c_ml RX7 18 yX1_init cX1_init 1 0 := ⟨Or.inr ⟨"SnowPaths", gN_t 53 rfl rfl⟩, in_X1, gW_t 55 rfl rfl, by decide +kernel, rfl, gW_t 54 rfl rfl⟩
set_option maxRecDepth 100000 in
theorem pf_X7_19 : Cond.fieldLink RX7 19 RX7 (TX7 1).2.1 (TX7 1).2.2.1 ∈ gW := gW_t 236 rfl rfl
set_option maxRecDepth 100000 in
theorem cl_X7_23 : Cond.classLink RX7 23 RX6 ∈ gW := gW_t 78 rfl rfl
set_option maxRecDepth 100000 in
theorem ib_X6 : Cond.instantiable RX6 3 ∈ gW := gW_t 79 rfl rfl
set_option maxRecDepth 100000 in
theorem in_X6 : Cond.initialized RX6 ∈ gW := gW_t 4 rfl rfl
set_option maxRecDepth 100000 in
theorem ml_X7_25 : c_ml RX7 25 yX6_init cX6_init 1 0 := ⟨Or.inr ⟨"SnowPaths", gN_t 80 rfl rfl⟩, in_X6, gW_t 82 rfl rfl, by decide +kernel, rfl, gW_t 81 rfl rfl⟩
set_option maxRecDepth 100000 in
theorem pf_X7_26 : Cond.fieldLink RX7 26 RX7 (TX7 2).2.1 (TX7 2).2.2.1 ∈ gW := gW_t 237 rfl rfl
set_option maxRecDepth 100000 in
theorem cl_X7_30 : Cond.classLink RX7 30 RX4 ∈ gW := gW_t 100 rfl rfl
set_option maxRecDepth 100000 in
theorem ib_X4 : Cond.instantiable RX4 5 ∈ gW := gW_t 101 rfl rfl
set_option maxRecDepth 100000 in
theorem in_X4 : Cond.initialized RX4 ∈ gW := gW_t 5 rfl rfl
set_option maxRecDepth 100000 in
theorem ml_X7_32 : c_ml RX7 32 yX4_init cX4_init 1 0 := ⟨Or.inr ⟨"SnowPaths", gN_t 102 rfl rfl⟩, in_X4, gW_t 104 rfl rfl, by decide +kernel, rfl, gW_t 103 rfl rfl⟩
set_option maxRecDepth 100000 in
theorem pf_X7_33 : Cond.fieldLink RX7 33 RX7 (TX7 3).2.1 (TX7 3).2.2.1 ∈ gW := gW_t 238 rfl rfl
set_option maxRecDepth 100000 in
theorem cl_X7_37 : Cond.classLink RX7 37 RX3 ∈ gW := gW_t 127 rfl rfl
set_option maxRecDepth 100000 in
theorem ml_X7_39 : c_ml RX7 39 yX3_init cX3_init 3 2 := ⟨Or.inr ⟨"SnowPaths", gN_t 129 rfl rfl⟩, in_X3, gW_t 131 rfl rfl, by decide +kernel, rfl, gW_t 130 rfl rfl⟩
set_option maxRecDepth 100000 in
theorem pf_X7_42 : Cond.fieldLink RX7 42 RX7 (TX7 4).2.1 (TX7 4).2.2.1 ∈ gW := gW_t 239 rfl rfl
set_option maxRecDepth 100000 in
theorem cl_X7_46 : Cond.classLink RX7 46 RX2 ∈ gW := gW_t 167 rfl rfl
set_option maxRecDepth 100000 in
theorem ib_X2 : Cond.instantiable RX2 10 ∈ gW := gW_t 168 rfl rfl
set_option maxRecDepth 100000 in
theorem in_X2 : Cond.initialized RX2 ∈ gW := gW_t 7 rfl rfl
set_option maxRecDepth 100000 in
theorem ml_X7_48 : c_ml RX7 48 yX2_init cX2_init 5 3 := ⟨Or.inr ⟨"SnowPaths", gN_t 169 rfl rfl⟩, in_X2, gW_t 171 rfl rfl, by decide +kernel, rfl, gW_t 170 rfl rfl⟩
set_option maxRecDepth 100000 in
theorem pf_X7_51 : Cond.fieldLink RX7 51 RX7 (TX7 5).2.1 (TX7 5).2.2.1 ∈ gW := gW_t 240 rfl rfl
set_option maxRecDepth 100000 in
theorem cl_X7_55 : Cond.classLink RX7 55 RX5 ∈ gW := gW_t 213 rfl rfl
set_option maxRecDepth 100000 in
theorem pf_X7_57 : Cond.fieldLink RX7 57 RX7 (TX7 6).2.1 (TX7 6).2.2.1 ∈ gW := gW_t 241 rfl rfl
set_option maxRecDepth 100000 in
theorem pf_X7_61 : Cond.fieldLink RX7 61 RX7 (TX7 7).2.1 (TX7 7).2.2.1 ∈ gW := gW_t 242 rfl rfl
set_option maxRecDepth 100000 in
theorem pf_X7_65 : Cond.fieldLink RX7 65 RX7 (TX7 8).2.1 (TX7 8).2.2.1 ∈ gW := gW_t 243 rfl rfl
set_option maxRecDepth 100000 in
theorem pf_X7_68 : Cond.fieldLink RX7 68 RX7 (TX7 9).2.1 (TX7 9).2.2.1 ∈ gW := gW_t 244 rfl rfl
set_option maxRecDepth 100000 in
theorem pf_X7_71 : Cond.fieldLink RX7 71 RX7 (TX7 10).2.1 (TX7 10).2.2.1 ∈ gW := gW_t 245 rfl rfl
set_option maxRecDepth 100000 in
theorem pf_X7_74 : Cond.fieldLink RX7 74 RX7 (TX7 11).2.1 (TX7 11).2.2.1 ∈ gW := gW_t 246 rfl rfl
set_option maxRecDepth 100000 in
theorem ib_X5 : Cond.instantiable RX5 3 ∈ gW := gW_t 215 rfl rfl
set_option maxRecDepth 100000 in
theorem in_X5 : Cond.initialized RX5 ∈ gW := gW_t 8 rfl rfl
set_option maxRecDepth 100000 in
theorem ml_X7_77 : c_ml RX7 77 yX5_init cX5_init 1 0 := ⟨Or.inr ⟨"SnowPaths", gN_t 216 rfl rfl⟩, in_X5, gW_t 218 rfl rfl, by decide +kernel, rfl, gW_t 217 rfl rfl⟩
def finX7 (X : gX) (a : Nat) : List va_E := ((((((((((([.inr (7, [.ref (a + 1), .ref (a + 3), .ref (a + 9), .ref (a + 12), .ref (a + 16), .ref (a + 19), .ref (a + 42), .int 0, .int (-1), .int 0, .int (-1), .int 0])] ++ finX0 X (a + 1)) ++ finX1 X (a + 3)) ++ finX6 X (a + 9)) ++ finX4 X (a + 12)) ++ finX3 X (a + 16) (a + 1) (a + 12)) ++ finX2 X (a + 19) (a + 1) (a + 9) (a + 12)) ++ [.inl (X.2.2 4, 4, .inr (.inr (.inr (.inr (fun j => some (a + (43 + 2 * j)))))))]) ++ finX5 X (a + 43)) ++ finX5 X (a + 45)) ++ finX5 X (a + 47)) ++ finX5 X (a + 49))
set_option maxRecDepth 100000 in
set_option maxHeartbeats 4000000 in
theorem ctX7_init (X : gX) (a : Nat) : cC X yX7_init cX7_init 2 3 50 1844 [.ref a] a (.inr (7, [.null, .null, .null, .null, .null, .null, .null, .int 0, .int 0, .int 0, .int 0, .int 0])) (finX7 X a) := by
  refine k_met (by decide +kernel) rfl (Nat.le_of_ble_eq_true rfl) ?_
  intro p l e s m args below meth c ls A hKA hr hlk hnm hM hl
  have A : g_At X RX7 cX7_init 2 p s m args c := A
  have hl : lv_has ls 2 [(0, .ref a)] := hl
  generalize hH : s.heap = H at hM ⊢
  generalize hlo : ([] : List Loc) = locs at hM ⊢
  have hM : cM X s a [.inr (7, [.null, .null, .null, .null, .null, .null, .null, .int 0, .int 0, .int 0, .int 0, .int 0])] H locs 0 := hM
  refine lv_aload_n A.1 A.2.1 dX7_init_0 rfl (lv_at hl 0 rfl) ?_
  refine k_obj A hl.1 ol_X7 oi_i oi_c (Nat.le_of_ble_eq_true rfl) (Nat.le_of_ble_eq_true rfl) dX7_init_1 ?_
  refine W.eq (g2 := F0 m 4 ls []) rfl ?_
  refine lv_aload_n A.1 A.2.1 dX7_init_4 rfl (lv_at hl 0 rfl) ?_
  refine k_new (ci := 0) (fs := [.null, .int 0, .int 0, .long 0, .long 0]) A hM rfl iwX0 tyX0 tyX0_ok cl_X7_7 ib_X0 in_X0 dfX0 (Nat.le_of_ble_eq_true rfl) (Nat.le_of_ble_eq_true rfl) dX7_init_5 (fun H hM => ?_)
  have hM : cM X s a [.inr (7, [.null, .null, .null, .null, .null, .null, .null, .int 0, .int 0, .int 0, .int 0, .int 0]), .inr (0, [.null, .int 0, .int 0, .long 0, .long 0])] H locs 1 := hM
  refine W.eq (g2 := F0 m 8 ls [.ref (a + 1), .ref a]) rfl ?_
  refine lv_dup A.1 A.2.1 dX7_init_8 rfl ?_
  refine k_call (t := [.inr (7, [.null, .null, .null, .null, .null, .null, .null, .int 0, .int 0, .int 0, .int 0, .int 0])]) (D := .inr (0, [.null, .int 0, .int 0, .long 0, .long 0])) (As := []) (rest := [.ref (a + 1), .ref a]) A hKA hl.1 hM ml_X7_9 (ctX0_init X (a + 1)) rfl ⟨Nat.le_of_ble_eq_true rfl, Nat.le_of_ble_eq_true rfl⟩ ⟨Nat.le_of_ble_eq_true rfl, Nat.le_of_ble_eq_true rfl⟩ rfl (Nat.le_of_ble_eq_true rfl) rfl dX7_init_9 (fun H locs hM => ?_)
  have hM : cM X s a ([.inr (7, [.null, .null, .null, .null, .null, .null, .null, .int 0, .int 0, .int 0, .int 0, .int 0])] ++ finX0 X (a + 1)) H locs 2 := hM
  refine W.eq (g2 := F0 m 12 ls [.ref (a + 1), .ref a]) rfl ?_
  refine k_put (i := 0) (ci := 7) (k := 0) (ty := (.object "SnowPaths$Green")) (fs := [.null, .null, .null, .null, .null, .null, .null, .int 0, .int 0, .int 0, .int 0, .int 0]) A hM hnm rfl rfl iwX7 tyX7 tyX7_ok nmX7 (by decide) rfl pf_X7_10 (by decide +kernel) rfl rfl (Nat.le_of_ble_eq_true rfl) dX7_init_12 (fun H locs hM => ?_)
  have hM : cM X s a ([.inr (7, [.ref (a + 1), .null, .null, .null, .null, .null, .null, .int 0, .int 0, .int 0, .int 0, .int 0])] ++ finX0 X (a + 1)) H locs 2 := hM
  refine lv_aload_n A.1 A.2.1 dX7_init_15 rfl (lv_at hl 0 rfl) ?_
  refine k_new (ci := 1) (fs := [.null, .null, .null, .null, .null]) A hM rfl iwX1 tyX1 tyX1_ok cl_X7_16 ib_X1 in_X1 dfX1 (Nat.le_of_ble_eq_true rfl) (Nat.le_of_ble_eq_true rfl) dX7_init_16 (fun H hM => ?_)
  have hM : cM X s a (([.inr (7, [.ref (a + 1), .null, .null, .null, .null, .null, .null, .int 0, .int 0, .int 0, .int 0, .int 0])] ++ finX0 X (a + 1)) ++ [.inr (1, [.null, .null, .null, .null, .null])]) H locs 3 := hM
  refine W.eq (g2 := F0 m 19 ls [.ref (a + 3), .ref a]) rfl ?_
  refine lv_dup A.1 A.2.1 dX7_init_19 rfl ?_
  refine k_call (t := ([.inr (7, [.ref (a + 1), .null, .null, .null, .null, .null, .null, .int 0, .int 0, .int 0, .int 0, .int 0])] ++ finX0 X (a + 1))) (D := .inr (1, [.null, .null, .null, .null, .null])) (As := []) (rest := [.ref (a + 3), .ref a]) A hKA hl.1 hM ml_X7_18 (ctX1_init X (a + 3)) rfl ⟨Nat.le_of_ble_eq_true rfl, Nat.le_of_ble_eq_true rfl⟩ ⟨Nat.le_of_ble_eq_true rfl, Nat.le_of_ble_eq_true rfl⟩ rfl (Nat.le_of_ble_eq_true rfl) rfl dX7_init_20 (fun H locs hM => ?_)
  have hM : cM X s a (([.inr (7, [.ref (a + 1), .null, .null, .null, .null, .null, .null, .int 0, .int 0, .int 0, .int 0, .int 0])] ++ finX0 X (a + 1)) ++ finX1 X (a + 3)) H locs 8 := hM
  refine W.eq (g2 := F0 m 23 ls [.ref (a + 3), .ref a]) rfl ?_
  refine k_put (i := 0) (ci := 7) (k := 1) (ty := (.object "SnowPaths$Ground")) (fs := [.ref (a + 1), .null, .null, .null, .null, .null, .null, .int 0, .int 0, .int 0, .int 0, .int 0]) A hM hnm rfl rfl iwX7 tyX7 tyX7_ok nmX7 (by decide) rfl pf_X7_19 (by decide +kernel) rfl rfl (Nat.le_of_ble_eq_true rfl) dX7_init_23 (fun H locs hM => ?_)
  have hM : cM X s a (([.inr (7, [.ref (a + 1), .ref (a + 3), .null, .null, .null, .null, .null, .int 0, .int 0, .int 0, .int 0, .int 0])] ++ finX0 X (a + 1)) ++ finX1 X (a + 3)) H locs 8 := hM
  refine lv_aload_n A.1 A.2.1 dX7_init_26 rfl (lv_at hl 0 rfl) ?_
  refine k_new (ci := 6) (fs := [.null, .null, .int 0]) A hM rfl iwX6 tyX6 tyX6_ok cl_X7_23 ib_X6 in_X6 dfX6 (Nat.le_of_ble_eq_true rfl) (Nat.le_of_ble_eq_true rfl) dX7_init_27 (fun H hM => ?_)
  have hM : cM X s a ((([.inr (7, [.ref (a + 1), .ref (a + 3), .null, .null, .null, .null, .null, .int 0, .int 0, .int 0, .int 0, .int 0])] ++ finX0 X (a + 1)) ++ finX1 X (a + 3)) ++ [.inr (6, [.null, .null, .int 0])]) H locs 9 := hM
  refine W.eq (g2 := F0 m 30 ls [.ref (a + 9), .ref a]) rfl ?_
  refine lv_dup A.1 A.2.1 dX7_init_30 rfl ?_
  refine k_call (t := (([.inr (7, [.ref (a + 1), .ref (a + 3), .null, .null, .null, .null, .null, .int 0, .int 0, .int 0, .int 0, .int 0])] ++ finX0 X (a + 1)) ++ finX1 X (a + 3))) (D := .inr (6, [.null, .null, .int 0])) (As := []) (rest := [.ref (a + 9), .ref a]) A hKA hl.1 hM ml_X7_25 (ctX6_init X (a + 9)) rfl ⟨Nat.le_of_ble_eq_true rfl, Nat.le_of_ble_eq_true rfl⟩ ⟨Nat.le_of_ble_eq_true rfl, Nat.le_of_ble_eq_true rfl⟩ rfl (Nat.le_of_ble_eq_true rfl) rfl dX7_init_31 (fun H locs hM => ?_)
  have hM : cM X s a ((([.inr (7, [.ref (a + 1), .ref (a + 3), .null, .null, .null, .null, .null, .int 0, .int 0, .int 0, .int 0, .int 0])] ++ finX0 X (a + 1)) ++ finX1 X (a + 3)) ++ finX6 X (a + 9)) H locs 11 := hM
  refine W.eq (g2 := F0 m 34 ls [.ref (a + 9), .ref a]) rfl ?_
  refine k_put (i := 0) (ci := 7) (k := 2) (ty := (.object "SnowPaths$Walkers")) (fs := [.ref (a + 1), .ref (a + 3), .null, .null, .null, .null, .null, .int 0, .int 0, .int 0, .int 0, .int 0]) A hM hnm rfl rfl iwX7 tyX7 tyX7_ok nmX7 (by decide) rfl pf_X7_26 (by decide +kernel) rfl rfl (Nat.le_of_ble_eq_true rfl) dX7_init_34 (fun H locs hM => ?_)
  have hM : cM X s a ((([.inr (7, [.ref (a + 1), .ref (a + 3), .ref (a + 9), .null, .null, .null, .null, .int 0, .int 0, .int 0, .int 0, .int 0])] ++ finX0 X (a + 1)) ++ finX1 X (a + 3)) ++ finX6 X (a + 9)) H locs 11 := hM
  refine lv_aload_n A.1 A.2.1 dX7_init_37 rfl (lv_at hl 0 rfl) ?_
  refine k_new (ci := 4) (fs := [.null, .null, .null, .int 0, .long 0]) A hM rfl iwX4 tyX4 tyX4_ok cl_X7_30 ib_X4 in_X4 dfX4 (Nat.le_of_ble_eq_true rfl) (Nat.le_of_ble_eq_true rfl) dX7_init_38 (fun H hM => ?_)
  have hM : cM X s a (((([.inr (7, [.ref (a + 1), .ref (a + 3), .ref (a + 9), .null, .null, .null, .null, .int 0, .int 0, .int 0, .int 0, .int 0])] ++ finX0 X (a + 1)) ++ finX1 X (a + 3)) ++ finX6 X (a + 9)) ++ [.inr (4, [.null, .null, .null, .int 0, .long 0])]) H locs 12 := hM
  refine W.eq (g2 := F0 m 41 ls [.ref (a + 12), .ref a]) rfl ?_
  refine lv_dup A.1 A.2.1 dX7_init_41 rfl ?_
  refine k_call (t := ((([.inr (7, [.ref (a + 1), .ref (a + 3), .ref (a + 9), .null, .null, .null, .null, .int 0, .int 0, .int 0, .int 0, .int 0])] ++ finX0 X (a + 1)) ++ finX1 X (a + 3)) ++ finX6 X (a + 9))) (D := .inr (4, [.null, .null, .null, .int 0, .long 0])) (As := []) (rest := [.ref (a + 12), .ref a]) A hKA hl.1 hM ml_X7_32 (ctX4_init X (a + 12)) rfl ⟨Nat.le_of_ble_eq_true rfl, Nat.le_of_ble_eq_true rfl⟩ ⟨Nat.le_of_ble_eq_true rfl, Nat.le_of_ble_eq_true rfl⟩ rfl (Nat.le_of_ble_eq_true rfl) rfl dX7_init_42 (fun H locs hM => ?_)
  have hM : cM X s a (((([.inr (7, [.ref (a + 1), .ref (a + 3), .ref (a + 9), .null, .null, .null, .null, .int 0, .int 0, .int 0, .int 0, .int 0])] ++ finX0 X (a + 1)) ++ finX1 X (a + 3)) ++ finX6 X (a + 9)) ++ finX4 X (a + 12)) H locs 15 := hM
  refine W.eq (g2 := F0 m 45 ls [.ref (a + 12), .ref a]) rfl ?_
  refine k_put (i := 0) (ci := 7) (k := 3) (ty := (.object "SnowPaths$Route")) (fs := [.ref (a + 1), .ref (a + 3), .ref (a + 9), .null, .null, .null, .null, .int 0, .int 0, .int 0, .int 0, .int 0]) A hM hnm rfl rfl iwX7 tyX7 tyX7_ok nmX7 (by decide) rfl pf_X7_33 (by decide +kernel) rfl rfl (Nat.le_of_ble_eq_true rfl) dX7_init_45 (fun H locs hM => ?_)
  have hM : cM X s a (((([.inr (7, [.ref (a + 1), .ref (a + 3), .ref (a + 9), .ref (a + 12), .null, .null, .null, .int 0, .int 0, .int 0, .int 0, .int 0])] ++ finX0 X (a + 1)) ++ finX1 X (a + 3)) ++ finX6 X (a + 9)) ++ finX4 X (a + 12)) H locs 15 := hM
  refine lv_aload_n A.1 A.2.1 dX7_init_48 rfl (lv_at hl 0 rfl) ?_
  refine k_new (ci := 3) (fs := [.null, .null, .null, .null, .int 0, .int 0, .int 0, .int 0]) A hM rfl iwX3 tyX3 tyX3_ok cl_X7_37 ib_X3 in_X3 dfX3 (Nat.le_of_ble_eq_true rfl) (Nat.le_of_ble_eq_true rfl) dX7_init_49 (fun H hM => ?_)
  have hM : cM X s a ((((([.inr (7, [.ref (a + 1), .ref (a + 3), .ref (a + 9), .ref (a + 12), .null, .null, .null, .int 0, .int 0, .int 0, .int 0, .int 0])] ++ finX0 X (a + 1)) ++ finX1 X (a + 3)) ++ finX6 X (a + 9)) ++ finX4 X (a + 12)) ++ [.inr (3, [.null, .null, .null, .null, .int 0, .int 0, .int 0, .int 0])]) H locs 16 := hM
  refine W.eq (g2 := F0 m 52 ls [.ref (a + 16), .ref a]) rfl ?_
  refine lv_dup A.1 A.2.1 dX7_init_52 rfl ?_
  refine lv_aload_n A.1 A.2.1 dX7_init_53 rfl (lv_at hl 0 rfl) ?_
  refine k_get (i := 0) (ci := 7) (k := 0) (fs := [.ref (a + 1), .ref (a + 3), .ref (a + 9), .ref (a + 12), .null, .null, .null, .int 0, .int 0, .int 0, .int 0, .int 0]) (v := .ref (a + 1)) A hM rfl rfl iwX7 (by decide) rfl pf_X7_10 rfl dX7_init_54 ?_
  refine lv_aload_n A.1 A.2.1 dX7_init_57 rfl (lv_at hl 0 rfl) ?_
  refine k_get (i := 0) (ci := 7) (k := 3) (fs := [.ref (a + 1), .ref (a + 3), .ref (a + 9), .ref (a + 12), .null, .null, .null, .int 0, .int 0, .int 0, .int 0, .int 0]) (v := .ref (a + 12)) A hM rfl rfl iwX7 (by decide) rfl pf_X7_33 rfl dX7_init_58 ?_
  refine k_call (t := (((([.inr (7, [.ref (a + 1), .ref (a + 3), .ref (a + 9), .ref (a + 12), .null, .null, .null, .int 0, .int 0, .int 0, .int 0, .int 0])] ++ finX0 X (a + 1)) ++ finX1 X (a + 3)) ++ finX6 X (a + 9)) ++ finX4 X (a + 12))) (D := .inr (3, [.null, .null, .null, .null, .int 0, .int 0, .int 0, .int 0])) (As := [.ref (a + 1), .ref (a + 12)]) (rest := [.ref (a + 16), .ref a]) A hKA hl.1 hM ml_X7_39 (ctX3_init X (a + 16) (a + 1) (a + 12)) rfl ⟨Nat.le_of_ble_eq_true rfl, Nat.le_of_ble_eq_true rfl⟩ ⟨Nat.le_of_ble_eq_true rfl, Nat.le_of_ble_eq_true rfl⟩ rfl (Nat.le_of_ble_eq_true rfl) rfl dX7_init_61 (fun H locs hM => ?_)
  have hM : cM X s a ((((([.inr (7, [.ref (a + 1), .ref (a + 3), .ref (a + 9), .ref (a + 12), .null, .null, .null, .int 0, .int 0, .int 0, .int 0, .int 0])] ++ finX0 X (a + 1)) ++ finX1 X (a + 3)) ++ finX6 X (a + 9)) ++ finX4 X (a + 12)) ++ finX3 X (a + 16) (a + 1) (a + 12)) H locs 18 := hM
  refine W.eq (g2 := F0 m 64 ls [.ref (a + 16), .ref a]) rfl ?_
  refine k_put (i := 0) (ci := 7) (k := 4) (ty := (.object "SnowPaths$Outing")) (fs := [.ref (a + 1), .ref (a + 3), .ref (a + 9), .ref (a + 12), .null, .null, .null, .int 0, .int 0, .int 0, .int 0, .int 0]) A hM hnm rfl rfl iwX7 tyX7 tyX7_ok nmX7 (by decide) rfl pf_X7_42 (by decide +kernel) rfl rfl (Nat.le_of_ble_eq_true rfl) dX7_init_64 (fun H locs hM => ?_)
  have hM : cM X s a ((((([.inr (7, [.ref (a + 1), .ref (a + 3), .ref (a + 9), .ref (a + 12), .ref (a + 16), .null, .null, .int 0, .int 0, .int 0, .int 0, .int 0])] ++ finX0 X (a + 1)) ++ finX1 X (a + 3)) ++ finX6 X (a + 9)) ++ finX4 X (a + 12)) ++ finX3 X (a + 16) (a + 1) (a + 12)) H locs 18 := hM
  refine lv_aload_n A.1 A.2.1 dX7_init_67 rfl (lv_at hl 0 rfl) ?_
  refine k_new (ci := 2) (fs := [.null, .null, .null, .null, .null, .null, .int 0, .int 0, .int 0, .int 0]) A hM rfl iwX2 tyX2 tyX2_ok cl_X7_46 ib_X2 in_X2 dfX2 (Nat.le_of_ble_eq_true rfl) (Nat.le_of_ble_eq_true rfl) dX7_init_68 (fun H hM => ?_)
  have hM : cM X s a (((((([.inr (7, [.ref (a + 1), .ref (a + 3), .ref (a + 9), .ref (a + 12), .ref (a + 16), .null, .null, .int 0, .int 0, .int 0, .int 0, .int 0])] ++ finX0 X (a + 1)) ++ finX1 X (a + 3)) ++ finX6 X (a + 9)) ++ finX4 X (a + 12)) ++ finX3 X (a + 16) (a + 1) (a + 12)) ++ [.inr (2, [.null, .null, .null, .null, .null, .null, .int 0, .int 0, .int 0, .int 0])]) H locs 19 := hM
  refine W.eq (g2 := F0 m 71 ls [.ref (a + 19), .ref a]) rfl ?_
  refine lv_dup A.1 A.2.1 dX7_init_71 rfl ?_
  refine lv_aload_n A.1 A.2.1 dX7_init_72 rfl (lv_at hl 0 rfl) ?_
  refine k_get (i := 0) (ci := 7) (k := 0) (fs := [.ref (a + 1), .ref (a + 3), .ref (a + 9), .ref (a + 12), .ref (a + 16), .null, .null, .int 0, .int 0, .int 0, .int 0, .int 0]) (v := .ref (a + 1)) A hM rfl rfl iwX7 (by decide) rfl pf_X7_10 rfl dX7_init_73 ?_
  refine lv_aload_n A.1 A.2.1 dX7_init_76 rfl (lv_at hl 0 rfl) ?_
  refine k_get (i := 0) (ci := 7) (k := 2) (fs := [.ref (a + 1), .ref (a + 3), .ref (a + 9), .ref (a + 12), .ref (a + 16), .null, .null, .int 0, .int 0, .int 0, .int 0, .int 0]) (v := .ref (a + 9)) A hM rfl rfl iwX7 (by decide) rfl pf_X7_26 rfl dX7_init_77 ?_
  refine lv_aload_n A.1 A.2.1 dX7_init_80 rfl (lv_at hl 0 rfl) ?_
  refine k_get (i := 0) (ci := 7) (k := 3) (fs := [.ref (a + 1), .ref (a + 3), .ref (a + 9), .ref (a + 12), .ref (a + 16), .null, .null, .int 0, .int 0, .int 0, .int 0, .int 0]) (v := .ref (a + 12)) A hM rfl rfl iwX7 (by decide) rfl pf_X7_33 rfl dX7_init_81 ?_
  refine k_call (t := ((((([.inr (7, [.ref (a + 1), .ref (a + 3), .ref (a + 9), .ref (a + 12), .ref (a + 16), .null, .null, .int 0, .int 0, .int 0, .int 0, .int 0])] ++ finX0 X (a + 1)) ++ finX1 X (a + 3)) ++ finX6 X (a + 9)) ++ finX4 X (a + 12)) ++ finX3 X (a + 16) (a + 1) (a + 12))) (D := .inr (2, [.null, .null, .null, .null, .null, .null, .int 0, .int 0, .int 0, .int 0])) (As := [.ref (a + 1), .ref (a + 9), .ref (a + 12)]) (rest := [.ref (a + 19), .ref a]) A hKA hl.1 hM ml_X7_48 (ctX2_init X (a + 19) (a + 1) (a + 9) (a + 12)) rfl ⟨Nat.le_of_ble_eq_true rfl, Nat.le_of_ble_eq_true rfl⟩ ⟨Nat.le_of_ble_eq_true rfl, Nat.le_of_ble_eq_true rfl⟩ rfl (Nat.le_of_ble_eq_true rfl) rfl dX7_init_84 (fun H locs hM => ?_)
  have hM : cM X s a (((((([.inr (7, [.ref (a + 1), .ref (a + 3), .ref (a + 9), .ref (a + 12), .ref (a + 16), .null, .null, .int 0, .int 0, .int 0, .int 0, .int 0])] ++ finX0 X (a + 1)) ++ finX1 X (a + 3)) ++ finX6 X (a + 9)) ++ finX4 X (a + 12)) ++ finX3 X (a + 16) (a + 1) (a + 12)) ++ finX2 X (a + 19) (a + 1) (a + 9) (a + 12)) H locs 41 := hM
  refine W.eq (g2 := F0 m 87 ls [.ref (a + 19), .ref a]) rfl ?_
  refine k_put (i := 0) (ci := 7) (k := 5) (ty := (.object "SnowPaths$Orders")) (fs := [.ref (a + 1), .ref (a + 3), .ref (a + 9), .ref (a + 12), .ref (a + 16), .null, .null, .int 0, .int 0, .int 0, .int 0, .int 0]) A hM hnm rfl rfl iwX7 tyX7 tyX7_ok nmX7 (by decide) rfl pf_X7_51 (by decide +kernel) rfl rfl (Nat.le_of_ble_eq_true rfl) dX7_init_87 (fun H locs hM => ?_)
  have hM : cM X s a (((((([.inr (7, [.ref (a + 1), .ref (a + 3), .ref (a + 9), .ref (a + 12), .ref (a + 16), .ref (a + 19), .null, .int 0, .int 0, .int 0, .int 0, .int 0])] ++ finX0 X (a + 1)) ++ finX1 X (a + 3)) ++ finX6 X (a + 9)) ++ finX4 X (a + 12)) ++ finX3 X (a + 16) (a + 1) (a + 12)) ++ finX2 X (a + 19) (a + 1) (a + 9) (a + 12)) H locs 41 := hM
  refine lv_aload_n A.1 A.2.1 dX7_init_90 rfl (lv_at hl 0 rfl) ?_
  refine lv_iconst (v := 4) A.1 A.2.1 dX7_init_91 (by decide) ?_
  refine k_newq (kd := 4) (N := 4) A hM cl_X7_55 hKA.2 rfl (by decide) (by decide) (by decide) (Nat.le_of_ble_eq_true rfl) (Nat.le_of_ble_eq_true rfl) dX7_init_92 (fun H hM => ?_)
  have hM : cM X s a ((((((([.inr (7, [.ref (a + 1), .ref (a + 3), .ref (a + 9), .ref (a + 12), .ref (a + 16), .ref (a + 19), .null, .int 0, .int 0, .int 0, .int 0, .int 0])] ++ finX0 X (a + 1)) ++ finX1 X (a + 3)) ++ finX6 X (a + 9)) ++ finX4 X (a + 12)) ++ finX3 X (a + 16) (a + 1) (a + 12)) ++ finX2 X (a + 19) (a + 1) (a + 9) (a + 12)) ++ [.inl (X.2.2 4, 4, .inr (.inr (.inr (.inr (fun _ => none)))))]) H locs 42 := hM
  refine W.eq (g2 := F0 m 95 ls [.ref (a + 42), .ref a]) rfl ?_
  refine k_put (i := 0) (ci := 7) (k := 6) (ty := (.array (.object "SnowPaths$Sheet"))) (fs := [.ref (a + 1), .ref (a + 3), .ref (a + 9), .ref (a + 12), .ref (a + 16), .ref (a + 19), .null, .int 0, .int 0, .int 0, .int 0, .int 0]) A hM hnm rfl rfl iwX7 tyX7 tyX7_ok nmX7 (by decide) rfl pf_X7_57 (by decide +kernel) rfl rfl (Nat.le_of_ble_eq_true rfl) dX7_init_95 (fun H locs hM => ?_)
  have hM : cM X s a ((((((([.inr (7, [.ref (a + 1), .ref (a + 3), .ref (a + 9), .ref (a + 12), .ref (a + 16), .ref (a + 19), .ref (a + 42), .int 0, .int 0, .int 0, .int 0, .int 0])] ++ finX0 X (a + 1)) ++ finX1 X (a + 3)) ++ finX6 X (a + 9)) ++ finX4 X (a + 12)) ++ finX3 X (a + 16) (a + 1) (a + 12)) ++ finX2 X (a + 19) (a + 1) (a + 9) (a + 12)) ++ [.inl (X.2.2 4, 4, .inr (.inr (.inr (.inr (fun _ => none)))))]) H locs 42 := hM
  refine lv_aload_n A.1 A.2.1 dX7_init_98 rfl (lv_at hl 0 rfl) ?_
  refine lv_iconst (v := 0) A.1 A.2.1 dX7_init_99 (by decide) ?_
  refine k_put (i := 0) (ci := 7) (k := 7) (ty := .int) (fs := [.ref (a + 1), .ref (a + 3), .ref (a + 9), .ref (a + 12), .ref (a + 16), .ref (a + 19), .ref (a + 42), .int 0, .int 0, .int 0, .int 0, .int 0]) A hM hnm rfl rfl iwX7 tyX7 tyX7_ok nmX7 (by decide) rfl pf_X7_61 (by decide +kernel) rfl rfl (Nat.le_of_ble_eq_true rfl) dX7_init_100 (fun H locs hM => ?_)
  have hM : cM X s a ((((((([.inr (7, [.ref (a + 1), .ref (a + 3), .ref (a + 9), .ref (a + 12), .ref (a + 16), .ref (a + 19), .ref (a + 42), .int 0, .int 0, .int 0, .int 0, .int 0])] ++ finX0 X (a + 1)) ++ finX1 X (a + 3)) ++ finX6 X (a + 9)) ++ finX4 X (a + 12)) ++ finX3 X (a + 16) (a + 1) (a + 12)) ++ finX2 X (a + 19) (a + 1) (a + 9) (a + 12)) ++ [.inl (X.2.2 4, 4, .inr (.inr (.inr (.inr (fun _ => none)))))]) H locs 42 := hM
  refine lv_aload_n A.1 A.2.1 dX7_init_103 rfl (lv_at hl 0 rfl) ?_
  refine lv_iconst (v := -1) A.1 A.2.1 dX7_init_104 (by decide) ?_
  refine k_put (i := 0) (ci := 7) (k := 8) (ty := .int) (fs := [.ref (a + 1), .ref (a + 3), .ref (a + 9), .ref (a + 12), .ref (a + 16), .ref (a + 19), .ref (a + 42), .int 0, .int 0, .int 0, .int 0, .int 0]) A hM hnm rfl rfl iwX7 tyX7 tyX7_ok nmX7 (by decide) rfl pf_X7_65 (by decide +kernel) rfl rfl (Nat.le_of_ble_eq_true rfl) dX7_init_105 (fun H locs hM => ?_)
  have hM : cM X s a ((((((([.inr (7, [.ref (a + 1), .ref (a + 3), .ref (a + 9), .ref (a + 12), .ref (a + 16), .ref (a + 19), .ref (a + 42), .int 0, .int (-1), .int 0, .int 0, .int 0])] ++ finX0 X (a + 1)) ++ finX1 X (a + 3)) ++ finX6 X (a + 9)) ++ finX4 X (a + 12)) ++ finX3 X (a + 16) (a + 1) (a + 12)) ++ finX2 X (a + 19) (a + 1) (a + 9) (a + 12)) ++ [.inl (X.2.2 4, 4, .inr (.inr (.inr (.inr (fun _ => none)))))]) H locs 42 := hM
  refine lv_aload_n A.1 A.2.1 dX7_init_108 rfl (lv_at hl 0 rfl) ?_
  refine lv_iconst (v := 0) A.1 A.2.1 dX7_init_109 (by decide) ?_
  refine k_put (i := 0) (ci := 7) (k := 9) (ty := .int) (fs := [.ref (a + 1), .ref (a + 3), .ref (a + 9), .ref (a + 12), .ref (a + 16), .ref (a + 19), .ref (a + 42), .int 0, .int (-1), .int 0, .int 0, .int 0]) A hM hnm rfl rfl iwX7 tyX7 tyX7_ok nmX7 (by decide) rfl pf_X7_68 (by decide +kernel) rfl rfl (Nat.le_of_ble_eq_true rfl) dX7_init_110 (fun H locs hM => ?_)
  have hM : cM X s a ((((((([.inr (7, [.ref (a + 1), .ref (a + 3), .ref (a + 9), .ref (a + 12), .ref (a + 16), .ref (a + 19), .ref (a + 42), .int 0, .int (-1), .int 0, .int 0, .int 0])] ++ finX0 X (a + 1)) ++ finX1 X (a + 3)) ++ finX6 X (a + 9)) ++ finX4 X (a + 12)) ++ finX3 X (a + 16) (a + 1) (a + 12)) ++ finX2 X (a + 19) (a + 1) (a + 9) (a + 12)) ++ [.inl (X.2.2 4, 4, .inr (.inr (.inr (.inr (fun _ => none)))))]) H locs 42 := hM
  refine lv_aload_n A.1 A.2.1 dX7_init_113 rfl (lv_at hl 0 rfl) ?_
  refine lv_iconst (v := -1) A.1 A.2.1 dX7_init_114 (by decide) ?_
  refine k_put (i := 0) (ci := 7) (k := 10) (ty := .int) (fs := [.ref (a + 1), .ref (a + 3), .ref (a + 9), .ref (a + 12), .ref (a + 16), .ref (a + 19), .ref (a + 42), .int 0, .int (-1), .int 0, .int 0, .int 0]) A hM hnm rfl rfl iwX7 tyX7 tyX7_ok nmX7 (by decide) rfl pf_X7_71 (by decide +kernel) rfl rfl (Nat.le_of_ble_eq_true rfl) dX7_init_115 (fun H locs hM => ?_)
  have hM : cM X s a ((((((([.inr (7, [.ref (a + 1), .ref (a + 3), .ref (a + 9), .ref (a + 12), .ref (a + 16), .ref (a + 19), .ref (a + 42), .int 0, .int (-1), .int 0, .int (-1), .int 0])] ++ finX0 X (a + 1)) ++ finX1 X (a + 3)) ++ finX6 X (a + 9)) ++ finX4 X (a + 12)) ++ finX3 X (a + 16) (a + 1) (a + 12)) ++ finX2 X (a + 19) (a + 1) (a + 9) (a + 12)) ++ [.inl (X.2.2 4, 4, .inr (.inr (.inr (.inr (fun _ => none)))))]) H locs 42 := hM
  refine lv_aload_n A.1 A.2.1 dX7_init_118 rfl (lv_at hl 0 rfl) ?_
  refine lv_iconst (v := 0) A.1 A.2.1 dX7_init_119 (by decide) ?_
  refine k_put (i := 0) (ci := 7) (k := 11) (ty := .int) (fs := [.ref (a + 1), .ref (a + 3), .ref (a + 9), .ref (a + 12), .ref (a + 16), .ref (a + 19), .ref (a + 42), .int 0, .int (-1), .int 0, .int (-1), .int 0]) A hM hnm rfl rfl iwX7 tyX7 tyX7_ok nmX7 (by decide) rfl pf_X7_74 (by decide +kernel) rfl rfl (Nat.le_of_ble_eq_true rfl) dX7_init_120 (fun H locs hM => ?_)
  have hM : cM X s a ((((((([.inr (7, [.ref (a + 1), .ref (a + 3), .ref (a + 9), .ref (a + 12), .ref (a + 16), .ref (a + 19), .ref (a + 42), .int 0, .int (-1), .int 0, .int (-1), .int 0])] ++ finX0 X (a + 1)) ++ finX1 X (a + 3)) ++ finX6 X (a + 9)) ++ finX4 X (a + 12)) ++ finX3 X (a + 16) (a + 1) (a + 12)) ++ finX2 X (a + 19) (a + 1) (a + 9) (a + 12)) ++ [.inl (X.2.2 4, 4, .inr (.inr (.inr (.inr (fun _ => none)))))]) H locs 42 := hM
  refine lv_iconst (v := 0) A.1 A.2.1 dX7_init_123 (by decide) ?_
  refine lv_istore_n (lv' := [(1, .int 0), (0, .ref a)]) A.1 A.2.1 dX7_init_124 rfl hl (by decide) rfl (fun ls hl => ?_)
  refine lv_iload_n A.1 A.2.1 dX7_init_125 rfl (lv_at hl 0 rfl) ?_
  refine lv_iconst (v := 4) A.1 A.2.1 dX7_init_126 (by decide) ?_
  refine lv_icmp_ge (tgt := 149) A.1 A.2.1 dX7_init_127 (by decide) (fun h => absurd h (by decide)) (fun _ => ?_)
  refine W.eq (g2 := F0 m 130 ls []) rfl ?_
  refine lv_aload_n A.1 A.2.1 dX7_init_130 rfl (lv_at hl 1 rfl) ?_
  refine k_get (i := 0) (ci := 7) (k := 6) (fs := [.ref (a + 1), .ref (a + 3), .ref (a + 9), .ref (a + 12), .ref (a + 16), .ref (a + 19), .ref (a + 42), .int 0, .int (-1), .int 0, .int (-1), .int 0]) (v := .ref (a + 42)) A hM rfl rfl iwX7 (by decide) rfl pf_X7_57 rfl dX7_init_131 ?_
  refine lv_iload_n A.1 A.2.1 dX7_init_134 rfl (lv_at hl 0 rfl) ?_
  refine k_new (ci := 5) (fs := [.null, .int 0, .int 0]) A hM rfl iwX5 tyX5 tyX5_ok cl_X7_55 ib_X5 in_X5 dfX5 (Nat.le_of_ble_eq_true rfl) (Nat.le_of_ble_eq_true rfl) dX7_init_135 (fun H hM => ?_)
  have hM : cM X s a ((((((([.inr (7, [.ref (a + 1), .ref (a + 3), .ref (a + 9), .ref (a + 12), .ref (a + 16), .ref (a + 19), .ref (a + 42), .int 0, .int (-1), .int 0, .int (-1), .int 0])] ++ finX0 X (a + 1)) ++ finX1 X (a + 3)) ++ finX6 X (a + 9)) ++ finX4 X (a + 12)) ++ finX3 X (a + 16) (a + 1) (a + 12)) ++ finX2 X (a + 19) (a + 1) (a + 9) (a + 12)) ++ [.inl (X.2.2 4, 4, .inr (.inr (.inr (.inr (fun _ => none))))), .inr (5, [.null, .int 0, .int 0])]) H locs 43 := hM
  refine W.eq (g2 := F0 m 138 ls [.ref (a + 43), .int 0, .ref (a + 42)]) rfl ?_
  refine lv_dup A.1 A.2.1 dX7_init_138 rfl ?_
  refine k_call (t := ((((((([.inr (7, [.ref (a + 1), .ref (a + 3), .ref (a + 9), .ref (a + 12), .ref (a + 16), .ref (a + 19), .ref (a + 42), .int 0, .int (-1), .int 0, .int (-1), .int 0])] ++ finX0 X (a + 1)) ++ finX1 X (a + 3)) ++ finX6 X (a + 9)) ++ finX4 X (a + 12)) ++ finX3 X (a + 16) (a + 1) (a + 12)) ++ finX2 X (a + 19) (a + 1) (a + 9) (a + 12)) ++ [.inl (X.2.2 4, 4, .inr (.inr (.inr (.inr (fun _ => none)))))])) (D := .inr (5, [.null, .int 0, .int 0])) (As := []) (rest := [.ref (a + 43), .int 0, .ref (a + 42)]) A hKA hl.1 hM ml_X7_77 (ctX5_init X (a + 43)) rfl ⟨Nat.le_of_ble_eq_true rfl, Nat.le_of_ble_eq_true rfl⟩ ⟨Nat.le_of_ble_eq_true rfl, Nat.le_of_ble_eq_true rfl⟩ rfl (Nat.le_of_ble_eq_true rfl) rfl dX7_init_139 (fun H locs hM => ?_)
  have hM : cM X s a (((((((([.inr (7, [.ref (a + 1), .ref (a + 3), .ref (a + 9), .ref (a + 12), .ref (a + 16), .ref (a + 19), .ref (a + 42), .int 0, .int (-1), .int 0, .int (-1), .int 0])] ++ finX0 X (a + 1)) ++ finX1 X (a + 3)) ++ finX6 X (a + 9)) ++ finX4 X (a + 12)) ++ finX3 X (a + 16) (a + 1) (a + 12)) ++ finX2 X (a + 19) (a + 1) (a + 9) (a + 12)) ++ [.inl (X.2.2 4, 4, .inr (.inr (.inr (.inr (fun _ => none)))))]) ++ finX5 X (a + 43)) H locs 44 := hM
  refine W.eq (g2 := F0 m 142 ls [.ref (a + 43), .int 0, .ref (a + 42)]) rfl ?_
  refine k_ast (i := 42) (kd := 4) (j := 43) (ci := 5) (N := 4) (r := (RX5, TX5, 3)) A hM rfl rfl rfl rfl (by unfold vp_in; decide) dX7_init_142 (fun H locs hM => ?_)
  have hM : cM X s a (((((((([.inr (7, [.ref (a + 1), .ref (a + 3), .ref (a + 9), .ref (a + 12), .ref (a + 16), .ref (a + 19), .ref (a + 42), .int 0, .int (-1), .int 0, .int (-1), .int 0])] ++ finX0 X (a + 1)) ++ finX1 X (a + 3)) ++ finX6 X (a + 9)) ++ finX4 X (a + 12)) ++ finX3 X (a + 16) (a + 1) (a + 12)) ++ finX2 X (a + 19) (a + 1) (a + 9) (a + 12)) ++ [.inl (X.2.2 4, 4, .inr (.inr (.inr (.inr (va_up (fun _ => none) 0 (some (a + 43)))))))]) ++ finX5 X (a + 43)) H locs 44 := hM
  refine lv_iinc (v := 1) (lv' := [(1, .int 1), (0, .ref a)]) A.1 A.2.1 dX7_init_143 hl (k := 0) rfl (by decide) (by decide) rfl (fun ls hl => ?_)
  refine lv_goto (tgt := 125) A.1 A.2.1 dX7_init_146 (by decide) ?_
  refine lv_iload_n A.1 A.2.1 dX7_init_125 rfl (lv_at hl 0 rfl) ?_
  refine lv_iconst (v := 4) A.1 A.2.1 dX7_init_126 (by decide) ?_
  refine lv_icmp_ge (tgt := 149) A.1 A.2.1 dX7_init_127 (by decide) (fun h => absurd h (by decide)) (fun _ => ?_)
  refine W.eq (g2 := F0 m 130 ls []) rfl ?_
  refine lv_aload_n A.1 A.2.1 dX7_init_130 rfl (lv_at hl 1 rfl) ?_
  refine k_get (i := 0) (ci := 7) (k := 6) (fs := [.ref (a + 1), .ref (a + 3), .ref (a + 9), .ref (a + 12), .ref (a + 16), .ref (a + 19), .ref (a + 42), .int 0, .int (-1), .int 0, .int (-1), .int 0]) (v := .ref (a + 42)) A hM rfl rfl iwX7 (by decide) rfl pf_X7_57 rfl dX7_init_131 ?_
  refine lv_iload_n A.1 A.2.1 dX7_init_134 rfl (lv_at hl 0 rfl) ?_
  refine k_new (ci := 5) (fs := [.null, .int 0, .int 0]) A hM rfl iwX5 tyX5 tyX5_ok cl_X7_55 ib_X5 in_X5 dfX5 (Nat.le_of_ble_eq_true rfl) (Nat.le_of_ble_eq_true rfl) dX7_init_135 (fun H hM => ?_)
  have hM : cM X s a ((((((((([.inr (7, [.ref (a + 1), .ref (a + 3), .ref (a + 9), .ref (a + 12), .ref (a + 16), .ref (a + 19), .ref (a + 42), .int 0, .int (-1), .int 0, .int (-1), .int 0])] ++ finX0 X (a + 1)) ++ finX1 X (a + 3)) ++ finX6 X (a + 9)) ++ finX4 X (a + 12)) ++ finX3 X (a + 16) (a + 1) (a + 12)) ++ finX2 X (a + 19) (a + 1) (a + 9) (a + 12)) ++ [.inl (X.2.2 4, 4, .inr (.inr (.inr (.inr (va_up (fun _ => none) 0 (some (a + 43)))))))]) ++ finX5 X (a + 43)) ++ [.inr (5, [.null, .int 0, .int 0])]) H locs 45 := hM
  refine W.eq (g2 := F0 m 138 ls [.ref (a + 45), .int 1, .ref (a + 42)]) rfl ?_
  refine lv_dup A.1 A.2.1 dX7_init_138 rfl ?_
  refine k_call (t := (((((((([.inr (7, [.ref (a + 1), .ref (a + 3), .ref (a + 9), .ref (a + 12), .ref (a + 16), .ref (a + 19), .ref (a + 42), .int 0, .int (-1), .int 0, .int (-1), .int 0])] ++ finX0 X (a + 1)) ++ finX1 X (a + 3)) ++ finX6 X (a + 9)) ++ finX4 X (a + 12)) ++ finX3 X (a + 16) (a + 1) (a + 12)) ++ finX2 X (a + 19) (a + 1) (a + 9) (a + 12)) ++ [.inl (X.2.2 4, 4, .inr (.inr (.inr (.inr (va_up (fun _ => none) 0 (some (a + 43)))))))]) ++ finX5 X (a + 43))) (D := .inr (5, [.null, .int 0, .int 0])) (As := []) (rest := [.ref (a + 45), .int 1, .ref (a + 42)]) A hKA hl.1 hM ml_X7_77 (ctX5_init X (a + 45)) rfl ⟨Nat.le_of_ble_eq_true rfl, Nat.le_of_ble_eq_true rfl⟩ ⟨Nat.le_of_ble_eq_true rfl, Nat.le_of_ble_eq_true rfl⟩ rfl (Nat.le_of_ble_eq_true rfl) rfl dX7_init_139 (fun H locs hM => ?_)
  have hM : cM X s a ((((((((([.inr (7, [.ref (a + 1), .ref (a + 3), .ref (a + 9), .ref (a + 12), .ref (a + 16), .ref (a + 19), .ref (a + 42), .int 0, .int (-1), .int 0, .int (-1), .int 0])] ++ finX0 X (a + 1)) ++ finX1 X (a + 3)) ++ finX6 X (a + 9)) ++ finX4 X (a + 12)) ++ finX3 X (a + 16) (a + 1) (a + 12)) ++ finX2 X (a + 19) (a + 1) (a + 9) (a + 12)) ++ [.inl (X.2.2 4, 4, .inr (.inr (.inr (.inr (va_up (fun _ => none) 0 (some (a + 43)))))))]) ++ finX5 X (a + 43)) ++ finX5 X (a + 45)) H locs 46 := hM
  refine W.eq (g2 := F0 m 142 ls [.ref (a + 45), .int 1, .ref (a + 42)]) rfl ?_
  refine k_ast (i := 42) (kd := 4) (j := 45) (ci := 5) (N := 4) (r := (RX5, TX5, 3)) A hM rfl rfl rfl rfl (by unfold vp_in; decide) dX7_init_142 (fun H locs hM => ?_)
  have hM : cM X s a ((((((((([.inr (7, [.ref (a + 1), .ref (a + 3), .ref (a + 9), .ref (a + 12), .ref (a + 16), .ref (a + 19), .ref (a + 42), .int 0, .int (-1), .int 0, .int (-1), .int 0])] ++ finX0 X (a + 1)) ++ finX1 X (a + 3)) ++ finX6 X (a + 9)) ++ finX4 X (a + 12)) ++ finX3 X (a + 16) (a + 1) (a + 12)) ++ finX2 X (a + 19) (a + 1) (a + 9) (a + 12)) ++ [.inl (X.2.2 4, 4, .inr (.inr (.inr (.inr (va_up (va_up (fun _ => none) 0 (some (a + 43))) 1 (some (a + 45)))))))]) ++ finX5 X (a + 43)) ++ finX5 X (a + 45)) H locs 46 := hM
  refine lv_iinc (v := 2) (lv' := [(1, .int 2), (0, .ref a)]) A.1 A.2.1 dX7_init_143 hl (k := 0) rfl (by decide) (by decide) rfl (fun ls hl => ?_)
  refine lv_goto (tgt := 125) A.1 A.2.1 dX7_init_146 (by decide) ?_
  refine lv_iload_n A.1 A.2.1 dX7_init_125 rfl (lv_at hl 0 rfl) ?_
  refine lv_iconst (v := 4) A.1 A.2.1 dX7_init_126 (by decide) ?_
  refine lv_icmp_ge (tgt := 149) A.1 A.2.1 dX7_init_127 (by decide) (fun h => absurd h (by decide)) (fun _ => ?_)
  refine W.eq (g2 := F0 m 130 ls []) rfl ?_
  refine lv_aload_n A.1 A.2.1 dX7_init_130 rfl (lv_at hl 1 rfl) ?_
  refine k_get (i := 0) (ci := 7) (k := 6) (fs := [.ref (a + 1), .ref (a + 3), .ref (a + 9), .ref (a + 12), .ref (a + 16), .ref (a + 19), .ref (a + 42), .int 0, .int (-1), .int 0, .int (-1), .int 0]) (v := .ref (a + 42)) A hM rfl rfl iwX7 (by decide) rfl pf_X7_57 rfl dX7_init_131 ?_
  refine lv_iload_n A.1 A.2.1 dX7_init_134 rfl (lv_at hl 0 rfl) ?_
  refine k_new (ci := 5) (fs := [.null, .int 0, .int 0]) A hM rfl iwX5 tyX5 tyX5_ok cl_X7_55 ib_X5 in_X5 dfX5 (Nat.le_of_ble_eq_true rfl) (Nat.le_of_ble_eq_true rfl) dX7_init_135 (fun H hM => ?_)
  have hM : cM X s a (((((((((([.inr (7, [.ref (a + 1), .ref (a + 3), .ref (a + 9), .ref (a + 12), .ref (a + 16), .ref (a + 19), .ref (a + 42), .int 0, .int (-1), .int 0, .int (-1), .int 0])] ++ finX0 X (a + 1)) ++ finX1 X (a + 3)) ++ finX6 X (a + 9)) ++ finX4 X (a + 12)) ++ finX3 X (a + 16) (a + 1) (a + 12)) ++ finX2 X (a + 19) (a + 1) (a + 9) (a + 12)) ++ [.inl (X.2.2 4, 4, .inr (.inr (.inr (.inr (va_up (va_up (fun _ => none) 0 (some (a + 43))) 1 (some (a + 45)))))))]) ++ finX5 X (a + 43)) ++ finX5 X (a + 45)) ++ [.inr (5, [.null, .int 0, .int 0])]) H locs 47 := hM
  refine W.eq (g2 := F0 m 138 ls [.ref (a + 47), .int 2, .ref (a + 42)]) rfl ?_
  refine lv_dup A.1 A.2.1 dX7_init_138 rfl ?_
  refine k_call (t := ((((((((([.inr (7, [.ref (a + 1), .ref (a + 3), .ref (a + 9), .ref (a + 12), .ref (a + 16), .ref (a + 19), .ref (a + 42), .int 0, .int (-1), .int 0, .int (-1), .int 0])] ++ finX0 X (a + 1)) ++ finX1 X (a + 3)) ++ finX6 X (a + 9)) ++ finX4 X (a + 12)) ++ finX3 X (a + 16) (a + 1) (a + 12)) ++ finX2 X (a + 19) (a + 1) (a + 9) (a + 12)) ++ [.inl (X.2.2 4, 4, .inr (.inr (.inr (.inr (va_up (va_up (fun _ => none) 0 (some (a + 43))) 1 (some (a + 45)))))))]) ++ finX5 X (a + 43)) ++ finX5 X (a + 45))) (D := .inr (5, [.null, .int 0, .int 0])) (As := []) (rest := [.ref (a + 47), .int 2, .ref (a + 42)]) A hKA hl.1 hM ml_X7_77 (ctX5_init X (a + 47)) rfl ⟨Nat.le_of_ble_eq_true rfl, Nat.le_of_ble_eq_true rfl⟩ ⟨Nat.le_of_ble_eq_true rfl, Nat.le_of_ble_eq_true rfl⟩ rfl (Nat.le_of_ble_eq_true rfl) rfl dX7_init_139 (fun H locs hM => ?_)
  have hM : cM X s a (((((((((([.inr (7, [.ref (a + 1), .ref (a + 3), .ref (a + 9), .ref (a + 12), .ref (a + 16), .ref (a + 19), .ref (a + 42), .int 0, .int (-1), .int 0, .int (-1), .int 0])] ++ finX0 X (a + 1)) ++ finX1 X (a + 3)) ++ finX6 X (a + 9)) ++ finX4 X (a + 12)) ++ finX3 X (a + 16) (a + 1) (a + 12)) ++ finX2 X (a + 19) (a + 1) (a + 9) (a + 12)) ++ [.inl (X.2.2 4, 4, .inr (.inr (.inr (.inr (va_up (va_up (fun _ => none) 0 (some (a + 43))) 1 (some (a + 45)))))))]) ++ finX5 X (a + 43)) ++ finX5 X (a + 45)) ++ finX5 X (a + 47)) H locs 48 := hM
  refine W.eq (g2 := F0 m 142 ls [.ref (a + 47), .int 2, .ref (a + 42)]) rfl ?_
  refine k_ast (i := 42) (kd := 4) (j := 47) (ci := 5) (N := 4) (r := (RX5, TX5, 3)) A hM rfl rfl rfl rfl (by unfold vp_in; decide) dX7_init_142 (fun H locs hM => ?_)
  have hM : cM X s a (((((((((([.inr (7, [.ref (a + 1), .ref (a + 3), .ref (a + 9), .ref (a + 12), .ref (a + 16), .ref (a + 19), .ref (a + 42), .int 0, .int (-1), .int 0, .int (-1), .int 0])] ++ finX0 X (a + 1)) ++ finX1 X (a + 3)) ++ finX6 X (a + 9)) ++ finX4 X (a + 12)) ++ finX3 X (a + 16) (a + 1) (a + 12)) ++ finX2 X (a + 19) (a + 1) (a + 9) (a + 12)) ++ [.inl (X.2.2 4, 4, .inr (.inr (.inr (.inr (va_up (va_up (va_up (fun _ => none) 0 (some (a + 43))) 1 (some (a + 45))) 2 (some (a + 47)))))))]) ++ finX5 X (a + 43)) ++ finX5 X (a + 45)) ++ finX5 X (a + 47)) H locs 48 := hM
  refine lv_iinc (v := 3) (lv' := [(1, .int 3), (0, .ref a)]) A.1 A.2.1 dX7_init_143 hl (k := 0) rfl (by decide) (by decide) rfl (fun ls hl => ?_)
  refine lv_goto (tgt := 125) A.1 A.2.1 dX7_init_146 (by decide) ?_
  refine lv_iload_n A.1 A.2.1 dX7_init_125 rfl (lv_at hl 0 rfl) ?_
  refine lv_iconst (v := 4) A.1 A.2.1 dX7_init_126 (by decide) ?_
  refine lv_icmp_ge (tgt := 149) A.1 A.2.1 dX7_init_127 (by decide) (fun h => absurd h (by decide)) (fun _ => ?_)
  refine W.eq (g2 := F0 m 130 ls []) rfl ?_
  refine lv_aload_n A.1 A.2.1 dX7_init_130 rfl (lv_at hl 1 rfl) ?_
  refine k_get (i := 0) (ci := 7) (k := 6) (fs := [.ref (a + 1), .ref (a + 3), .ref (a + 9), .ref (a + 12), .ref (a + 16), .ref (a + 19), .ref (a + 42), .int 0, .int (-1), .int 0, .int (-1), .int 0]) (v := .ref (a + 42)) A hM rfl rfl iwX7 (by decide) rfl pf_X7_57 rfl dX7_init_131 ?_
  refine lv_iload_n A.1 A.2.1 dX7_init_134 rfl (lv_at hl 0 rfl) ?_
  refine k_new (ci := 5) (fs := [.null, .int 0, .int 0]) A hM rfl iwX5 tyX5 tyX5_ok cl_X7_55 ib_X5 in_X5 dfX5 (Nat.le_of_ble_eq_true rfl) (Nat.le_of_ble_eq_true rfl) dX7_init_135 (fun H hM => ?_)
  have hM : cM X s a ((((((((((([.inr (7, [.ref (a + 1), .ref (a + 3), .ref (a + 9), .ref (a + 12), .ref (a + 16), .ref (a + 19), .ref (a + 42), .int 0, .int (-1), .int 0, .int (-1), .int 0])] ++ finX0 X (a + 1)) ++ finX1 X (a + 3)) ++ finX6 X (a + 9)) ++ finX4 X (a + 12)) ++ finX3 X (a + 16) (a + 1) (a + 12)) ++ finX2 X (a + 19) (a + 1) (a + 9) (a + 12)) ++ [.inl (X.2.2 4, 4, .inr (.inr (.inr (.inr (va_up (va_up (va_up (fun _ => none) 0 (some (a + 43))) 1 (some (a + 45))) 2 (some (a + 47)))))))]) ++ finX5 X (a + 43)) ++ finX5 X (a + 45)) ++ finX5 X (a + 47)) ++ [.inr (5, [.null, .int 0, .int 0])]) H locs 49 := hM
  refine W.eq (g2 := F0 m 138 ls [.ref (a + 49), .int 3, .ref (a + 42)]) rfl ?_
  refine lv_dup A.1 A.2.1 dX7_init_138 rfl ?_
  refine k_call (t := (((((((((([.inr (7, [.ref (a + 1), .ref (a + 3), .ref (a + 9), .ref (a + 12), .ref (a + 16), .ref (a + 19), .ref (a + 42), .int 0, .int (-1), .int 0, .int (-1), .int 0])] ++ finX0 X (a + 1)) ++ finX1 X (a + 3)) ++ finX6 X (a + 9)) ++ finX4 X (a + 12)) ++ finX3 X (a + 16) (a + 1) (a + 12)) ++ finX2 X (a + 19) (a + 1) (a + 9) (a + 12)) ++ [.inl (X.2.2 4, 4, .inr (.inr (.inr (.inr (va_up (va_up (va_up (fun _ => none) 0 (some (a + 43))) 1 (some (a + 45))) 2 (some (a + 47)))))))]) ++ finX5 X (a + 43)) ++ finX5 X (a + 45)) ++ finX5 X (a + 47))) (D := .inr (5, [.null, .int 0, .int 0])) (As := []) (rest := [.ref (a + 49), .int 3, .ref (a + 42)]) A hKA hl.1 hM ml_X7_77 (ctX5_init X (a + 49)) rfl ⟨Nat.le_of_ble_eq_true rfl, Nat.le_of_ble_eq_true rfl⟩ ⟨Nat.le_of_ble_eq_true rfl, Nat.le_of_ble_eq_true rfl⟩ rfl (Nat.le_of_ble_eq_true rfl) rfl dX7_init_139 (fun H locs hM => ?_)
  have hM : cM X s a ((((((((((([.inr (7, [.ref (a + 1), .ref (a + 3), .ref (a + 9), .ref (a + 12), .ref (a + 16), .ref (a + 19), .ref (a + 42), .int 0, .int (-1), .int 0, .int (-1), .int 0])] ++ finX0 X (a + 1)) ++ finX1 X (a + 3)) ++ finX6 X (a + 9)) ++ finX4 X (a + 12)) ++ finX3 X (a + 16) (a + 1) (a + 12)) ++ finX2 X (a + 19) (a + 1) (a + 9) (a + 12)) ++ [.inl (X.2.2 4, 4, .inr (.inr (.inr (.inr (va_up (va_up (va_up (fun _ => none) 0 (some (a + 43))) 1 (some (a + 45))) 2 (some (a + 47)))))))]) ++ finX5 X (a + 43)) ++ finX5 X (a + 45)) ++ finX5 X (a + 47)) ++ finX5 X (a + 49)) H locs 50 := hM
  refine W.eq (g2 := F0 m 142 ls [.ref (a + 49), .int 3, .ref (a + 42)]) rfl ?_
  refine k_ast (i := 42) (kd := 4) (j := 49) (ci := 5) (N := 4) (r := (RX5, TX5, 3)) A hM rfl rfl rfl rfl (by unfold vp_in; decide) dX7_init_142 (fun H locs hM => ?_)
  have hM : cM X s a ((((((((((([.inr (7, [.ref (a + 1), .ref (a + 3), .ref (a + 9), .ref (a + 12), .ref (a + 16), .ref (a + 19), .ref (a + 42), .int 0, .int (-1), .int 0, .int (-1), .int 0])] ++ finX0 X (a + 1)) ++ finX1 X (a + 3)) ++ finX6 X (a + 9)) ++ finX4 X (a + 12)) ++ finX3 X (a + 16) (a + 1) (a + 12)) ++ finX2 X (a + 19) (a + 1) (a + 9) (a + 12)) ++ [.inl (X.2.2 4, 4, .inr (.inr (.inr (.inr (va_up (va_up (va_up (va_up (fun _ => none) 0 (some (a + 43))) 1 (some (a + 45))) 2 (some (a + 47))) 3 (some (a + 49)))))))]) ++ finX5 X (a + 43)) ++ finX5 X (a + 45)) ++ finX5 X (a + 47)) ++ finX5 X (a + 49)) H locs 50 := hM
  refine lv_iinc (v := 4) (lv' := [(1, .int 4), (0, .ref a)]) A.1 A.2.1 dX7_init_143 hl (k := 0) rfl (by decide) (by decide) rfl (fun ls hl => ?_)
  refine lv_goto (tgt := 125) A.1 A.2.1 dX7_init_146 (by decide) ?_
  refine lv_iload_n A.1 A.2.1 dX7_init_125 rfl (lv_at hl 0 rfl) ?_
  refine lv_iconst (v := 4) A.1 A.2.1 dX7_init_126 (by decide) ?_
  refine lv_icmp_ge (tgt := 149) A.1 A.2.1 dX7_init_127 (by decide) (fun _ => ?_) (fun h => absurd (by decide) h)
  refine W.eq (g2 := F0 m 149 ls []) rfl ?_
  have hM := k_norm (i := 42) (g := (fun j => some (a + (43 + 2 * j)))) hM rfl (fun j hj => by
    rcases (show j = 0 ∨ j = 1 ∨ j = 2 ∨ j = 3 by omega) with rfl | rfl | rfl | rfl <;> rfl)
  have hM : cM X s a ((((((((((([.inr (7, [.ref (a + 1), .ref (a + 3), .ref (a + 9), .ref (a + 12), .ref (a + 16), .ref (a + 19), .ref (a + 42), .int 0, .int (-1), .int 0, .int (-1), .int 0])] ++ finX0 X (a + 1)) ++ finX1 X (a + 3)) ++ finX6 X (a + 9)) ++ finX4 X (a + 12)) ++ finX3 X (a + 16) (a + 1) (a + 12)) ++ finX2 X (a + 19) (a + 1) (a + 9) (a + 12)) ++ [.inl (X.2.2 4, 4, .inr (.inr (.inr (.inr (fun j => some (a + (43 + 2 * j)))))))]) ++ finX5 X (a + 43)) ++ finX5 X (a + 45)) ++ finX5 X (a + 47)) ++ finX5 X (a + 49)) H locs 50 := hM
  exact k_ret A hM hr hlk rfl dX7_init_149

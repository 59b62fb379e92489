/-! the beginning: what the constructors leave, and what the tables say -/
def S0 : gS := (fun i k => if (i = 0 ∧ (k = 8 ∨ k = 10)) ∨ ((i = 16 ∨ i = 24 ∨ i = 27 ∨ i = 30 ∨ i = 33 ∨ i = 36 ∨ i = 39) ∧ k = 7) ∨ ((i = 43 ∨ i = 45 ∨ i = 47 ∨ i = 49) ∧ k = 1) ∨ (i = 51 ∧ k = 19) ∨ i = 52 then -1 else 0, fun _ _ => 0)
theorem st_fn (B : Nat) : (fun j : Nat => some (B + 19 + (5 + 3 * j))) = fun j => some (B + (24 + 3 * j)) := by
  funext j
  congr 1
  omega
set_option maxRecDepth 100000 in
set_option maxHeartbeats 4000000 in
theorem w0_eq (X : gX) : cwl X.1 0 (finX7 X X.1 ++ finX8 X (X.1 + 51)) = g_ws X S0 := by
  unfold finX7 finX2
  rw [st_fn X.1]
  rfl
theorem S0_0 {i k : Nat} (h : ¬ ((i = 0 ∧ (k = 8 ∨ k = 10)) ∨ ((i = 16 ∨ i = 24 ∨ i = 27 ∨ i = 30 ∨ i = 33 ∨ i = 36 ∨ i = 39) ∧ k = 7) ∨ ((i = 43 ∨ i = 45 ∨ i = 47 ∨ i = 49) ∧ k = 1) ∨ (i = 51 ∧ k = 19) ∨ i = 52)) : S0.1 i k = 0 := if_neg h
theorem S0_1 {i k : Nat} (h : (i = 0 ∧ (k = 8 ∨ k = 10)) ∨ ((i = 16 ∨ i = 24 ∨ i = 27 ∨ i = 30 ∨ i = 33 ∨ i = 36 ∨ i = 39) ∧ k = 7) ∨ ((i = 43 ∨ i = 45 ∨ i = 47 ∨ i = 49) ∧ k = 1) ∨ (i = 51 ∧ k = 19) ∨ i = 52) : S0.1 i k = -1 := if_pos h
theorem inv0 : Inv S0 S0 := by
  refine ⟨⟨0, by omega, S0_0 (by omega), S0_0 (by omega), fun k hk => by omega, Or.inl ⟨0, by omega, fun j hj => by omega, Or.inl (Nat.le_refl _), S0_0 (by omega)⟩, fun c hc => ?_⟩, fun c hc => ?_, ⟨0, by omega, S0_0 (by omega), S0_0 (by omega), fun w hw => by omega⟩, fun s hs => ?_, ?_⟩
  · have e : S0.1 1 2 = 0 := S0_0 (by omega)
    have ne : ¬ (S0.1 1 2 = -1 ∧ S0.1 2 (c + c / 8) = 35) := fun z => by rw [e] at z; exact absurd z.1 (by decide)
    have ne2 : ¬ (S0.1 1 2 = -1 ∧ S0.1 2 (c + c / 8) = 111) := fun z => by rw [e] at z; exact absurd z.1 (by decide)
    rw [decide_eq_false ne, decide_eq_false ne2]
    exact ⟨hb_0 c, hb_0 c⟩
  · exact ⟨⟨0, by omega, S0_0 (by omega), S0_0 (by omega)⟩, ⟨0, by omega, S0_0 (by omega), S0_0 (by omega)⟩, ⟨0, by omega, S0_0 (by omega), S0_0 (by omega)⟩, (S0_0 (by omega)).trans (S0_0 (by omega)).symm, S0_0 (by omega)⟩
  · have e : S0.1 52 s = -1 := S0_1 (by omega)
    exact ⟨(S0_1 (by omega)).trans e.symm, Or.inl e⟩
  · exact (S0_0 (by omega)).trans (S0_0 (by omega)).symm
theorem gW_tbl {w : Cond} (h : w ∈ gW) : w ∈ lw_tbl := (List.mem_filter.mp h).1
theorem t_tbl {w : Cond} (i : Nat) (h : tables_1[i]? = some w) : w ∈ lw_tbl := List.mem_append_right _ (List.mem_of_getElem? h)
set_option maxRecDepth 100000 in
theorem ib_X7 : Cond.instantiable RX7 12 ∈ gW := gW_t 15 rfl rfl
set_option maxRecDepth 100000 in
theorem in_X7 : Cond.initialized RX7 ∈ gW := gW_t 1 rfl rfl
set_option maxRecDepth 100000 in
theorem ib_X8 : Cond.instantiable RX8 36 ∈ gW := gW_t 676 rfl rfl
set_option maxRecDepth 100000 in
theorem in_X8 : Cond.initialized RX8 ∈ gW := gW_t 9 rfl rfl
set_option maxRecDepth 100000 in
theorem cl_L_7 : Cond.classLink RL 7 RX7 ∈ gW := gW_t 14 rfl rfl
set_option maxRecDepth 100000 in
theorem cl_L_10 : Cond.classLink RL 10 RX8 ∈ gW := gW_t 675 rfl rfl
set_option maxRecDepth 100000 in
theorem ml_L_9 : c_ml RL 9 yX7_init cX7_init 2 0 := ⟨Or.inl (gW_t 16 rfl rfl), in_X7, gW_t 18 rfl rfl, by decide +kernel, rfl, gW_t 17 rfl rfl⟩
set_option maxRecDepth 100000 in
theorem ml_L_12 : c_ml RL 12 yX8_init cX8_init 2 0 := ⟨Or.inl (gW_t 677 rfl rfl), in_X8, gW_t 679 rfl rfl, by decide +kernel, rfl, gW_t 678 rfl rfl⟩
set_option maxRecDepth 100000 in
theorem ao_3 : Cond.arrayOver (.object "SnowPaths$Outing") ∈ lw_tbl := t_tbl 174 rfl
set_option maxRecDepth 100000 in
theorem ao_4 : Cond.arrayOver (.object "SnowPaths$Sheet") ∈ lw_tbl := t_tbl 214 rfl
set_option maxRecDepth 100000 in
theorem start_K {s : State} {args : Array Value} (hts : ∀ w ∈ lw_tbl, w.before args s = true) : ∃ (D : va_G) (kd : Nat → ClassId), ∀ B : Nat, g_K (B, D, kd) s ∧ g_KA s := by
  obtain ⟨c0, i0, hKn0⟩ := u_known (C := RX0) (T := TX0) (N := 5) (n := 5) hts iwX0a (hts _ (gW_tbl ib_X0))
  obtain ⟨c1, i1, hKn1⟩ := u_known (C := RX1) (T := TX1) (N := 5) (n := 5) hts iwX1a (hts _ (gW_tbl ib_X1))
  obtain ⟨c2, i2, hKn2⟩ := u_known (C := RX2) (T := TX2) (N := 10) (n := 10) hts iwX2a (hts _ (gW_tbl ib_X2))
  obtain ⟨c3, i3, hKn3⟩ := u_known (C := RX3) (T := TX3) (N := 8) (n := 8) hts iwX3a (hts _ (gW_tbl ib_X3))
  obtain ⟨c4, i4, hKn4⟩ := u_known (C := RX4) (T := TX4) (N := 5) (n := 5) hts iwX4a (hts _ (gW_tbl ib_X4))
  obtain ⟨c5, i5, hKn5⟩ := u_known (C := RX5) (T := TX5) (N := 3) (n := 3) hts iwX5a (hts _ (gW_tbl ib_X5))
  obtain ⟨c6, i6, hKn6⟩ := u_known (C := RX6) (T := TX6) (N := 3) (n := 3) hts iwX6a (hts _ (gW_tbl ib_X6))
  obtain ⟨c7, i7, hKn7⟩ := u_known (C := RX7) (T := TX7) (N := 12) (n := 12) hts iwX7a (hts _ (gW_tbl ib_X7))
  obtain ⟨c8, i8, hKn8⟩ := u_known (C := RX8) (T := TX8) (N := 36) (n := 36) hts iwX8a (hts _ (gW_tbl ib_X8))
  obtain ⟨a0, k0, m0, f0, g0, h0⟩ := Cond.arrayClass_spec (hts _ (gW_tbl aC_int))
  obtain ⟨a1, k1, m1, f1, g1, h1⟩ := Cond.arrayClass_spec (hts _ (gW_tbl aC_long))
  obtain ⟨a2, k2, m2, f2, g2, h2⟩ := Cond.arrayClass_spec (hts _ (gW_tbl aC_bool))
  obtain ⟨m3, a3, k3, e3, -, g3, h3, f3⟩ := Cond.arrayOver_spec (hts _ ao_3)
  obtain ⟨m4, a4, k4, e4, -, g4, h4, f4⟩ := Cond.arrayOver_spec (hts _ ao_4)
  refine ⟨(fun k => if k = 0 then c0 else if k = 1 then c1 else if k = 2 then c2 else if k = 3 then c3 else if k = 4 then c4 else if k = 5 then c5 else if k = 6 then c6 else if k = 7 then c7 else c8, fun k => if k = 0 then i0 else if k = 1 then i1 else if k = 2 then i2 else if k = 3 then i3 else if k = 4 then i4 else if k = 5 then i5 else if k = 6 then i6 else if k = 7 then i7 else i8), fun k => if k = 0 then a0 else if k = 1 then a1 else if k = 2 then a2 else if k = 3 then a3 else a4, fun B => ⟨⟨⟨fun k q hq => ?_, fun k q hq => ?_⟩, fun w hw => ?_⟩, va_AO.of (hts _ ao_3), va_AO.of (hts _ ao_4)⟩⟩
  · match k, hq with
    | 0, hq => cases hq; exact hKn0
    | 1, hq => cases hq; exact hKn1
    | 2, hq => cases hq; exact hKn2
    | 3, hq => cases hq; exact hKn3
    | 4, hq => cases hq; exact hKn4
    | 5, hq => cases hq; exact hKn5
    | 6, hq => cases hq; exact hKn6
    | 7, hq => cases hq; exact hKn7
    | 8, hq => cases hq; exact hKn8
    | k + 9, hq => simp [vwCl] at hq
  · match k, hq with
    | 0, hq => cases hq; exact ⟨fun n z => ⟨(fun _ h => by cases h), k0, g0, m0, h0⟩, f0⟩
    | 1, hq => cases hq; exact ⟨fun n z => ⟨(fun _ h => by cases h), k1, g1, m1, h1⟩, f1⟩
    | 2, hq => cases hq; exact ⟨fun n z => ⟨(fun _ h => by cases h), k2, g2, m2, h2⟩, f2⟩
    | 3, hq => cases hq; exact ⟨fun n z => ⟨(fun _ h => by cases h), k3, g3, m3, h3⟩, k3, m3, g3, h3, e3, f3⟩
    | 4, hq => cases hq; exact ⟨fun n z => ⟨(fun _ h => by cases h), k4, g4, m4, h4⟩, k4, m4, g4, h4, e4, f4⟩
    | k + 5, hq => simp [g_tys] at hq
  · have h1 := hts w (List.mem_append_right _ (List.mem_filter.mp hw).1)
    rcases gN_form hw with ⟨a, i, b, n, d, h', rfl⟩ | ⟨a, i, x, h', rfl⟩
    · exact va_Nw.of rfl h1
    · exact va_Nw.of rfl h1

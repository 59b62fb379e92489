/-! the reference's orders -/
def FrI (j : Nat) (T T' : gS) : Prop := (∀ i k, i ≠ j → T'.1 i k = T.1 i k) ∧ T'.2 = T.2
theorem FrI.rf (j : Nat) (S : gS) : FrI j S S := ⟨fun _ _ _ => rfl, rfl⟩
theorem FrI.tr {j : Nat} {S0 S1 S2 : gS} (h1 : FrI j S0 S1) (h2 : FrI j S1 S2) : FrI j S0 S2 := ⟨fun i k h => (h2.1 i k h).trans (h1.1 i k h), h2.2.trans h1.2⟩
theorem codes_spec {F n : Nat} {T : gS} (hF : 100 < F) (hn : n ≤ 5) (h12 : T.1 51 12 = nI n) : fX8_codes F T = some (nI (n ^ n), T) := by
  have := fix_for (body := fun k4 s => bX8_codes_4 F k4 s.1 s.2.1 s.2.2) (fun c => (nI (n ^ c), nI c, T)) n (res := some (nI (n ^ n), T)) (fun c hc k => by
    show bX8_codes_4 F k (nI (n ^ c)) (nI c) T = k (nI (n ^ (c + 1)), nI (c + 1), T)
    unfold bX8_codes_4
    rw [show g_I T 51 12 = nI n from h12, if_neg (nI_ge hc (by omega)), gl_def, gl_def, pk_mul, nI_1, Nat.pow_succ]) (fun k => by
    show bX8_codes_4 F k (nI (n ^ n)) (nI n) T = _
    unfold bX8_codes_4
    rw [show g_I T 51 12 = nI n from h12, if_pos (nI_le (Nat.le_refl _) (by omega))]) (F := F) (by omega)
  exact this
theorem one_shl : ∀ d, d < 5 → (1 : Int32) <<< (nI d &&& 31) = nI (2 ^ d) := by decide +kernel
theorem or_32 : ∀ a, a < 32 → ∀ b, b < 32 → nI a ||| nI b = nI (a ||| b) := by decide +kernel
theorem full_n : ∀ n, n < 6 → (1 : Int32) <<< (nI n &&& 31) - 1 = nI (2 ^ n - 1) := by decide +kernel
theorem usd_lt {n c : Nat} (hn : n ≤ 5) (h0 : 0 < n) : ∀ m, usd n c m < 32 := by
  intro m
  induction m with
  | zero => exact (by decide : 0 < 32)
  | succ m ih =>
    unfold usd
    have h1 : dgm n c m < 5 := by
      have : (c / n ^ m) % n < n := Nat.mod_lt _ h0
      unfold dgm; omega
    exact Nat.or_lt_two_pow (n := 5) ih (Nat.pow_lt_pow_right (by decide) h1)
theorem isOrder_loop {F n c : Nat} (hn : n ≤ 5) (hc : c < 2 ^ 31) : ∀ (m j fu : Nat) (T : gS), m + j = n → T.1 51 12 = nI n → (∀ k, m ≤ k → k < n → T.1 70 k = nI (dgm n c (n - 1 - k))) →
    ∃ T', g_fix (fun k12 s => bX8_isOrder_12 F k12 s.1 s.2.1 s.2.2.1 s.2.2.2) (fu + m + 1) (nI (usd n c j), nI (c / n ^ j), dI m, T) = some ((if isP n c then 1 else 0), T') ∧ (∀ k, k < n → T'.1 70 k = nI (dgm n c (n - 1 - k))) ∧ FrI 70 T T' := by
  intro m
  induction m with
  | zero =>
    intro j fu T hj h12 hk
    have : j = n := by omega
    subst this
    refine ⟨T, ?_, fun k hk2 => hk k (Nat.zero_le _) hk2, FrI.rf 70 T⟩
    rw [fix_s]
    show bX8_isOrder_12 F _ (nI (usd j c j)) (nI (c / j ^ j)) (-1) T = _
    unfold bX8_isOrder_12
    rw [if_pos (by decide), show g_I T 51 12 = nI j from h12, full_n j (by omega)]
    have hu : usd j c j < 2 ^ 31 := by
      by_cases q : j = 0
      · subst q; exact (by decide : (0 : Nat) < 2 ^ 31)
      · have := usd_lt (c := c) hn (by omega) j; omega
    have hp : 2 ^ j ≤ 2 ^ 5 := Nat.pow_le_pow_right (by decide) hn
    unfold isP
    by_cases q : usd j c j = 2 ^ j - 1
    · rw [if_pos (by rw [q]), if_pos (by rw [q]; simp)]
    · rw [if_neg (fun z => q (nI_inj hu (by omega) z)), if_neg (by simpa using q)]
  | succ m ih =>
    intro j fu T hj h12 hk
    have h0 : 0 < n := by omega
    have hd : dgm n c j < 5 := by
      have : (c / n ^ j) % n < n := Nat.mod_lt _ h0
      unfold dgm; omega
    have hcj : c / n ^ j < 2 ^ 31 := Nat.lt_of_le_of_lt (Nat.div_le_self _ _) hc
    obtain ⟨T', e1, e2, e3⟩ := ih (j + 1) fu (g_setI T 70 m (nI (dgm n c j))) (by omega) (by rw [rI_ne _ _ (Or.inl (by decide))]; exact h12) (fun k h1 h2 => by
      by_cases q : k = m
      · subst q
        rw [rI_same, show n - 1 - k = j by omega]
      · rw [rI_ne _ _ (Or.inr q)]; exact hk k (by omega) h2)
    refine ⟨T', ?_, e2, FrI.tr ⟨fun i k hi => rI_ne _ _ (Or.inl hi), rfl⟩ e3⟩
    rw [← e1]
    show g_fix _ (fu + m + 1 + 1) _ = _
    rw [fix_s]
    show bX8_isOrder_12 F (g_fix (fun k12 s => bX8_isOrder_12 F k12 s.1 s.2.1 s.2.2.1 s.2.2.2) (fu + m + 1)) (nI (usd n c j)) (nI (c / n ^ j)) (nI m) T = _
    have x12 : g_I T 51 12 = nI n := h12
    have nz : ¬ nI n = 0 := nI_ne0 h0 (by omega)
    have x12' : ∀ v, g_I (g_setI T 70 m v) 51 12 = nI n := fun v => (rI_ne _ _ (Or.inl (by decide))).trans h12
    have x70 : ∀ v, g_I (g_setI T 70 m v) 70 m = v := fun v => rI_same _ _ _ _
    generalize g_fix (fun k12 s => bX8_isOrder_12 F k12 s.1 s.2.1 s.2.2.1 s.2.2.2) (fu + m + 1) = K
    unfold bX8_isOrder_12
    rw [if_neg (nI_pos (by omega)), x12, nz_ok nz, chk_nI (show m < 5 by omega) (by decide), gl_def, nI_clamp (show m < 2 ^ 31 by omega), x12', nz_ok nz, gl_def, chk_nI (show m < 5 by omega) (by decide), gl_def, gl_def, pk_rem hcj h0 (by omega), x70, pk_div hcj h0 (by omega)]
    rw [show nI m + -1 = dI m from dI_m1 m, show c / n ^ j % n = dgm n c j from rfl, one_shl _ hd, or_32 _ (usd_lt hn h0 j) _ (Nat.pow_lt_pow_right (n := 5) (by decide) hd), Nat.div_div_eq_div_mul, ← Nat.pow_succ]
    rfl
theorem fl_rowOf {n c k : Nat} (hk : k < n) : fl (rowOf n c) k = dgm n c (n - 1 - k) := fl_tab hk
theorem rowOf_len (n c : Nat) : (rowOf n c).length = n := by unfold rowOf; rw [List.length_map, List.length_range]
theorem rowOf_lt {n c : Nat} : ∀ w, w ∈ rowOf n c → w < n := by
  intro w hw
  unfold rowOf at hw
  obtain ⟨k, hk, rfl⟩ := List.mem_map.mp hw
  have := List.mem_range.mp hk
  exact Nat.mod_lt _ (by omega)
def RowM (n : Nat) (f : Nat → Nat) (T : gS) : Prop := ∀ k, k < n → T.1 70 k = nI (f k)
theorem isOrder_spec {F n c : Nat} {T : gS} (hF : 100 < F) (hn : n ≤ 5) (hc : c < 2 ^ 31) (h12 : T.1 51 12 = nI n) : ∃ T', fX8_isOrder F (nI c) T = some ((if isP n c then 1 else 0), T') ∧ RowM n (fl (rowOf n c)) T' ∧ FrI 70 T T' := by
  obtain ⟨T', e1, e2, e3⟩ := isOrder_loop (F := F) hn hc n 0 (F - n - 1) T (by omega) h12 (fun k a b => by omega)
  refine ⟨T', ?_, fun k hk => by rw [fl_rowOf hk]; exact e2 k hk, e3⟩
  rw [show F - n - 1 + n + 1 = F by omega] at e1
  unfold fX8_isOrder
  rw [gl_def, ← e1, show g_I T 51 12 = nI n from h12]
  have : nI n - 1 = dI n := by
    cases n with
    | zero => rfl
    | succ m => exact nI_pred m
  rw [this, Nat.pow_zero, Nat.div_one]
  rfl
theorem keepsRow_spec {F n : Nat} {f : Nat → Nat} {T : gS} (hF : 100 < F) (hn : n ≤ 5) (h12 : T.1 51 12 = nI n) (hR : RowM n f T) : ∃ T', fX8_keepsRow F T = some T' ∧ (∀ k, k < n → T'.1 71 k = nI (f k)) ∧ FrI 71 T T' := by
  obtain ⟨x, ⟨T', h1, h2, h3⟩, hx⟩ := fix_up (body := fun k2 s => bX8_keepsRow_2 F k2 s.1 s.2) n (fun c s => ∃ T', s = (nI c, T') ∧ (∀ k, k < c → T'.1 71 k = nI (f k)) ∧ FrI 71 T T') (fun x => ∃ T', x = some T' ∧ (∀ k, k < n → T'.1 71 k = nI (f k)) ∧ FrI 71 T T')
    (by
      rintro c s hc ⟨T', rfl, h1, h2⟩
      refine Or.inl ⟨(nI (c + 1), g_setI T' 71 c (nI (f c))), ⟨_, rfl, fun k hk => ?_, h2.tr ⟨fun i k hi => rI_ne _ _ (Or.inl hi), rfl⟩⟩, fun k => ?_⟩
      · by_cases q : k = c
        · subst q; exact rI_same _ _ _ _
        · rw [rI_ne _ _ (Or.inr q)]; exact h1 k (by omega)
      · show bX8_keepsRow_2 F k (nI c) T' = _
        unfold bX8_keepsRow_2
        rw [show g_I T' 51 12 = nI n from (h2.1 51 12 (by decide)).trans h12, if_neg (nI_ge hc (by omega)), chk_nI (show c < 5 by omega) (by decide), chk_nI (show c < 5 by omega) (by decide), gl_def, gl_def, nI_clamp (show c < 2 ^ 31 by omega), nI_1, show g_I T' 70 c = nI (f c) from (h2.1 70 c (by decide)).trans (hR c hc)])
    (by
      rintro s ⟨T', rfl, h1, h2⟩
      refine ⟨_, ⟨T', rfl, h1, h2⟩, fun k => ?_⟩
      show bX8_keepsRow_2 F k (nI n) T' = _
      unfold bX8_keepsRow_2
      rw [show g_I T' 51 12 = nI n from (h2.1 51 12 (by decide)).trans h12, if_pos (nI_le (Nat.le_refl _) (by omega))])
    F (0, T) ⟨T, rfl, fun k hk => by omega, FrI.rf 71 T⟩ (by omega)
  exact ⟨T', by rw [← h1, ← hx]; rfl, h2, h3⟩
theorem walks_ok {F nW w : Nat} {Wl hid : Int64} {A B : Nat → Nat} {T : gS} (hF : 20000000 < F) (hn : nW ≤ 8) (hw : w < nW) (h : GdT nW Wl hid A B T) : ∃ T', fX8_walks F (nI w) T = some T' ∧ GdT nW Wl hid A B T' ∧ FrW2 T T' := by
  obtain ⟨ok, S', T', g1, g2, g3, g4, g5, g6, g7⟩ := go_stage (F := F) (S := mkS Wl T) hF ⟨by decide, by decide⟩ hn hw h rfl (mkS_TR h.2.2)
  exact ⟨T', g2, g5, g6⟩
theorem rowLoop {F n : Nat} {Wl hid : Int64} {A B : Nat → Nat} {Tb Tc : gS} {r : List Nat} (hF : 20000000 < F) (hn : n ≤ 5) (hTb : GdT n Wl hid A B Tb) (h12 : Tc.1 51 12 = nI n) (hR : RowM n (fl r) Tc) (hr : r.length = n) (hrl : ∀ w, w ∈ r → w < n) : ∀ (j k fu : Nat) (T : gS), k + j = n → FrW2 Tc T → GdT n Wl hid A B T → CT (RT F Tb (r.take k)) T →
    ∃ T', g_fix (fun k6 s => bX8_triesRow_6 F k6 s.1 s.2) (fu + j + 1) (nI k, T) = some T' ∧ FrW2 Tc T' ∧ GdT n Wl hid A B T' ∧ CT (RT F Tb r) T' := by
  intro j
  induction j with
  | zero =>
    intro k fu T hk hf hG hC
    have : k = n := by omega
    subst this
    refine ⟨T, ?_, hf, hG, by rw [take_all hr] at hC; exact hC⟩
    rw [fix_s]
    show bX8_triesRow_6 F _ (nI k) T = _
    unfold bX8_triesRow_6
    rw [show g_I T 51 12 = nI k from (hf.1 51 12 (by decide) (by decide) (by decide) (by decide) (by decide) (by decide) (Or.inr (by decide))).trans h12, if_pos (nI_le (Nat.le_refl _) (by omega))]
  | succ j ih =>
    intro k fu T hk hf hG hC
    have hkr : k < r.length := by omega
    have hw : fl r k < n := hrl _ (fl_mem hkr)
    obtain ⟨T1, w1, w2, w3⟩ := walks_ok (F := F) hF (by omega) hw hG
    obtain ⟨i1, -⟩ := RT_ok (F := F) hF (show n ≤ 8 by omega) (r.take k) Tb hTb (fun w hw => hrl w (List.mem_of_mem_take hw))
    have hst := RT_step (F := F) hF (show n ≤ 8 by omega) hTb (l := r.take k) (fun w hw => hrl w (List.mem_of_mem_take hw)) hw
    have hC1 := walks_det hF (by omega) hw i1 hG hC hst w1
    rw [← take_snoc hkr] at hC1
    obtain ⟨T', g1, g2⟩ := ih (k + 1) fu T1 (by omega) (hf.tr w3) w2 hC1
    refine ⟨T', ?_, g2⟩
    rw [← g1]
    show g_fix _ (fu + j + 1 + 1) _ = _
    rw [fix_s]
    show bX8_triesRow_6 F (g_fix (fun k6 s => bX8_triesRow_6 F k6 s.1 s.2) (fu + j + 1)) (nI k) T = _
    have f70 : g_I T 70 k = nI (fl r k) := (hf.1 70 k (by decide) (by decide) (by decide) (by decide) (by decide) (by decide) (Or.inl (by decide))).trans (hR k (by omega))
    unfold bX8_triesRow_6
    rw [show g_I T 51 12 = nI n from (hf.1 51 12 (by decide) (by decide) (by decide) (by decide) (by decide) (by decide) (Or.inr (by decide))).trans h12, if_neg (nI_ge (by omega) (by omega)), chk_nI (show k < 5 by omega) (by decide), nI_clamp (show k < 2 ^ 31 by omega), f70, w1, Option.bind_some, gl_def, nI_1]
/-- what the search through the orders leaves -/
def FrL (T T' : gS) : Prop := (∀ i k, (i < 64 ∨ 71 < i) → (i ≠ 51 ∨ (k < 20 ∨ k = 25 ∨ (30 < k ∧ k < 34) ∨ 35 < k)) → T'.1 i k = T.1 i k) ∧ T'.2 = T.2
theorem FrL.rf (S : gS) : FrL S S := ⟨fun _ _ _ _ => rfl, rfl⟩
theorem FrL.tr {S0 S1 S2 : gS} (h1 : FrL S0 S1) (h2 : FrL S1 S2) : FrL S0 S2 := ⟨fun i k a b => (h2.1 i k a b).trans (h1.1 i k a b), h2.2.trans h1.2⟩
theorem FrW2.l {T T' : gS} (h : FrW2 T T') : FrL T T' := ⟨fun i k a b => h.1 i k (by omega) (by omega) (by omega) (by omega) (by omega) (by omega) (by omega), h.2⟩
theorem FrI.l {j : Nat} {T T' : gS} (hj : 64 ≤ j ∧ j ≤ 71) (h : FrI j T T') : FrL T T' := ⟨fun i k a b => h.1 i k (by omega), h.2⟩
theorem FrL.s {T : gS} {k : Nat} {v : Int32} (hk : 20 ≤ k ∧ k ≠ 25 ∧ (k ≤ 30 ∨ 34 ≤ k) ∧ k ≤ 35) : FrL T (g_setI T 51 k v) := ⟨fun i k' a b => rI_ne _ _ (by omega), rfl⟩
theorem FrL.fm {T T' : gS} (h : FrL T T') : FM T T' := ⟨fun i k hp => h.1 i k (by unfold per at hp; omega) (by unfold per at hp; omega), h.2⟩
/-- the beginning, as all tries have it -/
def Bas (n : Nat) (Wl hid : Int64) (A B : Nat → Nat) (Tb : gS) : Prop := GdT n Wl hid A B Tb ∧ Tb.1 51 12 = nI n ∧ (∀ c, c < 64 → Tb.1 64 c = Tb.1 58 c ∧ Tb.1 66 c = 0) ∧ Tb.1 51 21 = 0 ∧ Tb.1 51 22 = 0 ∧ Tb.1 51 23 = 0
theorem Bas.bd {n : Nat} {Wl hid : Int64} {A B : Nat → Nat} {Tb : gS} (h : Bas n Wl hid A B Tb) : Bd 0 Tb := ⟨fun c hc => ⟨0, Nat.le_refl _, (h.2.2.1 c hc).2⟩, 0, Nat.le_refl _, h.2.2.2.1⟩
theorem triesRow_spec {F n : Nat} {Wl hid : Int64} {A B : Nat → Nat} {Tb T : gS} {r : List Nat} (hF : 20000000 < F) (hn : n ≤ 5) (hB : Bas n Wl hid A B Tb) (hf : FrL Tb T) (hR : RowM n (fl r) T) (hr : r.length = n) (hrl : ∀ w, w ∈ r → w < n) :
    ∃ T', fX8_triesRow F T = some T' ∧ FrW2 T T' ∧ CT (RT F Tb r) T' := by
  obtain ⟨hG, h12, h64, h21, h22, h23⟩ := hB
  obtain ⟨Tc, b1, b2, b3, b4, b5, b6, b7⟩ := begins_spec (F := F) (T := T) (by omega)
  have fc : FrL Tb Tc := hf.tr b2.w2.l
  have hGc : GdT n Wl hid A B Tc := by
    refine ⟨fun c hc => ?_, fun w hw => ?_, fun c hc => ?_⟩
    · have := hG.1 c hc
      unfold hidM at this ⊢
      rw [fc.1 57 c (by omega) (by omega), fc.1 51 19 (by omega) (by omega)]
      exact this
    · rw [fc.1 62 w (by omega) (by omega), fc.1 63 w (by omega) (by omega)]; exact hG.2.1 w hw
    · rw [(b3 c hc).1, hf.1 58 c (by omega) (by omega), ← (h64 c hc).1]; exact hG.2.2 c hc
  have hC : CT (RT F Tb (r.take 0)) Tc := by
    show CT Tb Tc
    refine ⟨fun c hc => ⟨?_, ?_⟩, by rw [h21, b4], by rw [h22, b5], by rw [h23, b6]⟩
    · rw [(b3 c hc).1, hf.1 58 c (by omega) (by omega), ← (h64 c hc).1]
    · rw [(b3 c hc).2.2, (h64 c hc).2]
  obtain ⟨T', g1, g2, g3, g4⟩ := rowLoop (F := F) (Tc := Tc) (r := r) hF hn hG ((fc.1 51 12 (by omega) (by omega)).trans h12) (fun k hk => by rw [b2.w2.1 70 k (by decide) (by decide) (by decide) (by decide) (by decide) (by decide) (Or.inl (by decide))]; exact hR k hk) hr hrl n 0 (F - n - 1) Tc (by omega) (FrW2.rf Tc) hGc hC
  refine ⟨T', ?_, b2.w2.tr g2, g4⟩
  rw [show F - n - 1 + n + 1 = F by omega] at g1
  unfold fX8_triesRow
  rw [b1, Option.bind_some]
  exact g1
theorem rowsTo_succ (n c : Nat) : rowsTo n (c + 1) = if isP n c then rowsTo n c ++ [rowOf n c] else rowsTo n c := by
  unfold rowsTo
  rw [List.range_succ, List.filter_append, List.map_append]
  by_cases q : isP n c = true
  · rw [if_pos q, List.filter_cons_of_pos q]; rfl
  · rw [if_neg q, List.filter_cons_of_neg q]
    simp
theorem pow_small : ∀ n, n < 6 → n ^ n < 4000 := by decide +kernel
/-- orders: what the reference keeps -/
def Mn (E : List Nat → Int32) (n : Nat) (d : List (List Nat)) (T : gS) : Prop := T.1 51 29 = (oF E d).1 ∧ T.1 51 30 = (oF E d).2.1 ∧ (d ≠ [] → ∀ k, k < n → T.1 71 k = nI (fl (oF E d).2.2 k))
theorem Mn.fr {E : List Nat → Int32} {n : Nat} {d : List (List Nat)} {T T' : gS} (h : Mn E n d T) (h29 : T'.1 51 29 = T.1 51 29) (h30 : T'.1 51 30 = T.1 51 30) (h71 : ∀ k, T'.1 71 k = T.1 71 k) : Mn E n d T' := ⟨h29.trans h.1, h30.trans h.2.1, fun z k hk => (h71 k).trans (h.2.2 z k hk)⟩
theorem ord_step {F n c : Nat} {Wl hid : Int64} {A B : Nat → Nat} {Tb T : gS} (hF : 20000000 < F) (hn : n ≤ 5) (hB : Bas n Wl hid A B Tb) (hf : FrL Tb T) (hc : c < n ^ n) (hM : Mn (Ef F Tb) n (rowsTo n c) T) (hne : rowsTo n c ≠ [] → ¬ (oF (Ef F Tb) (rowsTo n c)).1 = -1) :
    ∃ T', (∀ k, bX8_findOrders_16 F k (nI c) T = k (nI (c + 1), T')) ∧ FrL Tb T' ∧ Mn (Ef F Tb) n (rowsTo n (c + 1)) T' ∧ (rowsTo n (c + 1) ≠ [] → ¬ (oF (Ef F Tb) (rowsTo n (c + 1))).1 = -1) := by
  have hsm := pow_small n (by omega)
  have h12 : T.1 51 12 = nI n := (hf.1 51 12 (by omega) (by omega)).trans hB.2.1
  obtain ⟨T1, i1, i2, i3⟩ := isOrder_spec (F := F) (c := c) (by omega) hn (by omega) h12
  have f1 : FrL Tb T1 := hf.tr (i3.l ⟨by decide, by decide⟩)
  have e16 : ∀ k, bX8_findOrders_16 F k (nI c) T = if (if isP n c then (1 : Int32) else 0) = 0 then (bX8_findOrders_93 F k (nI c) T1) else ((fX8_triesRow F T1).bind (fun q5 : gS => if (g_I q5 51 29) = (-1 : Int32) then (bX8_findOrders_55 F k (nI c) q5) else (if (g_I q5 51 29) ≤ (g_I q5 51 21) then (bX8_findOrders_67 F k (nI c) q5) else (bX8_findOrders_55 F k (nI c) q5)))) := fun k => by
    unfold bX8_findOrders_16
    rw [codes_spec (by omega) hn h12, Option.bind_some, if_neg (nI_ge hc (by omega)), i1, Option.bind_some]
  have m1 : Mn (Ef F Tb) n (rowsTo n c) T1 := hM.fr (i3.1 51 29 (by decide)) (i3.1 51 30 (by decide)) (fun k => i3.1 71 k (by decide))
  rw [rowsTo_succ]
  by_cases q : isP n c = true
  · rw [if_pos q]
    have hr := rowOf_len n c
    have hrl : ∀ w, w ∈ rowOf n c → w < n := rowOf_lt
    obtain ⟨e, ee1, ee2⟩ := Ef_nat (F := F) hF hn hB.1 hB.bd hr hrl
    have hm1 : ¬ Ef F Tb (rowOf n c) = -1 := by rw [ee2]; exact nI_nm1 ee1
    obtain ⟨T2, t1, t2, t3⟩ := triesRow_spec (F := F) hF hn hB f1 i2 hr hrl
    have hE : T2.1 51 21 = Ef F Tb (rowOf n c) := t3.2.1.symm
    have f2 : FrL Tb T2 := f1.tr t2.l
    have k29 : T2.1 51 29 = (oF (Ef F Tb) (rowsTo n c)).1 := (t2.1 51 29 (by decide) (by decide) (by decide) (by decide) (by decide) (by decide) (Or.inr (by decide))).trans m1.1
    have k30 : T2.1 51 30 = (oF (Ef F Tb) (rowsTo n c)).2.1 := (t2.1 51 30 (by decide) (by decide) (by decide) (by decide) (by decide) (by decide) (Or.inr (by decide))).trans m1.2.1
    have k71 : rowsTo n c ≠ [] → ∀ k, k < n → T2.1 71 k = nI (fl (oF (Ef F Tb) (rowsTo n c)).2.2 k) := fun z k hk => (t2.1 71 k (by decide) (by decide) (by decide) (by decide) (by decide) (by decide) (Or.inl (by decide))).trans (m1.2.2 z k hk)
    have kR : RowM n (fl (rowOf n c)) T2 := fun k hk => (t2.1 70 k (by decide) (by decide) (by decide) (by decide) (by decide) (by decide) (Or.inl (by decide))).trans (i2 k hk)
    have k12 : T2.1 51 12 = nI n := (f2.1 51 12 (by omega) (by omega)).trans hB.2.1
    have h67 : ∀ U : gS, U.1 51 21 = Ef F Tb (rowOf n c) → ∀ k, bX8_findOrders_67 F k (nI c) U = k (nI (c + 1), g_setI U 51 30 (if Ef F Tb (rowOf n c) ≤ U.1 51 30 then U.1 51 30 else Ef F Tb (rowOf n c))) := by
      intro U hU k
      unfold bX8_findOrders_67 bX8_findOrders_90 bX8_findOrders_93
      rw [show g_I U 51 21 = Ef F Tb (rowOf n c) from hU]
      simp only [gl_def, nI_1]
      by_cases q2 : Ef F Tb (rowOf n c) ≤ U.1 51 30
      · rw [if_pos (show Ef F Tb (rowOf n c) ≤ g_I U 51 30 from q2), if_pos q2]
      · rw [if_neg (show ¬ Ef F Tb (rowOf n c) ≤ g_I U 51 30 from q2), if_neg q2]
    obtain ⟨T3, v1, v2, v3⟩ := keepsRow_spec (F := F) (f := fl (rowOf n c)) (T := g_setI T2 51 29 (Ef F Tb (rowOf n c))) (by omega) hn (by rw [rI_ne _ _ (Or.inr (by decide))]; exact k12) (fun k hk => by rw [rI_ne _ _ (Or.inl (by decide))]; exact kR k hk)
    have z3 : ∀ i k, i ≠ 71 → (i ≠ 51 ∨ k ≠ 29) → T3.1 i k = T2.1 i k := fun i k a b => by rw [v3.1 i k a, rI_ne _ _ b]
    have h55 : ∀ k, bX8_findOrders_55 F k (nI c) T2 = k (nI (c + 1), g_setI T3 51 30 (if Ef F Tb (rowOf n c) ≤ T2.1 51 30 then T2.1 51 30 else Ef F Tb (rowOf n c))) := fun k => by
      unfold bX8_findOrders_55
      rw [gl_def, show g_I T2 51 21 = Ef F Tb (rowOf n c) from hE, v1, Option.bind_some, h67 T3 ((z3 51 21 (by decide) (Or.inr (by decide))).trans hE) k, z3 51 30 (by decide) (Or.inr (by decide))]
    have hnz : ¬ (1 : Int32) = 0 := by decide
    by_cases qa : (oF (Ef F Tb) (rowsTo n c)).1 = -1 ∨ ¬ (oF (Ef F Tb) (rowsTo n c)).1 ≤ Ef F Tb (rowOf n c)
    · refine ⟨g_setI T3 51 30 (if Ef F Tb (rowOf n c) ≤ T2.1 51 30 then T2.1 51 30 else Ef F Tb (rowOf n c)), fun k => ?_, ?_, ?_, fun _ => ?_⟩
      · rw [e16, if_pos q, if_neg hnz, t1, Option.bind_some, show g_I T2 51 29 = _ from k29, show g_I T2 51 21 = _ from hE, h55]
        rcases qa with qa | qa
        · rw [if_pos qa]
        · by_cases qb : (oF (Ef F Tb) (rowsTo n c)).1 = -1
          · rw [if_pos qb]
          · rw [if_neg qb, if_neg qa]
      · exact (f2.tr (FrL.s ⟨by decide, by decide, by decide, by decide⟩)).tr ((v3.l ⟨by decide, by decide⟩).tr (FrL.s ⟨by decide, by decide, by decide, by decide⟩))
      · unfold Mn
        rw [oF_snoc]
        unfold oStep
        refine ⟨?_, ?_, fun _ k hk => ?_⟩
        · rw [rI_ne _ _ (Or.inr (by decide)), v3.1 51 29 (by decide), rI_same]
          rcases qa with qa | qa
          · rw [if_pos qa]
          · by_cases qb : (oF (Ef F Tb) (rowsTo n c)).1 = -1
            · rw [if_pos qb]
            · rw [if_neg qb, if_neg qa]
        · rw [rI_same, k30]
        · rw [rI_ne _ _ (Or.inl (by decide)), v2 k hk]
          rcases qa with qa | qa
          · simp only [if_pos qa]
          · by_cases qb : (oF (Ef F Tb) (rowsTo n c)).1 = -1
            · simp only [if_pos qb]
            · simp only [if_neg qb, if_neg qa]
      · rw [oF_snoc]
        unfold oStep
        show ¬ (if _ then _ else _) = (-1 : Int32)
        rcases qa with qa | qa
        · rw [if_pos qa]; exact hm1
        · by_cases qb : (oF (Ef F Tb) (rowsTo n c)).1 = -1
          · rw [if_pos qb]; exact hm1
          · rw [if_neg qb, if_neg qa]; exact hm1
    · have qb : ¬ (oF (Ef F Tb) (rowsTo n c)).1 = -1 := fun z => qa (Or.inl z)
      have qc : (oF (Ef F Tb) (rowsTo n c)).1 ≤ Ef F Tb (rowOf n c) := Decidable.byContradiction (fun z => qa (Or.inr z))
      have hd : rowsTo n c ≠ [] := fun z => qb (by rw [z]; rfl)
      refine ⟨g_setI T2 51 30 (if Ef F Tb (rowOf n c) ≤ T2.1 51 30 then T2.1 51 30 else Ef F Tb (rowOf n c)), fun k => ?_, ?_, ?_, fun _ => ?_⟩
      · rw [e16, if_pos q, if_neg hnz, t1, Option.bind_some, show g_I T2 51 29 = _ from k29, show g_I T2 51 21 = _ from hE, if_neg qb, if_pos qc, h67 T2 hE]
      · exact f2.tr (FrL.s ⟨by decide, by decide, by decide, by decide⟩)
      · unfold Mn
        rw [oF_snoc]
        unfold oStep
        refine ⟨?_, ?_, fun _ k hk => ?_⟩
        · rw [rI_ne _ _ (Or.inr (by decide)), k29, if_neg qb, if_pos qc]
        · rw [rI_same, k30]
        · rw [rI_ne _ _ (Or.inl (by decide))]; simp only [if_neg qb, if_pos qc]; exact k71 hd k hk
      · rw [oF_snoc]
        unfold oStep
        show ¬ (if _ then _ else _) = (-1 : Int32)
        rw [if_neg qb, if_pos qc]; exact qb
  · rw [if_neg q]
    refine ⟨T1, fun k => ?_, f1, m1, hne⟩
    rw [e16, if_neg q, if_pos rfl]
    unfold bX8_findOrders_93
    rw [gl_def, nI_1]
theorem findOrders_spec {F n : Nat} {Wl hid : Int64} {A B : Nat → Nat} {T Tb : gS} (hF : 20000000 < F) (hn : n ≤ 5) (hB : Bas n Wl hid A B Tb) (ht : fX8_tries F T = some Tb) : ∃ T', fX8_findOrders F T = some T' ∧ FrL Tb T' ∧ Mn (Ef F Tb) n (rowsTo n (n ^ n)) T' := by
  have hsm := pow_small n (by omega)
  obtain ⟨x, ⟨T', h1, h2, h3⟩, hx⟩ := fix_up (body := fun k16 s => bX8_findOrders_16 F k16 s.1 s.2) (n ^ n) (fun c s => ∃ T', s = (nI c, T') ∧ FrL Tb T' ∧ Mn (Ef F Tb) n (rowsTo n c) T' ∧ (rowsTo n c ≠ [] → ¬ (oF (Ef F Tb) (rowsTo n c)).1 = -1)) (fun x => ∃ T', x = some T' ∧ FrL Tb T' ∧ Mn (Ef F Tb) n (rowsTo n (n ^ n)) T')
    (by
      rintro c s hc ⟨T', rfl, h1, h2, h3⟩
      obtain ⟨T2, g1, g2⟩ := ord_step hF hn hB h1 hc h2 h3
      exact Or.inl ⟨(nI (c + 1), T2), ⟨T2, rfl, g2⟩, g1⟩)
    (by
      rintro s ⟨T', rfl, h1, h2, h3⟩
      refine ⟨_, ⟨T', rfl, h1, h2⟩, fun k => ?_⟩
      show bX8_findOrders_16 F k (nI (n ^ n)) T' = _
      unfold bX8_findOrders_16
      rw [codes_spec (by omega) hn ((h1.1 51 12 (by omega) (by omega)).trans hB.2.1), Option.bind_some, if_pos (nI_le (Nat.le_refl _) (by omega))])
    F (0, g_setI (g_setI Tb 51 29 (-1)) 51 30 (-1)) ⟨_, rfl, (FrL.s ⟨by decide, by decide, by decide, by decide⟩).tr (FrL.s ⟨by decide, by decide, by decide, by decide⟩), ⟨by rw [rI_ne _ _ (Or.inr (by decide)), rI_same]; rfl, by rw [rI_same]; rfl, fun z => absurd rfl z⟩, fun z => absurd rfl z⟩ (by omega)
  refine ⟨T', ?_, h2, h3⟩
  unfold fX8_findOrders
  rw [ht, Option.bind_some, gl_def, gl_def, ← h1, ← hx]
  rfl
/-- towers: what the reference keeps -/
def Ms (n : Nat) (P : List Nat → Bool) (d : List (List Nat)) (T : gS) : Prop := T.1 51 34 = (wF n P d).1 ∧ T.1 51 35 = (wF n P d).2.1 ∧ (¬ (wF n P d).1 = 0 → ∀ k, k < n → T.1 71 k = nI (fl (wF n P d).2.2 k))
theorem tow_step {F n c s sz : Nat} {Wl hid : Int64} {A B : Nat → Nat} {Tb T : gS} {X : Nat → Int32} (hF : 20000000 < F) (hn : n ≤ 5) (hB : Bas n Wl hid A B Tb) (hs : s < 4) (hsz : sz ≤ 64) (h53 : Tb.1 53 s = nI sz) (hX : ∀ i, i < sz → Tb.1 54 (64 * s + i) = X i) (hf : FrL Tb T) (hc : c < n ^ n) (hM : Ms n (Pf F Tb X sz) (rowsTo n c) T) :
    ∃ T', (∀ k, bX8_findTower_16 F k (nI s) (nI c) T = k (nI s, nI (c + 1), T')) ∧ FrL Tb T' ∧ Ms n (Pf F Tb X sz) (rowsTo n (c + 1)) T' := by
  have hsm := pow_small n (by omega)
  have h12 : T.1 51 12 = nI n := (hf.1 51 12 (by omega) (by omega)).trans hB.2.1
  obtain ⟨T1, i1, i2, i3⟩ := isOrder_spec (F := F) (c := c) (by omega) hn (by omega) h12
  have f1 : FrL Tb T1 := hf.tr (i3.l ⟨by decide, by decide⟩)
  have m1 : Ms n (Pf F Tb X sz) (rowsTo n c) T1 := ⟨(i3.1 51 34 (by decide)).trans hM.1, (i3.1 51 35 (by decide)).trans hM.2.1, fun z k hk => (i3.1 71 k (by decide)).trans (hM.2.2 z k hk)⟩
  have e16 : ∀ k, bX8_findTower_16 F k (nI s) (nI c) T = if (if isP n c then (1 : Int32) else 0) = 0 then (bX8_findTower_93 F k (nI s) (nI c) T1) else ((fX8_triesRow F T1).bind (fun q5 : gS => (fX8_isPicture F (nI s) q5).bind (fun q6 : Int32 × gS => if q6.1 = 0 then (bX8_findTower_93 F k (nI s) (nI c) q6.2) else (if (g_I q6.2 51 34) = 0 then ((fX8_keepsRow F q6.2).bind (fun q9 : gS => bX8_findTower_55 F k (nI s) (nI c) q9)) else (bX8_findTower_55 F k (nI s) (nI c) q6.2))))) := fun k => by
    unfold bX8_findTower_16
    rw [codes_spec (by omega) hn h12, Option.bind_some, if_neg (nI_ge hc (by omega)), i1, Option.bind_some]
  have e93 : ∀ k U, bX8_findTower_93 F k (nI s) (nI c) U = k (nI s, nI (c + 1), U) := fun k U => by
    unfold bX8_findTower_93
    rw [gl_def, nI_1]
  have hnz : ¬ (1 : Int32) = 0 := by decide
  rw [rowsTo_succ]
  by_cases q : isP n c = true
  · rw [if_pos q]
    have hr := rowOf_len n c
    have hrl : ∀ w, w ∈ rowOf n c → w < n := rowOf_lt
    obtain ⟨T2, t1, t2, t3⟩ := triesRow_spec (F := F) hF hn hB f1 i2 hr hrl
    have f2 : FrL Tb T2 := f1.tr t2.l
    have g2 : ∀ i k, (i < 64 ∨ 69 < i) → (i ≠ 51 ∨ 26 < k) → T2.1 i k = T1.1 i k := fun i k a b => t2.1 i k (by omega) (by omega) (by omega) (by omega) (by omega) (by omega) (by omega)
    have k34 : T2.1 51 34 = (wF n (Pf F Tb X sz) (rowsTo n c)).1 := (g2 51 34 (by decide) (by decide)).trans m1.1
    have k35 : T2.1 51 35 = (wF n (Pf F Tb X sz) (rowsTo n c)).2.1 := (g2 51 35 (by decide) (by decide)).trans m1.2.1
    have k71 : ¬ (wF n (Pf F Tb X sz) (rowsTo n c)).1 = 0 → ∀ k, k < n → T2.1 71 k = nI (fl (wF n (Pf F Tb X sz) (rowsTo n c)).2.2 k) := fun z k hk => (g2 71 k (by decide) (Or.inl (by decide))).trans (m1.2.2 z k hk)
    have kR : RowM n (fl (rowOf n c)) T2 := fun k hk => (g2 70 k (by decide) (Or.inl (by decide))).trans (i2 k hk)
    have k12 : T2.1 51 12 = nI n := (f2.1 51 12 (by omega) (by omega)).trans hB.2.1
    obtain ⟨v, v1, v2⟩ := picture_spec (F := F) (s := s) (n := sz) (T := T2) (by omega) hs hsz ((f2.1 53 s (by omega) (by omega)).trans h53)
    have hP : PicV X ((RT F Tb (rowOf n c)).1 66) sz (if Pf F Tb X sz (rowOf n c) then 1 else 0) := by
      unfold Pf
      by_cases q : ∀ i, i < sz → X i = (RT F Tb (rowOf n c)).1 66 i
      · exact Or.inl ⟨by rw [if_pos (decide_eq_true q)], q⟩
      · exact Or.inr ⟨by rw [if_neg (by simpa using q)], q⟩
    have hv : v = if Pf F Tb X sz (rowOf n c) then 1 else 0 := PicV_u v2 hP (fun i hi => (f2.1 54 _ (by omega) (by omega)).trans (hX i hi)) (fun i hi => (t3.1 i (by omega)).2.symm)
    by_cases qp : Pf F Tb X sz (rowOf n c) = true
    · rw [if_pos qp] at hv
      have e55 : ∀ U : gS, U.1 51 12 = nI n → (∀ k, k < n → U.1 70 k = nI (fl (rowOf n c) k)) → ∀ k, bX8_findTower_55 F k (nI s) (nI c) U = k (nI s, nI (c + 1), g_setI (g_setI U 51 34 (U.1 51 34 + 1)) 51 35 (U.1 51 35 ||| (if n = 0 then 0 else (1 : Int32) <<< (nI (fl (rowOf n c) 0) &&& 31)))) := by
        intro U hU hU2 k
        unfold bX8_findTower_55
        rw [gl_def, show g_I (g_setI U 51 34 (g_I U 51 34 + 1)) 51 12 = nI n from (rI_ne _ _ (Or.inr (by decide))).trans hU]
        have e89 : ∀ t0 t1 V, bX8_findTower_89 F k (nI s) (nI c) t0 t1 V = k (nI s, nI (c + 1), g_setI V 51 35 (t1 ||| t0)) := fun t0 t1 V => by
          unfold bX8_findTower_89
          rw [gl_def, e93]
        have x35 : g_I (g_setI U 51 34 (g_I U 51 34 + 1)) 51 35 = U.1 51 35 := rI_ne _ _ (Or.inr (by decide))
        rw [e89, x35]
        by_cases q0 : n = 0
        · rw [if_pos (by rw [q0]; decide), if_pos q0]
        · rw [if_neg (nI_nle (by omega) (by omega)), if_neg q0, show (0 : Int32) = nI 0 from rfl, chk_nI (show 0 < 5 by decide) (by decide), e89]
          have x70 : g_I (g_setI U 51 34 (g_I U 51 34 + 1)) 70 ((nI 0).toNatClampNeg) = nI (fl (rowOf n c) 0) := (rI_ne _ _ (Or.inl (by decide))).trans (hU2 0 (by omega))
          rw [x70]
      obtain ⟨T3, u1, u2, u3⟩ := keepsRow_spec (F := F) (f := fl (rowOf n c)) (T := T2) (by omega) hn k12 kR
      by_cases q0 : (wF n (Pf F Tb X sz) (rowsTo n c)).1 = 0
      · refine ⟨g_setI (g_setI T3 51 34 (T3.1 51 34 + 1)) 51 35 (T3.1 51 35 ||| (if n = 0 then 0 else (1 : Int32) <<< (nI (fl (rowOf n c) 0) &&& 31))), fun k => ?_, ?_, ?_⟩
        · rw [e16, if_pos q, if_neg hnz, t1, Option.bind_some, v1, Option.bind_some, if_neg (by show ¬ v = 0; rw [hv]; exact hnz), if_pos (show g_I T2 51 34 = 0 from k34.trans q0), u1, Option.bind_some]
          exact e55 T3 ((u3.1 51 12 (by decide)).trans k12) (fun k hk => (u3.1 70 k (by decide)).trans (kR k hk)) k
        · exact (f2.tr (u3.l ⟨by decide, by decide⟩)).tr ((FrL.s ⟨by decide, by decide, by decide, by decide⟩).tr (FrL.s ⟨by decide, by decide, by decide, by decide⟩))
        · unfold Ms
          rw [wF_snoc]
          unfold wStep
          rw [if_pos qp]
          refine ⟨?_, ?_, fun _ k hk => ?_⟩
          · rw [rI_ne _ _ (Or.inr (by decide)), rI_same, u3.1 51 34 (by decide), k34]
          · rw [rI_same, u3.1 51 35 (by decide), k35]
          · rw [rI_ne _ _ (Or.inl (by decide)), rI_ne _ _ (Or.inl (by decide)), u2 k hk]
            show _ = nI (fl (if (wF n (Pf F Tb X sz) (rowsTo n c)).1 = 0 then _ else _) k)
            rw [if_pos q0]
      · refine ⟨g_setI (g_setI T2 51 34 (T2.1 51 34 + 1)) 51 35 (T2.1 51 35 ||| (if n = 0 then 0 else (1 : Int32) <<< (nI (fl (rowOf n c) 0) &&& 31))), fun k => ?_, ?_, ?_⟩
        · rw [e16, if_pos q, if_neg hnz, t1, Option.bind_some, v1, Option.bind_some, if_neg (by show ¬ v = 0; rw [hv]; exact hnz), if_neg (show ¬ g_I T2 51 34 = 0 from fun z => q0 (k34.symm.trans z))]
          exact e55 T2 k12 kR k
        · exact f2.tr ((FrL.s ⟨by decide, by decide, by decide, by decide⟩).tr (FrL.s ⟨by decide, by decide, by decide, by decide⟩))
        · unfold Ms
          rw [wF_snoc]
          unfold wStep
          rw [if_pos qp]
          refine ⟨?_, ?_, fun _ k hk => ?_⟩
          · rw [rI_ne _ _ (Or.inr (by decide)), rI_same, k34]
          · rw [rI_same, k35]
          · rw [rI_ne _ _ (Or.inl (by decide)), rI_ne _ _ (Or.inl (by decide))]
            show _ = nI (fl (if (wF n (Pf F Tb X sz) (rowsTo n c)).1 = 0 then _ else _) k)
            rw [if_neg q0]; exact k71 q0 k hk
    · rw [if_neg qp] at hv
      refine ⟨T2, fun k => ?_, f2, ?_⟩
      · rw [e16, if_pos q, if_neg hnz, t1, Option.bind_some, v1, Option.bind_some, if_pos hv, e93]
      · unfold Ms
        rw [wF_snoc]
        unfold wStep
        rw [if_neg qp]
        exact ⟨k34, k35, k71⟩
  · rw [if_neg q]
    refine ⟨T1, fun k => ?_, f1, m1⟩
    rw [e16, if_neg q, if_pos rfl, e93]
theorem findTower_spec {F n s sz : Nat} {Wl hid : Int64} {A B : Nat → Nat} {T Tb : gS} {X : Nat → Int32} (hF : 20000000 < F) (hn : n ≤ 5) (hB : Bas n Wl hid A B Tb) (ht : fX8_tries F T = some Tb) (hs : s < 4) (hsz : sz ≤ 64) (h53 : Tb.1 53 s = nI sz) (hX : ∀ i, i < sz → Tb.1 54 (64 * s + i) = X i) : ∃ T', fX8_findTower F (nI s) T = some T' ∧ FrL Tb T' ∧ Ms n (Pf F Tb X sz) (rowsTo n (n ^ n)) T' := by
  have hsm := pow_small n (by omega)
  obtain ⟨x, ⟨T', h1, h2, h3⟩, hx⟩ := fix_up (body := fun k16 t => bX8_findTower_16 F k16 t.1 t.2.1 t.2.2) (n ^ n) (fun c t => ∃ T', t = (nI s, nI c, T') ∧ FrL Tb T' ∧ Ms n (Pf F Tb X sz) (rowsTo n c) T') (fun x => ∃ T', x = some T' ∧ FrL Tb T' ∧ Ms n (Pf F Tb X sz) (rowsTo n (n ^ n)) T')
    (by
      rintro c t hc ⟨T', rfl, h1, h2⟩
      obtain ⟨T2, g1, g2⟩ := tow_step hF hn hB hs hsz h53 hX h1 hc h2
      exact Or.inl ⟨(nI s, nI (c + 1), T2), ⟨T2, rfl, g2⟩, g1⟩)
    (by
      rintro t ⟨T', rfl, h1, h2⟩
      refine ⟨_, ⟨T', rfl, h1, h2⟩, fun k => ?_⟩
      show bX8_findTower_16 F k (nI s) (nI (n ^ n)) T' = _
      unfold bX8_findTower_16
      rw [codes_spec (by omega) hn ((h1.1 51 12 (by omega) (by omega)).trans hB.2.1), Option.bind_some, if_pos (nI_le (Nat.le_refl _) (by omega))])
    F (nI s, 0, g_setI (g_setI Tb 51 34 0) 51 35 0) ⟨_, rfl, (FrL.s ⟨by decide, by decide, by decide, by decide⟩).tr (FrL.s ⟨by decide, by decide, by decide, by decide⟩), ⟨by rw [rI_ne _ _ (Or.inr (by decide)), rI_same]; rfl, by rw [rI_same]; rfl, fun z => absurd rfl z⟩⟩ (by omega)
  refine ⟨T', ?_, h2, h3⟩
  unfold fX8_findTower
  rw [ht, Option.bind_some, gl_def, gl_def, ← h1, ← hx]
  rfl

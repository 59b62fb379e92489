/-! loops -/
theorem fix_run {σ R : Type} {body : (σ → Option R) → σ → Option R} (I : σ → Prop) (μ : σ → Nat) (Q : Option R → Prop) (hs : ∀ s, I s → (∃ s', I s' ∧ μ s' < μ s ∧ ∀ k, body k s = k s') ∨ (∃ x, Q x ∧ ∀ k, body k s = x)) : ∀ F s, I s → μ s < F → ∃ x, Q x ∧ g_fix body F s = x := by
  intro F
  induction F with
  | zero => intro s _ h; omega
  | succ n ih =>
    intro s hI hm
    rcases hs s hI with ⟨s', hI', hlt, hb⟩ | ⟨x, hx, hb⟩
    · obtain ⟨x, hx, he⟩ := ih s' hI' (by omega)
      exact ⟨x, hx, by show body (g_fix body n) s = x; rw [hb]; exact he⟩
    · exact ⟨x, hx, hb _⟩
/-- a counted loop, by an invariant; it may end early -/
theorem fix_up {σ R : Type} {body : (σ → Option R) → σ → Option R} (n : Nat) (I : Nat → σ → Prop) (Q : Option R → Prop) (hs : ∀ c s, c < n → I c s → (∃ s', I (c + 1) s' ∧ ∀ k, body k s = k s') ∨ (∃ x, Q x ∧ ∀ k, body k s = x)) (he : ∀ s, I n s → ∃ x, Q x ∧ ∀ k, body k s = x) : ∀ F s, I 0 s → n < F → ∃ x, Q x ∧ g_fix body F s = x := by
  have key : ∀ F c s, c ≤ n → I c s → n - c < F → ∃ x, Q x ∧ g_fix body F s = x := by
    intro F
    induction F with
    | zero => intro c s _ _ h; omega
    | succ m ih =>
      intro c s hc hI hm
      have fin : (∃ x, Q x ∧ ∀ k, body k s = x) → ∃ x, Q x ∧ g_fix body (m + 1) s = x := fun ⟨x, hx, hb⟩ => ⟨x, hx, hb _⟩
      by_cases hcn : c = n
      · subst hcn; exact fin (he s hI)
      · rcases hs c s (by omega) hI with ⟨s', hI', hb⟩ | h
        · obtain ⟨x, hx, hx2⟩ := ih (c + 1) s' (by omega) hI' (by omega)
          exact ⟨x, hx, by show body (g_fix body m) s = x; rw [hb]; exact hx2⟩
        · exact fin h
  exact fun F s h0 hF => key F 0 s (Nat.zero_le _) h0 (by omega)
/-- the same for loops that go on elsewhere: what they come to doesn't hang on where they go on -/
theorem fix_runK {K Z σ R : Type} {body : K → (σ → Option R) → σ → Option R} (fin : K → Z → Option R) (I : σ → Prop) (μ : σ → Nat) (Q : Z → Prop) (hs : ∀ s, I s → (∃ s', I s' ∧ μ s' < μ s ∧ ∀ κ k, body κ k s = k s') ∨ (∃ z, Q z ∧ ∀ κ k, body κ k s = fin κ z)) : ∀ F s, I s → μ s < F → ∃ z, Q z ∧ ∀ κ, g_fix (body κ) F s = fin κ z := by
  intro F
  induction F with
  | zero => intro s _ h; omega
  | succ n ih =>
    intro s hI hm
    rcases hs s hI with ⟨s', hI', hlt, hb⟩ | ⟨x, hx, hb⟩
    · obtain ⟨x, hx, he⟩ := ih s' hI' (by omega)
      exact ⟨x, hx, fun κ => by show body κ (g_fix (body κ) n) s = _; rw [hb]; exact he κ⟩
    · exact ⟨x, hx, fun κ => hb κ _⟩
theorem fix_upK {K Z σ R : Type} {body : K → (σ → Option R) → σ → Option R} (fin : K → Z → Option R) (n : Nat) (I : Nat → σ → Prop) (Q : Z → Prop) (hs : ∀ c s, c < n → I c s → (∃ s', I (c + 1) s' ∧ ∀ κ k, body κ k s = k s') ∨ (∃ z, Q z ∧ ∀ κ k, body κ k s = fin κ z)) (he : ∀ s, I n s → ∃ z, Q z ∧ ∀ κ k, body κ k s = fin κ z) : ∀ F s, I 0 s → n < F → ∃ z, Q z ∧ ∀ κ, g_fix (body κ) F s = fin κ z := by
  have key : ∀ F c s, c ≤ n → I c s → n - c < F → ∃ z, Q z ∧ ∀ κ, g_fix (body κ) F s = fin κ z := by
    intro F
    induction F with
    | zero => intro c s _ _ h; omega
    | succ m ih =>
      intro c s hc hI hm
      have fi : (∃ z, Q z ∧ ∀ κ k, body κ k s = fin κ z) → ∃ z, Q z ∧ ∀ κ, g_fix (body κ) (m + 1) s = fin κ z := fun ⟨x, hx, hb⟩ => ⟨x, hx, fun κ => hb κ _⟩
      by_cases hcn : c = n
      · subst hcn; exact fi (he s hI)
      · rcases hs c s (by omega) hI with ⟨s', hI', hb⟩ | h
        · obtain ⟨x, hx, hx2⟩ := ih (c + 1) s' (by omega) hI' (by omega)
          exact ⟨x, hx, fun κ => by show body κ (g_fix (body κ) m) s = _; rw [hb]; exact hx2 κ⟩
        · exact fi h
  exact fun F s h0 hF => key F 0 s (Nat.zero_le _) h0 (by omega)
/-- a counted loop whose states are known -/
theorem fix_for {σ R : Type} {body : (σ → Option R) → σ → Option R} (st : Nat → σ) (n : Nat) {res : Option R} (hs : ∀ c, c < n → ∀ k, body k (st c) = k (st (c + 1))) (he : ∀ k, body k (st n) = res) {F : Nat} (hF : n < F) : g_fix body F (st 0) = res := by
  obtain ⟨x, hx, h⟩ := fix_up (body := body) n (fun c s => s = st c) (fun x => x = res) (fun c s hc hI => Or.inl ⟨st (c + 1), rfl, fun k => by subst hI; exact hs c hc k⟩) (fun s hI => ⟨res, rfl, fun k => by subst hI; exact he k⟩) F (st 0) rfl hF
  rw [h, hx]
/-! numbers -/
theorem lit_nI (n : Nat) : (OfNat.ofNat n : Int32) = nI n := rfl
theorem chk_nI {α : Type} {c n : Nat} (h : c < n) (hn : n < 2 ^ 31) (k : Option α) : g_chk (nI c) n k = k := by
  unfold g_chk
  rw [if_neg]
  rw [nI_clamp (by omega)]
  intro q
  rcases q with q | q
  · exact nI_pos (by omega) q
  · omega
theorem gl_def {α β : Type} (a : α) (f : α → Option β) : gl a f = f a := rfl
theorem nz_ok {α : Type} {y : Int32} (h : ¬ y = 0) (k : Option α) : g_nz y k = k := if_neg h
theorem nzl_ok {α : Type} {y : Int64} (h : ¬ y = 0) (k : Option α) : g_nzl y k = k := if_neg h
theorem bo_1 {α : Type} (k : Option α) : g_bo 1 k = k := rfl
theorem bo_0 {α : Type} (k : Option α) : g_bo 0 k = k := rfl
theorem nI_inj {a b : Nat} (ha : a < 2 ^ 31) (hb : b < 2 ^ 31) (h : nI a = nI b) : a = b := (nI_eq ha hb).mp h
theorem nI_nm1 {a : Nat} (ha : a < 2 ^ 31) : ¬ nI a = -1 := by
  intro h
  have h1 := congrArg Int32.toInt h
  rw [nI_toInt ha] at h1
  have : (-1 : Int32).toInt = -1 := by decide
  rw [this] at h1
  omega
/-! cells: reading behind a writing -/
theorem rI_same (S : gS) (i k : Nat) (v : Int32) : (g_setI S i k v).1 i k = v := by simp [g_setI]
theorem rI_ne (S : gS) {i k a b : Nat} (v : Int32) (h : a ≠ i ∨ b ≠ k) : (g_setI S i k v).1 a b = S.1 a b := by
  unfold g_setI
  simp only
  rw [if_neg]
  rintro ⟨h1, h2⟩
  rcases h with h | h
  · exact h h1
  · exact h h2
theorem rI_J (S : gS) (i k : Nat) (v : Int64) : (g_setJ S i k v).1 = S.1 := rfl
theorem rJ_I (S : gS) (i k : Nat) (v : Int32) : (g_setI S i k v).2 = S.2 := rfl
theorem rJ_same (S : gS) (i k : Nat) (v : Int64) : (g_setJ S i k v).2 i k = v := by simp [g_setJ]
theorem rJ_ne (S : gS) {i k a b : Nat} (v : Int64) (h : a ≠ i ∨ b ≠ k) : (g_setJ S i k v).2 a b = S.2 a b := by
  unfold g_setJ
  simp only
  rw [if_neg]
  rintro ⟨h1, h2⟩
  rcases h with h | h
  · exact h h1
  · exact h h2
/-! bits of longs -/
def hb (L : Int64) (c : Nat) : Bool := L.toBitVec.getLsbD c
def bt (c : Nat) : Int64 := (1 : Int64) <<< ((nI c).toInt64 &&& 63)
theorem hb_or (a b : Int64) (c : Nat) : hb (a ||| b) c = (hb a c || hb b c) := by simp [hb]
theorem hb_and (a b : Int64) (c : Nat) : hb (a &&& b) c = (hb a c && hb b c) := by simp [hb]
theorem hb_not (a : Int64) {c : Nat} (h : c < 64) : hb (a ^^^ (-1)) c = !hb a c := by
  have h1 : hb (-1) c = true := by
    have : ∀ c, c < 64 → hb (-1) c = true := by decide +kernel
    exact this c h
  unfold hb at *
  simp only [Int64.toBitVec_xor, BitVec.getLsbD_xor, h1, Bool.bne_true]
theorem hb_0 (c : Nat) : hb 0 c = false := by simp [hb]
theorem hb_ext {a b : Int64} (h : ∀ c, c < 64 → hb a c = hb b c) : a = b := by
  apply Int64.toBitVec_inj.mp
  apply BitVec.eq_of_getLsbD_eq
  intro i hi
  exact h i hi
theorem hb_bt' : ∀ c, c < 64 → ∀ d, d < 64 → hb (bt c) d = decide (d = c) := by decide +kernel
theorem hb_bt {c d : Nat} (hc : c < 64) (hd : d < 64) : hb (bt c) d = decide (d = c) := hb_bt' c hc d hd
def hasV (L : Int64) (c : Nat) : Int32 := if hb L c then 1 else 0
theorem ts_bit {w : Int64} {s : UInt64} {j : Nat} (hj : j < 64) (hs : s.toNat = j) : ((w.toUInt64 >>> s).toInt64 &&& 1) = 0 ↔ w.toBitVec.getLsbD j = false := by
  have e : (w.toUInt64 >>> s).toInt64.toBitVec = w.toBitVec >>> j := by
    apply BitVec.eq_of_toNat_eq
    show (w.toUInt64 >>> s).toNat = _
    rw [UInt64.toNat_shiftRight, hs, Nat.mod_eq_of_lt hj, BitVec.toNat_ushiftRight]
    rfl
  rw [← Int64.toBitVec_inj, Int64.toBitVec_and, e]
  show w.toBitVec >>> j &&& 1#64 = 0#64 ↔ _
  constructor
  · intro h
    have t := congrArg (fun x => x.getLsbD 0) h
    simpa using t
  · intro h
    apply BitVec.eq_of_getLsbD_eq
    intro i hi
    cases i with
    | zero => simp [h]
    | succ i => simp
theorem wb_cu : ∀ k, k < 64 → ((nI k).toInt64.toUInt64 &&& Int64.toUInt64 63) = UInt64.ofNat k := by decide +kernel
theorem u_tn {n : Nat} (h : n < 2 ^ 64) : (UInt64.ofNat n).toNat = n := Nat.mod_eq_of_lt h
theorem has_spec (F : Nat) (L : Int64) {c : Nat} (hc : c < 64) (S : gS) : fX7_has F L (nI c) S = some (hasV L c, S) := by
  unfold fX7_has hasV
  have e : ((((L).toUInt64 >>> ((nI c).toInt64.toUInt64 &&& Int64.toUInt64 63)).toInt64 &&& (1 : Int64)) = 0) ↔ hb L c = false := by
    rw [wb_cu c hc]
    exact ts_bit hc (u_tn (Nat.lt_trans hc (by decide)))
  by_cases h : hb L c = true
  · rw [if_neg (fun q => by rw [lg_cmp_eq, e, h] at q; cases q), if_pos h]
  · have h0 : hb L c = false := by simpa using h
    rw [if_pos (by rw [lg_cmp_eq, e]; exact h0), if_neg h]
theorem hasV_0 {L : Int64} {c : Nat} : (hasV L c = 0) ↔ hb L c = false := by
  unfold hasV
  cases hb L c <;> simp
theorem bit_spec (F : Nat) (c : Nat) (S : gS) : fX7_bit F (nI c) S = some (bt c, S) := rfl
theorem low_nat : ∀ n : Nat, n ≠ 0 → ∃ c m, n = 2 ^ c * (2 * m + 1) := by
  intro n
  induction n using Nat.strongRecOn with
  | _ n ih =>
    intro h
    by_cases ho : n % 2 = 1
    · exact ⟨0, n / 2, by simp; omega⟩
    · obtain ⟨c, m, e⟩ := ih (n / 2) (by omega) (by omega)
      refine ⟨c + 1, m, ?_⟩
      rw [Nat.pow_succ, Nat.mul_comm (2 ^ c) 2, Nat.mul_assoc, ← e]
      omega
theorem tb_odd (m i : Nat) : (2 * m + 1).testBit (i + 1) = m.testBit i := by
  rw [Nat.testBit_succ]; congr 1; omega
theorem tb_even (m i : Nat) : (2 * m).testBit (i + 1) = m.testBit i := by
  rw [Nat.testBit_succ]; congr 1; omega
theorem low_bit (x : Int64) (h : x ≠ 0) : ∃ c, c < 64 ∧ hb x c = true ∧ (x &&& (-x)) = bt c ∧ (∀ d, d < 64 → hb (x &&& (x - 1)) d = (hb x d && decide (d ≠ c))) := by
  have hn0 : x.toBitVec.toNat ≠ 0 := fun q => h (Int64.toBitVec_inj.mp (BitVec.eq_of_toNat_eq q))
  have hlt : x.toBitVec.toNat < 2 ^ 64 := x.toBitVec.isLt
  obtain ⟨c, m, e⟩ := low_nat _ hn0
  have hc : c < 64 := by
    rcases Nat.lt_or_ge c 64 with q | q
    · exact q
    · have h1 : 2 ^ 64 ≤ 2 ^ c := Nat.pow_le_pow_right (by decide) q
      have h2 : 2 ^ c * 1 ≤ 2 ^ c * (2 * m + 1) := Nat.mul_le_mul_left _ (by omega)
      omega
  have hx : ∀ d, hb x d = (decide (d ≥ c) && (2 * m + 1).testBit (d - c)) := by
    intro d
    show x.toBitVec.toNat.testBit d = _
    rw [e, Nat.testBit_two_pow_mul]
  have hs1 : (x - 1).toBitVec.toNat = 2 ^ c * (2 * m) + (2 ^ c - 1) := by
    rw [Int64.toBitVec_sub, BitVec.toNat_sub]
    have : (1 : Int64).toBitVec.toNat = 1 := rfl
    rw [this]
    have hp : 0 < 2 ^ c := Nat.two_pow_pos c
    have e2 : 2 ^ c * (2 * m + 1) = 2 ^ c * (2 * m) + 2 ^ c := by rw [Nat.mul_add, Nat.mul_one]
    omega
  have hm1 : ∀ d, hb (x - 1) d = if d < c then true else (2 * m).testBit (d - c) := by
    intro d
    show (x - 1).toBitVec.toNat.testBit d = _
    have hp : 0 < 2 ^ c := Nat.two_pow_pos c
    rw [hs1, Nat.testBit_two_pow_mul_add _ (by omega)]
    by_cases q : d < c
    · rw [if_pos q, if_pos q, Nat.testBit_two_pow_sub_one]; simp [q]
    · rw [if_neg q, if_neg q]
  have hneg : ∀ d, d < 64 → hb (-x) d = (decide (d ≥ c) && !(2 * m).testBit (d - c)) := by
    intro d hd
    show (-x).toBitVec.toNat.testBit d = _
    have e3 : (-x).toBitVec.toNat = 2 ^ c * (2 ^ (64 - c) - (2 * m + 1)) := by
      rw [Int64.toBitVec_neg, BitVec.toNat_neg, Nat.mul_sub, ← Nat.pow_add, show c + (64 - c) = 64 by omega, ← e]
      omega
    have hlt2 : 2 * m < 2 ^ (64 - c) := by
      have e4 : 2 ^ 64 = 2 ^ c * 2 ^ (64 - c) := by rw [← Nat.pow_add]; congr 1; omega
      rw [e, e4] at hlt
      have := Nat.lt_of_mul_lt_mul_left hlt
      omega
    rw [e3, Nat.testBit_two_pow_mul, Nat.testBit_two_pow_sub_succ hlt2]
    by_cases q : d ≥ c
    · have : d - c < 64 - c := by omega
      simp [q, this]
    · simp [q]
  refine ⟨c, hc, ?_, ?_, ?_⟩
  · rw [hx]; simp
  · apply hb_ext
    intro d hd
    rw [hb_and, hx, hneg d hd, hb_bt hc hd]
    by_cases q : d = c
    · subst q; simp
    · by_cases q2 : d ≥ c
      · obtain ⟨j, hj⟩ : ∃ j, d - c = j + 1 := ⟨d - c - 1, by omega⟩
        rw [hj, tb_odd, tb_even]
        cases m.testBit j <;> simp [q]
      · simp [q, q2]
  · intro d hd
    rw [hb_and, hx, hm1]
    by_cases q : d = c
    · subst q; simp
    · by_cases q2 : d < c
      · simp [q2, Nat.not_le.mpr q2, q]
      · obtain ⟨j, hj⟩ : ∃ j, d - c = j + 1 := ⟨d - c - 1, by omega⟩
        rw [hj, tb_odd, tb_even]
        have : c ≤ d := by omega
        simp [q, q2, this]
/-! a bit's number -/
def bcV (a0 : Int64) : Int32 :=
  let v1 := a0 - (((a0).toUInt64 >>> (((1 : Int32)).toInt64.toUInt64 &&& Int64.toUInt64 63)).toInt64 &&& (6148914691236517205 : Int64))
  let v2 := (v1 &&& (3689348814741910323 : Int64)) + (((v1).toUInt64 >>> (((2 : Int32)).toInt64.toUInt64 &&& Int64.toUInt64 63)).toInt64 &&& (3689348814741910323 : Int64))
  let v3 := (v2 + ((v2).toUInt64 >>> (((4 : Int32)).toInt64.toUInt64 &&& Int64.toUInt64 63)).toInt64) &&& (1085102592571150095 : Int64)
  let v4 := v3 + ((v3).toUInt64 >>> (((8 : Int32)).toInt64.toUInt64 &&& Int64.toUInt64 63)).toInt64
  let v5 := v4 + ((v4).toUInt64 >>> (((16 : Int32)).toInt64.toUInt64 &&& Int64.toUInt64 63)).toInt64
  let v6 := v5 + ((v5).toUInt64 >>> (((32 : Int32)).toInt64.toUInt64 &&& Int64.toUInt64 63)).toInt64
  (v6).toInt32 &&& (127 : Int32)
theorem bc_spec (F : Nat) (x : Int64) (S : gS) : fJ13_bitCount_95d88 F x S = some (bcV x, S) := rfl
theorem bc_mask' : ∀ c, c < 64 → bcV (bt c - 1) = nI c := by decide +kernel
theorem bc_mask {c : Nat} (h : c < 64) : bcV (bt c - 1) = nI c := bc_mask' c h
/-! neighbours -/
def nb (c d : Nat) : Option Nat :=
  if d = 0 then (if 8 ≤ c then some (c - 8) else none)
  else if d = 1 then (if c % 8 = 7 then none else some (c + 1))
  else if d = 2 then (if c < 56 then some (c + 8) else none)
  else (if c % 8 = 0 then none else some (c - 1))
def oI (o : Option Nat) : Int32 := match o with
  | some n => nI n
  | none => -1
theorem nb_lt {c d n : Nat} (hc : c < 64) (h : nb c d = some n) : n < 64 := by
  unfold nb at h
  repeat' split at h
  all_goals (cases h; try omega)
theorem nb_ne {c d n : Nat} (h : nb c d = some n) : n ≠ c := by
  unfold nb at h
  repeat' split at h
  all_goals (cases h; try omega)
def besV (a0 a1 : Int32) : Int32 := if a1 = 0 then (if a0 < 8 then -1 else a0 - 8) else if a1 = 1 then (if 7 ≤ (a0 &&& 7) then -1 else a0 + 1) else if a1 = 2 then (if 56 ≤ a0 then -1 else a0 + 8) else if a1 = 3 then (if (a0 &&& 7) ≤ 0 then -1 else a0 - 1) else -1
theorem bes_1 (F : Nat) (a0 a1 : Int32) (S : gS) : fX7_beside F a0 a1 S = some (besV a0 a1, S) := by
  unfold fX7_beside besV gl
  dsimp only
  repeat' split
  all_goals rfl
theorem bes_2 : ∀ c, c < 64 → ∀ d, d < 4 → besV (nI c) (nI d) = oI (nb c d) := by decide +kernel
theorem bes_spec (F : Nat) {c d : Nat} (hc : c < 64) (hd : d < 4) (S : gS) : fX7_beside F (nI c) (nI d) S = some (oI (nb c d), S) := by
  rw [bes_1, bes_2 c hc d hd]
def nxtV (a0 a1 : Int32) : Int32 := if a1 = 0 then (if 8 ≤ a0 then a0 - 8 else -1) else if a1 = 1 then (if (a0 - a0 / 8 * 8) = 7 then -1 else a0 + 1) else if a1 = 2 then (if a0 ≤ 55 then a0 + 8 else -1) else (if (a0 - a0 / 8 * 8) = 0 then -1 else a0 - 1)
theorem nxt_1 (F : Nat) (a0 a1 : Int32) (S : gS) : fX8_next F a0 a1 S = some (nxtV a0 a1, S) := by
  unfold fX8_next nxtV
  rw [nz_ok (by decide), nz_ok (by decide)]
  repeat' split
  all_goals rfl
theorem nxt_2 : ∀ c, c < 64 → ∀ d, d < 4 → nxtV (nI c) (nI d) = oI (nb c d) := by decide +kernel
theorem nxt_spec (F : Nat) {c d : Nat} (hc : c < 64) (hd : d < 4) (S : gS) : fX8_next F (nI c) (nI d) S = some (oI (nb c d), S) := by
  rw [nxt_1, nxt_2 c hc d hd]
theorem oI_none {o : Option Nat} (h : ∀ n, o = some n → n < 64) : (oI o = -1) ↔ o = none := by
  cases o with
  | none => simp [oI]
  | some n => simp only [oI, reduceCtorEq, iff_false]; exact nI_nm1 (Nat.lt_trans (h n rfl) (by decide))
/-! the cells round a cell -/
def adj (c n : Nat) : Bool := nb c 0 == some n || nb c 1 == some n || nb c 2 == some n || nb c 3 == some n
theorem adj_iff {c n : Nat} : adj c n = true ↔ ∃ d, d < 4 ∧ nb c d = some n := by
  unfold adj
  simp only [Bool.or_eq_true, beq_iff_eq]
  constructor
  · rintro (((h | h) | h) | h)
    · exact ⟨0, by omega, h⟩
    · exact ⟨1, by omega, h⟩
    · exact ⟨2, by omega, h⟩
    · exact ⟨3, by omega, h⟩
  · rintro ⟨d, hd, h⟩
    rcases (show d = 0 ∨ d = 1 ∨ d = 2 ∨ d = 3 by omega) with rfl | rfl | rfl | rfl
    · exact Or.inl (Or.inl (Or.inl h))
    · exact Or.inl (Or.inl (Or.inr h))
    · exact Or.inl (Or.inr h)
    · exact Or.inr h
def arV (a0 : Int64) : Int64 := (((((a0).toUInt64 >>> (((8 : Int32)).toInt64.toUInt64 &&& Int64.toUInt64 63)).toInt64 ||| ((a0 <<< (((1 : Int32)).toInt64 &&& 63)) &&& (-72340172838076674 : Int64))) ||| (a0 <<< (((8 : Int32)).toInt64 &&& 63))) ||| ((((a0 &&& (-72340172838076674 : Int64))).toUInt64 >>> (((1 : Int32)).toInt64.toUInt64 &&& Int64.toUInt64 63)).toInt64))
theorem ar_spec (F : Nat) (x : Int64) (S : gS) : fX4_around F x S = some (arV x, S) := rfl
theorem ar_2 : ∀ c, c < 64 → ∀ n, n < 64 → hb (arV (bt c)) n = adj n c := by decide +kernel

/-! how slippery: what is counted, as numbers -/
def msR (f : Nat → Nat) (tk : Nat → Bool) : Nat → Option Nat × Nat
  | 0 => (none, 0)
  | c + 1 => if tk c = false ∧ (msR f tk c).2 < f c then (some c, f c) else msR f tk c
def msC (f : Nat → Nat) (tk : Nat → Bool) : Option Nat := (msR f tk 64).1
def tkU (tk : Nat → Bool) (o : Option Nat) : Nat → Bool := match o with
  | none => tk
  | some b => fun c => decide (c = b) || tk c
def tkN (f : Nat → Nat) : Nat → Nat → Bool
  | 0 => fun _ => false
  | n + 1 => tkU (tkN f n) (msC f (tkN f n))
def gNx (f : Nat → Nat) (n : Nat) : Option Nat := msC f (tkN f n)
def sumNot (f : Nat → Nat) (tk : Nat → Bool) : Nat → Nat
  | 0 => 0
  | c + 1 => sumNot f tk c + (if tk c then 0 else f c)
theorem msR_lt (f : Nat → Nat) (tk : Nat → Bool) : ∀ n b, (msR f tk n).1 = some b → b < n ∧ tk b = false := by
  intro n
  induction n with
  | zero => intro b h; cases h
  | succ n ih =>
    intro b h
    unfold msR at h
    by_cases q : tk n = false ∧ (msR f tk n).2 < f n
    · rw [if_pos q] at h
      obtain rfl := Option.some.inj h
      exact ⟨by omega, q.1⟩
    · rw [if_neg q] at h
      have := ih b h
      exact ⟨by omega, this.2⟩
theorem msR_congr {f : Nat → Nat} {tk tk' : Nat → Bool} : ∀ {n : Nat}, (∀ c, c < n → tk c = tk' c) → msR f tk n = msR f tk' n := by
  intro n
  induction n with
  | zero => intro _; rfl
  | succ n ih =>
    intro h
    unfold msR
    rw [ih (fun c hc => h c (by omega)), h n (by omega)]
theorem msR_le {f : Nat → Nat} {tk : Nat → Bool} {B : Nat} : ∀ {n : Nat}, (∀ c, c < n → f c ≤ B) → (msR f tk n).2 ≤ B := by
  intro n
  induction n with
  | zero => intro _; exact Nat.zero_le _
  | succ n ih =>
    intro h
    unfold msR
    split
    · exact h n (by omega)
    · exact ih (fun c hc => h c (by omega))
theorem gNx_none {f : Nat → Nat} {n : Nat} (h : gNx f n = none) : ∀ m, n ≤ m → gNx f m = none ∧ tkN f m = tkN f n := by
  intro m
  induction m with
  | zero =>
    intro hm
    obtain rfl : n = 0 := by omega
    exact ⟨h, rfl⟩
  | succ m ih =>
    intro hm
    by_cases q : n = m + 1
    · subst q; exact ⟨h, rfl⟩
    · obtain ⟨h1, h2⟩ := ih (by omega)
      have : tkN f (m + 1) = tkN f m := by
        show tkU (tkN f m) (gNx f m) = _
        rw [h1]; rfl
      refine ⟨?_, by rw [this, h2]⟩
      unfold gNx
      rw [this, h2]; exact h
theorem sumNot_le {f : Nat → Nat} {tk : Nat → Bool} {B : Nat} : ∀ {n : Nat}, (∀ c, c < n → f c ≤ B) → sumNot f tk n ≤ n * B := by
  intro n
  induction n with
  | zero => intro _; exact Nat.zero_le _
  | succ n ih =>
    intro h
    have h1 := ih (fun c hc => h c (by omega))
    have h2 := h n (by omega)
    unfold sumNot
    rw [Nat.succ_mul]
    split <;> omega
theorem sumNot_congr {f : Nat → Nat} {tk tk' : Nat → Bool} : ∀ {n : Nat}, (∀ c, c < n → tk c = tk' c) → sumNot f tk n = sumNot f tk' n := by
  intro n
  induction n with
  | zero => intro _; rfl
  | succ n ih =>
    intro h
    unfold sumNot
    rw [ih (fun c hc => h c (by omega)), h n (by omega)]
theorem sumNot_upd {f : Nat → Nat} {tk : Nat → Bool} {b : Nat} (hb : tk b = false) : ∀ {n : Nat}, sumNot f (tkU tk (some b)) n + (if b < n then f b else 0) = sumNot f tk n := by
  intro n
  induction n with
  | zero => rfl
  | succ n ih =>
    unfold sumNot
    show sumNot f (tkU tk (some b)) n + (if (decide (n = b) || tk n) = true then 0 else f n) + _ = _
    by_cases q : n = b
    · subst q
      rw [if_neg (by omega)] at ih
      rw [if_pos (by simp), if_pos (by omega), hb, if_neg (by decide)]
      omega
    · have e : (if b < n + 1 then f b else 0) = (if b < n then f b else 0) := by
        by_cases q2 : b < n
        · rw [if_pos q2, if_pos (by omega)]
        · rw [if_neg q2, if_neg (by omega)]
      rw [e, show (decide (n = b) || tk n) = tk n by simp [q]]
      omega
/-- the class's -/
def SlC (f : Nat → Nat) (S : gS) : Prop := ∀ c, c < 64 → S.1 6 c * S.1 18 c = nI (f c) ∧ f c ≤ 998400
theorem slip_spec {F c : Nat} {f : Nat → Nat} {S : gS} (h : SlC f S) (hc : c < 64) : fX7_slipperiness F (nI c) S = some (nI (f c), S) := by
  unfold fX7_slipperiness
  rw [chk_nI hc (by decide), chk_nI hc (by decide), nI_clamp (show c < 2 ^ 31 by omega), show g_I S 6 c * g_I S 18 c = nI (f c) from (h c hc).1]
theorem ms46 {F c : Nat} {k : (Int64 × Int32 × Int32 × Int32 × gS) → Option (Int32 × gS)} {L : Int64} {x3 x4 : Int32} {S : gS} : bX7_mostSlippery_46 F k L x3 x4 (nI c) S = k (L, x3, x4, nI (c + 1), S) := by
  unfold bX7_mostSlippery_46
  rw [gl_def, nI_1]
theorem ms7_spec {F : Nat} {f : Nat → Nat} {L : Int64} {S : gS} (hF : 100 < F) (h : SlC f S) : fX7_mostSlippery F L S = some (oI (msC f (hb L)), S) := by
  have := fix_for (body := fun k8 s => bX7_mostSlippery_8 F k8 s.1 s.2.1 s.2.2.1 s.2.2.2.1 s.2.2.2.2) (fun c => (L, oI (msR f (hb L) c).1, nI (msR f (hb L) c).2, nI c, S)) 64 (res := some (oI (msC f (hb L)), S)) (fun c hc k => by
    show bX7_mostSlippery_8 F k L (oI (msR f (hb L) c).1) (nI (msR f (hb L) c).2) (nI c) S = k (L, oI (msR f (hb L) (c + 1)).1, nI (msR f (hb L) (c + 1)).2, nI (c + 1), S)
    have hle : (msR f (hb L) c).2 ≤ 998400 := msR_le (fun d hd => (h d (by omega)).2)
    have hfc := (h c hc).2
    unfold bX7_mostSlippery_8
    rw [if_neg (show ¬ ((64 : Int32) ≤ nI c) from nI_ge hc (by decide)), has_spec F _ hc, Option.bind_some]
    by_cases q : hb L c = true
    · have e : msR f (hb L) (c + 1) = msR f (hb L) c := by
        show (if _ then _ else _) = _
        rw [if_neg (fun z => by rw [q] at z; cases z.1)]
      rw [if_neg (show ¬ hasV L c = 0 from fun z => by rw [hasV_0, q] at z; cases z), ms46, e]
    · have q' : hb L c = false := by simpa using q
      rw [if_pos (show hasV L c = 0 from hasV_0.mpr q'), slip_spec h hc, Option.bind_some]
      by_cases q2 : (msR f (hb L) c).2 < f c
      · have e : msR f (hb L) (c + 1) = (some c, f c) := by
          show (if _ then _ else _) = _
          rw [if_pos ⟨q', q2⟩]
        rw [if_neg (show ¬ nI (f c) ≤ nI (msR f (hb L) c).2 from nI_ge q2 (by omega)), slip_spec h hc, Option.bind_some, gl_def, ms46, e]
        rfl
      · have e : msR f (hb L) (c + 1) = msR f (hb L) c := by
          show (if _ then _ else _) = _
          rw [if_neg (fun z => q2 z.2)]
        rw [if_pos (show nI (f c) ≤ nI (msR f (hb L) c).2 from nI_le (by omega) (by omega)), ms46, e]) (fun k => by
    show bX7_mostSlippery_8 F k L (oI (msR f (hb L) 64).1) (nI (msR f (hb L) 64).2) (nI 64) S = _
    unfold bX7_mostSlippery_8
    rw [if_pos (by decide)]
    rfl) (F := F) (by omega)
  exact this
theorem ms7_tk {F : Nat} {f : Nat → Nat} {L : Int64} {tk : Nat → Bool} {S : gS} (hF : 100 < F) (h : SlC f S) (hL : ∀ c, c < 64 → hb L c = tk c) : fX7_mostSlippery F L S = some (oI (msC f tk), S) := by
  rw [ms7_spec hF h]
  unfold msC
  rw [msR_congr hL]
theorem hb_upd {L : Int64} {tk : Nat → Bool} {b : Nat} (hL : ∀ c, c < 64 → hb L c = tk c) (hb64 : b < 64) : ∀ c, c < 64 → hb (L ||| bt b) c = tkU tk (some b) c := fun c hc => by
  rw [hb_or, hb_bt hb64 hc, hL c hc, Bool.or_comm]
  rfl
theorem gr_none {F n : Nat} {i : Int32} {k : (Int32 × Int64 × Int32 × Int32 × gS) → Option (Int32 × gS)} {L : Int64} {x5 : Int32} {S : gS} (hlt : ¬ i < nI n) (hm : fX7_mostSlippery F L S = some (-1, S)) : bX7_grit_38 F k i L x5 (nI n) S = some (-1, S) := by
  unfold bX7_grit_38
  rw [if_neg hlt, hm, Option.bind_some, gl_def, if_pos rfl]
theorem gr_some {F n b : Nat} {i : Int32} {k : (Int32 × Int64 × Int32 × Int32 × gS) → Option (Int32 × gS)} {L : Int64} {x5 : Int32} {S : gS} (hb64 : b < 64) (hlt : ¬ i < nI n) (hm : fX7_mostSlippery F L S = some (nI b, S)) : bX7_grit_38 F k i L x5 (nI n) S = k (i, L ||| bt b, nI b, nI (n + 1), S) := by
  unfold bX7_grit_38
  rw [if_neg hlt, hm, Option.bind_some, gl_def, if_neg (show ¬ (nI b, S).1 = -1 from nI_nm1 (by omega)), show fX7_bit F (nI b, S).1 (nI b, S).2 = some (bt b, S) from rfl, Option.bind_some, gl_def, gl_def, nI_1]
theorem grit7_spec {F i : Nat} {f : Nat → Nat} {S : gS} (hF : 100 < F) (hi : i ≤ 8) (h : SlC f S) : bX7_grit_38l F F (nI i, (0 : Int64), (-1 : Int32), (0 : Int32), S) = some (oI (gNx f i), S) := by
  obtain ⟨r, rfl, hr⟩ := fix_up (body := fun k38 s => bX7_grit_38 F k38 s.1 s.2.1 s.2.2.1 s.2.2.2.1 s.2.2.2.2) (i + 1)
    (fun n s => ∃ L x5, s = (nI i, L, x5, nI n, S) ∧ (∀ c, c < 64 → hb L c = tkN f n c) ∧ (n = i + 1 → x5 = oI (gNx f i)))
    (fun r => r = some (oI (gNx f i), S))
    (by
      rintro n s hn ⟨L, x5, rfl, hL, -⟩
      have hm := ms7_tk (F := F) hF h hL
      have hlt : ¬ nI i < nI n := nI_nlt (by omega) (by omega)
      cases hg : gNx f n with
      | none =>
        refine Or.inr ⟨_, rfl, fun k => ?_⟩
        rw [(gNx_none hg i (by omega)).1]
        exact gr_none hlt (by rw [hm]; show some (oI (gNx f n), S) = _; rw [hg]; rfl)
      | some b =>
        have hb64 := (msR_lt f (tkN f n) 64 b hg).1
        refine Or.inl ⟨_, ⟨L ||| bt b, nI b, rfl, ?_, fun z => ?_⟩, fun k => gr_some hb64 hlt (by rw [hm]; show some (oI (gNx f n), S) = _; rw [hg]; rfl)⟩
        · show ∀ c, c < 64 → hb (L ||| bt b) c = tkU (tkN f n) (gNx f n) c
          rw [hg]; exact hb_upd hL hb64
        · have : n = i := by omega
          subst this
          rw [hg]; rfl)
    (by
      rintro s ⟨L, x5, rfl, hL, h5⟩
      refine ⟨_, rfl, fun k => ?_⟩
      show bX7_grit_38 F k (nI i) L x5 (nI (i + 1)) S = _
      unfold bX7_grit_38
      rw [if_pos (nI_lt (by omega) (by omega)), h5 rfl])
    F (nI i, (0 : Int64), (-1 : Int32), (0 : Int32), S) ⟨0, -1, rfl, fun c hc => hb_0 c, fun z => by omega⟩ (by omega)
  exact hr
theorem sl_none {F n k' : Nat} {k : (Int32 × Int32 × Int64 × Int32 × gS) → Option (Int32 × gS)} {L : Int64} {x2 : Int32} {S : gS} (hlt : ¬ nI k' ≤ nI n) (hm : fX7_mostSlippery F L S = some (-1, S)) : bX7_slipperinessLeft_29 F k (nI k') x2 L (nI n) S = some (x2, S) := by
  unfold bX7_slipperinessLeft_29
  rw [if_neg hlt, hm, Option.bind_some, gl_def, if_pos rfl]
theorem sl_some {F n b k' A : Nat} {f : Nat → Nat} {k : (Int32 × Int32 × Int64 × Int32 × gS) → Option (Int32 × gS)} {L : Int64} {S : gS} (h : SlC f S) (hb64 : b < 64) (hA : f b ≤ A) (hlt : ¬ nI k' ≤ nI n) (hm : fX7_mostSlippery F L S = some (nI b, S)) : bX7_slipperinessLeft_29 F k (nI k') (nI A) L (nI n) S = k (nI k', nI (A - f b), L ||| bt b, nI (n + 1), S) := by
  unfold bX7_slipperinessLeft_29
  rw [if_neg hlt, hm, Option.bind_some, gl_def, if_neg (show ¬ (nI b, S).1 = -1 from nI_nm1 (by omega)), show fX7_bit F (nI b, S).1 (nI b, S).2 = some (bt b, S) from rfl, Option.bind_some, gl_def, show fX7_slipperiness F (nI b, S).1 (bt b, S).2 = some (nI (f b), S) from slip_spec h hb64, Option.bind_some, gl_def, gl_def, nI_1, pk_sub hA]
theorem left7_loop {F k : Nat} {f : Nat → Nat} {S : gS} (hF : 100 < F) (hk : k ≤ 8) (h : SlC f S) : bX7_slipperinessLeft_29l F F (nI k, nI (sumNot f (tkN f 0) 64), (0 : Int64), (0 : Int32), S) = some (nI (sumNot f (tkN f k) 64), S) := by
  obtain ⟨r, rfl, hr⟩ := fix_up (body := fun k29 s => bX7_slipperinessLeft_29 F k29 s.1 s.2.1 s.2.2.1 s.2.2.2.1 s.2.2.2.2) k
    (fun n s => ∃ L, s = (nI k, nI (sumNot f (tkN f n) 64), L, nI n, S) ∧ (∀ c, c < 64 → hb L c = tkN f n c))
    (fun r => r = some (nI (sumNot f (tkN f k) 64), S))
    (by
      rintro n s hn ⟨L, rfl, hL⟩
      have hm := ms7_tk (F := F) hF h hL
      have hlt : ¬ nI k ≤ nI n := nI_ge hn (by omega)
      cases hg : gNx f n with
      | none =>
        refine Or.inr ⟨_, rfl, fun k' => ?_⟩
        rw [(gNx_none hg k (by omega)).2]
        exact sl_none hlt (by rw [hm]; show some (oI (gNx f n), S) = _; rw [hg]; rfl)
      | some b =>
        obtain ⟨hb64, hbt⟩ := msR_lt f (tkN f n) 64 b hg
        have e : tkN f (n + 1) = tkU (tkN f n) (some b) := by
          show tkU (tkN f n) (gNx f n) = _
          rw [hg]
        have hsum := sumNot_upd (f := f) (n := 64) hbt
        rw [if_pos hb64] at hsum
        refine Or.inl ⟨_, ⟨L ||| bt b, rfl, ?_⟩, fun k' => ?_⟩
        · rw [e]; exact hb_upd hL hb64
        · refine (sl_some (F := F) (A := sumNot f (tkN f n) 64) h hb64 (by omega) hlt (by rw [hm]; show some (oI (gNx f n), S) = _; rw [hg]; rfl)).trans ?_
          rw [e, show sumNot f (tkN f n) 64 - f b = sumNot f (tkU (tkN f n) (some b)) 64 by omega])
    (by
      rintro s ⟨L, rfl, hL⟩
      refine ⟨_, rfl, fun k' => ?_⟩
      show bX7_slipperinessLeft_29 F k' (nI k) _ L (nI k) S = _
      unfold bX7_slipperinessLeft_29
      rw [if_pos (nI_le (Nat.le_refl _) (by omega))])
    F (nI k, nI (sumNot f (tkN f 0) 64), (0 : Int64), (0 : Int32), S) ⟨0, rfl, fun c hc => hb_0 c⟩ (by omega)
  exact hr
theorem left7_spec {F k : Nat} {f : Nat → Nat} {S : gS} (hF : 100 < F) (hk : k ≤ 8) (h : SlC f S) : fX7_slipperinessLeft F (nI k) S = some (nI (sumNot f (tkN f k) 64), S) := by
  have := fix_for (body := fun k4 s => bX7_slipperinessLeft_4 F k4 s.1 s.2.1 s.2.2.1 s.2.2.2) (fun c => (nI k, nI (sumNot f (tkN f 0) c), nI c, S)) 64 (res := some (nI (sumNot f (tkN f k) 64), S)) (fun c hc k' => by
    show bX7_slipperinessLeft_4 F k' (nI k) (nI (sumNot f (tkN f 0) c)) (nI c) S = k' (nI k, nI (sumNot f (tkN f 0) c + f c), nI (c + 1), S)
    unfold bX7_slipperinessLeft_4
    rw [if_neg (show ¬ ((64 : Int32) ≤ nI c) from nI_ge hc (by decide)), slip_spec h hc, Option.bind_some, gl_def, gl_def, nI_1, nI_add]) (fun k' => by
    show bX7_slipperinessLeft_4 F k' (nI k) (nI (sumNot f (tkN f 0) 64)) (nI 64) S = _
    unfold bX7_slipperinessLeft_4
    rw [if_pos (by decide), left7_loop hF hk h]) (F := F) (by omega)
  exact this
/-! lowest terms -/
theorem th_exit {F d N : Nat} {a : Int32} {S : gS} (h0 : 0 < d) (hd : d ≤ 30) (hN : N < 2 ^ 31) : bX7_thirtieths_27 F (nI N) a (nI d) S = some (if a = 0 then lN (N / d) else lN (30 / d), S) := by
  unfold bX7_thirtieths_27
  have hd0 : ¬ nI d = 0 := nI_ne0 h0 (by omega)
  have hq : N / d ≤ N := Nat.div_le_self _ _
  have hq2 : 30 / d ≤ 30 := Nat.div_le_self _ _
  rw [nz_ok hd0, nz_ok hd0, pk_div hN h0 (by omega), nI_l (show N / d < 2 ^ 31 by omega), show (30 : Int32) = nI 30 from rfl, pk_div (by decide) h0 (by omega), nI_l (show 30 / d < 2 ^ 31 by omega)]
  by_cases q : a = 0
  · rw [if_pos q, if_pos q]
  · rw [if_neg q, if_neg q]
theorem th_next {F d : Nat} {k : (Int32 × Int32 × Int32 × gS) → Option (Int64 × gS)} {x0 a : Int32} {S : gS} : bX7_thirtieths_21 F k x0 a (nI (d + 1)) S = k (x0, a, nI d, S) := by
  unfold bX7_thirtieths_21
  rw [gl_def, pk_m1]
theorem th_spec {F N : Nat} {a : Int32} {S : gS} (hF : 100 < F) (hN : N < 2 ^ 31) : fX7_thirtieths F (nI N) a S = some (if a = 0 then lN (N / Nat.gcd N 30) else lN (30 / Nat.gcd N 30), S) := by
  have hg0 : 0 < Nat.gcd N 30 := Nat.gcd_pos_of_pos_right _ (by decide)
  obtain ⟨r, rfl, hr⟩ := fix_run (body := fun k3 s => bX7_thirtieths_3 F k3 s.1 s.2.1 s.2.2.1 s.2.2.2)
    (fun s => ∃ d, s = (nI N, a, nI d, S) ∧ d ≤ 30 ∧ Nat.gcd N 30 ≤ d) (fun s => s.2.2.1.toNatClampNeg)
    (fun r => r = some (if a = 0 then lN (N / Nat.gcd N 30) else lN (30 / Nat.gcd N 30), S))
    (by
      rintro s ⟨d, rfl, hd, hgd⟩
      have e : ∀ k, bX7_thirtieths_3 F k (nI N) a (nI d) S = (if d ≤ 1 then bX7_thirtieths_27 F (nI N) a (nI d) S else if 30 % d = 0 ∧ N % d = 0 then bX7_thirtieths_27 F (nI N) a (nI d) S else bX7_thirtieths_21 F k (nI N) a (nI d) S) := fun k => by
        unfold bX7_thirtieths_3
        by_cases q : d ≤ 1
        · rw [if_pos (show nI d ≤ (1 : Int32) from nI_le (b := 1) q (by decide)), if_pos q]
        · have hd0 : ¬ nI d = 0 := nI_ne0 (by omega) (by omega)
          rw [if_neg (show ¬ nI d ≤ (1 : Int32) from nI_ge (a := 1) (by omega) (by omega)), if_neg q, nz_ok hd0, nz_ok hd0, show (30 : Int32) = nI 30 from rfl, pk_rem (by decide) (by omega) (by omega), pk_rem hN (by omega) (by omega)]
          have m1 : 30 % d < d := Nat.mod_lt _ (by omega)
          have m2 : N % d < d := Nat.mod_lt _ (by omega)
          by_cases q1 : 30 % d = 0
          · rw [if_pos (show nI (30 % d) = 0 by rw [q1]; rfl)]
            by_cases q2 : N % d = 0
            · rw [if_pos (show nI (N % d) = 0 by rw [q2]; rfl), if_pos ⟨q1, q2⟩]
            · rw [if_neg (nI_ne0 (by omega) (by omega)), if_neg (fun z => q2 z.2)]
          · rw [if_neg (nI_ne0 (by omega) (by omega)), if_neg (fun z => q1 z.1)]
      by_cases q : d ≤ 1
      · have : d = Nat.gcd N 30 := by omega
        refine Or.inr ⟨_, rfl, fun k => ?_⟩
        show bX7_thirtieths_3 F k (nI N) a (nI d) S = _
        rw [e, if_pos q, th_exit (by omega) hd hN, ← this]
      · by_cases q2 : 30 % d = 0 ∧ N % d = 0
        · have hdg : d ∣ Nat.gcd N 30 := Nat.dvd_gcd (Nat.dvd_of_mod_eq_zero q2.2) (Nat.dvd_of_mod_eq_zero q2.1)
          have : d = Nat.gcd N 30 := Nat.le_antisymm (Nat.le_of_dvd hg0 hdg) hgd
          refine Or.inr ⟨_, rfl, fun k => ?_⟩
          show bX7_thirtieths_3 F k (nI N) a (nI d) S = _
          rw [e, if_neg q, if_pos q2, th_exit (by omega) hd hN, ← this]
        · have hne : Nat.gcd N 30 ≠ d := fun z => q2 (by
            rw [← z]
            exact ⟨Nat.mod_eq_zero_of_dvd (Nat.gcd_dvd_right N 30), Nat.mod_eq_zero_of_dvd (Nat.gcd_dvd_left N 30)⟩)
          obtain ⟨d', rfl⟩ : ∃ d', d = d' + 1 := ⟨d - 1, by omega⟩
          refine Or.inl ⟨(nI N, a, nI d', S), ⟨d', rfl, by omega, by omega⟩, ?_, fun k => ?_⟩
          · show (nI d').toNatClampNeg < (nI (d' + 1)).toNatClampNeg
            rw [nI_clamp (by omega), nI_clamp (by omega)]; omega
          · show bX7_thirtieths_3 F k (nI N) a (nI (d' + 1)) S = _
            rw [e, if_neg q, if_neg q2, th_next])
    F (nI N, a, nI 30, S) ⟨30, rfl, Nat.le_refl _, Nat.gcd_le_right N (by decide)⟩ (by show (nI 30).toNatClampNeg < F; rw [nI_clamp (by decide)]; omega)
  exact hr
theorem part_spec {F N : Nat} {a : Int32} {S : gS} (hF : 100 < F) (hN : N < 2 ^ 31) : fX8_part F (lN N) (30 : Int64) a S = some (if a = 0 then lN (N / Nat.gcd N 30) else lN (30 / Nat.gcd N 30), S) := by
  have hg0 : 0 < Nat.gcd N 30 := Nat.gcd_pos_of_pos_right _ (by decide)
  obtain ⟨r, rfl, hr⟩ := fix_run (body := fun k6 s => bX8_part_6 F k6 s.1 s.2.1 s.2.2.1 s.2.2.2.1 s.2.2.2.2.1 s.2.2.2.2.2)
    (fun s => ∃ x y, s = (lN N, lN 30, a, lN x, lN y, S) ∧ x < 2 ^ 31 ∧ y < 2 ^ 31 ∧ Nat.gcd x y = Nat.gcd N 30) (fun s => s.2.2.2.2.1.toInt.toNat)
    (fun r => r = some (if a = 0 then lN (N / Nat.gcd N 30) else lN (30 / Nat.gcd N 30), S))
    (by
      rintro s ⟨x, y, rfl, hx, hy, hg⟩
      have hy0 : lN y = 0 ↔ y = 0 := by
        rw [show (0 : Int64) = lN 0 from rfl, pk_lEQ (by omega) (by decide)]
      by_cases q : y = 0
      · subst q
        rw [Nat.gcd_zero_right] at hg
        subst hg
        refine Or.inr ⟨_, rfl, fun k => ?_⟩
        show bX8_part_6 F k (lN N) (lN 30) a (lN (Nat.gcd N 30)) (lN 0) S = _
        unfold bX8_part_6
        have hx0 : ¬ lN (Nat.gcd N 30) = 0 := fun z => by
          rw [show (0 : Int64) = lN 0 from rfl, pk_lEQ (by omega) (by decide)] at z
          omega
        rw [if_pos (show lg_cmp (lN 0) (0 : Int64) = 0 by decide), nzl_ok hx0, nzl_ok hx0, pk_lDiv (by omega) hg0 (by omega), pk_lDiv (by decide) hg0 (by omega)]
        by_cases qa : a = 0
        · rw [if_pos qa, if_pos qa]
        · rw [if_neg qa, if_neg qa]
      · have hm : x % y < y := Nat.mod_lt _ (by omega)
        refine Or.inl ⟨(lN N, lN 30, a, lN y, lN (x % y), S), ⟨y, x % y, rfl, hy, by omega, ?_⟩, ?_, fun k => ?_⟩
        · rw [← hg, Nat.gcd_comm x y, Nat.gcd_rec y x, Nat.gcd_comm]
        · show (lN (x % y)).toInt.toNat < (lN y).toInt.toNat
          rw [lN_toInt (by omega), lN_toInt hy]
          omega
        · show bX8_part_6 F k (lN N) (lN 30) a (lN x) (lN y) S = _
          unfold bX8_part_6
          have hy0' : ¬ lN y = 0 := fun z => q (hy0.mp z)
          rw [if_neg (fun z => hy0' ((lg_cmp_eq _ _).mp z)), nzl_ok hy0', gl_def, pk_lRem (by omega) (by omega) (by omega)])
    F (lN N, lN 30, a, lN N, lN 30, S) ⟨N, 30, rfl, hN, by decide, rfl⟩ (by show (lN 30).toInt.toNat < F; rw [lN_toInt (by decide)]; omega)
  exact hr

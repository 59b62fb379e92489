/-! the green's text -/
def okAt (X : Nat → Int32) (k : Nat) : Bool := if k % 9 = 8 then decide (X k = 59) else (decide (X k = 46) || decide (X k = 35) || decide (X k = 111))
def IsFlt (X : Nat → Int32) (len : Nat) (v : Int32) : Prop :=
  (∃ k, k < 71 ∧ (∀ j, j < k → j < len ∧ okAt X j = true) ∧ (len ≤ k ∨ okAt X k = false) ∧ v = nI k) ∨ ((∀ j, j < 71 → j < len ∧ okAt X j = true) ∧ v = if 71 < len then 71 else -1)
theorem IsFlt_u {X Y : Nat → Int32} {len : Nat} {v v' : Int32} (hXY : ∀ k, k < len → X k = Y k) (h : IsFlt X len v) (h' : IsFlt Y len v') : v = v' := by
  have hok : ∀ k, k < len → okAt X k = okAt Y k := fun k hk => by unfold okAt; rw [hXY k hk]
  rcases h with ⟨k, h1, h2, h3, h4⟩ | ⟨h1, h2⟩ <;> rcases h' with ⟨k', g1, g2, g3, g4⟩ | ⟨g1, g2⟩
  · rw [h4, g4]
    congr 1
    rcases Nat.lt_trichotomy k k' with q | q | q
    · have := g2 k q
      rcases h3 with h3 | h3
      · omega
      · rw [hok k this.1, this.2] at h3; cases h3
    · exact q
    · have := h2 k' q
      rcases g3 with g3 | g3
      · omega
      · rw [← hok k' this.1, this.2] at g3; cases g3
  · have := g1 k h1
    rcases h3 with h3 | h3
    · omega
    · rw [hok k this.1, this.2] at h3; cases h3
  · have := h1 k' g1
    rcases g3 with g3 | g3
    · omega
    · rw [← hok k' this.1, this.2] at g3; cases g3
  · rw [h2, g2]
theorem IsFlt_m1 {X : Nat → Int32} {len : Nat} (hl : len < 2 ^ 31) (h : IsFlt X len (-1)) : ∀ j, j < 71 → j < len ∧ okAt X j = true := by
  rcases h with ⟨k, h1, _, _, h4⟩ | ⟨h1, _⟩
  · exact absurd h4.symm (nI_nm1 (by omega))
  · exact h1
theorem rem9 {k : Nat} (hk : k < 71) : (nI k - nI k / 9 * 9 = 8) ↔ k % 9 = 8 := by
  have h := pk_rem (a := k) (d := 9) (by omega) (by decide) (by decide)
  rw [show (9 : Int32) = nI 9 from rfl, h, show (8 : Int32) = nI 8 from rfl, nI_eq (by omega) (by decide)]
theorem fits_spec (F : Nat) {k : Nat} (hk : k < 71) (x : Int32) (S : gS) : fX0_fits F (nI k) x S = some (if okAt (fun _ => x) k then 1 else 0, S) := by
  unfold fX0_fits okAt
  rw [nz_ok (by decide)]
  by_cases q : k % 9 = 8
  · rw [if_pos ((rem9 hk).mpr q), if_pos q]
    by_cases q2 : x = 59 <;> simp [q2]
  · rw [if_neg (fun z => q ((rem9 hk).mp z)), if_neg q]
    by_cases q2 : x = 46
    · simp [q2]
    · by_cases q3 : x = 35
      · simp [q3]
      · by_cases q4 : x = 111 <;> simp [q2, q3, q4]
theorem okAt_at (X : Nat → Int32) (k : Nat) : okAt (fun _ => X k) k = okAt X k := rfl
theorem seekFault_spec {F len : Nat} {S : gS} (hF : 71 < F) (hl : len ≤ 75) (h1 : S.1 1 1 = nI len) : ∃ v, fX0_seekFault F S = some (v, S) ∧ IsFlt (S.1 2) len v := by
  obtain ⟨r, ⟨v, g1, g2⟩, hr⟩ := fix_up (body := fun k2 s => bX0_seekFault_2 F k2 s.1 s.2) 71
    (fun k s => s = (nI k, S) ∧ ∀ j, j < k → j < len ∧ okAt (S.1 2) j = true)
    (fun r => ∃ v, r = some (v, S) ∧ IsFlt (S.1 2) len v)
    (by
      rintro k s hk ⟨rfl, hp⟩
      have k71 : ¬ ((71 : Int32) ≤ nI k) := nI_ge hk (by decide)
      by_cases q : len ≤ k
      · refine Or.inr ⟨_, ⟨nI k, rfl, Or.inl ⟨k, hk, hp, Or.inl q, rfl⟩⟩, fun K => ?_⟩
        show bX0_seekFault_2 F K (nI k) S = _
        unfold bX0_seekFault_2
        rw [if_neg k71, if_pos (by show S.1 1 1 ≤ nI k; rw [h1]; exact nI_le q (by omega))]
      · have kl : ¬ (S.1 1 1 ≤ nI k) := by rw [h1]; exact nI_ge (by omega) (by omega)
        have e : ∀ K, bX0_seekFault_2 F K (nI k) S = if (if okAt (S.1 2) k then (1 : Int32) else 0) = 0 then some (nI k, S) else K (nI (k + 1), S) := fun K => by
          unfold bX0_seekFault_2
          rw [if_neg k71, if_neg kl, chk_nI (show k < 75 by omega) (by decide), nI_clamp (by omega), fits_spec F hk]
          simp only [Option.bind_some, gl_def, nI_1]
          rfl
        by_cases q2 : okAt (S.1 2) k = true
        · refine Or.inl ⟨(nI (k + 1), S), ⟨rfl, fun j hj => ?_⟩, fun K => ?_⟩
          · by_cases q3 : j = k
            · subst q3; exact ⟨by omega, q2⟩
            · exact hp j (by omega)
          · show bX0_seekFault_2 F K (nI k) S = _
            rw [e, q2]; rfl
        · have q2' : okAt (S.1 2) k = false := by simpa using q2
          refine Or.inr ⟨_, ⟨nI k, rfl, Or.inl ⟨k, hk, hp, Or.inr q2', rfl⟩⟩, fun K => ?_⟩
          show bX0_seekFault_2 F K (nI k) S = _
          rw [e, q2']; rfl)
    (by
      rintro s ⟨rfl, hp⟩
      refine ⟨_, ⟨if 71 < len then 71 else -1, rfl, Or.inr ⟨hp, rfl⟩⟩, fun K => ?_⟩
      show bX0_seekFault_2 F K (nI 71) S = _
      unfold bX0_seekFault_2
      rw [if_pos (by decide)]
      by_cases q : 71 < len
      · rw [if_neg (by show ¬ S.1 1 1 ≤ nI 71; rw [h1]; exact nI_ge q (by omega)), if_pos q]
      · rw [if_pos (by show S.1 1 1 ≤ nI 71; rw [h1]; exact nI_le (by omega) (by omega)), if_neg q])
    F ((0 : Int32), S) ⟨rfl, fun j hj => by omega⟩ hF
  exact ⟨v, by rw [← g1, ← hr]; rfl, g2⟩
/-- what the class keeps of the text -/
def PsO (S : gS) : Prop := ∀ c, c < 64 → hb (S.2 1 3) c = decide (S.1 1 2 = -1 ∧ S.1 2 (c + c / 8) = 35) ∧ hb (S.2 1 4) c = decide (S.1 1 2 = -1 ∧ S.1 2 (c + c / 8) = 111)
def FrPs (S S' : gS) : Prop := (∀ i k, (i ≠ 1 ∨ k ≠ 2) → S'.1 i k = S.1 i k) ∧ (∀ i k, (i ≠ 1 ∨ (k ≠ 3 ∧ k ≠ 4)) → S'.2 i k = S.2 i k)
theorem div8 {c : Nat} (hc : c < 64) : nI c / (8 : Int32) = nI (c / 8) := pk_div (d := 8) (by omega) (by decide) (by decide)
theorem parse_spec {F len : Nat} {S : gS} (hF : 100 < F) (hl : len ≤ 75) (h1 : S.1 1 1 = nI len) : ∃ S', fX0_parse F S = some S' ∧ FrPs S S' ∧ IsFlt (S'.1 2) len (S'.1 1 2) ∧ PsO S' := by
  obtain ⟨v, e1, e2⟩ := seekFault_spec (F := F) (S := g_setJ (g_setJ S 1 3 0) 1 4 0) (by omega) hl h1
  have hhead : fX0_parse F S = if v = -1 then bX0_parse_29l F F ((0 : Int32), g_setI (g_setJ (g_setJ S 1 3 0) 1 4 0) 1 2 v) else some (g_setI (g_setJ (g_setJ S 1 3 0) 1 4 0) 1 2 v) := by
    unfold fX0_parse
    simp only [gl_def]
    rw [e1]
    simp only [Option.bind_some]
    rw [show g_I (g_setI (g_setJ (g_setJ S 1 3 0) 1 4 0) 1 2 v) 1 2 = v from rI_same _ _ _ _]
  have fr0 : FrPs S (g_setI (g_setJ (g_setJ S 1 3 0) 1 4 0) 1 2 v) := by
    refine ⟨fun i k h => rI_ne _ _ h, fun i k h => ?_⟩
    rw [rJ_I, rJ_ne _ _ (h.imp_right (fun z => z.2)), rJ_ne _ _ (h.imp_right (fun z => z.1))]
  have hflt : ∀ S' : gS, S'.1 = (g_setI (g_setJ (g_setJ S 1 3 0) 1 4 0) 1 2 v).1 → IsFlt (S'.1 2) len (S'.1 1 2) := fun S' h => by
    rw [h, rI_same]
    have : (g_setI (g_setJ (g_setJ S 1 3 0) 1 4 0) 1 2 v).1 2 = S.1 2 := by funext k; exact rI_ne _ _ (Or.inl (by decide))
    rw [this]; exact e2
  by_cases q : v = -1
  · have hv : (g_setI (g_setJ (g_setJ S 1 3 0) 1 4 0) 1 2 v).1 1 2 = -1 := by rw [rI_same, q]
    have hz3 : (g_setI (g_setJ (g_setJ S 1 3 0) 1 4 0) 1 2 v).2 1 3 = 0 := by rw [rJ_I, rJ_ne _ _ (Or.inr (by decide)), rJ_same]
    have hz4 : (g_setI (g_setJ (g_setJ S 1 3 0) 1 4 0) 1 2 v).2 1 4 = 0 := by rw [rJ_I, rJ_same]
    rw [hhead, if_pos q]
    generalize g_setI (g_setJ (g_setJ S 1 3 0) 1 4 0) 1 2 v = S0 at *
    obtain ⟨r, ⟨S', g1, g2, g3, g4⟩, hr⟩ := fix_up (body := fun k29 s => bX0_parse_29 F k29 s.1 s.2) 64
      (fun c s => ∃ S', s = (nI c, S') ∧ S'.1 = S0.1 ∧ (∀ i k, (i ≠ 1 ∨ (k ≠ 3 ∧ k ≠ 4)) → S'.2 i k = S0.2 i k) ∧ ∀ x, x < 64 → hb (S'.2 1 3) x = decide (x < c ∧ S0.1 2 (x + x / 8) = 35) ∧ hb (S'.2 1 4) x = decide (x < c ∧ S0.1 2 (x + x / 8) = 111))
      (fun r => ∃ S', r = some S' ∧ S'.1 = S0.1 ∧ (∀ i k, (i ≠ 1 ∨ (k ≠ 3 ∧ k ≠ 4)) → S'.2 i k = S0.2 i k) ∧ ∀ x, x < 64 → hb (S'.2 1 3) x = decide (S0.1 2 (x + x / 8) = 35) ∧ hb (S'.2 1 4) x = decide (S0.1 2 (x + x / 8) = 111))
      (by
        rintro c s hc ⟨S', rfl, a1, a2, a3⟩
        have c64 : ¬ ((64 : Int32) ≤ nI c) := nI_ge hc (by decide)
        have e88 : ∀ k S'', bX0_parse_88 F k (nI c) S'' = k (nI (c + 1), S'') := fun k S'' => by unfold bX0_parse_88; rw [gl_def, nI_1]
        have eh : ∀ k, bX0_parse_29 F k (nI c) S' = if S0.1 2 (c + c / 8) = 35 then k (nI (c + 1), g_setJ S' 1 3 (S'.2 1 3 ||| bt c)) else if S0.1 2 (c + c / 8) = 111 then k (nI (c + 1), g_setJ S' 1 4 (S'.2 1 4 ||| bt c)) else k (nI (c + 1), S') := fun k => by
          unfold bX0_parse_29
          rw [if_neg c64, nz_ok (by decide), div8 hc, nI_add, chk_nI (show c + c / 8 < 75 by omega) (by decide), nI_clamp (by omega), show g_I S' 2 (c + c / 8) = S0.1 2 (c + c / 8) by show S'.1 2 _ = _; rw [a1]]
          simp only [gl_def, bit_spec, Option.bind_some, e88]
        by_cases q1 : S0.1 2 (c + c / 8) = 35
        · refine Or.inl ⟨_, ⟨g_setJ S' 1 3 (S'.2 1 3 ||| bt c), rfl, a1, fun i k h => ?_, fun x hx => ?_⟩, fun k => by show bX0_parse_29 F k (nI c) S' = _; rw [eh, if_pos q1]⟩
          · rw [rJ_ne _ _ (h.imp_right (fun z => z.1))]; exact a2 i k h
          · rw [rJ_same, rJ_ne _ _ (Or.inr (by decide)), hb_or, hb_bt hc hx, (a3 x hx).1, (a3 x hx).2]
            by_cases qx : x = c
            · subst qx; simp [q1]
            · have : x < c + 1 ↔ x < c := by omega
              simp [qx, this]
        · by_cases q2 : S0.1 2 (c + c / 8) = 111
          · refine Or.inl ⟨_, ⟨g_setJ S' 1 4 (S'.2 1 4 ||| bt c), rfl, a1, fun i k h => ?_, fun x hx => ?_⟩, fun k => by show bX0_parse_29 F k (nI c) S' = _; rw [eh, if_neg q1, if_pos q2]⟩
            · rw [rJ_ne _ _ (h.imp_right (fun z => z.2))]; exact a2 i k h
            · rw [rJ_same, rJ_ne _ _ (Or.inr (by decide)), hb_or, hb_bt hc hx, (a3 x hx).1, (a3 x hx).2]
              by_cases qx : x = c
              · subst qx; simp [q2]
              · have : x < c + 1 ↔ x < c := by omega
                simp [qx, this]
          · refine Or.inl ⟨_, ⟨S', rfl, a1, a2, fun x hx => ?_⟩, fun k => by show bX0_parse_29 F k (nI c) S' = _; rw [eh, if_neg q1, if_neg q2]⟩
            rw [(a3 x hx).1, (a3 x hx).2]
            by_cases qx : x = c
            · subst qx; simp [q1, q2]
            · have : x < c + 1 ↔ x < c := by omega
              simp [this])
      (by
        rintro s ⟨S', rfl, a1, a2, a3⟩
        refine ⟨some S', ⟨S', rfl, a1, a2, fun x hx => by have := a3 x hx; simpa [hx] using this⟩, fun k => ?_⟩
        show bX0_parse_29 F k (nI 64) S' = _
        unfold bX0_parse_29
        rw [if_pos (by decide)])
      F ((0 : Int32), S0) ⟨S0, rfl, rfl, fun _ _ _ => rfl, fun x hx => by rw [hz3, hz4, hb_0]; simp⟩ (by omega)
    refine ⟨S', by rw [← g1, ← hr]; rfl, ⟨fun i k h => by rw [g2]; exact fr0.1 i k h, fun i k h => by rw [g3 i k h]; exact fr0.2 i k h⟩, hflt S' g2, fun c hc => ?_⟩
    rw [g2, hv]
    simpa using g4 c hc
  · rw [hhead, if_neg q]
    refine ⟨_, rfl, fr0, hflt _ rfl, fun c hc => ?_⟩
    rw [rI_same, rJ_I, rJ_same, rJ_ne _ _ (Or.inr (by decide)), rJ_same, hb_0]
    simp [q]
/-! the reference reads it anew at each call -/
def kdV (x : Int32) : Int32 := if x = 46 then 0 else if x = 35 then 1 else if x = 111 then 2 else -1
theorem kindOf8_spec (F : Nat) (x : Int32) (T : gS) : fX8_kindOf F x T = some (kdV x, T) := by
  unfold fX8_kindOf kdV
  repeat' split
  all_goals first | rfl | simp_all
theorem kdV_ok (X : Nat → Int32) {k : Nat} (hk : ¬ k % 9 = 8) : (kdV (X k) = -1) ↔ okAt X k = false := by
  unfold kdV okAt
  rw [if_neg hk]
  by_cases q2 : X k = 46
  · simp [q2]
  · by_cases q3 : X k = 35
    · simp [q3]
    · by_cases q4 : X k = 111 <;> simp [q2, q3, q4]
theorem faultNow_spec {F len : Nat} {T : gS} (hF : 71 < F) (hl : len ≤ 75) (h1 : T.1 51 6 = nI len) : ∃ v, fX8_faultNow F T = some (v, T) ∧ IsFlt (T.1 56) len v := by
  obtain ⟨r, ⟨v, g1, g2⟩, hr⟩ := fix_up (body := fun k2 s => bX8_faultNow_2 F k2 s.1 s.2) 71
    (fun k s => s = (nI k, T) ∧ ∀ j, j < k → j < len ∧ okAt (T.1 56) j = true)
    (fun r => ∃ v, r = some (v, T) ∧ IsFlt (T.1 56) len v)
    (by
      rintro k s hk ⟨rfl, hp⟩
      have k71 : ¬ ((71 : Int32) ≤ nI k) := nI_ge hk (by decide)
      by_cases q : len ≤ k
      · refine Or.inr ⟨_, ⟨nI k, rfl, Or.inl ⟨k, hk, hp, Or.inl q, rfl⟩⟩, fun K => ?_⟩
        show bX8_faultNow_2 F K (nI k) T = _
        unfold bX8_faultNow_2
        rw [if_neg k71, if_pos (by show T.1 51 6 ≤ nI k; rw [h1]; exact nI_le q (by omega))]
      · have kl : ¬ (T.1 51 6 ≤ nI k) := by rw [h1]; exact nI_ge (by omega) (by omega)
        have e : ∀ K, bX8_faultNow_2 F K (nI k) T = if okAt (T.1 56) k = true then K (nI (k + 1), T) else some (nI k, T) := fun K => by
          have e54 : bX8_faultNow_54 F K (nI k) T = K (nI (k + 1), T) := by unfold bX8_faultNow_54; rw [gl_def, nI_1]
          unfold bX8_faultNow_2
          rw [if_neg k71, if_neg kl, nz_ok (by decide), chk_nI (show k < 75 by omega) (by decide), chk_nI (show k < 75 by omega) (by decide), nI_clamp (by omega), kindOf8_spec]
          simp only [Option.bind_some, e54]
          by_cases q9 : k % 9 = 8
          · rw [if_pos ((rem9 hk).mpr q9)]
            unfold okAt
            rw [if_pos q9]
            by_cases q59 : T.1 56 k = 59 <;> simp [q59]
          · rw [if_neg (fun z => q9 ((rem9 hk).mp z))]
            by_cases qk : okAt (T.1 56) k = true
            · rw [if_pos qk, if_neg (fun z => by rw [show g_I T 56 k = T.1 56 k from rfl, kdV_ok (T.1 56) q9, qk] at z; cases z)]
            · rw [if_neg qk, if_pos ((kdV_ok (T.1 56) q9).mpr (by simpa using qk))]
        by_cases q2 : okAt (T.1 56) k = true
        · refine Or.inl ⟨(nI (k + 1), T), ⟨rfl, fun j hj => ?_⟩, fun K => ?_⟩
          · by_cases q3 : j = k
            · subst q3; exact ⟨by omega, q2⟩
            · exact hp j (by omega)
          · show bX8_faultNow_2 F K (nI k) T = _
            rw [e, if_pos q2]
        · have q2' : okAt (T.1 56) k = false := by simpa using q2
          refine Or.inr ⟨_, ⟨nI k, rfl, Or.inl ⟨k, hk, hp, Or.inr q2', rfl⟩⟩, fun K => ?_⟩
          show bX8_faultNow_2 F K (nI k) T = _
          rw [e, if_neg q2])
    (by
      rintro s ⟨rfl, hp⟩
      refine ⟨_, ⟨if 71 < len then 71 else -1, rfl, Or.inr ⟨hp, rfl⟩⟩, fun K => ?_⟩
      show bX8_faultNow_2 F K (nI 71) T = _
      unfold bX8_faultNow_2
      rw [if_pos (by decide)]
      by_cases q : 71 < len
      · rw [if_neg (by show ¬ T.1 51 6 ≤ nI 71; rw [h1]; exact nI_ge q (by omega)), if_pos q]
      · rw [if_pos (by show T.1 51 6 ≤ nI 71; rw [h1]; exact nI_le (by omega) (by omega)), if_neg q])
    F ((0 : Int32), T) ⟨rfl, fun j hj => by omega⟩ hF
  exact ⟨v, by rw [← g1, ← hr]; rfl, g2⟩
theorem ix9 {c : Nat} (hc : c < 64) : (9 : Int32) * (nI c / 8) + (nI c - nI c / 8 * 8) = nI (c + c / 8) := by
  have h := pk_rem (a := c) (d := 8) (by omega) (by decide) (by decide)
  rw [show (8 : Int32) = nI 8 from rfl, h, pk_div (by omega) (by decide) (by decide), show (9 : Int32) = nI 9 from rfl, pk_mul, nI_add]
  congr 1; omega
theorem reads_spec {F len : Nat} {T : gS} (hF : 100 < F) (hl : len ≤ 75) (h1 : T.1 51 6 = nI len) : ∃ v T', fX8_reads F T = some (v, T') ∧ IsFlt (T.1 56) len v ∧ (∀ i k, i ≠ 57 → T'.1 i k = T.1 i k) ∧ T'.2 = T.2 ∧ ∀ c, c < 64 → T'.1 57 c = if v = -1 then kdV (T.1 56 (c + c / 8)) else 0 := by
  obtain ⟨v, e1, e2⟩ := faultNow_spec (F := F) (T := T) (by omega) hl h1
  obtain ⟨r, ⟨T', g1, g2, g3, g4⟩, hr⟩ := fix_up (body := fun k7 s => bX8_reads_7 F k7 s.1 s.2.1 s.2.2) 64
    (fun c s => ∃ T', s = (v, nI c, T') ∧ (∀ i k, i ≠ 57 → T'.1 i k = T.1 i k) ∧ T'.2 = T.2 ∧ ∀ x, x < c → T'.1 57 x = if v = -1 then kdV (T.1 56 (x + x / 8)) else 0)
    (fun r => ∃ T', r = some (v, T') ∧ (∀ i k, i ≠ 57 → T'.1 i k = T.1 i k) ∧ T'.2 = T.2 ∧ ∀ x, x < 64 → T'.1 57 x = if v = -1 then kdV (T.1 56 (x + x / 8)) else 0)
    (by
      rintro c s hc ⟨T', rfl, a1, a2, a3⟩
      have c64 : ¬ ((64 : Int32) ≤ nI c) := nI_ge hc (by decide)
      have e47 : ∀ k w T'', bX8_reads_47 F k v (nI c) w (nI c) T'' = k (v, nI (c + 1), g_setI T'' 57 c w) := fun k w T'' => by
        unfold bX8_reads_47
        rw [chk_nI hc (by decide), nI_clamp (by omega)]
        simp only [gl_def, nI_1]
      refine Or.inl ⟨(v, nI (c + 1), g_setI T' 57 c (if v = -1 then kdV (T.1 56 (c + c / 8)) else 0)), ⟨_, rfl, fun i k h => by rw [rI_ne _ _ (Or.inl h)]; exact a1 i k h, a2, fun x hx => ?_⟩, fun k => ?_⟩
      · by_cases q : x = c
        · subst q; rw [rI_same]
        · rw [rI_ne _ _ (Or.inr q)]; exact a3 x (by omega)
      · show bX8_reads_7 F k v (nI c) T' = _
        unfold bX8_reads_7
        rw [if_neg c64]
        by_cases q : v = -1
        · rw [if_pos q, nz_ok (by decide), nz_ok (by decide), ix9 hc, chk_nI (show c + c / 8 < 75 by omega) (by decide), nI_clamp (by omega), kindOf8_spec]
          simp only [Option.bind_some]
          rw [e47, show g_I T' 56 (c + c / 8) = T.1 56 (c + c / 8) from a1 56 _ (by decide), if_pos q]
        · rw [if_neg q, e47, if_neg q])
    (by
      rintro s ⟨T', rfl, a1, a2, a3⟩
      refine ⟨_, ⟨T', rfl, a1, a2, a3⟩, fun k => ?_⟩
      show bX8_reads_7 F k v (nI 64) T' = _
      unfold bX8_reads_7
      rw [if_pos (by decide)])
    F (v, (0 : Int32), T) ⟨T, rfl, fun _ _ _ => rfl, rfl, fun x hx => by omega⟩ (by omega)
  refine ⟨v, T', ?_, e2, g2, g3, g4⟩
  unfold fX8_reads
  rw [e1]
  simp only [Option.bind_some, gl_def]
  rw [← g1, ← hr]; rfl

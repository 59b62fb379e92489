/-! two loops side by side -/
theorem fix2 {σ τ R R' : Type} {b1 : (σ → Option R) → σ → Option R} {b2 : (τ → Option R') → τ → Option R'} (n : Nat) (I : Nat → σ → τ → Prop) (Q : Option R → Option R' → Prop)
    (hs : ∀ c s t, c < n → I c s t → (∃ s' t', I (c + 1) s' t' ∧ (∀ k, b1 k s = k s') ∧ (∀ k, b2 k t = k t')) ∨ (∃ x y, Q x y ∧ (∀ k, b1 k s = x) ∧ (∀ k, b2 k t = y)))
    (he : ∀ s t, I n s t → ∃ x y, Q x y ∧ (∀ k, b1 k s = x) ∧ (∀ k, b2 k t = y)) : ∀ F F' s t, I 0 s t → n < F → n < F' → ∃ x y, Q x y ∧ g_fix b1 F s = x ∧ g_fix b2 F' t = y := by
  have key : ∀ j c, c + j = n → ∀ F F' s t, I c s t → j < F → j < F' → ∃ x y, Q x y ∧ g_fix b1 F s = x ∧ g_fix b2 F' t = y := by
    intro j
    induction j with
    | zero =>
      intro c hc F F' s t hI hF hF'
      have hc' : c = n := by omega
      subst hc'
      obtain ⟨x, y, h1, h2, h3⟩ := he s t hI
      exact ⟨x, y, h1, by rw [fix_pos hF]; exact h2 _, by rw [fix_pos hF']; exact h3 _⟩
    | succ j ih =>
      intro c hc F F' s t hI hF hF'
      rcases hs c s t (by omega) hI with ⟨s', t', h1, h2, h3⟩ | ⟨x, y, h1, h2, h3⟩
      · obtain ⟨x, y, g1, g2, g3⟩ := ih (c + 1) (by omega) (F - 1) (F' - 1) s' t' h1 (by omega) (by omega)
        exact ⟨x, y, g1, by rw [fix_pos (by omega), h2]; exact g2, by rw [fix_pos (by omega), h3]; exact g3⟩
      · exact ⟨x, y, h1, by rw [fix_pos (by omega)]; exact h2 _, by rw [fix_pos (by omega)]; exact h3 _⟩
  exact fun F F' s t hI hF hF' => key n 0 (by omega) F F' s t hI hF hF'
theorem setI_self (S : gS) (i k : Nat) : g_setI S i k (S.1 i k) = S := by
  unfold g_setI
  apply Prod.ext
  · funext a b
    dsimp only
    split
    · next h => rw [h.1, h.2]
    · rfl
  · rfl
/-! what lies on the cells -/
def FG (S S' : gS) : Prop := (∀ i k, (i < 4 ∨ 7 < i) → S'.1 i k = S.1 i k) ∧ S'.2 = S.2
def GM (T T' : gS) : Prop := (∀ i k, (i < 57 ∨ 61 < i) → T'.1 i k = T.1 i k) ∧ T'.2 = T.2
theorem FG.rf (S : gS) : FG S S := ⟨fun _ _ _ => rfl, rfl⟩
theorem GM.rf (S : gS) : GM S S := ⟨fun _ _ _ => rfl, rfl⟩
theorem FG.tr {S0 S1 S2 : gS} (h1 : FG S0 S1) (h2 : FG S1 S2) : FG S0 S2 := ⟨fun i k h => (h2.1 i k h).trans (h1.1 i k h), h2.2.trans h1.2⟩
theorem GM.tr {S0 S1 S2 : gS} (h1 : GM S0 S1) (h2 : GM S1 S2) : GM S0 S2 := ⟨fun i k h => (h2.1 i k h).trans (h1.1 i k h), h2.2.trans h1.2⟩
theorem FG.set {S : gS} {i k : Nat} {v : Int32} (h : 4 ≤ i ∧ i ≤ 7) : FG S (g_setI S i k v) := ⟨fun j k hj => rI_ne _ _ (Or.inl (by omega)), rfl⟩
theorem GM.set {S : gS} {i k : Nat} {v : Int32} (h : 57 ≤ i ∧ i ≤ 61) : GM S (g_setI S i k v) := ⟨fun j k hj => rI_ne _ _ (Or.inl (by omega)), rfl⟩
theorem InvG.of {S S' T T' : gS} (h : Inv S T) (hc : FG S S') (hm : GM T T') (hG : InvG S' T') : Inv S' T' ∧ CK S S' ∧ MK T T' := by
  obtain ⟨⟨len, h1, h2, h3, h4, h5, h6⟩, -, ⟨nW, w1, w2, w3, w4⟩, hS, hf⟩ := h
  have c := hc.1
  have m := hm.1
  have c2 : S'.1 2 = S.1 2 := by funext k; exact c 2 k (by omega)
  refine ⟨⟨⟨len, h1, ?_, ?_, fun k hk => ?_, ?_, fun x hx => ?_⟩, hG, ⟨nW, w1, ?_, ?_, fun w hw => ?_⟩, fun s hs => ?_, ?_⟩, fun i k hi => c i k (by omega), fun i k hi => m i k (by omega), hm.2⟩
  · rw [c 1 1 (by omega)]; exact h2
  · rw [m 51 6 (by omega)]; exact h3
  · rw [c 2 k (by omega), m 56 k (by omega)]; exact h4 k hk
  · rw [c2, c 1 2 (by omega)]; exact h5
  · rw [hc.2, c 1 2 (by omega), c 2 _ (by omega)]; exact h6 x hx
  · rw [c 9 2 (by omega)]; exact w2
  · rw [m 51 12 (by omega)]; exact w3
  · rw [c 10 w (by omega), c 11 w (by omega), m 62 w (by omega), m 63 w (by omega)]; exact w4 w hw
  · have e1 : ∀ k, S'.1 (43 + 2 * s) k = S.1 (43 + 2 * s) k := fun k => c _ k (by omega)
    have e2 : ∀ k, S'.1 (44 + 2 * s) k = S.1 (44 + 2 * s) k := fun k => c _ k (by omega)
    rw [e1, e1, m 52 s (by omega), m 53 s (by omega)]
    obtain ⟨a, b | ⟨f, n, b1, b2, b3, b4, b5, b6⟩⟩ := hS s hs
    · exact ⟨a, Or.inl b⟩
    · exact ⟨a, Or.inr ⟨f, n, b1, b2, b3, b4, b5, fun i hi => by rw [e2, m 54 _ (by omega)]; exact b6 i hi⟩⟩
  · rw [c 0 7 (by omega), m 51 4 (by omega)]; exact hf
theorem InvG.s4 {S T : gS} {c v : Nat} (h : InvG S T) (hv : v ≤ 30) : InvG (g_setI S 4 c (nI v)) (g_setI T 58 c (nI v)) := fun x hx => by
  obtain ⟨a, b, d, e, f⟩ := h x hx
  refine ⟨?_, ?_, ?_, ?_, ?_⟩
  · by_cases q : x = c
    · subst q; exact ⟨v, hv, rI_same _ _ _ _, rI_same _ _ _ _⟩
    · rw [rI_ne _ _ (Or.inr q), rI_ne _ _ (Or.inr q)]; exact a
  · rw [rI_ne _ _ (Or.inl (by decide)), rI_ne _ _ (Or.inl (by decide))]; exact b
  · rw [rI_ne _ _ (Or.inl (by decide)), rI_ne _ _ (Or.inl (by decide))]; exact d
  · rw [rI_ne _ _ (Or.inl (by decide)), rI_ne _ _ (Or.inl (by decide))]; exact e
  · rw [rI_ne _ _ (Or.inl (by decide))]; exact f
theorem InvG.s5 {S T : gS} {c v : Nat} (h : InvG S T) (hv : v ≤ 30) : InvG (g_setI S 5 c (nI v)) (g_setI T 59 c (nI v)) := fun x hx => by
  obtain ⟨a, b, d, e, f⟩ := h x hx
  refine ⟨?_, ?_, ?_, ?_, ?_⟩
  · rw [rI_ne _ _ (Or.inl (by decide)), rI_ne _ _ (Or.inl (by decide))]; exact a
  · by_cases q : x = c
    · subst q; exact ⟨v, hv, rI_same _ _ _ _, rI_same _ _ _ _⟩
    · rw [rI_ne _ _ (Or.inr q), rI_ne _ _ (Or.inr q)]; exact b
  · rw [rI_ne _ _ (Or.inl (by decide)), rI_ne _ _ (Or.inl (by decide))]; exact d
  · rw [rI_ne _ _ (Or.inl (by decide)), rI_ne _ _ (Or.inl (by decide))]; exact e
  · rw [rI_ne _ _ (Or.inl (by decide))]; exact f
theorem InvG.s6 {S T : gS} {c v : Nat} (h : InvG S T) (hv : v ≤ 30) : InvG (g_setI S 6 c (nI v)) (g_setI T 60 c (nI v)) := fun x hx => by
  obtain ⟨a, b, d, e, f⟩ := h x hx
  refine ⟨?_, ?_, ?_, ?_, ?_⟩
  · rw [rI_ne _ _ (Or.inl (by decide)), rI_ne _ _ (Or.inl (by decide))]; exact a
  · rw [rI_ne _ _ (Or.inl (by decide)), rI_ne _ _ (Or.inl (by decide))]; exact b
  · by_cases q : x = c
    · subst q; exact ⟨v, hv, rI_same _ _ _ _, rI_same _ _ _ _⟩
    · rw [rI_ne _ _ (Or.inr q), rI_ne _ _ (Or.inr q)]; exact d
  · rw [rI_ne _ _ (Or.inl (by decide)), rI_ne _ _ (Or.inl (by decide))]; exact e
  · rw [rI_ne _ _ (Or.inl (by decide))]; exact f
theorem InvG.s7 {S T : gS} {c : Nat} {v : Int32} (h : InvG S T) : InvG (g_setI S 7 c v) (g_setI T 61 c v) := fun x hx => by
  obtain ⟨a, b, d, e, f⟩ := h x hx
  refine ⟨?_, ?_, ?_, ?_, ?_⟩
  · rw [rI_ne _ _ (Or.inl (by decide)), rI_ne _ _ (Or.inl (by decide))]; exact a
  · rw [rI_ne _ _ (Or.inl (by decide)), rI_ne _ _ (Or.inl (by decide))]; exact b
  · rw [rI_ne _ _ (Or.inl (by decide)), rI_ne _ _ (Or.inl (by decide))]; exact d
  · by_cases q : x = c
    · subst q; rw [rI_same, rI_same]
    · rw [rI_ne _ _ (Or.inr q), rI_ne _ _ (Or.inr q)]; exact e
  · rw [rI_ne _ _ (Or.inl (by decide))]; exact f
theorem InvG.m57 {S T T' : gS} (h : InvG S T) (hm : ∀ i k, i ≠ 57 → T'.1 i k = T.1 i k) : InvG S T' := fun x hx => by
  rw [hm 58 x (by decide), hm 59 x (by decide), hm 60 x (by decide), hm 61 x (by decide)]; exact h x hx
theorem min30 {a : Nat} (h : a < 2 ^ 31) : (if nI a < (30 : Int32) then nI a else 30) = nI (min a 30) := by
  rw [show (30 : Int32) = nI 30 from rfl]
  by_cases q : a < 30
  · rw [if_pos (nI_lt q (by decide)), Nat.min_eq_left (by omega)]
  · rw [if_neg (nI_nlt (by omega) (by omega)), Nat.min_eq_right (by omega)]
theorem least30 (F : Nat) {a : Nat} (h : a < 2 ^ 31) (T : gS) : fX8_least F (nI a) 30 T = some (nI (min a 30), T) := by
  unfold fX8_least
  rw [show (30 : Int32) = nI 30 from rfl]
  by_cases q : 30 ≤ a
  · rw [if_pos (nI_le q h), Nat.min_eq_right q]
  · rw [if_neg (nI_ge (by omega) (by decide)), Nat.min_eq_left (by omega)]
theorem less_spec (F : Nat) {a n : Nat} (ha : a < 2 ^ 31) (hn : n < 2 ^ 31) (T : gS) : fX8_less F (nI a) (nI n) T = some (nI (a - n), T) := by
  unfold fX8_less
  by_cases q : a ≤ n
  · rw [if_pos (nI_le q hn), show a - n = 0 by omega]; rfl
  · rw [if_neg (nI_ge (by omega) ha), pk_sub (by omega)]
theorem max0 {a n : Nat} (ha : a < 2 ^ 30) (hn : n < 2 ^ 30) : (if (0 : Int32) < nI a - nI n then nI a - nI n else 0) = nI (a - n) := by
  by_cases q : n < a
  · rw [pk_sub (by omega), if_pos (show (0 : Int32) < nI (a - n) from nI_lt (a := 0) (by omega) (by omega))]
  · by_cases q2 : a = n
    · subst q2
      rw [pk_sub (Nat.le_refl _), Nat.sub_self]; rfl
    · have h1 : nI a - nI n < 0 := pk_sneg hn (by omega)
      rw [if_neg (fun z => absurd (Int32.lt_trans z h1) Int32.lt_irrefl), show a - n = 0 by omega]; rfl
theorem ten_cases (a : Int32) (n : Nat) (hn : n < 1000) : (a < 0 ∨ (¬ a < 0 ∧ ¬ a ≤ nI n)) ∨ ∃ j, j ≤ n ∧ a = nI j := by
  rcases three a (n := n + 1) (by omega) with h | ⟨j, h1, h2⟩
  · refine Or.inl ?_
    by_cases q : a < 0
    · exact Or.inl q
    · refine Or.inr ⟨q, fun z => ?_⟩
      have := Int32.le_trans (h.resolve_left q) z
      exact absurd this (nI_ge (by omega) (by omega))
  · exact Or.inr ⟨j, by omega, h2⟩
theorem out_of {a : Int32} {n : Nat} (hn : n < 1000) (h : a < 0 ∨ (¬ a < 0 ∧ ¬ a ≤ nI n)) : a < 0 ∨ nI (n + 1) ≤ a := by
  rcases h with h | ⟨h1, h2⟩
  · exact Or.inl h
  · rcases three a (n := n + 1) (by omega) with h | ⟨j, h3, h4⟩
    · exact h
    · exact absurd (by rw [h4]; exact nI_le (by omega) (by omega)) h2
theorem op_snows {F : Nat} (hF : 100 < F) (a : Int32) : Op Int32 (fX7_snows F a) (fX8_snows F a) := by
  intro S T h
  rcases ten_cases a 9 (by decide) with hout | ⟨n, hn, rfl⟩
  · refine ⟨-2, S, T, ?_, ?_, h, fun _ _ _ => rfl, fun _ _ _ => rfl, rfl⟩
    · unfold fX7_snows
      rcases hout with h1 | ⟨h1, h2⟩
      · rw [if_pos h1]
      · rw [if_neg h1, if_neg (show ¬ a ≤ (9 : Int32) from h2)]
    · unfold fX8_snows
      rw [in_out (n := 9) (by decide) (by decide) (out_of (by decide) hout)]
      rfl
  · obtain ⟨T1, r1, r2, r3, r4⟩ := reads_rel (F := F) hF h.1
    obtain ⟨x, y, ⟨v, S', T', e1, e2, e3, e4, e5⟩, g1, g2⟩ := fix2 (b1 := fun k6 s => bX1_addSnow_6 F k6 s.1 s.2.1 s.2.2.1 s.2.2.2.1 s.2.2.2.2) (b2 := fun k24 s => bX8_snows_24 F k24 s.1 s.2.1 s.2.2.1 s.2.2.2) 64
      (fun c s t => ∃ m S' T', s = (nI n, S.2 1 3, m, nI c, S') ∧ t = (nI n, m, nI c, T') ∧ FG S S' ∧ GM T T' ∧ InvG S' T' ∧ ∀ x, T'.1 57 x = T1.1 57 x)
      (fun x y => ∃ v S' T', x = some (v, S') ∧ y = some (v, T') ∧ FG S S' ∧ GM T T' ∧ InvG S' T')
      (by
        rintro c s t hc ⟨m, S', T', rfl, rfl, k1, k2, k3, k4⟩
        have c64 : ¬ ((64 : Int32) ≤ nI c) := nI_ge hc (by decide)
        obtain ⟨⟨w, w1, w2, w3⟩, -⟩ := k3 c hc
        have e57 : T'.1 57 c = if hb (S.2 1 3) c then 1 else if hb (S.2 1 4) c then 2 else 0 := by rw [k4, r4 c hc]
        have e63 : ∀ k m v, bX1_addSnow_63 F k (nI n) (S.2 1 3) m (nI c) v S' = k (nI n, S.2 1 3, m, nI (c + 1), g_setI S' 4 c v) := fun k m v => by
          unfold bX1_addSnow_63
          rw [chk_nI hc (by decide), nI_clamp (by omega)]
          simp only [gl_def, nI_1]
        have e82 : ∀ k m T'', bX8_snows_82 F k (nI n) m (nI c) T'' = k (nI n, m, nI (c + 1), T'') := fun k m T'' => by unfold bX8_snows_82; rw [gl_def, nI_1]
        by_cases q : hb (S.2 1 3) c = true
        · refine Or.inl ⟨(nI n, S.2 1 3, m, nI (c + 1), S'), (nI n, m, nI (c + 1), T'), ⟨m, S', T', rfl, rfl, k1, k2, k3, k4⟩, fun k => ?_, fun k => ?_⟩
          · show bX1_addSnow_6 F k (nI n) (S.2 1 3) m (nI c) S' = _
            unfold bX1_addSnow_6
            rw [if_neg c64, has_spec F _ hc]
            simp only [Option.bind_some, hasV, q, if_true]
            rw [if_neg (by decide), chk_nI hc (by decide), nI_clamp (by omega)]
            unfold bX1_addSnow_46
            rw [chk_nI hc (by decide), nI_clamp (by omega), if_pos (Int32.le_refl _), e63, setI_self]
          · show bX8_snows_24 F k (nI n) m (nI c) T' = _
            unfold bX8_snows_24
            rw [if_neg c64, chk_nI hc (by decide), nI_clamp (by omega), if_pos (by show T'.1 57 c = 1; rw [e57, if_pos q]), e82]
        · have q' : hb (S.2 1 3) c = false := by simpa using q
          have hk1 : ¬ T'.1 57 c = 1 := by rw [e57, q']; simp; split <;> decide
          refine Or.inl ⟨(nI n, S.2 1 3, if w < min (w + n) 30 then m + 1 else m, nI (c + 1), g_setI S' 4 c (nI (min (w + n) 30))), (nI n, if w < min (w + n) 30 then m + 1 else m, nI (c + 1), g_setI T' 58 c (nI (min (w + n) 30))), ⟨_, _, _, rfl, rfl, k1.tr (FG.set ⟨by decide, by decide⟩), k2.tr (GM.set ⟨by decide, by decide⟩), k3.s4 (by omega), fun x => by rw [rI_ne _ _ (Or.inl (by decide))]; exact k4 x⟩, fun k => ?_, fun k => ?_⟩
          · show bX1_addSnow_6 F k (nI n) (S.2 1 3) m (nI c) S' = _
            unfold bX1_addSnow_6
            rw [if_neg c64, has_spec F _ hc]
            simp only [Option.bind_some, hasV, q']
            rw [if_pos (by decide), chk_nI hc (by decide), nI_clamp (by omega), show g_I S' 4 c = nI w from w2, nI_add, min30 (by omega)]
            unfold bX1_addSnow_46
            rw [chk_nI hc (by decide), nI_clamp (by omega), show g_I S' 4 c = nI w from w2]
            by_cases q2 : w < min (w + n) 30
            · rw [if_neg (nI_ge q2 (by omega)), gl_def, e63, if_pos q2]
            · rw [if_pos (nI_le (by omega) (by omega)), e63, if_neg q2]
          · show bX8_snows_24 F k (nI n) m (nI c) T' = _
            unfold bX8_snows_24
            rw [if_neg c64, chk_nI hc (by decide), nI_clamp (by omega), if_neg hk1, chk_nI hc (by decide), show g_I T' 58 c = nI w from w3, nI_add, least30 F (by omega)]
            simp only [Option.bind_some, gl_def]
            rw [chk_nI hc (by decide), show g_I T' 58 c = nI w from w3]
            unfold bX8_snows_72
            simp only [gl_def, chk_nI hc (show 64 < 2 ^ 31 by decide), nI_clamp (show c < 2 ^ 31 by omega), e82]
            by_cases q2 : w < min (w + n) 30
            · rw [if_neg (nI_ge q2 (by omega)), if_pos q2]
            · rw [if_pos (nI_le (by omega) (by omega)), if_neg q2]
              simp)
      (by
        rintro s t ⟨m, S', T', rfl, rfl, k1, k2, k3, k4⟩
        refine ⟨_, _, ⟨m, S', T', rfl, rfl, k1, k2, k3⟩, fun k => ?_, fun k => ?_⟩
        · show bX1_addSnow_6 F k (nI n) (S.2 1 3) m (nI 64) S' = _
          unfold bX1_addSnow_6
          rw [if_pos (by decide)]
        · show bX8_snows_24 F k (nI n) m (nI 64) T' = _
          unfold bX8_snows_24
          rw [if_pos (by decide)])
      F F (nI n, S.2 1 3, (0 : Int32), (0 : Int32), S) (nI n, (0 : Int32), (0 : Int32), T1) ⟨0, S, T1, rfl, rfl, FG.rf S, ⟨fun i k hi => r2 i k (by omega), r3⟩, h.2.1.m57 r2, fun _ => rfl⟩ (by omega) (by omega)
    obtain ⟨i1, i2, i3⟩ := InvG.of h e3 e4 e5
    refine ⟨v, S', T', ?_, ?_, i1, i2, i3⟩
    · unfold fX7_snows
      rw [if_neg (nI_pos (by omega)), if_pos (show nI n ≤ (9 : Int32) from nI_le (b := 9) hn (by decide))]
      have : fX1_addSnow F (nI n) (g_J S 1 3) S = some (v, S') := by rw [← e1, ← g1]; rfl
      rw [this]; rfl
    · unfold fX8_snows
      rw [in_in (n := 9) (by decide) (by decide) hn]
      simp only [Option.bind_some]
      rw [if_neg (by decide), r1]
      simp only [Option.bind_some]
      rw [← e2, ← g2]; rfl
theorem op_thaws {F : Nat} (hF : 100 < F) (a : Int32) : Op Int32 (fX7_thaws F a) (fX8_thaws F a) := by
  intro S T h
  rcases ten_cases a 9 (by decide) with hout | ⟨n, hn, rfl⟩
  · refine ⟨-2, S, T, ?_, ?_, h, fun _ _ _ => rfl, fun _ _ _ => rfl, rfl⟩
    · unfold fX7_thaws
      rcases hout with h1 | ⟨h1, h2⟩
      · rw [if_pos h1]
      · rw [if_neg h1, if_neg (show ¬ a ≤ (9 : Int32) from h2)]
    · unfold fX8_thaws
      rw [in_out (n := 9) (by decide) (by decide) (out_of (by decide) hout)]
      rfl
  · obtain ⟨x, y, ⟨v, S', T', e1, e2, e3, e4, e5⟩, g1, g2⟩ := fix2 (b1 := fun k4 s => bX1_melt_4 F k4 s.1 s.2.1 s.2.2.1 s.2.2.2) (b2 := fun k19 s => bX8_thaws_19 F k19 s.1 s.2.1 s.2.2.1 s.2.2.2) 64
      (fun c s t => ∃ m S' T', s = (nI n, m, nI c, S') ∧ t = (nI n, m, nI c, T') ∧ FG S S' ∧ GM T T' ∧ InvG S' T')
      (fun x y => ∃ v S' T', x = some (v, S') ∧ y = some (v, T') ∧ FG S S' ∧ GM T T' ∧ InvG S' T')
      (by
        rintro c s t hc ⟨m, S', T', rfl, rfl, k1, k2, k3⟩
        have c64 : ¬ ((64 : Int32) ≤ nI c) := nI_ge hc (by decide)
        obtain ⟨⟨w, w1, w2, w3⟩, ⟨p, p1, p2, p3⟩, ⟨i, i1, i2, i3⟩, -⟩ := k3 c hc
        have e44 : ∀ k m, bX1_melt_44 F k (nI n) m (nI c) S' = k (nI n, m, nI (c + 1), g_setI (g_setI (g_setI S' 4 c (nI (w - n))) 5 c (nI (p - n))) 6 c (nI (i - n))) := fun k m => by
          unfold bX1_melt_44
          simp only [gl_def, chk_nI hc (show 64 < 2 ^ 31 by decide), nI_clamp (show c < 2 ^ 31 by omega), nI_1]
          rw [show g_I S' 4 c = nI w from w2, max0 (by omega) (by omega)]
          have x1 : g_I (g_setI S' 4 c (nI (w - n))) 5 c = nI p := by show (g_setI _ _ _ _).1 _ _ = _; rw [rI_ne _ _ (Or.inl (by decide))]; exact p2
          rw [x1, max0 (by omega) (by omega)]
          have x2 : g_I (g_setI (g_setI S' 4 c (nI (w - n))) 5 c (nI (p - n))) 6 c = nI i := by show (g_setI _ _ _ _).1 _ _ = _; rw [rI_ne _ _ (Or.inl (by decide)), rI_ne _ _ (Or.inl (by decide))]; exact i2
          rw [x2, max0 (by omega) (by omega)]
        have e58 : ∀ k m d, bX8_thaws_58 F k (nI n) (nI c) d m T' = k (nI n, m + d, nI (c + 1), g_setI (g_setI (g_setI T' 58 c (nI (w - n))) 59 c (nI (p - n))) 60 c (nI (i - n))) := fun k m d => by
          unfold bX8_thaws_58
          simp only [gl_def, chk_nI hc (show 64 < 2 ^ 31 by decide), nI_clamp (show c < 2 ^ 31 by omega), nI_1]
          rw [show g_I T' 58 c = nI w from w3, less_spec F (by omega) (by omega)]
          simp only [Option.bind_some]
          have x1 : g_I (g_setI T' 58 c (nI (w - n))) 59 c = nI p := by show (g_setI _ _ _ _).1 _ _ = _; rw [rI_ne _ _ (Or.inl (by decide))]; exact p3
          rw [x1, less_spec F (by omega) (by omega)]
          simp only [Option.bind_some]
          have x2 : g_I (g_setI (g_setI T' 58 c (nI (w - n))) 59 c (nI (p - n))) 60 c = nI i := by show (g_setI _ _ _ _).1 _ _ = _; rw [rI_ne _ _ (Or.inl (by decide)), rI_ne _ _ (Or.inl (by decide))]; exact i3
          rw [x2, less_spec F (by omega) (by omega)]
          rfl
        have e41 : ∀ k m, bX1_melt_41 F k (nI n) m (nI c) S' = bX1_melt_44 F k (nI n) (m + 1) (nI c) S' := fun k m => rfl
        have e57 : ∀ k m, bX8_thaws_57 F k (nI n) (nI c) m T' = bX8_thaws_58 F k (nI n) (nI c) 0 m T' := fun k m => rfl
        refine Or.inl ⟨(nI n, if 0 < n ∧ 0 < w + p + i then m + 1 else m, nI (c + 1), _), (nI n, if 0 < n ∧ 0 < w + p + i then m + 1 else m, nI (c + 1), _), ⟨_, _, _, rfl, rfl, k1.tr ((FG.set ⟨by decide, by decide⟩).tr ((FG.set ⟨by decide, by decide⟩).tr (FG.set ⟨by decide, by decide⟩))), k2.tr ((GM.set ⟨by decide, by decide⟩).tr ((GM.set ⟨by decide, by decide⟩).tr (GM.set ⟨by decide, by decide⟩))), ((k3.s4 (c := c) (v := w - n) (by omega)).s5 (c := c) (v := p - n) (by omega)).s6 (c := c) (v := i - n) (by omega)⟩, fun k => ?_, fun k => ?_⟩
        · show bX1_melt_4 F k (nI n) m (nI c) S' = _
          unfold bX1_melt_4
          rw [if_neg c64, chk_nI hc (by decide), chk_nI hc (by decide), chk_nI hc (by decide), nI_clamp (by omega), show g_I S' 4 c = nI w from w2, show g_I S' 5 c = nI p from p2, show g_I S' 6 c = nI i from i2]
          simp only [e41, e44]
          by_cases q0 : 0 < n
          · rw [if_neg (nI_nle q0 (by omega))]
            by_cases q1 : 0 < w
            · rw [if_pos (show (0 : Int32) < nI w from nI_lt (a := 0) q1 (by omega)), if_pos ⟨q0, by omega⟩]
            · rw [if_neg (show ¬ (0 : Int32) < nI w from nI_nlt (b := w) (a := 0) (by omega) (by omega))]
              by_cases q2 : 0 < p
              · rw [if_pos (show (0 : Int32) < nI p from nI_lt (a := 0) q2 (by omega)), if_pos ⟨q0, by omega⟩]
              · rw [if_neg (show ¬ (0 : Int32) < nI p from nI_nlt (b := p) (a := 0) (by omega) (by omega))]
                by_cases q3 : 0 < i
                · rw [if_neg (nI_nle q3 (by omega)), if_pos ⟨q0, by omega⟩]
                · rw [if_pos (show nI i ≤ (0 : Int32) from nI_le (b := 0) (by omega) (by decide)), if_neg (by omega)]
          · rw [if_pos (show nI n ≤ (0 : Int32) from nI_le (b := 0) (by omega) (by decide)), if_neg (by omega)]
        · show bX8_thaws_19 F k (nI n) m (nI c) T' = _
          unfold bX8_thaws_19
          rw [if_neg c64, chk_nI hc (by decide), chk_nI hc (by decide), chk_nI hc (by decide), nI_clamp (by omega), show g_I T' 58 c = nI w from w3, show g_I T' 59 c = nI p from p3, show g_I T' 60 c = nI i from i3, nI_add, nI_add]
          simp only [e57, e58]
          by_cases q0 : 0 < n
          · rw [if_neg (nI_nle q0 (by omega))]
            by_cases q1 : 0 < w + p + i
            · rw [if_neg (nI_nle q1 (by omega)), if_pos ⟨q0, q1⟩]
            · rw [if_pos (show nI (w + p + i) ≤ (0 : Int32) from nI_le (b := 0) (by omega) (by decide)), if_neg (by omega)]; simp
          · rw [if_pos (show nI n ≤ (0 : Int32) from nI_le (b := 0) (by omega) (by decide)), if_neg (by omega)]; simp)
      (by
        rintro s t ⟨m, S', T', rfl, rfl, k1, k2, k3⟩
        refine ⟨_, _, ⟨m, S', T', rfl, rfl, k1, k2, k3⟩, fun k => ?_, fun k => ?_⟩
        · show bX1_melt_4 F k (nI n) m (nI 64) S' = _
          unfold bX1_melt_4
          rw [if_pos (by decide)]
        · show bX8_thaws_19 F k (nI n) m (nI 64) T' = _
          unfold bX8_thaws_19
          rw [if_pos (by decide)])
      F F (nI n, (0 : Int32), (0 : Int32), S) (nI n, (0 : Int32), (0 : Int32), T) ⟨0, S, T, rfl, rfl, FG.rf S, GM.rf T, h.2.1⟩ (by omega) (by omega)
    obtain ⟨i1, i2, i3⟩ := InvG.of h e3 e4 e5
    refine ⟨v, S', T', ?_, ?_, i1, i2, i3⟩
    · unfold fX7_thaws
      rw [if_neg (nI_pos (by omega)), if_pos (show nI n ≤ (9 : Int32) from nI_le (b := 9) hn (by decide))]
      have : fX1_melt F (nI n) S = some (v, S') := by rw [← e1, ← g1]; rfl
      rw [this]; rfl
    · unfold fX8_thaws
      rw [in_in (n := 9) (by decide) (by decide) hn]
      simp only [Option.bind_some]
      rw [if_neg (by decide)]
      rw [← e2, ← g2]; rfl
theorem op_freezes {F : Nat} (hF : 100 < F) : Op Int32 (fX7_freezes F) (fX8_freezes F) := by
  intro S T h
  obtain ⟨x, y, ⟨v, S', T', e1, e2, e3, e4, e5⟩, g1, g2⟩ := fix2 (b1 := fun k4 s => bX1_freeze_4 F k4 s.1 s.2.1 s.2.2) (b2 := fun k4 s => bX8_freezes_4 F k4 s.1 s.2.1 s.2.2) 64
    (fun c s t => ∃ m S' T', s = (m, nI c, S') ∧ t = (m, nI c, T') ∧ FG S S' ∧ GM T T' ∧ InvG S' T')
    (fun x y => ∃ v S' T', x = some (v, S') ∧ y = some (v, T') ∧ FG S S' ∧ GM T T' ∧ InvG S' T')
    (by
      rintro c s t hc ⟨m, S', T', rfl, rfl, k1, k2, k3⟩
      have c64 : ¬ ((64 : Int32) ≤ nI c) := nI_ge hc (by decide)
      obtain ⟨-, ⟨p, p1, p2, p3⟩, -⟩ := k3 c hc
      have e34 : ∀ k m S'', bX1_freeze_34 F k m (nI c) S'' = k (m, nI (c + 1), S'') := fun k m S'' => by unfold bX1_freeze_34; rw [gl_def, nI_1]
      have e37 : ∀ k m d T'', bX8_freezes_37 F k (nI c) d m T'' = k (m + d, nI (c + 1), T'') := fun k m d T'' => by unfold bX8_freezes_37; simp only [gl_def, nI_1]
      refine Or.inl ⟨(if 0 < p then m + 1 else m, nI (c + 1), g_setI S' 6 c (nI p)), (if 0 < p then m + 1 else m, nI (c + 1), g_setI T' 60 c (nI p)), ⟨_, _, _, rfl, rfl, k1.tr (FG.set ⟨by decide, by decide⟩), k2.tr (GM.set ⟨by decide, by decide⟩), k3.s6 p1⟩, fun k => ?_, fun k => ?_⟩
      · show bX1_freeze_4 F k m (nI c) S' = _
        unfold bX1_freeze_4
        rw [if_neg c64]
        simp only [gl_def, chk_nI hc (show 64 < 2 ^ 31 by decide), nI_clamp (show c < 2 ^ 31 by omega)]
        rw [show g_I S' 5 c = nI p from p2, show g_I (g_setI S' 6 c (nI p)) 6 c = nI p from rI_same _ _ _ _]
        simp only [e34]
        by_cases q : 0 < p
        · rw [if_neg (nI_nle q (by omega)), if_pos q]
        · rw [if_pos (show nI p ≤ (0 : Int32) from nI_le (b := 0) (by omega) (by decide)), if_neg q]
      · show bX8_freezes_4 F k m (nI c) T' = _
        unfold bX8_freezes_4
        rw [if_neg c64]
        simp only [gl_def, chk_nI hc (show 64 < 2 ^ 31 by decide), nI_clamp (show c < 2 ^ 31 by omega)]
        rw [show g_I T' 59 c = nI p from p3, show g_I (g_setI T' 60 c (nI p)) 60 c = nI p from rI_same _ _ _ _]
        simp only [e37]
        by_cases q : 0 < p
        · rw [if_neg (nI_nle q (by omega)), if_pos q]
        · rw [if_pos (show nI p ≤ (0 : Int32) from nI_le (b := 0) (by omega) (by decide)), if_neg q]; simp)
    (by
      rintro s t ⟨m, S', T', rfl, rfl, k1, k2, k3⟩
      refine ⟨_, _, ⟨m, S', T', rfl, rfl, k1, k2, k3⟩, fun k => ?_, fun k => ?_⟩
      · show bX1_freeze_4 F k m (nI 64) S' = _
        unfold bX1_freeze_4
        rw [if_pos (by decide)]
      · show bX8_freezes_4 F k m (nI 64) T' = _
        unfold bX8_freezes_4
        rw [if_pos (by decide)])
    F F ((0 : Int32), (0 : Int32), S) ((0 : Int32), (0 : Int32), T) ⟨0, S, T, rfl, rfl, FG.rf S, GM.rf T, h.2.1⟩ (by omega) (by omega)
  obtain ⟨i1, i2, i3⟩ := InvG.of h e3 e4 e5
  refine ⟨v, S', T', ?_, ?_, i1, i2, i3⟩
  · unfold fX7_freezes
    have : fX1_freeze F S = some (v, S') := by rw [← e1, ← g1]; rfl
    rw [this]; rfl
  · rw [← e2, ← g2]; rfl

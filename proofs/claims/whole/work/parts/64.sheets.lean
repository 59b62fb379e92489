/-! sheets -/
theorem InvS.of {S S' T T' : gS} (h : Inv S T) (hc : ∀ i k, (i < 43 ∨ 50 < i) → (i ≠ 0 ∨ k ≠ 7) → S'.1 i k = S.1 i k) (hc2 : S'.2 = S.2) (hm : ∀ i k, (i < 52 ∨ 55 < i) → (i ≠ 51 ∨ k ≠ 4) → T'.1 i k = T.1 i k) (hm2 : T'.2 = T.2) (hS : InvS S' T') (hf : S'.1 0 7 = T'.1 51 4) : Inv S' T' ∧ CK S S' ∧ MK T T' := by
  obtain ⟨⟨len, h1, h2, h3, h4, h5, h6⟩, hG, ⟨nW, w1, w2, w3, w4⟩, -, -⟩ := h
  have c2 : S'.1 2 = S.1 2 := by funext k; exact hc 2 k (by omega) (by omega)
  refine ⟨⟨⟨len, h1, ?_, ?_, fun k hk => ?_, ?_, fun x hx => ?_⟩, fun x hx => ?_, ⟨nW, w1, ?_, ?_, fun w hw => ?_⟩, hS, hf⟩, fun i k hi => hc i k (by omega) (by omega), fun i k hi => hm i k (by omega) (by omega), hm2⟩
  · rw [hc 1 1 (by omega) (by omega)]; exact h2
  · rw [hm 51 6 (by omega) (by omega)]; exact h3
  · rw [hc 2 k (by omega) (by omega), hm 56 k (by omega) (by omega)]; exact h4 k hk
  · rw [c2, hc 1 2 (by omega) (by omega)]; exact h5
  · rw [hc2, hc 1 2 (by omega) (by omega), hc 2 _ (by omega) (by omega)]; exact h6 x hx
  · rw [hc 4 x (by omega) (by omega), hc 5 x (by omega) (by omega), hc 6 x (by omega) (by omega), hc 7 x (by omega) (by omega), hc 8 x (by omega) (by omega), hm 58 x (by omega) (by omega), hm 59 x (by omega) (by omega), hm 60 x (by omega) (by omega), hm 61 x (by omega) (by omega)]; exact hG x hx
  · rw [hc 9 2 (by omega) (by omega)]; exact w2
  · rw [hm 51 12 (by omega) (by omega)]; exact w3
  · rw [hc 10 w (by omega) (by omega), hc 11 w (by omega) (by omega), hm 62 w (by omega) (by omega), hm 63 w (by omega) (by omega)]; exact w4 w hw
def OpAt (f g : gS → Option (Int32 × gS)) (S T : gS) : Prop := ∃ r S' T', f S = some (r, S') ∧ g T = some (r, T') ∧ Inv S' T' ∧ CK S S' ∧ MK T T'
theorem at_bad {f g : gS → Option (Int32 × gS)} {S T : gS} {r : Int32} (h : Inv S T) (h1 : f S = some (r, S)) (h2 : g T = some (r, T)) : OpAt f g S T := ⟨r, S, T, h1, h2, h, fun _ _ _ => rfl, fun _ _ _ => rfl, rfl⟩
theorem found_rel {S T : gS} (h : Inv S T) (v : Int32) : Inv (g_setI S 0 7 v) (g_setI T 51 4 v) ∧ CK S (g_setI S 0 7 v) ∧ MK T (g_setI T 51 4 v) := by
  refine InvS.of h (fun i k _ b => rI_ne _ _ b) rfl (fun i k _ b => rI_ne _ _ b) rfl (fun s hs => ?_) ?_
  · obtain ⟨a, b | ⟨f, n, b1, b2, b3, b4, b5, b6⟩⟩ := h.2.2.2.1 s hs
    · rw [rI_ne _ _ (Or.inl (by omega)), rI_ne _ _ (Or.inl (by omega))]
      exact ⟨a, Or.inl b⟩
    · rw [rI_ne _ _ (Or.inl (by omega)), rI_ne _ _ (Or.inl (by omega)), rI_ne _ _ (Or.inl (by omega)), rI_ne _ _ (Or.inl (by omega))]
      exact ⟨a, Or.inr ⟨f, n, b1, b2, b3, b4, b5, fun i hi => by rw [rI_ne _ _ (Or.inl (by omega)), rI_ne _ _ (Or.inl (by omega))]; exact b6 i hi⟩⟩
  · rw [rI_same, rI_same]
theorem at_found {f g : gS → Option (Int32 × gS)} {S T : gS} {r : Int32} (v : Int32) (h : Inv S T) (h1 : f S = some (r, g_setI S 0 7 v)) (h2 : g T = some (r, g_setI T 51 4 v)) : OpAt f g S T := by
  obtain ⟨a, b, c⟩ := found_rel h v
  exact ⟨r, _, _, h1, h2, a, b, c⟩
theorem found7 (F : Nat) (v : Int32) (S : gS) : fX7_found F v S = some (-10 - v, g_setI S 0 7 v) := rfl
theorem met8 (F : Nat) (v : Int32) (S : gS) : fX8_met F v S = some (-10 - v, g_setI S 51 4 v) := rfl
theorem sheet7_out (F : Nat) {a : Int32} (h : a < 0 ∨ nI 4 ≤ a) (S : gS) : fX7_isSheet F a S = some (0, S) := by
  unfold fX7_isSheet
  by_cases q : a < 0
  · rw [if_pos q]
  · rw [if_neg q, if_pos (show (4 : Int32) ≤ a from h.resolve_left q)]
theorem sheet7_in (F : Nat) {c : Nat} (h : c < 4) (S : gS) : fX7_isSheet F (nI c) S = some (1, S) := by
  unfold fX7_isSheet
  rw [if_neg (nI_pos (by omega)), if_neg (show ¬ ((4 : Int32) ≤ nI c) from nI_ge h (by decide))]
theorem sheet8_out (F : Nat) {a : Int32} (h : a < 0 ∨ nI 4 ≤ a) (S : gS) : fX8_isSheet F a S = some (0, S) := by
  unfold fX8_isSheet
  rw [in_out (n := 3) (by decide) (by decide) h]
  simp only [Option.bind_some]
  exact bo_0 _
theorem sheet8_in (F : Nat) {c : Nat} (h : c < 4) (S : gS) : fX8_isSheet F (nI c) S = some (1, S) := by
  unfold fX8_isSheet
  rw [in_in (n := 3) (by decide) (by decide) (by omega)]
  simp only [Option.bind_some]
  exact bo_1 _
theorem form7_out (F : Nat) {a : Int32} (h : a < 0 ∨ nI 3 ≤ a) (S : gS) : fX7_isForm F a S = some (0, S) := by
  unfold fX7_isForm
  by_cases q : a < 0
  · rw [if_pos q]
  · rw [if_neg q, if_pos (show (2 : Int32) < a from Int32.lt_of_lt_of_le (show (2 : Int32) < nI 3 by decide) (h.resolve_left q))]
theorem form7_in (F : Nat) {c : Nat} (h : c < 3) (S : gS) : fX7_isForm F (nI c) S = some (1, S) := by
  unfold fX7_isForm
  rw [if_neg (nI_pos (by omega)), if_neg (show ¬ ((2 : Int32) < nI c) from nI_nlt (b := c) (a := 2) (by omega) (by decide))]
theorem lost_yes (F o : Nat) {S : gS} (h : S.1 o 1 = -1) : fX5_isLost F o S = some (1, S) := by
  unfold fX5_isLost
  rw [if_pos (show g_I S o 1 = -1 from h)]
theorem lost_no (F o : Nat) {S : gS} {f : Nat} (h : S.1 o 1 = nI f) (hf : f ≤ 2) : fX5_isLost F o S = some (0, S) := by
  unfold fX5_isLost
  rw [if_neg (show ¬ g_I S o 1 = -1 from fun z => nI_nm1 (by omega) (h.symm.trans z))]
theorem sheetLoop_spec {F s n : Nat} {T : gS} (hF : 100 < F) (hs : s < 4) (hn : n ≤ 64) : ∃ T', bX8_sheet_55l F F (nI s, nI n, (0 : Int32), T) = some (nI n, T') ∧ T'.2 = T.2 ∧ (∀ i k, (i ≠ 54 ∨ k < 64 * s ∨ 64 * s + n ≤ k) → T'.1 i k = T.1 i k) ∧ ∀ i, i < n → T'.1 54 (64 * s + i) = 0 := by
  obtain ⟨r, ⟨T', h1, h2⟩, hr⟩ := fix_up (body := fun k55 s => bX8_sheet_55 F k55 s.1 s.2.1 s.2.2.1 s.2.2.2) n
    (fun c x => ∃ T', x = (nI s, nI n, nI c, T') ∧ T'.2 = T.2 ∧ (∀ i k, (i ≠ 54 ∨ k < 64 * s ∨ 64 * s + n ≤ k) → T'.1 i k = T.1 i k) ∧ ∀ i, i < c → T'.1 54 (64 * s + i) = 0)
    (fun r => ∃ T', r = some (nI n, T') ∧ T'.2 = T.2 ∧ (∀ i k, (i ≠ 54 ∨ k < 64 * s ∨ 64 * s + n ≤ k) → T'.1 i k = T.1 i k) ∧ ∀ i, i < n → T'.1 54 (64 * s + i) = 0)
    (by
      rintro c x hc ⟨T', rfl, h1, h2, h3⟩
      refine Or.inl ⟨(nI s, nI n, nI (c + 1), g_setI T' 54 (64 * s + c) 0), ⟨_, rfl, h1, fun i k hi => ?_, fun i hi => ?_⟩, fun k => ?_⟩
      · rw [rI_ne _ _ (by omega)]; exact h2 i k hi
      · by_cases q : i = c
        · subst q; exact rI_same _ _ _ _
        · rw [rI_ne _ _ (by omega)]; exact h3 i (by omega)
      · show bX8_sheet_55 F k (nI s) (nI n) (nI c) T' = _
        unfold bX8_sheet_55
        rw [if_neg (nI_ge hc (by omega)), show (64 : Int32) = nI 64 from rfl, pk_mul, nI_add, chk_nI (show 64 * s + c < 256 by omega) (by decide), nI_clamp (by omega), gl_def, gl_def, nI_1])
    (by
      rintro x ⟨T', rfl, h1, h2, h3⟩
      refine ⟨some (nI n, T'), ⟨T', rfl, h1, h2, h3⟩, fun k => ?_⟩
      show bX8_sheet_55 F k (nI s) (nI n) (nI n) T' = _
      unfold bX8_sheet_55
      rw [if_pos (nI_le (Nat.le_refl _) (by omega))])
    F (nI s, nI n, (0 : Int32), T) ⟨T, rfl, rfl, fun _ _ _ => rfl, fun k hk => by omega⟩ (by omega)
  exact ⟨T', by rw [← h1, ← hr]; rfl, h2⟩
theorem renew_spec {F o : Nat} {S : gS} (hF : 100 < F) (f n : Int32) : ∃ S', fX5_renew F o f n S = some S' ∧ S'.2 = S.2 ∧ (∀ i k, i ≠ o + 1 → (i ≠ o ∨ (k ≠ 1 ∧ k ≠ 2)) → S'.1 i k = S.1 i k) ∧ S'.1 o 1 = f ∧ S'.1 o 2 = n ∧ ∀ k, k < 64 → S'.1 (o + 1) k = 0 := by
  obtain ⟨S', e1, e2, e3, e4⟩ := fill_i (F := F) (by omega) (o + 1) 0 (g_setI (g_setI S o 1 f) o 2 n)
  refine ⟨S', ?_, e2, fun i k a b => ?_, ?_, ?_, e4⟩
  · unfold fX5_renew
    rw [gl_def, gl_def, e1]; rfl
  · rw [e3 i k a, rI_ne _ _ (b.imp_right (fun z => z.2)), rI_ne _ _ (b.imp_right (fun z => z.1))]
  · rw [e3 o 1 (by omega), rI_ne _ _ (Or.inr (by decide)), rI_same]
  · rw [e3 o 2 (by omega), rI_same]
theorem op_sheet {F : Nat} (hF : 100 < F) (a b c : Int32) : Op Int32 (fX7_sheet F a b c) (fX8_sheet F a b c) := by
  intro S T h
  show OpAt _ _ S T
  rcases three a (n := 4) (by decide) with hout | ⟨s, hs, rfl⟩
  · apply at_bad (r := -2) h
    · unfold fX7_sheet; rw [sheet7_out F hout]; rfl
    · unfold fX8_sheet; rw [sheet8_out F hout]; rfl
  rcases three b (n := 3) (by decide) with hout | ⟨f, hf, rfl⟩
  · apply at_bad (r := -2) h
    · unfold fX7_sheet; rw [sheet7_in F hs]; simp only [Option.bind_some]; rw [if_neg (by decide), form7_out F hout]; rfl
    · unfold fX8_sheet; rw [sheet8_in F hs]; simp only [Option.bind_some]; rw [if_neg (by decide), in_out (n := 2) (by decide) (by decide) hout]; rfl
  have h7 : fX7_sheet F (nI s) (nI f) c S = (if c ≤ (64 : Int32) then (if 0 ≤ c then (g_chk (nI s) 4 ((fX5_renew F (43 + 2 * (nI s).toNatClampNeg) (nI f) c S).bind (fun q8 : gS => some (c, q8)))) else ((fX7_found F (5 : Int32) S).bind (fun q9 : Int32 × gS => some (q9.1, q9.2)))) else (some ((-2 : Int32), S))) := by
    unfold fX7_sheet
    rw [sheet7_in F hs]; simp only [Option.bind_some]; rw [if_neg (by decide), form7_in F hf]; simp only [Option.bind_some]; rw [if_neg (by decide)]
  have h8 : fX8_sheet F (nI s) (nI f) c T = (if c ≤ (64 : Int32) then (if 0 ≤ c then (g_chk (nI s) 4 (gl (g_setI T 52 (nI s).toNatClampNeg (nI f)) (fun S8 : gS => g_chk (nI s) 4 (gl (g_setI S8 53 (nI s).toNatClampNeg c) (fun S10 : gS => bX8_sheet_55l F F (nI s, c, (0 : Int32), S10)))))) else ((fX8_met F (5 : Int32) T).bind (fun q11 : Int32 × gS => some (q11.1, q11.2)))) else (some ((-2 : Int32), T))) := by
    unfold fX8_sheet
    rw [sheet8_in F hs]; simp only [Option.bind_some]; rw [if_neg (by decide), in_in (n := 2) (by decide) (by decide) (show f ≤ 2 by omega)]; simp only [Option.bind_some]; rw [if_neg (by decide)]
  rw [nI_clamp (by omega), chk_nI hs (by decide)] at h7
  rw [nI_clamp (by omega), chk_nI hs (by decide), gl_def, chk_nI hs (by decide), gl_def] at h8
  by_cases q1 : c ≤ (64 : Int32)
  · rw [if_pos q1] at h7 h8
    by_cases q2 : 0 ≤ c
    · rw [if_pos q2] at h7 h8
      rcases three c (n := 65) (by decide) with ho | ⟨n, hn, rfl⟩
      · rcases ho with ho | ho
        · exact absurd ho (Int32.not_lt.mpr q2)
        · exact absurd (Int32.lt_of_lt_of_le (show (64 : Int32) < nI 65 by decide) ho) (Int32.not_lt.mpr q1)
      · obtain ⟨S', e1, e2, e3, e4, e5, e6⟩ := renew_spec (F := F) (o := 43 + 2 * s) (S := S) hF (nI f) (nI n)
        obtain ⟨T', g1, g2, g3, g4⟩ := sheetLoop_spec (F := F) (s := s) (n := n) (T := g_setI (g_setI T 52 s (nI f)) 53 s (nI n)) hF hs (by omega)
        rw [e1, Option.bind_some] at h7
        rw [g1] at h8
        obtain ⟨i1, i2, i3⟩ := InvS.of (S' := S') (T' := T') h (fun i k x y => e3 i k (by omega) (by omega)) e2 (fun i k x y => by rw [g3 i k (by omega), rI_ne _ _ (by omega), rI_ne _ _ (by omega)]) g2 (fun t ht => by
          by_cases q : t = s
          · subst q
            refine ⟨?_, Or.inr ⟨f, n, by omega, by omega, ?_, e5, ?_, fun i hi => ?_⟩⟩
            · rw [e4, g3 52 t (by omega), rI_ne _ _ (by omega), rI_same]
            · rw [g3 52 t (by omega), rI_ne _ _ (by omega), rI_same]
            · rw [g3 53 t (by omega), rI_same]
            · rw [show 44 + 2 * t = 43 + 2 * t + 1 by omega, e6 i (by omega), g4 i hi]
          · obtain ⟨a, b⟩ := h.2.2.2.1 t ht
            have c1 : ∀ i k, (i = 43 + 2 * t ∨ i = 44 + 2 * t) → S'.1 i k = S.1 i k := fun i k hi => e3 i k (by omega) (by omega)
            have c2 : T'.1 52 t = T.1 52 t := by rw [g3 52 t (by omega), rI_ne _ _ (by omega), rI_ne _ _ (by omega)]
            have c3 : T'.1 53 t = T.1 53 t := by rw [g3 53 t (by omega), rI_ne _ _ (by omega), rI_ne _ _ (by omega)]
            rw [c1 _ _ (by omega), c1 _ _ (by omega), c2, c3]
            refine ⟨a, b.imp_right (fun ⟨f, n, b1, b2, b3, b4, b5, b6⟩ => ⟨f, n, b1, b2, b3, b4, b5, fun i hi => ?_⟩)⟩
            rw [c1 _ _ (by omega), g3 54 _ (by omega), rI_ne _ _ (by omega), rI_ne _ _ (by omega)]
            exact b6 i hi) (by
          rw [e3 0 7 (by omega) (by omega), g3 51 4 (by omega), rI_ne _ _ (by omega), rI_ne _ _ (by omega)]; exact h.2.2.2.2)
        exact ⟨_, _, _, h7, h8, i1, i2, i3⟩
    · rw [if_neg q2] at h7 h8
      exact at_found 5 h h7 h8
  · rw [if_neg q1] at h7 h8
    exact at_bad h h7 h8
/-- one sheet of both: lost, or there -/
theorem sheet_at {S T : gS} (h : Inv S T) {s : Nat} (hs : s < 4) : (S.1 (43 + 2 * s) 1 = -1 ∧ T.1 52 s = -1) ∨ ∃ f n, f ≤ 2 ∧ n ≤ 64 ∧ S.1 (43 + 2 * s) 1 = nI f ∧ T.1 52 s = nI f ∧ S.1 (43 + 2 * s) 2 = nI n ∧ T.1 53 s = nI n ∧ ∀ i, i < n → S.1 (44 + 2 * s) i = T.1 54 (64 * s + i) := by
  obtain ⟨a, b | ⟨f, n, b1, b2, b3, b4, b5, b6⟩⟩ := h.2.2.2.1 s hs
  · exact Or.inl ⟨by rw [a, b], b⟩
  · exact Or.inr ⟨f, n, b1, b2, by rw [a, b3], b3, b4, b5, b6⟩
theorem op_lose {F : Nat} (hF : 100 < F) (a : Int32) : Op Int32 (fX7_lose F a) (fX8_lose F a) := by
  intro S T h
  show OpAt _ _ S T
  rcases three a (n := 4) (by decide) with hout | ⟨s, hs, rfl⟩
  · apply at_bad (r := -2) h
    · unfold fX7_lose; rw [sheet7_out F hout]; rfl
    · unfold fX8_lose; rw [sheet8_out F hout]; rfl
  rcases sheet_at h hs with ⟨l1, l2⟩ | ⟨f, n, b1, b2, b3, b4, b5, b6, b7⟩
  · apply at_found (r := -11) 1 h
    · unfold fX7_lose; rw [sheet7_in F hs]; simp only [Option.bind_some]; rw [if_neg (by decide), chk_nI hs (by decide), nI_clamp (by omega), lost_yes F _ l1]; rfl
    · unfold fX8_lose; rw [sheet8_in F hs]; simp only [Option.bind_some]; rw [if_neg (by decide), chk_nI hs (by decide), nI_clamp (by omega), show g_I T 52 s = -1 from l2]; rfl
  · obtain ⟨S', e1, e2, e3, e4, e5, e6⟩ := renew_spec (F := F) (o := 43 + 2 * s) (S := S) hF (-1) 0
    obtain ⟨i1, i2, i3⟩ := InvS.of (S' := S') (T' := g_setI T 52 s (-1)) h (fun i k x y => e3 i k (by omega) (by omega)) e2 (fun i k x y => rI_ne _ _ (by omega)) rfl (fun t ht => by
      by_cases q : t = s
      · subst q
        rw [e4, rI_same]
        exact ⟨rfl, Or.inl rfl⟩
      · obtain ⟨a, b⟩ := h.2.2.2.1 t ht
        have c1 : ∀ i k, (i = 43 + 2 * t ∨ i = 44 + 2 * t) → S'.1 i k = S.1 i k := fun i k hi => e3 i k (by omega) (by omega)
        rw [c1 _ _ (by omega), c1 _ _ (by omega), rI_ne _ _ (Or.inr q), rI_ne _ _ (by omega)]
        refine ⟨a, b.imp_right (fun ⟨f, n, b1, b2, b3, b4, b5, b6⟩ => ⟨f, n, b1, b2, b3, b4, b5, fun i hi => ?_⟩)⟩
        rw [c1 _ _ (by omega), rI_ne _ _ (by omega)]
        exact b6 i hi) (by rw [e3 0 7 (by omega) (by omega), rI_ne _ _ (by omega)]; exact h.2.2.2.2)
    refine ⟨nI n, S', _, ?_, ?_, i1, i2, i3⟩
    · unfold fX7_lose
      rw [sheet7_in F hs]; simp only [Option.bind_some]; rw [if_neg (by decide), chk_nI hs (by decide), nI_clamp (by omega), lost_no F _ b3 b1]; simp only [Option.bind_some, if_true]; rw [chk_nI hs (by decide), gl_def, chk_nI hs (by decide), e1]; simp only [Option.bind_some]; rw [show g_I S (43 + 2 * s) 2 = nI n from b5]
    · unfold fX8_lose
      rw [sheet8_in F hs]; simp only [Option.bind_some]; rw [if_neg (by decide), chk_nI hs (by decide), nI_clamp (by omega), show g_I T 52 s = nI f from b4, if_pos (nI_pos' (by omega)), chk_nI hs (by decide), gl_def, chk_nI hs (by decide)]
      rw [show g_I (g_setI T 52 s (-1)) 53 s = nI n from (rI_ne _ _ (by omega)).trans b6]
/-- an item of a sheet: refused alike, or there -/
theorem item_rel {F : Nat} {S T : gS} (h : Inv S T) {s f : Nat} (hs : s < 4) (hf : f < 3) (i : Int32) :
    (∃ v : Int32, ¬ (-10 - v) = 0 ∧ fX7_refusedItem F (nI s) (nI f) i S = some (-10 - v, g_setI S 0 7 v) ∧ fX8_lacks F (nI s) (nI f) i T = some (-10 - v, g_setI T 51 4 v)) ∨
    (∃ n j, n ≤ 64 ∧ j < n ∧ i = nI j ∧ S.1 (43 + 2 * s) 1 = nI f ∧ T.1 52 s = nI f ∧ S.1 (43 + 2 * s) 2 = nI n ∧ T.1 53 s = nI n ∧ (∀ i, i < n → S.1 (44 + 2 * s) i = T.1 54 (64 * s + i)) ∧ fX7_refusedItem F (nI s) (nI f) i S = some (0, S) ∧ fX8_lacks F (nI s) (nI f) i T = some (0, T)) := by
  have h7 : fX7_refusedItem F (nI s) (nI f) i S = (fX5_isLost F (43 + 2 * s) S).bind (fun q6 : Int32 × gS => if q6.1 = 0 then (g_chk (nI s) 4 (if (g_I q6.2 (43 + 2 * (nI s).toNatClampNeg) 1) = nI f then (g_chk (nI s) 4 ((fX5_holds F (43 + 2 * (nI s).toNatClampNeg) i (1 : Int32) q6.2).bind (fun q11 : Int32 × gS => if q11.1 = 0 then ((fX7_found F (2 : Int32) q11.2).bind (fun q13 : Int32 × gS => some (q13.1, q13.2))) else (some ((0 : Int32), q11.2))))) else ((fX7_found F (3 : Int32) q6.2).bind (fun q14 : Int32 × gS => some (q14.1, q14.2))))) else ((fX7_found F (1 : Int32) q6.2).bind (fun q15 : Int32 × gS => some (q15.1, q15.2)))) := by
    unfold fX7_refusedItem
    rw [sheet7_in F hs]; simp only [Option.bind_some]; rw [if_neg (by decide), form7_in F hf]; simp only [Option.bind_some]; rw [if_neg (by decide), chk_nI hs (by decide)]
    rw [nI_clamp (show s < 2 ^ 31 by omega)]
  have h8 : fX8_lacks F (nI s) (nI f) i T = (if 0 ≤ (g_I T 52 s) then (g_chk (nI s) 4 (if (g_I T 52 s) = nI f then (g_chk (nI s) 4 ((fX8_in F ((i).toInt64) (0 : Int64) ((((g_I T 53 s) - (1 : Int32))).toInt64) T).bind (fun q6 : Int32 × gS => if q6.1 = 0 then ((fX8_met F (2 : Int32) q6.2).bind (fun q8 : Int32 × gS => some (q8.1, q8.2))) else (some ((0 : Int32), q6.2))))) else ((fX8_met F (3 : Int32) T).bind (fun q9 : Int32 × gS => some (q9.1, q9.2))))) else ((fX8_met F (1 : Int32) T).bind (fun q10 : Int32 × gS => some (q10.1, q10.2)))) := by
    unfold fX8_lacks
    rw [chk_nI hs (by decide), nI_clamp (show s < 2 ^ 31 by omega)]
  rcases sheet_at h hs with ⟨l1, l2⟩ | ⟨g, n, b1, b2, b3, b4, b5, b6, b7⟩
  · refine Or.inl ⟨1, by decide, ?_, ?_⟩
    · rw [h7, lost_yes F _ l1]; rfl
    · rw [h8, show g_I T 52 s = -1 from l2]; rfl
  · rw [lost_no F _ b3 b1] at h7
    simp only [Option.bind_some, if_true] at h7
    rw [chk_nI hs (by decide), nI_clamp (by omega), show g_I S (43 + 2 * s) 1 = nI g from b3, chk_nI hs (by decide)] at h7
    rw [show g_I T 52 s = nI g from b4, if_pos (nI_pos' (by omega)), chk_nI hs (by decide), chk_nI hs (by decide), show g_I T 53 s = nI n from b6] at h8
    by_cases q : g = f
    · subst q
      rw [if_pos rfl] at h7 h8
      unfold fX5_holds at h7
      rw [show g_I S (43 + 2 * s) 2 = nI n from b5] at h7
      rw [show (0 : Int64) = (0 : Int32).toInt64 from rfl, in_spec] at h8
      rcases three i (n := n) (by omega) with ho | ⟨j, hj, rfl⟩
      · refine Or.inl ⟨2, by decide, ?_, ?_⟩
        · rw [h7]
          by_cases q1 : i < 0
          · rw [if_pos q1]; rfl
          · rw [if_neg q1, if_neg (by decide)]
            have ho' := ho.resolve_left q1
            by_cases q2 : nI n < i
            · rw [if_pos q2]; rfl
            · have : i = nI n := Int32.le_antisymm (Int32.not_lt.mp q2) ho'
              rw [if_neg q2, this, Int32.sub_self, if_pos (by decide)]; rfl
        · rw [h8]
          by_cases q1 : i < 0
          · rw [if_pos q1]; rfl
          · have ho' := ho.resolve_left q1
            rw [if_neg q1, if_pos]
            · rfl
            · by_cases q0 : n = 0
              · subst q0
                exact Int32.lt_of_lt_of_le (show nI 0 - 1 < 0 by decide) (Int32.not_lt.mp q1)
              · rw [nI_sub1 (by omega)]
                exact Int32.lt_of_lt_of_le (nI_lt (by omega) (by omega)) ho'
      · refine Or.inr ⟨n, j, b2, hj, rfl, b3, b4, b5, b6, b7, ?_, ?_⟩
        · rw [h7, if_neg (nI_pos (by omega)), if_neg (by decide), if_neg (nI_nlt (by omega) (by omega)), pk_sub (by omega), if_neg (show ¬ nI (n - j) < (1 : Int32) from nI_nlt (b := 1) (by omega) (by omega))]; rfl
        · rw [h8, if_neg (nI_pos (by omega)), nI_sub1 (by omega), if_neg (nI_nlt (by omega) (by omega))]; rfl
    · have hne : ¬ nI g = nI f := fun z => q (nI_inj (by omega) (by omega) z)
      rw [if_neg hne] at h7 h8
      exact Or.inl ⟨3, by decide, h7, h8⟩
def cutV (f : Nat) (v : Int32) : Int32 := if f = 0 then v.toInt8.toInt32 else if f = 1 then v.toInt16.toInt32 else v
theorem cut_spec (F : Nat) {f : Nat} (hf : f ≤ 2) (v : Int32) (T : gS) : fX8_cut F (nI f) v T = some (cutV f v, T) := by
  rcases (show f = 0 ∨ f = 1 ∨ f = 2 by omega) with rfl | rfl | rfl <;> rfl
theorem put_spec (F : Nat) {f o i : Nat} {S : gS} (hf : f ≤ 2) (ho : S.1 o 1 = nI f) (hi : i < 64) (v : Int32) : fX5_put F o (nI i) v S = some (g_setI S (o + 1) i (cutV f v)) := by
  unfold fX5_put
  rw [show g_I S o 1 = nI f from ho, chk_nI hi (by decide), chk_nI hi (by decide), chk_nI hi (by decide), nI_clamp (by omega)]
  rcases (show f = 0 ∨ f = 1 ∨ f = 2 by omega) with rfl | rfl | rfl <;> rfl
theorem put_rel {S T : gS} (h : Inv S T) {s f n j : Nat} (hs : s < 4) (hn : n ≤ 64) (hj : j < n) (hf : f ≤ 2) (e1 : S.1 (43 + 2 * s) 1 = nI f) (e2 : T.1 52 s = nI f) (e3 : S.1 (43 + 2 * s) 2 = nI n) (e4 : T.1 53 s = nI n) (v : Int32) : Inv (g_setI S (43 + 2 * s + 1) j v) (g_setI T 54 (64 * s + j) v) ∧ CK S (g_setI S (43 + 2 * s + 1) j v) ∧ MK T (g_setI T 54 (64 * s + j) v) := by
  refine InvS.of h (fun i k x y => rI_ne _ _ (by omega)) rfl (fun i k x y => rI_ne _ _ (by omega)) rfl (fun t ht => ?_) (by rw [rI_ne _ _ (by omega), rI_ne _ _ (by omega)]; exact h.2.2.2.2)
  obtain ⟨a, b⟩ := h.2.2.2.1 t ht
  rw [rI_ne _ _ (by omega), rI_ne _ _ (by omega), rI_ne _ _ (by omega), rI_ne _ _ (by omega)]
  refine ⟨a, b.imp_right (fun ⟨f', n', b1, b2, b3, b4, b5, b6⟩ => ⟨f', n', b1, b2, b3, b4, b5, fun i hi => ?_⟩)⟩
  by_cases q : t = s ∧ i = j
  · rw [q.1, q.2, show 44 + 2 * s = 43 + 2 * s + 1 by omega, rI_same, rI_same]
  · rw [rI_ne _ _ (by omega), rI_ne _ _ (by omega)]; exact b6 i hi

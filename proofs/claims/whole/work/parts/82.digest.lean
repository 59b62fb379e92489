/-! digest -/
def Rel (S0 T0 : gS) (x y : Option (Int64 × gS)) : Prop := ∃ r S' T', x = some (r, S') ∧ y = some (r, T') ∧ FC S0 S' ∧ FM T0 T'
def dh (h : Int64) (v : Int32) : Int64 := (31 : Int64) * h + v.toInt64
theorem cell_rel {F c j : Nat} {S T : gS} (hF : 100 < F) (h : Inv S T) (hc : c < 64) (hj : j < 5) : ∃ v T', fX7_cell F (nI c) (nI j) S = some (v, S) ∧ fX8_cellOf F (nI c) (nI j) T = some (v, T') ∧ FM T T' := by
  obtain ⟨T1, r1, r2, r3, r4⟩ := reads_rel (F := F) hF h.1
  obtain ⟨⟨w, _, w2, w3⟩, ⟨p, _, p2, p3⟩, ⟨i, _, i2, i3⟩, e7, -⟩ := h.2.1 c hc
  have hfm : FM T T1 := ⟨fun i k hp => r2 i k (by unfold per at hp; omega), r3⟩
  have h80 : fX8_cellOf F (nI c) (nI j) T = (if nI j = 0 then some (T1.1 57 c, T1) else if nI j = 1 then some (T1.1 58 c, T1) else if nI j = 2 then some (T1.1 59 c, T1) else if nI j = 3 then some (T1.1 60 c, T1) else some (T1.1 61 c, T1)) := by
    unfold fX8_cellOf
    rw [r1]
    simp only [Option.bind_some, chk_nI hc (show 64 < 2 ^ 31 by decide), nI_clamp (show c < 2 ^ 31 by omega)]
  have h7 : fX7_cell F (nI c) (nI j) S = (if nI j = 0 then some (if hb (S.2 1 3) c then 1 else if hb (S.2 1 4) c then 2 else 0, S) else if nI j = 1 then some (S.1 4 c, S) else if nI j = 2 then some (S.1 5 c, S) else if nI j = 3 then some (S.1 6 c, S) else if nI j = 4 then some (S.1 7 c, S) else some (-2, S)) := by
    unfold fX7_cell
    rw [cell7_in F hc]
    simp only [Option.bind_some, chk_nI hc (show 64 < 2 ^ 31 by decide), nI_clamp (show c < 2 ^ 31 by omega), kindOf0_spec F hc]
    rw [if_neg (by decide)]
  rw [r2 58 c (by decide), r2 59 c (by decide), r2 60 c (by decide), r2 61 c (by decide), r4 c hc] at h80
  rcases (show j = 0 ∨ j = 1 ∨ j = 2 ∨ j = 3 ∨ j = 4 by omega) with rfl | rfl | rfl | rfl | rfl
  · exact ⟨_, T1, h7, h80, hfm⟩
  · exact ⟨_, T1, h7, by rw [h80, w2]; exact congrArg (fun v => some (v, T1)) w3, hfm⟩
  · exact ⟨_, T1, h7, by rw [h80, p2]; exact congrArg (fun v => some (v, T1)) p3, hfm⟩
  · exact ⟨_, T1, h7, by rw [h80, i2]; exact congrArg (fun v => some (v, T1)) i3, hfm⟩
  · exact ⟨_, T1, h7, by rw [h80, e7]; rfl, hfm⟩
theorem straight_rel {F w nW : Nat} {S T : gS} (hF : 20000000 < F) (h : Inv S T) (h9 : S.1 9 2 = nI nW) (hnW : nW ≤ 8) (hw : w < nW) : ∃ v S' T1 T', fX7_straight F (nI w) S = some (v, S') ∧ fX8_tries F T = some T1 ∧ fX8_straightOf F (nI w) T1 = some (v, T') ∧ FC S S' ∧ FM T T' := by
  obtain ⟨hT, hG, ⟨nW', w1, w2, w3, w4⟩, hS, hf⟩ := id h
  have : nW' = nW := nI_inj (by omega) (by omega) (w2.symm.trans h9)
  subst this
  obtain ⟨x, y, hx, hy, v1, v2, v3, v4⟩ := w4 w hw
  obtain ⟨v, S', e1, e2, e3⟩ := fewest_spec (F := F) (by omega) hw w1 hx hy v1 v3 (fun c hc => (hG c hc).2.2.2.2)
  obtain ⟨T1, t1, t2, t3, -⟩ := tries_rel (F := F) (by omega) hT
  obtain ⟨v', T2, g1, g2, g3⟩ := straightOf_spec (F := F) (wi := w) hF (by omega) hx hy t3 (by rw [t2.1 62 w (by decide) (by decide) (by decide) (by decide) (Or.inl (by decide))]; exact v2) (by rw [t2.1 63 w (by decide) (by decide) (by decide) (by decide) (Or.inl (by decide))]; exact v4)
  have := StV_u e3 g3
  subst this
  refine ⟨v, S', T1, T2, ?_, t1, g1, e2.fc, t2.fm.tr g2.fm⟩
  unfold fX7_straight
  rw [walker7_in F w2 w1 hw]
  simp only [Option.bind_some]
  rw [if_neg (by decide), e1]; rfl
theorem firstOf_rel {F : Nat} {S T : gS} (hF : 20000000 < F) (h : Inv S T) {a : Int32} (ha : a = 0 ∨ a = 1) : ∃ v S' T', fX7_first F a S = some (v, S') ∧ fX8_firstOf F a T = some (v, T') ∧ FC S S' ∧ FM T T' := by
  obtain ⟨h1, h2⟩ := two_nlt ha
  obtain ⟨-, -, ⟨nW, w1, w2, w3, -⟩, -⟩ := id h
  have h7 : fX7_first F a S = (if (g_I S 9 2) = 0 then (some ((-3 : Int32), S)) else ((fX7_seekFirst F S).bind (fun q4 : gS => if a = 0 then (some ((g_I q4 0 8), q4)) else (some ((g_I q4 0 9), q4))))) := by
    unfold fX7_first; rw [if_neg h1, if_pos h2]
  by_cases q : nW = 0
  · subst q
    refine ⟨-3, S, T, ?_, ?_, FC.rf S, FM.rf T⟩
    · rw [h7, if_pos (show g_I S 9 2 = 0 from w2)]
    · unfold fX8_firstOf; rw [if_pos (show g_I T 51 12 = 0 from w3)]
  · obtain ⟨best, few, S', T', e1, e2, e3, e4, e5, e6⟩ := first_rel hF h w2 w1 q a
    refine ⟨if a = 0 then best else few, S', T', ?_, e4, e5, e6⟩
    rw [h7, if_neg (by show ¬ S.1 9 2 = 0; rw [w2]; exact nI_ne0 (by omega) (by omega)), e1, Option.bind_some, show g_I S' 0 8 = best from e2, show g_I S' 0 9 = few from e3]
    by_cases qa : a = 0
    · rw [if_pos qa, if_pos qa]
    · rw [if_neg qa, if_neg qa]
theorem leftOf_rel {F k : Nat} {S T : gS} {b : Int32} (hF : 20000000 < F) (h : Inv S T) (hk : k ≤ 8) (hb : b = 0 ∨ b = 1) : ∃ r S' T', fX7_left F (nI k) b S = some (r, S') ∧ fX8_leftOf F (nI k) b T = some (r, T') ∧ FC S S' ∧ FM T T' := by
  obtain ⟨h1, h2⟩ := two_nlt hb
  obtain ⟨r, S1, S', T', e1, e2, e3, e4, e5⟩ := left_rel (k := k) (a := b) hF h hk
  refine ⟨r, S', T', ?_, e3, e4, e5⟩
  unfold fX7_left
  rw [if_neg (nI_pos (by omega)), if_neg (show ¬ ((8 : Int32) < nI k) from nI_nlt (a := 8) (by omega) (by decide)), if_neg h1, if_pos h2, e1, Option.bind_some, e2]
theorem dg8_265 {F : Nat} {h1 r1 r2 : Int64} {T T1 T2 : gS} (hF : 100 < F) (e1 : fX8_leftOf F (nI 2) 0 T = some (r1, T1)) (e2 : fX8_leftOf F (nI 2) 1 T1 = some (r2, T2)) : bX8_digest_265l F F (h1, (0 : Int32), T) = some (31 * (31 * h1 + r1) + r2, T2) := by
  obtain ⟨m, rfl⟩ : ∃ m, F = m + 1 + 1 + 1 := ⟨F - 3, by omega⟩
  unfold bX8_digest_265l
  rw [fix_s]
  show bX8_digest_265 _ _ h1 0 T = _
  generalize hK : g_fix (fun k265 s => bX8_digest_265 (m + 1 + 1 + 1) k265 s.1 s.2.1 s.2.2) (m + 1 + 1) = K
  unfold bX8_digest_265
  rw [if_neg (by decide), show fX8_leftOf (m + 1 + 1 + 1) (2 : Int32) 0 T = some (r1, T1) from e1, Option.bind_some, gl_def, gl_def, ← hK, fix_s]
  show bX8_digest_265 _ _ (31 * h1 + r1) 1 T1 = _
  generalize hK2 : g_fix (fun k265 s => bX8_digest_265 (m + 1 + 1 + 1) k265 s.1 s.2.1 s.2.2) (m + 1) = K2
  unfold bX8_digest_265
  rw [if_neg (by decide), show fX8_leftOf (m + 1 + 1 + 1) (2 : Int32) 1 T1 = some (r2, T2) from e2, Option.bind_some, gl_def, gl_def, ← hK2, fix_s]
  show bX8_digest_265 _ _ (31 * (31 * h1 + r1) + r2) 2 T2 = _
  unfold bX8_digest_265
  rw [if_pos (by decide)]
theorem dg8_239 {F : Nat} {h1 r1 r2 : Int64} {T T1 T2 : gS} (hF : 100 < F) (e1 : fX8_leftOf F (nI 0) 0 T = some (r1, T1)) (e2 : fX8_leftOf F (nI 0) 1 T1 = some (r2, T2)) : bX8_digest_239l F F (h1, (0 : Int32), T) = bX8_digest_265l F F (31 * (31 * h1 + r1) + r2, (0 : Int32), T2) := by
  obtain ⟨m, rfl⟩ : ∃ m, F = m + 1 + 1 + 1 := ⟨F - 3, by omega⟩
  unfold bX8_digest_239l
  rw [fix_s]
  show bX8_digest_239 _ _ h1 0 T = _
  generalize hK : g_fix (fun k265 s => bX8_digest_239 (m + 1 + 1 + 1) k265 s.1 s.2.1 s.2.2) (m + 1 + 1) = K
  unfold bX8_digest_239
  rw [if_neg (by decide), show fX8_leftOf (m + 1 + 1 + 1) (0 : Int32) 0 T = some (r1, T1) from e1, Option.bind_some, gl_def, gl_def, ← hK, fix_s]
  show bX8_digest_239 _ _ (31 * h1 + r1) 1 T1 = _
  generalize hK2 : g_fix (fun k265 s => bX8_digest_239 (m + 1 + 1 + 1) k265 s.1 s.2.1 s.2.2) (m + 1) = K2
  unfold bX8_digest_239
  rw [if_neg (by decide), show fX8_leftOf (m + 1 + 1 + 1) (0 : Int32) 1 T1 = some (r2, T2) from e2, Option.bind_some, gl_def, gl_def, ← hK2, fix_s]
  show bX8_digest_239 _ _ (31 * (31 * h1 + r1) + r2) 2 T2 = _
  unfold bX8_digest_239
  rw [if_pos (by decide)]
/-- the end of both -/
theorem dg_tail {F : Nat} {S T : gS} (hF : 20000000 < F) (h : Inv S T) (x1 : Int64) (k7 k8 : (Int64 × Int32 × gS) → Option (Int64 × gS)) : Rel S T (bX7_digest_158 F k7 x1 (nI 4) S) (bX8_digest_147 F k8 x1 (nI 4) T) := by
  obtain ⟨v1, S1, T1, a1, a2, a3, a4⟩ := longerNow_rel (F := F) hF h
  have i1 := h.fr a3 a4
  obtain ⟨v2, S2, T2, b1, b2, b3, b4⟩ := firstOf_rel (F := F) hF i1 (a := 0) (Or.inl rfl)
  have i2 := i1.fr b3 b4
  obtain ⟨v3, S3, T3, c1, c2, c3, c4⟩ := firstOf_rel (F := F) hF i2 (a := 1) (Or.inr rfl)
  have i3 := i2.fr c3 c4
  obtain ⟨S4, T4, d1, d2, d3, d4, d5, d6⟩ := yard_rel (F := F) hF i3
  have i4 := i3.fr d5 d6
  obtain ⟨r1, S5, T5, e1, e2, e3, e4⟩ := leftOf_rel (F := F) (k := 0) hF i4 (by decide) (Or.inl rfl)
  have i5 := i4.fr e3 e4
  obtain ⟨r2, S6, T6, f1, f2, f3, f4⟩ := leftOf_rel (F := F) (k := 0) hF i5 (by decide) (Or.inr rfl)
  have i6 := i5.fr f3 f4
  obtain ⟨r3, S7, T7, g1, g2, g3, g4⟩ := leftOf_rel (F := F) (k := 2) hF i6 (by decide) (Or.inl rfl)
  have i7 := i6.fr g3 g4
  obtain ⟨r4, S8, T8, h1, h2, h3, h4⟩ := leftOf_rel (F := F) (k := 2) hF i7 (by decide) (Or.inr rfl)
  have fl0 : ∀ (a : Int32) (U V : gS) (r : Int64), fX7_left F (nI 0) a U = some (r, V) → fX7_falls F a U = some (r, V) := fun a U V r hh => by
    show (fX7_left F (nI 0) a U).bind _ = _
    rw [hh]; rfl
  refine ⟨31 * (31 * (31 * (31 * (31 * (31 * (31 * (31 * (31 * x1 + v1.toInt64) + v2.toInt64) + v3.toInt64) + (T4.1 51 31).toInt64) + (T4.1 51 32).toInt64) + r1) + r2) + r3) + r4, S8, T8, ?_, ?_, a3.tr (b3.tr (c3.tr (d5.tr (e3.tr (f3.tr (g3.tr h3)))))), a4.tr (b4.tr (c4.tr (d6.tr (e4.tr (f4.tr (g4.tr h4))))))⟩
  · unfold bX7_digest_158
    rw [if_pos (by decide), a1, Option.bind_some, gl_def, b1, Option.bind_some, gl_def, c1, Option.bind_some, gl_def, d1, Option.bind_some, gl_def, gl_def, fl0 _ _ _ _ e1, Option.bind_some, gl_def, fl0 _ _ _ _ f1, Option.bind_some, gl_def, show fX7_left F (2 : Int32) 0 S6 = _ from g1, Option.bind_some, gl_def, show fX7_left F (2 : Int32) 1 S7 = _ from h1, Option.bind_some, gl_def, show g_I S4 0 10 = _ from d3, show g_I S4 0 11 = _ from d4]
  · unfold bX8_digest_147
    rw [if_pos (by decide), a2, Option.bind_some, gl_def, b2, Option.bind_some, gl_def, c2, Option.bind_some, gl_def, d2, Option.bind_some, gl_def, gl_def, dg8_239 (by omega) e2 f2, dg8_265 (by omega) g2 h2]
theorem Rel.fr {S0 T0 S T : gS} {x y : Option (Int64 × gS)} (h : Rel S T x y) (hs : FC S0 S) (ht : FM T0 T) : Rel S0 T0 x y := by
  obtain ⟨r, S', T', a, b, c, d⟩ := h
  exact ⟨r, S', T', a, b, hs.tr c, ht.tr d⟩
theorem dg_told {F : Nat} {S T : gS} (hF : 20000000 < F) (h : Inv S T) (x1 : Int64) : Rel S T ((fX7_tryMorning F (-1 : Int32) (-1 : Int32) S).bind (fun q2 : gS => bX7_digest_158l F F (x1, (0 : Int32), q2))) (bX8_digest_147l F F (x1, (0 : Int32), T)) := by
  obtain ⟨v, S1, -, -, e1, -, -, -, -, -⟩ := allOf_rel (F := F) hF h (j := 0) (by decide)
  obtain ⟨S1', T1, T2, m1, m2, m3, m4, m5, -⟩ := morn_rel (F := F) hF h
  rw [e1] at m1
  obtain rfl := Option.some.inj m1
  have fc1 : FC S S1 := m5.fc ⟨by decide, by decide⟩
  rw [e1, Option.bind_some]
  obtain ⟨x, y, hR, g1, g2⟩ := fix2 (b1 := fun k158 s => bX7_digest_158 F k158 s.1 s.2.1 s.2.2) (b2 := fun k147 s => bX8_digest_147 F k147 s.1 s.2.1 s.2.2) 4
    (fun c x y => ∃ hh T', x = (hh, nI c, S1) ∧ y = (hh, nI c, T') ∧ FM T T')
    (fun x y => Rel S T x y)
    (by
      rintro c x y hc ⟨hh, T', rfl, rfl, k1⟩
      obtain ⟨v, S2, S3, T3, a1, a2, a3, rfl, a4, a5⟩ := allOf_rel (F := F) hF (h.fr (FC.rf S) k1) (j := c) hc
      rw [e1] at a1
      obtain rfl := Option.some.inj a1
      refine Or.inl ⟨(dh hh v, nI (c + 1), S1), (dh hh v, nI (c + 1), T3), ⟨_, T3, rfl, rfl, k1.tr a5⟩, fun k => ?_, fun k => ?_⟩
      · show bX7_digest_158 F k hh (nI c) S1 = _
        unfold bX7_digest_158
        rw [if_neg (show ¬ ((3 : Int32) < nI c) from nI_nlt (a := 3) (by omega) (by decide)), a2, Option.bind_some, gl_def, gl_def, nI_1]
        rfl
      · show bX8_digest_147 F k hh (nI c) T' = _
        unfold bX8_digest_147
        rw [if_neg (show ¬ ((4 : Int32) ≤ nI c) from nI_ge hc (by decide)), a3, Option.bind_some, gl_def, gl_def, nI_1]
        rfl)
    (by
      rintro x y ⟨hh, T', rfl, rfl, k1⟩
      have hk := fun k7 k8 => (dg_tail (F := F) hF (h.fr fc1 k1) hh k7 k8).fr fc1 k1
      refine ⟨bX7_digest_158 F (fun _ => none) hh (nI 4) S1, bX8_digest_147 F (fun _ => none) hh (nI 4) T', hk _ _, fun k => ?_, fun k => ?_⟩
      · show bX7_digest_158 F k hh (nI 4) S1 = _
        unfold bX7_digest_158
        rw [if_pos (by decide), if_pos (by decide)]
      · show bX8_digest_147 F k hh (nI 4) T' = _
        unfold bX8_digest_147
        rw [if_pos (by decide), if_pos (by decide)])
    F F (x1, (0 : Int32), S1) (x1, (0 : Int32), T) ⟨x1, T, rfl, rfl, FM.rf T⟩ (by omega) (by omega)
  rw [show bX7_digest_158l F F (x1, (0 : Int32), S1) = x from g1, show bX8_digest_147l F F (x1, (0 : Int32), T) = y from g2]
  exact hR
theorem dg_walk {F : Nat} {S T : gS} (hF : 20000000 < F) (h : Inv S T) (x1 : Int64) : Rel S T (bX7_digest_89l F F (x1, (0 : Int32), S)) (bX8_digest_89l F F (x1, (0 : Int32), T)) := by
  obtain ⟨-, -, ⟨nW, w1, w2, w3, -⟩, -⟩ := id h
  obtain ⟨x, y, hR, g1, g2⟩ := fix2 (b1 := fun k158 s => bX7_digest_89 F k158 s.1 s.2.1 s.2.2) (b2 := fun k147 s => bX8_digest_89 F k147 s.1 s.2.1 s.2.2) nW
    (fun c x y => ∃ hh S' T', x = (hh, nI c, S') ∧ y = (hh, nI c, T') ∧ FC S S' ∧ FM T T')
    (fun x y => Rel S T x y)
    (by
      rintro c x y hc ⟨hh, S', T', rfl, rfl, k1, k2⟩
      have hI := h.fr k1 k2
      have z9 : S'.1 9 2 = nI nW := (k1.1 9 2 (by unfold per; omega)).trans w2
      have z12 : T'.1 51 12 = nI nW := (k2.1 51 12 (by unfold per; omega)).trans w3
      obtain ⟨v, S2, T1, T2, a1, a2, a3, a4, a5⟩ := straight_rel (F := F) hF hI z9 w1 hc
      have hI2 := hI.fr a4 a5
      obtain ⟨nW2, u1, u2, u3, u4⟩ := hI2.2.2.1
      have : nW2 = nW := nI_inj (by omega) (by omega) (u2.symm.trans ((a4.1 9 2 (by unfold per; omega)).trans z9))
      subst this
      obtain ⟨a, b, ha, hb64, p1, p2, p3, p4⟩ := u4 c hc
      obtain ⟨r, S3, T3, b1, b2, b3, b4⟩ := plan_rel (F := F) hF hI2 ha hb64 (-1) (by decide)
      refine Or.inl ⟨(dh (dh hh v) r, nI (c + 1), S3), (dh (dh hh v) r, nI (c + 1), T3), ⟨_, S3, T3, rfl, rfl, k1.tr (a4.tr b3), k2.tr (a5.tr b4)⟩, fun k => ?_, fun k => ?_⟩
      · show bX7_digest_89 F k hh (nI c) S' = _
        unfold bX7_digest_89
        rw [show g_I S' 9 2 = nI nW2 from z9, if_neg (nI_ge hc (by omega)), a1, Option.bind_some, gl_def, chk_nI (show c < 8 by omega) (by decide), chk_nI (show c < 8 by omega) (by decide), nI_clamp (show c < 2 ^ 31 by omega), show g_I (v, S2).2 10 c = nI a from p1, show g_I (v, S2).2 11 c = nI b from p3, show fX7_plan F (nI a) (nI b) (-1) (v, S2).2 = _ from b1, Option.bind_some, gl_def, gl_def, nI_1]
        rfl
      · show bX8_digest_89 F k hh (nI c) T' = _
        unfold bX8_digest_89
        rw [show g_I T' 51 12 = nI nW2 from z12, if_neg (nI_ge hc (by omega)), a2, Option.bind_some, a3, Option.bind_some, gl_def, chk_nI (show c < 8 by omega) (by decide), chk_nI (show c < 8 by omega) (by decide), nI_clamp (show c < 2 ^ 31 by omega), show g_I (v, T2).2 62 c = nI a from p2, show g_I (v, T2).2 63 c = nI b from p4, show fX8_planOf F (nI a) (nI b) (-1) (v, T2).2 = _ from b2, Option.bind_some, gl_def, gl_def, nI_1]
        rfl)
    (by
      rintro x y ⟨hh, S', T', rfl, rfl, k1, k2⟩
      have z9 : S'.1 9 2 = nI nW := (k1.1 9 2 (by unfold per; omega)).trans w2
      have z12 : T'.1 51 12 = nI nW := (k2.1 51 12 (by unfold per; omega)).trans w3
      refine ⟨_, _, (dg_told (F := F) hF (h.fr k1 k2) hh).fr k1 k2, fun k => ?_, fun k => ?_⟩
      · show bX7_digest_89 F k hh (nI nW) S' = _
        unfold bX7_digest_89
        rw [show g_I S' 9 2 = nI nW from z9, if_pos (nI_le (Nat.le_refl _) (by omega))]
      · show bX8_digest_89 F k hh (nI nW) T' = _
        unfold bX8_digest_89
        rw [show g_I T' 51 12 = nI nW from z12, if_pos (nI_le (Nat.le_refl _) (by omega))])
    F F (x1, (0 : Int32), S) (x1, (0 : Int32), T) ⟨x1, S, T, rfl, rfl, FC.rf S, FM.rf T⟩ (by omega) (by omega)
  rw [show bX7_digest_89l F F (x1, (0 : Int32), S) = x from g1, show bX8_digest_89l F F (x1, (0 : Int32), T) = y from g2]
  exact hR
noncomputable def vC (F c : Nat) (S : gS) (j : Nat) : Int32 := match fX7_cell F (nI c) (nI j) S with
  | some q => q.1
  | none => 0
noncomputable def hC (F c : Nat) (S : gS) (h : Int64) : Nat → Int64
  | 0 => h
  | j + 1 => dh (hC F c S h j) (vC F c S j)
theorem vC_eq {F c j : Nat} {S : gS} {v : Int32} (h : fX7_cell F (nI c) (nI j) S = some (v, S)) : vC F c S j = v := by unfold vC; rw [h]
theorem dg_in7 {F c : Nat} {S T : gS} (hF : 100 < F) (h : Inv S T) (hc : c < 64) (x1 : Int64) (k45 : (Int64 × Int32 × gS) → Option (Int64 × gS)) : bX7_digest_54l F k45 F (x1, nI c, (0 : Int32), S) = k45 (hC F c S x1 5, nI (c + 1), S) := by
  have := fix_for (body := fun k54 s => bX7_digest_54 F k45 k54 s.1 s.2.1 s.2.2.1 s.2.2.2) (fun j => (hC F c S x1 j, nI c, nI j, S)) 5 (res := k45 (hC F c S x1 5, nI (c + 1), S)) (fun j hj k => by
    obtain ⟨v, T', e1, -, -⟩ := cell_rel (F := F) hF h hc hj
    show bX7_digest_54 F k45 k (hC F c S x1 j) (nI c) (nI j) S = k (dh (hC F c S x1 j) (vC F c S j), nI c, nI (j + 1), S)
    unfold bX7_digest_54
    rw [if_neg (show ¬ ((4 : Int32) < nI j) from nI_nlt (a := 4) (by omega) (by decide)), e1, Option.bind_some, gl_def, gl_def, nI_1, vC_eq e1]
    rfl) (fun k => by
    show bX7_digest_54 F k45 k (hC F c S x1 5) (nI c) (nI 5) S = _
    unfold bX7_digest_54
    rw [if_pos (by decide), gl_def, nI_1]) (F := F) (by omega)
  exact this
theorem dg_in8 {F c : Nat} {S T : gS} (hF : 100 < F) (h : Inv S T) (hc : c < 64) (x1 : Int64) : ∃ T', FM T T' ∧ ∀ k45, bX8_digest_54l F k45 F (x1, nI c, (0 : Int32), T) = k45 (hC F c S x1 5, nI (c + 1), T') := by
  obtain ⟨z, hz, hk⟩ := fix_upK (K := (Int64 × Int32 × gS) → Option (Int64 × gS)) (body := fun k45 k54 s => bX8_digest_54 F k45 k54 s.1 s.2.1 s.2.2.1 s.2.2.2) (fun k45 (T' : gS) => k45 (hC F c S x1 5, nI (c + 1), T')) 5 (fun j s => ∃ T', s = (hC F c S x1 j, nI c, nI j, T') ∧ FM T T') (fun T' => FM T T')
    (by
      rintro j s hj ⟨T', rfl, k1⟩
      obtain ⟨v, T2, e1, e2, e3⟩ := cell_rel (F := F) hF (h.fr (FC.rf S) k1) hc hj
      refine Or.inl ⟨(dh (hC F c S x1 j) (vC F c S j), nI c, nI (j + 1), T2), ⟨T2, rfl, k1.tr e3⟩, fun k45 k => ?_⟩
      show bX8_digest_54 F k45 k (hC F c S x1 j) (nI c) (nI j) T' = _
      unfold bX8_digest_54
      rw [if_neg (show ¬ ((5 : Int32) ≤ nI j) from nI_ge hj (by decide)), e2, Option.bind_some, gl_def, gl_def, nI_1, vC_eq e1]
      rfl)
    (by
      rintro s ⟨T', rfl, k1⟩
      refine ⟨T', k1, fun k45 k => ?_⟩
      show bX8_digest_54 F k45 k (hC F c S x1 5) (nI c) (nI 5) T' = _
      unfold bX8_digest_54
      rw [if_pos (by decide), gl_def, nI_1])
    F (x1, nI c, (0 : Int32), T) ⟨T, rfl, FM.rf T⟩ (by omega)
  exact ⟨z, hz, hk⟩
theorem dg_cells {F : Nat} {S T : gS} (hF : 20000000 < F) (h : Inv S T) (x1 : Int64) : Rel S T (bX7_digest_45l F F (x1, (0 : Int32), S)) (bX8_digest_45l F F (x1, (0 : Int32), T)) := by
  obtain ⟨x, y, hR, g1, g2⟩ := fix2 (b1 := fun k158 s => bX7_digest_45 F k158 s.1 s.2.1 s.2.2) (b2 := fun k147 s => bX8_digest_45 F k147 s.1 s.2.1 s.2.2) 64
    (fun c x y => ∃ hh T', x = (hh, nI c, S) ∧ y = (hh, nI c, T') ∧ FM T T')
    (fun x y => Rel S T x y)
    (by
      rintro c x y hc ⟨hh, T', rfl, rfl, k1⟩
      have hI := h.fr (FC.rf S) k1
      obtain ⟨T2, a1, a2⟩ := dg_in8 (F := F) (by omega) hI hc hh
      refine Or.inl ⟨(hC F c S hh 5, nI (c + 1), S), (hC F c S hh 5, nI (c + 1), T2), ⟨_, T2, rfl, rfl, k1.tr a1⟩, fun k => ?_, fun k => ?_⟩
      · show bX7_digest_45 F k hh (nI c) S = _
        unfold bX7_digest_45
        rw [if_neg (show ¬ ((64 : Int32) ≤ nI c) from nI_ge hc (by decide)), dg_in7 (by omega) hI hc]
      · show bX8_digest_45 F k hh (nI c) T' = _
        unfold bX8_digest_45
        rw [if_neg (show ¬ ((64 : Int32) ≤ nI c) from nI_ge hc (by decide)), a2])
    (by
      rintro x y ⟨hh, T', rfl, rfl, k1⟩
      refine ⟨_, _, (dg_walk (F := F) hF (h.fr (FC.rf S) k1) hh).fr (FC.rf S) k1, fun k => ?_, fun k => ?_⟩
      · show bX7_digest_45 F k hh (nI 64) S = _
        unfold bX7_digest_45
        rw [if_pos (by decide)]
      · show bX8_digest_45 F k hh (nI 64) T' = _
        unfold bX8_digest_45
        rw [if_pos (by decide)])
    F F (x1, (0 : Int32), S) (x1, (0 : Int32), T) ⟨x1, T, rfl, rfl, FM.rf T⟩ (by omega) (by omega)
  rw [show bX7_digest_45l F F (x1, (0 : Int32), S) = x from g1, show bX8_digest_45l F F (x1, (0 : Int32), T) = y from g2]
  exact hR
theorem op_digest {F : Nat} (hF : 20000000 < F) : Op Int64 (fX7_digest F) (fX8_digest F) := Op.try (fun S T h => by
  obtain ⟨x, y, hR, g1, g2⟩ := fix2 (b1 := fun k158 s => bX7_digest_6 F k158 s.1 s.2.1 s.2.2) (b2 := fun k147 s => bX8_digest_6 F k147 s.1 s.2.1 s.2.2) 8
    (fun c x y => ∃ hh T', x = (hh, nI c, S) ∧ y = (hh, nI c, T') ∧ FM T T')
    (fun x y => Rel S T x y)
    (by
      rintro c x y hc ⟨hh, T', rfl, rfl, k1⟩
      obtain ⟨v, T2, a1, a2, a3⟩ := count_rel (F := F) (by omega) (h.fr (FC.rf S) k1) (nI c)
      refine Or.inl ⟨(dh hh v, nI (c + 1), S), (dh hh v, nI (c + 1), T2), ⟨_, T2, rfl, rfl, k1.tr a3⟩, fun k => ?_, fun k => ?_⟩
      · show bX7_digest_6 F k hh (nI c) S = _
        unfold bX7_digest_6
        rw [if_neg (show ¬ ((7 : Int32) < nI c) from nI_nlt (a := 7) (by omega) (by decide)), a1, Option.bind_some, gl_def, gl_def, nI_1]
        rfl
      · show bX8_digest_6 F k hh (nI c) T' = _
        unfold bX8_digest_6
        rw [if_neg (show ¬ ((8 : Int32) ≤ nI c) from nI_ge hc (by decide)), a2, Option.bind_some, gl_def, gl_def, nI_1]
        rfl)
    (by
      rintro x y ⟨hh, T', rfl, rfl, k1⟩
      have hI := h.fr (FC.rf S) k1
      obtain ⟨T2, r1, r2, r3, r4⟩ := reads_rel (F := F) (by omega) hI.1
      have hfm : FM T' T2 := ⟨fun i k hp => r2 i k (by unfold per at hp; omega), r3⟩
      refine ⟨_, _, (dg_cells (F := F) hF (hI.fr (FC.rf S) hfm) (dh hh (S.1 1 2))).fr (FC.rf S) (k1.tr hfm), fun k => ?_, fun k => ?_⟩
      · show bX7_digest_6 F k hh (nI 8) S = _
        unfold bX7_digest_6
        rw [if_pos (by decide), show fX7_fault F S = some (S.1 1 2, S) from rfl, Option.bind_some, gl_def]
        rfl
      · show bX8_digest_6 F k hh (nI 8) T' = _
        unfold bX8_digest_6
        rw [if_pos (by decide), r1, Option.bind_some, gl_def]
        rfl)
    F F ((17 : Int64), (0 : Int32), S) ((17 : Int64), (0 : Int32), T) ⟨17, T, rfl, rfl, FM.rf T⟩ (by omega) (by omega)
  obtain ⟨r, S', T', e1, e2, e3, e4⟩ := hR
  exact ⟨r, S', T', by rw [← e1, ← g1]; rfl, by rw [← e2, ← g2]; rfl, e3, e4⟩)

/-! yard -/
theorem y7_end {F : Nat} {k : (Int32 × Int32 × gS) → Option gS} {v : Int32} {S : gS} : bX7_seekYard_26 F k v (nI 64) S = some S := by
  unfold bX7_seekYard_26
  rw [if_pos (by decide)]
theorem y7_101 {F c : Nat} {k : (Int32 × Int32 × gS) → Option gS} {v : Int32} {S : gS} : bX7_seekYard_101 F k v (nI c) S = k (v, nI (c + 1), S) := by
  unfold bX7_seekYard_101
  rw [gl_def, nI_1]
theorem y7_wall {F c : Nat} {k : (Int32 × Int32 × gS) → Option gS} {v : Int32} {S : gS} (hc : c < 64) (hw : hb (S.2 1 3) c = true) : bX7_seekYard_26 F k v (nI c) S = k (v, nI (c + 1), S) := by
  unfold bX7_seekYard_26
  rw [if_neg (show ¬ ((64 : Int32) ≤ nI c) from nI_ge hc (by decide)), has_spec F _ hc, Option.bind_some, if_neg (show ¬ hasV (g_J S 1 3) c = 0 from fun z => by rw [hasV_0] at z; rw [show g_J S 1 3 = S.2 1 3 from rfl, hw] at z; cases z), y7_101]
theorem y7_bare {F c : Nat} {k : (Int32 × Int32 × gS) → Option gS} {v : Int32} {S : gS} (hc : c < 64) (hw : hb (S.2 1 3) c = false) (h0 : S.1 4 c = 0) : bX7_seekYard_26 F k v (nI c) S = k (v, nI (c + 1), S) := by
  unfold bX7_seekYard_26
  rw [if_neg (show ¬ ((64 : Int32) ≤ nI c) from nI_ge hc (by decide)), has_spec F _ hc, Option.bind_some, if_pos (show hasV (g_J S 1 3) c = 0 from hasV_0.mpr hw), chk_nI hc (by decide), nI_clamp (show c < 2 ^ 31 by omega), if_pos (show g_I (hasV (g_J S 1 3) c, S).2 4 c = 0 from h0), y7_101]
theorem y7_no {F c : Nat} {k : (Int32 × Int32 × gS) → Option gS} {v : Int32} {S S1 : gS} (hc : c < 64) (hw : hb (S.2 1 3) c = false) (h0 : ¬ S.1 4 c = 0) (ht : fX7_tryMorning F (-1) (nI c) S = some S1) (hq : v - S1.1 16 4 ≤ S1.1 0 11) : bX7_seekYard_26 F k v (nI c) S = k (v, nI (c + 1), S1) := by
  unfold bX7_seekYard_26
  rw [if_neg (show ¬ ((64 : Int32) ≤ nI c) from nI_ge hc (by decide)), has_spec F _ hc, Option.bind_some, if_pos (show hasV (g_J S 1 3) c = 0 from hasV_0.mpr hw), chk_nI hc (by decide), nI_clamp (show c < 2 ^ 31 by omega), if_neg (show ¬ g_I (hasV (g_J S 1 3) c, S).2 4 c = 0 from h0), show fX7_tryMorning F (-1) (nI c) (hasV (g_J S 1 3) c, S).2 = some S1 from ht, Option.bind_some, if_pos (show v - g_I S1 16 4 ≤ g_I S1 0 11 from hq), y7_101]
theorem y7_yes {F c : Nat} {k : (Int32 × Int32 × gS) → Option gS} {v : Int32} {S S1 : gS} (hc : c < 64) (hw : hb (S.2 1 3) c = false) (h0 : ¬ S.1 4 c = 0) (ht : fX7_tryMorning F (-1) (nI c) S = some S1) (hq : ¬ v - S1.1 16 4 ≤ S1.1 0 11) : bX7_seekYard_26 F k v (nI c) S = k (v, nI (c + 1), g_setI (g_setI S1 0 10 (nI c)) 0 11 (v - S1.1 16 4)) := by
  unfold bX7_seekYard_26
  rw [if_neg (show ¬ ((64 : Int32) ≤ nI c) from nI_ge hc (by decide)), has_spec F _ hc, Option.bind_some, if_pos (show hasV (g_J S 1 3) c = 0 from hasV_0.mpr hw), chk_nI hc (by decide), nI_clamp (show c < 2 ^ 31 by omega), if_neg (show ¬ g_I (hasV (g_J S 1 3) c, S).2 4 c = 0 from h0), show fX7_tryMorning F (-1) (nI c) (hasV (g_J S 1 3) c, S).2 = some S1 from ht, Option.bind_some, if_neg (show ¬ v - g_I S1 16 4 ≤ g_I S1 0 11 from hq), gl_def, gl_def, show g_I (g_setI S1 0 10 (nI c)) 16 4 = S1.1 16 4 from rI_ne _ _ (by omega), y7_101]
theorem y8_end {F : Nat} {k : (Int32 × Int32 × gS) → Option gS} {v : Int32} {S : gS} : bX8_findYard_25 F k v (nI 64) S = some S := by
  unfold bX8_findYard_25
  rw [if_pos (by decide)]
theorem y8_93 {F c : Nat} {k : (Int32 × Int32 × gS) → Option gS} {v : Int32} {S : gS} : bX8_findYard_93 F k v (nI c) S = k (v, nI (c + 1), S) := by
  unfold bX8_findYard_93
  rw [gl_def, nI_1]
theorem y8_wall {F c : Nat} {k : (Int32 × Int32 × gS) → Option gS} {v : Int32} {S : gS} (hc : c < 64) (hw : S.1 57 c = 1) : bX8_findYard_25 F k v (nI c) S = k (v, nI (c + 1), S) := by
  unfold bX8_findYard_25
  rw [if_neg (show ¬ ((64 : Int32) ≤ nI c) from nI_ge hc (by decide)), chk_nI hc (by decide), nI_clamp (show c < 2 ^ 31 by omega), if_pos (show g_I S 57 c = 1 from hw), y8_93]
theorem y8_bare {F c : Nat} {k : (Int32 × Int32 × gS) → Option gS} {v : Int32} {S : gS} (hc : c < 64) (hw : ¬ S.1 57 c = 1) (h0 : S.1 58 c ≤ 0) : bX8_findYard_25 F k v (nI c) S = k (v, nI (c + 1), S) := by
  unfold bX8_findYard_25
  rw [if_neg (show ¬ ((64 : Int32) ≤ nI c) from nI_ge hc (by decide)), chk_nI hc (by decide), nI_clamp (show c < 2 ^ 31 by omega), if_neg (show ¬ g_I S 57 c = 1 from hw), chk_nI hc (by decide), if_pos (show g_I S 58 c ≤ 0 from h0), y8_93]
theorem y8_no {F c : Nat} {k : (Int32 × Int32 × gS) → Option gS} {v : Int32} {S S1 S2 : gS} (hc : c < 64) (hw : ¬ S.1 57 c = 1) (h0 : ¬ S.1 58 c ≤ 0) (hb : fX8_begins F S = some S1) (hm : fX8_mornings F (g_setI S1 64 c 0) = some S2) (hq : v - S2.1 51 21 ≤ S2.1 51 32) : bX8_findYard_25 F k v (nI c) S = k (v, nI (c + 1), S2) := by
  unfold bX8_findYard_25
  rw [if_neg (show ¬ ((64 : Int32) ≤ nI c) from nI_ge hc (by decide)), chk_nI hc (by decide), nI_clamp (show c < 2 ^ 31 by omega), if_neg (show ¬ g_I S 57 c = 1 from hw), chk_nI hc (by decide), if_neg (show ¬ g_I S 58 c ≤ 0 from h0), hb, Option.bind_some, chk_nI hc (by decide), gl_def, hm, Option.bind_some, if_pos (show v - g_I S2 51 21 ≤ g_I S2 51 32 from hq), y8_93]
theorem y8_yes {F c : Nat} {k : (Int32 × Int32 × gS) → Option gS} {v : Int32} {S S1 S2 : gS} (hc : c < 64) (hw : ¬ S.1 57 c = 1) (h0 : ¬ S.1 58 c ≤ 0) (hb : fX8_begins F S = some S1) (hm : fX8_mornings F (g_setI S1 64 c 0) = some S2) (hq : ¬ v - S2.1 51 21 ≤ S2.1 51 32) : bX8_findYard_25 F k v (nI c) S = k (v, nI (c + 1), g_setI (g_setI S2 51 31 (nI c)) 51 32 (v - S2.1 51 21)) := by
  unfold bX8_findYard_25
  rw [if_neg (show ¬ ((64 : Int32) ≤ nI c) from nI_ge hc (by decide)), chk_nI hc (by decide), nI_clamp (show c < 2 ^ 31 by omega), if_neg (show ¬ g_I S 57 c = 1 from hw), chk_nI hc (by decide), if_neg (show ¬ g_I S 58 c ≤ 0 from h0), hb, Option.bind_some, chk_nI hc (by decide), gl_def, hm, Option.bind_some, if_neg (show ¬ v - g_I S2 51 21 ≤ g_I S2 51 32 from hq), gl_def, gl_def, show g_I (g_setI S2 51 31 (nI c)) 51 21 = S2.1 51 21 from rI_ne _ _ (by omega), y8_93]
theorem yard_rel {F : Nat} {S T : gS} (hF : 20000000 < F) (h : Inv S T) : ∃ S' T', fX7_seekYard F S = some S' ∧ fX8_findYard F T = some T' ∧ S'.1 0 10 = T'.1 51 31 ∧ S'.1 0 11 = T'.1 51 32 ∧ FC S S' ∧ FM T T' := by
  obtain ⟨nW, w1, w2, w3, -⟩ := h.2.2.1
  have fc0 : FC S (g_setI (g_setI S 0 10 (-1)) 0 11 0) := (FC.set0 S (by omega) _).tr (FC.set0 _ (by omega) _)
  obtain ⟨S1, T1, T2, m1, m2, m3, m4, m5, m6, m7, m8, -, m9, m10⟩ := morn_rel (F := F) hF (h.fr fc0 (FM.rf T))
  have fm0 : FM T2 (g_setI (g_setI T2 51 31 (-1)) 51 32 0) := (FM.set31 T2 (by omega) _).tr (FM.set31 _ (by omega) _)
  have hB : Beside nW S T S1 T2 := by
    refine ⟨(h.fr fc0 (FM.rf T)).fr (m5.fc ⟨by decide, by decide⟩) (m6.fm.tr m7.fm), ?_, fc0.tr (m5.fc ⟨by decide, by decide⟩), m6.fm.tr m7.fm, ?_, ?_⟩
    · rw [m5.2 1 3 (by decide) (by decide), m5.2 1 4 (by decide) (by decide)]; exact m8
    · rw [m5.1 9 2 (by decide) (by decide) (by decide) (by decide) (by decide) (by decide), rI_ne _ _ (by omega), rI_ne _ _ (by omega)]; exact w2
    · rw [m7.1 51 12 (by decide) (by decide) (by decide) (by decide) (by decide) (by decide) (Or.inr (by decide)), m6.1 51 12 (by decide) (by decide) (by decide) (by decide) (Or.inr (by decide))]; exact w3
  have hB0 := (hB.t31 (k := 31) (by omega) (-1)).t31 (k := 32) (by omega) 0
  have e10 : S1.1 0 10 = -1 := by rw [m5.1 0 10 (by decide) (by decide) (by decide) (by decide) (by decide) (by decide), rI_ne _ _ (by omega), rI_same]
  have e11 : S1.1 0 11 = 0 := by rw [m5.1 0 11 (by decide) (by decide) (by decide) (by decide) (by decide) (by decide), rI_same]
  obtain ⟨x, y, ⟨S', T', e1, e2, e3, e4, e5, e6⟩, g1, g2⟩ := fix2 (b1 := fun k26 s => bX7_seekYard_26 F k26 s.1 s.2.1 s.2.2) (b2 := fun k25 s => bX8_findYard_25 F k25 s.1 s.2.1 s.2.2) 64
    (fun c s t => ∃ S' T', s = (S1.1 16 4, nI c, S') ∧ t = (S1.1 16 4, nI c, T') ∧ S'.1 0 10 = T'.1 51 31 ∧ S'.1 0 11 = T'.1 51 32 ∧ Beside nW S T S' T')
    (fun x y => ∃ S' T', x = some S' ∧ y = some T' ∧ S'.1 0 10 = T'.1 51 31 ∧ S'.1 0 11 = T'.1 51 32 ∧ FC S S' ∧ FM T T')
    (by
      rintro c s t hc ⟨S', T', rfl, rfl, k1, k2, k3⟩
      have hw := (k3.2.1 c hc).1
      obtain ⟨⟨w, q1, q2, q3⟩, -⟩ := k3.1.2.1 c hc
      by_cases qw : hb (S'.2 1 3) c = true
      · rw [qw] at hw
        exact Or.inl ⟨_, _, ⟨S', T', rfl, rfl, k1, k2, k3⟩, fun k => y7_wall hc qw, fun k => y8_wall hc (of_decide_eq_true hw)⟩
      · have qw' : hb (S'.2 1 3) c = false := by simpa using qw
        rw [qw'] at hw
        have hw' : ¬ T'.1 57 c = 1 := of_decide_eq_false hw
        by_cases q0 : w = 0
        · subst q0
          exact Or.inl ⟨_, _, ⟨S', T', rfl, rfl, k1, k2, k3⟩, fun k => y7_bare hc qw' q2, fun k => y8_bare hc hw' (by rw [q3]; decide)⟩
        · have h70 : ¬ S'.1 4 c = 0 := by rw [q2]; exact nI_ne0 (by omega) (by omega)
          have h80 : ¬ T'.1 58 c ≤ 0 := by rw [q3]; exact nI_nle (by omega) (by omega)
          obtain ⟨S2, T2, T3, r1, r2, r3, r4, r5, r6, r7⟩ := round_rel (F := F) (x := none) (y := some c) hF k3.1 k3.2.1 w1 k3.2.2.2.2.1 (fun n hn => by cases hn) (fun c' hc' => by cases hc'; exact hc)
          have hm : fX8_mornings F (g_setI T2 64 c 0) = some T3 := mornings_eq (by omega) w1 (by
            have := r7.1 51 12 (by decide) (by decide) (by decide) (by decide) (by decide) (by decide) (Or.inr (by decide))
            exact this.trans k3.2.2.2.2.2) (by rw [mornL_none] at r3; exact r3)
          have z10 : S2.1 0 10 = T3.1 51 31 := by rw [r5.1 0 10 (by decide) (by decide) (by decide) (by decide) (by decide) (by decide), r6.1 51 31 (by decide) (by decide) (by decide) (by decide) (by decide) (by decide) (Or.inr (by decide))]; exact k1
          have z11 : S2.1 0 11 = T3.1 51 32 := by rw [r5.1 0 11 (by decide) (by decide) (by decide) (by decide) (by decide) (by decide), r6.1 51 32 (by decide) (by decide) (by decide) (by decide) (by decide) (by decide) (Or.inr (by decide))]; exact k2
          have hB2 := k3.go r5 r6
          have ef : S2.1 16 4 = T3.1 51 21 := r4.2.1
          by_cases q : S1.1 16 4 - T3.1 51 21 ≤ T3.1 51 32
          · exact Or.inl ⟨_, _, ⟨S2, T3, rfl, rfl, z10, z11, hB2⟩, fun k => y7_no hc qw' h70 r1 (by rw [z11, ef]; exact q), fun k => y8_no hc hw' h80 r2 hm q⟩
          · refine Or.inl ⟨_, _, ⟨_, _, rfl, rfl, ?_, ?_, ((((hB2.s0 (k := 10) (by omega) (nI c)).s0 (k := 11) (by omega) (S1.1 16 4 - S2.1 16 4)).t31 (k := 31) (by omega) (nI c)).t31 (k := 32) (by omega) (S1.1 16 4 - T3.1 51 21))⟩, fun k => y7_yes hc qw' h70 r1 (by rw [z11, ef]; exact q), fun k => y8_yes hc hw' h80 r2 hm q⟩
            · rw [rI_ne _ _ (by omega), rI_same, rI_ne _ _ (by omega), rI_same]
            · rw [rI_same, rI_same, ef])
    (by
      rintro s t ⟨S', T', rfl, rfl, k1, k2, k3⟩
      exact ⟨_, _, ⟨S', T', rfl, rfl, k1, k2, k3.2.2.1, k3.2.2.2.1⟩, fun k => y7_end, fun k => y8_end⟩)
    F F (S1.1 16 4, (0 : Int32), S1) (S1.1 16 4, (0 : Int32), g_setI (g_setI T2 51 31 (-1)) 51 32 0) ⟨S1, _, rfl, rfl, by rw [e10, rI_ne _ _ (by omega), rI_same], by rw [e11, rI_same], hB0⟩ (by omega) (by omega)
  refine ⟨S', T', ?_, ?_, e3, e4, e5, e6⟩
  · unfold fX7_seekYard
    rw [gl_def, gl_def, m1, Option.bind_some, gl_def, ← e1, ← g1]; rfl
  · unfold fX8_findYard
    rw [m2, Option.bind_some, m3, Option.bind_some, gl_def, gl_def, gl_def, ← e2, ← g2, show g_I T2 51 21 = S1.1 16 4 from m4.2.1.symm]; rfl
theorem op_yard {F : Nat} (hF : 20000000 < F) (a : Int32) : Op Int32 (fX7_yard F a) (fX8_yard F a) := Op.try (fun S T h => by
  rcases two_cases a with hout | ha
  · refine ⟨-2, S, T, ?_, ?_, FC.rf S, FM.rf T⟩
    · unfold fX7_yard
      rcases two_out hout with h1 | ⟨h1, h2⟩
      · rw [if_pos h1]
      · rw [if_neg h1, if_neg h2]
    · unfold fX8_yard; rw [two8_out F hout, Option.bind_some, if_pos eq00]
  · obtain ⟨h1, h2⟩ := two_nlt ha
    obtain ⟨S', T', e1, e2, e3, e4, e5, e6⟩ := yard_rel hF h
    refine ⟨if a = 0 then S'.1 0 10 else S'.1 0 11, S', T', ?_, ?_, e5, e6⟩
    · unfold fX7_yard; rw [if_neg h1, if_pos h2, e1, Option.bind_some]
      by_cases qa : a = 0
      · rw [if_pos qa, if_pos qa]
      · rw [if_neg qa, if_neg qa]
    · unfold fX8_yard; rw [two8_01 F ha, Option.bind_some, if_neg ne10, e2, Option.bind_some, show g_I T' 51 31 = S'.1 0 10 from e3.symm, show g_I T' 51 32 = S'.1 0 11 from e4.symm]
      by_cases qa : a = 0
      · rw [if_pos qa, if_pos qa]
      · rw [if_neg qa, if_neg qa])

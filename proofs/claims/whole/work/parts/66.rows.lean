/-! read, write, copy -/
theorem rd7_go {F o c w n : Nat} {S : gS} {k : (Int32 × gS) → Option (Int32 × gS)} (h2 : S.1 o 2 = nI n) (hc : c < n) (hn : n ≤ 64) (hv : S.1 (o + 1) c = nI w) (hw : w ≤ 30) : bX1_setSnow_2 F o k (nI c) S = k (nI (c + 1), g_setI S 4 c (nI w)) := by
  unfold bX1_setSnow_2
  rw [if_neg (by show ¬ S.1 o 2 ≤ nI c; rw [h2]; exact nI_ge hc (by omega)), chk_nI (show c < 64 by omega) (by decide), chk_nI (show c < 64 by omega) (by decide), chk_nI (show c < 64 by omega) (by decide), chk_nI (show c < 64 by omega) (by decide), nI_clamp (show c < 2 ^ 31 by omega), show g_I S (o + 1) c = nI w from hv, if_neg (nI_pos (by omega)), if_pos (show nI w ≤ (30 : Int32) from nI_le (b := 30) hw (by decide)), gl_def, gl_def, nI_1]
theorem rd7_no {F o c n : Nat} {S : gS} {k : (Int32 × gS) → Option (Int32 × gS)} (h2 : S.1 o 2 = nI n) (hc : c < n) (hn : n ≤ 64) (hv : S.1 (o + 1) c < 0 ∨ nI 31 ≤ S.1 (o + 1) c) : bX1_setSnow_2 F o k (nI c) S = some (nI c, S) := by
  unfold bX1_setSnow_2
  rw [if_neg (by show ¬ S.1 o 2 ≤ nI c; rw [h2]; exact nI_ge hc (by omega)), chk_nI (show c < 64 by omega) (by decide), nI_clamp (show c < 2 ^ 31 by omega)]
  by_cases q : g_I S (o + 1) c < 0
  · rw [if_pos q]
  · rw [if_neg q, chk_nI (show c < 64 by omega) (by decide), if_neg]
    have := hv.resolve_left q
    intro z
    exact absurd (Int32.lt_of_lt_of_le (show (30 : Int32) < nI 31 by decide) this) (Int32.not_lt.mpr z)
theorem rd7_end {F o n : Nat} {S : gS} {k : (Int32 × gS) → Option (Int32 × gS)} (h2 : S.1 o 2 = nI n) (hn : n ≤ 64) : bX1_setSnow_2 F o k (nI n) S = some (nI n, S) := by
  unfold bX1_setSnow_2
  rw [show g_I S o 2 = nI n from h2, if_pos (nI_le (Nat.le_refl _) (by omega))]
theorem rd8_go {F s c w n : Nat} {T : gS} {k : (Int32 × Int32 × gS) → Option (Int32 × gS)} (hs : s < 4) (h2 : T.1 53 s = nI n) (hc : c < n) (hn : n ≤ 64) (hv : T.1 54 (64 * s + c) = nI w) (hw : w ≤ 30) : bX8_read_27 F k (nI s) (nI c) T = k (nI s, nI (c + 1), g_setI T 58 c (nI w)) := by
  unfold bX8_read_27
  rw [chk_nI hs (by decide), nI_clamp (show s < 2 ^ 31 by omega), show g_I T 53 s = nI n from h2, if_neg (nI_ge hc (by omega)), ix_item, chk_nI (show 64 * s + c < 256 by omega) (by decide), nI_clamp (show 64 * s + c < 2 ^ 31 by omega), show g_I T 54 (64 * s + c) = nI w from hv, in_in (n := 30) (by decide) (by decide) hw, Option.bind_some, if_neg ne10, chk_nI (show 64 * s + c < 256 by omega) (by decide), chk_nI (show c < 64 by omega) (by decide), nI_clamp (show c < 2 ^ 31 by omega), show g_I (1, T).2 54 (64 * s + c) = nI w from hv, gl_def, gl_def, nI_1]
theorem rd8_no {F s c n : Nat} {T : gS} {k : (Int32 × Int32 × gS) → Option (Int32 × gS)} (hs : s < 4) (h2 : T.1 53 s = nI n) (hc : c < n) (hn : n ≤ 64) (hv : T.1 54 (64 * s + c) < 0 ∨ nI 31 ≤ T.1 54 (64 * s + c)) : bX8_read_27 F k (nI s) (nI c) T = some (nI c, T) := by
  unfold bX8_read_27
  rw [chk_nI hs (by decide), nI_clamp (show s < 2 ^ 31 by omega), show g_I T 53 s = nI n from h2, if_neg (nI_ge hc (by omega)), ix_item, chk_nI (show 64 * s + c < 256 by omega) (by decide), nI_clamp (show 64 * s + c < 2 ^ 31 by omega), in_out (n := 30) (by decide) (by decide) (show g_I T 54 (64 * s + c) < 0 ∨ nI 31 ≤ g_I T 54 (64 * s + c) from hv), Option.bind_some, if_pos eq00]
theorem rd8_end {F s n : Nat} {T : gS} {k : (Int32 × Int32 × gS) → Option (Int32 × gS)} (hs : s < 4) (h2 : T.1 53 s = nI n) (hn : n ≤ 64) : bX8_read_27 F k (nI s) (nI n) T = some (nI n, T) := by
  unfold bX8_read_27
  rw [chk_nI hs (by decide), nI_clamp (show s < 2 ^ 31 by omega), show g_I T 53 s = nI n from h2, if_pos (nI_le (Nat.le_refl _) (by omega))]
theorem read_rel {F s n : Nat} {S T : gS} (hF : 100 < F) (h : Inv S T) (hs : s < 4) (hn : n ≤ 64) (b5 : S.1 (43 + 2 * s) 2 = nI n) (b6 : T.1 53 s = nI n) (b7 : ∀ i, i < n → S.1 (44 + 2 * s) i = T.1 54 (64 * s + i)) : ∃ r S' T', fX1_setSnow F (43 + 2 * s) S = some (r, S') ∧ bX8_read_27l F F (nI s, (0 : Int32), T) = some (r, T') ∧ Inv S' T' ∧ CK S S' ∧ MK T T' := by
  obtain ⟨x, y, ⟨r, S', T', e1, e2, e3, e4, e5⟩, g1, g2⟩ := fix2 (b1 := fun k2 s' => bX1_setSnow_2 F (43 + 2 * s) k2 s'.1 s'.2) (b2 := fun k27 s' => bX8_read_27 F k27 s'.1 s'.2.1 s'.2.2) n
    (fun c x y => ∃ S' T', x = (nI c, S') ∧ y = (nI s, nI c, T') ∧ FG S S' ∧ GM T T' ∧ InvG S' T')
    (fun x y => ∃ r S' T', x = some (r, S') ∧ y = some (r, T') ∧ FG S S' ∧ GM T T' ∧ InvG S' T')
    (by
      rintro c x y hc ⟨S', T', rfl, rfl, k1, k2, k3⟩
      have z1 : S'.1 (43 + 2 * s) 2 = nI n := by rw [k1.1 _ _ (by omega)]; exact b5
      have z2 : T'.1 53 s = nI n := by rw [k2.1 _ _ (by omega)]; exact b6
      have z3 : S'.1 (43 + 2 * s + 1) c = T'.1 54 (64 * s + c) := by rw [k1.1 _ _ (by omega), k2.1 _ _ (by omega), show 43 + 2 * s + 1 = 44 + 2 * s by omega]; exact b7 c hc
      rcases three (T'.1 54 (64 * s + c)) (n := 31) (by decide) with ho | ⟨w, hw, hv⟩
      · exact Or.inr ⟨_, _, ⟨nI c, S', T', rfl, rfl, k1, k2, k3⟩, fun k => rd7_no z1 hc hn (by rw [z3]; exact ho), fun k => rd8_no hs z2 hc hn ho⟩
      · exact Or.inl ⟨_, _, ⟨g_setI S' 4 c (nI w), g_setI T' 58 c (nI w), rfl, rfl, k1.tr (FG.set ⟨by decide, by decide⟩), k2.tr (GM.set ⟨by decide, by decide⟩), k3.s4 (by omega)⟩, fun k => rd7_go z1 hc hn (by rw [z3]; exact hv) (by omega), fun k => rd8_go hs z2 hc hn hv (by omega)⟩)
    (by
      rintro x y ⟨S', T', rfl, rfl, k1, k2, k3⟩
      exact ⟨_, _, ⟨nI n, S', T', rfl, rfl, k1, k2, k3⟩, fun k => rd7_end (by rw [k1.1 _ _ (by omega)]; exact b5) hn, fun k => rd8_end hs (by rw [k2.1 _ _ (by omega)]; exact b6) hn⟩)
    F F ((0 : Int32), S) (nI s, (0 : Int32), T) ⟨S, T, rfl, rfl, FG.rf S, GM.rf T, h.2.1⟩ (by omega) (by omega)
  obtain ⟨i1, i2, i3⟩ := InvG.of h e3 e4 e5
  exact ⟨r, S', T', by rw [← e1, ← g1]; rfl, by rw [← e2, ← g2]; rfl, i1, i2, i3⟩
theorem op_read {F : Nat} (hF : 100 < F) (a : Int32) : Op Int32 (fX7_read F a) (fX8_read F a) := by
  intro S T h
  show OpAt _ _ S T
  rcases three a (n := 4) (by decide) with hout | ⟨s, hs, rfl⟩
  · apply at_bad (r := -2) h
    · unfold fX7_read; rw [sheet7_out F hout, Option.bind_some, if_pos eq00]
    · unfold fX8_read; rw [sheet8_out F hout, Option.bind_some, if_pos eq00]
  rcases sheet_at h hs with ⟨l1, l2⟩ | ⟨f, n, b1, b2, b3, b4, b5, b6, b7⟩
  · apply at_found 1 h
    · unfold fX7_read; rw [sheet7_in F hs, Option.bind_some, if_neg ne10, chk_nI hs (by decide), nI_clamp (by omega), lost_yes F _ l1, Option.bind_some, if_neg ne10, found7, Option.bind_some]
    · unfold fX8_read; rw [sheet8_in F hs, Option.bind_some, if_neg ne10, chk_nI hs (by decide), nI_clamp (by omega), show g_I (1, T).2 52 s = -1 from l2, if_neg (by decide), met8, Option.bind_some]
  · obtain ⟨r, S', T', e1, e2, e3, e4, e5⟩ := read_rel (F := F) hF h hs b2 b5 b6 b7
    refine ⟨r, S', T', ?_, ?_, e3, e4, e5⟩
    · unfold fX7_read; rw [sheet7_in F hs, Option.bind_some, if_neg ne10, chk_nI hs (by decide), nI_clamp (by omega), lost_no F _ b3 b1, Option.bind_some, if_pos eq00, chk_nI hs (by decide), e1, Option.bind_some]
    · unfold fX8_read; rw [sheet8_in F hs, Option.bind_some, if_neg ne10, chk_nI hs (by decide), nI_clamp (by omega), show g_I (1, T).2 52 s = nI f from b4, if_pos (nI_pos' (by omega)), e2]
/-! write -/
theorem wr7_go {F s c f n : Nat} {S : gS} {k : (Int32 × Int32 × gS) → Option (Int32 × gS)} (hs : s < 4) (hf : f ≤ 2) (h1 : S.1 (43 + 2 * s) 1 = nI f) (h2 : S.1 (43 + 2 * s) 2 = nI n) (hc : c < n) (hn : n ≤ 64) : bX7_write_36 F k (nI s) (nI c) S = k (nI s, nI (c + 1), g_setI S (43 + 2 * s + 1) c (cutV f (S.1 18 c))) := by
  unfold bX7_write_36
  rw [chk_nI hs (by decide), nI_clamp (show s < 2 ^ 31 by omega), show g_I S (43 + 2 * s) 2 = nI n from h2, if_neg (nI_ge hc (by omega)), chk_nI hs (by decide), chk_nI (show c < 64 by omega) (by decide), put_spec F hf h1 (by omega), Option.bind_some, gl_def, nI_1, nI_clamp (show c < 2 ^ 31 by omega)]
theorem wr7_end {F s n : Nat} {S : gS} {k : (Int32 × Int32 × gS) → Option (Int32 × gS)} (hs : s < 4) (h2 : S.1 (43 + 2 * s) 2 = nI n) (hn : n ≤ 64) : bX7_write_36 F k (nI s) (nI n) S = some (nI n, S) := by
  unfold bX7_write_36
  rw [chk_nI hs (by decide), nI_clamp (show s < 2 ^ 31 by omega), show g_I S (43 + 2 * s) 2 = nI n from h2, if_pos (nI_le (Nat.le_refl _) (by omega)), chk_nI hs (by decide)]
theorem wr8_go {F s c f n : Nat} {T : gS} {k : (Int32 × Int32 × gS) → Option (Int32 × gS)} (hs : s < 4) (hf : f ≤ 2) (h1 : T.1 52 s = nI f) (h2 : T.1 53 s = nI n) (hc : c < n) (hn : n ≤ 64) : bX8_write_35 F k (nI s) (nI c) T = k (nI s, nI (c + 1), g_setI T 54 (64 * s + c) (cutV f (T.1 66 c))) := by
  unfold bX8_write_35
  rw [chk_nI hs (by decide), nI_clamp (show s < 2 ^ 31 by omega), show g_I T 53 s = nI n from h2, if_neg (nI_ge hc (by omega)), chk_nI hs (by decide), chk_nI (show c < 64 by omega) (by decide), show g_I T 52 s = nI f from h1, cut_spec F hf, Option.bind_some, ix_item, chk_nI (show 64 * s + c < 256 by omega) (by decide), nI_clamp (show 64 * s + c < 2 ^ 31 by omega), gl_def, gl_def, nI_1, nI_clamp (show c < 2 ^ 31 by omega)]
theorem wr8_end {F s n : Nat} {T : gS} {k : (Int32 × Int32 × gS) → Option (Int32 × gS)} (hs : s < 4) (h2 : T.1 53 s = nI n) (hn : n ≤ 64) : bX8_write_35 F k (nI s) (nI n) T = some (nI n, T) := by
  unfold bX8_write_35
  rw [chk_nI hs (by decide), nI_clamp (show s < 2 ^ 31 by omega), show g_I T 53 s = nI n from h2, if_pos (nI_le (Nat.le_refl _) (by omega)), chk_nI hs (by decide)]
theorem write_rel {F s f n : Nat} {S T : gS} (hF : 100 < F) (h : Inv S T) (hs : s < 4) (hf : f ≤ 2) (hn : n ≤ 64) (b3 : S.1 (43 + 2 * s) 1 = nI f) (b4 : T.1 52 s = nI f) (b5 : S.1 (43 + 2 * s) 2 = nI n) (b6 : T.1 53 s = nI n) (hcm : ∀ c, c < 64 → S.1 18 c = T.1 66 c) : ∃ r S' T', bX7_write_36l F F (nI s, (0 : Int32), S) = some (r, S') ∧ bX8_write_35l F F (nI s, (0 : Int32), T) = some (r, T') ∧ Inv S' T' ∧ CK S S' ∧ MK T T' := by
  obtain ⟨x, y, ⟨r, S', T', e1, e2, e3⟩, g1, g2⟩ := fix2 (b1 := fun k36 s' => bX7_write_36 F k36 s'.1 s'.2.1 s'.2.2) (b2 := fun k35 s' => bX8_write_35 F k35 s'.1 s'.2.1 s'.2.2) n
    (fun c x y => ∃ S' T', x = (nI s, nI c, S') ∧ y = (nI s, nI c, T') ∧ Inv S' T' ∧ CK S S' ∧ MK T T' ∧ S'.1 (43 + 2 * s) 1 = nI f ∧ T'.1 52 s = nI f ∧ S'.1 (43 + 2 * s) 2 = nI n ∧ T'.1 53 s = nI n ∧ ∀ c, c < 64 → S'.1 18 c = T'.1 66 c)
    (fun x y => ∃ r S' T', x = some (r, S') ∧ y = some (r, T') ∧ Inv S' T' ∧ CK S S' ∧ MK T T')
    (by
      rintro c x y hc ⟨S', T', rfl, rfl, k1, k2, k3, k4, k5, k6, k7, k8⟩
      obtain ⟨i1, i2, i3⟩ := put_rel k1 hs hn hc hf k4 k5 k6 k7 (cutV f (S'.1 18 c))
      refine Or.inl ⟨_, _, ⟨_, _, rfl, rfl, i1, k2.tr i2, k3.tr i3, ?_, ?_, ?_, ?_, fun x hx => ?_⟩, fun k => wr7_go hs hf k4 k6 hc hn, fun k => ?_⟩
      · rw [rI_ne _ _ (by omega)]; exact k4
      · rw [rI_ne _ _ (by omega)]; exact k5
      · rw [rI_ne _ _ (by omega)]; exact k6
      · rw [rI_ne _ _ (by omega)]; exact k7
      · rw [rI_ne _ _ (by omega), rI_ne _ _ (by omega)]; exact k8 x hx
      · show bX8_write_35 F k (nI s) (nI c) T' = _
        rw [wr8_go hs hf k5 k7 hc hn, k8 c (by omega)])
    (by
      rintro x y ⟨S', T', rfl, rfl, k1, k2, k3, k4, k5, k6, k7, k8⟩
      exact ⟨_, _, ⟨nI n, S', T', rfl, rfl, k1, k2, k3⟩, fun k => wr7_end hs k6 hn, fun k => wr8_end hs k7 hn⟩)
    F F (nI s, (0 : Int32), S) (nI s, (0 : Int32), T) ⟨S, T, rfl, rfl, h, fun _ _ _ => rfl, ⟨fun _ _ _ => rfl, rfl⟩, b3, b4, b5, b6, hcm⟩ (by omega) (by omega)
  exact ⟨r, S', T', by rw [← e1, ← g1]; rfl, by rw [← e2, ← g2]; rfl, e3⟩
theorem op_write {F : Nat} (hF : 20000000 < F) (a : Int32) : Op Int32 (fX7_write F a) (fX8_write F a) := by
  intro S T h
  show OpAt _ _ S T
  rcases three a (n := 4) (by decide) with hout | ⟨s, hs, rfl⟩
  · apply at_bad (r := -2) h
    · unfold fX7_write; rw [sheet7_out F hout, Option.bind_some, if_pos eq00]
    · unfold fX8_write; rw [sheet8_out F hout, Option.bind_some, if_pos eq00]
  rcases sheet_at h hs with ⟨l1, l2⟩ | ⟨f, n, b1, b2, b3, b4, b5, b6, b7⟩
  · apply at_found 1 h
    · unfold fX7_write; rw [sheet7_in F hs, Option.bind_some, if_neg ne10, chk_nI hs (by decide), nI_clamp (by omega), lost_yes F _ l1, Option.bind_some, if_neg ne10, found7, Option.bind_some]
    · unfold fX8_write; rw [sheet8_in F hs, Option.bind_some, if_neg ne10, chk_nI hs (by decide), nI_clamp (by omega), show g_I (1, T).2 52 s = -1 from l2, if_neg (by decide), met8, Option.bind_some]
  · obtain ⟨S1, T1, T2, m1, m2, m3, m4, m5, m6, m7, -⟩ := morn_rel (F := F) hF h
    have hfc := m5.fc ⟨by decide, by decide⟩
    have hfm := m6.fm.tr m7.fm
    obtain ⟨r, S', T', e1, e2, e3, e4, e5⟩ := write_rel (F := F) (s := s) (f := f) (n := n) (by omega) (h.fr hfc hfm) hs b1 b2 (by rw [hfc.1 _ _ (by unfold per; omega)]; exact b3) (by rw [hfm.1 _ _ (by unfold per; omega)]; exact b4) (by rw [hfc.1 _ _ (by unfold per; omega)]; exact b5) (by rw [hfm.1 _ _ (by unfold per; omega)]; exact b6) (fun c hc => (m4.1 c hc).2.1)
    refine ⟨r, S', T', ?_, ?_, e3, hfc.ck.tr e4, hfm.mk.tr e5⟩
    · unfold fX7_write; rw [sheet7_in F hs, Option.bind_some, if_neg ne10, chk_nI hs (by decide), nI_clamp (by omega), lost_no F _ b3 b1, Option.bind_some, if_pos eq00, m1, Option.bind_some, e1]
    · unfold fX8_write; rw [sheet8_in F hs, Option.bind_some, if_neg ne10, chk_nI hs (by decide), nI_clamp (by omega), show g_I (1, T).2 52 s = nI f from b4, if_pos (nI_pos' (by omega)), m2, Option.bind_some, m3, Option.bind_some, e2]

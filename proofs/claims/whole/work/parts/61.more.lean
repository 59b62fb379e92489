/-! walk, morning: what is tried becomes so -/
theorem become_rel {F : Nat} {S T : gS} {sn pr : Nat → Nat} (hF : 100 < F) (h : Inv S T) (hTR : TR 16 S T) (hM : MPr sn pr T) (hsn : ∀ c, c < 64 → S.1 4 c = nI (sn c) ∧ S.1 5 c = nI (pr c) ∧ pr c ≤ 30) :
    ∃ S' T', fX1_treadAs F S = some S' ∧ fX8_becomes F T = some (T.1 51 21, T') ∧ Inv S' T' ∧ CK S S' ∧ MK T T' ∧ S'.1 16 4 = S.1 16 4 := by
  obtain ⟨x, y, ⟨S', T', e1, e2, e3, e4, e5⟩, g1, g2⟩ := fix2 (b1 := fun k2 s => bX1_treadAs_2 F k2 s.1 s.2) (b2 := fun k2 s => bX8_becomes_2 F k2 s.1 s.2) 64
    (fun c s t => ∃ S' T', s = (nI c, S') ∧ t = (nI c, T') ∧ FG S S' ∧ GM T T' ∧ InvG S' T' ∧ ∀ x, c ≤ x → S'.1 4 x = S.1 4 x ∧ S'.1 5 x = S.1 5 x)
    (fun x y => ∃ S' T', x = some S' ∧ y = some (T.1 51 21, T') ∧ FG S S' ∧ GM T T' ∧ InvG S' T')
    (by
      rintro c s t hc ⟨S', T', rfl, rfl, k1, k2, k3, k4⟩
      have c64 : ¬ ((64 : Int32) ≤ nI c) := nI_ge hc (by decide)
      obtain ⟨a1, a2, -⟩ := hTR.1 c hc
      obtain ⟨w, ⟨w1, w2⟩, w3, w4⟩ := hM c hc
      obtain ⟨s1, s2, s3⟩ := hsn c hc
      obtain ⟨f1, f2⟩ := k4 c (Nat.le_refl _)
      have r17 : S'.1 17 c = nI w := by rw [k1.1 17 c (by omega), a1, w3]
      have r18 : S'.1 18 c = T.1 66 c := by rw [k1.1 18 c (by omega), a2]
      have r64 : T'.1 64 c = nI w := by rw [k2.1 64 c (by omega), w3]
      have r65 : T'.1 65 c = nI (min (pr c + sn c - w) 30) := by rw [k2.1 65 c (by omega), w4]; congr 1; omega
      have r66 : T'.1 66 c = T.1 66 c := k2.1 66 c (by omega)
      have hp7 := (k3 c hc).2.2.2.1
      refine Or.inl ⟨(nI (c + 1), g_setI (g_setI (g_setI S' 5 c (nI (min (pr c + sn c - w) 30))) 4 c (nI w)) 7 c (S'.1 7 c + T.1 66 c)), (nI (c + 1), g_setI (g_setI (g_setI T' 58 c (nI w)) 59 c (nI (min (pr c + sn c - w) 30))) 61 c (S'.1 7 c + T.1 66 c)), ⟨_, _, rfl, rfl, k1.tr ((FG.set ⟨by decide, by decide⟩).tr ((FG.set ⟨by decide, by decide⟩).tr (FG.set ⟨by decide, by decide⟩))), k2.tr ((GM.set ⟨by decide, by decide⟩).tr ((GM.set ⟨by decide, by decide⟩).tr (GM.set ⟨by decide, by decide⟩))), ?_, fun x hx => ?_⟩, fun k => ?_, fun k => ?_⟩
      · have z : InvG (g_setI (g_setI S' 5 c (nI (min (pr c + sn c - w) 30))) 4 c (nI w)) (g_setI (g_setI T' 59 c (nI (min (pr c + sn c - w) 30))) 58 c (nI w)) := (k3.s5 (by omega)).s4 (by omega)
        have e : g_setI (g_setI T' 58 c (nI w)) 59 c (nI (min (pr c + sn c - w) 30)) = g_setI (g_setI T' 59 c (nI (min (pr c + sn c - w) 30))) 58 c (nI w) := by
          unfold g_setI
          apply Prod.ext
          · funext a b
            dsimp only
            by_cases q1 : a = 58 ∧ b = c
            · rw [if_pos q1, if_neg (by omega), if_pos q1]
            · rw [if_neg q1, if_neg q1]
          · rfl
        rw [e]
        exact z.s7
      · rw [rI_ne _ _ (Or.inl (by decide)), rI_ne _ _ (Or.inr (by omega)), rI_ne _ _ (Or.inl (by decide)), rI_ne _ _ (Or.inl (by decide)), rI_ne _ _ (Or.inl (by decide)), rI_ne _ _ (Or.inr (by omega))]
        exact k4 x (by omega)
      · show bX1_treadAs_2 F k (nI c) S' = _
        unfold bX1_treadAs_2
        rw [if_neg c64]
        simp only [gl_def, chk_nI hc (show 64 < 2 ^ 31 by decide), nI_clamp (show c < 2 ^ 31 by omega), nI_1]
        rw [show g_I S' 5 c = nI (pr c) by show S'.1 5 c = _; rw [f2, s2], show g_I S' 4 c = nI (sn c) by show S'.1 4 c = _; rw [f1, s1], show g_I S' 17 c = nI w from r17, nI_add, pk_sub (by omega), min30 (by omega)]
        have x1 : g_I (g_setI S' 5 c (nI (min (pr c + sn c - w) 30))) 17 c = nI w := by show (g_setI _ _ _ _).1 _ _ = _; rw [rI_ne _ _ (Or.inl (by decide))]; exact r17
        rw [x1]
        have x2 : g_I (g_setI (g_setI S' 5 c (nI (min (pr c + sn c - w) 30))) 4 c (nI w)) 7 c = S'.1 7 c := by show (g_setI _ _ _ _).1 _ _ = _; rw [rI_ne _ _ (Or.inl (by decide)), rI_ne _ _ (Or.inl (by decide))]
        have x3 : g_I (g_setI (g_setI S' 5 c (nI (min (pr c + sn c - w) 30))) 4 c (nI w)) 18 c = T.1 66 c := by show (g_setI _ _ _ _).1 _ _ = _; rw [rI_ne _ _ (Or.inl (by decide)), rI_ne _ _ (Or.inl (by decide))]; exact r18
        rw [x2, x3]
      · show bX8_becomes_2 F k (nI c) T' = _
        unfold bX8_becomes_2
        rw [if_neg c64]
        simp only [gl_def, chk_nI hc (show 64 < 2 ^ 31 by decide), nI_clamp (show c < 2 ^ 31 by omega), nI_1]
        rw [show g_I T' 64 c = nI w from r64]
        have x1 : g_I (g_setI T' 58 c (nI w)) 65 c = nI (min (pr c + sn c - w) 30) := by show (g_setI _ _ _ _).1 _ _ = _; rw [rI_ne _ _ (Or.inl (by decide))]; exact r65
        rw [x1]
        have x2 : g_I (g_setI (g_setI T' 58 c (nI w)) 59 c (nI (min (pr c + sn c - w) 30))) 61 c = S'.1 7 c := by show (g_setI _ _ _ _).1 _ _ = _; rw [rI_ne _ _ (Or.inl (by decide)), rI_ne _ _ (Or.inl (by decide))]; exact hp7.symm
        have x3 : g_I (g_setI (g_setI T' 58 c (nI w)) 59 c (nI (min (pr c + sn c - w) 30))) 66 c = T.1 66 c := by show (g_setI _ _ _ _).1 _ _ = _; rw [rI_ne _ _ (Or.inl (by decide)), rI_ne _ _ (Or.inl (by decide))]; exact r66
        rw [x2, x3])
    (by
      rintro s t ⟨S', T', rfl, rfl, k1, k2, k3, k4⟩
      refine ⟨_, _, ⟨S', T', rfl, rfl, k1, k2, k3⟩, fun k => ?_, fun k => ?_⟩
      · show bX1_treadAs_2 F k (nI 64) S' = _
        unfold bX1_treadAs_2
        rw [if_pos (by decide)]
      · show bX8_becomes_2 F k (nI 64) T' = _
        unfold bX8_becomes_2
        rw [if_pos (by decide), show g_I T' 51 21 = T.1 51 21 from k2.1 51 21 (by omega)])
    F F ((0 : Int32), S) ((0 : Int32), T) ⟨S, T, rfl, rfl, FG.rf S, GM.rf T, h.2.1, fun _ _ => ⟨rfl, rfl⟩⟩ (by omega) (by omega)
  obtain ⟨i1, i2, i3⟩ := InvG.of h e3 e4 e5
  exact ⟨S', T', by rw [← e1, ← g1]; rfl, by rw [← e2, ← g2]; rfl, i1, i2, i3, e3.1 16 4 (by omega)⟩
theorem sn_pr {S S' T : gS} (hG : InvG S T) (hfc : FC S S') : ∀ c, c < 64 → S'.1 4 c = nI (snN T c) ∧ S'.1 5 c = nI (prN T c) ∧ prN T c ≤ 30 := fun c hc => by
  obtain ⟨⟨w, w1, w2, w3⟩, ⟨p, p1, p2, p3⟩, -⟩ := hG c hc
  have e1 : snN T c = w := by unfold snN; rw [w3, nI_clamp (by omega)]
  have e2 : prN T c = p := by unfold prN; rw [p3, nI_clamp (by omega)]
  rw [e1, e2, hfc.1 4 c (by unfold per; omega), hfc.1 5 c (by unfold per; omega)]
  exact ⟨w2, p2, p1⟩
theorem CK.tr {S0 S1 S2 : gS} (h1 : CK S0 S1) (h2 : CK S1 S2) : CK S0 S2 := fun i k h => (h2 i k h).trans (h1 i k h)
theorem MK.tr {S0 S1 S2 : gS} (h1 : MK S0 S1) (h2 : MK S1 S2) : MK S0 S2 := ⟨fun i k h => (h2.1 i k h).trans (h1.1 i k h), h2.2.trans h1.2⟩
theorem op_morning {F : Nat} (hF : 20000000 < F) : Op Int32 (fX7_morning F) (fX8_morning F) := by
  intro S T h
  obtain ⟨S1, T1, T2, e1, e2, e3, e4, e5, e6, e7, e8, e9, -⟩ := morn_rel (F := F) hF h
  have hfc := e5.fc ⟨by decide, by decide⟩
  have hfm := e6.fm.tr e7.fm
  obtain ⟨S', T', g1, g2, g3, g4, g5, g6⟩ := become_rel (F := F) (by omega) (h.fr hfc hfm) e4 e9 (sn_pr h.2.1 hfc)
  refine ⟨T2.1 51 21, S', T', ?_, ?_, g3, hfc.ck.tr g4, hfm.mk.tr g5⟩
  · unfold fX7_morning
    rw [e1]
    simp only [Option.bind_some]
    rw [g1]
    simp only [Option.bind_some]
    rw [show g_I S' 16 4 = T2.1 51 21 by show S'.1 16 4 = _; rw [g6, e4.2.1]]
  · unfold fX8_morning
    rw [e2]
    simp only [Option.bind_some]
    rw [e3]
    simp only [Option.bind_some]
    rw [g2]; rfl
theorem op_walk {F : Nat} (hF : 20000000 < F) (a : Int32) : Op Int32 (fX7_walk F a) (fX8_walk F a) := by
  intro S T h
  obtain ⟨hT, hG, ⟨nW, w1, w2, w3, w4⟩, hS, hf⟩ := id h
  rcases three a (n := nW) (by omega) with hout | ⟨w, hw, rfl⟩
  · refine ⟨-2, S, T, ?_, ?_, h, fun _ _ _ => rfl, fun _ _ _ => rfl, rfl⟩
    · unfold fX7_walk
      rw [walker7_out F w2 hout]; rfl
    · unfold fX8_walk
      rw [walker8_out F w3 w1 hout]; rfl
  · obtain ⟨S1, s1, s2, s3, s4, s5, s6⟩ := begin_spec (F := F) (o := 16) (S := S) (by omega) ⟨by decide, by decide⟩
    obtain ⟨T1, t1, t2, t3, t4, t5, t6, t7, t8, t9, t10⟩ := tries_rel (F := F) (by omega) hT
    have hTR : TR 16 S1 T1 := TR_begin hG s3 s4 s5 s6 t4 t5 t6 t7
    obtain ⟨x, y, hx, hy, v1, v2, v3, v4⟩ := w4 w hw
    have r10 : S1.1 10 w = nI x := by rw [s2.1 10 w (by decide) (by decide) (by decide) (by decide) (by decide) (by decide)]; exact v1
    have r11 : S1.1 11 w = nI y := by rw [s2.1 11 w (by decide) (by decide) (by decide) (by decide) (by decide) (by decide)]; exact v3
    have rJ : S1.2 1 4 = S.2 1 4 := s2.2 1 4 (by decide) (by decide)
    obtain ⟨ok, v, S2, T2, k1, k2, k3, k4, k5, k6, k7, k8, k9⟩ := walk_rel (F := F) (o := 16) (wi := w) (hid := S.2 1 4) (S := S1) (T := T1) hF ⟨by decide, by decide⟩ (by omega) hx hy (s2.2 1 3 (by decide) (by decide)) t3 (by rw [t2.1 62 w (by decide) (by decide) (by decide) (by decide) (Or.inl (by decide))]; exact v2) (by rw [t2.1 63 w (by decide) (by decide) (by decide) (by decide) (Or.inl (by decide))]; exact v4) hTR
    have hfc := (s2.tr k7).fc ⟨by decide, by decide⟩
    have hfm := t2.fm.tr k8.fm
    obtain ⟨S', T', g1, g2, g3, g4, g5, g6⟩ := become_rel (F := F) (by omega) (h.fr hfc hfm) k6 (k9.1 _ _ (MPr_begin hG t4)) (sn_pr hG hfc)
    refine ⟨T2.1 51 21, S', T', ?_, ?_, g3, hfc.ck.tr g4, hfm.mk.tr g5⟩
    · unfold fX7_walk
      rw [walker7_in F w2 w1 hw]
      simp only [Option.bind_some]
      rw [if_neg (by decide), s1]
      simp only [Option.bind_some]
      rw [chk_nI (show w < 8 by omega) (by decide), chk_nI (show w < 8 by omega) (by decide), nI_clamp (by omega), show g_I S1 10 w = nI x from r10, show g_I S1 11 w = nI y from r11, show g_J S1 1 4 = S.2 1 4 from rJ, k2]
      simp only [Option.bind_some]
      rw [g1]
      simp only [Option.bind_some]
      rw [show g_I S' 16 4 = T2.1 51 21 by show S'.1 16 4 = _; rw [g6, k6.2.1]]
    · unfold fX8_walk
      rw [walker8_in F w3 w1 hw]
      simp only [Option.bind_some]
      rw [if_neg (by decide), t1]
      simp only [Option.bind_some]
      rw [k3]
      simp only [Option.bind_some]
      rw [g2]; rfl
/-! the green, walkers -/
theorem InvT.of {S S' T T' : gS} (h : Inv S T) (hc : ∀ i k, i ≠ 1 → i ≠ 2 → S'.1 i k = S.1 i k) (hc2 : ∀ i k, i ≠ 1 → S'.2 i k = S.2 i k) (hm : ∀ i k, i ≠ 56 → (i ≠ 51 ∨ k ≠ 6) → T'.1 i k = T.1 i k) (hm2 : T'.2 = T.2) (hT : InvT S' T') : Inv S' T' ∧ CK S S' ∧ MK T T' := by
  obtain ⟨-, hG, ⟨nW, w1, w2, w3, w4⟩, hS, hf⟩ := h
  refine ⟨⟨hT, fun x hx => ?_, ⟨nW, w1, ?_, ?_, fun w hw => ?_⟩, fun s hs => ?_, ?_⟩, fun i k hi => hc i k (by omega) (by omega), fun i k hi => hm i k (by omega) (by omega), hm2⟩
  · rw [hc 4 x (by decide) (by decide), hc 5 x (by decide) (by decide), hc 6 x (by decide) (by decide), hc 7 x (by decide) (by decide), hc 8 x (by decide) (by decide), hm 58 x (by decide) (by omega), hm 59 x (by decide) (by omega), hm 60 x (by decide) (by omega), hm 61 x (by decide) (by omega)]; exact hG x hx
  · rw [hc 9 2 (by decide) (by decide)]; exact w2
  · rw [hm 51 12 (by decide) (by omega)]; exact w3
  · rw [hc 10 w (by decide) (by decide), hc 11 w (by decide) (by decide), hm 62 w (by decide) (by omega), hm 63 w (by decide) (by omega)]; exact w4 w hw
  · have e1 : ∀ k, S'.1 (43 + 2 * s) k = S.1 (43 + 2 * s) k := fun k => hc _ k (by omega) (by omega)
    have e2 : ∀ k, S'.1 (44 + 2 * s) k = S.1 (44 + 2 * s) k := fun k => hc _ k (by omega) (by omega)
    rw [e1, e1, hm 52 s (by decide) (by omega), hm 53 s (by decide) (by omega)]
    obtain ⟨a, b | ⟨f, n, b1, b2, b3, b4, b5, b6⟩⟩ := hS s hs
    · exact ⟨a, Or.inl b⟩
    · exact ⟨a, Or.inr ⟨f, n, b1, b2, b3, b4, b5, fun i hi => by rw [e2, hm 54 _ (by decide) (by omega)]; exact b6 i hi⟩⟩
  · rw [hc 0 7 (by decide) (by decide), hm 51 4 (by decide) (by omega)]; exact hf
theorem op_type {F : Nat} (hF : 100 < F) (a : Int32) : Op Int32 (fX7_type F a) (fX8_type F a) := by
  intro S T h
  rcases ten_cases a 255 (by decide) with hout | ⟨n, hn, rfl⟩
  · refine ⟨-2, S, T, ?_, ?_, h, fun _ _ _ => rfl, fun _ _ _ => rfl, rfl⟩
    · unfold fX7_type
      rcases hout with h1 | ⟨h1, h2⟩
      · rw [if_pos h1]
      · rw [if_neg h1, if_neg (show ¬ a ≤ (255 : Int32) from h2)]
    · unfold fX8_type
      rw [in_out (n := 255) (by decide) (by decide) (out_of (by decide) hout)]
      rfl
  · obtain ⟨⟨len, h1, h2, h3, h4, h5, h6⟩, -⟩ := id h
    have hd7 : ∀ r, (fX0_append F (nI n) S).bind (fun q3 : Int32 × gS => if q3.1 = 0 then (some ((-4 : Int32), q3.2)) else (some ((g_I q3.2 1 1), q3.2))) = r → fX7_type F (nI n) S = r := fun r hr => by
      unfold fX7_type
      rw [if_neg (nI_pos (by omega)), if_pos (show nI n ≤ (255 : Int32) from nI_le (b := 255) hn (by decide))]
      exact hr
    by_cases q : len = 75
    · subst q
      refine ⟨-4, S, T, hd7 _ ?_, ?_, h, fun _ _ _ => rfl, fun _ _ _ => rfl, rfl⟩
      · unfold fX0_append
        rw [if_neg (by show ¬ S.1 1 1 < 75; rw [h2]; decide)]; rfl
      · unfold fX8_type
        rw [in_in (n := 255) (by decide) (by decide) hn]
        simp only [Option.bind_some]
        rw [if_neg (by decide), if_pos (by show T.1 51 6 = 75; rw [h3]; rfl)]
    · have hS1 : (g_setI (g_setI S 2 len (nI n)) 1 1 (nI (len + 1))).1 1 1 = nI (len + 1) := rI_same _ _ _ _
      obtain ⟨S', p1, p2, p3, p4⟩ := parse_spec (F := F) (len := len + 1) hF (by omega) hS1
      have hrow : ∀ k, S'.1 2 k = if k = len then nI n else S.1 2 k := fun k => by
        rw [p2.1 2 k (Or.inl (by decide)), rI_ne _ _ (Or.inl (by decide))]
        by_cases qk : k = len
        · subst qk; rw [rI_same, if_pos rfl]
        · rw [rI_ne _ _ (Or.inr qk), if_neg qk]
      have h11 : S'.1 1 1 = nI (len + 1) := by rw [p2.1 1 1 (Or.inr (by decide))]; exact hS1
      obtain ⟨i1, i2, i3⟩ := InvT.of (S' := S') (T' := g_setI (g_setI T 56 len (nI n)) 51 6 (nI (len + 1))) h (fun i k a b => by rw [p2.1 i k (Or.inl a), rI_ne _ _ (Or.inl a), rI_ne _ _ (Or.inl b)]) (fun i k a => by rw [p2.2 i k (Or.inl a)]; rfl) (fun i k a b => by rw [rI_ne _ _ b, rI_ne _ _ (Or.inl a)]) rfl ⟨len + 1, by omega, h11, rI_same _ _ _ _, fun k hk => by
        rw [hrow, rI_ne _ _ (Or.inl (by decide))]
        by_cases qk : k = len
        · subst qk; rw [if_pos rfl, rI_same]
        · rw [if_neg qk, rI_ne _ _ (Or.inr qk)]; exact h4 k (by omega), p3, p4⟩
      refine ⟨nI (len + 1), S', _, hd7 _ ?_, ?_, i1, i2, i3⟩
      · unfold fX0_append
        rw [if_pos (by show S.1 1 1 < 75; rw [h2]; exact nI_lt (b := 75) (by omega) (by decide)), show g_I S 1 1 = nI len from h2, chk_nI (show len < 75 by omega) (by decide), nI_clamp (by omega)]
        simp only [gl_def]
        have x1 : g_I (g_setI S 2 len (nI n)) 1 1 = nI len := by show (g_setI _ _ _ _).1 _ _ = _; rw [rI_ne _ _ (Or.inl (by decide))]; exact h2
        rw [x1, nI_1, p1]
        simp only [Option.bind_some]
        rw [if_neg (by decide), show g_I S' 1 1 = nI (len + 1) from h11]
      · unfold fX8_type
        rw [in_in (n := 255) (by decide) (by decide) hn]
        simp only [Option.bind_some]
        rw [if_neg (by decide), if_neg (by show ¬ T.1 51 6 = 75; rw [h3]; exact fun z => q (nI_inj (b := 75) (by omega) (by decide) z)), show g_I T 51 6 = nI len from h3, chk_nI (show len < 75 by omega) (by decide), nI_clamp (by omega)]
        simp only [gl_def]
        have x1 : g_I (g_setI T 56 len (nI n)) 51 6 = nI len := by show (g_setI _ _ _ _).1 _ _ = _; rw [rI_ne _ _ (Or.inl (by decide))]; exact h3
        rw [x1, nI_1, show g_I (g_setI (g_setI T 56 len (nI n)) 51 6 (nI (len + 1))) 51 6 = nI (len + 1) from rI_same _ _ _ _]
theorem op_wipe {F : Nat} (hF : 100 < F) : Op Int32 (fX7_wipe F) (fX8_wipe F) := by
  intro S T h
  obtain ⟨⟨len, h1, h2, h3, h4, h5, h6⟩, -⟩ := id h
  have hS1 : (g_setI S 1 1 0).1 1 1 = nI 0 := rI_same _ _ _ _
  obtain ⟨S', p1, p2, p3, p4⟩ := parse_spec (F := F) (len := 0) hF (by omega) hS1
  have h11 : S'.1 1 1 = nI 0 := by rw [p2.1 1 1 (Or.inr (by decide))]; exact hS1
  obtain ⟨i1, i2, i3⟩ := InvT.of (S' := S') (T' := g_setI T 51 6 0) h (fun i k a b => by rw [p2.1 i k (Or.inl a), rI_ne _ _ (Or.inl a)]) (fun i k a => by rw [p2.2 i k (Or.inl a)]; rfl) (fun i k a b => rI_ne _ _ b) rfl ⟨0, by omega, h11, rI_same _ _ _ _, fun k hk => by omega, p3, p4⟩
  refine ⟨nI len, S', _, ?_, ?_, i1, i2, i3⟩
  · unfold fX7_wipe fX0_empty
    simp only [gl_def]
    rw [p1, show g_I S 1 1 = nI len from h2]; rfl
  · unfold fX8_wipe
    simp only [gl_def]
    rw [show g_I T 51 6 = nI len from h3]
theorem op_fault {F : Nat} (hF : 100 < F) : Op Int32 (fX7_fault F) (fX8_fault F) := Op.try (fun S T h => by
  obtain ⟨T1, r1, r2, r3, r4⟩ := reads_rel (F := F) hF h.1
  refine ⟨S.1 1 2, S, T1, rfl, ?_, FC.rf S, fun i k hp => r2 i k (by unfold per at hp; omega), r3⟩
  unfold fX8_fault
  rw [r1]; rfl)

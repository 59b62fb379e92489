/-! cell, clear, walker, gone -/
theorem kindOf0_spec (F : Nat) {c : Nat} (hc : c < 64) (S : gS) : fX0_kindOf F (nI c) S = some (if hb (S.2 1 3) c then 1 else if hb (S.2 1 4) c then 2 else 0, S) := by
  unfold fX0_kindOf
  rw [has_spec F _ hc]
  simp only [Option.bind_some]
  by_cases q1 : hb (S.2 1 3) c = true
  · simp only [hasV, q1, if_true]; rfl
  · have q1' : hb (S.2 1 3) c = false := by simpa using q1
    rw [if_pos (hasV_0.mpr q1'), has_spec F _ hc]
    simp only [Option.bind_some]
    by_cases q2 : hb (S.2 1 4) c = true
    · simp [hasV, q1', q2]
    · have q2' : hb (S.2 1 4) c = false := by simpa using q2
      simp [hasV, q1', q2']
theorem out_ne {a : Int32} {n j : Nat} (hn : n < 1000) (h : a < 0 ∨ nI n ≤ a) (hj : j < n) : ¬ a = nI j := fun z => by
  subst z
  rcases h with h | h
  · exact nI_pos (by omega) h
  · exact nI_ge hj (by omega) h
theorem op_cell {F : Nat} (hF : 100 < F) (a b : Int32) : Op Int32 (fX7_cell F a b) (fX8_cell F a b) := Op.try (fun S T h => by
  rcases three a (n := 64) (by decide) with hout | ⟨c, hc, rfl⟩
  · refine ⟨-2, S, T, ?_, ?_, FC.rf S, FM.rf T⟩
    · unfold fX7_cell; rw [cell7_out F hout]; rfl
    · unfold fX8_cell; rw [cell8_out F hout]; rfl
  · rcases three b (n := 5) (by decide) with hout | ⟨j, hj, rfl⟩
    · refine ⟨-2, S, T, ?_, ?_, FC.rf S, FM.rf T⟩
      · unfold fX7_cell
        rw [cell7_in F hc]
        simp only [Option.bind_some]
        rw [if_neg (by decide), if_neg (show ¬ b = (0 : Int32) from out_ne (j := 0) (by decide) hout (by decide)), if_neg (show ¬ b = (1 : Int32) from out_ne (j := 1) (by decide) hout (by decide)), if_neg (show ¬ b = (2 : Int32) from out_ne (j := 2) (by decide) hout (by decide)), if_neg (show ¬ b = (3 : Int32) from out_ne (j := 3) (by decide) hout (by decide)), if_neg (show ¬ b = (4 : Int32) from out_ne (j := 4) (by decide) hout (by decide))]
      · unfold fX8_cell
        rw [cell8_in F hc]
        simp only [Option.bind_some]
        rw [if_neg (by decide), in_out (n := 4) (by decide) (by decide) hout]
        rfl
    · obtain ⟨T1, r1, r2, r3, r4⟩ := reads_rel (F := F) hF h.1
      obtain ⟨⟨w, _, w2, w3⟩, ⟨p, _, p2, p3⟩, ⟨i, _, i2, i3⟩, e7, -⟩ := h.2.1 c hc
      have hfm : FM T T1 := ⟨fun i k hp => r2 i k (by unfold per at hp; omega), r3⟩
      have h8 : ∀ v, fX8_cellOf F (nI c) (nI j) T = some (v, T1) → fX8_cell F (nI c) (nI j) T = some (v, T1) := fun v hv => by
        unfold fX8_cell
        rw [cell8_in F hc]
        simp only [Option.bind_some]
        rw [if_neg (by decide), in_in (n := 4) (by decide) (by decide) (by omega)]
        simp only [Option.bind_some]
        rw [if_neg (by decide), hv]; rfl
      have h80 : fX8_cellOf F (nI c) (nI j) T = (if nI j = 0 then some (T1.1 57 c, T1) else if nI j = 1 then some (T1.1 58 c, T1) else if nI j = 2 then some (T1.1 59 c, T1) else if nI j = 3 then some (T1.1 60 c, T1) else some (T1.1 61 c, T1)) := by
        unfold fX8_cellOf
        rw [r1]
        simp only [Option.bind_some, chk_nI hc (show 64 < 2 ^ 31 by decide), nI_clamp (show c < 2 ^ 31 by omega)]
      have h7 : fX7_cell F (nI c) (nI j) S = (if nI j = 0 then some (if hb (S.2 1 3) c then 1 else if hb (S.2 1 4) c then 2 else 0, S) else if nI j = 1 then some (S.1 4 c, S) else if nI j = 2 then some (S.1 5 c, S) else if nI j = 3 then some (S.1 6 c, S) else if nI j = 4 then some (S.1 7 c, S) else some (-2, S)) := by
        unfold fX7_cell
        rw [cell7_in F hc]
        simp only [Option.bind_some, chk_nI hc (show 64 < 2 ^ 31 by decide), nI_clamp (show c < 2 ^ 31 by omega), kindOf0_spec F hc]
        rw [if_neg (by decide)]
      rw [r2 58 c (by decide), r2 59 c (by decide), r2 60 c (by decide), r2 61 c (by decide), r4 c hc] at h80
      rcases (show j = 0 ∨ j = 1 ∨ j = 2 ∨ j = 3 ∨ j = 4 by omega) with rfl | rfl | rfl | rfl | rfl
      · exact ⟨_, S, T1, h7, h8 _ h80, FC.rf S, hfm⟩
      · exact ⟨_, S, T1, h7, h8 _ (by rw [h80, w2]; exact congrArg (fun v => some (v, T1)) w3), FC.rf S, hfm⟩
      · exact ⟨_, S, T1, h7, h8 _ (by rw [h80, p2]; exact congrArg (fun v => some (v, T1)) p3), FC.rf S, hfm⟩
      · exact ⟨_, S, T1, h7, h8 _ (by rw [h80, i2]; exact congrArg (fun v => some (v, T1)) i3), FC.rf S, hfm⟩
      · exact ⟨_, S, T1, h7, h8 _ (by rw [h80, e7]; rfl), FC.rf S, hfm⟩)
theorem op_clear {F : Nat} (hF : 100 < F) (a b : Int32) : Op Int32 (fX7_clear F a b) (fX8_clear F a b) := by
  intro S T h
  have bad : fX7_clear F a b S = some (-2, S) → fX8_clear F a b T = some (-2, T) → ∃ r S' T', fX7_clear F a b S = some (r, S') ∧ fX8_clear F a b T = some (r, T') ∧ Inv S' T' ∧ CK S S' ∧ MK T T' := fun h1 h2 => ⟨-2, S, T, h1, h2, h, fun _ _ _ => rfl, fun _ _ _ => rfl, rfl⟩
  rcases three a (n := 64) (by decide) with hout | ⟨c, hc, rfl⟩
  · apply bad
    · unfold fX7_clear; rw [cell7_out F hout]; rfl
    · unfold fX8_clear; rw [cell8_out F hout]; rfl
  · rcases ten_cases b 3 (by decide) with hout | ⟨d, hd, rfl⟩
    · apply bad
      · unfold fX7_clear
        rw [cell7_in F hc]
        simp only [Option.bind_some]
        rw [if_neg (by decide)]
        rcases hout with h1 | ⟨h1, h2⟩
        · rw [if_pos h1]
        · rw [if_neg h1, if_neg (show ¬ b ≤ (3 : Int32) from h2)]
      · unfold fX8_clear
        rw [cell8_in F hc]
        simp only [Option.bind_some]
        rw [if_neg (by decide), in_out (n := 3) (by decide) (by decide) (out_of (by decide) hout)]
        rfl
    · obtain ⟨T1, r1, r2, r3, r4⟩ := reads_rel (F := F) hF h.1
      have hfm : FM T T1 := ⟨fun i k hp => r2 i k (by unfold per at hp; omega), r3⟩
      have hI1 : Inv S T1 := h.fr (FC.rf S) hfm
      have h7 : fX7_clear F (nI c) (nI d) S = (if oI (nb c d) = -1 then some (-3, S) else (if hasV (S.2 1 3) c = 0 then ((fX7_has F (S.2 1 3) (oI (nb c d)) S).bind (fun q10 : Int32 × gS => if q10.1 = 0 then ((fX1_shovel F (nI c) (oI (nb c d)) q10.2).bind (fun q12 : Int32 × gS => some (q12.1, q12.2))) else (some ((-3 : Int32), q10.2)))) else some (-3, S))) := by
        unfold fX7_clear
        rw [cell7_in F hc]
        simp only [Option.bind_some]
        rw [if_neg (by decide), if_neg (nI_pos (by omega)), if_pos (show nI d ≤ (3 : Int32) from nI_le (b := 3) hd (by decide)), bes_spec F hc (by omega)]
        simp only [Option.bind_some, gl_def, has_spec F _ hc]
      have w1 : ∀ x, x < 64 → (T1.1 57 x = 1 ↔ hb (S.2 1 3) x = true) := fun x hx => by
        rw [r4 x hx]
        by_cases q : hb (S.2 1 3) x = true
        · simp [q]
        · have q' : hb (S.2 1 3) x = false := by simpa using q
          rw [q']; simp; split <;> decide
      have h8 : fX8_clear F (nI c) (nI d) T = (if T1.1 57 c = 1 then some (-3, T1) else if oI (nb c d) = -1 then some (-3, T1) else (g_chk (oI (nb c d)) 64 (if (g_I T1 57 (oI (nb c d)).toNatClampNeg) = (1 : Int32) then (some ((-3 : Int32), T1)) else (gl ((g_I T1 58 c) + (g_I T1 59 c)) (fun v15 : Int32 => (gl (g_setI T1 58 c (0 : Int32)) (fun S17 : gS => (gl (g_setI S17 59 c (0 : Int32)) (fun S19 : gS => g_chk (oI (nb c d)) 64 ((fX8_least F ((g_I S19 58 (oI (nb c d)).toNatClampNeg) + v15) (30 : Int32) S19).bind (fun q21 : Int32 × gS => g_chk (oI (nb c d)) 64 (gl (g_setI q21.2 58 (oI (nb c d)).toNatClampNeg q21.1) (fun S23 : gS => some (v15, S23)))))))))))))) := by
        unfold fX8_clear
        rw [cell8_in F hc]
        simp only [Option.bind_some]
        rw [if_neg (by decide), in_in (n := 3) (by decide) (by decide) hd]
        simp only [Option.bind_some]
        rw [if_neg (by decide), r1]
        simp only [Option.bind_some]
        rw [nxt_spec F hc (by omega)]
        simp only [Option.bind_some, gl_def, chk_nI hc (show 64 < 2 ^ 31 by decide), nI_clamp (show c < 2 ^ 31 by omega)]
      have noway : fX7_clear F (nI c) (nI d) S = some (-3, S) → fX8_clear F (nI c) (nI d) T = some (-3, T1) → ∃ r S' T', fX7_clear F (nI c) (nI d) S = some (r, S') ∧ fX8_clear F (nI c) (nI d) T = some (r, T') ∧ Inv S' T' ∧ CK S S' ∧ MK T T' := fun h1 h2 => ⟨-3, S, T1, h1, h2, hI1, fun _ _ _ => rfl, hfm.mk⟩
      cases hn : nb c d with
      | none =>
        apply noway
        · rw [h7, hn]; rfl
        · rw [h8, hn]; simp [oI]
      | some n =>
        have hn64 := nb_lt hc hn
        have hne : ¬ nI n = -1 := nI_nm1 (by omega)
        have hcn : n ≠ c := nb_ne hn
        rw [hn] at h7 h8
        rw [show oI (some n) = nI n from rfl] at h7 h8
        rw [if_neg hne, has_spec F _ hn64] at h7
        simp only [Option.bind_some] at h7
        rw [if_neg hne, chk_nI hn64 (by decide), nI_clamp (by omega)] at h8
        by_cases q1 : hb (S.2 1 3) c = true
        · apply noway
          · rw [h7]; simp [hasV, q1]
          · rw [h8, if_pos ((w1 c hc).mpr q1)]
        · have q1' : hb (S.2 1 3) c = false := by simpa using q1
          rw [if_pos (hasV_0.mpr q1')] at h7
          rw [if_neg (fun z => q1 ((w1 c hc).mp z))] at h8
          by_cases q2 : hb (S.2 1 3) n = true
          · apply noway
            · rw [h7]; simp [hasV, q2]
            · rw [h8, if_pos ((w1 n hn64).mpr q2)]
          · have q2' : hb (S.2 1 3) n = false := by simpa using q2
            rw [if_pos (hasV_0.mpr q2')] at h7
            rw [if_neg (fun z => q2 ((w1 n hn64).mp z))] at h8
            obtain ⟨⟨w, w1', w2, w3⟩, ⟨p, p1, p2, p3⟩, -⟩ := hI1.2.1 c hc
            obtain ⟨⟨v, v1, v2, v3⟩, -⟩ := hI1.2.1 n hn64
            have hG2 := ((hI1.2.1.s4 (c := c) (v := 0) (by omega)).s5 (c := c) (v := 0) (by omega)).s4 (c := n) (v := min (v + (w + p)) 30) (by omega)
            obtain ⟨i1, i2, i3⟩ := InvG.of hI1 ((FG.set ⟨by decide, by decide⟩).tr ((FG.set ⟨by decide, by decide⟩).tr (FG.set ⟨by decide, by decide⟩))) ((GM.set ⟨by decide, by decide⟩).tr ((GM.set ⟨by decide, by decide⟩).tr (GM.set ⟨by decide, by decide⟩))) hG2
            refine ⟨nI (w + p), _, _, ?_, ?_, i1, i2, hfm.mk.tr i3⟩
            · rw [h7]
              unfold fX1_shovel
              simp only [gl_def, chk_nI hc (show 64 < 2 ^ 31 by decide), nI_clamp (show c < 2 ^ 31 by omega), chk_nI hn64 (show 64 < 2 ^ 31 by decide), nI_clamp (show n < 2 ^ 31 by omega)]
              rw [show g_I S 4 c = nI w from w2, show g_I S 5 c = nI p from p2, nI_add]
              have x1 : g_I (g_setI (g_setI S 4 c 0) 5 c 0) 4 n = nI v := by show (g_setI _ _ _ _).1 _ _ = _; rw [rI_ne _ _ (Or.inl (by decide)), rI_ne _ _ (Or.inr hcn)]; exact v2
              rw [x1, nI_add, min30 (by omega)]
              rfl
            · rw [h8]
              simp only [gl_def]
              rw [show g_I T1 58 c = nI w from w3, show g_I T1 59 c = nI p from p3, nI_add]
              have x1 : g_I (g_setI (g_setI T1 58 c 0) 59 c 0) 58 n = nI v := by show (g_setI _ _ _ _).1 _ _ = _; rw [rI_ne _ _ (Or.inl (by decide)), rI_ne _ _ (Or.inr hcn)]; exact v3
              simp only [chk_nI hn64 (show 64 < 2 ^ 31 by decide), nI_clamp (show n < 2 ^ 31 by omega)]
              rw [x1, nI_add, least30 F (by omega)]
              rfl
theorem InvW.of {S S' T T' : gS} (h : Inv S T) (hc : ∀ i k, i ≠ 10 → i ≠ 11 → (i ≠ 9 ∨ k ≠ 2) → S'.1 i k = S.1 i k) (hc2 : S'.2 = S.2) (hm : ∀ i k, i ≠ 62 → i ≠ 63 → (i ≠ 51 ∨ k ≠ 12) → T'.1 i k = T.1 i k) (hm2 : T'.2 = T.2) (hW : InvW S' T') : Inv S' T' ∧ CK S S' ∧ MK T T' := by
  obtain ⟨⟨len, h1, h2, h3, h4, h5, h6⟩, hG, -, hS, hf⟩ := h
  have c2 : S'.1 2 = S.1 2 := by funext k; exact hc 2 k (by decide) (by decide) (by omega)
  refine ⟨⟨⟨len, h1, ?_, ?_, fun k hk => ?_, ?_, fun x hx => ?_⟩, fun x hx => ?_, hW, fun s hs => ?_, ?_⟩, fun i k hi => hc i k (by omega) (by omega) (by omega), fun i k hi => hm i k (by omega) (by omega) (by omega), hm2⟩
  · rw [hc 1 1 (by decide) (by decide) (by omega)]; exact h2
  · rw [hm 51 6 (by decide) (by decide) (by omega)]; exact h3
  · rw [hc 2 k (by decide) (by decide) (by omega), hm 56 k (by decide) (by decide) (by omega)]; exact h4 k hk
  · rw [c2, hc 1 2 (by decide) (by decide) (by omega)]; exact h5
  · rw [hc2, hc 1 2 (by decide) (by decide) (by omega), hc 2 _ (by decide) (by decide) (by omega)]; exact h6 x hx
  · rw [hc 4 x (by decide) (by decide) (by omega), hc 5 x (by decide) (by decide) (by omega), hc 6 x (by decide) (by decide) (by omega), hc 7 x (by decide) (by decide) (by omega), hc 8 x (by decide) (by decide) (by omega), hm 58 x (by decide) (by decide) (by omega), hm 59 x (by decide) (by decide) (by omega), hm 60 x (by decide) (by decide) (by omega), hm 61 x (by decide) (by decide) (by omega)]; exact hG x hx
  · have e1 : ∀ k, S'.1 (43 + 2 * s) k = S.1 (43 + 2 * s) k := fun k => hc _ k (by omega) (by omega) (by omega)
    have e2 : ∀ k, S'.1 (44 + 2 * s) k = S.1 (44 + 2 * s) k := fun k => hc _ k (by omega) (by omega) (by omega)
    rw [e1, e1, hm 52 s (by decide) (by decide) (by omega), hm 53 s (by decide) (by decide) (by omega)]
    obtain ⟨a, b | ⟨f, n, b1, b2, b3, b4, b5, b6⟩⟩ := hS s hs
    · exact ⟨a, Or.inl b⟩
    · exact ⟨a, Or.inr ⟨f, n, b1, b2, b3, b4, b5, fun i hi => by rw [e2, hm 54 _ (by decide) (by decide) (by omega)]; exact b6 i hi⟩⟩
  · rw [hc 0 7 (by decide) (by decide) (by omega), hm 51 4 (by decide) (by decide) (by omega)]; exact hf
theorem op_gone {F : Nat} : Op Int32 (fX7_gone F) (fX8_gone F) := by
  intro S T h
  obtain ⟨-, -, ⟨nW, w1, w2, w3, w4⟩, -⟩ := id h
  obtain ⟨i1, i2, i3⟩ := InvW.of (S' := g_setI S 9 2 0) (T' := g_setI T 51 12 0) h (fun i k _ _ a => rI_ne _ _ a) rfl (fun i k _ _ a => rI_ne _ _ a) rfl ⟨0, by omega, rI_same _ _ _ _, rI_same _ _ _ _, fun w hw => by omega⟩
  refine ⟨nI nW, _, _, ?_, ?_, i1, i2, i3⟩
  · unfold fX7_gone; simp only [gl_def]; rw [show g_I S 9 2 = nI nW from w2]
  · unfold fX8_gone; simp only [gl_def]; rw [show g_I T 51 12 = nI nW from w3]
theorem op_walker {F : Nat} (a b : Int32) : Op Int32 (fX7_walker F a b) (fX8_walker F a b) := by
  intro S T h
  have bad : fX7_walker F a b S = some (-2, S) → fX8_walker F a b T = some (-2, T) → ∃ r S' T', fX7_walker F a b S = some (r, S') ∧ fX8_walker F a b T = some (r, T') ∧ Inv S' T' ∧ CK S S' ∧ MK T T' := fun h1 h2 => ⟨-2, S, T, h1, h2, h, fun _ _ _ => rfl, fun _ _ _ => rfl, rfl⟩
  rcases three a (n := 64) (by decide) with hout | ⟨c, hc, rfl⟩
  · apply bad
    · unfold fX7_walker; rw [cell7_out F hout]; rfl
    · unfold fX8_walker; rw [cell8_out F hout]; rfl
  · rcases three b (n := 64) (by decide) with hout | ⟨d, hd, rfl⟩
    · apply bad
      · unfold fX7_walker; rw [cell7_in F hc]; simp only [Option.bind_some]; rw [if_neg (by decide), cell7_out F hout]; rfl
      · unfold fX8_walker; rw [cell8_in F hc]; simp only [Option.bind_some]; rw [if_neg (by decide), cell8_out F hout]; rfl
    · obtain ⟨-, -, ⟨nW, w1, w2, w3, w4⟩, -⟩ := id h
      have h7 : fX7_walker F (nI c) (nI d) S = (fX6_join F (nI c) (nI d) S).bind (fun q5 : Int32 × gS => if q5.1 = 0 then (some ((-4 : Int32), q5.2)) else (some (((g_I q5.2 9 2) - (1 : Int32)), q5.2))) := by
        unfold fX7_walker; rw [cell7_in F hc]; simp only [Option.bind_some]; rw [if_neg (by decide), cell7_in F hd]; simp only [Option.bind_some]; rw [if_neg (by decide)]
      by_cases q : nW = 8
      · subst q
        refine ⟨-4, S, T, ?_, ?_, h, fun _ _ _ => rfl, fun _ _ _ => rfl, rfl⟩
        · rw [h7]; unfold fX6_join; rw [if_neg (by show ¬ S.1 9 2 < 8; rw [w2]; decide)]; rfl
        · unfold fX8_walker; rw [cell8_in F hc]; simp only [Option.bind_some]; rw [if_neg (by decide), cell8_in F hd]; simp only [Option.bind_some]; rw [if_neg (by decide), if_pos (by show T.1 51 12 = 8; rw [w3]; rfl)]
      · obtain ⟨i1, i2, i3⟩ := InvW.of (S' := g_setI (g_setI (g_setI S 10 nW (nI c)) 11 nW (nI d)) 9 2 (nI (nW + 1))) (T' := g_setI (g_setI (g_setI T 62 nW (nI c)) 63 nW (nI d)) 51 12 (nI (nW + 1))) h (fun i k x y a => by rw [rI_ne _ _ a, rI_ne _ _ (Or.inl y), rI_ne _ _ (Or.inl x)]) rfl (fun i k x y a => by rw [rI_ne _ _ a, rI_ne _ _ (Or.inl y), rI_ne _ _ (Or.inl x)]) rfl ⟨nW + 1, by omega, rI_same _ _ _ _, rI_same _ _ _ _, fun w hw => by
          by_cases qw : w = nW
          · subst qw
            refine ⟨c, d, hc, hd, ?_, ?_, ?_, ?_⟩
            · rw [rI_ne _ _ (Or.inl (by decide)), rI_ne _ _ (Or.inl (by decide)), rI_same]
            · rw [rI_ne _ _ (Or.inl (by decide)), rI_ne _ _ (Or.inl (by decide)), rI_same]
            · rw [rI_ne _ _ (Or.inl (by decide)), rI_same]
            · rw [rI_ne _ _ (Or.inl (by decide)), rI_same]
          · obtain ⟨x, y, a1, a2, a3, a4, a5, a6⟩ := w4 w (by omega)
            refine ⟨x, y, a1, a2, ?_, ?_, ?_, ?_⟩
            · rw [rI_ne _ _ (Or.inl (by decide)), rI_ne _ _ (Or.inl (by decide)), rI_ne _ _ (Or.inr qw)]; exact a3
            · rw [rI_ne _ _ (Or.inl (by decide)), rI_ne _ _ (Or.inl (by decide)), rI_ne _ _ (Or.inr qw)]; exact a4
            · rw [rI_ne _ _ (Or.inl (by decide)), rI_ne _ _ (Or.inr qw), rI_ne _ _ (Or.inl (by decide))]; exact a5
            · rw [rI_ne _ _ (Or.inl (by decide)), rI_ne _ _ (Or.inr qw), rI_ne _ _ (Or.inl (by decide))]; exact a6⟩
        refine ⟨nI nW, _, _, ?_, ?_, i1, i2, i3⟩
        · rw [h7]; unfold fX6_join
          rw [if_pos (by show S.1 9 2 < 8; rw [w2]; exact nI_lt (b := 8) (by omega) (by decide)), show g_I S 9 2 = nI nW from w2, chk_nI (show nW < 8 by omega) (by decide), nI_clamp (by omega)]
          simp only [gl_def]
          have x1 : g_I (g_setI S 10 nW (nI c)) 9 2 = nI nW := by show (g_setI _ _ _ _).1 _ _ = _; rw [rI_ne _ _ (Or.inl (by decide))]; exact w2
          rw [x1, chk_nI (show nW < 8 by omega) (by decide), nI_clamp (by omega)]
          have x2 : g_I (g_setI (g_setI S 10 nW (nI c)) 11 nW (nI d)) 9 2 = nI nW := by show (g_setI _ _ _ _).1 _ _ = _; rw [rI_ne _ _ (Or.inl (by decide)), rI_ne _ _ (Or.inl (by decide))]; exact w2
          rw [x2, nI_1]
          simp only [Option.bind_some]
          rw [if_neg (by decide), show g_I (g_setI (g_setI (g_setI S 10 nW (nI c)) 11 nW (nI d)) 9 2 (nI (nW + 1))) 9 2 = nI (nW + 1) from rI_same _ _ _ _, nI_pred]
        · unfold fX8_walker; rw [cell8_in F hc]; simp only [Option.bind_some]; rw [if_neg (by decide), cell8_in F hd]; simp only [Option.bind_some]
          rw [if_neg (by decide), if_neg (by show ¬ T.1 51 12 = 8; rw [w3]; exact fun z => q (nI_inj (b := 8) (by omega) (by decide) z)), show g_I T 51 12 = nI nW from w3, chk_nI (show nW < 8 by omega) (by decide), nI_clamp (by omega)]
          simp only [gl_def]
          have x1 : g_I (g_setI T 62 nW (nI c)) 51 12 = nI nW := by show (g_setI _ _ _ _).1 _ _ = _; rw [rI_ne _ _ (Or.inl (by decide))]; exact w3
          rw [x1, chk_nI (show nW < 8 by omega) (by decide), nI_clamp (by omega)]
          have x2 : g_I (g_setI (g_setI T 62 nW (nI c)) 63 nW (nI d)) 51 12 = nI nW := by show (g_setI _ _ _ _).1 _ _ = _; rw [rI_ne _ _ (Or.inl (by decide)), rI_ne _ _ (Or.inl (by decide))]; exact w3
          rw [x2, nI_1, show g_I (g_setI (g_setI (g_setI T 62 nW (nI c)) 63 nW (nI d)) 51 12 (nI (nW + 1))) 51 12 = nI (nW + 1) from rI_same _ _ _ _, nI_pred]

/-! a walk tried: the class's cells o, o + 1, o + 2 beside the reference's -/
def TR (o : Nat) (S T : gS) : Prop := (∀ c, c < 64 → S.1 (o + 1) c = T.1 64 c ∧ S.1 (o + 2) c = T.1 66 c ∧ ∃ w, w ≤ 30 ∧ T.1 64 c = nI w) ∧ S.1 o 4 = T.1 51 21 ∧ S.1 o 5 = T.1 51 22 ∧ S.1 o 6 = T.1 51 23
def MPr (sn pr : Nat → Nat) (T : gS) : Prop := ∀ c, c < 64 → ∃ w, (w ≤ sn c ∧ sn c ≤ 30) ∧ T.1 64 c = nI w ∧ T.1 65 c = nI (min 30 (pr c + (sn c - w)))
def Bd (B : Nat) (T : gS) : Prop := (∀ c, c < 64 → ∃ m, m ≤ B ∧ T.1 66 c = nI m) ∧ ∃ e, e ≤ 31 * B ∧ T.1 51 21 = nI e
/-- what is kept, and how often more a cell may have been come onto -/
def Kp (N : Nat) (T T' : gS) : Prop := (∀ sn pr, MPr sn pr T → MPr sn pr T') ∧ ∀ B, Bd B T → Bd (B + N) T'
theorem Bd.le {B B' : Nat} {T : gS} (h : Bd B T) (hB : B ≤ B') : Bd B' T := ⟨fun c hc => by
  obtain ⟨m, h1, h2⟩ := h.1 c hc
  exact ⟨m, by omega, h2⟩, by
  obtain ⟨e, h1, h2⟩ := h.2
  exact ⟨e, by omega, h2⟩⟩
theorem Kp.mk' {N : Nat} {T T' : gS} (h2 : ∀ B, Bd B T → Bd (B + N) T') (h1 : ∀ sn pr, MPr sn pr T → MPr sn pr T') : Kp N T T' := ⟨h1, h2⟩
theorem Kp.rf (T : gS) : Kp 0 T T := ⟨fun _ _ h => h, fun _ h => h⟩
theorem Kp.le {N N' : Nat} {T T' : gS} (h : Kp N T T') (hN : N ≤ N') : Kp N' T T' := ⟨h.1, fun B hB => (h.2 B hB).le (by omega)⟩
theorem Kp.tr {N1 N2 N : Nat} {T0 T1 T2 : gS} (h1 : Kp N1 T0 T1) (h2 : Kp N2 T1 T2) (hN : N1 + N2 ≤ N) : Kp N T0 T2 := ⟨fun sn pr h => h2.1 sn pr (h1.1 sn pr h), fun B hB => (h2.2 _ (h1.2 B hB)).le (by omega)⟩
theorem Kp_of {T T' : gS} (h : ∀ x, x < 64 → T'.1 64 x = T.1 64 x ∧ T'.1 65 x = T.1 65 x ∧ T'.1 66 x = T.1 66 x) (h21 : T'.1 51 21 = T.1 51 21) : Kp 0 T T' := ⟨fun sn pr hM x hx => by
  rw [(h x hx).1, (h x hx).2.1]; exact hM x hx, fun B hB => ⟨fun x hx => by rw [(h x hx).2.2]; exact hB.1 x hx, by rw [h21]; exact hB.2⟩⟩
/-- what a step may change -/
def FrTc (o : Nat) (S S' : gS) : Prop := (∀ i k, i ≠ o + 1 → i ≠ o + 2 → (i ≠ o ∨ (k ≠ 4 ∧ k ≠ 5)) → S'.1 i k = S.1 i k) ∧ S'.2 = S.2
def FrTm (T T' : gS) : Prop := (∀ i k, i ≠ 64 → i ≠ 65 → i ≠ 66 → (i ≠ 51 ∨ (k ≠ 21 ∧ k ≠ 22)) → T'.1 i k = T.1 i k) ∧ T'.2 = T.2
theorem FrTc.rf (o : Nat) (S : gS) : FrTc o S S := ⟨fun _ _ _ _ _ => rfl, rfl⟩
theorem FrTm.rf (S : gS) : FrTm S S := ⟨fun _ _ _ _ _ _ => rfl, rfl⟩
theorem FrTc.tr {o : Nat} {S0 S1 S2 : gS} (h1 : FrTc o S0 S1) (h2 : FrTc o S1 S2) : FrTc o S0 S2 := ⟨fun i k a b c => (h2.1 i k a b c).trans (h1.1 i k a b c), h2.2.trans h1.2⟩
theorem FrTm.tr {S0 S1 S2 : gS} (h1 : FrTm S0 S1) (h2 : FrTm S1 S2) : FrTm S0 S2 := ⟨fun i k a b c d => (h2.1 i k a b c d).trans (h1.1 i k a b c d), h2.2.trans h1.2⟩
theorem nI_sub1 {w : Nat} (h : 0 < w) : nI w - (1 : Int32) = nI (w - 1) := by
  obtain ⟨v, rfl⟩ : ∃ v, w = v + 1 := ⟨w - 1, by omega⟩
  rw [nI_pred]; rfl
theorem tread_rel {F o n : Nat} {S T : gS} (ho : 16 ≤ o ∧ o ≤ 39) (hn : n < 64) (h : TR o S T) :
    ∃ S' T', fX3_tread F o (nI n) S = some S' ∧ fX8_treads F (nI n) T = some T' ∧ TR o S' T' ∧ FrTc o S S' ∧ FrTm T T' ∧ Kp 1 T T' := by
  obtain ⟨h1, h2, h3, h4⟩ := h
  obtain ⟨a1, a2, w, a3, a4⟩ := h1 n hn
  have hcl : ∀ v : Nat, v < 2 ^ 31 → (nI v).toNatClampNeg = v := fun v hv => nI_clamp hv
  have ec : (nI n).toNatClampNeg = n := nI_clamp (by omega)
  by_cases hw : w = 0
  · subst hw
    refine ⟨g_setI (g_setI (g_setI S o 4 (S.1 o 4 + ((1 : Int32) + S.1 (o + 1) n))) o 5 (S.1 o 5 + 1)) (o + 2) n (S.1 (o + 2) n + 1), g_setI (g_setI (g_setI T 51 21 (T.1 51 21 + ((1 : Int32) + T.1 64 n))) 51 22 (T.1 51 22 + 1)) 66 n (T.1 66 n + 1), ?_, ?_, ?_, ?_, ?_, ?_⟩
    · unfold fX3_tread
      simp only [gl_def, chk_nI hn (show 64 < 2 ^ 31 by decide), ec]
      have e1 : g_I (g_setI S o 4 (g_I S o 4 + (1 + g_I S (o + 1) n))) o 5 = S.1 o 5 := rI_ne _ _ (Or.inr (by decide))
      have e2 : ∀ v, g_I (g_setI (g_setI S o 4 (g_I S o 4 + (1 + g_I S (o + 1) n))) o 5 v) (o + 2) n = S.1 (o + 2) n := fun v => by
        show (g_setI _ _ _ _).1 _ _ = _
        rw [rI_ne _ _ (Or.inl (by omega)), rI_ne _ _ (Or.inl (by omega))]
      rw [e1, e2]
      rw [if_pos]
      show (g_setI _ _ _ _).1 _ _ ≤ 0
      rw [rI_ne _ _ (Or.inl (by omega)), rI_ne _ _ (Or.inl (by omega)), rI_ne _ _ (Or.inl (by omega)), a1, a4]
      decide
    · unfold fX8_treads
      simp only [gl_def, chk_nI hn (show 64 < 2 ^ 31 by decide), ec]
      have e1 : g_I (g_setI T 51 21 (g_I T 51 21 + (1 + g_I T 64 n))) 51 22 = T.1 51 22 := rI_ne _ _ (Or.inr (by decide))
      have e2 : ∀ v, g_I (g_setI (g_setI T 51 21 (g_I T 51 21 + (1 + g_I T 64 n))) 51 22 v) 66 n = T.1 66 n := fun v => by
        show (g_setI _ _ _ _).1 _ _ = _
        rw [rI_ne _ _ (Or.inl (by decide)), rI_ne _ _ (Or.inl (by decide))]
      rw [e1, e2]
      rw [if_pos]
      show (g_setI _ _ _ _).1 _ _ ≤ 0
      rw [rI_ne _ _ (Or.inl (by decide)), rI_ne _ _ (Or.inl (by decide)), rI_ne _ _ (Or.inl (by decide)), a4]
      decide
    · refine ⟨fun c hc => ⟨?_, ?_, ?_⟩, ?_, ?_, ?_⟩
      · rw [rI_ne _ _ (Or.inl (by omega)), rI_ne _ _ (Or.inl (by omega)), rI_ne _ _ (Or.inl (by omega)), rI_ne _ _ (Or.inl (by decide)), rI_ne _ _ (Or.inl (by decide)), rI_ne _ _ (Or.inl (by decide))]; exact (h1 c hc).1
      · by_cases q : c = n
        · subst q; rw [rI_same, rI_same, a2]
        · rw [rI_ne _ _ (Or.inr q), rI_ne _ _ (Or.inl (by omega)), rI_ne _ _ (Or.inl (by omega)), rI_ne _ _ (Or.inr q), rI_ne _ _ (Or.inl (by decide)), rI_ne _ _ (Or.inl (by decide))]; exact (h1 c hc).2.1
      · rw [rI_ne _ _ (Or.inl (by decide)), rI_ne _ _ (Or.inl (by decide)), rI_ne _ _ (Or.inl (by decide))]; exact (h1 c hc).2.2
      · rw [rI_ne _ _ (Or.inl (by omega)), rI_ne _ _ (Or.inr (by decide)), rI_same, rI_ne _ _ (Or.inl (by decide)), rI_ne _ _ (Or.inr (by decide)), rI_same, h2, a1]
      · rw [rI_ne _ _ (Or.inl (by omega)), rI_same, rI_ne _ _ (Or.inl (by decide)), rI_same, h3]
      · rw [rI_ne _ _ (Or.inl (by omega)), rI_ne _ _ (Or.inr (by decide)), rI_ne _ _ (Or.inr (by decide)), rI_ne _ _ (Or.inl (by decide)), rI_ne _ _ (Or.inr (by decide)), rI_ne _ _ (Or.inr (by decide))]; exact h4
    · refine ⟨fun i k q1 q2 q3 => ?_, rfl⟩
      rw [rI_ne _ _ (Or.inl q2), rI_ne _ _ (q3.imp_right (fun z => z.2)), rI_ne _ _ (q3.imp_right (fun z => z.1))]
    · refine ⟨fun i k q1 q2 q3 q4 => ?_, rfl⟩
      rw [rI_ne _ _ (Or.inl q3), rI_ne _ _ (q4.imp_right (fun z => z.2)), rI_ne _ _ (q4.imp_right (fun z => z.1))]
    · apply Kp.mk' (fun B hB => ⟨fun c hc => by
        obtain ⟨m, b1, b2⟩ := hB.1 c hc
        by_cases q : c = n
        · subst q; exact ⟨m + 1, by omega, by rw [rI_same, b2, nI_1]⟩
        · exact ⟨m, by omega, by rw [rI_ne _ _ (Or.inr q), rI_ne _ _ (Or.inl (by decide)), rI_ne _ _ (Or.inl (by decide))]; exact b2⟩, by
        obtain ⟨e, b1, b2⟩ := hB.2
        exact ⟨e + (1 + 0), by omega, by rw [rI_ne _ _ (Or.inl (by decide)), rI_ne _ _ (Or.inr (by decide)), rI_same, b2, a4, show (1 : Int32) = nI 1 from rfl, nI_add, nI_add]⟩⟩)
      intro sn pr hM c hc
      obtain ⟨w, b1, b2, b3⟩ := hM c hc
      refine ⟨w, b1, ?_, ?_⟩
      · rw [rI_ne _ _ (Or.inl (by decide)), rI_ne _ _ (Or.inl (by decide)), rI_ne _ _ (Or.inl (by decide))]; exact b2
      · rw [rI_ne _ _ (Or.inl (by decide)), rI_ne _ _ (Or.inl (by decide)), rI_ne _ _ (Or.inl (by decide))]; exact b3
  · have hnw : ¬ nI w ≤ 0 := nI_nle (by omega) (by omega)
    refine ⟨g_setI (g_setI (g_setI (g_setI S o 4 (S.1 o 4 + ((1 : Int32) + S.1 (o + 1) n))) o 5 (S.1 o 5 + 1)) (o + 2) n (S.1 (o + 2) n + 1)) (o + 1) n (nI (w - 1)), g_setI (g_setI (g_setI (g_setI (g_setI T 51 21 (T.1 51 21 + ((1 : Int32) + T.1 64 n))) 51 22 (T.1 51 22 + 1)) 66 n (T.1 66 n + 1)) 64 n (nI (w - 1))) 65 n (if T.1 65 n + 1 < 30 then T.1 65 n + 1 else 30), ?_, ?_, ?_, ?_, ?_, ?_⟩
    · unfold fX3_tread
      simp only [gl_def, chk_nI hn (show 64 < 2 ^ 31 by decide), ec]
      have e1 : g_I (g_setI S o 4 (g_I S o 4 + (1 + g_I S (o + 1) n))) o 5 = S.1 o 5 := rI_ne _ _ (Or.inr (by decide))
      have e2 : ∀ v, g_I (g_setI (g_setI S o 4 (g_I S o 4 + (1 + g_I S (o + 1) n))) o 5 v) (o + 2) n = S.1 (o + 2) n := fun v => by
        show (g_setI _ _ _ _).1 _ _ = _
        rw [rI_ne _ _ (Or.inl (by omega)), rI_ne _ _ (Or.inl (by omega))]
      rw [e1, e2]
      have e3 : g_I (g_setI (g_setI (g_setI S o 4 (g_I S o 4 + (1 + g_I S (o + 1) n))) o 5 (S.1 o 5 + 1)) (o + 2) n (S.1 (o + 2) n + 1)) (o + 1) n = nI w := by
        show (g_setI _ _ _ _).1 _ _ = _
        rw [rI_ne _ _ (Or.inl (by omega)), rI_ne _ _ (Or.inl (by omega)), rI_ne _ _ (Or.inl (by omega)), a1, a4]
      rw [e3, if_neg hnw, nI_sub1 (by omega)]
    · unfold fX8_treads fX8_least
      simp only [gl_def, chk_nI hn (show 64 < 2 ^ 31 by decide), ec]
      have e1 : g_I (g_setI T 51 21 (g_I T 51 21 + (1 + g_I T 64 n))) 51 22 = T.1 51 22 := rI_ne _ _ (Or.inr (by decide))
      have e2 : ∀ v, g_I (g_setI (g_setI T 51 21 (g_I T 51 21 + (1 + g_I T 64 n))) 51 22 v) 66 n = T.1 66 n := fun v => by
        show (g_setI _ _ _ _).1 _ _ = _
        rw [rI_ne _ _ (Or.inl (by decide)), rI_ne _ _ (Or.inl (by decide))]
      rw [e1, e2]
      have e3 : g_I (g_setI (g_setI (g_setI T 51 21 (g_I T 51 21 + (1 + g_I T 64 n))) 51 22 (T.1 51 22 + 1)) 66 n (T.1 66 n + 1)) 64 n = nI w := by
        show (g_setI _ _ _ _).1 _ _ = _
        rw [rI_ne _ _ (Or.inl (by decide)), rI_ne _ _ (Or.inl (by decide)), rI_ne _ _ (Or.inl (by decide)), a4]
      rw [e3, if_neg hnw, nI_sub1 (by omega)]
      have e4 : g_I (g_setI (g_setI (g_setI (g_setI T 51 21 (g_I T 51 21 + (1 + g_I T 64 n))) 51 22 (T.1 51 22 + 1)) 66 n (T.1 66 n + 1)) 64 n (nI (w - 1))) 65 n = T.1 65 n := by
        show (g_setI _ _ _ _).1 _ _ = _
        rw [rI_ne _ _ (Or.inl (by decide)), rI_ne _ _ (Or.inl (by decide)), rI_ne _ _ (Or.inl (by decide)), rI_ne _ _ (Or.inl (by decide))]
      rw [e4]
      by_cases q : T.1 65 n + 1 < 30
      · rw [if_neg (fun z => absurd q (Int32.not_lt.mpr z)), if_pos q]; rfl
      · rw [if_pos (Int32.not_lt.mp q), if_neg q]; rfl
    · refine ⟨fun c hc => ⟨?_, ?_, ?_⟩, ?_, ?_, ?_⟩
      · rw [rI_ne _ (a := 64) _ (Or.inl (by decide))]
        by_cases q : c = n
        · subst q; rw [rI_same, rI_same]
        · rw [rI_ne _ _ (Or.inr q), rI_ne _ _ (Or.inl (by omega)), rI_ne _ _ (Or.inl (by omega)), rI_ne _ _ (Or.inl (by omega)), rI_ne _ _ (Or.inr q), rI_ne _ _ (Or.inl (by decide)), rI_ne _ _ (Or.inl (by decide)), rI_ne _ _ (Or.inl (by decide))]; exact (h1 c hc).1
      · rw [rI_ne _ (a := 66) _ (Or.inl (by decide)), rI_ne _ (a := 66) _ (Or.inl (by decide)), rI_ne _ (a := o + 2) _ (Or.inl (by omega))]
        by_cases q : c = n
        · subst q; rw [rI_same, rI_same, a2]
        · rw [rI_ne _ _ (Or.inr q), rI_ne _ _ (Or.inl (by omega)), rI_ne _ _ (Or.inl (by omega)), rI_ne _ _ (Or.inr q), rI_ne _ _ (Or.inl (by decide)), rI_ne _ _ (Or.inl (by decide))]; exact (h1 c hc).2.1
      · rw [rI_ne _ (a := 64) _ (Or.inl (by decide))]
        by_cases q : c = n
        · subst q; rw [rI_same]; exact ⟨w - 1, by omega, rfl⟩
        · rw [rI_ne _ _ (Or.inr q), rI_ne _ _ (Or.inl (by decide)), rI_ne _ _ (Or.inl (by decide)), rI_ne _ _ (Or.inl (by decide))]; exact (h1 c hc).2.2
      · rw [rI_ne _ _ (Or.inl (by omega)), rI_ne _ _ (Or.inl (by omega)), rI_ne _ _ (Or.inr (by decide)), rI_same, rI_ne _ _ (Or.inl (by decide)), rI_ne _ _ (Or.inl (by decide)), rI_ne _ _ (Or.inl (by decide)), rI_ne _ _ (Or.inr (by decide)), rI_same, h2, a1]
      · rw [rI_ne _ _ (Or.inl (by omega)), rI_ne _ _ (Or.inl (by omega)), rI_same, rI_ne _ _ (Or.inl (by decide)), rI_ne _ _ (Or.inl (by decide)), rI_ne _ _ (Or.inl (by decide)), rI_same, h3]
      · rw [rI_ne _ _ (Or.inl (by omega)), rI_ne _ _ (Or.inl (by omega)), rI_ne _ _ (Or.inr (by decide)), rI_ne _ _ (Or.inr (by decide)), rI_ne _ _ (Or.inl (by decide)), rI_ne _ _ (Or.inl (by decide)), rI_ne _ _ (Or.inl (by decide)), rI_ne _ _ (Or.inr (by decide)), rI_ne _ _ (Or.inr (by decide))]; exact h4
    · refine ⟨fun i k q1 q2 q3 => ?_, rfl⟩
      rw [rI_ne _ _ (Or.inl q1), rI_ne _ _ (Or.inl q2), rI_ne _ _ (q3.imp_right (fun z => z.2)), rI_ne _ _ (q3.imp_right (fun z => z.1))]
    · refine ⟨fun i k q1 q2 q3 q4 => ?_, rfl⟩
      rw [rI_ne _ _ (Or.inl q2), rI_ne _ _ (Or.inl q1), rI_ne _ _ (Or.inl q3), rI_ne _ _ (q4.imp_right (fun z => z.2)), rI_ne _ _ (q4.imp_right (fun z => z.1))]
    · apply Kp.mk' (fun B hB => ⟨fun c hc => by
        obtain ⟨m, b1, b2⟩ := hB.1 c hc
        by_cases q : c = n
        · subst q; exact ⟨m + 1, by omega, by rw [rI_ne _ _ (Or.inl (by decide)), rI_ne _ _ (Or.inl (by decide)), rI_same, b2, nI_1]⟩
        · exact ⟨m, by omega, by rw [rI_ne _ _ (Or.inl (by decide)), rI_ne _ _ (Or.inl (by decide)), rI_ne _ _ (Or.inr q), rI_ne _ _ (Or.inl (by decide)), rI_ne _ _ (Or.inl (by decide))]; exact b2⟩, by
        obtain ⟨e, b1, b2⟩ := hB.2
        exact ⟨e + (1 + w), by omega, by rw [rI_ne _ _ (Or.inl (by decide)), rI_ne _ _ (Or.inl (by decide)), rI_ne _ _ (Or.inl (by decide)), rI_ne _ _ (Or.inr (by decide)), rI_same, b2, a4, show (1 : Int32) = nI 1 from rfl, nI_add, nI_add]⟩⟩)
      intro sn pr hM c hc
      obtain ⟨w2, b1, b2, b3⟩ := hM c hc
      by_cases q : c = n
      · subst q
        have ew : w2 = w := by
          rw [a4] at b2
          exact (nI_inj (by omega) (by omega) b2).symm
        subst ew
        refine ⟨w2 - 1, by omega, ?_, ?_⟩
        · rw [rI_ne _ _ (Or.inl (by decide)), rI_same]
        · rw [rI_same, b3, nI_1, show (30 : Int32) = nI 30 from rfl]
          by_cases q5 : min 30 (pr c + (sn c - w2)) + 1 < 30
          · rw [if_pos (nI_lt q5 (by decide))]
            congr 1; omega
          · rw [if_neg (nI_nlt (by omega) (by omega))]
            congr 1; omega
      · refine ⟨w2, b1, ?_, ?_⟩
        · rw [rI_ne _ _ (Or.inl (by decide)), rI_ne _ _ (Or.inr q), rI_ne _ _ (Or.inl (by decide)), rI_ne _ _ (Or.inl (by decide)), rI_ne _ _ (Or.inl (by decide))]; exact b2
        · rw [rI_ne _ _ (Or.inr q), rI_ne _ _ (Or.inl (by decide)), rI_ne _ _ (Or.inl (by decide)), rI_ne _ _ (Or.inl (by decide)), rI_ne _ _ (Or.inl (by decide))]; exact b3

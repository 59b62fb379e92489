/-! one walk, both -/
def Ends : Nat → List Nat → Nat → Prop
  | c, [], z => c = z
  | c, n :: l, z => c ≠ z ∧ Ends n l z
theorem Ch_ends {op : Nat → Bool} {wt : Nat → Nat} {b : Nat} : ∀ {c : Nat} {l : List Nat}, Ch op wt b c l b → Ends c l b := by
  intro c l
  induction l generalizing c with
  | nil => exact fun h => h
  | cons n l ih => exact fun h => ⟨h.1, ih h.2.2⟩
noncomputable abbrev FB (F o : Nat) : ((Int64 × Int32 × Int32 × gS) → Option (Int32 × gS)) → (Int64 × Int32 × Int32 × gS) → Option (Int32 × gS) := fun k11 s => bX3_follow_11 F o k11 s.1 s.2.1 s.2.2.1 s.2.2.2
noncomputable abbrev MB (F : Nat) : ((Int32 × Int32 × Int32 × Int32 × Int32 × gS) → Option gS) → (Int32 × Int32 × Int32 × Int32 × Int32 × gS) → Option gS := fun k33 s => bX8_walks_33 F k33 s.1 s.2.1 s.2.2.1 s.2.2.2.1 s.2.2.2.2.1 s.2.2.2.2.2
noncomputable abbrev GB (F o : Nat) : ((Int32 × Int64 × Int32 × Int64 × Int32 × gS) → Option (Int32 × gS)) → (Int32 × Int64 × Int32 × Int64 × Int32 × gS) → Option (Int32 × gS) := fun k14 s => bX3_go_14 F o k14 s.1 s.2.1 s.2.2.1 s.2.2.2.1 s.2.2.2.2.1 s.2.2.2.2.2
theorem hidM_fr {T T' : gS} (h : FrTm T T') {c : Nat} : hidM T' c = hidM T c := by
  unfold hidM
  rw [h.1 57 c (by decide) (by decide) (by decide) (Or.inl (by decide)), h.1 51 19 (by decide) (by decide) (by decide) (Or.inr (by decide))]
theorem seg_rel {F o wi b : Nat} {hid : Int64} {bf : Int32} (ho : 16 ≤ o ∧ o ≤ 39) (hwi : wi < 8) (hb64 : b < 64) : ∀ (l : List Nat) (c k : Nat) (S T : gS),
    c < 64 → (∀ n, n ∈ l → n < 64) → Ends c l b → k + l.length ≤ 63 → S.1 12 3 = nI (k + l.length) → (∀ i (h : i < l.length), S.1 15 (k + i) = nI l[i] ∧ T.1 69 (k + i) = nI l[i]) →
    T.1 63 wi = nI b → (∀ n, n < 64 → hidM T n = hb hid n) → TR o S T →
    (∃ S' T', (∀ m, g_fix (FB F o) (m + l.length + 1) (hid, nI c, nI k, S) = some (nI b, S')) ∧ (∀ m, g_fix (MB F) (m + l.length) (nI wi, nI c, bf, 1, nI k, T) = g_fix (MB F) m (nI wi, nI b, bf, 1, nI (k + l.length), T')) ∧ TR o S' T' ∧ FrTc o S S' ∧ FrTm T T' ∧ Kp l.length T T') ∨
    (∃ c1 h j S' T', h < 64 ∧ hb hid h = true ∧ h ∈ l ∧ j < l.length ∧ c1 < 64 ∧ c1 ≠ b ∧ (c1 = c ∨ hb hid c1 = false) ∧ (∀ m, g_fix (FB F o) (m + j + 1) (hid, nI c, nI k, S) = some (nI c1, g_setI S' o 7 (nI h))) ∧ (∀ m, g_fix (MB F) (m + j) (nI wi, nI c, bf, 1, nI k, T) = g_fix (MB F) m (nI wi, nI c1, bf, 1, nI (k + j), T')) ∧ T'.1 69 (k + j) = nI h ∧ k + j < 64 ∧ TR o S' T' ∧ FrTc o S S' ∧ FrTm T T' ∧ Kp j T T') := by
  intro l
  induction l with
  | nil =>
    intro c k S T hc hl hE hk hlen hway hto hhid hTR
    simp only [Ends] at hE
    subst hE
    refine Or.inl ⟨S, T, fun m => ?_, fun m => rfl, hTR, FrTc.rf o S, FrTm.rf T, Kp.rf T⟩
    show bX3_follow_11 F o _ hid (nI c) (nI k) S = _
    unfold bX3_follow_11
    rw [if_pos (by show S.1 12 3 ≤ nI k; rw [hlen]; exact nI_le (by simp) (by omega))]
  | cons n l ih =>
    intro c k S T hc hl hE hk hlen hway hto hhid hTR
    have hn : n < 64 := hl n List.mem_cons_self
    obtain ⟨w1, w2⟩ := hway 0 (by simp)
    simp only [Nat.add_zero, List.getElem_cons_zero] at w1 w2
    simp only [List.length_cons] at hk hlen ⊢
    have hkl : ¬ (S.1 12 3 ≤ nI k) := by rw [hlen]; exact nI_ge (by omega) (by omega)
    have hcb : ¬ nI c = nI b := fun z => hE.1 (nI_inj (by omega) (by omega) z)
    by_cases hh : hb hid n = true
    · refine Or.inr ⟨c, n, 0, S, T, hn, hh, List.mem_cons_self, by omega, hc, hE.1, Or.inl rfl, fun m => ?_, fun m => rfl, w2, by omega, hTR, FrTc.rf o S, FrTm.rf T, Kp.rf T⟩
      show bX3_follow_11 F o _ hid (nI c) (nI k) S = _
      unfold bX3_follow_11
      rw [if_neg hkl, chk_nI (show k < 64 by omega) (by decide), nI_clamp (by omega), show g_I S 15 k = nI n from w1]
      simp only [gl_def]
      rw [has_spec F _ hn]
      simp only [Option.bind_some, hasV, hh, if_true]
      rw [if_neg (by decide)]
    · have hh' : hb hid n = false := by simpa using hh
      obtain ⟨S1, T1, e1, e2, e3, e4, e5, e6⟩ := tread_rel (F := F) ho hn hTR
      have hstepC : ∀ m, g_fix (FB F o) (m + 1) (hid, nI c, nI k, S) = g_fix (FB F o) m (hid, nI n, nI (k + 1), S1) := fun m => by
        show bX3_follow_11 F o (g_fix (FB F o) m) hid (nI c) (nI k) S = _
        unfold bX3_follow_11
        rw [if_neg hkl, chk_nI (show k < 64 by omega) (by decide), nI_clamp (by omega), show g_I S 15 k = nI n from w1]
        simp only [gl_def]
        rw [has_spec F _ hn]
        simp only [Option.bind_some, hasV, hh']
        rw [if_pos (by decide), e1]
        simp only [Option.bind_some, nI_1]
      have hstepM : ∀ m, g_fix (MB F) (m + 1) (nI wi, nI c, bf, 1, nI k, T) = g_fix (MB F) m (nI wi, nI n, bf, 1, nI (k + 1), T1) := fun m => by
        show bX8_walks_33 F (g_fix (MB F) m) (nI wi) (nI c) bf 1 (nI k) T = _
        unfold bX8_walks_33
        rw [if_neg (by decide), chk_nI hwi (by decide), nI_clamp (by omega), show g_I T 63 wi = nI b from hto, if_neg hcb, chk_nI (show k < 64 by omega) (by decide), nI_clamp (by omega), show g_I T 69 k = nI n from w2]
        simp only [gl_def]
        rw [isHidden_spec F T hn, hhid n hn, hh']
        simp only [Option.bind_some]
        rw [if_pos (by decide), e2]
        simp only [Option.bind_some, nI_1]
        rfl
      rcases ih n (k + 1) S1 T1 hn (fun x hx => hl x (List.mem_cons_of_mem _ hx)) hE.2 (by omega) (by
          rw [e4.1 12 3 (by omega) (by omega) (Or.inl (by omega)), hlen]; congr 1; omega) (fun i hi => by
          have := hway (i + 1) (by simp; omega)
          simp only [List.getElem_cons_succ] at this
          rw [e4.1 15 _ (by omega) (by omega) (Or.inl (by omega)), e5.1 69 _ (by decide) (by decide) (by decide) (Or.inl (by decide)), show k + 1 + i = k + (i + 1) by omega]
          exact this) (by rw [e5.1 63 _ (by decide) (by decide) (by decide) (Or.inl (by decide))]; exact hto) (fun x hx => by rw [hidM_fr e5]; exact hhid x hx) e3 with ⟨S2, T2, g1, g2, g3, g4, g5, g6⟩ | ⟨c1, h, j, S2, T2, g0, g1, g2, g3, g4, g5, g6, g7, g8, g9, g10, g11, g12, g13, g14⟩
      · refine Or.inl ⟨S2, T2, fun m => ?_, fun m => ?_, g3, e4.tr g4, e5.tr g5, e6.tr g6 (by omega)⟩
        · rw [show m + (l.length + 1) + 1 = (m + l.length + 1) + 1 by omega, hstepC, g1]
        · rw [show m + (l.length + 1) = (m + l.length) + 1 by omega, hstepM, g2, show k + 1 + l.length = k + (l.length + 1) by omega]
      · refine Or.inr ⟨c1, h, j + 1, S2, T2, g0, g1, List.mem_cons_of_mem _ g2, by omega, g4, g5, ?_, fun m => ?_, fun m => ?_, ?_, by omega, g11, e4.tr g12, e5.tr g13, e6.tr g14 (by omega)⟩
        · rcases g6 with g6 | g6
          · rw [g6]; exact Or.inr hh'
          · exact Or.inr g6
        · rw [show m + (j + 1) + 1 = (m + j + 1) + 1 by omega, hstepC, g7]
        · rw [show m + (j + 1) = (m + j) + 1 by omega, hstepM, g8, show k + 1 + j = k + (j + 1) by omega]
        · rw [show k + (j + 1) = k + 1 + j by omega]; exact g9
/-- what a whole walk may change -/
def FrGo (o : Nat) (S S' : gS) : Prop := (∀ i k, i ≠ 12 → i ≠ 13 → i ≠ 15 → i ≠ o → i ≠ o + 1 → i ≠ o + 2 → S'.1 i k = S.1 i k) ∧ (∀ i k, i ≠ 12 → i ≠ 14 → S'.2 i k = S.2 i k)
def FrWk (T T' : gS) : Prop := (∀ i k, i ≠ 64 → i ≠ 65 → i ≠ 66 → i ≠ 67 → i ≠ 68 → i ≠ 69 → (i ≠ 51 ∨ (k ≠ 21 ∧ k ≠ 22 ∧ k ≠ 23 ∧ k ≠ 26)) → T'.1 i k = T.1 i k) ∧ T'.2 = T.2
theorem FrGo.rf (o : Nat) (S : gS) : FrGo o S S := ⟨fun _ _ _ _ _ _ _ _ => rfl, fun _ _ _ _ => rfl⟩
theorem FrWk.rf (S : gS) : FrWk S S := ⟨fun _ _ _ _ _ _ _ _ _ => rfl, rfl⟩
theorem FrGo.tr {o : Nat} {S0 S1 S2 : gS} (h1 : FrGo o S0 S1) (h2 : FrGo o S1 S2) : FrGo o S0 S2 := ⟨fun i k a b c d e f => (h2.1 i k a b c d e f).trans (h1.1 i k a b c d e f), fun i k a b => (h2.2 i k a b).trans (h1.2 i k a b)⟩
theorem FrWk.tr {S0 S1 S2 : gS} (h1 : FrWk S0 S1) (h2 : FrWk S1 S2) : FrWk S0 S2 := ⟨fun i k a b c d e f g => (h2.1 i k a b c d e f g).trans (h1.1 i k a b c d e f g), h2.2.trans h1.2⟩
theorem FrFi.go {o : Nat} {S S' : gS} (h : FrFi S S') : FrGo o S S' := ⟨fun i k a b c _ _ _ => h.1 i k b c (Or.inl a), fun i k a b => h.2 i k b (Or.inl a)⟩
theorem FrTc.go {o : Nat} {S S' : gS} (h : FrTc o S S') : FrGo o S S' := ⟨fun i k _ _ _ a b c => h.1 i k b c (Or.inl a), fun i k _ _ => by rw [h.2]⟩
theorem FrPl.wk {S S' : gS} (h : FrPl S S') : FrWk S S' := ⟨fun i k _ _ _ _ a b c => h.1 i k a b (c.imp_right (fun z => z.2.2.2)), h.2⟩
theorem FrTm.wk {S S' : gS} (h : FrTm S S') : FrWk S S' := ⟨fun i k a b c _ _ _ d => h.1 i k a b c (d.imp_right (fun z => ⟨z.1, z.2.1⟩)), h.2⟩
def KRel (Wl hid : Int64) (T : gS) : Prop := ∀ c, c < 64 → decide (T.1 57 c = 1) = hb Wl c ∧ hidM T c = hb hid c
def KnR (Kn : Int64) (T : gS) : Prop := ∀ c, c < 64 → decide (T.1 67 c = 0) = !hb Kn c
theorem KRel.fr {Wl hid : Int64} {T T' : gS} (h : KRel Wl hid T) (hf : FrWk T T') : KRel Wl hid T' := by
  intro c hc
  have e1 := hf.1 57 c (by decide) (by decide) (by decide) (by decide) (by decide) (by decide) (Or.inl (by decide))
  have e2 := hf.1 51 19 (by decide) (by decide) (by decide) (by decide) (by decide) (by decide) (Or.inr (by decide))
  unfold hidM
  rw [e1, e2]
  exact h c hc
theorem Kp_pl {T T' : gS} (h : FrPl T T') : Kp 0 T T' := Kp_of (fun x _ => ⟨h.1 64 x (by decide) (by decide) (Or.inl (by decide)), h.1 65 x (by decide) (by decide) (Or.inl (by decide)), h.1 66 x (by decide) (by decide) (Or.inl (by decide))⟩) (h.1 51 21 (by decide) (by decide) (Or.inr (by decide)))
theorem MPr_pl {T T' : gS} (h : FrPl T T') {sn pr : Nat → Nat} (hM : MPr sn pr T) : MPr sn pr T' := fun c hc => by
  rw [h.1 64 c (by decide) (by decide) (Or.inl (by decide)), h.1 65 c (by decide) (by decide) (Or.inl (by decide))]; exact hM c hc
theorem TR_pl {o : Nat} {S S' T T' : gS} (ho : 16 ≤ o ∧ o ≤ 39) (h1 : FrFi S S') (h2 : FrPl T T') (h : TR o S T) : TR o S' T' := by
  obtain ⟨a, b, c, d⟩ := h
  refine ⟨fun x hx => ?_, ?_, ?_, ?_⟩
  · rw [h1.1 (o + 1) x (by omega) (by omega) (Or.inl (by omega)), h1.1 (o + 2) x (by omega) (by omega) (Or.inl (by omega)), h2.1 64 x (by decide) (by decide) (Or.inl (by decide)), h2.1 66 x (by decide) (by decide) (Or.inl (by decide))]
    exact a x hx
  · rw [h1.1 o 4 (by omega) (by omega) (Or.inl (by omega)), h2.1 51 21 (by decide) (by decide) (Or.inr (by decide))]; exact b
  · rw [h1.1 o 5 (by omega) (by omega) (Or.inl (by omega)), h2.1 51 22 (by decide) (by decide) (Or.inr (by decide))]; exact c
  · rw [h1.1 o 6 (by omega) (by omega) (Or.inl (by omega)), h2.1 51 23 (by decide) (by decide) (Or.inr (by decide))]; exact d
theorem go_rel {F o wi b : Nat} {Wl hid : Int64} {bf : Int32} (hF : 20000000 < F) (ho : 16 ≤ o ∧ o ≤ 39) (hwi : wi < 8) (hb64 : b < 64) : ∀ (u c t : Nat) (Kn : Int64) (S T : gS) (m m' : Nat),
    c < 64 → hb hid c = false → cntB (fun x => hb hid x && !hb Kn x) 64 ≤ u → t + u ≤ 64 → u + 2 ≤ m' → 66 * (u + 1) ≤ m →
    S.2 1 3 = Wl → KRel Wl hid T → KnR Kn T → T.1 63 wi = nI b → TR o S T →
    ∃ ok S' T', (ok = 0 ∨ ok = 1) ∧ g_fix (GB F o) m' (nI b, hid, nI c, Kn, nI t, S) = (if ok = 0 then bX3_go_89 F o S' else some (1, S')) ∧
      ((fX8_plans F (nI c) (nI b) T).bind (fun q => g_fix (MB F) m (nI wi, nI c, bf, q.1, 0, q.2))) = bX8_walks_108 F (nI wi) bf ok T' ∧
      TR o S' T' ∧ FrGo o S S' ∧ FrWk T T' ∧ Kp (64 * (u + 1)) T T' := by
  intro u
  induction u using Nat.strongRecOn with
  | _ u ih =>
    intro c t Kn S T m m' hc hhc hu htu hm' hm hWl hKR hKn hto hTR
    obtain ⟨m1, rfl⟩ : ∃ m1, m' = m1 + 1 := ⟨m' - 1, by omega⟩
    have hTRs := hTR.1
    have hwd : ∃ wt : Nat → Nat, (∀ n, 1 ≤ wt n ∧ wt n ≤ 31) ∧ ∀ c, c < 64 → (1 : Int32) + T.1 64 c = nI (wt c) ∧ S.1 (o + 1) c + 1 = nI (wt c) := by
      refine ⟨fun n => if n < 64 then 1 + min 30 (T.1 64 n).toNatClampNeg else 1, fun n => ?_, fun c hc => ?_⟩
      · dsimp only; split <;> omega
      · obtain ⟨e1, -, w, hw, e2⟩ := hTRs c hc
        dsimp only
        rw [e1, e2, nI_clamp (by omega), if_pos hc, Nat.min_eq_right hw]
        constructor
        · rw [show (1 : Int32) = nI 1 from rfl, nI_add]
        · rw [nI_1]; congr 1; omega
    obtain ⟨wt, hwt1, hwt2⟩ := hwd
    have hopc : ∀ x, (fun x => decide (x < 64) && !hb (Wl ||| Kn) x) x = (decide (x < 64) && !hb (S.2 1 3 ||| Kn) x) := fun x => by rw [hWl]
    have hop2 : ∀ x, (fun x => decide (x < 64) && !hb (Wl ||| Kn) x) x = true → x < 64 := fun x h => by simp at h; exact h.1
    have hMOp : MOp (fun x => decide (x < 64) && !hb (Wl ||| Kn) x) T := fun x hx => by
      have e1 := (hKR x hx).1
      have e2 := hKn x hx
      dsimp only
      rw [hb_or, ← e1, e2]
      by_cases q : T.1 57 x = 1 <;> simp [q, hx]
    have hMWt : MWt wt 0 T := ⟨hwt1, fun _ x hx => (hwt2 x hx).1, fun z => absurd rfl z⟩
    have ht64 : ¬ ((64 : Int32) < nI t) := show ¬ nI 64 < nI t from nI_nlt (by omega) (by omega)
    have hbe : ∀ x, x < 64 → hb hid x = false → hb Wl x = false → begM T x = true := fun x hx h1 h2 => by
      obtain ⟨e1, e2⟩ := hKR x hx
      unfold begM
      rw [e2, h1]
      rw [h2] at e1
      simpa using e1
    rcases find_spec (F := F) (sn := o + 1) (S := S) (op := fun x => decide (x < 64) && !hb (Wl ||| Kn) x) (wt := wt) (by omega) hc hb64 hwt1 hopc (by omega) (by omega) (by omega) (fun x hx => (hwt2 x hx).2) with ⟨S1, hno, ⟨hfr, -⟩, hfi⟩ | ⟨d, l, S1, hD, hd, hW, hfr, hlen, hway, hfi⟩
    · -- no way
      obtain ⟨T1, k1, k2⟩ := plans_no (F := F) hF hMOp hop2 hMWt hc hb64 (Or.inr hno)
      obtain ⟨m2, rfl⟩ : ∃ m2, m = m2 + 1 := ⟨m - 1, by omega⟩
      refine ⟨0, S1, T1, Or.inl rfl, ?_, ?_, TR_pl ho hfr k1 hTR, hfr.go, k1.wk, (Kp_pl k1).le (by omega)⟩
      · show bX3_go_14 F o _ (nI b) hid (nI c) Kn (nI t) S = _
        unfold bX3_go_14
        rw [if_neg ht64, show g_J S 1 3 = S.2 1 3 from rfl, hfi]
        simp only [Option.bind_some]
        rw [if_pos trivial, if_pos trivial]
      · rw [k2]
        simp only [Option.bind_some]
        show bX8_walks_33 F _ (nI wi) (nI c) bf 0 0 T1 = _
        unfold bX8_walks_33
        rw [if_pos rfl]
    · -- a way
      have hopc1 : hb Wl c = false ∧ hb Kn c = false := by
        have := rch_op hD.1
        simp [hb_or] at this
        exact ⟨this.2.1, this.2.2⟩
      obtain ⟨l2, T1, k1, k2, k3, k4, k5, k6⟩ := plans_yes (F := F) hF hMOp hop2 hMWt hc hb64 (hbe c hc hhc hopc1.1) (by omega) hD
      have hll := Ch_u hW.1 k1.1
      subst hll
      have hTR1 := TR_pl ho hfr k2 hTR
      have hKR1 := hKR.fr k2.wk
      have hto1 : T1.1 63 wi = nI b := by rw [k2.1 63 wi (by decide) (by decide) (Or.inl (by decide))]; exact hto
      have hS0 : ∀ (S1 : gS), TR o S1 T1 → TR o (g_setI S1 o 7 (-1)) T1 := fun S1 h => by
        obtain ⟨a1, a2, a3, a4⟩ := h
        refine ⟨fun x hx => ?_, ?_, ?_, ?_⟩
        · rw [rI_ne _ _ (Or.inl (by omega)), rI_ne _ _ (Or.inl (by omega))]; exact a1 x hx
        · rw [rI_ne _ _ (Or.inr (by decide))]; exact a2
        · rw [rI_ne _ _ (Or.inr (by decide))]; exact a3
        · rw [rI_ne _ _ (Or.inr (by decide))]; exact a4
      have hl63 := hW.2.1
      have hfoll : ∀ r, g_fix (FB F o) F (hid, nI c, nI 0, g_setI S1 o 7 (-1)) = r → fX3_follow F o (nI c) hid S1 = r := fun r h => by
        unfold fX3_follow
        rw [gl_def, ← h]
        rfl
      have hgo : ∀ (q4 : Int32 × gS), fX3_follow F o (nI c) hid S1 = some q4 → g_fix (GB F o) (m1 + 1) (nI b, hid, nI c, Kn, nI t, S) = (if (g_I q4.2 o 7) = (-1 : Int32) then (some ((1 : Int32), q4.2)) else ((fX7_bit F (g_I q4.2 o 7) q4.2).bind (fun q7 : Int64 × gS => g_fix (GB F o) m1 (nI b, hid, q4.1, Kn ||| q7.1, nI (t + 1), q7.2)))) := fun q4 h => by
        show bX3_go_14 F o (g_fix (GB F o) m1) (nI b) hid (nI c) Kn (nI t) S = _
        unfold bX3_go_14
        rw [if_neg ht64, show g_J S 1 3 = S.2 1 3 from rfl, hfi]
        simp only [Option.bind_some]
        rw [if_neg (nI_nm1 (by omega)), h]
        simp only [Option.bind_some, gl_def, nI_1]
      rcases seg_rel (F := F) (hid := hid) (bf := bf) (wi := wi) ho hwi hb64 l c 0 (g_setI S1 o 7 (-1)) T1 hc (fun n hn => (hW.2.2 n hn).1) (Ch_ends hW.1) (by omega) (by
          rw [rI_ne _ _ (Or.inl (by omega)), hlen, Nat.zero_add]) (fun i hi => by
          rw [Nat.zero_add, rI_ne _ _ (Or.inl (by omega))]; exact ⟨hway i hi, k4 i hi⟩) hto1 (fun n hn => (hKR1 n hn).2) (hS0 S1 hTR1) with ⟨S2, T2, g1, g2, g3, g4, g5, g6⟩ | ⟨c1, h, j, S2, T2, g0, g1, g2, g3, g4, g5, g6, g7, g8, g9, g10, g11, g12, g13, g14⟩
      · -- all the way
        have hmet : S2.1 o 7 = -1 := by
          rw [g4.1 o 7 (by omega) (by omega) (Or.inr ⟨by decide, by decide⟩), rI_same]
        have hf := hfoll (some (nI b, S2)) (by have := g1 (F - l.length - 1); rw [show F - l.length - 1 + l.length + 1 = F by omega] at this; exact this)
        refine ⟨1, S2, T2, Or.inr rfl, ?_, ?_, g3, hfr.go.tr (FrGo.tr ⟨fun i k _ _ _ a _ _ => rI_ne _ _ (Or.inl a), fun _ _ _ _ => rfl⟩ g4.go), k2.wk.tr g5.wk, (Kp_pl k2).tr g6 (by omega)⟩
        · rw [hgo _ hf, if_pos (show g_I ((nI b, S2) : Int32 × gS).2 o 7 = -1 from hmet), if_neg (show ¬ ((1 : Int32) = 0) by decide)]
        · rw [k6]
          simp only [Option.bind_some]
          obtain ⟨m2, hm2⟩ : ∃ m2, m = m2 + 1 + l.length := ⟨m - 1 - l.length, by omega⟩
          rw [hm2]
          have := g2 (m2 + 1)
          rw [show (0 : Int32) = nI 0 from rfl, this]
          show bX8_walks_33 F _ (nI wi) (nI b) bf 1 _ T2 = _
          unfold bX8_walks_33
          have hto2 : g_I T2 63 wi = nI b := by show T2.1 63 wi = _; rw [g5.1 63 wi (by decide) (by decide) (by decide) (Or.inl (by decide))]; exact hto1
          rw [if_neg (by decide), chk_nI hwi (by decide), nI_clamp (by omega), hto2, if_pos rfl]
      · -- something hidden is met
        have hoph : hb Kn h = false := by
          have := (hW.2.2 h g2).2
          simp [hb_or] at this
          exact this.2.2
        have hcnt : cntB (fun x => hb hid x && !hb Kn x) 64 = cntB (fun x => hb hid x && !hb (Kn ||| bt h) x) 64 + 1 := by
          refine cntB_pop g0 (by rw [g1, hoph]; rfl) (fun x hx => ?_)
          rw [hb_or, hb_bt g0 hx]
          by_cases q : x = h <;> simp [q]
        have hto2 : T2.1 63 wi = nI b := by rw [g13.1 63 wi (by decide) (by decide) (by decide) (Or.inl (by decide))]; exact hto1
        have hf := hfoll (some (nI c1, g_setI S2 o 7 (nI h))) (by have := g7 (F - j - 1); rw [show F - j - 1 + j + 1 = F by omega] at this; exact this)
        have hc1h : hb hid c1 = false := by
          rcases g6 with g6 | g6
          · rw [g6]; exact hhc
          · exact g6
        have fr67 : FrWk T2 (g_setI T2 67 h (vp_nar .boolean 1)) := ⟨fun i k _ _ _ a _ _ _ => rI_ne _ _ (Or.inl a), rfl⟩
        obtain ⟨ok, S3, T3, r1, r2, r3, r4, r5, r6, r7⟩ := ih (u - 1) (by omega) c1 (t + 1) (Kn ||| bt h) (g_setI S2 o 7 (nI h)) (g_setI T2 67 h (vp_nar .boolean 1)) (m - j - 1) m1 g4 hc1h (by omega) (by omega) (by omega) (by omega)
          (by rw [rJ_I, g12.2, rJ_I, hfr.2 1 3 (by decide) (Or.inl (by decide)), hWl]) ((hKR1.fr g13.wk).fr fr67) (fun x hx => by
            rw [hb_or, hb_bt g0 hx]
            by_cases q : x = h
            · subst q; rw [rI_same]; simp; decide
            · rw [rI_ne _ _ (Or.inr q), g13.1 67 x (by decide) (by decide) (by decide) (Or.inl (by decide)), k2.1 67 x (by decide) (by decide) (Or.inl (by decide))]
              simp [q]; exact by simpa using hKn x hx) (by rw [rI_ne _ _ (Or.inl (by decide))]; exact hto2) (by
            obtain ⟨a1, a2, a3, a4⟩ := g11
            refine ⟨fun x hx => ?_, ?_, ?_, ?_⟩
            · rw [rI_ne _ _ (Or.inl (by omega)), rI_ne _ _ (Or.inl (by omega)), rI_ne _ _ (Or.inl (by omega)), rI_ne _ _ (Or.inl (by omega))]; exact a1 x hx
            · rw [rI_ne _ _ (Or.inr (by decide)), rI_ne _ _ (Or.inl (by decide))]; exact a2
            · rw [rI_ne _ _ (Or.inr (by decide)), rI_ne _ _ (Or.inl (by decide))]; exact a3
            · rw [rI_ne _ _ (Or.inr (by decide)), rI_ne _ _ (Or.inl (by decide))]; exact a4)
        refine ⟨ok, S3, T3, r1, ?_, ?_, r4, hfr.go.tr (FrGo.tr ⟨fun i k _ _ _ a _ _ => rI_ne _ _ (Or.inl a), fun _ _ _ _ => rfl⟩ (g12.go.tr (FrGo.tr ⟨fun i k _ _ _ a _ _ => rI_ne _ _ (Or.inl a), fun _ _ _ _ => rfl⟩ r5))), k2.wk.tr (g13.wk.tr (fr67.tr r6)), (((Kp_pl k2).tr g14 (Nat.le_refl _)).tr (Kp_of (fun x _ => ⟨rI_ne _ _ (Or.inl (by decide)), rI_ne _ _ (Or.inl (by decide)), rI_ne _ _ (Or.inl (by decide))⟩) (rI_ne _ _ (Or.inl (by decide)))) (Nat.le_refl _)).tr r7 (by omega)⟩
        · rw [hgo _ hf]
          dsimp only
          rw [show g_I (g_setI S2 o 7 (nI h)) o 7 = nI h from rI_same _ _ _ _, if_neg (nI_nm1 (by omega)), bit_spec]
          exact r2
        · rw [k6]
          simp only [Option.bind_some]
          obtain ⟨m2, hm2⟩ : ∃ m2, m = m2 + 1 + j := ⟨m - 1 - j, by omega⟩
          have := g8 (m2 + 1)
          rw [hm2, show (0 : Int32) = nI 0 from rfl, this]
          rw [show m - j - 1 = m2 by omega] at r3
          show bX8_walks_33 F (g_fix (MB F) m2) (nI wi) (nI c1) bf 1 (nI (0 + j)) T2 = _
          unfold bX8_walks_33
          rw [if_neg (by decide), chk_nI hwi (by decide), nI_clamp (by omega), show g_I T2 63 wi = nI b from hto2, if_neg (fun z => g5 (nI_inj (by omega) (by omega) z)), chk_nI g10 (by decide), nI_clamp (by omega), show g_I T2 69 (0 + j) = nI h from g9]
          simp only [gl_def]
          rw [isHidden_spec F T2 g0, hidM_fr g13, (hKR1 h g0).2, g1]
          simp only [Option.bind_some, if_true]
          rw [if_neg (by decide), chk_nI g0 (by decide), nI_clamp (by omega)]
          have e9 : g_I (g_setI T2 67 h (vp_nar .boolean 1)) 63 wi = nI b := by
            show (g_setI _ _ _ _).1 _ _ = _
            rw [rI_ne _ _ (Or.inl (by decide))]; exact hto2
          rw [e9, ← r3, chk_nI hwi (by decide)]
          rfl

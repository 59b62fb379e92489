/-! the reference's plans -/
section PLANS
variable {op : Nat → Bool} {wt : Nat → Nat} {b : Nat}
theorem goesTo_spec {F c d : Nat} {S : gS} (hF : 4 < F) (hwt : MWt wt 0 S) (hCE : CE op wt b S) (hc : c < 64) (hd : d < 2000) (hD : isD op wt b c d) (hcb : c ≠ b) :
    ∃ n, Nx op wt b c n ∧ n < 64 ∧ fX8_goesTo F (nI c) S = some (nI n, S) := by
  have hkc : kk S c = d := (CE_D hCE hc (by omega)).mp hD
  obtain ⟨r, ⟨n, g1, g2, g3⟩, hr⟩ := fix_up (body := fun k2 s => bX8_goesTo_2 F k2 s.1 s.2.1 s.2.2) 4
    (fun i s => s = (nI c, nI i, S) ∧ ∀ dir', dir' < i → ∀ n', nb c dir' = some n' → ¬ Tgt op wt b c n')
    (fun r => ∃ n, Nx op wt b c n ∧ n < 64 ∧ r = some (nI n, S))
    (by
      rintro i s hi ⟨rfl, hno⟩
      have hi4 : ¬ ((4 : Int32) ≤ nI i) := nI_ge hi (by decide)
      have nxt : (∀ n', nb c i = some n' → ¬ Tgt op wt b c n') → ∃ s', (s' = (nI c, nI (i + 1), S) ∧ ∀ dir', dir' < i + 1 → ∀ n', nb c dir' = some n' → ¬ Tgt op wt b c n') ∧ s' = (nI c, nI (i + 1), S) := fun h => ⟨_, ⟨rfl, fun dir' hd' n' hn' => by
        rcases Nat.lt_or_ge dir' i with q | q
        · exact hno dir' q n' hn'
        · rw [show dir' = i by omega] at hn'; exact h n' hn'⟩, rfl⟩
      have e53 : ∀ k, bX8_goesTo_53 F k (nI c) (nI i) S = k (nI c, nI (i + 1), S) := fun k => by
        unfold bX8_goesTo_53; rw [gl_def, nI_1]
      cases hn : nb c i with
      | none =>
        obtain ⟨s', hI, e⟩ := nxt (fun n' h => by rw [hn] at h; cases h)
        refine Or.inl ⟨s', hI, fun k => ?_⟩
        show bX8_goesTo_2 F k (nI c) (nI i) S = _
        unfold bX8_goesTo_2
        rw [if_neg hi4, nxt_spec F hc hi, hn]
        simp only [Option.bind_some, gl_def, oI]
        rw [if_pos trivial, e53, e]
      | some n =>
        have hn64 := nb_lt hc hn
        have hne : ¬ nI n = -1 := nI_nm1 (by omega)
        have hwn := hwt.1 n
        obtain ⟨a1, a2, a3, a4⟩ := hCE n hn64
        obtain ⟨b1, b2, b3, b4⟩ := hCE c hc
        by_cases hr : kk S n < 100000
        · have hlt : ¬ ((100000 : Int32) ≤ S.1 68 n) := by rw [a1]; exact nI_ge hr (by decide)
          have hDe : isD op wt b n (kk S n) := (CE_D hCE hn64 hr).mpr rfl
          have hcmp : (S.1 68 n + nI (wt n) = S.1 68 c) ↔ kk S n + wt n = d := by
            rw [a1, b1, hkc, nI_add, nI_eq (by omega) (by omega)]
          by_cases heq : kk S n + wt n = d
          · refine Or.inr ⟨_, ⟨n, ⟨i, hi, hn, ⟨d, _, hD, hDe, heq⟩, hno⟩, hn64, rfl⟩, fun k => ?_⟩
            show bX8_goesTo_2 F k (nI c) (nI i) S = _
            unfold bX8_goesTo_2
            rw [if_neg hi4, nxt_spec F hc hi, hn]
            simp only [Option.bind_some, gl_def, oI]
            rw [if_neg hne, chk_nI hn64 (by decide), nI_clamp (show n < 2 ^ 31 by omega), if_neg hlt, chk_nI hn64 (by decide), wades_spec F hn64 hwt]
            simp only [Option.bind_some]
            rw [chk_nI hc (by decide), nI_clamp (show c < 2 ^ 31 by omega), if_pos (hcmp.mpr heq)]
          · obtain ⟨s', hI, e'⟩ := nxt (fun n' h => by
              rw [hn] at h; cases h
              rintro ⟨d2, e2, q1, q2, q3⟩
              rw [isD_u q1 hD, isD_u q2 hDe] at q3
              exact heq q3)
            refine Or.inl ⟨s', hI, fun k => ?_⟩
            show bX8_goesTo_2 F k (nI c) (nI i) S = _
            unfold bX8_goesTo_2
            rw [if_neg hi4, nxt_spec F hc hi, hn]
            simp only [Option.bind_some, gl_def, oI]
            rw [if_neg hne, chk_nI hn64 (by decide), nI_clamp (show n < 2 ^ 31 by omega), if_neg hlt, chk_nI hn64 (by decide), wades_spec F hn64 hwt]
            simp only [Option.bind_some]
            rw [chk_nI hc (by decide), nI_clamp (show c < 2 ^ 31 by omega), if_neg (fun z => heq (hcmp.mp z)), e53, e']
        · have hge : ((100000 : Int32) ≤ S.1 68 n) := by rw [a1]; exact nI_le (a := 100000) (by omega) (by omega)
          obtain ⟨s', hI, e'⟩ := nxt (fun n' h => by
            rw [hn] at h; cases h
            rintro ⟨d2, e2, q1, q2, q3⟩
            have := isD_u q1 hD
            have := a4 e2 q2.1
            omega)
          refine Or.inl ⟨s', hI, fun k => ?_⟩
          show bX8_goesTo_2 F k (nI c) (nI i) S = _
          unfold bX8_goesTo_2
          rw [if_neg hi4, nxt_spec F hc hi, hn]
          simp only [Option.bind_some, gl_def, oI]
          rw [if_neg hne, chk_nI hn64 (by decide), nI_clamp (show n < 2 ^ 31 by omega), if_pos hge, e53, e'])
    (by
      rintro s ⟨rfl, hno⟩
      exfalso
      obtain ⟨dir, n, e, q1, q2, q3, q4⟩ := isD_back hD hcb
      exact hno dir q1 n q2 ⟨d, e, hD, q3, q4.symm⟩)
    F (nI c, (0 : Int32), S) ⟨rfl, fun dir' h => by omega⟩ hF
  exact ⟨n, g1, g2, by rw [← g3, ← hr]; rfl⟩
/-- what may change in plans -/
def FrPl (S0 S : gS) : Prop := (∀ i k, i ≠ 68 → i ≠ 69 → (i ≠ 51 ∨ k ≠ 26) → S.1 i k = S0.1 i k) ∧ S.2 = S0.2
theorem FrPl.rf (S : gS) : FrPl S S := ⟨fun _ _ _ _ _ => rfl, rfl⟩
theorem FrPl.tr {S0 S1 S2 : gS} (h1 : FrPl S0 S1) (h2 : FrPl S1 S2) : FrPl S0 S2 := ⟨fun i k a b c => (h2.1 i k a b c).trans (h1.1 i k a b c), h2.2.trans h1.2⟩
theorem plans_loop {F a d : Nat} {S : gS} (hF : 3000 < F) (hwt : MWt wt 0 S) (hCE : CE op wt b S) (ha : a < 64) (hbb : b < 64) (hd : d < 2000) (hD : isD op wt b a d) (h0 : S.1 51 26 = nI 0) :
    ∃ l S', Way op wt b a l ∧ (∀ i k, i ≠ 69 → (i ≠ 51 ∨ k ≠ 26) → S'.1 i k = S.1 i k) ∧ S'.2 = S.2 ∧ S'.1 51 26 = nI l.length ∧ (∀ i (h : i < l.length), S'.1 69 i = nI l[i]) ∧
      bX8_plans_34l F F (nI b, nI a, S) = some (1, S') := by
  obtain ⟨r, ⟨l, S', g1, g2, g3, g4, g5, g6⟩, hr⟩ := fix_run (body := fun k34 s => bX8_plans_34 F k34 s.1 s.2.1 s.2.2)
    (fun s => ∃ c e l S', s = (nI b, nI c, S') ∧ c < 64 ∧ e < 2000 ∧ isD op wt b c e ∧ Ch op wt b a l c ∧ (∀ n, n ∈ l → n < 64 ∧ op n = true) ∧
      l.length ≤ cntB (fun x => decide (e < kk S x)) 64 ∧
      (∀ i k, i ≠ 69 → (i ≠ 51 ∨ k ≠ 26) → S'.1 i k = S.1 i k) ∧ S'.2 = S.2 ∧ S'.1 51 26 = nI l.length ∧ (∀ j (h : j < l.length), S'.1 69 j = nI l[j]))
    (fun s => kk S s.2.1.toNatClampNeg)
    (fun r => ∃ l S', Way op wt b a l ∧ (∀ i k, i ≠ 69 → (i ≠ 51 ∨ k ≠ 26) → S'.1 i k = S.1 i k) ∧ S'.2 = S.2 ∧ S'.1 51 26 = nI l.length ∧ (∀ i (h : i < l.length), S'.1 69 i = nI l[i]) ∧ r = some (1, S'))
    (by
      rintro s ⟨c, e, l, S', rfl, hc, he, hDe, hCh, hmem, hcnt, f1, f2, f3, f4⟩
      have hkc : kk S c = e := (CE_D hCE hc (by omega)).mp hDe
      have hl63 : l.length ≤ 63 := by
        have hlt : cntB (fun x => decide (e < kk S x)) 64 < cntB (fun _ => true) 64 := by
          refine cntB_lt hc (fun _ _ _ => rfl) ?_ rfl
          rw [hkc]; simp
        have := cntB_le (fun _ => true) 64
        omega
      by_cases hcb : c = b
      · subst hcb
        refine Or.inr ⟨_, ⟨l, S', ⟨hCh, hl63, hmem⟩, f1, f2, f3, f4, rfl⟩, fun k => ?_⟩
        show bX8_plans_34 F k (nI c) (nI c) S' = _
        unfold bX8_plans_34
        rw [if_pos rfl]
      · have hCE' : CE op wt b S' := by
          intro x hx
          have e1 : kk S' x = kk S x := by unfold kk; rw [f1 68 x (by decide) (Or.inl (by decide))]
          rw [e1, f1 68 x (by decide) (Or.inl (by decide))]; exact hCE x hx
        have hwt' : MWt wt 0 S' := ⟨hwt.1, fun z x hx => by rw [f1 64 x (by decide) (Or.inl (by decide))]; exact hwt.2.1 z x hx, hwt.2.2⟩
        obtain ⟨n, hN, hn64, hon⟩ := goesTo_spec (F := F) (by omega) hwt' hCE' hc he hDe hcb
        have hNN := hN
        obtain ⟨dir, q1, q2, ⟨e1, e2, q3, q4, q5⟩, q6⟩ := hNN
        have hee := isD_u q3 hDe
        have hwn := hwt.1 n
        have hkn : kk S n = e2 := (CE_D hCE hn64 (by omega)).mp q4
        have hcn : ¬ nI c = nI b := fun z => hcb (nI_inj (by omega) (by omega) z)
        have hcnt2 : cntB (fun x => decide (e < kk S x)) 64 < cntB (fun x => decide (e2 < kk S x)) 64 := by
          refine cntB_lt hc (fun x hx h => ?_) ?_ ?_
          · rw [decide_eq_true_eq] at h ⊢; omega
          · rw [hkc]; simp
          · rw [hkc, decide_eq_true_eq]; omega
        refine Or.inl ⟨(nI b, nI n, g_setI (g_setI S' 69 l.length (nI n)) 51 26 (nI (l.length + 1))), ⟨n, e2, l ++ [n], _, rfl, hn64, by omega, q4, Ch_app hcb hN hCh, fun m hm => ?_, by simp; omega, fun j k hj hor => ?_, f2, by rw [rI_same]; simp, fun j hj => ?_⟩, ?_, fun k => ?_⟩
        · rcases List.mem_append.mp hm with h | h
          · exact hmem m h
          · rw [List.mem_singleton.mp h]; exact ⟨hn64, rch_op q4.1⟩
        · rw [rI_ne _ _ hor, rI_ne _ _ (Or.inl hj)]; exact f1 j k hj hor
        · rw [rI_ne _ _ (Or.inl (by decide))]
          by_cases q : j = l.length
          · subst q; rw [rI_same]; congr 1; simp
          · have hj' : j < l.length := by simp at hj; omega
            rw [rI_ne _ _ (Or.inr q), f4 j hj', List.getElem_append_left hj']
        · show kk S (nI n).toNatClampNeg < kk S (nI c).toNatClampNeg
          rw [nI_clamp (by omega), nI_clamp (by omega), hkc, hkn]; omega
        · show bX8_plans_34 F k (nI b) (nI c) S' = _
          unfold bX8_plans_34
          rw [if_neg hcn, hon]
          simp only [Option.bind_some, gl_def]
          rw [show g_I S' 51 26 = nI l.length from f3, chk_nI (show l.length < 64 by omega) (by decide), nI_clamp (by omega)]
          have e7 : g_I (g_setI S' 69 l.length (nI n)) 51 26 = nI l.length := by
            show (g_setI S' 69 l.length (nI n)).1 51 26 = _
            rw [rI_ne _ _ (Or.inl (by decide))]; exact f3
          rw [e7, nI_1])
    F (nI b, nI a, S) ⟨a, d, [], S, rfl, ha, hd, hD, rfl, fun n h => by simp at h, Nat.zero_le _, fun _ _ _ _ => rfl, rfl, h0, fun j h => by simp at h⟩ (by
      show kk S (nI a).toNatClampNeg < F
      rw [nI_clamp (by omega), (CE_D hCE ha (by omega)).mp hD]; omega)
  exact ⟨l, S', g1, g2, g3, g4, g5, by rw [← g6, ← hr]; rfl⟩
/-- hidden, as the reference has it -/
def hidM (S : gS) (c : Nat) : Bool := decide (S.1 57 c = 2) || decide (nI c = S.1 51 19)
theorem isHidden_spec (F : Nat) {c : Nat} (S : gS) (hc : c < 64) : fX8_isHidden F (nI c) S = some (if hidM S c then 1 else 0, S) := by
  unfold fX8_isHidden hidM
  rw [chk_nI hc (by decide), nI_clamp (by omega)]
  by_cases q1 : S.1 57 c = 2
  · rw [if_pos q1]; simp [q1]
  · rw [if_neg q1]
    by_cases q2 : nI c = S.1 51 19
    · rw [if_pos q2]; simp [q2]
    · rw [if_neg q2]; simp [q1, q2]
def begM (S : gS) (c : Nat) : Bool := decide (S.1 57 c ≠ 1) && !hidM S c
theorem mayBegin_spec (F : Nat) {c : Nat} (S : gS) (hc : c < 64) : fX8_mayBegin F (nI c) S = some (if begM S c then 1 else 0, S) := by
  unfold fX8_mayBegin begM
  rw [chk_nI hc (by decide), nI_clamp (by omega), isHidden_spec F S hc]
  by_cases q1 : S.1 57 c = 1
  · rw [if_pos q1]; simp [q1]
  · rw [if_neg q1]
    by_cases q2 : hidM S c = true
    · simp [q1, q2]
    · simp [q1, q2]
theorem plans_no {F a : Nat} {S : gS} (hF : 20000000 < F) (hop : MOp op S) (hop2 : ∀ c, op c = true → c < 64) (hwt : MWt wt 0 S) (ha : a < 64) (hbb : b < 64) (h : begM S a = false ∨ ∀ d, ¬ Rch op wt b a d) :
    ∃ S', FrPl S S' ∧ fX8_plans F (nI a) (nI b) S = some (0, S') := by
  obtain ⟨S1, g1, g2, g3⟩ := findCosts_spec (F := F) hF hbb hop hop2 hwt
  have e1 : begM (g_setI S1 51 26 0) a = begM S a := by
    unfold begM hidM
    rw [rI_ne _ _ (Or.inl (by decide)), rI_ne _ _ (Or.inr (by decide)), g2.1 57 a (by decide), g2.1 51 19 (by decide)]
  refine ⟨g_setI S1 51 26 0, ⟨fun i k h1 h2 h3 => by rw [rI_ne _ _ h3]; exact g2.1 i k h1, g2.2⟩, ?_⟩
  unfold fX8_plans
  rw [g3]
  simp only [Option.bind_some, gl_def]
  rw [mayBegin_spec F _ ha, e1]
  simp only [Option.bind_some]
  by_cases q : begM S a = true
  · simp only [q, if_true]
    rcases h with h | h
    · rw [h] at q; cases q
    · obtain ⟨a1, a2, a3, a4⟩ := g1 a ha
      have hk : ¬ kk S1 a < 100000 := fun z => h _ (a3 z)
      rw [if_neg (by decide), chk_nI ha (by decide), nI_clamp (by omega), if_neg]
      show ¬ (g_setI S1 51 26 0).1 68 a < 100000
      rw [rI_ne _ _ (Or.inl (by decide)), a1]
      exact nI_nlt (b := 100000) (by omega) (by omega)
  · have q' : begM S a = false := by simpa using q
    simp only [q']
    rfl
theorem plans_yes {F a d : Nat} {S : gS} (hF : 20000000 < F) (hop : MOp op S) (hop2 : ∀ c, op c = true → c < 64) (hwt : MWt wt 0 S) (ha : a < 64) (hbb : b < 64) (hbe : begM S a = true) (hd : d < 2000) (hD : isD op wt b a d) :
    ∃ l S', Way op wt b a l ∧ FrPl S S' ∧ S'.1 51 26 = nI l.length ∧ (∀ i (h : i < l.length), S'.1 69 i = nI l[i]) ∧ S'.1 68 a = nI d ∧ fX8_plans F (nI a) (nI b) S = some (1, S') := by
  obtain ⟨S1, g1, g2, g3⟩ := findCosts_spec (F := F) hF hbb hop hop2 hwt
  have e1 : begM (g_setI S1 51 26 0) a = begM S a := by
    unfold begM hidM
    rw [rI_ne _ _ (Or.inl (by decide)), rI_ne _ _ (Or.inr (by decide)), g2.1 57 a (by decide), g2.1 51 19 (by decide)]
  have hCE' : CE op wt b (g_setI S1 51 26 0) := by
    intro x hx
    have e1 : kk (g_setI S1 51 26 0) x = kk S1 x := by unfold kk; rw [rI_ne _ _ (Or.inl (by decide))]
    rw [e1, rI_ne _ _ (Or.inl (by decide))]; exact g1 x hx
  have hwt' : MWt wt 0 (g_setI S1 51 26 0) := ⟨hwt.1, fun z x hx => by rw [rI_ne _ _ (Or.inl (by decide)), g2.1 64 x (by decide)]; exact hwt.2.1 z x hx, hwt.2.2⟩
  obtain ⟨l, S', k1, k2, k3, k4, k5, k6⟩ := plans_loop (F := F) (by omega) hwt' hCE' ha hbb hd hD (rI_same _ _ _ _)
  have hka : kk S1 a = d := (CE_D g1 ha (by omega)).mp hD
  refine ⟨l, S', k1, ⟨fun i k h1 h2 h3 => by rw [k2 i k h2 h3, rI_ne _ _ h3]; exact g2.1 i k h1, by rw [k3]; exact g2.2⟩, k4, k5, ?_, ?_⟩
  · rw [k2 68 a (by decide) (Or.inl (by decide)), rI_ne _ _ (Or.inl (by decide)), (g1 a ha).1, hka]
  · unfold fX8_plans
    rw [g3]
    simp only [Option.bind_some, gl_def]
    rw [mayBegin_spec F _ ha, e1]
    simp only [Option.bind_some, hbe, if_true]
    rw [if_neg (by decide), chk_nI ha (by decide), nI_clamp (by omega), if_pos]
    · exact k6
    · show (g_setI S1 51 26 0).1 68 a < 100000
      rw [rI_ne _ _ (Or.inl (by decide)), (g1 a ha).1, hka]
      exact nI_lt (b := 100000) (by omega) (by omega)
end PLANS

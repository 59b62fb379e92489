/-! straight ways; a walk from its beginning -/
theorem fix_pos {σ R : Type} {body : (σ → Option R) → σ → Option R} {F : Nat} {s : σ} (h : 0 < F) : g_fix body F s = body (g_fix body (F - 1)) s := by
  obtain ⟨m, rfl⟩ : ∃ m, F = m + 1 := ⟨F - 1, by omega⟩
  rfl
def FrW2 (T T' : gS) : Prop := (∀ i k, i ≠ 64 → i ≠ 65 → i ≠ 66 → i ≠ 67 → i ≠ 68 → i ≠ 69 → (i ≠ 51 ∨ (k ≠ 21 ∧ k ≠ 22 ∧ k ≠ 23 ∧ k ≠ 24 ∧ k ≠ 26)) → T'.1 i k = T.1 i k) ∧ T'.2 = T.2
theorem FrW2.rf (S : gS) : FrW2 S S := ⟨fun _ _ _ _ _ _ _ _ _ => rfl, rfl⟩
theorem FrW2.tr {S0 S1 S2 : gS} (h1 : FrW2 S0 S1) (h2 : FrW2 S1 S2) : FrW2 S0 S2 := ⟨fun i k a b c d e f g => (h2.1 i k a b c d e f g).trans (h1.1 i k a b c d e f g), h2.2.trans h1.2⟩
theorem FrWk.w2 {T T' : gS} (h : FrWk T T') : FrW2 T T' := ⟨fun i k a b c d e f g => h.1 i k a b c d e f (g.imp_right (fun z => ⟨z.1, z.2.1, z.2.2.1, z.2.2.2.2⟩)), h.2⟩
theorem KRel.fr2 {Wl hid : Int64} {T T' : gS} (h : KRel Wl hid T) (hf : FrW2 T T') : KRel Wl hid T' := by
  intro c hc
  have e1 := hf.1 57 c (by decide) (by decide) (by decide) (by decide) (by decide) (by decide) (Or.inl (by decide))
  have e2 := hf.1 51 19 (by decide) (by decide) (by decide) (by decide) (by decide) (by decide) (Or.inr (by decide))
  unfold hidM
  rw [e1, e2]
  exact h c hc
theorem dist_bound {op : Nat → Bool} {wt : Nat → Nat} {a b : Nat} {cl : Int64} (ha : a < 64) (hbb : b < 64) (hw : ∀ n, 1 ≤ wt n ∧ wt n ≤ 31) (hcl : ∀ c, op c = (decide (c < 64) && !hb cl c)) : (∀ d, ¬ Rch op wt b a d) ∨ ∃ d, d < 1985 ∧ isD op wt b a d := by
  rcases find_spec (F := 3000) (sn := 0) (cl := cl) (S := (fun _ k => nI (wt k - 1), fun _ _ => 0)) (by decide) ha hbb hw hcl (by decide) (by decide) (by decide) (fun c _ => by
    show nI (wt c - 1) + 1 = _
    rw [nI_1]; congr 1; have := hw c; omega) with ⟨S', h, -⟩ | ⟨d, l, S', h1, h2, -⟩
  · exact Or.inl h
  · exact Or.inr ⟨d, h2, h1⟩
def op0 (Wl hid : Int64) : Nat → Bool := fun c => decide (c < 64) && !hb (Wl ||| hid) c
def StV (Wl hid : Int64) (a b : Nat) (v : Int32) : Prop := (∃ d, d < 1985 ∧ isD (op0 Wl hid) (fun _ => 1) b a d ∧ v = nI d) ∨ ((∀ d, ¬ Rch (op0 Wl hid) (fun _ => 1) b a d) ∧ v = -1)
theorem StV_u {Wl hid : Int64} {a b : Nat} {v v' : Int32} (h : StV Wl hid a b v) (h' : StV Wl hid a b v') : v = v' := by
  rcases h with ⟨d, _, h1, h2⟩ | ⟨h1, h2⟩ <;> rcases h' with ⟨d', _, g1, g2⟩ | ⟨g1, g2⟩
  · rw [h2, g2, isD_u h1 g1]
  · exact absurd h1.1 (g1 d)
  · exact absurd g1.1 (h1 d')
  · rw [h2, g2]
def Fr67 (T T' : gS) : Prop := (∀ i k, i ≠ 67 → T'.1 i k = T.1 i k) ∧ T'.2 = T.2
theorem knows_spec {F : Nat} (hF : 64 < F) (fl : Int32) (T : gS) : ∃ T', fX8_knows F fl T = some T' ∧ Fr67 T T' ∧ ∀ c, c < 64 → T'.1 67 c = if fl ≠ 0 ∧ hidM T c = true then 1 else 0 := by
  obtain ⟨r, ⟨T', h1, h2, h3⟩, hr⟩ := fix_up (body := fun k2 s => bX8_knows_2 F k2 s.1 s.2.1 s.2.2) 64
    (fun c s => ∃ T', s = (fl, nI c, T') ∧ Fr67 T T' ∧ ∀ x, x < c → T'.1 67 x = if fl ≠ 0 ∧ hidM T x = true then 1 else 0)
    (fun r => ∃ T', r = some T' ∧ Fr67 T T' ∧ ∀ x, x < 64 → T'.1 67 x = if fl ≠ 0 ∧ hidM T x = true then 1 else 0)
    (by
      rintro c s hc ⟨T', rfl, g1, g2⟩
      have e30 : ∀ k v, bX8_knows_30 F k fl (nI c) v (nI c) T' = k (fl, nI (c + 1), g_setI T' 67 c (vp_nar .boolean v)) := fun k v => by
        unfold bX8_knows_30
        rw [chk_nI hc (by decide), nI_clamp (by omega)]
        simp only [gl_def, nI_1]
      have c64 : ¬ ((64 : Int32) ≤ nI c) := nI_ge hc (by decide)
      have eh : hidM T' c = hidM T c := by unfold hidM; rw [g1.1 57 c (by decide), g1.1 51 19 (by decide)]
      have v0 : vp_nar .boolean 0 = 0 := by decide
      have v1 : vp_nar .boolean 1 = 1 := by decide
      refine Or.inl ⟨(fl, nI (c + 1), g_setI T' 67 c (if fl ≠ 0 ∧ hidM T c = true then 1 else 0)), ⟨_, rfl, ⟨fun i k h => by rw [rI_ne _ _ (Or.inl h)]; exact g1.1 i k h, g1.2⟩, fun x hx => ?_⟩, fun k => ?_⟩
      · by_cases q : x = c
        · subst q; rw [rI_same]
        · rw [rI_ne _ _ (Or.inr q)]; exact g2 x (by omega)
      · show bX8_knows_2 F k fl (nI c) T' = _
        unfold bX8_knows_2
        rw [if_neg c64]
        by_cases q : fl = 0
        · rw [if_pos q]
          unfold bX8_knows_29
          rw [e30, v0]; simp [q]
        · rw [if_neg q, isHidden_spec F T' hc, eh]
          simp only [Option.bind_some]
          by_cases q2 : hidM T c = true
          · simp only [q2, if_true]
            rw [if_neg (by decide), e30, v1]; simp [q]
          · have q2' : hidM T c = false := by simpa using q2
            simp only [q2']
            rw [if_pos (by decide)]
            unfold bX8_knows_29
            rw [e30, v0]; simp)
    (by
      rintro s ⟨T', rfl, g1, g2⟩
      refine ⟨some T', ⟨T', rfl, g1, g2⟩, fun k => ?_⟩
      show bX8_knows_2 F k fl (nI 64) T' = _
      unfold bX8_knows_2
      rw [if_pos (by decide)])
    F (fl, (0 : Int32), T) ⟨T, rfl, ⟨fun _ _ _ => rfl, rfl⟩, fun x hx => by omega⟩ hF
  exact ⟨T', by rw [← h1, ← hr]; rfl, h2, h3⟩
def FrSt (T T' : gS) : Prop := (∀ i k, i ≠ 67 → i ≠ 68 → T'.1 i k = T.1 i k) ∧ T'.2 = T.2
theorem straightOf_spec {F wi a b : Nat} {Wl hid : Int64} {T : gS} (hF : 20000000 < F) (hwi : wi < 8) (ha : a < 64) (hbb : b < 64) (hKR : KRel Wl hid T) (hfr : T.1 62 wi = nI a) (hto : T.1 63 wi = nI b) :
    ∃ v T', fX8_straightOf F (nI wi) T = some (v, T') ∧ FrSt T T' ∧ StV Wl hid a b v := by
  obtain ⟨T1, e1, e2, e3⟩ := knows_spec (F := F) (by omega) 1 T
  have eh : ∀ c, hidM T1 c = hidM T c := fun c => by unfold hidM; rw [e2.1 57 c (by decide), e2.1 51 19 (by decide)]
  have hMOp : MOp (op0 Wl hid) T1 := fun x hx => by
    obtain ⟨k1, k2⟩ := hKR x hx
    unfold op0
    rw [hb_or, ← k1, ← k2, e2.1 57 x (by decide), e3 x hx]
    by_cases q : T.1 57 x = 1 <;> by_cases q2 : hidM T x = true <;> simp [q, q2, hx]
  have hop2 : ∀ c, op0 Wl hid c = true → c < 64 := fun c h => by unfold op0 at h; simp at h; exact h.1
  have hMWt : MWt (fun _ => 1) 1 T1 := ⟨fun _ => ⟨Nat.le_refl 1, show 1 ≤ 31 by decide⟩, fun z => absurd z (by decide), fun _ _ => rfl⟩
  obtain ⟨T2, g1, g2, g3⟩ := findCosts_spec (F := F) hF hbb hMOp hop2 hMWt
  have hf2 : T2.1 62 wi = nI a := by rw [g2.1 62 wi (by decide), e2.1 62 wi (by decide)]; exact hfr
  have hbe : begM T2 a = op0 Wl hid a := by
    obtain ⟨k1, k2⟩ := hKR a ha
    have : hidM T2 a = hidM T a := by unfold hidM; rw [g2.1 57 a (by decide), g2.1 51 19 (by decide), e2.1 57 a (by decide), e2.1 51 19 (by decide)]
    unfold begM op0
    rw [this, g2.1 57 a (by decide), e2.1 57 a (by decide), hb_or, ← k1, ← k2]
    by_cases q : T.1 57 a = 1 <;> simp [q, ha]
  have hhead : fX8_straightOf F (nI wi) T = if (if begM T2 a then (1 : Int32) else 0) = 0 then some (-1, T2) else (if (100000 : Int32) ≤ T2.1 68 a then some (-1, T2) else some (T2.1 68 a, T2)) := by
    unfold fX8_straightOf
    rw [e1]
    simp only [Option.bind_some]
    rw [chk_nI hwi (by decide), nI_clamp (by omega), show g_I T1 63 wi = nI b by show T1.1 63 wi = _; rw [e2.1 63 wi (by decide)]; exact hto, g3]
    simp only [Option.bind_some]
    rw [chk_nI hwi (by decide), show g_I T2 62 wi = nI a from hf2, mayBegin_spec F T2 ha]
    simp only [Option.bind_some, show g_I T2 62 wi = nI a from hf2, chk_nI hwi (show 8 < 2 ^ 31 by decide), chk_nI ha (show 64 < 2 ^ 31 by decide), nI_clamp (show a < 2 ^ 31 by omega)]
  have frst : FrSt T T2 := ⟨fun i k h1 h2 => by rw [g2.1 i k h2, e2.1 i k h1], g2.2.trans e2.2⟩
  rcases dist_bound (op := op0 Wl hid) (wt := fun _ => 1) (cl := Wl ||| hid) ha hbb (fun _ => ⟨by omega, by omega⟩) (fun _ => rfl) with hno | ⟨d, hd, hD⟩
  · refine ⟨-1, T2, ?_, frst, Or.inr ⟨hno, rfl⟩⟩
    rw [hhead]
    by_cases q : begM T2 a = true
    · rw [q]; simp only [if_true]
      obtain ⟨a1, a2, a3, a4⟩ := g1 a ha
      have hk : ¬ kk T2 a < 100000 := fun z => hno _ (a3 z)
      rw [if_neg (by decide), if_pos]
      rw [a1]; exact nI_le (a := 100000) (by omega) (by omega)
    · have q' : begM T2 a = false := by simpa using q
      rw [q']; rfl
  · refine ⟨nI d, T2, ?_, frst, Or.inl ⟨d, hd, hD, rfl⟩⟩
    rw [hhead, hbe, rch_op hD.1]
    simp only [if_true]
    have hk : kk T2 a = d := (CE_D g1 ha (by omega)).mp hD
    rw [if_neg (by decide), (g1 a ha).1, hk, if_neg (show ¬ ((100000 : Int32) ≤ nI d) from nI_ge (b := 100000) (by omega) (by decide))]
theorem walk_rel {F o wi a b : Nat} {Wl hid : Int64} {S T : gS} (hF : 20000000 < F) (ho : 16 ≤ o ∧ o ≤ 39) (hwi : wi < 8) (ha : a < 64) (hbb : b < 64) (hWl : S.2 1 3 = Wl) (hKR : KRel Wl hid T) (hfr : T.1 62 wi = nI a) (hto : T.1 63 wi = nI b) (hTR : TR o S T) :
    ∃ ok v S' T', (ok = 0 ∨ ok = 1) ∧ fX3_go F o (nI a) (nI b) hid S = some (ok, S') ∧ fX8_walks F (nI wi) T = some T' ∧ StV Wl hid a b v ∧
      T'.1 51 24 = (if ok = 0 then T.1 51 24 else T.1 51 24 + ((T'.1 51 22 - T.1 51 22) - v)) ∧
      TR o S' T' ∧ FrGo o S S' ∧ FrW2 T T' ∧ Kp 4160 T T' := by
  obtain ⟨T1, e1, e2, e3⟩ := knows_spec (F := F) (by omega) 0 T
  have hK0 : ∀ x, x < 64 → T1.1 67 x = 0 := fun x hx => by rw [e3 x hx]; simp
  have frk : FrWk T T1 := ⟨fun i k _ _ _ h _ _ _ => e2.1 i k h, e2.2⟩
  have hKR1 := hKR.fr frk
  have hTR1 : TR o S T1 := by
    obtain ⟨a1, a2, a3, a4⟩ := hTR
    refine ⟨fun x hx => ?_, ?_, ?_, ?_⟩
    · rw [e2.1 64 x (by decide), e2.1 66 x (by decide)]; exact a1 x hx
    · rw [e2.1 51 21 (by decide)]; exact a2
    · rw [e2.1 51 22 (by decide)]; exact a3
    · rw [e2.1 51 23 (by decide)]; exact a4
  have hM1 : Kp 0 T T1 := Kp_of (fun x _ => ⟨e2.1 64 x (by decide), e2.1 65 x (by decide), e2.1 66 x (by decide)⟩) (e2.1 51 21 (by decide))
  have hto1 : T1.1 63 wi = nI b := by rw [e2.1 63 wi (by decide)]; exact hto
  have hfr1 : T1.1 62 wi = nI a := by rw [e2.1 62 wi (by decide)]; exact hfr
  -- the end, from the loops' ends
  have fin : ∀ (ok : Int32) (S2 T2 : gS), (ok = 0 ∨ ok = 1) → TR o S2 T2 → FrGo o S S2 → FrWk T T2 → T2.1 51 24 = T.1 51 24 → Kp 4160 T T2 →
      ∃ v S' T', (if ok = 0 then bX3_go_89 F o S2 else some (1, S2)) = some (ok, S') ∧ bX8_walks_108 F (nI wi) (T.1 51 22) ok T2 = some T' ∧ StV Wl hid a b v ∧
        T'.1 51 24 = (if ok = 0 then T.1 51 24 else T.1 51 24 + ((T'.1 51 22 - T.1 51 22) - v)) ∧ TR o S' T' ∧ FrGo o S S' ∧ FrW2 T T' ∧ Kp 4160 T T' := by
    intro ok S2 T2 hok hTR2 hfg hfw h24 hM2
    obtain ⟨a1, a2, a3, a4⟩ := hTR2
    have hfr2 : ∀ v, (g_setI T2 51 23 v).1 62 wi = nI a := fun v => by
      rw [rI_ne _ _ (Or.inl (by decide)), hfw.1 62 wi (by decide) (by decide) (by decide) (by decide) (by decide) (by decide) (Or.inl (by decide))]; exact hfr
    have hto2 : ∀ v, (g_setI T2 51 23 v).1 63 wi = nI b := fun v => by
      rw [rI_ne _ _ (Or.inl (by decide)), hfw.1 63 wi (by decide) (by decide) (by decide) (by decide) (by decide) (by decide) (Or.inl (by decide))]; exact hto
    have fr23 : ∀ v, FrWk T2 (g_setI T2 51 23 v) := fun v => ⟨fun i k _ _ _ _ _ _ h => rI_ne _ _ (h.imp_right (fun z => z.2.2.1)), rfl⟩
    have hM23 : ∀ v, Kp 4160 T (g_setI T2 51 23 v) := fun v => hM2.tr (Kp_of (fun x _ => ⟨rI_ne _ _ (Or.inl (by decide)), rI_ne _ _ (Or.inl (by decide)), rI_ne _ _ (Or.inl (by decide))⟩) (rI_ne _ _ (Or.inr (by decide)))) (by omega)
    rcases hok with rfl | rfl
    · obtain ⟨v, T3, -, -, s3⟩ := straightOf_spec (F := F) hF hwi ha hbb hKR hfr hto
      refine ⟨v, g_setI S2 o 6 (S2.1 o 6 + 1), g_setI T2 51 23 (T2.1 51 23 + 1), ?_, ?_, s3, ?_, ⟨fun x hx => ?_, ?_, ?_, ?_⟩, hfg.tr ⟨fun i k _ _ _ h _ _ => rI_ne _ _ (Or.inl h), fun _ _ _ _ => rfl⟩, (hfw.tr (fr23 _)).w2, hM23 _⟩
      · rw [if_pos rfl]; rfl
      · unfold bX8_walks_108 bX8_walks_123
        rw [if_pos rfl]
        simp only [gl_def]
        rw [if_pos trivial]
      · rw [if_pos rfl, rI_ne _ _ (Or.inr (by decide))]; exact h24
      · rw [rI_ne _ _ (Or.inl (by omega)), rI_ne _ _ (Or.inl (by omega)), rI_ne _ _ (Or.inl (by omega)), rI_ne _ _ (Or.inl (by omega))]; exact a1 x hx
      · rw [rI_ne _ _ (Or.inr (by decide)), rI_ne _ _ (Or.inr (by decide))]; exact a2
      · rw [rI_ne _ _ (Or.inr (by decide)), rI_ne _ _ (Or.inr (by decide))]; exact a3
      · rw [rI_same, rI_same, a4]
    · obtain ⟨v, T3, s1, s2, s3⟩ := straightOf_spec (F := F) (T := g_setI T2 51 23 (T2.1 51 23 + 0)) hF hwi ha hbb ((hKR.fr hfw).fr (fr23 _)) (hfr2 _) (hto2 _)
      have frs : FrWk (g_setI T2 51 23 (T2.1 51 23 + 0)) T3 := ⟨fun i k _ _ _ h h' _ _ => s2.1 i k h h', s2.2⟩
      refine ⟨v, S2, g_setI T3 51 24 (T2.1 51 24 + ((T2.1 51 22 - T.1 51 22) - v)), ?_, ?_, s3, ?_, ⟨fun x hx => ?_, ?_, ?_, ?_⟩, hfg, (hfw.tr ((fr23 _).tr frs)).w2.tr ⟨fun i k _ _ _ _ _ _ h => rI_ne _ _ (h.imp_right (fun z => z.2.2.2.1)), rfl⟩, ?_⟩
      · rw [if_neg (by decide)]
      · unfold bX8_walks_108 bX8_walks_123
        rw [if_neg (by decide)]
        simp only [gl_def]
        rw [if_neg (by decide), show g_I T2 51 23 = T2.1 51 23 from rfl, s1]
        simp only [Option.bind_some]
        have x1 : g_I (g_setI T2 51 23 (T2.1 51 23 + 0)) 51 24 = T2.1 51 24 := rI_ne _ _ (Or.inr (by decide))
        have x2 : g_I (g_setI T2 51 23 (T2.1 51 23 + 0)) 51 22 = T2.1 51 22 := rI_ne _ _ (Or.inr (by decide))
        rw [x1, x2]
      · rw [if_neg (by decide), rI_same, rI_ne _ _ (Or.inr (by decide)), s2.1 51 22 (by decide) (by decide), rI_ne _ _ (Or.inr (by decide)), h24]
      · rw [rI_ne _ _ (Or.inl (by decide)), rI_ne _ _ (Or.inl (by decide)), s2.1 64 x (by decide) (by decide), s2.1 66 x (by decide) (by decide), rI_ne _ _ (Or.inl (by decide)), rI_ne _ _ (Or.inl (by decide))]; exact a1 x hx
      · rw [rI_ne _ _ (Or.inr (by decide)), s2.1 51 21 (by decide) (by decide), rI_ne _ _ (Or.inr (by decide))]; exact a2
      · rw [rI_ne _ _ (Or.inr (by decide)), s2.1 51 22 (by decide) (by decide), rI_ne _ _ (Or.inr (by decide))]; exact a3
      · rw [rI_ne _ _ (Or.inr (by decide)), s2.1 51 23 (by decide) (by decide), rI_same, a4]; simp
      · exact (hM23 (T2.1 51 23 + 0)).tr (Kp_of (fun x _ => ⟨by rw [rI_ne _ _ (Or.inl (by decide)), s2.1 64 x (by decide) (by decide)], by rw [rI_ne _ _ (Or.inl (by decide)), s2.1 65 x (by decide) (by decide)], by rw [rI_ne _ _ (Or.inl (by decide)), s2.1 66 x (by decide) (by decide)]⟩) (by rw [rI_ne _ _ (Or.inr (by decide)), s2.1 51 21 (by decide) (by decide)])) (by omega)
  have hclass : ∀ r, g_fix (GB F o) F (nI b, hid, nI a, hid &&& bt a, nI 0, S) = r → fX3_go F o (nI a) (nI b) hid S = r := fun r h => by
    unfold fX3_go
    rw [bit_spec]
    simp only [Option.bind_some, gl_def]
    rw [← h]; rfl
  have hmodel : ∀ r, ((fX8_plans F (nI a) (nI b) T1).bind (fun q => g_fix (MB F) F (nI wi, nI a, T1.1 51 22, q.1, 0, q.2))) = r → fX8_walks F (nI wi) T = r := fun r h => by
    unfold fX8_walks
    rw [e1]
    simp only [Option.bind_some, gl_def]
    rw [chk_nI hwi (by decide), chk_nI hwi (by decide), nI_clamp (by omega), show g_I T1 62 wi = nI a from hfr1, show g_I T1 63 wi = nI b from hto1, ← h]
    rfl
  have h22 : T1.1 51 22 = T.1 51 22 := e2.1 51 22 (by decide)
  by_cases hha : hb hid a = true
  · -- it begins on something hidden
    have hopc : ∀ x, (fun x => decide (x < 64) && !hb (Wl ||| (hid &&& bt a)) x) x = (decide (x < 64) && !hb (S.2 1 3 ||| (hid &&& bt a)) x) := fun x => by rw [hWl]
    obtain ⟨m1, hm1⟩ : ∃ m1, F = m1 + 1 := ⟨F - 1, by omega⟩
    have hcl : hb (S.2 1 3 ||| (hid &&& bt a)) a = true := by rw [hb_or, hb_and, hb_bt ha ha, hha]; simp
    have hfi : fX4_find F (o + 1) (nI a) (nI b) (S.2 1 3 ||| (hid &&& bt a)) S = some (-1, g_setI S 12 3 0) := by
      unfold fX4_find
      simp only [gl_def]
      rw [has_spec F _ ha]
      simp only [Option.bind_some, hasV, hcl, if_true]
      rw [if_neg (by decide)]
    have hMOp : MOp (fun x => decide (x < 64) && !hb Wl x) T1 := fun x hx => by
      have := (hKR1 x hx).1
      dsimp only
      rw [← this, hK0 x hx]
      by_cases q : T1.1 57 x = 1 <;> simp [q, hx]
    have hMWt : MWt (fun n => if n < 64 then 1 + min 30 (T1.1 64 n).toNatClampNeg else 1) 0 T1 := by
      refine ⟨fun n => ?_, fun _ x hx => ?_, fun z => absurd rfl z⟩
      · dsimp only; split <;> omega
      · obtain ⟨-, -, w, hw, ew⟩ := hTR1.1 x hx
        dsimp only
        rw [ew, nI_clamp (by omega), if_pos hx, Nat.min_eq_right hw, show (1 : Int32) = nI 1 from rfl, nI_add]
    have hbe : begM T1 a = false := by unfold begM; rw [(hKR1 a ha).2, hha]; simp
    obtain ⟨T2, k1, k2⟩ := plans_no (F := F) (b := b) hF hMOp (fun x h => by simp at h; exact h.1) hMWt ha hbb (Or.inl hbe)
    have frf : FrFi S (g_setI S 12 3 0) := ⟨fun i k _ _ h => rI_ne _ _ h, fun _ _ _ _ => rfl⟩
    obtain ⟨v, S3, T3, f1, f2, f3, f4, f5, f6, f7, f8⟩ := fin 0 (g_setI S 12 3 0) T2 (Or.inl rfl) (TR_pl ho frf k1 hTR1) frf.go (frk.tr k1.wk) (by rw [k1.1 51 24 (by decide) (by decide) (Or.inr (by decide)), e2.1 51 24 (by decide)]) (hM1.tr (Kp_pl k1) (by omega))
    refine ⟨0, v, S3, T3, Or.inl rfl, hclass _ ?_, hmodel _ ?_, f3, f4, f5, f6, f7, f8⟩
    · rw [← f1]
      rw [fix_pos (body := GB F o) (by omega)]
      show bX3_go_14 F o _ (nI b) hid (nI a) (hid &&& bt a) (nI 0) S = _
      unfold bX3_go_14
      rw [if_neg (by decide), show g_J S 1 3 = S.2 1 3 from rfl, hfi]
      simp only [Option.bind_some]
      rw [if_pos trivial, if_pos trivial]
    · rw [k2, ← f2, h22]
      simp only [Option.bind_some]
      rw [fix_pos (body := MB F) (by omega)]
      show bX8_walks_33 F _ (nI wi) (nI a) (T.1 51 22) 0 0 T2 = _
      unfold bX8_walks_33
      rw [if_pos rfl]
  · have hha' : hb hid a = false := by simpa using hha
    have hz : hid &&& bt a = 0 := hb_false_0 (fun x hx => by
      rw [hb_and, hb_bt ha hx]
      by_cases q : x = a
      · subst q; rw [hha']; rfl
      · simp [q])
    obtain ⟨ok, S2, T2, g1, g2, g3, g4, g5, g6, g7⟩ := go_rel (F := F) (wi := wi) (bf := T1.1 51 22) hF ho hwi hbb 64 a 0 0 S T1 F F ha hha' (cntB_le _ 64) (by omega) (by omega) (by omega) hWl hKR1 (fun x hx => by rw [hK0 x hx, hb_0]; rfl) hto1 hTR1
    obtain ⟨v, S3, T3, f1, f2, f3, f4, f5, f6, f7, f8⟩ := fin ok S2 T2 g1 g4 g5 (frk.tr g6) (by rw [g6.1 51 24 (by decide) (by decide) (by decide) (by decide) (by decide) (by decide) (Or.inr (by decide)), e2.1 51 24 (by decide)]) (hM1.tr g7 (by omega))
    refine ⟨ok, v, S3, T3, g1, hclass _ ?_, hmodel _ ?_, f3, f4, f5, f6, f7, f8⟩
    · rw [hz, g2, f1]
    · rw [h22] at g3 ⊢; rw [g3, f2]

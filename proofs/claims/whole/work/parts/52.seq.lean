/-! a try, from its beginning on, of walkers one behind the other -/
def FrTr (T T' : gS) : Prop := (∀ i k, i ≠ 57 → i ≠ 64 → i ≠ 65 → i ≠ 66 → (i ≠ 51 ∨ (k ≠ 19 ∧ k ≠ 21 ∧ k ≠ 22 ∧ k ≠ 23 ∧ k ≠ 24)) → T'.1 i k = T.1 i k) ∧ T'.2 = T.2
theorem FrTr.fm {T T' : gS} (h : FrTr T T') : FM T T' := ⟨fun i k hp => h.1 i k (by unfold per at hp; omega) (by unfold per at hp; omega) (by unfold per at hp; omega) (by unfold per at hp; omega) (by unfold per at hp; omega), h.2⟩
theorem FrBg.fm {T T' : gS} (h : FrBg T T') : FM T T' := ⟨fun i k hp => h.1 i k (by unfold per at hp; omega) (by unfold per at hp; omega) (by unfold per at hp; omega) (by unfold per at hp; omega), h.2⟩
theorem tries_rel {F : Nat} {S T : gS} (hF : 100 < F) (h : InvT S T) : ∃ T', fX8_tries F T = some T' ∧ FrTr T T' ∧ KRel (S.2 1 3) (S.2 1 4) T' ∧ (∀ c, c < 64 → T'.1 64 c = T.1 58 c ∧ T'.1 65 c = T.1 59 c ∧ T'.1 66 c = 0) ∧ T'.1 51 21 = 0 ∧ T'.1 51 22 = 0 ∧ T'.1 51 23 = 0 ∧ T'.1 51 24 = 0 ∧ T'.1 51 19 = -1 ∧ (∀ c, c < 64 → T'.1 57 c = if hb (S.2 1 3) c then 1 else if hb (S.2 1 4) c then 2 else 0) := by
  obtain ⟨T1, e1, e2, e3, e4⟩ := reads_rel hF h
  obtain ⟨T2, g1, g2, g3, g4, g5, g6, g7⟩ := begins_spec (F := F) (T := g_setI T1 51 19 (-1)) (by omega)
  have h57 : ∀ c, c < 64 → T2.1 57 c = if hb (S.2 1 3) c then 1 else if hb (S.2 1 4) c then 2 else 0 := fun c hc => by
    rw [g2.1 57 c (by decide) (by decide) (by decide) (Or.inl (by decide)), rI_ne _ _ (Or.inl (by decide)), e4 c hc]
  have h19 : T2.1 51 19 = -1 := by rw [g2.1 51 19 (by decide) (by decide) (by decide) (Or.inr (by decide)), rI_same]
  refine ⟨T2, ?_, ⟨fun i k a b c d e => ?_, ?_⟩, fun c hc => ?_, fun c hc => ?_, g4, g5, g6, g7, h19, h57⟩
  · unfold fX8_tries
    rw [e1]
    simp only [Option.bind_some, gl_def]
    rw [g1]; rfl
  · rw [g2.1 i k b c d (e.imp_right (fun z => z.2)), rI_ne _ _ (e.imp_right (fun z => z.1)), e2 i k a]
  · rw [g2.2, rJ_I, e3]
  · unfold hidM
    rw [h57 c hc, h19]
    have : ¬ nI c = -1 := nI_nm1 (by omega)
    obtain ⟨len, _, _, _, _, _, h6⟩ := h
    have h6' := h6 c hc
    by_cases q1 : hb (S.2 1 3) c = true
    · have q2 : hb (S.2 1 4) c = false := by
        rw [h6'.1] at q1; rw [h6'.2]; simp at q1 ⊢; intro _ h; rw [q1.2] at h; cases h
      simp [q1, q2, this]
    · by_cases q2 : hb (S.2 1 4) c = true <;> simp [q1, q2, this]
  · have := g3 c hc
    rw [rI_ne _ _ (Or.inl (by decide)), rI_ne _ _ (Or.inl (by decide)), e2 58 c (by decide), e2 59 c (by decide)] at this
    exact this
theorem TR_begin {o : Nat} {S S1 T T1 : gS} (hG : InvG S T) (h1 : ∀ c, c < 64 → S1.1 (o + 1) c = S.1 4 c ∧ S1.1 (o + 2) c = 0) (h2 : S1.1 o 4 = 0) (h3 : S1.1 o 5 = 0) (h4 : S1.1 o 6 = 0) (g1 : ∀ c, c < 64 → T1.1 64 c = T.1 58 c ∧ T1.1 65 c = T.1 59 c ∧ T1.1 66 c = 0) (g2 : T1.1 51 21 = 0) (g3 : T1.1 51 22 = 0) (g4 : T1.1 51 23 = 0) : TR o S1 T1 := by
  refine ⟨fun c hc => ?_, by rw [h2, g2], by rw [h3, g3], by rw [h4, g4]⟩
  obtain ⟨⟨w, w1, w2, w3⟩, -⟩ := hG c hc
  rw [(h1 c hc).1, (h1 c hc).2, (g1 c hc).1, (g1 c hc).2.2]
  exact ⟨by rw [w2, w3], rfl, w, w1, w3⟩
def snN (T : gS) (c : Nat) : Nat := (T.1 58 c).toNatClampNeg
def prN (T : gS) (c : Nat) : Nat := (T.1 59 c).toNatClampNeg
theorem MPr_begin {S T T1 : gS} (hG : InvG S T) (g1 : ∀ c, c < 64 → T1.1 64 c = T.1 58 c ∧ T1.1 65 c = T.1 59 c ∧ T1.1 66 c = 0) : MPr (snN T) (prN T) T1 := by
  intro c hc
  obtain ⟨⟨w, w1, w2, w3⟩, ⟨p, p1, p2, p3⟩, -⟩ := hG c hc
  have e1 : snN T c = w := by unfold snN; rw [w3, nI_clamp (by omega)]
  have e2 : prN T c = p := by unfold prN; rw [p3, nI_clamp (by omega)]
  refine ⟨w, ⟨by omega, by omega⟩, by rw [(g1 c hc).1, w3], ?_⟩
  rw [(g1 c hc).2.1, p3, e1, e2]
  congr 1; omega
/-- walkers of the class one behind the other; acc: what longer() adds up -/
def CRun (F o : Nat) (Wl hid : Int64) : List Nat → Int32 → gS → Int32 → gS → Prop
  | [], acc, S, acc', S' => acc' = acc ∧ S' = S
  | w :: ws, acc, S, acc', S' => ∃ ok v S1, (ok = 0 ∨ ok = 1) ∧ fX3_go F o (S.1 10 w) (S.1 11 w) hid S = some (ok, S1) ∧ FrGo o S S1 ∧
      (∃ a b, a < 64 ∧ b < 64 ∧ S.1 10 w = nI a ∧ S.1 11 w = nI b ∧ StV Wl hid a b v) ∧ CRun F o Wl hid ws (if ok = 0 then acc else acc + ((S1.1 o 5 - S.1 o 5) - v)) S1 acc' S'
def MRun (F : Nat) : List Nat → gS → gS → Prop
  | [], T, T' => T' = T
  | w :: ws, T, T' => ∃ T1, fX8_walks F (nI w) T = some T1 ∧ FrW2 T T1 ∧ MRun F ws T1 T'
theorem seq_rel {F o nW : Nat} {Wl hid : Int64} (hF : 20000000 < F) (ho : 16 ≤ o ∧ o ≤ 39) (hnW : nW ≤ 8) : ∀ (ws : List Nat) (S T : gS), (∀ w, w ∈ ws → w < nW) → (∀ w, w < nW → ∃ a b, a < 64 ∧ b < 64 ∧ S.1 10 w = nI a ∧ T.1 62 w = nI a ∧ S.1 11 w = nI b ∧ T.1 63 w = nI b) → S.2 1 3 = Wl → KRel Wl hid T → TR o S T →
    ∃ S' T', CRun F o Wl hid ws (T.1 51 24) S (T'.1 51 24) S' ∧ MRun F ws T T' ∧ TR o S' T' ∧ FrGo o S S' ∧ FrW2 T T' ∧ Kp (4160 * ws.length) T T' := by
  intro ws
  induction ws with
  | nil =>
    intro S T _ _ _ _ hTR
    exact ⟨S, T, ⟨rfl, rfl⟩, rfl, hTR, FrGo.rf o S, FrW2.rf T, (Kp.rf T).le (Nat.zero_le _)⟩
  | cons w ws ih =>
    intro S T hws hw hWl hKR hTR
    obtain ⟨a, b, ha, hb64, w1, w2, w3, w4⟩ := hw w (hws w List.mem_cons_self)
    obtain ⟨ok, v, S1, T1, k1, k2, k3, k4, k5, k6, k7, k8, k9⟩ := walk_rel (F := F) (hid := hid) hF ho (show w < 8 by have := hws w List.mem_cons_self; omega) ha hb64 hWl hKR w2 w4 hTR
    obtain ⟨S2, T2, g1, g2, g3, g4, g5, g6⟩ := ih S1 T1 (fun x hx => hws x (List.mem_cons_of_mem _ hx)) (fun x hx => by
      rw [k7.1 10 x (by decide) (by decide) (by decide) (by omega) (by omega) (by omega), k7.1 11 x (by decide) (by decide) (by decide) (by omega) (by omega) (by omega), k8.1 62 x (by decide) (by decide) (by decide) (by decide) (by decide) (by decide) (Or.inl (by decide)), k8.1 63 x (by decide) (by decide) (by decide) (by decide) (by decide) (by decide) (Or.inl (by decide))]
      exact hw x hx) (by rw [k7.2 1 3 (by decide) (by decide)]; exact hWl) (hKR.fr2 k8) k6
    refine ⟨S2, T2, ⟨ok, v, S1, k1, by rw [w1, w3]; exact k2, k7, ⟨a, b, ha, hb64, w1, w3, k4⟩, ?_⟩, ⟨T1, k3, k8, g2⟩, g3, k7.tr g4, k8.tr g5, k9.tr g6 (by simp only [List.length_cons]; omega)⟩
    rw [k5] at g1
    rw [k6.2.2.1, hTR.2.2.1]
    exact g1
/-- the reference's morning -/
theorem mornings_run {F nW : Nat} (hnW : nW ≤ 8) {T T' : gS} (h12 : T.1 51 12 = nI nW) : ∀ (j w : Nat) (T0 : gS), w + j = nW → FrW2 T T0 → MRun F ((List.range' w j)) T0 T' → ∀ m, g_fix (fun k2 s => bX8_mornings_2 F k2 s.1 s.2) (m + j + 1) (nI w, T0) = some T' := by
  intro j
  induction j with
  | zero =>
    intro w T0 hw hf h m
    simp only [List.range'_zero, MRun] at h
    subst h
    show bX8_mornings_2 F _ (nI w) T' = _
    unfold bX8_mornings_2
    rw [if_pos]
    show T'.1 51 12 ≤ nI w
    rw [hf.1 51 12 (by decide) (by decide) (by decide) (by decide) (by decide) (by decide) (Or.inr (by decide)), h12]
    exact nI_le (by omega) (by omega)
  | succ j ih =>
    intro w T0 hw hf h m
    rw [List.range'_succ] at h
    obtain ⟨T1, h1, h2, h3⟩ := h
    rw [show m + (j + 1) + 1 = (m + j + 1) + 1 by omega]
    show bX8_mornings_2 F (g_fix _ (m + j + 1)) (nI w) T0 = _
    unfold bX8_mornings_2
    rw [if_neg, h1]
    · simp only [Option.bind_some, gl_def, nI_1]
      exact ih (w + 1) T1 (by omega) (hf.tr h2) h3 m
    · show ¬ T0.1 51 12 ≤ nI w
      rw [hf.1 51 12 (by decide) (by decide) (by decide) (by decide) (by decide) (by decide) (Or.inr (by decide)), h12]
      exact nI_ge (by omega) (by omega)
theorem mornings_eq {F nW : Nat} (hF : 100 < F) (hnW : nW ≤ 8) {T T' : gS} (h12 : T.1 51 12 = nI nW) (h : MRun F (List.range' 0 nW) T T') : fX8_mornings F T = some T' := by
  have := mornings_run hnW h12 nW 0 T (by omega) (FrW2.rf T) h (F - nW - 1)
  rw [show F - nW - 1 + nW + 1 = F by omega] at this
  exact this
/-- the class's loop over the walkers but one (x1: the one that is ahead, none: -1) -/
def skipL (x : Option Nat) (l : List Nat) : List Nat := l.filter (fun w => decide (x ≠ some w))
theorem tryLoop_run {F nW : Nat} (hnW : nW ≤ 8) (x : Option Nat) (hx : ∀ n, x = some n → n < 8) {Wl : Int64} {S S' : gS} {acc acc' : Int32} (h9 : S.1 9 2 = nI nW) : ∀ (j w : Nat) (S0 : gS) (acc : Int32), w + j = nW → FrGo 16 S S0 → CRun F 16 Wl (S.2 1 4) (skipL x (List.range' w j)) acc S0 acc' S' → ∀ m, g_fix (fun k74 s => bX7_tryMorning_74 F k74 s.1 s.2.1 s.2.2) (m + j + 1) (oI x, nI w, S0) = some S' := by
  intro j
  induction j with
  | zero =>
    intro w S0 acc hw hf h m
    obtain ⟨-, h⟩ := h
    subst h
    show bX7_tryMorning_74 F _ (oI x) (nI w) S' = _
    unfold bX7_tryMorning_74
    rw [if_pos]
    show S'.1 9 2 ≤ nI w
    rw [hf.1 9 2 (by decide) (by decide) (by decide) (by decide) (by decide) (by decide), h9]
    exact nI_le (by omega) (by omega)
  | succ j ih =>
    intro w S0 acc hw hf h m
    have hnl : ¬ S0.1 9 2 ≤ nI w := by
      rw [hf.1 9 2 (by decide) (by decide) (by decide) (by decide) (by decide) (by decide), h9]
      exact nI_ge (by omega) (by omega)
    have e123 : ∀ k S1, bX7_tryMorning_123 F k (oI x) (nI w) S1 = k (oI x, nI (w + 1), S1) := fun k S1 => by unfold bX7_tryMorning_123; rw [gl_def, nI_1]
    have hJ : S0.2 1 4 = S.2 1 4 := hf.2 1 4 (by decide) (by decide)
    rw [show m + (j + 1) + 1 = (m + j + 1) + 1 by omega]
    show bX7_tryMorning_74 F (g_fix _ (m + j + 1)) (oI x) (nI w) S0 = _
    unfold bX7_tryMorning_74
    rw [if_neg hnl]
    rw [List.range'_succ] at h
    by_cases q : x = some w
    · have hsk : skipL x (w :: List.range' (w + 1) j) = skipL x (List.range' (w + 1) j) := by unfold skipL; rw [List.filter_cons]; simp [q]
      rw [hsk] at h
      rw [if_pos (by rw [q]; rfl), e123]
      exact ih (w + 1) S0 acc (by omega) hf h m
    · have hsk : skipL x (w :: List.range' (w + 1) j) = w :: skipL x (List.range' (w + 1) j) := by unfold skipL; rw [List.filter_cons]; simp [q]
      rw [hsk] at h
      obtain ⟨ok, v, S1, k1, k2, k3, k4, k5⟩ := h
      have hne : ¬ nI w = oI x := fun z => by
        cases hxx : x with
        | none => rw [hxx] at z; exact nI_nm1 (by omega) z
        | some n => rw [hxx] at z; exact q (by rw [hxx, nI_inj (by omega) (by have := hx n hxx; omega) z])
      rw [if_neg hne, chk_nI (show w < 8 by omega) (by decide), chk_nI (show w < 8 by omega) (by decide), nI_clamp (by omega), show g_J S0 1 4 = S.2 1 4 from hJ, show g_I S0 10 w = S0.1 10 w from rfl, show g_I S0 11 w = S0.1 11 w from rfl, k2]
      simp only [Option.bind_some]
      rw [e123]
      exact ih (w + 1) S1 _ (by omega) (hf.tr k3) k5 m
theorem skip_none (l : List Nat) : skipL none l = l := by unfold skipL; simp

/-! first, yard: mornings tried one behind the other -/
noncomputable def bareT (y : Option Nat) (T : gS) : gS := match y with
  | none => T
  | some c => g_setI T 64 c 0
theorem FrBg.w2 {T T' : gS} (h : FrBg T T') : FrW2 T T' := ⟨fun i k a b c _ _ _ g => h.1 i k a b c (g.imp_right (fun z => ⟨z.1, z.2.1, z.2.2.1, z.2.2.2.1⟩)), h.2⟩
theorem bareT_w2 (y : Option Nat) (T : gS) : FrW2 T (bareT y T) := by
  cases y with
  | none => exact FrW2.rf T
  | some c => exact ⟨fun i k a _ _ _ _ _ _ => rI_ne _ _ (Or.inl a), rfl⟩
theorem round_rel {F nW : Nat} {S T : gS} {x y : Option Nat} (hF : 20000000 < F) (h : Inv S T) (hK : KRel (S.2 1 3) (S.2 1 4) T) (hnW : nW ≤ 8) (h9 : S.1 9 2 = nI nW) (hx : ∀ n, x = some n → n < nW) (hy : ∀ c, y = some c → c < 64) :
    ∃ S' T1 T', fX7_tryMorning F (oI x) (oI y) S = some S' ∧ fX8_begins F T = some T1 ∧ MRun F (mornL nW x) (bareT y T1) T' ∧ TR 16 S' T' ∧ FrGo 16 S S' ∧ FrW2 T T' ∧ FrW2 T (bareT y T1) := by
  obtain ⟨hT, hG, ⟨nW', w1, w2, w3, w4⟩, hS, hf⟩ := h
  have hn : nW' = nW := nI_inj (by omega) (by omega) (w2.symm.trans h9)
  subst hn
  obtain ⟨S1, s1, s2, s3, s4, s5, s6⟩ := try_class (F := F) (x := x) (y := y) (by omega) w1 w2 hx hy
  obtain ⟨T1, t1, t2, t3, t4, t5, t6, t7⟩ := begins_spec (F := F) (T := T) (by omega)
  have fb : FrW2 T (bareT y T1) := t2.w2.tr (bareT_w2 y T1)
  have hTR : TR 16 S1 (bareT y T1) := by
    cases y with
    | none => exact TR_begin hG (fun c hc => by have := s2 c hc; rw [if_neg (by simp)] at this; exact this) s3 s4 s5 t3 t4 t5 t6
    | some c0 =>
      refine ⟨fun c hc => ?_, ?_, ?_, ?_⟩
      · obtain ⟨⟨w, q1, q2, q3⟩, -⟩ := hG c hc
        obtain ⟨a1, a2⟩ := s2 c hc
        obtain ⟨b1, b2, b3⟩ := t3 c hc
        show _ = (g_setI T1 64 c0 0).1 64 c ∧ _ = (g_setI T1 64 c0 0).1 66 c ∧ ∃ w, w ≤ 30 ∧ (g_setI T1 64 c0 0).1 64 c = nI w
        by_cases q : c0 = c
        · subst q
          rw [if_pos rfl] at a1
          rw [rI_same, rI_ne _ _ (by omega), b3]
          exact ⟨a1, a2, 0, by omega, rfl⟩
        · rw [if_neg (by simpa using q)] at a1
          rw [rI_ne _ _ (by omega), rI_ne _ _ (by omega), b1, b3]
          exact ⟨by rw [a1, q2, q3], a2, w, q1, q3⟩
      · rw [s3]; exact ((rI_ne _ _ (by omega)).trans t4).symm
      · rw [s4]; exact ((rI_ne _ _ (by omega)).trans t5).symm
      · rw [s5]; exact ((rI_ne _ _ (by omega)).trans t6).symm
  obtain ⟨S', T', g1, g2, g3, g4, g5, g6⟩ := seq_rel (F := F) (nW := nW') (Wl := S.2 1 3) (hid := S.2 1 4) hF ⟨by decide, by decide⟩ w1 (mornL nW' x) S1 (bareT y T1) (mornL_lt hx) (fun w hw => by
    rw [s1.1 10 w (by decide) (by decide) (by decide) (by decide) (by decide) (by decide), s1.1 11 w (by decide) (by decide) (by decide) (by decide) (by decide) (by decide), fb.1 62 w (by decide) (by decide) (by decide) (by decide) (by decide) (by decide) (Or.inl (by decide)), fb.1 63 w (by decide) (by decide) (by decide) (by decide) (by decide) (by decide) (Or.inl (by decide))]
    exact w4 w hw) (s1.2 1 3 (by decide) (by decide)) (hK.fr2 fb) hTR
  exact ⟨S', T1, T', s6 _ _ _ g1, t1, g2, g3, s1.tr g4, fb.tr g5, fb⟩
/-- what both keep beside a morning tried -/
def Beside (nW : Nat) (S0 T0 S T : gS) : Prop := Inv S T ∧ KRel (S.2 1 3) (S.2 1 4) T ∧ FC S0 S ∧ FM T0 T ∧ S.1 9 2 = nI nW ∧ T.1 51 12 = nI nW
theorem Beside.go {nW : Nat} {S0 T0 S T S' T' : gS} (h : Beside nW S0 T0 S T) (hs : FrGo 16 S S') (ht : FrW2 T T') : Beside nW S0 T0 S' T' := by
  obtain ⟨h1, h2, h3, h4, h5, h6⟩ := h
  refine ⟨h1.fr (hs.fc ⟨by decide, by decide⟩) ht.fm, ?_, h3.tr (hs.fc ⟨by decide, by decide⟩), h4.tr ht.fm, ?_, ?_⟩
  · rw [hs.2 1 3 (by decide) (by decide), hs.2 1 4 (by decide) (by decide)]; exact h2.fr2 ht
  · rw [hs.1 9 2 (by decide) (by decide) (by decide) (by decide) (by decide) (by decide)]; exact h5
  · rw [ht.1 51 12 (by decide) (by decide) (by decide) (by decide) (by decide) (by decide) (Or.inr (by decide))]; exact h6
theorem FC.set0 (S : gS) {k : Nat} (hk : 8 ≤ k) (v : Int32) : FC S (g_setI S 0 k v) := ⟨fun i j hp => rI_ne _ _ (by unfold per at hp; omega), fun _ => rfl⟩
theorem FM.set31 (S : gS) {k : Nat} (hk : 31 ≤ k) (v : Int32) : FM S (g_setI S 51 k v) := ⟨fun i j hp => rI_ne _ _ (by unfold per at hp; omega), rfl⟩
theorem Beside.s0 {nW : Nat} {S0 T0 S T : gS} (h : Beside nW S0 T0 S T) {k : Nat} (hk : 8 ≤ k) (v : Int32) : Beside nW S0 T0 (g_setI S 0 k v) T := by
  obtain ⟨h1, h2, h3, h4, h5, h6⟩ := h
  exact ⟨h1.fr (FC.set0 S hk v) (FM.rf T), h2, h3.tr (FC.set0 S hk v), h4, by rw [rI_ne _ _ (by omega)]; exact h5, h6⟩
theorem Beside.t31 {nW : Nat} {S0 T0 S T : gS} (h : Beside nW S0 T0 S T) {k : Nat} (hk : 31 ≤ k) (v : Int32) : Beside nW S0 T0 S (g_setI T 51 k v) := by
  obtain ⟨h1, h2, h3, h4, h5, h6⟩ := h
  refine ⟨h1.fr (FC.rf S) (FM.set31 T hk v), fun c hc => ?_, h3, h4.tr (FM.set31 T hk v), h5, by rw [rI_ne _ _ (by omega)]; exact h6⟩
  have := h2 c hc
  unfold hidM at this ⊢
  rw [rI_ne _ _ (by omega), rI_ne _ _ (by omega)]
  exact this
/-- the beginning of a trying of many -/
theorem beside_0 {F : Nat} {S T : gS} (hF : 100 < F) (h : Inv S T) : ∃ nW T1, nW ≤ 8 ∧ fX8_tries F T = some T1 ∧ Beside nW S T S T1 ∧ (∀ c, c < 64 → T1.1 57 c = if hb (S.2 1 3) c then 1 else if hb (S.2 1 4) c then 2 else 0) ∧ S.1 9 2 = nI nW ∧ T.1 51 12 = nI nW := by
  obtain ⟨hT, hG, ⟨nW, w1, w2, w3, w4⟩, hS, hf⟩ := id h
  obtain ⟨T1, t1, t2, t3, t4, t5, t6, t7, t8, t9, t10⟩ := tries_rel (F := F) hF hT
  exact ⟨nW, T1, w1, t1, ⟨h.fr (FC.rf S) t2.fm, t3, FC.rf S, t2.fm, w2, by rw [t2.1 51 12 (by decide) (by decide) (by decide) (by decide) (Or.inr (by decide))]; exact w3⟩, t10, w2, w3⟩
/-! first -/
noncomputable def fsB (F : Nat) (k21 : (Int32 × Int32 × Int32 × Int32 × gS) → Option (Int32 × gS)) : ((Int32 × Int32 × Int32 × Int32 × Int32 × gS) → Option (Int32 × gS)) → (Int32 × Int32 × Int32 × Int32 × Int32 × gS) → Option (Int32 × gS) := fun k43 s => bX8_firstOf_43 F k21 k43 s.1 s.2.1 s.2.2.1 s.2.2.2.1 s.2.2.2.2.1 s.2.2.2.2.2
theorem fsB_def (F : Nat) (k21 : (Int32 × Int32 × Int32 × Int32 × gS) → Option (Int32 × gS)) (k43 : (Int32 × Int32 × Int32 × Int32 × Int32 × gS) → Option (Int32 × gS)) (x1 x2 x3 x4 x5 : Int32) (S : gS) : fsB F k21 k43 (x1, x2, x3, x4, x5, S) = bX8_firstOf_43 F k21 k43 x1 x2 x3 x4 x5 S := rfl
noncomputable def fsE (F : Nat) (k21 : (Int32 × Int32 × Int32 × Int32 × gS) → Option (Int32 × gS)) (x1 x2 x3 x4 : Int32) (S : gS) : Option (Int32 × gS) := if x2 = (-1 : Int32) then (bX8_firstOf_84 F k21 x1 x4 S) else (if x3 ≤ (g_I S 51 21) then (bX8_firstOf_92 F k21 x1 x2 x3 x4 S) else (bX8_firstOf_84 F k21 x1 x4 S))
theorem fs_end {F : Nat} {k21 : (Int32 × Int32 × Int32 × Int32 × gS) → Option (Int32 × gS)} {k43 : (Int32 × Int32 × Int32 × Int32 × Int32 × gS) → Option (Int32 × gS)} {x1 x2 x3 x4 x5 : Int32} {S : gS} (h : S.1 51 12 ≤ x5) : bX8_firstOf_43 F k21 k43 x1 x2 x3 x4 x5 S = fsE F k21 x1 x2 x3 x4 S := by
  unfold bX8_firstOf_43 fsE
  rw [if_pos (show g_I S 51 12 ≤ x5 from h)]
theorem fs_same {F : Nat} {k21 : (Int32 × Int32 × Int32 × Int32 × gS) → Option (Int32 × gS)} {k43 : (Int32 × Int32 × Int32 × Int32 × Int32 × gS) → Option (Int32 × gS)} {x1 x2 x3 : Int32} {c : Nat} {S : gS} (h : ¬ S.1 51 12 ≤ nI c) : bX8_firstOf_43 F k21 k43 x1 x2 x3 (nI c) (nI c) S = k43 (x1, x2, x3, nI c, nI (c + 1), S) := by
  unfold bX8_firstOf_43 bX8_firstOf_65
  rw [if_neg (show ¬ g_I S 51 12 ≤ nI c from h), if_pos rfl, gl_def, nI_1]
theorem fs_go {F : Nat} {k21 : (Int32 × Int32 × Int32 × Int32 × gS) → Option (Int32 × gS)} {k43 : (Int32 × Int32 × Int32 × Int32 × Int32 × gS) → Option (Int32 × gS)} {x1 x2 x3 x4 : Int32} {c : Nat} {S S1 : gS} (h : ¬ S.1 51 12 ≤ nI c) (hne : ¬ nI c = x4) (hw : fX8_walks F (nI c) S = some S1) : bX8_firstOf_43 F k21 k43 x1 x2 x3 x4 (nI c) S = k43 (x1, x2, x3, x4, nI (c + 1), S1) := by
  unfold bX8_firstOf_43
  rw [if_neg (show ¬ g_I S 51 12 ≤ nI c from h), if_neg hne, hw, Option.bind_some]
  unfold bX8_firstOf_65
  rw [gl_def, nI_1]
theorem firstLoop_run {F nW w : Nat} (hnW : nW ≤ 8) (hw : w < nW) {k21 : (Int32 × Int32 × Int32 × Int32 × gS) → Option (Int32 × gS)} {x1 x2 x3 : Int32} {T T' : gS} (h12 : T.1 51 12 = nI nW) : ∀ (j k : Nat) (T0 : gS), k + j = nW → FrW2 T T0 → MRun F (skipL (some w) (List.range' k j)) T0 T' → ∀ m, g_fix (fsB F k21) (m + j + 1) (x1, x2, x3, nI w, nI k, T0) = fsE F k21 x1 x2 x3 (nI w) T' := by
  intro j
  induction j with
  | zero =>
    intro k T0 hk hf h m
    have h' : T' = T0 := h
    subst h'
    rw [fix_s, fsB_def, fs_end]
    rw [hf.1 51 12 (by decide) (by decide) (by decide) (by decide) (by decide) (by decide) (Or.inr (by decide)), h12]
    exact nI_le (by omega) (by omega)
  | succ j ih =>
    intro k T0 hk hf h m
    have hnl : ¬ T0.1 51 12 ≤ nI k := by
      rw [hf.1 51 12 (by decide) (by decide) (by decide) (by decide) (by decide) (by decide) (Or.inr (by decide)), h12]
      exact nI_ge (by omega) (by omega)
    rw [List.range'_succ] at h
    rw [fix_s, fsB_def]
    by_cases q : w = k
    · subst q
      have hsk : skipL (some w) (w :: List.range' (w + 1) j) = skipL (some w) (List.range' (w + 1) j) := by unfold skipL; rw [List.filter_cons]; simp
      rw [hsk] at h
      rw [fs_same hnl]
      exact ih (w + 1) T0 (by omega) hf h m
    · have hsk : skipL (some w) (k :: List.range' (k + 1) j) = k :: skipL (some w) (List.range' (k + 1) j) := by unfold skipL; rw [List.filter_cons]; simp [q]
      rw [hsk] at h
      obtain ⟨T1, k1, k2, k3⟩ := h
      rw [fs_go hnl (fun z => q (nI_inj (by omega) (by omega) z).symm) k1]
      exact ih (k + 1) T1 (by omega) (hf.tr k2) k3 m
theorem sf7_end {F : Nat} {k : (Int32 × gS) → Option gS} {x : Int32} {S : gS} (h : S.1 9 2 ≤ x) : bX7_seekFirst_12 F k x S = some S := by
  unfold bX7_seekFirst_12
  rw [if_pos (show g_I S 9 2 ≤ x from h)]
theorem sf7_take {F c : Nat} {k : (Int32 × gS) → Option gS} {S S1 : gS} (h : ¬ S.1 9 2 ≤ nI c) (ht : fX7_tryMorning F (nI c) (-1) S = some S1) (hq : S1.1 0 8 = -1 ∨ ¬ S1.1 0 9 ≤ S1.1 16 4) : bX7_seekFirst_12 F k (nI c) S = k (nI (c + 1), g_setI (g_setI S1 0 8 (nI c)) 0 9 (S1.1 16 4)) := by
  unfold bX7_seekFirst_12
  rw [if_neg (show ¬ g_I S 9 2 ≤ nI c from h), ht, Option.bind_some]
  have e : bX7_seekFirst_51 F k (nI c) S1 = k (nI (c + 1), g_setI (g_setI S1 0 8 (nI c)) 0 9 (S1.1 16 4)) := by
    unfold bX7_seekFirst_51
    rw [gl_def, gl_def, show g_I (g_setI S1 0 8 (nI c)) 16 4 = S1.1 16 4 from rI_ne _ _ (by omega)]
    unfold bX7_seekFirst_67
    rw [gl_def, nI_1]
  by_cases q : S1.1 0 8 = -1
  · rw [if_pos (show g_I S1 0 8 = -1 from q), e]
  · rw [if_neg (show ¬ g_I S1 0 8 = -1 from q), if_neg (show ¬ g_I S1 0 9 ≤ g_I S1 16 4 from hq.resolve_left q), e]
theorem sf7_skip {F c : Nat} {k : (Int32 × gS) → Option gS} {S S1 : gS} (h : ¬ S.1 9 2 ≤ nI c) (ht : fX7_tryMorning F (nI c) (-1) S = some S1) (hq : ¬ S1.1 0 8 = -1) (hq2 : S1.1 0 9 ≤ S1.1 16 4) : bX7_seekFirst_12 F k (nI c) S = k (nI (c + 1), S1) := by
  unfold bX7_seekFirst_12
  rw [if_neg (show ¬ g_I S 9 2 ≤ nI c from h), ht, Option.bind_some, if_neg (show ¬ g_I S1 0 8 = -1 from hq), if_pos (show g_I S1 0 9 ≤ g_I S1 16 4 from hq2)]
  unfold bX7_seekFirst_67
  rw [gl_def, nI_1]
theorem fs_take {F c : Nat} {k21 : (Int32 × Int32 × Int32 × Int32 × gS) → Option (Int32 × gS)} {x1 x2 x3 : Int32} {S : gS} (hq : x2 = -1 ∨ ¬ x3 ≤ S.1 51 21) : fsE F k21 x1 x2 x3 (nI c) S = k21 (x1, nI c, S.1 51 21, nI (c + 1), S) := by
  have e : bX8_firstOf_84 F k21 x1 (nI c) S = k21 (x1, nI c, S.1 51 21, nI (c + 1), S) := by
    unfold bX8_firstOf_84
    rw [gl_def]
    unfold bX8_firstOf_92
    rw [gl_def, nI_1]
  unfold fsE
  by_cases q : x2 = -1
  · rw [if_pos q, e]
  · rw [if_neg q, if_neg (show ¬ x3 ≤ g_I S 51 21 from hq.resolve_left q), e]
theorem fs_skip {F c : Nat} {k21 : (Int32 × Int32 × Int32 × Int32 × gS) → Option (Int32 × gS)} {x1 x2 x3 : Int32} {S : gS} (hq : ¬ x2 = -1) (hq2 : x3 ≤ S.1 51 21) : fsE F k21 x1 x2 x3 (nI c) S = k21 (x1, x2, x3, nI (c + 1), S) := by
  unfold fsE
  rw [if_neg hq, if_pos (show x3 ≤ g_I S 51 21 from hq2)]
  unfold bX8_firstOf_92
  rw [gl_def, nI_1]
theorem fo_step {F c nW : Nat} {k21 : (Int32 × Int32 × Int32 × Int32 × gS) → Option (Int32 × gS)} {x1 x2 x3 : Int32} {T T1 T' : gS} (hF : 100 < F) (hnW : nW ≤ 8) (hc : c < nW) (h12 : T.1 51 12 = nI nW) (hb : fX8_begins F T = some T1) (hf : FrW2 T T1) (hr : MRun F (mornL nW (some c)) T1 T') : bX8_firstOf_21 F k21 x1 x2 x3 (nI c) T = fsE F k21 x1 x2 x3 (nI c) T' := by
  obtain ⟨T2, r1, r2, r3⟩ := hr
  unfold bX8_firstOf_21
  rw [if_neg (by show ¬ T.1 51 12 ≤ nI c; rw [h12]; exact nI_ge hc (by omega)), hb, Option.bind_some, r1, Option.bind_some]
  have := firstLoop_run (F := F) (k21 := k21) (x1 := x1) (x2 := x2) (x3 := x3) hnW hc h12 nW 0 T2 (by omega) (hf.tr r2) r3 (F - nW - 1)
  rw [show F - nW - 1 + nW + 1 = F by omega] at this
  exact this
theorem fo_end {F : Nat} {k21 : (Int32 × Int32 × Int32 × Int32 × gS) → Option (Int32 × gS)} {x1 x2 x3 x4 : Int32} {T : gS} (h : T.1 51 12 ≤ x4) : bX8_firstOf_21 F k21 x1 x2 x3 x4 T = some (if x1 = 0 then x2 else x3, T) := by
  unfold bX8_firstOf_21
  rw [if_pos (show g_I T 51 12 ≤ x4 from h)]
  by_cases q : x1 = 0
  · rw [if_pos q, if_pos q]
  · rw [if_neg q, if_neg q]
theorem first_rel {F nW : Nat} {S T : gS} (hF : 20000000 < F) (h : Inv S T) (h9 : S.1 9 2 = nI nW) (hnW : nW ≤ 8) (h0 : ¬ nW = 0) (a : Int32) : ∃ best few S' T', fX7_seekFirst F S = some S' ∧ S'.1 0 8 = best ∧ S'.1 0 9 = few ∧ fX8_firstOf F a T = some (if a = 0 then best else few, T') ∧ FC S S' ∧ FM T T' := by
  obtain ⟨nW', T1, w1, t1, hB, t10, w2, w3⟩ := beside_0 (F := F) (by omega) h
  have hn : nW' = nW := nI_inj (by omega) (by omega) (w2.symm.trans h9)
  subst hn
  have hB0 := (hB.s0 (k := 8) (by omega) (-1)).s0 (k := 9) (by omega) 0
  obtain ⟨x, y, ⟨best, few, S', T', e1, e2, e3, e4, e5, e6⟩, g1, g2⟩ := fix2 (b1 := fun k12 s => bX7_seekFirst_12 F k12 s.1 s.2) (b2 := fun k21 s => bX8_firstOf_21 F k21 s.1 s.2.1 s.2.2.1 s.2.2.2.1 s.2.2.2.2) nW'
    (fun c s t => ∃ best few S' T', s = (nI c, S') ∧ t = (a, best, few, nI c, T') ∧ S'.1 0 8 = best ∧ S'.1 0 9 = few ∧ Beside nW' S T S' T')
    (fun x y => ∃ best few S' T', x = some S' ∧ y = some (if a = 0 then best else few, T') ∧ S'.1 0 8 = best ∧ S'.1 0 9 = few ∧ FC S S' ∧ FM T T')
    (by
      rintro c s t hc ⟨best, few, S', T', rfl, rfl, k1, k2, k3⟩
      obtain ⟨S2, T2, T3, r1, r2, r3, r4, r5, r6, r7⟩ := round_rel (F := F) (x := some c) (y := none) hF k3.1 k3.2.1 w1 k3.2.2.2.2.1 (fun n hn => by cases hn; exact hc) (fun c hc => by cases hc)
      have z8 : S2.1 0 8 = best := by rw [r5.1 0 8 (by decide) (by decide) (by decide) (by decide) (by decide) (by decide)]; exact k1
      have z9 : S2.1 0 9 = few := by rw [r5.1 0 9 (by decide) (by decide) (by decide) (by decide) (by decide) (by decide)]; exact k2
      have hnl : ¬ S'.1 9 2 ≤ nI c := by rw [k3.2.2.2.2.1]; exact nI_ge hc (by omega)
      have hB2 := k3.go r5 r6
      have ef : S2.1 16 4 = T3.1 51 21 := r4.2.1
      by_cases q : best = -1 ∨ ¬ few ≤ T3.1 51 21
      · refine Or.inl ⟨_, _, ⟨nI c, T3.1 51 21, _, T3, rfl, rfl, ?_, ?_, (hB2.s0 (k := 8) (by omega) (nI c)).s0 (k := 9) (by omega) (S2.1 16 4)⟩, fun k => sf7_take hnl r1 (by rw [z8, z9, ef]; exact q), fun k => ?_⟩
        · rw [rI_ne _ _ (by omega), rI_same]
        · rw [rI_same, ef]
        · show bX8_firstOf_21 F k a best few (nI c) T' = _
          rw [fo_step (by omega) w1 hc k3.2.2.2.2.2 r2 r7 r3, fs_take q]
      · have q1 : ¬ best = -1 := fun z => q (Or.inl z)
        have q2 : few ≤ T3.1 51 21 := Decidable.of_not_not (fun z => q (Or.inr z))
        refine Or.inl ⟨_, _, ⟨best, few, S2, T3, rfl, rfl, z8, z9, hB2⟩, fun k => sf7_skip hnl r1 (by rw [z8]; exact q1) (by rw [z9, ef]; exact q2), fun k => ?_⟩
        show bX8_firstOf_21 F k a best few (nI c) T' = _
        rw [fo_step (by omega) w1 hc k3.2.2.2.2.2 r2 r7 r3, fs_skip q1 q2])
    (by
      rintro s t ⟨best, few, S', T', rfl, rfl, k1, k2, k3⟩
      refine ⟨_, _, ⟨best, few, S', T', rfl, rfl, k1, k2, k3.2.2.1, k3.2.2.2.1⟩, fun k => sf7_end (by rw [k3.2.2.2.2.1]; exact nI_le (Nat.le_refl _) (by omega)), fun k => fo_end (by rw [k3.2.2.2.2.2]; exact nI_le (Nat.le_refl _) (by omega))⟩)
    F F ((0 : Int32), g_setI (g_setI S 0 8 (-1)) 0 9 0) (a, (-1 : Int32), (0 : Int32), (0 : Int32), T1) ⟨-1, 0, _, T1, rfl, rfl, by rw [rI_ne _ _ (by omega), rI_same], rI_same _ _ _ _, hB0⟩ (by omega) (by omega)
  refine ⟨best, few, S', T', ?_, e3, e4, ?_, e5, e6⟩
  · unfold fX7_seekFirst
    rw [gl_def, gl_def, ← e1, ← g1]; rfl
  · unfold fX8_firstOf
    rw [if_neg (by show ¬ T.1 51 12 = 0; rw [w3]; exact nI_ne0 (by omega) (by omega)), t1, Option.bind_some, ← e2, ← g2]; rfl
theorem two_cases (a : Int32) : (a < 0 ∨ nI 2 ≤ a) ∨ a = 0 ∨ a = 1 := by
  rcases three a (n := 2) (by decide) with h | ⟨j, hj, rfl⟩
  · exact Or.inl h
  · rcases (show j = 0 ∨ j = 1 by omega) with rfl | rfl
    · exact Or.inr (Or.inl rfl)
    · exact Or.inr (Or.inr rfl)
theorem two8_01 (F : Nat) {a : Int32} (h : a = 0 ∨ a = 1) (S : gS) : fX8_isTwo F a S = some (1, S) := by
  rcases h with rfl | rfl
  · exact two8_in F (c := 0) (by decide) S
  · exact two8_in F (c := 1) (by decide) S
theorem two_nlt {a : Int32} (h : a = 0 ∨ a = 1) : ¬ a < 0 ∧ a ≤ 1 := by
  rcases h with rfl | rfl <;> decide
theorem two_out {a : Int32} (h : a < 0 ∨ nI 2 ≤ a) : a < 0 ∨ (¬ a < 0 ∧ ¬ a ≤ 1) := by
  by_cases q : a < 0
  · exact Or.inl q
  · exact Or.inr ⟨q, fun z => absurd (Int32.lt_of_lt_of_le (show (1 : Int32) < nI 2 by decide) (h.resolve_left q)) (Int32.not_lt.mpr z)⟩
theorem op_first {F : Nat} (hF : 20000000 < F) (a : Int32) : Op Int32 (fX7_first F a) (fX8_first F a) := Op.try (fun S T h => by
  rcases two_cases a with hout | ha
  · refine ⟨-2, S, T, ?_, ?_, FC.rf S, FM.rf T⟩
    · unfold fX7_first
      rcases two_out hout with h1 | ⟨h1, h2⟩
      · rw [if_pos h1]
      · rw [if_neg h1, if_neg h2]
    · unfold fX8_first; rw [two8_out F hout, Option.bind_some, if_pos eq00]
  · obtain ⟨h1, h2⟩ := two_nlt ha
    obtain ⟨-, -, ⟨nW, w1, w2, w3, -⟩, -⟩ := id h
    have h7 : fX7_first F a S = (if (g_I S 9 2) = 0 then (some ((-3 : Int32), S)) else ((fX7_seekFirst F S).bind (fun q4 : gS => if a = 0 then (some ((g_I q4 0 8), q4)) else (some ((g_I q4 0 9), q4))))) := by
      unfold fX7_first; rw [if_neg h1, if_pos h2]
    have h8 : fX8_first F a T = (fX8_firstOf F a T).bind (fun q3 : Int32 × gS => some (q3.1, q3.2)) := by
      unfold fX8_first; rw [two8_01 F ha, Option.bind_some, if_neg ne10]
    by_cases q : nW = 0
    · subst q
      refine ⟨-3, S, T, ?_, ?_, FC.rf S, FM.rf T⟩
      · rw [h7, if_pos (show g_I S 9 2 = 0 from w2)]
      · rw [h8]; unfold fX8_firstOf; rw [if_pos (show g_I T 51 12 = 0 from w3), Option.bind_some]
    · obtain ⟨best, few, S', T', e1, e2, e3, e4, e5, e6⟩ := first_rel hF h w2 w1 q a
      refine ⟨if a = 0 then best else few, S', T', ?_, ?_, e5, e6⟩
      · rw [h7, if_neg (by show ¬ S.1 9 2 = 0; rw [w2]; exact nI_ne0 (by omega) (by omega)), e1, Option.bind_some, show g_I S' 0 8 = best from e2, show g_I S' 0 9 = few from e3]
        by_cases qa : a = 0
        · rw [if_pos qa, if_pos qa]
        · rw [if_neg qa, if_neg qa]
      · rw [h8, e4, Option.bind_some])

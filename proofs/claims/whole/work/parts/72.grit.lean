/-! grit, left, falls: the reference's, and both -/
def SlM (f : Nat → Nat) (T : gS) : Prop := ∀ c, c < 64 → ∃ i m, i ≤ 30 ∧ m ≤ 33280 ∧ T.1 60 c = nI i ∧ T.1 66 c = nI m ∧ f c = i * m
theorem SlM.i {f : Nat → Nat} {T : gS} (h : SlM f T) {c : Nat} (hc : c < 64) : T.1 60 c * T.1 66 c = nI (f c) ∧ f c ≤ 998400 := by
  obtain ⟨i, m, h1, h2, h3, h4, h5⟩ := h c hc
  rw [h3, h4, pk_mul, h5]
  exact ⟨rfl, Nat.le_trans (Nat.mul_le_mul h1 h2) (by decide)⟩
theorem SlM.l {f : Nat → Nat} {T : gS} (h : SlM f T) {c : Nat} (hc : c < 64) : (T.1 60 c).toInt64 * (T.1 66 c).toInt64 = lN (f c) := by
  obtain ⟨i, m, h1, h2, h3, h4, h5⟩ := h c hc
  rw [h3, h4, nI_l (by omega), nI_l (by omega), lN_mul, h5]
def tkT (T : gS) (c : Nat) : Bool := decide (¬ T.1 72 c = 0)
theorem g154 {F n : Nat} {k34 : (Int32 × Int32 × Int32 × Int32 × gS) → Option (Int32 × gS)} {x1 x2 x3 x5 : Int32} {S : gS} : bX8_grits_154 F k34 x1 x2 x3 (nI n) x5 S = k34 (x1, x2, (if nI n = x2 then x5 else x3), nI (n + 1), S) := by
  unfold bX8_grits_154 bX8_grits_166
  rw [gl_def, gl_def, nI_1]
  by_cases q : nI n = x2
  · rw [if_pos q, if_pos q]
  · rw [if_neg q, if_neg q]
theorem g132 {F c : Nat} {k34 : (Int32 × Int32 × Int32 × Int32 × gS) → Option (Int32 × gS)} {k49 : (Int32 × Int32 × Int32 × Int32 × Int32 × Int32 × Int32 × gS) → Option (Int32 × gS)} {x1 x2 x3 x4 x5 t0 : Int32} {S : gS} : bX8_grits_132 F k34 k49 x1 x2 x3 x4 x5 (nI c) t0 S = k49 (x1, x2, x3, x4, x5, t0, nI (c + 1), S) := by
  unfold bX8_grits_132
  rw [gl_def, nI_1]
theorem g91_0 {F c : Nat} {k34 : (Int32 × Int32 × Int32 × Int32 × gS) → Option (Int32 × gS)} {k49 : (Int32 × Int32 × Int32 × Int32 × Int32 × Int32 × Int32 × gS) → Option (Int32 × gS)} {x1 x2 x3 x4 x5 x6 : Int32} {S : gS} : bX8_grits_91 F k34 k49 x1 x2 x3 x4 x5 x6 (nI c) 0 S = k49 (x1, x2, x3, x4, x5, x6, nI (c + 1), S) := by
  unfold bX8_grits_91
  rw [if_pos rfl]
  unfold bX8_grits_105
  rw [if_pos rfl, g132]
theorem g91_1 {F c : Nat} {k34 : (Int32 × Int32 × Int32 × Int32 × gS) → Option (Int32 × gS)} {k49 : (Int32 × Int32 × Int32 × Int32 × Int32 × Int32 × Int32 × gS) → Option (Int32 × gS)} {x1 x2 x3 x4 x5 x6 : Int32} {S : gS} (hc : c < 64) : bX8_grits_91 F k34 k49 x1 x2 x3 x4 x5 x6 (nI c) 1 S = k49 (x1, x2, x3, x4, nI c, S.1 60 c * S.1 66 c, nI (c + 1), S) := by
  unfold bX8_grits_91
  rw [if_neg ne10]
  unfold bX8_grits_105
  rw [if_neg ne10, chk_nI hc (by decide), chk_nI hc (by decide), g132, nI_clamp (show c < 2 ^ 31 by omega)]
theorem gr8_inner {F n : Nat} {f : Nat → Nat} {k34 : (Int32 × Int32 × Int32 × Int32 × gS) → Option (Int32 × gS)} {x1 x2 x3 : Int32} {T : gS} (hF : 100 < F) (h : SlM f T) : bX8_grits_49l F k34 F (x1, x2, x3, nI n, (-1 : Int32), (0 : Int32), (0 : Int32), T) = (match msC f (tkT T) with
    | none => k34 (x1, x2, (if nI n = x2 then -1 else x3), nI (n + 1), T)
    | some b => k34 (x1, x2, (if nI n = x2 then nI b else x3), nI (n + 1), g_setI T 72 b 1)) := by
  have := fix_for (body := fun k49 s => bX8_grits_49 F k34 k49 s.1 s.2.1 s.2.2.1 s.2.2.2.1 s.2.2.2.2.1 s.2.2.2.2.2.1 s.2.2.2.2.2.2.1 s.2.2.2.2.2.2.2) (fun c => (x1, x2, x3, nI n, oI (msR f (tkT T) c).1, nI (msR f (tkT T) c).2, nI c, T)) 64 (res := (match msC f (tkT T) with
    | none => k34 (x1, x2, (if nI n = x2 then -1 else x3), nI (n + 1), T)
    | some b => k34 (x1, x2, (if nI n = x2 then nI b else x3), nI (n + 1), g_setI T 72 b 1))) (fun c hc k => by
    show bX8_grits_49 F k34 k x1 x2 x3 (nI n) (oI (msR f (tkT T) c).1) (nI (msR f (tkT T) c).2) (nI c) T = k (x1, x2, x3, nI n, oI (msR f (tkT T) (c + 1)).1, nI (msR f (tkT T) (c + 1)).2, nI (c + 1), T)
    have hle : (msR f (tkT T) c).2 ≤ 998400 := msR_le (fun d hd => (h.i (show d < 64 by omega)).2)
    obtain ⟨hfi, hfc⟩ := h.i hc
    unfold bX8_grits_49 bX8_grits_90
    rw [if_neg (show ¬ ((64 : Int32) ≤ nI c) from nI_ge hc (by decide)), chk_nI hc (by decide), nI_clamp (show c < 2 ^ 31 by omega), g91_0]
    by_cases q : T.1 72 c = 0
    · have q' : tkT T c = false := by unfold tkT; simp [q]
      rw [if_pos (show g_I T 72 c = 0 from q), chk_nI hc (by decide), chk_nI hc (by decide), show g_I T 60 c * g_I T 66 c = nI (f c) from hfi, g91_1 hc, hfi]
      by_cases q2 : (msR f (tkT T) c).2 < f c
      · have e : msR f (tkT T) (c + 1) = (some c, f c) := by
          show (if _ then _ else _) = _
          rw [if_pos ⟨q', q2⟩]
        rw [if_neg (show ¬ nI (f c) ≤ nI (msR f (tkT T) c).2 from nI_ge q2 (by omega)), e]
        rfl
      · have e : msR f (tkT T) (c + 1) = msR f (tkT T) c := by
          show (if _ then _ else _) = _
          rw [if_neg (fun z => q2 z.2)]
        rw [if_pos (show nI (f c) ≤ nI (msR f (tkT T) c).2 from nI_le (by omega) (by omega)), e]
    · have q' : tkT T c = true := by unfold tkT; simp [q]
      have e : msR f (tkT T) (c + 1) = msR f (tkT T) c := by
        show (if _ then _ else _) = _
        rw [if_neg (fun z => by rw [q'] at z; cases z.1)]
      rw [if_neg (show ¬ g_I T 72 c = 0 from q), e]) (fun k => by
    show bX8_grits_49 F k34 k x1 x2 x3 (nI n) (oI (msC f (tkT T))) (nI (msR f (tkT T) 64).2) (nI 64) T = _
    unfold bX8_grits_49
    rw [if_pos (by decide)]
    cases hm : msC f (tkT T) with
    | none =>
      rw [show oI none = -1 from rfl, if_pos rfl, g154]
    | some b =>
      have hb64 := (msR_lt f (tkT T) 64 b hm).1
      rw [show oI (some b) = nI b from rfl, if_neg (nI_nm1 (by omega)), chk_nI hb64 (by decide), nI_clamp (show b < 2 ^ 31 by omega), gl_def, g154]
      rfl) (F := F) (by omega)
  exact this
def fnd (f : Nat → Nat) (i : Int32) : Nat → Int32
  | 0 => -1
  | n + 1 => if nI n = i then oI (gNx f n) else fnd f i n
def Fr72 (T T' : gS) : Prop := (∀ i k, i ≠ 72 → T'.1 i k = T.1 i k) ∧ T'.2 = T.2
theorem Fr72.fm {T T' : gS} (h : Fr72 T T') : FM T T' := ⟨fun i k hp => h.1 i k (by unfold per at hp; omega), h.2⟩
theorem SlM.fr {f : Nat → Nat} {T T' : gS} (h : SlM f T) (hf : Fr72 T T') : SlM f T' := fun c hc => by
  rw [hf.1 60 c (by decide), hf.1 66 c (by decide)]; exact h c hc
theorem gr8_outer {F k : Nat} {f : Nat → Nat} {i : Int32} {T : gS} (hF : 100 < F) (hk : k ≤ 8) (h : SlM f T) (h0 : ∀ c, c < 64 → T.1 72 c = 0) : ∃ T', bX8_grits_34l F F (nI k, i, (-1 : Int32), (0 : Int32), T) = some (fnd f i k, T') ∧ Fr72 T T' ∧ ∀ c, c < 64 → tkT T' c = tkN f k c := by
  obtain ⟨r, ⟨T', h1, h2⟩, hr⟩ := fix_up (body := fun k34 s => bX8_grits_34 F k34 s.1 s.2.1 s.2.2.1 s.2.2.2.1 s.2.2.2.2) k
    (fun n s => ∃ T', s = (nI k, i, fnd f i n, nI n, T') ∧ Fr72 T T' ∧ ∀ c, c < 64 → tkT T' c = tkN f n c)
    (fun r => ∃ T', r = some (fnd f i k, T') ∧ Fr72 T T' ∧ ∀ c, c < 64 → tkT T' c = tkN f k c)
    (by
      rintro n s hn ⟨T', rfl, h1, h2⟩
      have e : ∀ k', bX8_grits_34 F k' (nI k) i (fnd f i n) (nI n) T' = (match gNx f n with
          | none => k' (nI k, i, (if nI n = i then -1 else fnd f i n), nI (n + 1), T')
          | some b => k' (nI k, i, (if nI n = i then nI b else fnd f i n), nI (n + 1), g_setI T' 72 b 1)) := fun k' => by
        unfold bX8_grits_34
        rw [if_neg (nI_ge hn (by omega)), gr8_inner hF (h.fr h1)]
        rw [show msC f (tkT T') = gNx f n from by unfold gNx msC; rw [msR_congr h2]]
      cases hg : gNx f n with
      | none =>
        rw [hg] at e
        refine Or.inl ⟨_, ⟨T', rfl, h1, fun c hc => ?_⟩, fun k' => ?_⟩
        · rw [h2 c hc]
          show _ = tkU (tkN f n) (gNx f n) c
          rw [hg]; rfl
        · show bX8_grits_34 F k' (nI k) i (fnd f i n) (nI n) T' = _
          rw [e]
          show _ = k' (nI k, i, (if nI n = i then oI (gNx f n) else fnd f i n), nI (n + 1), T')
          rw [hg]; rfl
      | some b =>
        rw [hg] at e
        have hb64 := (msR_lt f (tkN f n) 64 b hg).1
        refine Or.inl ⟨_, ⟨g_setI T' 72 b 1, rfl, ⟨fun x y hx => by rw [rI_ne _ _ (Or.inl hx)]; exact h1.1 x y hx, h1.2⟩, fun c hc => ?_⟩, fun k' => ?_⟩
        · show tkT (g_setI T' 72 b 1) c = tkU (tkN f n) (gNx f n) c
          rw [hg]
          show _ = (decide (c = b) || tkN f n c)
          rw [← h2 c hc]
          unfold tkT
          by_cases q : c = b
          · subst q; rw [rI_same]; simp
          · rw [rI_ne _ _ (Or.inr q)]; simp [q]
        · show bX8_grits_34 F k' (nI k) i (fnd f i n) (nI n) T' = _
          rw [e]
          show _ = k' (nI k, i, (if nI n = i then oI (gNx f n) else fnd f i n), nI (n + 1), g_setI T' 72 b 1)
          rw [hg]; rfl)
    (by
      rintro s ⟨T', rfl, h1, h2⟩
      refine ⟨_, ⟨T', rfl, h1, h2⟩, fun k' => ?_⟩
      show bX8_grits_34 F k' (nI k) i (fnd f i k) (nI k) T' = _
      unfold bX8_grits_34
      rw [if_pos (nI_le (Nat.le_refl _) (by omega))])
    F (nI k, i, (-1 : Int32), (0 : Int32), T) ⟨T, rfl, ⟨fun _ _ _ => rfl, rfl⟩, fun c hc => by unfold tkT; rw [h0 c hc]; simp [tkN]⟩ (by omega)
  exact ⟨T', by rw [← h1, ← hr]; rfl, h2⟩
theorem gr8_all {F k : Nat} {f : Nat → Nat} {i : Int32} {T : gS} (hF : 100 < F) (hk : k ≤ 8) (h : SlM f T) : ∃ T', bX8_grits_10l F F (nI k, i, (0 : Int32), T) = some (fnd f i k, T') ∧ Fr72 T T' ∧ ∀ c, c < 64 → tkT T' c = tkN f k c := by
  obtain ⟨r, ⟨T', h1, h2⟩, hr⟩ := fix_up (body := fun k10 s => bX8_grits_10 F k10 s.1 s.2.1 s.2.2.1 s.2.2.2) 64
    (fun c s => ∃ T', s = (nI k, i, nI c, T') ∧ Fr72 T T' ∧ ∀ d, d < c → T'.1 72 d = 0)
    (fun r => ∃ T', r = some (fnd f i k, T') ∧ Fr72 T T' ∧ ∀ c, c < 64 → tkT T' c = tkN f k c)
    (by
      rintro c s hc ⟨T', rfl, h1, h2⟩
      refine Or.inl ⟨(nI k, i, nI (c + 1), g_setI T' 72 c 0), ⟨_, rfl, ⟨fun x y hx => by rw [rI_ne _ _ (Or.inl hx)]; exact h1.1 x y hx, h1.2⟩, fun d hd => ?_⟩, fun k' => ?_⟩
      · by_cases q : d = c
        · subst q; exact rI_same _ _ _ _
        · rw [rI_ne _ _ (Or.inr q)]; exact h2 d (by omega)
      · show bX8_grits_10 F k' (nI k) i (nI c) T' = _
        unfold bX8_grits_10
        rw [if_neg (show ¬ ((64 : Int32) ≤ nI c) from nI_ge hc (by decide)), chk_nI hc (by decide), nI_clamp (show c < 2 ^ 31 by omega), gl_def, gl_def, nI_1]
        rfl)
    (by
      rintro s ⟨T', rfl, h1, h2⟩
      obtain ⟨T2, g1, g2, g3⟩ := gr8_outer (F := F) (k := k) (i := i) hF hk (h.fr h1) h2
      refine ⟨_, ⟨T2, rfl, ⟨fun x y hx => (g2.1 x y hx).trans (h1.1 x y hx), g2.2.trans h1.2⟩, g3⟩, fun k' => ?_⟩
      show bX8_grits_10 F k' (nI k) i (nI 64) T' = _
      unfold bX8_grits_10
      rw [if_pos (by decide), g1])
    F (nI k, i, (0 : Int32), T) ⟨T, rfl, ⟨fun _ _ _ => rfl, rfl⟩, fun d hd => by omega⟩ (by omega)
  exact ⟨T', by rw [← h1, ← hr]; rfl, h2⟩
/-- a morning tried, with what it makes of the ice -/
theorem slip_rel {F : Nat} {S T : gS} (hF : 20000000 < F) (h : Inv S T) : ∃ f S1 T1 T2, fX7_tryMorning F (-1) (-1) S = some S1 ∧ fX8_tries F T = some T1 ∧ fX8_mornings F T1 = some T2 ∧ SlC f S1 ∧ SlM f T2 ∧ FC S S1 ∧ FM T T2 := by
  obtain ⟨S1, T1, T2, m1, m2, m3, m4, m5, m6, m7, m8, -, -, -, mb⟩ := morn_rel (F := F) hF h
  have hfc := m5.fc ⟨by decide, by decide⟩
  have hfm := m6.fm.tr m7.fm
  have hI := h.fr hfc hfm
  have hM : SlM (fun c => (T2.1 60 c).toNatClampNeg * (T2.1 66 c).toNatClampNeg) T2 := fun c hc => by
    obtain ⟨-, -, ⟨i, i1, i2, i3⟩, -⟩ := hI.2.1 c hc
    obtain ⟨m, b1, b2⟩ := mb.1 c hc
    refine ⟨i, m, i1, b1, i3, b2, ?_⟩
    dsimp only
    rw [i3, b2, nI_clamp (by omega), nI_clamp (by omega)]
  refine ⟨_, S1, T1, T2, m1, m2, m3, fun c hc => ?_, hM, hfc, hfm⟩
  obtain ⟨-, -, ⟨i, i1, i2, i3⟩, -⟩ := hI.2.1 c hc
  rw [i2, ← i3, (m4.1 c hc).2.1]
  exact hM.i hc
theorem grit8_in {F k : Nat} (hk : k ≤ 8) (T : gS) : fX8_isGrit F (nI k) T = some (1, T) := by
  unfold fX8_isGrit
  rw [in_in (n := 8) (by decide) (by decide) hk, Option.bind_some]
  exact bo_1 _
theorem grit8_out {F : Nat} {a : Int32} (h : a < 0 ∨ nI 9 ≤ a) (T : gS) : fX8_isGrit F a T = some (0, T) := by
  unfold fX8_isGrit
  rw [in_out (n := 8) (by decide) (by decide) h, Option.bind_some]
  exact bo_0 _
theorem grit_out {a : Int32} (h : a < 0 ∨ nI 9 ≤ a) : a < 0 ∨ (¬ a < 0 ∧ (8 : Int32) < a) := by
  by_cases q : a < 0
  · exact Or.inl q
  · exact Or.inr ⟨q, Int32.lt_of_lt_of_le (show (8 : Int32) < nI 9 by decide) (h.resolve_left q)⟩
theorem fnd_lt {f : Nat → Nat} {i : Nat} (hi : i < 2 ^ 30) : ∀ k, k < 2 ^ 30 → fnd f (nI i) k = if i < k then oI (gNx f i) else -1 := by
  intro k
  induction k with
  | zero => intro _; rfl
  | succ k ih =>
    intro hk
    unfold fnd
    rw [ih (by omega)]
    by_cases q : k = i
    · subst q; rw [if_pos rfl, if_pos (by omega)]
    · rw [if_neg (fun z => q (nI_inj (by omega) (by omega) z))]
      by_cases q2 : i < k
      · rw [if_pos q2, if_pos (by omega)]
      · rw [if_neg q2, if_neg (by omega)]
theorem fnd_big {f : Nat → Nat} {i : Int32} : ∀ k, k ≤ 8 → nI 8 ≤ i → fnd f i k = -1 := by
  intro k
  induction k with
  | zero => intro _ _; rfl
  | succ k ih =>
    intro hk hi
    unfold fnd
    rw [if_neg (fun z => by rw [← z] at hi; exact nI_ge (show k < 8 by omega) (by decide) hi), ih (by omega) hi]
theorem op_grit {F : Nat} (hF : 20000000 < F) (a b : Int32) : Op Int32 (fX7_grit F a b) (fX8_grit F a b) := Op.try (fun S T h => by
  rcases three a (n := 9) (by decide) with hout | ⟨k, hk, rfl⟩
  · refine ⟨-2, S, T, ?_, ?_, FC.rf S, FM.rf T⟩
    · unfold fX7_grit
      rcases grit_out hout with h1 | ⟨h1, h2⟩
      · rw [if_pos h1]
      · rw [if_neg h1, if_pos h2]
    · unfold fX8_grit; rw [grit8_out hout, Option.bind_some, if_pos eq00]
  have h7 : fX7_grit F (nI k) b S = (if 0 ≤ b then (if b < nI k then ((fX7_tryMorning F (-1 : Int32) (-1 : Int32) S).bind (fun q5 : gS => bX7_grit_38l F F (b, (0 : Int64), (-1 : Int32), (0 : Int32), q5))) else (some ((-1 : Int32), S))) else (some ((-2 : Int32), S))) := by
    unfold fX7_grit
    rw [if_neg (nI_pos (by omega)), if_neg (show ¬ ((8 : Int32) < nI k) from nI_nlt (a := 8) (by omega) (by decide))]
  have h8 : fX8_grit F (nI k) b T = (if b < 0 then (some ((-2 : Int32), T)) else ((fX8_grits F (nI k) b T).bind (fun q4 : Int32 × gS => some (q4.1, q4.2)))) := by
    unfold fX8_grit
    rw [grit8_in (show k ≤ 8 by omega), Option.bind_some, if_neg ne10]
  by_cases q : b < 0
  · exact ⟨-2, S, T, by rw [h7, if_neg (fun z => absurd q (Int32.not_lt.mpr z))], by rw [h8, if_pos q], FC.rf S, FM.rf T⟩
  · rw [if_pos (Int32.not_lt.mp q)] at h7
    rw [if_neg q] at h8
    obtain ⟨f, S1, T1, T2, e1, e2, e3, e4, e5, e6, e7⟩ := slip_rel hF h
    obtain ⟨T3, g1, g2, g3⟩ := gr8_all (F := F) (k := k) (i := b) (by omega) (by omega) e5
    have hgr : fX8_grit F (nI k) b T = some (fnd f b k, T3) := by
      rw [h8]; unfold fX8_grits
      rw [e2, Option.bind_some, e3, Option.bind_some, g1, Option.bind_some]
    by_cases q2 : b < nI k
    · obtain ⟨i, hi, rfl⟩ := nI_of q
      have hik : i < k := by
        rcases Nat.lt_or_ge i k with z | z
        · exact z
        · exact absurd q2 (nI_nlt z hi)
      refine ⟨oI (gNx f i), S1, T3, ?_, ?_, e6, e7.tr g2.fm⟩
      · rw [h7, if_pos q2, e1, Option.bind_some, grit7_spec (by omega) (by omega) e4]
      · rw [hgr, fnd_lt (by omega) k (by omega), if_pos hik]
    · refine ⟨-1, S, T3, by rw [h7, if_neg q2], ?_, FC.rf S, e7.tr g2.fm⟩
      rw [hgr]
      obtain ⟨i, hi, rfl⟩ := nI_of q
      by_cases q3 : i < 2 ^ 30
      · rw [fnd_lt q3 k (by omega), if_neg (fun z => q2 (nI_lt z (by omega)))]
      · rw [fnd_big k (by omega) (nI_le (by omega) hi)])
theorem lf8_loop {F : Nat} {f : Nat → Nat} {tk : Nat → Bool} {a : Int32} {T : gS} (hF : 100 < F) (h : SlM f T) (ht : ∀ c, c < 64 → tkT T c = tk c) : bX8_leftOf_12l F F (a, (0 : Int64), (0 : Int32), T) = (fX8_part F (lN (sumNot f tk 64)) (30 : Int64) a T).bind (fun q2 : Int64 × gS => some (q2.1, q2.2)) := by
  have := fix_for (body := fun k12 s => bX8_leftOf_12 F k12 s.1 s.2.1 s.2.2.1 s.2.2.2) (fun c => (a, lN (sumNot f tk c), nI c, T)) 64 (res := (fX8_part F (lN (sumNot f tk 64)) (30 : Int64) a T).bind (fun q2 : Int64 × gS => some (q2.1, q2.2))) (fun c hc k => by
    show bX8_leftOf_12 F k a (lN (sumNot f tk c)) (nI c) T = k (a, lN (sumNot f tk c + (if tk c then 0 else f c)), nI (c + 1), T)
    unfold bX8_leftOf_12 bX8_leftOf_51
    rw [if_neg (show ¬ ((64 : Int32) ≤ nI c) from nI_ge hc (by decide)), chk_nI hc (by decide), chk_nI hc (by decide), chk_nI hc (by decide), nI_clamp (show c < 2 ^ 31 by omega), show (g_I T 60 c).toInt64 * (g_I T 66 c).toInt64 = lN (f c) from h.l hc, gl_def, gl_def, gl_def, gl_def, nI_1, ← ht c hc, lN_add]
    unfold tkT
    by_cases q : T.1 72 c = 0
    · rw [if_pos (show g_I T 72 c = 0 from q), if_neg (by simp [q])]
    · rw [if_neg (show ¬ g_I T 72 c = 0 from q), if_pos (by simp [q]), show (0 : Int64) = lN 0 from rfl, lN_add]) (fun k => by
    show bX8_leftOf_12 F k a (lN (sumNot f tk 64)) (nI 64) T = _
    unfold bX8_leftOf_12
    rw [if_pos (by decide)]) (F := F) (by omega)
  exact this
theorem left_rel {F k : Nat} {S T : gS} {a : Int32} (hF : 20000000 < F) (h : Inv S T) (hk : k ≤ 8) : ∃ r S1 S' T', fX7_tryMorning F (-1) (-1) S = some S1 ∧ ((fX7_slipperinessLeft F (nI k) S1).bind (fun q6 : Int32 × gS => (fX7_thirtieths F q6.1 a q6.2).bind (fun q7 : Int64 × gS => some (q7.1, q7.2)))) = some (r, S') ∧ fX8_leftOf F (nI k) a T = some (r, T') ∧ FC S S' ∧ FM T T' := by
  obtain ⟨f, S1, T1, T2, e1, e2, e3, e4, e5, e6, e7⟩ := slip_rel hF h
  obtain ⟨T3, g1, g2, g3⟩ := gr8_all (F := F) (k := k) (i := -1) (by omega) hk e5
  have hb : sumNot f (tkN f k) 64 ≤ 64 * 998400 := sumNot_le (fun c hc => (e4 c hc).2)
  refine ⟨if a = 0 then lN (sumNot f (tkN f k) 64 / Nat.gcd (sumNot f (tkN f k) 64) 30) else lN (30 / Nat.gcd (sumNot f (tkN f k) 64) 30), S1, S1, T3, e1, ?_, ?_, e6, e7.tr g2.fm⟩
  · rw [left7_spec (by omega) hk e4, Option.bind_some, th_spec (by omega) (by omega), Option.bind_some]
  · unfold fX8_leftOf fX8_grits
    rw [e2, Option.bind_some, e3, Option.bind_some, g1, Option.bind_some, lf8_loop (by omega) (e5.fr g2) g3, part_spec (by omega) (by omega), Option.bind_some]
theorem op_left {F : Nat} (hF : 20000000 < F) (a b : Int32) : Op Int64 (fX7_left F a b) (fX8_left F a b) := Op.try (fun S T h => by
  have bad7 : bX7_left_19 F S = some ((-9223372036854775808 : Int64) - (-2 : Int32).toInt64, S) := rfl
  have bad8 : bX8_left_23 F T = some ((-9223372036854775808 : Int64) - (-2 : Int32).toInt64, T) := rfl
  rcases three a (n := 9) (by decide) with hout | ⟨k, hk, rfl⟩
  · refine ⟨(-9223372036854775808 : Int64) - (-2 : Int32).toInt64, S, T, ?_, ?_, FC.rf S, FM.rf T⟩
    · unfold fX7_left
      rcases grit_out hout with h1 | ⟨h1, h2⟩
      · rw [if_pos h1, bad7]
      · rw [if_neg h1, if_pos h2, bad7]
    · unfold fX8_left; rw [grit8_out hout, Option.bind_some, if_pos eq00, bad8]
  have h7 : fX7_left F (nI k) b S = (if b < 0 then (bX7_left_19 F S) else (if b ≤ (1 : Int32) then ((fX7_tryMorning F (-1 : Int32) (-1 : Int32) S).bind (fun q5 : gS => (fX7_slipperinessLeft F (nI k) q5).bind (fun q6 : Int32 × gS => (fX7_thirtieths F q6.1 b q6.2).bind (fun q7 : Int64 × gS => some (q7.1, q7.2))))) else (bX7_left_19 F S))) := by
    unfold fX7_left
    rw [if_neg (nI_pos (by omega)), if_neg (show ¬ ((8 : Int32) < nI k) from nI_nlt (a := 8) (by omega) (by decide))]
  rcases two_cases b with hout | hb
  · refine ⟨(-9223372036854775808 : Int64) - (-2 : Int32).toInt64, S, T, ?_, ?_, FC.rf S, FM.rf T⟩
    · rw [h7]
      rcases two_out hout with h1 | ⟨h1, h2⟩
      · rw [if_pos h1, bad7]
      · rw [if_neg h1, if_neg h2, bad7]
    · unfold fX8_left; rw [grit8_in (show k ≤ 8 by omega), Option.bind_some, if_neg ne10, two8_out F hout, Option.bind_some, if_pos eq00, bad8]
  · obtain ⟨h1, h2⟩ := two_nlt hb
    obtain ⟨r, S1, S', T', e1, e2, e3, e4, e5⟩ := left_rel (k := k) (a := b) hF h (by omega)
    refine ⟨r, S', T', ?_, ?_, e4, e5⟩
    · rw [h7, if_neg h1, if_pos h2, e1, Option.bind_some, e2]
    · unfold fX8_left; rw [grit8_in (show k ≤ 8 by omega), Option.bind_some, if_neg ne10, two8_01 F hb, Option.bind_some, if_neg ne10, e3, Option.bind_some])
theorem op_falls {F : Nat} (hF : 20000000 < F) (a : Int32) : Op Int64 (fX7_falls F a) (fX8_falls F a) := Op.try (fun S T h => by
  have h7 : fX7_falls F a S = (fX7_left F (nI 0) a S).bind (fun q1 : Int64 × gS => some (q1.1, q1.2)) := rfl
  have h7' : fX7_left F (nI 0) a S = (if a < 0 then (bX7_left_19 F S) else (if a ≤ (1 : Int32) then ((fX7_tryMorning F (-1 : Int32) (-1 : Int32) S).bind (fun q5 : gS => (fX7_slipperinessLeft F (nI 0) q5).bind (fun q6 : Int32 × gS => (fX7_thirtieths F q6.1 a q6.2).bind (fun q7 : Int64 × gS => some (q7.1, q7.2))))) else (bX7_left_19 F S))) := by
    unfold fX7_left
    rw [if_neg (show ¬ nI 0 < 0 by decide), if_neg (show ¬ ((8 : Int32) < nI 0) by decide)]
  have bad7 : bX7_left_19 F S = some ((-9223372036854775808 : Int64) - (-2 : Int32).toInt64, S) := rfl
  rcases two_cases a with hout | ha
  · refine ⟨(-9223372036854775808 : Int64) - (-2 : Int32).toInt64, S, T, ?_, ?_, FC.rf S, FM.rf T⟩
    · rw [h7, h7']
      rcases two_out hout with h1 | ⟨h1, h2⟩
      · rw [if_pos h1, bad7, Option.bind_some]
      · rw [if_neg h1, if_neg h2, bad7, Option.bind_some]
    · unfold fX8_falls; rw [two8_out F hout, Option.bind_some, if_pos eq00]; rfl
  · obtain ⟨h1, h2⟩ := two_nlt ha
    obtain ⟨r, S1, S', T', e1, e2, e3, e4, e5⟩ := left_rel (k := 0) (a := a) hF h (by omega)
    refine ⟨r, S', T', ?_, ?_, e4, e5⟩
    · rw [h7, h7', if_neg h1, if_pos h2, e1, Option.bind_some, e2, Option.bind_some]
    · unfold fX8_falls; rw [two8_01 F ha, Option.bind_some, if_neg ne10, show (0 : Int32) = nI 0 from rfl, e3, Option.bind_some])

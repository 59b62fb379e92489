/-! numbers in their bounds -/
theorem wide_lt (a b : Int32) : a.toInt64 < b.toInt64 ↔ a < b := by
  rw [Int64.lt_iff_toInt_lt, Int32.lt_iff_toInt_lt, Int32.toInt_toInt64, Int32.toInt_toInt64]
theorem in_spec (F : Nat) (a lo hi : Int32) (S : gS) : fX8_in F a.toInt64 lo.toInt64 hi.toInt64 S = some (if a < lo then 0 else if hi < a then 0 else 1, S) := by
  unfold fX8_in
  by_cases q1 : a < lo
  · rw [if_pos ((lg_cmp_lt _ _).mpr ((wide_lt a lo).mpr q1)), if_pos q1]
  · rw [if_neg (fun z => q1 ((wide_lt a lo).mp ((lg_cmp_lt _ _).mp z))), if_neg q1]
    by_cases q2 : hi < a
    · rw [if_pos ((lg_cmp_gt _ _).mpr ((wide_lt hi a).mpr q2)), if_pos q2]
    · rw [if_neg (fun z => q2 ((wide_lt hi a).mp ((lg_cmp_gt _ _).mp z))), if_neg q2]
theorem in_out {F : Nat} {a : Int32} {n : Nat} {L : Int64} (hn : n < 2 ^ 31 - 1) (hL : L = (nI n).toInt64) (h : a < 0 ∨ nI (n + 1) ≤ a) (S : gS) : fX8_in F a.toInt64 0 L S = some (0, S) := by
  rw [hL, show (0 : Int64) = (0 : Int32).toInt64 from rfl, in_spec]
  rcases h with h | h
  · rw [if_pos h]
  · by_cases q : a < 0
    · rw [if_pos q]
    · rw [if_neg q, if_pos]
      exact Int32.lt_of_lt_of_le (nI_lt (by omega) (by omega)) h
theorem in_in {F : Nat} {j n : Nat} {L : Int64} (hn : n < 2 ^ 31) (hL : L = (nI n).toInt64) (h : j ≤ n) (S : gS) : fX8_in F (nI j).toInt64 0 L S = some (1, S) := by
  rw [hL, show (0 : Int64) = (0 : Int32).toInt64 from rfl, in_spec, if_neg (nI_pos (by omega)), if_neg (nI_nlt h hn)]
theorem three (a : Int32) {n : Nat} (hn : n < 2 ^ 31) : (a < 0 ∨ nI n ≤ a) ∨ ∃ j, j < n ∧ a = nI j := by
  rcases pk_ix a hn with h | h | h
  · exact Or.inl (Or.inl h)
  · exact Or.inl (Or.inr h)
  · exact Or.inr h
theorem cell7_out (F : Nat) {a : Int32} (h : a < 0 ∨ nI 64 ≤ a) (S : gS) : fX7_isCell F a S = some (0, S) := by
  unfold fX7_isCell
  by_cases q : a < 0
  · rw [if_pos q]
  · rw [if_neg q, if_pos (show (64 : Int32) ≤ a from h.resolve_left q)]
theorem cell7_in (F : Nat) {c : Nat} (h : c < 64) (S : gS) : fX7_isCell F (nI c) S = some (1, S) := by
  unfold fX7_isCell
  rw [if_neg (nI_pos (by omega)), if_neg (show ¬ ((64 : Int32) ≤ nI c) from nI_ge h (by decide))]
theorem cell8_out (F : Nat) {a : Int32} (h : a < 0 ∨ nI 64 ≤ a) (S : gS) : fX8_isCell F a S = some (0, S) := by
  unfold fX8_isCell
  rw [in_out (n := 63) (by decide) (by decide) h]
  simp only [Option.bind_some]
  exact bo_0 _
theorem cell8_in (F : Nat) {c : Nat} (h : c < 64) (S : gS) : fX8_isCell F (nI c) S = some (1, S) := by
  unfold fX8_isCell
  rw [in_in (n := 63) (by decide) (by decide) (by omega)]
  simp only [Option.bind_some]
  exact bo_1 _
theorem two8_out (F : Nat) {a : Int32} (h : a < 0 ∨ nI 2 ≤ a) (S : gS) : fX8_isTwo F a S = some (0, S) := by
  unfold fX8_isTwo
  rw [in_out (n := 1) (by decide) (by decide) h]
  simp only [Option.bind_some]
  exact bo_0 _
theorem two8_in (F : Nat) {c : Nat} (h : c < 2) (S : gS) : fX8_isTwo F (nI c) S = some (1, S) := by
  unfold fX8_isTwo
  rw [in_in (n := 1) (by decide) (by decide) (by omega)]
  simp only [Option.bind_some]
  exact bo_1 _
theorem walker7_out (F : Nat) {a : Int32} {nW : Nat} {S : gS} (h9 : S.1 9 2 = nI nW) (h : a < 0 ∨ nI nW ≤ a) : fX7_isWalker F a S = some (0, S) := by
  unfold fX7_isWalker
  by_cases q : a < 0
  · rw [if_pos q]
  · rw [if_neg q, if_pos (by show S.1 9 2 ≤ a; rw [h9]; exact h.resolve_left q)]
theorem walker7_in (F : Nat) {w nW : Nat} {S : gS} (h9 : S.1 9 2 = nI nW) (hn : nW ≤ 8) (h : w < nW) : fX7_isWalker F (nI w) S = some (1, S) := by
  unfold fX7_isWalker
  rw [if_neg (nI_pos (by omega)), if_neg (by show ¬ S.1 9 2 ≤ nI w; rw [h9]; exact nI_ge h (by omega))]
theorem walker8_out (F : Nat) {a : Int32} {nW : Nat} {S : gS} (h9 : S.1 51 12 = nI nW) (hn : nW ≤ 8) (h : a < 0 ∨ nI nW ≤ a) : fX8_isWalker F a S = some (0, S) := by
  unfold fX8_isWalker
  rw [show (0 : Int64) = (0 : Int32).toInt64 from rfl, in_spec]
  simp only [Option.bind_some]
  rw [show g_I S 51 12 = nI nW from h9]
  by_cases q : a < 0
  · rw [if_pos q]; rfl
  · have h' := h.resolve_left q
    rw [if_neg q, if_pos]
    · rfl
    · by_cases q0 : nW = 0
      · subst q0
        have : nI 0 - 1 < 0 := by decide
        exact Int32.lt_of_lt_of_le this (Int32.not_lt.mp q)
      · rw [nI_sub1 (by omega)]
        exact Int32.lt_of_lt_of_le (nI_lt (by omega) (by omega)) h'
theorem walker8_in (F : Nat) {w nW : Nat} {S : gS} (h9 : S.1 51 12 = nI nW) (hn : nW ≤ 8) (h : w < nW) : fX8_isWalker F (nI w) S = some (1, S) := by
  unfold fX8_isWalker
  rw [show (0 : Int64) = (0 : Int32).toInt64 from rfl, in_spec]
  simp only [Option.bind_some]
  rw [show g_I S 51 12 = nI nW from h9, if_neg (nI_pos (by omega)), nI_sub1 (by omega), if_neg (nI_nlt (by omega) (by omega))]
  rfl
/-! the class's morning -/
def mornL (nW : Nat) (x : Option Nat) : List Nat := (match x with
  | none => []
  | some w => [w]) ++ skipL x (List.range' 0 nW)
theorem mornL_lt {nW : Nat} {x : Option Nat} (hx : ∀ n, x = some n → n < nW) : ∀ w, w ∈ mornL nW x → w < nW := by
  intro w hw
  unfold mornL skipL at hw
  rcases List.mem_append.mp hw with h | h
  · cases hxx : x with
    | none => rw [hxx] at h; cases h
    | some n => rw [hxx] at h; rw [List.mem_singleton.mp h]; exact hx n hxx
  · have := (List.mem_filter.mp h).1
    rw [List.mem_range'_1] at this
    omega
theorem try_class {F nW : Nat} {x y : Option Nat} {S : gS} (hF : 100 < F) (hnW : nW ≤ 8) (h9 : S.1 9 2 = nI nW) (hx : ∀ n, x = some n → n < nW) (hy : ∀ c, y = some c → c < 64) :
    ∃ S1, FrGo 16 S S1 ∧ (∀ c, c < 64 → S1.1 17 c = (if y = some c then 0 else S.1 4 c) ∧ S1.1 18 c = 0) ∧ S1.1 16 4 = 0 ∧ S1.1 16 5 = 0 ∧ S1.1 16 6 = 0 ∧
      ∀ acc acc' S', CRun F 16 (S.2 1 3) (S.2 1 4) (mornL nW x) acc S1 acc' S' → fX7_tryMorning F (oI x) (oI y) S = some S' := by
  obtain ⟨S0, e1, e2, e3, e4, e5, e6⟩ := begin_spec (F := F) (o := 16) (S := S) (by omega) ⟨by decide, by decide⟩
  have h31 : ∀ (S1 : gS), FrGo 16 S S1 → ∀ acc acc' S', CRun F 16 (S.2 1 3) (S.2 1 4) (mornL nW x) acc S1 acc' S' → bX7_tryMorning_31 F (oI x) S1 = some S' := by
    intro S1 hfr acc acc' S' hC
    have h91 : S1.1 9 2 = nI nW := by rw [hfr.1 9 2 (by decide) (by decide) (by decide) (by decide) (by decide) (by decide)]; exact h9
    have hJ : S1.2 1 4 = S.2 1 4 := hfr.2 1 4 (by decide) (by decide)
    have h72 : ∀ (S2 : gS) acc, FrGo 16 S S2 → CRun F 16 (S.2 1 3) (S.2 1 4) (skipL x (List.range' 0 nW)) acc S2 acc' S' → bX7_tryMorning_72 F (oI x) S2 = some S' := fun S2 acc hf2 hC2 => by
      have := tryLoop_run (F := F) (acc := 0) (S := S) hnW x (fun n hn => by have := hx n hn; omega) h9 nW 0 S2 acc (by omega) hf2 hC2 (F - nW - 1)
      rw [show F - nW - 1 + nW + 1 = F by omega] at this
      exact this
    unfold bX7_tryMorning_31
    cases hxx : x with
    | none =>
      rw [walker7_out F h91 (Or.inl (by decide))]
      simp only [Option.bind_some]
      rw [if_pos (by decide), ← hxx]
      refine h72 S1 acc hfr ?_
      rw [hxx] at hC ⊢
      exact hC
    | some w =>
      have hw := hx w hxx
      rw [hxx] at hC
      obtain ⟨ok, v, S2, k1, k2, k3, k4, k5⟩ := hC
      show (fX7_isWalker F (nI w) S1).bind _ = _
      rw [walker7_in F h91 hnW hw]
      simp only [Option.bind_some]
      rw [if_neg (by decide), show oI (some w) = nI w from rfl, chk_nI (show w < 8 by omega) (by decide), chk_nI (show w < 8 by omega) (by decide), nI_clamp (by omega), show g_J S1 1 4 = S.2 1 4 from hJ, show g_I S1 10 w = S1.1 10 w from rfl, show g_I S1 11 w = S1.1 11 w from rfl, k2]
      simp only [Option.bind_some]
      have := h72 S2 _ (hfr.tr k3) (by rw [hxx]; exact k5)
      rw [hxx] at this
      exact this
  cases hyy : y with
  | none =>
    refine ⟨S0, e2, fun c hc => ?_, e4, e5, e6, fun acc acc' S' hC => ?_⟩
    · rw [if_neg (by simp)]; exact e3 c hc
    · unfold fX7_tryMorning
      rw [e1]
      simp only [Option.bind_some]
      rw [cell7_out F (Or.inl (by decide))]
      simp only [Option.bind_some]
      rw [if_pos (by decide)]
      exact h31 S0 e2 acc acc' S' hC
  | some c0 =>
    have hc0 := hy c0 hyy
    have fr1 : FrGo 16 S (g_setI S0 17 c0 0) := e2.tr ⟨fun i k _ _ _ _ a _ => rI_ne _ _ (Or.inl a), fun _ _ _ _ => rfl⟩
    refine ⟨g_setI S0 17 c0 0, fr1, fun c hc => ?_, ?_, ?_, ?_, fun acc acc' S' hC => ?_⟩
    · refine ⟨?_, ?_⟩
      · by_cases q : c0 = c
        · subst q; rw [rI_same]; simp
        · rw [rI_ne _ _ (Or.inr (fun z => q z.symm)), if_neg (by simpa using q)]; exact (e3 c hc).1
      · rw [rI_ne _ _ (Or.inl (by decide))]; exact (e3 c hc).2
    · rw [rI_ne _ _ (Or.inl (by decide))]; exact e4
    · rw [rI_ne _ _ (Or.inl (by decide))]; exact e5
    · rw [rI_ne _ _ (Or.inl (by decide))]; exact e6
    · unfold fX7_tryMorning
      rw [e1]
      simp only [Option.bind_some]
      rw [show oI (some c0) = nI c0 from rfl, cell7_in F hc0]
      simp only [Option.bind_some]
      rw [if_neg (by decide), chk_nI hc0 (by decide), nI_clamp (by omega)]
      simp only [gl_def]
      exact h31 _ fr1 acc acc' S' hC
theorem mornL_none (nW : Nat) : mornL nW none = List.range' 0 nW := by unfold mornL; rw [skip_none]; rfl
/-- a morning tried, both -/
theorem morn_rel {F : Nat} {S T : gS} (hF : 20000000 < F) (h : Inv S T) : ∃ S' T1 T', fX7_tryMorning F (-1) (-1) S = some S' ∧ fX8_tries F T = some T1 ∧ fX8_mornings F T1 = some T' ∧ TR 16 S' T' ∧ FrGo 16 S S' ∧ FrTr T T1 ∧ FrW2 T1 T' ∧
    KRel (S.2 1 3) (S.2 1 4) T' ∧ MPr (snN T) (prN T) T' ∧ T'.1 51 19 = -1 ∧ (∀ c, c < 64 → T'.1 57 c = if hb (S.2 1 3) c then 1 else if hb (S.2 1 4) c then 2 else 0) ∧ Bd 33280 T' := by
  obtain ⟨hT, hG, ⟨nW, w1, w2, w3, w4⟩, hS, hf⟩ := h
  obtain ⟨S1, s1, s2, s3, s4, s5, s6⟩ := try_class (F := F) (x := none) (y := none) (by omega) w1 w2 (fun n h => by cases h) (fun n h => by cases h)
  obtain ⟨T1, t1, t2, t3, t4, t5, t6, t7, t8, t9, t10⟩ := tries_rel (F := F) (by omega) hT
  have hTR : TR 16 S1 T1 := TR_begin hG (fun c hc => by have := s2 c hc; rw [if_neg (by simp)] at this; exact this) s3 s4 s5 t4 t5 t6 t7
  obtain ⟨S', T', g1, g2, g3, g4, g5, g6⟩ := seq_rel (F := F) (nW := nW) (Wl := S.2 1 3) (hid := S.2 1 4) hF ⟨by decide, by decide⟩ w1 (mornL nW none) S1 T1 (mornL_lt (fun n h => by cases h)) (fun w hw => by
    rw [s1.1 10 w (by decide) (by decide) (by decide) (by decide) (by decide) (by decide), s1.1 11 w (by decide) (by decide) (by decide) (by decide) (by decide) (by decide), t2.1 62 w (by decide) (by decide) (by decide) (by decide) (Or.inl (by decide)), t2.1 63 w (by decide) (by decide) (by decide) (by decide) (Or.inl (by decide))]
    exact w4 w hw) (s1.2 1 3 (by decide) (by decide)) t3 hTR
  refine ⟨S', T1, T', s6 _ _ _ g1, t1, mornings_eq (by omega) w1 (by rw [t2.1 51 12 (by decide) (by decide) (by decide) (by decide) (Or.inr (by decide))]; exact w3) (by rw [mornL_none] at g2; exact g2), g3, s1.tr g4, t2, g5, t3.fr2 g5, g6.1 _ _ (MPr_begin hG t4), ?_, fun c hc => ?_, ?_⟩
  · rw [g5.1 51 19 (by decide) (by decide) (by decide) (by decide) (by decide) (by decide) (Or.inr (by decide))]; exact t9
  · rw [g5.1 57 c (by decide) (by decide) (by decide) (by decide) (by decide) (by decide) (Or.inl (by decide))]; exact t10 c hc
  · refine (g6.2 0 ⟨fun c hc => ⟨0, Nat.le_refl _, (t4 c hc).2.2⟩, 0, Nat.le_refl _, t5⟩).le ?_
    rw [mornL_none, List.length_range']
    omega

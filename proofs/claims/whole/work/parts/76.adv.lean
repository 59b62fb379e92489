/-! the class's next row -/
def RowF (n : Nat) (f : Nat → Nat) (S : gS) : Prop := ∀ k, k < n → S.1 21 k = nI (f k)
def Fr21 (S S' : gS) : Prop := (∀ i k, i ≠ 21 → S'.1 i k = S.1 i k) ∧ S'.2 = S.2
theorem Fr21.rf (S : gS) : Fr21 S S := ⟨fun _ _ _ => rfl, rfl⟩
theorem Fr21.tr {S0 S1 S2 : gS} (h1 : Fr21 S0 S1) (h2 : Fr21 S1 S2) : Fr21 S0 S2 := ⟨fun i k h => (h2.1 i k h).trans (h1.1 i k h), h2.2.trans h1.2⟩
theorem swap_spec {F n a b : Nat} {f : Nat → Nat} {S : gS} (hn : n ≤ 5) (ha : a < n) (hb : b < n) (h : RowF n f S) : ∃ S', fX2_swap F (nI a) (nI b) S = some S' ∧ RowF n (swp f a b) S' ∧ Fr21 S S' := by
  refine ⟨g_setI (g_setI S 21 a (S.1 21 b)) 21 b (S.1 21 a), ?_, fun k hk => ?_, ⟨fun i k hi => by rw [rI_ne _ _ (Or.inl hi), rI_ne _ _ (Or.inl hi)], rfl⟩⟩
  · unfold fX2_swap
    rw [chk_nI (show a < 5 by omega) (by decide), gl_def, chk_nI (show b < 5 by omega) (by decide), chk_nI (show a < 5 by omega) (by decide), gl_def, chk_nI (show b < 5 by omega) (by decide), gl_def, nI_clamp (show a < 2 ^ 31 by omega), nI_clamp (show b < 2 ^ 31 by omega)]
  · unfold swp
    by_cases q : k = b
    · rw [if_pos q, q, rI_same, h a ha]
    · rw [if_neg q, rI_ne _ _ (Or.inr q)]
      by_cases q2 : k = a
      · rw [if_pos q2, q2, rI_same, h b hb]
      · rw [if_neg q2, rI_ne _ _ (Or.inr q2), h k hk]
theorem rv_spec {F n : Nat} {x : Int32} (hn : n ≤ 5) : ∀ (u fu lo hi : Nat) (f : Nat → Nat) (S : gS), hi ≤ lo + u → lo ≤ 5 → hi < n → RowF n f S → ∃ S', g_fix (fun k83 s => bX2_advance_83 F k83 s.1 s.2.1 s.2.2.1 s.2.2.2) (fu + u + 1) (x, nI lo, nI hi, S) = some (x, S') ∧ RowF n (rvF u f lo hi) S' ∧ Fr21 S S' := by
  intro u
  induction u with
  | zero =>
    intro fu lo hi f S h1 hl h2 hR
    refine ⟨S, ?_, hR, Fr21.rf S⟩
    rw [fix_s]
    show bX2_advance_83 F _ x (nI lo) (nI hi) S = _
    unfold bX2_advance_83
    rw [if_pos (nI_le (by omega) (by omega))]
  | succ u ih =>
    intro fu lo hi f S h1 hl h2 hR
    unfold rvF
    by_cases q : hi ≤ lo
    · refine ⟨S, ?_, by rw [if_pos q]; exact hR, Fr21.rf S⟩
      rw [fix_s]
      show bX2_advance_83 F _ x (nI lo) (nI hi) S = _
      unfold bX2_advance_83
      rw [if_pos (nI_le q (by omega))]
    · obtain ⟨S1, e1, e2, e3⟩ := swap_spec (F := F) (a := lo) (b := hi) hn (by omega) h2 hR
      obtain ⟨S', g1, g2, g3⟩ := ih fu (lo + 1) (hi - 1) (swp f lo hi) S1 (by omega) (by omega) (by omega) e2
      refine ⟨S', ?_, by rw [if_neg q]; exact g2, e3.tr g3⟩
      rw [fix_s]
      show bX2_advance_83 F _ x (nI lo) (nI hi) S = _
      unfold bX2_advance_83
      rw [if_neg (nI_ge (by omega) (by omega)), e1, Option.bind_some, gl_def, gl_def, nI_1]
      obtain ⟨h', rfl⟩ : ∃ h', hi = h' + 1 := ⟨hi - 1, by omega⟩
      rw [pk_m1]
      exact g1
theorem ot_spec {F n p : Nat} {f : Nat → Nat} {S : gS} (hn : n ≤ 5) (hp : p < n) (hR : RowF n f S) (hf : ∀ k, k < n → f k < 8) : ∀ (o fu : Nat), o < n → g_fix (fun k41 s => bX2_advance_41 F k41 s.1 s.2.1 s.2.2.1 s.2.2.2) (fu + o + 1) (nI n, nI p, nI o, S) = bX2_advance_67 F (nI n) (nI p) (nI (otF f p o)) S := by
  intro o
  induction o with
  | zero =>
    intro fu ho
    rw [fix_s]
    show bX2_advance_41 F _ (nI n) (nI p) (nI 0) S = _
    unfold bX2_advance_41
    rw [if_pos (nI_le (by omega) (by omega))]
    rfl
  | succ o ih =>
    intro fu ho
    rw [fix_s]
    show bX2_advance_41 F _ (nI n) (nI p) (nI (o + 1)) S = _
    unfold bX2_advance_41 otF
    by_cases q : o + 1 ≤ p
    · rw [if_pos (nI_le q (by omega)), if_pos q]
    · rw [if_neg (nI_ge (by omega) (by omega)), if_neg q, chk_nI (show o + 1 < 5 by omega) (by decide), chk_nI (show p < 5 by omega) (by decide), nI_clamp (show p < 2 ^ 31 by omega), nI_clamp (show o + 1 < 2 ^ 31 by omega), show g_I S 21 p = nI (f p) from hR p hp, show g_I S 21 (o + 1) = nI (f (o + 1)) from hR _ ho]
      have f1 := hf p hp
      have f2 := hf (o + 1) ho
      by_cases q2 : f p ≤ f (o + 1)
      · rw [if_pos (nI_le q2 (by omega)), if_pos q2]
      · rw [if_neg (nI_ge (by omega) (by omega)), if_neg q2, gl_def, pk_m1]
        exact ih fu (by omega)
theorem otF_lt {f : Nat → Nat} {p : Nat} : ∀ o, otF f p o ≤ o := by
  intro o
  induction o with
  | zero => exact Nat.le_refl _
  | succ o ih =>
    unfold otF
    split
    · omega
    · split <;> omega
theorem plF_lt {f : Nat → Nat} {p : Nat} : ∀ m, plF f m = some p → p < m := by
  intro m
  induction m with
  | zero => intro h; cases h
  | succ m ih =>
    intro h
    unfold plF at h
    split at h
    · obtain rfl := Option.some.inj h; omega
    · have := ih h; omega
def dI (m : Nat) : Int32 := match m with
  | 0 => -1
  | m + 1 => nI m
theorem dI_m1 (m : Nat) : dI (m + 1) + -1 = dI m := by
  cases m with
  | zero => rfl
  | succ m => exact pk_m1 m
theorem pl_spec {F n : Nat} {f : Nat → Nat} {S : gS} (hn : n ≤ 5) (hR : RowF n f S) (hf : ∀ k, k < n → f k < 8) : ∀ (m fu : Nat), m < n → g_fix (fun k4 s => bX2_advance_4 F k4 s.1 s.2.1 s.2.2) (fu + m + 1) (nI n, dI m, S) = bX2_advance_31 F (nI n) (match plF f m with
    | none => -1
    | some p => nI p) S := by
  intro m
  induction m with
  | zero =>
    intro fu hm
    rw [fix_s]
    show bX2_advance_4 F _ (nI n) (-1) S = _
    unfold bX2_advance_4
    rw [if_pos (by decide)]
    rfl
  | succ m ih =>
    intro fu hm
    rw [fix_s]
    show bX2_advance_4 F _ (nI n) (nI m) S = _
    unfold bX2_advance_4 plF
    have f1 := hf m (by omega)
    have f2 := hf (m + 1) hm
    rw [if_neg (nI_pos (by omega)), nI_1, chk_nI (show m < 5 by omega) (by decide), chk_nI (show m + 1 < 5 by omega) (by decide), nI_clamp (show m < 2 ^ 31 by omega), nI_clamp (show m + 1 < 2 ^ 31 by omega), show g_I S 21 m = nI (f m) from hR m (by omega), show g_I S 21 (m + 1) = nI (f (m + 1)) from hR _ hm]
    by_cases q2 : f m ≤ f (m + 1)
    · rw [if_pos (nI_le q2 (by omega)), if_pos q2]
    · rw [if_neg (nI_ge (by omega) (by omega)), if_neg q2, gl_def, show nI m + -1 = dI m from dI_m1 m]
      exact ih fu (by omega)
theorem adv_spec {F n : Nat} {f : Nat → Nat} {S : gS} (hF : 100 < F) (hn : n ≤ 5) (hR : RowF n f S) (hf : ∀ k, k < n → f k < 8) : (plF f (n - 1) = none → fX2_advance F (nI n) S = some (-1, S)) ∧ (∀ p, plF f (n - 1) = some p → ∃ S', fX2_advance F (nI n) S = some (nI p, S') ∧ RowF n (nxtF n f p) S' ∧ Fr21 S S') := by
  by_cases h0 : n = 0
  · subst h0
    refine ⟨fun _ => ?_, fun p h => by cases h⟩
    unfold fX2_advance
    rw [gl_def]
    show g_fix _ F (nI 0, nI 0 - 2, S) = _
    rw [fix_pos (by omega)]
    show bX2_advance_4 F _ (nI 0) (nI 0 - 2) S = _
    unfold bX2_advance_4
    rw [if_pos (by decide)]
    unfold bX2_advance_31
    rw [if_neg (by decide)]
  have e : fX2_advance F (nI n) S = bX2_advance_31 F (nI n) (match plF f (n - 1) with
    | none => -1
    | some p => nI p) S := by
    have := pl_spec (F := F) hn hR hf (n - 1) (F - n) (by omega)
    rw [show F - n + (n - 1) + 1 = F by omega] at this
    unfold fX2_advance
    rw [gl_def, ← this]
    have e2 : nI n - 2 = dI (n - 1) := by
      obtain ⟨m, rfl⟩ : ∃ m, n = m + 1 := ⟨n - 1, by omega⟩
      cases m with
      | zero => rfl
      | succ m => show nI (m + 2) - nI 2 = nI m; rw [pk_sub (by omega)]; rfl
    rw [e2]; rfl
  refine ⟨fun h => ?_, fun p h => ?_⟩
  · rw [h] at e
    rw [e]
    unfold bX2_advance_31
    rw [if_neg (by decide)]
  · rw [h] at e
    have hp := plF_lt _ h
    have hot := otF_lt (f := f) (p := p) (n - 1)
    have h41 := ot_spec (F := F) hn (show p < n by omega) hR hf (n - 1) (F - n) (by omega)
    rw [show F - n + (n - 1) + 1 = F by omega] at h41
    obtain ⟨S1, e1, e2, e3⟩ := swap_spec (F := F) (a := p) (b := otF f p (n - 1)) hn (by omega) (by omega) hR
    obtain ⟨S', g1, g2, g3⟩ := rv_spec (F := F) (x := nI p) hn n (F - n - 1) (p + 1) (n - 1) _ S1 (by omega) (by omega) (by omega) e2
    rw [show F - n - 1 + n + 1 = F by omega] at g1
    refine ⟨S', ?_, g2, e3.tr g3⟩
    rw [e]
    show bX2_advance_31 F (nI n) (nI p) S = _
    unfold bX2_advance_31
    rw [if_pos (nI_pos' (by omega)), gl_def, nI_sub1 (by omega)]
    rw [show bX2_advance_41l F F (nI n, nI p, nI (n - 1), S) = bX2_advance_67 F (nI n) (nI p) (nI (otF f p (n - 1))) S from h41]
    unfold bX2_advance_67
    rw [e1, Option.bind_some, gl_def, gl_def, nI_1, nI_sub1 (by omega)]
    exact g1

/-! count -/
def sumI (f : Nat → Int32) : Nat → Int32
  | 0 => 0
  | n + 1 => sumI f n + f n
theorem sumI_congr {f g : Nat → Int32} : ∀ {n : Nat}, (∀ c, c < n → f c = g c) → sumI f n = sumI g n := by
  intro n
  induction n with
  | zero => intro _; rfl
  | succ n ih => intro h; unfold sumI; rw [ih (fun c hc => h c (by omega)), h n (by omega)]
theorem sum7_spec {F ar : Nat} {S : gS} (hF : 100 < F) : fX7_sum F ar S = some (sumI (S.1 ar) 64, S) := by
  have := fix_for (body := fun k10 s => bX7_sum_10 F ar k10 s.1 s.2.1 s.2.2.1 s.2.2.2) (fun c => (sumI (S.1 ar) c, nI 64, nI c, S)) 64 (res := some (sumI (S.1 ar) 64, S)) (fun c hc k => by
    show bX7_sum_10 F ar k (sumI (S.1 ar) c) (nI 64) (nI c) S = k (sumI (S.1 ar) c + S.1 ar c, nI 64, nI (c + 1), S)
    unfold bX7_sum_10
    rw [if_neg (nI_ge hc (by decide)), chk_nI hc (by decide), nI_clamp (show c < 2 ^ 31 by omega), gl_def, gl_def, gl_def, nI_1]) (fun k => by
    show bX7_sum_10 F ar k (sumI (S.1 ar) 64) (nI 64) (nI 64) S = _
    unfold bX7_sum_10
    rw [if_pos (nI_le (Nat.le_refl _) (by decide))]) (F := F) (by omega)
  unfold fX7_sum
  rw [gl_def]
  exact this
theorem cnt8_spec {F : Nat} {x : Int32} {T : gS} (hF : 100 < F) : bX8_count_65 F x 0 T = some (nI (cntB (fun c => decide (T.1 57 c = x)) 64), T) := by
  have := fix_for (body := fun k67 s => bX8_count_67 F k67 s.1 s.2.1 s.2.2.1 s.2.2.2) (fun c => (x, nI (cntB (fun c => decide (T.1 57 c = x)) c), nI c, T)) 64 (res := some (nI (cntB (fun c => decide (T.1 57 c = x)) 64), T)) (fun c hc k => by
    show bX8_count_67 F k x (nI (cntB (fun c => decide (T.1 57 c = x)) c)) (nI c) T = k (x, nI (cntB (fun c => decide (T.1 57 c = x)) c + (if decide (T.1 57 c = x) = true then 1 else 0)), nI (c + 1), T)
    unfold bX8_count_67 bX8_count_89
    rw [if_neg (show ¬ ((64 : Int32) ≤ nI c) from nI_ge hc (by decide)), chk_nI hc (by decide), nI_clamp (show c < 2 ^ 31 by omega), gl_def, gl_def, gl_def, gl_def, nI_1]
    by_cases q : T.1 57 c = x
    · rw [if_pos (show g_I T 57 c = x from q), if_pos (by simp [q]), nI_1]
    · rw [if_neg (show ¬ g_I T 57 c = x from q), if_neg (by simp [q]), show (0 : Int32) = nI 0 from rfl, nI_add, nI_1]) (fun k => by
    show bX8_count_67 F k x (nI (cntB (fun c => decide (T.1 57 c = x)) 64)) (nI 64) T = _
    unfold bX8_count_67
    rw [if_pos (by decide)]) (F := F) (by omega)
  exact this
def selC (x : Int32) : Nat := if x = 3 then 58 else if x = 4 then 59 else if x = 5 then 60 else 61
theorem sum8_spec {F : Nat} {x : Int32} {T : gS} (hF : 100 < F) : bX8_count_99 F x 0 T = some (sumI (T.1 (selC x)) 64, T) := by
  have := fix_for (body := fun k101 s => bX8_count_101 F k101 s.1 s.2.1 s.2.2.1 s.2.2.2) (fun c => (x, sumI (T.1 (selC x)) c, nI c, T)) 64 (res := some (sumI (T.1 (selC x)) 64, T)) (fun c hc k => by
    show bX8_count_101 F k x (sumI (T.1 (selC x)) c) (nI c) T = k (x, sumI (T.1 (selC x)) c + T.1 (selC x) c, nI (c + 1), T)
    have e : ∀ v t, bX8_count_156 F k x (nI c) v t T = k (x, t + v, nI (c + 1), T) := fun v t => by
      unfold bX8_count_156
      rw [gl_def, gl_def, nI_1]
    unfold bX8_count_101
    rw [if_neg (show ¬ ((64 : Int32) ≤ nI c) from nI_ge hc (by decide)), chk_nI hc (by decide), chk_nI hc (by decide), chk_nI hc (by decide), chk_nI hc (by decide), nI_clamp (show c < 2 ^ 31 by omega), e, e, e, e]
    by_cases q3 : x = 3
    · rw [if_pos q3, show selC x = 58 from if_pos q3]
    · by_cases q4 : x = 4
      · rw [if_neg q3, if_pos q4, show selC x = 59 from (if_neg q3).trans (if_pos q4)]
      · by_cases q5 : x = 5
        · rw [if_neg q3, if_neg q4, if_pos q5, show selC x = 60 from (if_neg q3).trans ((if_neg q4).trans (if_pos q5))]
        · rw [if_neg q3, if_neg q4, if_neg q5, show selC x = 61 from (if_neg q3).trans ((if_neg q4).trans (if_neg q5))]) (fun k => by
    show bX8_count_101 F k x (sumI (T.1 (selC x)) 64) (nI 64) T = _
    unfold bX8_count_101
    rw [if_pos (by decide)]) (F := F) (by omega)
  exact this
theorem count_rel {F : Nat} {S T : gS} (hF : 100 < F) (h : Inv S T) (a : Int32) : ∃ r T', fX7_count F a S = some (r, S) ∧ fX8_count F a T = some (r, T') ∧ FM T T' := by
  obtain ⟨hT, hG, ⟨nW, w1, w2, w3, -⟩, -, hf⟩ := id h
  obtain ⟨len, l1, l2, l3, -⟩ := id hT
  obtain ⟨T1, r1, r2, r3, r4⟩ := reads_rel (F := F) hF hT
  have hfm : FM T T1 := ⟨fun i k hp => r2 i k (by unfold per at hp; omega), r3⟩
  have h8 : fX8_count F a T = (if a = 0 then (some ((g_I T1 51 6), T1)) else (if a = 1 then (bX8_count_65 F a (0 : Int32) T1) else (if a = 2 then (bX8_count_65 F a (0 : Int32) T1) else (if a = 3 then (bX8_count_99 F a (0 : Int32) T1) else (if a = 4 then (bX8_count_99 F a (0 : Int32) T1) else (if a = 5 then (bX8_count_99 F a (0 : Int32) T1) else (if a = 6 then (bX8_count_99 F a (0 : Int32) T1) else (if a = 7 then (some ((g_I T1 51 12), T1)) else (if a = 8 then (some ((g_I T1 51 4), T1)) else (some ((-2 : Int32), T1)))))))))) ) := by
    unfold fX8_count
    rw [r1, Option.bind_some]
  have fin : ∀ r, fX7_count F a S = some (r, S) → fX8_count F a T = some (r, T1) → ∃ r T', fX7_count F a S = some (r, S) ∧ fX8_count F a T = some (r, T') ∧ FM T T' := fun r e1 e2 => ⟨r, T1, e1, e2, hfm⟩
  have s4 : ∀ ar ar', (∀ c, c < 64 → S.1 ar c = T.1 ar' c) → ar' ≠ 57 → sumI (S.1 ar) 64 = sumI (T1.1 ar') 64 := fun ar ar' h1 h2 => sumI_congr (fun c hc => by rw [r2 ar' c h2]; exact h1 c hc)
  rcases three a (n := 9) (by decide) with hout | ⟨j, hj, rfl⟩
  · have n0 : ∀ j, j < 9 → ¬ a = nI j := fun j hj => out_ne (by decide) hout hj
    apply fin (-2)
    · unfold fX7_count
      rw [if_neg (show ¬ a = (0 : Int32) from n0 0 (by decide)), if_neg (show ¬ a = (1 : Int32) from n0 1 (by decide)), if_neg (show ¬ a = (2 : Int32) from n0 2 (by decide)), if_neg (show ¬ a = (3 : Int32) from n0 3 (by decide)), if_neg (show ¬ a = (4 : Int32) from n0 4 (by decide)), if_neg (show ¬ a = (5 : Int32) from n0 5 (by decide)), if_neg (show ¬ a = (6 : Int32) from n0 6 (by decide)), if_neg (show ¬ a = (7 : Int32) from n0 7 (by decide)), if_neg (show ¬ a = (8 : Int32) from n0 8 (by decide))]
    · rw [h8, if_neg (show ¬ a = (0 : Int32) from n0 0 (by decide)), if_neg (show ¬ a = (1 : Int32) from n0 1 (by decide)), if_neg (show ¬ a = (2 : Int32) from n0 2 (by decide)), if_neg (show ¬ a = (3 : Int32) from n0 3 (by decide)), if_neg (show ¬ a = (4 : Int32) from n0 4 (by decide)), if_neg (show ¬ a = (5 : Int32) from n0 5 (by decide)), if_neg (show ¬ a = (6 : Int32) from n0 6 (by decide)), if_neg (show ¬ a = (7 : Int32) from n0 7 (by decide)), if_neg (show ¬ a = (8 : Int32) from n0 8 (by decide))]
  have lit : ∀ {α : Type} (i : Nat) (x : Int32) (A B : α), x = nI i → i < 9 → (if nI j = x then A else B) = if j = i then A else B := fun i x A B hx hi => by
    subst hx
    by_cases q : j = i
    · rw [if_pos q, if_pos (by rw [q])]
    · rw [if_neg q, if_neg (fun z => q (nI_inj (by omega) (by omega) z))]
  have h7 : fX7_count F (nI j) S = (if j = 0 then (some ((g_I S 1 1), S)) else (if j = 1 then ((fJ13_bitCount_95d88 F (g_J S 1 3) S).bind (fun q3 : Int32 × gS => some (q3.1, q3.2))) else (if j = 2 then ((fJ13_bitCount_95d88 F (g_J S 1 4) S).bind (fun q5 : Int32 × gS => some (q5.1, q5.2))) else (if j = 3 then ((fX7_sum F 4 S).bind (fun q7 : Int32 × gS => some (q7.1, q7.2))) else (if j = 4 then ((fX7_sum F 5 S).bind (fun q9 : Int32 × gS => some (q9.1, q9.2))) else (if j = 5 then ((fX7_sum F 6 S).bind (fun q11 : Int32 × gS => some (q11.1, q11.2))) else (if j = 6 then ((fX7_sum F 7 S).bind (fun q13 : Int32 × gS => some (q13.1, q13.2))) else (if j = 7 then (some ((g_I S 9 2), S)) else (if j = 8 then (some ((g_I S 0 7), S)) else (some ((-2 : Int32), S)))))))))) ) := by
    unfold fX7_count
    rw [lit 0 0 _ _ rfl (by decide), lit 1 1 _ _ rfl (by decide), lit 2 2 _ _ rfl (by decide), lit 3 3 _ _ rfl (by decide), lit 4 4 _ _ rfl (by decide), lit 5 5 _ _ rfl (by decide), lit 6 6 _ _ rfl (by decide), lit 7 7 _ _ rfl (by decide), lit 8 8 _ _ rfl (by decide)]
  rw [lit 0 0 _ _ rfl (by decide), lit 1 1 _ _ rfl (by decide), lit 2 2 _ _ rfl (by decide), lit 3 3 _ _ rfl (by decide), lit 4 4 _ _ rfl (by decide), lit 5 5 _ _ rfl (by decide), lit 6 6 _ _ rfl (by decide), lit 7 7 _ _ rfl (by decide), lit 8 8 _ _ rfl (by decide)] at h8
  have kd1 : cntB (fun c => decide (T1.1 57 c = 1)) 64 = cntB (hb (S.2 1 3)) 64 := cntB_congr (fun c hc => by
    rw [r4 c hc]
    by_cases q : hb (S.2 1 3) c = true
    · simp [q]
    · have q' : hb (S.2 1 3) c = false := by simpa using q
      rw [q']; by_cases q2 : hb (S.2 1 4) c = true <;> simp [q2])
  have kd2 : cntB (fun c => decide (T1.1 57 c = 2)) 64 = cntB (hb (S.2 1 4)) 64 := cntB_congr (fun c hc => by
    rw [r4 c hc]
    by_cases q : hb (S.2 1 3) c = true
    · simp [q, disj hT hc q]
    · have q' : hb (S.2 1 3) c = false := by simpa using q
      rw [q']; by_cases q2 : hb (S.2 1 4) c = true <;> simp [q2])
  rcases (show j = 0 ∨ j = 1 ∨ j = 2 ∨ j = 3 ∨ j = 4 ∨ j = 5 ∨ j = 6 ∨ j = 7 ∨ j = 8 by omega) with rfl | rfl | rfl | rfl | rfl | rfl | rfl | rfl | rfl
  · rw [if_pos rfl] at h7 h8
    exact fin _ h7 (by rw [h8, show g_I T1 51 6 = g_I S 1 1 from (r2 51 6 (by decide)).trans (l3.trans l2.symm)])
  · rw [if_neg (by decide), if_pos rfl, bc_spec, Option.bind_some, show g_J S 1 3 = S.2 1 3 from rfl, bcV_spec] at h7
    rw [if_neg (by decide), if_pos rfl, cnt8_spec hF, show nI 1 = (1 : Int32) from rfl, kd1] at h8
    exact fin _ h7 h8
  · rw [if_neg (by decide), if_neg (by decide), if_pos rfl, bc_spec, Option.bind_some, show g_J S 1 4 = S.2 1 4 from rfl, bcV_spec] at h7
    rw [if_neg (by decide), if_neg (by decide), if_pos rfl, cnt8_spec hF, show nI 2 = (2 : Int32) from rfl, kd2] at h8
    exact fin _ h7 h8
  · rw [if_neg (by decide), if_neg (by decide), if_neg (by decide), if_pos rfl, sum7_spec hF, Option.bind_some] at h7
    rw [if_neg (by decide), if_neg (by decide), if_neg (by decide), if_pos rfl, sum8_spec hF, show selC (nI 3) = 58 from rfl, ← s4 4 58 (fun c hc => by obtain ⟨⟨w, _, a, b⟩, -⟩ := hG c hc; rw [a, b]) (by decide)] at h8
    exact fin _ h7 h8
  · rw [if_neg (by decide), if_neg (by decide), if_neg (by decide), if_neg (by decide), if_pos rfl, sum7_spec hF, Option.bind_some] at h7
    rw [if_neg (by decide), if_neg (by decide), if_neg (by decide), if_neg (by decide), if_pos rfl, sum8_spec hF, show selC (nI 4) = 59 from rfl, ← s4 5 59 (fun c hc => by obtain ⟨-, ⟨w, _, a, b⟩, -⟩ := hG c hc; rw [a, b]) (by decide)] at h8
    exact fin _ h7 h8
  · rw [if_neg (by decide), if_neg (by decide), if_neg (by decide), if_neg (by decide), if_neg (by decide), if_pos rfl, sum7_spec hF, Option.bind_some] at h7
    rw [if_neg (by decide), if_neg (by decide), if_neg (by decide), if_neg (by decide), if_neg (by decide), if_pos rfl, sum8_spec hF, show selC (nI 5) = 60 from rfl, ← s4 6 60 (fun c hc => by obtain ⟨-, -, ⟨w, _, a, b⟩, -⟩ := hG c hc; rw [a, b]) (by decide)] at h8
    exact fin _ h7 h8
  · rw [if_neg (by decide), if_neg (by decide), if_neg (by decide), if_neg (by decide), if_neg (by decide), if_neg (by decide), if_pos rfl, sum7_spec hF, Option.bind_some] at h7
    rw [if_neg (by decide), if_neg (by decide), if_neg (by decide), if_neg (by decide), if_neg (by decide), if_neg (by decide), if_pos rfl, sum8_spec hF, show selC (nI 6) = 61 from rfl, ← s4 7 61 (fun c hc => (hG c hc).2.2.2.1) (by decide)] at h8
    exact fin _ h7 h8
  · rw [if_neg (by decide), if_neg (by decide), if_neg (by decide), if_neg (by decide), if_neg (by decide), if_neg (by decide), if_neg (by decide), if_pos rfl] at h7 h8
    exact fin _ h7 (by rw [h8, show g_I T1 51 12 = g_I S 9 2 from (r2 51 12 (by decide)).trans (w3.trans w2.symm)])
  · rw [if_neg (by decide), if_neg (by decide), if_neg (by decide), if_neg (by decide), if_neg (by decide), if_neg (by decide), if_neg (by decide), if_neg (by decide), if_pos rfl] at h7 h8
    exact fin _ h7 (by rw [h8, show g_I T1 51 4 = g_I S 0 7 from (r2 51 4 (by decide)).trans hf.symm])
theorem op_count {F : Nat} (hF : 100 < F) (a : Int32) : Op Int32 (fX7_count F a) (fX8_count F a) := Op.try (fun S T h => by
  obtain ⟨r, T', e1, e2, e3⟩ := count_rel hF h a
  exact ⟨r, S, T', e1, e2, FC.rf S, e3⟩)

/-! straight, plan, all, longer -/
theorem m1_of {j : Int32} (h : ¬ j < -1) (h0 : j < 0) : j = -1 := by
  apply Int32.toInt_inj.mp
  have h1 : (-1 : Int32).toInt ≤ j.toInt := Int32.le_iff_toInt_le.mp (Int32.not_lt.mp h)
  have h2 : j.toInt < (0 : Int32).toInt := Int32.lt_iff_toInt_lt.mp h0
  have e1 : (-1 : Int32).toInt = -1 := by decide
  have e2 : (0 : Int32).toInt = 0 := by decide
  rw [e1] at h1 ⊢
  rw [e2] at h2
  omega
theorem fewest_spec {F w nW a b : Nat} {S : gS} (hF : 2000 < F) (hw : w < nW) (hnW : nW ≤ 8) (ha : a < 64) (hbb : b < 64) (h10 : S.1 10 w = nI a) (h11 : S.1 11 w = nI b) (h8 : ∀ c, c < 64 → S.1 8 c = 0) :
    ∃ v S', fX7_fewestSteps F (nI w) S = some (v, S') ∧ FrFi S S' ∧ StV (S.2 1 3) (S.2 1 4) a b v := by
  have hhead : ∀ v S', fX4_find F 8 (nI a) (nI b) (S.2 1 3 ||| S.2 1 4) S = some (v, S') → fX7_fewestSteps F (nI w) S = some (v, S') := fun v S' h => by
    unfold fX7_fewestSteps
    simp only [gl_def]
    rw [chk_nI (show w < 8 by omega) (by decide), chk_nI (show w < 8 by omega) (by decide), nI_clamp (by omega), show g_I S 10 w = nI a from h10, show g_I S 11 w = nI b from h11, show g_J S 1 3 = S.2 1 3 from rfl, show g_J S 1 4 = S.2 1 4 from rfl, h]
    rfl
  rcases find_spec (F := F) (sn := 8) (S := S) (op := op0 (S.2 1 3) (S.2 1 4)) (wt := fun _ => 1) hF ha hbb (fun _ => ⟨Nat.le_refl 1, by decide⟩) (fun _ => rfl) (by decide) (by decide) (by decide) (fun c hc => by rw [h8 c hc]; rfl) with ⟨S', h1, ⟨h2, -⟩, h3⟩ | ⟨d, l, S', h1, h2, h3, h4, h5, h6, h7⟩
  · exact ⟨-1, S', hhead _ _ h3, h2, Or.inr ⟨h1, rfl⟩⟩
  · exact ⟨nI d, S', hhead _ _ h7, h4, Or.inl ⟨d, h2, h1, rfl⟩⟩
theorem op_straight {F : Nat} (hF : 20000000 < F) (a : Int32) : Op Int32 (fX7_straight F a) (fX8_straight F a) := Op.try (fun S T h => by
  obtain ⟨hT, hG, ⟨nW, w1, w2, w3, w4⟩, hS, hf⟩ := id h
  rcases three a (n := nW) (by omega) with hout | ⟨w, hw, rfl⟩
  · refine ⟨-2, S, T, ?_, ?_, FC.rf S, FM.rf T⟩
    · unfold fX7_straight; rw [walker7_out F w2 hout]; rfl
    · unfold fX8_straight; rw [walker8_out F w3 w1 hout]; rfl
  · obtain ⟨x, y, hx, hy, v1, v2, v3, v4⟩ := w4 w hw
    obtain ⟨v, S', e1, e2, e3⟩ := fewest_spec (F := F) (by omega) hw w1 hx hy v1 v3 (fun c hc => (hG c hc).2.2.2.2)
    obtain ⟨T1, t1, t2, t3, -⟩ := tries_rel (F := F) (by omega) hT
    obtain ⟨v', T2, g1, g2, g3⟩ := straightOf_spec (F := F) (wi := w) hF (by omega) hx hy t3 (by rw [t2.1 62 w (by decide) (by decide) (by decide) (by decide) (Or.inl (by decide))]; exact v2) (by rw [t2.1 63 w (by decide) (by decide) (by decide) (by decide) (Or.inl (by decide))]; exact v4)
    have := StV_u e3 g3
    subst this
    refine ⟨v, S', T2, ?_, ?_, e2.fc, t2.fm.tr g2.fm⟩
    · unfold fX7_straight
      rw [walker7_in F w2 w1 hw]
      simp only [Option.bind_some]
      rw [if_neg (by decide), e1]; rfl
    · unfold fX8_straight
      rw [walker8_in F w3 w1 hw]
      simp only [Option.bind_some]
      rw [if_neg (by decide), t1]
      simp only [Option.bind_some]
      rw [g1]; rfl)
/-- a plan, both: what it costs and its cells -/
theorem plan_rel {F x y : Nat} {S T : gS} (hF : 20000000 < F) (h : Inv S T) (hx : x < 64) (hy : y < 64) (j : Int32) (hj : ¬ j < -1) :
    ∃ r S' T', fX7_plan F (nI x) (nI y) j S = some (r, S') ∧ fX8_planOf F (nI x) (nI y) j T = some (r, T') ∧ FC S S' ∧ FM T T' := by
  obtain ⟨hT, hG, -⟩ := id h
  obtain ⟨T1, t1, t2, t3, t4, -⟩ := tries_rel (F := F) (by omega) hT
  obtain ⟨T2, k1, k2, k3⟩ := knows_spec (F := F) (by omega) 0 T1
  have hK0 : ∀ c, c < 64 → T2.1 67 c = 0 := fun c hc => by rw [k3 c hc]; simp
  have hKR2 : KRel (S.2 1 3) (S.2 1 4) T2 := t3.fr2 (T' := T2) ⟨fun i k _ _ _ a _ _ _ => k2.1 i k a, k2.2⟩
  have hfm2 : FM T T2 := t2.fm.tr ⟨fun i k hp => k2.1 i k (by unfold per at hp; omega), k2.2⟩
  have hMOp : MOp (fun c => decide (c < 64) && !hb (S.2 1 3) c) T2 := fun c hc => by
    have := (hKR2 c hc).1
    dsimp only
    rw [← this, hK0 c hc]
    by_cases q : T2.1 57 c = 1 <;> simp [q, hc]
  have hop2 : ∀ c, (fun c => decide (c < 64) && !hb (S.2 1 3) c) c = true → c < 64 := fun c h => by simp at h; exact h.1
  have hwt : ∃ wt : Nat → Nat, (∀ n, 1 ≤ wt n ∧ wt n ≤ 31) ∧ ∀ c, c < 64 → (1 : Int32) + T2.1 64 c = nI (wt c) ∧ S.1 4 c + 1 = nI (wt c) := by
    refine ⟨fun n => if n < 64 then 1 + min 30 (S.1 4 n).toNatClampNeg else 1, fun n => ?_, fun c hc => ?_⟩
    · dsimp only; split <;> omega
    · obtain ⟨⟨w, hw, e1, e2⟩, -⟩ := hG c hc
      dsimp only
      rw [k2.1 64 c (by decide), (t4 c hc).1, e1, e2, nI_clamp (by omega), if_pos hc, Nat.min_eq_right hw]
      constructor
      · rw [show (1 : Int32) = nI 1 from rfl, nI_add]
      · rw [nI_1]; congr 1; omega
  obtain ⟨wt, hwt1, hwt2⟩ := hwt
  have hMWt : MWt wt 0 T2 := ⟨hwt1, fun _ c hc => (hwt2 c hc).1, fun z => absurd rfl z⟩
  have hbe : begM T2 x = (!hb (S.2 1 3) x && !hb (S.2 1 4) x) := by
    obtain ⟨e1, e2⟩ := hKR2 x hx
    unfold begM
    rw [e2, ← e1]; simp
  have h7 : fX7_plan F (nI x) (nI y) j S = (if hasV (S.2 1 4) x = 0 then ((fX4_find F 4 (nI x) (nI y) (S.2 1 3) S).bind (fun q8 : Int32 × gS => if j = (-1 : Int32) then (some (q8.1, q8.2)) else (if (g_I q8.2 12 3) ≤ j then (some ((-1 : Int32), q8.2)) else (g_chk j 64 (some ((g_I q8.2 15 (j).toNatClampNeg), q8.2)))))) else (some ((-1 : Int32), S))) := by
    unfold fX7_plan
    rw [cell7_in F hx]
    simp only [Option.bind_some]
    rw [if_neg (by decide), cell7_in F hy]
    simp only [Option.bind_some]
    rw [if_neg (by decide), if_pos (Int32.not_lt.mp hj), has_spec F _ hx]
    simp only [Option.bind_some, gl_def]
  have h8 : fX8_planOf F (nI x) (nI y) j T = (fX8_plans F (nI x) (nI y) T2).bind (fun q3 : Int32 × gS => if q3.1 = 0 then (some ((-1 : Int32), q3.2)) else (if j = (-1 : Int32) then (g_chk (nI x) 64 (some ((g_I q3.2 68 (nI x).toNatClampNeg), q3.2))) else (if (g_I q3.2 51 26) ≤ j then (some ((-1 : Int32), q3.2)) else (g_chk j 64 (some ((g_I q3.2 69 (j).toNatClampNeg), q3.2)))))) := by
    unfold fX8_planOf
    rw [t1]
    simp only [Option.bind_some]
    rw [k1]
    simp only [Option.bind_some]
  by_cases q1 : hb (S.2 1 4) x = true
  · obtain ⟨T3, g1, g2⟩ := plans_no (F := F) (b := y) hF hMOp hop2 hMWt hx hy (Or.inl (by rw [hbe, q1]; simp))
    refine ⟨-1, S, T3, ?_, ?_, FC.rf S, hfm2.tr g1.wk.w2.fm⟩
    · rw [h7, if_neg (fun z => by rw [hasV_0, q1] at z; cases z)]
    · rw [h8, g2]; rfl
  · have q1' : hb (S.2 1 4) x = false := by simpa using q1
    rw [if_pos (hasV_0.mpr q1')] at h7
    rcases find_spec (F := F) (sn := 4) (S := S) (op := fun c => decide (c < 64) && !hb (S.2 1 3) c) (wt := wt) (by omega) hx hy hwt1 (fun _ => rfl) (by decide) (by decide) (by decide) (fun c hc => (hwt2 c hc).2) with ⟨S', f1, ⟨f2, f0⟩, f3⟩ | ⟨d, l, S', f1, f2, f3, f4, f5, f6, f7⟩
    · obtain ⟨T3, g1, g2⟩ := plans_no (F := F) (b := y) hF hMOp hop2 hMWt hx hy (Or.inr f1)
      refine ⟨-1, S', T3, ?_, ?_, f2.fc, hfm2.tr g1.wk.w2.fm⟩
      · rw [h7, f3]
        simp only [Option.bind_some]
        by_cases qj : j = -1
        · rw [if_pos qj]
        · rw [if_neg qj, if_pos (by show S'.1 12 3 ≤ j; rw [f0]; exact Int32.not_lt.mp (fun z => qj (m1_of hj z)))]
      · rw [h8, g2]; rfl
    · have hopx : hb (S.2 1 3) x = false := by have := rch_op f1.1; simp at this; exact this.2
      obtain ⟨l2, T3, g1, g2, g3, g4, g5, g6⟩ := plans_yes (F := F) hF hMOp hop2 hMWt hx hy (by rw [hbe, q1', hopx]; rfl) (by omega) f1
      have hll := Ch_u f3.1 g1.1
      subst hll
      have hl63 := f3.2.1
      refine ⟨if j = -1 then nI d else if nI l.length ≤ j then -1 else S'.1 15 j.toNatClampNeg, S', T3, ?_, ?_, f4.fc, hfm2.tr g2.wk.w2.fm⟩
      · rw [h7, f7]
        simp only [Option.bind_some]
        rw [show g_I S' 12 3 = nI l.length from f5]
        by_cases qj : j = -1
        · rw [if_pos qj, if_pos qj]
        · rw [if_neg qj, if_neg qj]
          by_cases ql : nI l.length ≤ j
          · rw [if_pos ql, if_pos ql]
          · rw [if_neg ql, if_neg ql]
            rcases three j (n := l.length) (by omega) with ho | ⟨i, hi, rfl⟩
            · rcases ho with ho | ho
              · exact absurd (m1_of hj ho) qj
              · exact absurd ho ql
            · rw [chk_nI (show i < 64 by omega) (by decide)]
      · rw [h8, g6]
        simp only [Option.bind_some]
        rw [if_neg (by decide), show g_I T3 51 26 = nI l.length from g3, chk_nI hx (by decide), nI_clamp (by omega), show g_I T3 68 x = nI d from g5]
        by_cases qj : j = -1
        · rw [if_pos qj, if_pos qj]
        · rw [if_neg qj, if_neg qj]
          by_cases ql : nI l.length ≤ j
          · rw [if_pos ql, if_pos ql]
          · rw [if_neg ql, if_neg ql]
            rcases three j (n := l.length) (by omega) with ho | ⟨i, hi, rfl⟩
            · rcases ho with ho | ho
              · exact absurd (m1_of hj ho) qj
              · exact absurd ho ql
            · rw [chk_nI (show i < 64 by omega) (by decide), nI_clamp (by omega), f6 i hi, show g_I T3 69 i = nI l[i] from g4 i hi]
/-! what a tried morning comes to -/
def cntP (f : Nat → Int32) : Nat → Int32
  | 0 => 0
  | n + 1 => cntP f n + (if f n ≤ 0 then 0 else 1)
theorem cellsPassed_spec {F : Nat} (hF : 64 < F) (S : gS) : fX3_cellsPassed F 16 S = some (cntP (S.1 18) 64, S) := by
  have := fix_for (body := fun k13 s => bX3_cellsPassed_13 F 16 k13 s.1 s.2.1 s.2.2.1 s.2.2.2) (fun c => (cntP (S.1 18) c, nI 64, nI c, S)) 64 (res := some (cntP (S.1 18) 64, S)) (fun c hc k => by
    show bX3_cellsPassed_13 F 16 k (cntP (S.1 18) c) (nI 64) (nI c) S = _
    unfold bX3_cellsPassed_13
    rw [if_neg (nI_ge hc (by decide)), chk_nI hc (by decide), nI_clamp (by omega)]
    simp only [gl_def, bX3_cellsPassed_33, nI_1]
    show (if S.1 18 c ≤ 0 then _ else _) = k (cntP (S.1 18) c + (if S.1 18 c ≤ 0 then 0 else 1), _)
    by_cases q : S.1 18 c ≤ 0
    · rw [if_pos q, if_pos q]; simp
    · rw [if_neg q, if_neg q]) (fun k => by
    show bX3_cellsPassed_13 F 16 k (cntP (S.1 18) 64) (nI 64) (nI 64) S = _
    unfold bX3_cellsPassed_13
    rw [if_pos (nI_le (Nat.le_refl _) (by decide))]) hF
  exact this
theorem cntP_congr {f g : Nat → Int32} : ∀ {n : Nat}, (∀ c, c < n → f c = g c) → cntP f n = cntP g n := by
  intro n
  induction n with
  | zero => intro _; rfl
  | succ n ih => intro h; unfold cntP; rw [ih (fun c hc => h c (by omega)), h n (by omega)]
theorem allLoop_spec {F : Nat} (hF : 64 < F) (a : Int32) (T : gS) : bX8_allOf_12l F F (a, (0 : Int32), (0 : Int32), T) = some (if a = 0 then T.1 51 21 else if a = 1 then T.1 51 22 else if a = 2 then cntP (T.1 66) 64 else T.1 51 23, T) := by
  have := fix_for (body := fun k12 s => bX8_allOf_12 F k12 s.1 s.2.1 s.2.2.1 s.2.2.2) (fun c => (a, cntP (T.1 66) c, nI c, T)) 64 (res := some (if a = 0 then T.1 51 21 else if a = 1 then T.1 51 22 else if a = 2 then cntP (T.1 66) 64 else T.1 51 23, T)) (fun c hc k => by
    show bX8_allOf_12 F k a (cntP (T.1 66) c) (nI c) T = _
    unfold bX8_allOf_12
    rw [if_neg (show ¬ ((64 : Int32) ≤ nI c) from nI_ge hc (by decide)), chk_nI hc (by decide), nI_clamp (by omega)]
    simp only [bX8_allOf_33, gl_def, nI_1]
    show (if T.1 66 c ≤ 0 then _ else _) = k (a, cntP (T.1 66) c + (if T.1 66 c ≤ 0 then 0 else 1), _)
    by_cases q : T.1 66 c ≤ 0
    · rw [if_pos q, if_pos q]
    · rw [if_neg q, if_neg q]) (fun k => by
    show bX8_allOf_12 F k a (cntP (T.1 66) 64) (nI 64) T = _
    unfold bX8_allOf_12
    rw [if_pos (by decide)]
    by_cases q0 : a = 0
    · rw [if_pos q0, if_pos q0]
    · rw [if_neg q0, if_neg q0]
      by_cases q1 : a = 1
      · rw [if_pos q1, if_pos q1]
      · rw [if_neg q1, if_neg q1]
        by_cases q2 : a = 2
        · rw [if_pos q2, if_pos q2]
        · rw [if_neg q2, if_neg q2]) hF
  exact this
/-- told, of a morning that both have tried -/
theorem told_rel {F : Nat} {S T : gS} (hF : 64 < F) (hTR : TR 16 S T) {j : Nat} (hj : j < 4) : ∃ v, fX7_told F (nI j) S = some (v, S) ∧ bX8_allOf_12l F F (nI j, (0 : Int32), (0 : Int32), T) = some (v, T) := by
  rw [allLoop_spec hF]
  unfold fX7_told
  rw [cellsPassed_spec hF]
  have hc : cntP (S.1 18) 64 = cntP (T.1 66) 64 := cntP_congr (fun c hc => (hTR.1 c hc).2.1)
  rcases (show j = 0 ∨ j = 1 ∨ j = 2 ∨ j = 3 by omega) with rfl | rfl | rfl | rfl
  · exact ⟨S.1 16 4, rfl, by rw [hTR.2.1]; rfl⟩
  · exact ⟨S.1 16 5, rfl, by rw [hTR.2.2.1]; rfl⟩
  · exact ⟨cntP (S.1 18) 64, rfl, by rw [hc]; rfl⟩
  · exact ⟨S.1 16 6, rfl, by rw [hTR.2.2.2]; rfl⟩
theorem allOf_rel {F : Nat} {S T : gS} (hF : 20000000 < F) (h : Inv S T) {j : Nat} (hj : j < 4) : ∃ v S1 S' T', fX7_tryMorning F (-1) (-1) S = some S1 ∧ fX7_told F (nI j) S1 = some (v, S') ∧ fX8_allOf F (nI j) T = some (v, T') ∧ S' = S1 ∧ FC S S' ∧ FM T T' := by
  obtain ⟨S1, T1, T2, e1, e2, e3, e4, e5, e6, e7, -⟩ := morn_rel (F := F) hF h
  obtain ⟨v, g1, g2⟩ := told_rel (F := F) (by omega) e4 hj
  refine ⟨v, S1, S1, T2, e1, g1, ?_, rfl, e5.fc ⟨by decide, by decide⟩, e6.fm.tr e7.fm⟩
  unfold fX8_allOf
  rw [e2]
  simp only [Option.bind_some]
  rw [e3]
  exact g2
theorem op_all {F : Nat} (hF : 20000000 < F) (a : Int32) : Op Int32 (fX7_all F a) (fX8_all F a) := Op.try (fun S T h => by
  rcases ten_cases a 3 (by decide) with hout | ⟨n, hn, rfl⟩
  · refine ⟨-2, S, T, ?_, ?_, FC.rf S, FM.rf T⟩
    · unfold fX7_all
      rcases hout with h1 | ⟨h1, h2⟩
      · rw [if_pos h1]
      · rw [if_neg h1, if_neg (show ¬ a ≤ (3 : Int32) from h2)]
    · unfold fX8_all
      rw [in_out (n := 3) (by decide) (by decide) (out_of (by decide) hout)]
      rfl
  · obtain ⟨v, S1, S', T', e1, e2, e3, rfl, e4, e5⟩ := allOf_rel (F := F) hF h (j := n) (by omega)
    refine ⟨v, S', T', ?_, ?_, e4, e5⟩
    · unfold fX7_all
      rw [if_neg (nI_pos (by omega)), if_pos (show nI n ≤ (3 : Int32) from nI_le (b := 3) hn (by decide)), e1]
      simp only [Option.bind_some]
      rw [e2]; rfl
    · unfold fX8_all
      rw [in_in (n := 3) (by decide) (by decide) hn]
      simp only [Option.bind_some]
      rw [if_neg (by decide), e3]; rfl)
theorem op_plan {F : Nat} (hF : 20000000 < F) (a b i : Int32) : Op Int32 (fX7_plan F a b i) (fX8_plan F a b i) := Op.try (fun S T h => by
  rcases three a (n := 64) (by decide) with hout | ⟨c, hc, rfl⟩
  · refine ⟨-2, S, T, ?_, ?_, FC.rf S, FM.rf T⟩
    · unfold fX7_plan; rw [cell7_out F hout]; rfl
    · unfold fX8_plan; rw [cell8_out F hout]; rfl
  · rcases three b (n := 64) (by decide) with hout | ⟨d, hd, rfl⟩
    · refine ⟨-2, S, T, ?_, ?_, FC.rf S, FM.rf T⟩
      · unfold fX7_plan; rw [cell7_in F hc]; simp only [Option.bind_some]; rw [if_neg (by decide), cell7_out F hout]; rfl
      · unfold fX8_plan; rw [cell8_in F hc]; simp only [Option.bind_some]; rw [if_neg (by decide), cell8_out F hout]; rfl
    · by_cases q : i < -1
      · refine ⟨-2, S, T, ?_, ?_, FC.rf S, FM.rf T⟩
        · unfold fX7_plan; rw [cell7_in F hc]; simp only [Option.bind_some]; rw [if_neg (by decide), cell7_in F hd]; simp only [Option.bind_some]; rw [if_neg (by decide), if_neg (fun z => absurd q (Int32.not_lt.mpr z))]
        · unfold fX8_plan; rw [cell8_in F hc]; simp only [Option.bind_some]; rw [if_neg (by decide), cell8_in F hd]; simp only [Option.bind_some]; rw [if_neg (by decide), if_pos q]
      · obtain ⟨r, S', T', e1, e2, e3, e4⟩ := plan_rel (F := F) hF h hc hd i q
        refine ⟨r, S', T', e1, ?_, e3, e4⟩
        unfold fX8_plan; rw [cell8_in F hc]; simp only [Option.bind_some]; rw [if_neg (by decide), cell8_in F hd]; simp only [Option.bind_some]; rw [if_neg (by decide), if_neg q, e2]; rfl)
/-! longer -/
noncomputable def LB (F : Nat) : ((Int32 × Int32 × gS) → Option (Int32 × gS)) → (Int32 × Int32 × gS) → Option (Int32 × gS) := fun k18 s => bX7_longer_18 F k18 s.1 s.2.1 s.2.2
theorem LB_def (F : Nat) (k : (Int32 × Int32 × gS) → Option (Int32 × gS)) (a b : Int32) (S : gS) : LB F k (a, b, S) = bX7_longer_18 F k a b S := rfl
noncomputable def MoB (F : Nat) : ((Int32 × gS) → Option gS) → (Int32 × gS) → Option gS := fun k2 s => bX8_mornings_2 F k2 s.1 s.2
theorem MoB_def (F : Nat) (k : (Int32 × gS) → Option gS) (a : Int32) (S : gS) : MoB F k (a, S) = bX8_mornings_2 F k a S := rfl
theorem fix_s {σ R : Type} {body : (σ → Option R) → σ → Option R} {m : Nat} {s : σ} : g_fix body (m + 1) s = body (g_fix body m) s := rfl
theorem longer_rel {F nW : Nat} {Wl hid : Int64} (hF : 20000000 < F) (hnW : nW ≤ 8) : ∀ (j w : Nat) (S T : gS), w + j = nW → S.1 9 2 = nI nW → T.1 51 12 = nI nW → (∀ w, w < nW → ∃ a b, a < 64 ∧ b < 64 ∧ S.1 10 w = nI a ∧ T.1 62 w = nI a ∧ S.1 11 w = nI b ∧ T.1 63 w = nI b) → (∀ c, c < 64 → S.1 8 c = 0) → S.2 1 3 = Wl → S.2 1 4 = hid → KRel Wl hid T → TR 16 S T →
    ∃ S' T', (∀ m, g_fix (LB F) (m + j + 1) (T.1 51 24, nI w, S) = some (T'.1 51 24, S')) ∧ (∀ m, g_fix (MoB F) (m + j + 1) (nI w, T) = some T') ∧ FrGo 16 S S' ∧ FrW2 T T' := by
  intro j
  induction j with
  | zero =>
    intro w S T hw h9 h12 hwk h8 hWl hid hKR hTR
    refine ⟨S, T, fun m => ?_, fun m => ?_, FrGo.rf 16 S, FrW2.rf T⟩
    · rw [fix_s, LB_def]
      unfold bX7_longer_18
      rw [if_pos (by show S.1 9 2 ≤ nI w; rw [h9]; exact nI_le (by omega) (by omega))]
    · rw [fix_s, MoB_def]
      unfold bX8_mornings_2
      rw [if_pos (by show T.1 51 12 ≤ nI w; rw [h12]; exact nI_le (by omega) (by omega))]
  | succ j ih =>
    intro w S T hw h9 h12 hwk h8 hWl hhid hKR hTR
    obtain ⟨a, b, ha, hb64, w1, w2, w3, w4⟩ := hwk w (by omega)
    obtain ⟨ok, v, S1, T1, k1, k2, k3, k4, k5, k6, k7, k8, k9⟩ := walk_rel (F := F) (o := 16) (wi := w) (hid := hid) hF ⟨by decide, by decide⟩ (by omega) ha hb64 hWl hKR w2 w4 hTR
    have c1 : ∀ i k, i ≠ 12 → i ≠ 13 → i ≠ 15 → i ≠ 16 → i ≠ 17 → i ≠ 18 → S1.1 i k = S.1 i k := fun i k a b c d e f => k7.1 i k a b c d e f
    have m1 : ∀ i k, i ≠ 64 → i ≠ 65 → i ≠ 66 → i ≠ 67 → i ≠ 68 → i ≠ 69 → i ≠ 51 → T1.1 i k = T.1 i k := fun i k a b c d e f g => k8.1 i k a b c d e f (Or.inl g)
    have hC : ∀ m, g_fix (LB F) (m + (j + 1) + 1) (T.1 51 24, nI w, S) = (if ok = 0 then (bX7_longer_90 F (g_fix (LB F) (m + j + 1)) (T.1 51 24) (nI w) S1) else ((fX7_fewestSteps F (nI w) S1).bind (fun q7 : Int32 × gS => (gl (T.1 51 24 + (((g_I S1 16 5) - (g_I S 16 5)) - q7.1)) (fun v8 : Int32 => bX7_longer_90 F (g_fix (LB F) (m + j + 1)) v8 (nI w) q7.2))))) := fun m => by
      rw [fix_s, LB_def]
      unfold bX7_longer_18
      rw [if_neg (by show ¬ S.1 9 2 ≤ nI w; rw [h9]; exact nI_ge (by omega) (by omega)), gl_def, chk_nI (show w < 8 by omega) (by decide), chk_nI (show w < 8 by omega) (by decide), nI_clamp (by omega), show g_I S 10 w = nI a from w1, show g_I S 11 w = nI b from w3, show g_J S 1 4 = hid from hhid, k2, Option.bind_some, show m + (j + 1) = m + j + 1 from rfl]
    have hM : ∀ m, g_fix (MoB F) (m + (j + 1) + 1) (nI w, T) = g_fix (MoB F) (m + j + 1) (nI (w + 1), T1) := fun m => by
      rw [fix_s, MoB_def]
      unfold bX8_mornings_2
      rw [if_neg (by show ¬ T.1 51 12 ≤ nI w; rw [h12]; exact nI_ge (by omega) (by omega)), k3]
      simp only [Option.bind_some, gl_def, nI_1]
      rw [show m + (j + 1) = m + j + 1 from rfl]
    have go : ∀ (S2 : gS), FrGo 16 S S2 → TR 16 S2 T1 → ∃ S' T', (∀ m, g_fix (LB F) (m + j + 1) (T1.1 51 24, nI (w + 1), S2) = some (T'.1 51 24, S')) ∧ (∀ m, g_fix (MoB F) (m + j + 1) (nI (w + 1), T1) = some T') ∧ FrGo 16 S2 S' ∧ FrW2 T1 T' := fun S2 hf hTR2 => by
      refine ih (w + 1) S2 T1 (by omega) ?_ ?_ (fun x hx => ?_) (fun c hc => ?_) ?_ ?_ (hKR.fr2 k8) hTR2
      · rw [hf.1 9 2 (by decide) (by decide) (by decide) (by decide) (by decide) (by decide)]; exact h9
      · rw [k8.1 51 12 (by decide) (by decide) (by decide) (by decide) (by decide) (by decide) (Or.inr (by decide))]; exact h12
      · rw [hf.1 10 x (by decide) (by decide) (by decide) (by decide) (by decide) (by decide), hf.1 11 x (by decide) (by decide) (by decide) (by decide) (by decide) (by decide), m1 62 x (by decide) (by decide) (by decide) (by decide) (by decide) (by decide) (by decide), m1 63 x (by decide) (by decide) (by decide) (by decide) (by decide) (by decide) (by decide)]; exact hwk x hx
      · rw [hf.1 8 c (by decide) (by decide) (by decide) (by decide) (by decide) (by decide)]; exact h8 c hc
      · rw [hf.2 1 3 (by decide) (by decide)]; exact hWl
      · rw [hf.2 1 4 (by decide) (by decide)]; exact hhid
    rcases k1 with rfl | rfl
    · obtain ⟨S', T', g1, g2, g3, g4⟩ := go S1 k7 k6
      refine ⟨S', T', fun m => ?_, fun m => by rw [hM, g2], k7.tr g3, k8.tr g4⟩
      rw [hC, if_pos rfl]
      unfold bX7_longer_90
      rw [gl_def, nI_1, ← g1 m, k5, if_pos rfl]
    · obtain ⟨v', S2, f1, f2, f3⟩ := fewest_spec (F := F) (S := S1) (a := a) (b := b) (nW := nW) (by omega) (show w < nW by omega) hnW ha hb64 (by rw [c1 10 w (by decide) (by decide) (by decide) (by decide) (by decide) (by decide)]; exact w1) (by rw [c1 11 w (by decide) (by decide) (by decide) (by decide) (by decide) (by decide)]; exact w3) (fun c hc => by rw [c1 8 c (by decide) (by decide) (by decide) (by decide) (by decide) (by decide)]; exact h8 c hc)
      rw [k7.2 1 3 (by decide) (by decide), k7.2 1 4 (by decide) (by decide), hWl, hhid] at f3
      have := StV_u k4 f3
      subst this
      obtain ⟨S', T', g1, g2, g3, g4⟩ := go S2 (k7.tr f2.go) (TR_pl ⟨by decide, by decide⟩ f2 (FrPl.rf T1) k6)
      refine ⟨S', T', fun m => ?_, fun m => by rw [hM, g2], (k7.tr f2.go).tr g3, k8.tr g4⟩
      rw [hC, if_neg (by decide), f1, Option.bind_some, gl_def]
      unfold bX7_longer_90
      rw [gl_def, nI_1, ← g1 m, k5, if_neg (by decide), show g_I S1 16 5 = T1.1 51 22 from k6.2.2.1, show g_I S 16 5 = T.1 51 22 from hTR.2.2.1]
theorem longerNow_rel {F : Nat} {S T : gS} (hF : 20000000 < F) (h : Inv S T) : ∃ v S' T', fX7_longer F S = some (v, S') ∧ fX8_longerNow F T = some (v, T') ∧ FC S S' ∧ FM T T' := by
  obtain ⟨hT, hG, ⟨nW, w1, w2, w3, w4⟩, hS, hf⟩ := h
  obtain ⟨S1, s1, s2, s3, s4, s5, s6⟩ := begin_spec (F := F) (o := 16) (S := S) (by omega) ⟨by decide, by decide⟩
  obtain ⟨T1, t1, t2, t3, t4, t5, t6, t7, t8, t9, t10⟩ := tries_rel (F := F) (by omega) hT
  have c1 : ∀ i k, i ≠ 12 → i ≠ 13 → i ≠ 15 → i ≠ 16 → i ≠ 17 → i ≠ 18 → S1.1 i k = S.1 i k := fun i k a b c d e f => s2.1 i k a b c d e f
  have hTR : TR 16 S1 T1 := TR_begin hG s3 s4 s5 s6 t4 t5 t6 t7
  obtain ⟨S', T', g1, g2, g3, g4⟩ := longer_rel (F := F) (Wl := S.2 1 3) (hid := S.2 1 4) hF w1 nW 0 S1 T1 (by omega) (by rw [c1 9 2 (by decide) (by decide) (by decide) (by decide) (by decide) (by decide)]; exact w2) (by rw [t2.1 51 12 (by decide) (by decide) (by decide) (by decide) (Or.inr (by decide))]; exact w3) (fun w hw => by
    rw [c1 10 w (by decide) (by decide) (by decide) (by decide) (by decide) (by decide), c1 11 w (by decide) (by decide) (by decide) (by decide) (by decide) (by decide), t2.1 62 w (by decide) (by decide) (by decide) (by decide) (Or.inl (by decide)), t2.1 63 w (by decide) (by decide) (by decide) (by decide) (Or.inl (by decide))]; exact w4 w hw) (fun c hc => by rw [c1 8 c (by decide) (by decide) (by decide) (by decide) (by decide) (by decide)]; exact (hG c hc).2.2.2.2) (s2.2 1 3 (by decide) (by decide)) (s2.2 1 4 (by decide) (by decide)) t3 hTR
  refine ⟨T'.1 51 24, S', T', ?_, ?_, (s2.tr g3).fc ⟨by decide, by decide⟩, t2.fm.tr g4.fm⟩
  · unfold fX7_longer
    rw [s1]
    simp only [Option.bind_some]
    have := g1 (F - nW - 1)
    rw [show F - nW - 1 + nW + 1 = F by omega, t8] at this
    exact this
  · unfold fX8_longerNow
    rw [t1]
    simp only [Option.bind_some]
    have := g2 (F - nW - 1)
    rw [show F - nW - 1 + nW + 1 = F by omega] at this
    rw [show fX8_mornings F T1 = some T' from this]
    rfl
theorem op_longer {F : Nat} (hF : 20000000 < F) : Op Int32 (fX7_longer F) (fX8_longer F) := Op.try (fun S T h => by
  obtain ⟨v, S', T', e1, e2, e3, e4⟩ := longerNow_rel (F := F) hF h
  refine ⟨v, S', T', e1, ?_, e3, e4⟩
  unfold fX8_longer
  rw [e2]; rfl)

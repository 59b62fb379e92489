/-! orders, order, tower, towerOrder -/
def cA (S : gS) (w : Nat) : Nat := (S.1 10 w).toNatClampNeg
def cB (S : gS) (w : Nat) : Nat := (S.1 11 w).toNatClampNeg
theorem bas_of {F : Nat} {S T : gS} (hF : 100 < F) (h : Inv S T) : ∃ nW Tb, nW ≤ 8 ∧ S.1 9 2 = nI nW ∧ T.1 51 12 = nI nW ∧ fX8_tries F T = some Tb ∧ FM T Tb ∧ Bas nW (S.2 1 3) (S.2 1 4) (cA S) (cB S) Tb ∧ (∀ w, w < nW → S.1 10 w = nI (cA S w) ∧ S.1 11 w = nI (cB S w)) ∧
    (∀ S1 : gS, (∀ c, c < 64 → S1.1 25 c = S.1 4 c ∧ S1.1 26 c = 0) → S1.1 24 4 = 0 → S1.1 24 5 = 0 → S1.1 24 6 = 0 → TR 24 S1 Tb) := by
  obtain ⟨hT, hG, ⟨nW, w1, w2, w3, w4⟩, -, -⟩ := id h
  obtain ⟨Tb, t1, t2, t3, t4, t5, t6, t7, t8, t9, t10⟩ := tries_rel (F := F) hF hT
  have hw : ∀ w, w < nW → cA S w < 64 ∧ cB S w < 64 ∧ S.1 10 w = nI (cA S w) ∧ S.1 11 w = nI (cB S w) ∧ T.1 62 w = nI (cA S w) ∧ T.1 63 w = nI (cB S w) := by
    intro w hw
    obtain ⟨a, b, ha, hb, e1, e2, e3, e4⟩ := w4 w hw
    have x1 : cA S w = a := by unfold cA; rw [e1, nI_clamp (by omega)]
    have x2 : cB S w = b := by unfold cB; rw [e3, nI_clamp (by omega)]
    rw [x1, x2]
    exact ⟨ha, hb, e1, e3, e2, e4⟩
  refine ⟨nW, Tb, w1, w2, w3, t1, t2.fm, ⟨⟨t3, fun w hw' => ?_, fun c hc => ?_⟩, ?_, fun c hc => ?_, t5, t6, t7⟩, fun w hw' => ⟨(hw w hw').2.2.1, (hw w hw').2.2.2.1⟩, fun S1 a b c d => TR_begin hG a b c d t4 t5 t6 t7⟩
  · rw [t2.1 62 w (by decide) (by decide) (by decide) (by decide) (Or.inl (by decide)), t2.1 63 w (by decide) (by decide) (by decide) (by decide) (Or.inl (by decide))]
    exact ⟨(hw w hw').1, (hw w hw').2.1, (hw w hw').2.2.2.2.1, (hw w hw').2.2.2.2.2⟩
  · obtain ⟨⟨v, q1, q2, q3⟩, -⟩ := hG c hc
    exact ⟨v, q1, (t4 c hc).1.trans q3⟩
  · rw [t2.1 51 12 (by decide) (by decide) (by decide) (by decide) (Or.inr (by decide))]; exact w3
  · rw [(t4 c hc).1, t2.1 58 c (by decide) (by decide) (by decide) (by decide) (Or.inl (by decide))]
    exact ⟨rfl, (t4 c hc).2.2⟩
theorem rows_ne {n : Nat} (hn : n ≤ 5) : rowsTo n (n ^ n) ≠ [] := fun z => by
  have := (chain_all n (by omega)).2.1
  rw [z] at this
  cases this
/-- both search through the orders -/
theorem orders_rel {F nW : Nat} {S T : gS} (hF : 20000000 < F) (h : Inv S T) (hn : nW ≤ 5) (h9 : S.1 9 2 = nI nW) : ∃ S' T', fX2_tryAll_n F S = some S' ∧ fX8_findOrders F T = some T' ∧ FC S S' ∧ FM T T' ∧ S'.1 19 6 = T'.1 51 29 ∧ S'.1 19 7 = T'.1 51 30 ∧ ∀ k, k < nW → S'.1 22 k = T'.1 71 k := by
  obtain ⟨nW', Tb, b1, b2, b3, b4, b5, b6, b7, b8⟩ := bas_of (F := F) (by omega) h
  have : nW' = nW := nI_inj (by omega) (by omega) (b2.symm.trans h9)
  subst this
  obtain ⟨S', s1, s2, s3⟩ := tryAll_n (F := F) hF hn b2 b6.1 b6.bd b7 rfl rfl b8
  obtain ⟨T', t1, t2, t3⟩ := findOrders_spec (F := F) hF hn b6 b4
  obtain ⟨-, k1, k2, k3⟩ := s2 (rows_ne hn)
  exact ⟨S', T', s1, t1, s3.fc, b5.tr t2.fm, k1.trans t3.1.symm, k2.trans t3.2.1.symm, fun k hk => (k3 k hk).trans (t3.2.2 (rows_ne hn) k hk).symm⟩
theorem tower_rel {F nW s sz : Nat} {S T : gS} (hF : 20000000 < F) (h : Inv S T) (hn : nW ≤ 5) (h9 : S.1 9 2 = nI nW) (hs : s < 4) (hsz : sz ≤ 64) (b5 : S.1 (43 + 2 * s) 2 = nI sz) (b6 : T.1 53 s = nI sz) (b7 : ∀ i, i < sz → S.1 (44 + 2 * s) i = T.1 54 (64 * s + i)) : ∃ S' T', fX2_tryAll_s F (43 + 2 * s) S = some S' ∧ fX8_findTower F (nI s) T = some T' ∧ FC S S' ∧ FM T T' ∧ S'.1 19 8 = T'.1 51 34 ∧ S'.1 19 9 = T'.1 51 35 ∧ (¬ T'.1 51 34 = 0 → ∀ k, k < nW → S'.1 23 k = T'.1 71 k) := by
  obtain ⟨nW', Tb, c1, c2, c3, c4, c5, c6, c7, c8⟩ := bas_of (F := F) (by omega) h
  have : nW' = nW := nI_inj (by omega) (by omega) (c2.symm.trans h9)
  subst this
  have z53 : Tb.1 53 s = nI sz := (c5.1 53 s (by unfold per; omega)).trans b6
  have z54 : ∀ i, i < sz → Tb.1 54 (64 * s + i) = T.1 54 (64 * s + i) := fun i _ => c5.1 54 _ (by unfold per; omega)
  obtain ⟨S', s1, s2, s3⟩ := tryAll_s (F := F) (s := s) (sz := sz) (X := fun i => T.1 54 (64 * s + i)) hF hn c2 c6.1 c7 rfl rfl c8 hs hsz b5 b7
  obtain ⟨T', t1, t2, t3⟩ := findTower_spec (F := F) (X := fun i => T.1 54 (64 * s + i)) hF hn c6 c4 hs hsz z53 z54
  exact ⟨S', T', s1, t1, s3.fc, c5.tr t2.fm, s2.1.trans t3.1.symm, s2.2.1.trans t3.2.1.symm, fun z k hk => (s2.2.2 (fun y => z (t3.1.trans y)) k hk).trans (t3.2.2 (fun y => z (t3.1.trans y)) k hk).symm⟩
theorem op_orders {F : Nat} (hF : 20000000 < F) (a : Int32) : Op Int32 (fX7_orders F a) (fX8_orders F a) := by
  intro S T h
  show OpAt _ _ S T
  obtain ⟨-, -, ⟨nW, w1, w2, w3, -⟩, -⟩ := id h
  rcases two_cases a with hout | hcc
  · apply at_bad (r := -2) h
    · unfold fX7_orders
      rcases two_out hout with h1 | ⟨h1, h2⟩
      · rw [if_pos h1]
      · rw [if_neg h1, if_neg h2]
    · unfold fX8_orders; rw [two8_out F hout, Option.bind_some, if_pos eq00]
  obtain ⟨h1, h2⟩ := two_nlt hcc
  have e7 : fX7_orders F a S = (if nI nW ≤ (5 : Int32) then ((fX2_tryAll_n F S).bind (fun q4 : gS => if a = 0 then (some ((g_I q4 19 6), q4)) else (some ((g_I q4 19 7), q4)))) else (some ((-4 : Int32), S))) := by
    unfold fX7_orders
    rw [if_neg h1, if_pos h2, show g_I S 9 2 = nI nW from w2]
  have e8 : fX8_orders F a T = (if nI nW ≤ (5 : Int32) then ((fX8_findOrders F T).bind (fun q4 : gS => if a = 0 then (some ((g_I q4 51 29), q4)) else (some ((g_I q4 51 30), q4)))) else (some ((-4 : Int32), T))) := by
    unfold fX8_orders
    rw [two8_01 F hcc, Option.bind_some, if_neg ne10, show g_I T 51 12 = nI nW from w3]
  by_cases q : nW ≤ 5
  · rw [if_pos (show nI nW ≤ (5 : Int32) from nI_le q (by decide))] at e7 e8
    obtain ⟨S', T', s1, t1, fc, fm, k1, k2, k3⟩ := orders_rel hF h q w2
    rw [s1, Option.bind_some] at e7
    rw [t1, Option.bind_some] at e8
    refine ⟨if a = 0 then T'.1 51 29 else T'.1 51 30, S', T', ?_, ?_, h.fr fc fm, fc.ck, fm.mk⟩
    · rw [e7, show g_I S' 19 6 = _ from k1, show g_I S' 19 7 = _ from k2]
      split <;> rfl
    · rw [e8]
      split <;> rfl
  · rw [if_neg (show ¬ nI nW ≤ (5 : Int32) from nI_ge (a := 5) (by omega) (by omega))] at e7 e8
    exact at_bad (r := -4) h e7 e8
theorem op_order {F : Nat} (hF : 20000000 < F) (a : Int32) : Op Int32 (fX7_order F a) (fX8_order F a) := by
  intro S T h
  show OpAt _ _ S T
  obtain ⟨-, -, ⟨nW, w1, w2, w3, -⟩, -⟩ := id h
  have e7 : fX7_order F a S = if 0 ≤ a then (if nI nW ≤ (5 : Int32) then (if a < nI nW then ((fX2_tryAll_n F S).bind (fun q4 : gS => g_chk a 5 (some ((g_I q4 22 (a).toNatClampNeg), q4)))) else (some ((-2 : Int32), S))) else (some ((-4 : Int32), S))) else (some ((-2 : Int32), S)) := by
    unfold fX7_order
    rw [show g_I S 9 2 = nI nW from w2]
  have e8 : fX8_order F a T = if 0 ≤ a then (if nI nW ≤ (5 : Int32) then (if a < nI nW then ((fX8_findOrders F T).bind (fun q4 : gS => g_chk a 5 (some ((g_I q4 71 (a).toNatClampNeg), q4)))) else (some ((-2 : Int32), T))) else (some ((-4 : Int32), T))) else (some ((-2 : Int32), T)) := by
    unfold fX8_order
    rw [show g_I T 51 12 = nI nW from w3]
  by_cases q0 : 0 ≤ a
  · rw [if_pos q0] at e7 e8
    by_cases q : nW ≤ 5
    · rw [if_pos (show nI nW ≤ (5 : Int32) from nI_le q (by decide))] at e7 e8
      by_cases q1 : a < nI nW
      · rw [if_pos q1] at e7 e8
        obtain ⟨S', T', s1, t1, fc, fm, k1, k2, k3⟩ := orders_rel hF h q w2
        obtain ⟨i, hi, rfl⟩ := nI_of (x := a) (fun z => Int32.not_lt.mpr q0 z)
        have hi2 : i < nW := (nI_ltI hi (by omega)).mp q1
        rw [s1, Option.bind_some, chk_nI (show i < 5 by omega) (by decide), nI_clamp hi, show g_I S' 22 i = _ from k3 i hi2] at e7
        rw [t1, Option.bind_some, chk_nI (show i < 5 by omega) (by decide), nI_clamp hi] at e8
        exact ⟨_, S', T', e7, e8, h.fr fc fm, fc.ck, fm.mk⟩
      · rw [if_neg q1] at e7 e8
        exact at_bad (r := -2) h e7 e8
    · rw [if_neg (show ¬ nI nW ≤ (5 : Int32) from nI_ge (a := 5) (by omega) (by omega))] at e7 e8
      exact at_bad (r := -4) h e7 e8
  · rw [if_neg q0] at e7 e8
    exact at_bad (r := -2) h e7 e8
theorem op_tower {F : Nat} (hF : 20000000 < F) (a b : Int32) : Op Int32 (fX7_tower F a b) (fX8_tower F a b) := by
  intro S T h
  show OpAt _ _ S T
  obtain ⟨-, -, ⟨nW, w1, w2, w3, -⟩, -⟩ := id h
  rcases three a (n := 4) (by decide) with hout | ⟨s, hs, rfl⟩
  · apply at_bad (r := -2) h
    · unfold fX7_tower; rw [sheet7_out F hout, Option.bind_some, if_pos eq00]
    · unfold fX8_tower; rw [sheet8_out F hout, Option.bind_some, if_pos eq00]
  have e7 : fX7_tower F (nI s) b S = (if b < 0 then (some ((-2 : Int32), S)) else (if b ≤ (1 : Int32) then ((fX5_isLost F (43 + 2 * s) S).bind (fun q6 : Int32 × gS => if q6.1 = 0 then (if (g_I q6.2 9 2) ≤ (5 : Int32) then ((fX2_tryAll_s F (43 + 2 * s) q6.2).bind (fun q10 : gS => if b = 0 then (some ((g_I q10 19 8), q10)) else (some ((g_I q10 19 9), q10)))) else (some ((-4 : Int32), q6.2))) else ((fX7_found F (1 : Int32) q6.2).bind (fun q12 : Int32 × gS => some (q12.1, q12.2))))) else (some ((-2 : Int32), S)))) := by
    unfold fX7_tower
    rw [sheet7_in F hs, Option.bind_some, if_neg ne10]
    simp only [chk_nI hs (show 4 < 2 ^ 31 by decide), nI_clamp (show s < 2 ^ 31 by omega)]
  rcases two_cases b with hout | hcc
  · apply at_bad (r := -2) h
    · rw [e7]
      rcases two_out hout with h1 | ⟨h1, h2⟩
      · rw [if_pos h1]
      · rw [if_neg h1, if_neg h2]
    · unfold fX8_tower; rw [sheet8_in F hs, Option.bind_some, if_neg ne10, two8_out F hout, Option.bind_some, if_pos eq00]
  obtain ⟨h1, h2⟩ := two_nlt hcc
  rw [if_neg h1, if_pos h2] at e7
  have e8 : fX8_tower F (nI s) b T = (if 0 ≤ (g_I T 52 s) then (if (g_I T 51 12) ≤ (5 : Int32) then ((fX8_findTower F (nI s) T).bind (fun q8 : gS => if b = 0 then (some ((g_I q8 51 34), q8)) else (some ((g_I q8 51 35), q8)))) else (some ((-4 : Int32), T))) else ((fX8_met F (1 : Int32) T).bind (fun q10 : Int32 × gS => some (q10.1, q10.2)))) := by
    unfold fX8_tower
    rw [sheet8_in F hs, Option.bind_some, if_neg ne10, two8_01 F hcc, Option.bind_some, if_neg ne10, chk_nI hs (by decide), nI_clamp (show s < 2 ^ 31 by omega)]
  rcases sheet_at h hs with ⟨l1, l2⟩ | ⟨f, n, b1, b2, b3, b4, b5, b6, b7⟩
  · apply at_found 1 h
    · rw [e7, lost_yes F _ l1, Option.bind_some, if_neg ne10, found7, Option.bind_some]
    · rw [e8, show g_I T 52 s = -1 from l2, if_neg (by decide), met8, Option.bind_some]
  · rw [lost_no F _ b3 b1, Option.bind_some, if_pos eq00, show g_I ((0 : Int32), S).2 9 2 = nI nW from w2] at e7
    rw [show g_I T 52 s = nI f from b4, if_pos (nI_pos' (by omega)), show g_I T 51 12 = nI nW from w3] at e8
    by_cases q : nW ≤ 5
    · rw [if_pos (show nI nW ≤ (5 : Int32) from nI_le q (by decide))] at e7 e8
      obtain ⟨S', T', s1, t1, fc, fm, k1, k2, k3⟩ := tower_rel hF h q w2 hs b2 b5 b6 b7
      rw [show fX2_tryAll_s F (43 + 2 * s) ((0 : Int32), S).2 = some S' from s1, Option.bind_some] at e7
      rw [t1, Option.bind_some] at e8
      refine ⟨if b = 0 then T'.1 51 34 else T'.1 51 35, S', T', ?_, ?_, h.fr fc fm, fc.ck, fm.mk⟩
      · rw [e7, show g_I S' 19 8 = _ from k1, show g_I S' 19 9 = _ from k2]
        split <;> rfl
      · rw [e8]
        split <;> rfl
    · rw [if_neg (show ¬ nI nW ≤ (5 : Int32) from nI_ge (a := 5) (by omega) (by omega))] at e7 e8
      exact at_bad (r := -4) h e7 e8
theorem op_towerOrder {F : Nat} (hF : 20000000 < F) (a b : Int32) : Op Int32 (fX7_towerOrder F a b) (fX8_towerOrder F a b) := by
  intro S T h
  show OpAt _ _ S T
  obtain ⟨-, -, ⟨nW, w1, w2, w3, -⟩, -⟩ := id h
  rcases three a (n := 4) (by decide) with hout | ⟨s, hs, rfl⟩
  · apply at_bad (r := -2) h
    · unfold fX7_towerOrder; rw [sheet7_out F hout, Option.bind_some, if_pos eq00]
    · unfold fX8_towerOrder; rw [sheet8_out F hout, Option.bind_some, if_pos eq00]
  have e7 : fX7_towerOrder F (nI s) b S = (if b < 0 then (some ((-2 : Int32), S)) else (if b < nI nW then ((fX5_isLost F (43 + 2 * s) S).bind (fun q6 : Int32 × gS => if q6.1 = 0 then (if (g_I q6.2 9 2) ≤ (5 : Int32) then ((fX2_tryAll_s F (43 + 2 * s) q6.2).bind (fun q10 : gS => if (g_I q10 19 8) = 0 then (some ((-1 : Int32), q10)) else (g_chk b 5 (some ((g_I q10 23 (b).toNatClampNeg), q10))))) else (some ((-4 : Int32), q6.2))) else ((fX7_found F (1 : Int32) q6.2).bind (fun q13 : Int32 × gS => some (q13.1, q13.2))))) else (some ((-2 : Int32), S)))) := by
    unfold fX7_towerOrder
    rw [sheet7_in F hs, Option.bind_some, if_neg ne10, show g_I ((1 : Int32), S).2 9 2 = nI nW from w2]
    simp only [chk_nI hs (show 4 < 2 ^ 31 by decide), nI_clamp (show s < 2 ^ 31 by omega)]
  rcases three b (n := nW) (by omega) with hout | ⟨w, hw, rfl⟩
  · apply at_bad (r := -2) h
    · rw [e7]
      by_cases h1 : b < 0
      · rw [if_pos h1]
      · rw [if_neg h1, if_neg (by rcases hout with z | z; · exact absurd z h1
                                  · exact Int32.not_lt.mpr z)]
    · unfold fX8_towerOrder; rw [sheet8_in F hs, Option.bind_some, if_neg ne10, walker8_out F w3 w1 hout, Option.bind_some, if_pos eq00]
  rw [if_neg (nI_pos (by omega)), if_pos (nI_lt hw (by omega))] at e7
  have e8 : fX8_towerOrder F (nI s) (nI w) T = (if 0 ≤ (g_I T 52 s) then (if (g_I T 51 12) ≤ (5 : Int32) then ((fX8_findTower F (nI s) T).bind (fun q8 : gS => if (g_I q8 51 34) = 0 then (some ((-1 : Int32), q8)) else (g_chk (nI w) 5 (some ((g_I q8 71 (nI w).toNatClampNeg), q8))))) else (some ((-4 : Int32), T))) else ((fX8_met F (1 : Int32) T).bind (fun q11 : Int32 × gS => some (q11.1, q11.2)))) := by
    unfold fX8_towerOrder
    rw [sheet8_in F hs, Option.bind_some, if_neg ne10, walker8_in F w3 w1 hw, Option.bind_some, if_neg ne10, chk_nI hs (by decide), nI_clamp (show s < 2 ^ 31 by omega)]
  rcases sheet_at h hs with ⟨l1, l2⟩ | ⟨f, n, b1, b2, b3, b4, b5, b6, b7⟩
  · apply at_found 1 h
    · rw [e7, lost_yes F _ l1, Option.bind_some, if_neg ne10, found7, Option.bind_some]
    · rw [e8, show g_I T 52 s = -1 from l2, if_neg (by decide), met8, Option.bind_some]
  · rw [lost_no F _ b3 b1, Option.bind_some, if_pos eq00, show g_I ((0 : Int32), S).2 9 2 = nI nW from w2] at e7
    rw [show g_I T 52 s = nI f from b4, if_pos (nI_pos' (by omega)), show g_I T 51 12 = nI nW from w3] at e8
    by_cases q : nW ≤ 5
    · rw [if_pos (show nI nW ≤ (5 : Int32) from nI_le q (by decide))] at e7 e8
      obtain ⟨S', T', s1, t1, fc, fm, k1, k2, k3⟩ := tower_rel hF h q w2 hs b2 b5 b6 b7
      rw [show fX2_tryAll_s F (43 + 2 * s) ((0 : Int32), S).2 = some S' from s1, Option.bind_some, show g_I S' 19 8 = _ from k1, chk_nI (show w < 5 by omega) (by decide), nI_clamp (show w < 2 ^ 31 by omega)] at e7
      rw [t1, Option.bind_some, chk_nI (show w < 5 by omega) (by decide), nI_clamp (show w < 2 ^ 31 by omega)] at e8
      by_cases q0 : T'.1 51 34 = 0
      · rw [if_pos q0] at e7
        rw [if_pos (show g_I T' 51 34 = 0 from q0)] at e8
        exact ⟨_, S', T', e7, e8, h.fr fc fm, fc.ck, fm.mk⟩
      · rw [if_neg q0, show g_I S' 23 w = _ from k3 q0 w hw] at e7
        rw [if_neg (show ¬ g_I T' 51 34 = 0 from q0)] at e8
        exact ⟨_, S', T', e7, e8, h.fr fc fm, fc.ck, fm.mk⟩
    · rw [if_neg (show ¬ nI nW ≤ (5 : Int32) from nI_ge (a := 5) (by omega) (by omega))] at e7 e8
      exact at_bad (r := -4) h e7 e8

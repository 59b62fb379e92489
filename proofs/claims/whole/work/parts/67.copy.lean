/-! copy -/
theorem ix2_item {s i a : Nat} : (64 : Int32) * nI s + nI i + nI a = nI (64 * s + i + a) := by rw [ix_item, nI_add]
theorem cp2_spec {F t j n : Nat} {T : gS} (hF : 100 < F) (ht : t < 4) (hjn : j + n ≤ 64) : ∃ T', bX8_copy_157l F F (nI t, nI j, nI n, (0 : Int32), T) = some (1, T') ∧ T'.2 = T.2 ∧ (∀ x k, (x ≠ 54 ∨ k < 64 * t + j ∨ 64 * t + j + n ≤ k) → T'.1 x k = T.1 x k) ∧ ∀ a, a < n → T'.1 54 (64 * t + j + a) = T.1 55 a := by
  obtain ⟨r, ⟨T', h1, h2⟩, hr⟩ := fix_up (body := fun k157 s => bX8_copy_157 F k157 s.1 s.2.1 s.2.2.1 s.2.2.2.1 s.2.2.2.2) n
    (fun c x => ∃ T', x = (nI t, nI j, nI n, nI c, T') ∧ T'.2 = T.2 ∧ (∀ x k, (x ≠ 54 ∨ k < 64 * t + j ∨ 64 * t + j + n ≤ k) → T'.1 x k = T.1 x k) ∧ ∀ a, a < c → T'.1 54 (64 * t + j + a) = T.1 55 a)
    (fun r => ∃ T', r = some (1, T') ∧ T'.2 = T.2 ∧ (∀ x k, (x ≠ 54 ∨ k < 64 * t + j ∨ 64 * t + j + n ≤ k) → T'.1 x k = T.1 x k) ∧ ∀ a, a < n → T'.1 54 (64 * t + j + a) = T.1 55 a)
    (by
      rintro c x hc ⟨T', rfl, h1, h2, h3⟩
      refine Or.inl ⟨(nI t, nI j, nI n, nI (c + 1), g_setI T' 54 (64 * t + j + c) (T.1 55 c)), ⟨_, rfl, h1, fun i k hi => ?_, fun i hi => ?_⟩, fun k => ?_⟩
      · rw [rI_ne _ _ (by omega)]; exact h2 i k hi
      · by_cases q : i = c
        · subst q; exact rI_same _ _ _ _
        · rw [rI_ne _ _ (by omega)]; exact h3 i (by omega)
      · show bX8_copy_157 F k (nI t) (nI j) (nI n) (nI c) T' = _
        unfold bX8_copy_157
        rw [if_neg (nI_ge hc (by omega)), chk_nI (show c < 64 by omega) (by decide), ix2_item, chk_nI (show 64 * t + j + c < 256 by omega) (by decide), nI_clamp (show 64 * t + j + c < 2 ^ 31 by omega), nI_clamp (show c < 2 ^ 31 by omega), show g_I T' 55 c = T.1 55 c from h2 55 c (by omega), gl_def, gl_def, nI_1])
    (by
      rintro x ⟨T', rfl, h1, h2, h3⟩
      refine ⟨some (1, T'), ⟨T', rfl, h1, h2, h3⟩, fun k => ?_⟩
      show bX8_copy_157 F k (nI t) (nI j) (nI n) (nI n) T' = _
      unfold bX8_copy_157
      rw [if_pos (nI_le (Nat.le_refl _) (by omega))])
    F (nI t, nI j, nI n, (0 : Int32), T) ⟨T, rfl, rfl, fun _ _ _ => rfl, fun k hk => by omega⟩ (by omega)
  exact ⟨T', by rw [← h1, ← hr]; rfl, h2⟩
theorem cp1_spec {F s i t j n : Nat} {T : gS} (hF : 100 < F) (hs : s < 4) (ht : t < 4) (hin : i + n ≤ 64) (hjn : j + n ≤ 64) : ∃ T', bX8_copy_120l F F (nI s, nI i, nI t, nI j, nI n, (0 : Int32), T) = some (1, T') ∧ T'.2 = T.2 ∧ (∀ x k, x ≠ 55 → (x ≠ 54 ∨ k < 64 * t + j ∨ 64 * t + j + n ≤ k) → T'.1 x k = T.1 x k) ∧ ∀ a, a < n → T'.1 54 (64 * t + j + a) = T.1 54 (64 * s + i + a) := by
  obtain ⟨r, ⟨T', h1, h2⟩, hr⟩ := fix_up (body := fun k120 s => bX8_copy_120 F k120 s.1 s.2.1 s.2.2.1 s.2.2.2.1 s.2.2.2.2.1 s.2.2.2.2.2.1 s.2.2.2.2.2.2) n
    (fun c x => ∃ T', x = (nI s, nI i, nI t, nI j, nI n, nI c, T') ∧ T'.2 = T.2 ∧ (∀ x k, x ≠ 55 → T'.1 x k = T.1 x k) ∧ ∀ a, a < c → T'.1 55 a = T.1 54 (64 * s + i + a))
    (fun r => ∃ T', r = some (1, T') ∧ T'.2 = T.2 ∧ (∀ x k, x ≠ 55 → (x ≠ 54 ∨ k < 64 * t + j ∨ 64 * t + j + n ≤ k) → T'.1 x k = T.1 x k) ∧ ∀ a, a < n → T'.1 54 (64 * t + j + a) = T.1 54 (64 * s + i + a))
    (by
      rintro c x hc ⟨T', rfl, h1, h2, h3⟩
      refine Or.inl ⟨(nI s, nI i, nI t, nI j, nI n, nI (c + 1), g_setI T' 55 c (T.1 54 (64 * s + i + c))), ⟨_, rfl, h1, fun x k hi => ?_, fun x hx => ?_⟩, fun k => ?_⟩
      · rw [rI_ne _ _ (by omega)]; exact h2 x k hi
      · by_cases q : x = c
        · subst q; exact rI_same _ _ _ _
        · rw [rI_ne _ _ (by omega)]; exact h3 x (by omega)
      · show bX8_copy_120 F k (nI s) (nI i) (nI t) (nI j) (nI n) (nI c) T' = _
        unfold bX8_copy_120
        rw [if_neg (nI_ge hc (by omega)), ix2_item, chk_nI (show 64 * s + i + c < 256 by omega) (by decide), chk_nI (show c < 64 by omega) (by decide), nI_clamp (show 64 * s + i + c < 2 ^ 31 by omega), nI_clamp (show c < 2 ^ 31 by omega), show g_I T' 54 (64 * s + i + c) = T.1 54 (64 * s + i + c) from h2 54 _ (by omega), gl_def, gl_def, nI_1])
    (by
      rintro x ⟨T', rfl, h1, h2, h3⟩
      obtain ⟨T2, g1, g2, g3, g4⟩ := cp2_spec (F := F) (t := t) (j := j) (n := n) (T := T') hF ht hjn
      refine ⟨some (1, T2), ⟨T2, rfl, by rw [g2, h1], fun x k hx hk => by rw [g3 x k hk, h2 x k hx], fun a ha => by rw [g4 a ha, h3 a ha]⟩, fun k => ?_⟩
      show bX8_copy_120 F k (nI s) (nI i) (nI t) (nI j) (nI n) (nI n) T' = _
      unfold bX8_copy_120
      rw [if_pos (nI_le (Nat.le_refl _) (by omega)), g1])
    F (nI s, nI i, nI t, nI j, nI n, (0 : Int32), T) ⟨T, rfl, rfl, fun _ _ _ => rfl, fun k hk => by omega⟩ (by omega)
  exact ⟨T', by rw [← h1, ← hr]; rfl, h2⟩
def fitP (i n : Int32) (sz : Nat) : Prop := ∃ x y, i = nI x ∧ n = nI y ∧ x + y ≤ sz
theorem holds_yes {F o sz : Nat} {i n : Int32} {S : gS} (h2 : S.1 o 2 = nI sz) (hsz : sz ≤ 64) (h : fitP i n sz) : fX5_holds F o i n S = some (1, S) := by
  obtain ⟨x, y, rfl, rfl, hxy⟩ := h
  unfold fX5_holds
  rw [show g_I S o 2 = nI sz from h2, if_neg (nI_pos (by omega)), if_neg (nI_pos (by omega)), if_neg (nI_nlt (by omega) (by omega)), pk_sub (by omega), if_neg (nI_nlt (by omega) (by omega))]
theorem holds_no {F o sz : Nat} {i n : Int32} {S : gS} (h2 : S.1 o 2 = nI sz) (hsz : sz ≤ 64) (h : ¬ fitP i n sz) : fX5_holds F o i n S = some (0, S) := by
  unfold fX5_holds
  rw [show g_I S o 2 = nI sz from h2]
  by_cases q1 : i < 0
  · rw [if_pos q1]
  · by_cases q2 : n < 0
    · rw [if_neg q1, if_pos q2]
    · obtain ⟨x, hx, rfl⟩ := nI_of q1
      obtain ⟨y, hy, rfl⟩ := nI_of q2
      rw [if_neg q1, if_neg q2]
      by_cases q3 : sz < x
      · rw [if_pos (nI_lt q3 hx)]
      · rw [if_neg (nI_nlt (by omega) (by omega)), pk_sub (by omega), if_pos]
        apply nI_lt _ hy
        by_cases q4 : x + y ≤ sz
        · exact absurd ⟨x, y, rfl, rfl, q4⟩ h
        · omega
theorem lcmp_gt {a b sz : Nat} (ha : a < 2 ^ 31) (hb : b < 2 ^ 31) (hs : sz ≤ 64) : (0 : Int32) < lg_cmp ((nI a).toInt64 + (nI b).toInt64) (nI sz).toInt64 ↔ sz < a + b := by
  rw [nI_l ha, nI_l hb, nI_l (by omega), lN_add, lg_cmp_gt, pk_lLT (by omega) (by omega)]
theorem copy8_no {F s t n1 n2 : Nat} {i j n : Int32} {T : gS} (h1 : T.1 53 s = nI n1) (h2 : T.1 53 t = nI n2) (hn1 : n1 ≤ 64) (hn2 : n2 ≤ 64) (hs : s < 4) (ht : t < 4) (h : ¬ (fitP i n n1 ∧ fitP j n n2)) (A : Option (Int32 × gS)) :
    (if i < 0 then (bX8_copy_111 F T) else (if j < 0 then (bX8_copy_111 F T) else (if n < 0 then (bX8_copy_111 F T) else (g_chk (nI s) 4 (if 0 < (lg_cmp (i.toInt64 + n.toInt64) (((g_I T 53 s)).toInt64)) then (bX8_copy_111 F T) else (g_chk (nI t) 4 (if (lg_cmp (j.toInt64 + n.toInt64) (((g_I T 53 t)).toInt64)) ≤ 0 then A else (bX8_copy_111 F T)))))))) = bX8_copy_111 F T := by
  by_cases q1 : i < 0
  · rw [if_pos q1]
  by_cases q2 : j < 0
  · rw [if_neg q1, if_pos q2]
  by_cases q3 : n < 0
  · rw [if_neg q1, if_neg q2, if_pos q3]
  rw [if_neg q1, if_neg q2, if_neg q3]
  obtain ⟨x, hx, rfl⟩ := nI_of q1
  obtain ⟨z, hz, rfl⟩ := nI_of q2
  obtain ⟨y, hy, rfl⟩ := nI_of q3
  rw [chk_nI hs (by decide), chk_nI ht (by decide), show g_I T 53 s = nI n1 from h1, show g_I T 53 t = nI n2 from h2]
  by_cases q4 : n1 < x + y
  · rw [if_pos ((lcmp_gt hx hy hn1).mpr q4)]
  · rw [if_neg (fun w => q4 ((lcmp_gt hx hy hn1).mp w)), if_neg]
    intro w
    have : ¬ n2 < z + y := fun w' => absurd ((lcmp_gt hz hy hn2).mpr w') (Int32.not_lt.mpr w)
    exact h ⟨⟨x, y, rfl, rfl, by omega⟩, ⟨z, y, rfl, rfl, by omega⟩⟩
theorem copy8_yes {F s t n1 n2 : Nat} {i j n : Nat} {T : gS} (h1 : T.1 53 s = nI n1) (h2 : T.1 53 t = nI n2) (hn1 : n1 ≤ 64) (hn2 : n2 ≤ 64) (hs : s < 4) (ht : t < 4) (hi : i + n ≤ n1) (hj : j + n ≤ n2) (A : Option (Int32 × gS)) :
    (if nI i < 0 then (bX8_copy_111 F T) else (if nI j < 0 then (bX8_copy_111 F T) else (if nI n < 0 then (bX8_copy_111 F T) else (g_chk (nI s) 4 (if 0 < (lg_cmp ((nI i).toInt64 + (nI n).toInt64) (((g_I T 53 s)).toInt64)) then (bX8_copy_111 F T) else (g_chk (nI t) 4 (if (lg_cmp ((nI j).toInt64 + (nI n).toInt64) (((g_I T 53 t)).toInt64)) ≤ 0 then A else (bX8_copy_111 F T)))))))) = A := by
  rw [if_neg (nI_pos (by omega)), if_neg (nI_pos (by omega)), if_neg (nI_pos (by omega)), chk_nI hs (by decide), chk_nI ht (by decide), show g_I T 53 s = nI n1 from h1, show g_I T 53 t = nI n2 from h2, if_neg (fun w => by have := (lcmp_gt (by omega) (by omega) hn1).mp w; omega), if_pos]
  exact Int32.not_lt.mp (fun w => by have := (lcmp_gt (by omega) (by omega) hn2).mp w; omega)
theorem copy_rel {S T S' T' : gS} (h : Inv S T) {s t f n1 n2 i j n : Nat} (hs : s < 4) (ht : t < 4) (hn1 : n1 ≤ 64) (hn2 : n2 ≤ 64) (hi : i + n ≤ n1) (hj : j + n ≤ n2) (hf : f ≤ 2)
    (b4 : T.1 52 s = nI f) (c4 : T.1 52 t = nI f) (b6 : T.1 53 s = nI n1) (c6 : T.1 53 t = nI n2) (b7 : ∀ i, i < n1 → S.1 (44 + 2 * s) i = T.1 54 (64 * s + i)) (c7 : ∀ i, i < n2 → S.1 (44 + 2 * t) i = T.1 54 (64 * t + i))
    (hS' : S' = g_cpyI S (43 + 2 * s + 1) (43 + 2 * t + 1) i j n) (g2 : T'.2 = T.2) (g3 : ∀ x k, x ≠ 55 → (x ≠ 54 ∨ k < 64 * t + j ∨ 64 * t + j + n ≤ k) → T'.1 x k = T.1 x k) (g4 : ∀ a, a < n → T'.1 54 (64 * t + j + a) = T.1 54 (64 * s + i + a)) : Inv S' T' ∧ CK S S' ∧ MK T T' := by
  subst hS'
  refine InvS.of h (fun x k a b => cpyI_ne (by omega)) rfl (fun x k a b => g3 x k (by omega) (by omega)) g2 (fun u hu => ?_) (by rw [cpyI_ne (by omega), g3 51 4 (by omega) (by omega)]; exact h.2.2.2.2)
  obtain ⟨a, b⟩ := h.2.2.2.1 u hu
  rw [cpyI_ne (by omega), cpyI_ne (by omega), g3 52 u (by omega) (by omega), g3 53 u (by omega) (by omega)]
  refine ⟨a, b.imp_right (fun ⟨f', n', b1, b2, b3, b4, b5, b6⟩ => ⟨f', n', b1, b2, b3, b4, b5, fun k hk => ?_⟩)⟩
  by_cases q : u = t
  · subst q
    have hn : n' = n2 := nI_inj (by omega) (by omega) (b5.symm.trans c6)
    subst hn
    show (if 44 + 2 * u = 43 + 2 * u + 1 then va_cpy (S.1 (43 + 2 * s + 1)) (S.1 (43 + 2 * u + 1)) i j n k else S.1 (44 + 2 * u) k) = _
    rw [if_pos (by omega)]
    by_cases q2 : j ≤ k ∧ k < j + n
    · rw [pk_cpy_in q2.1 q2.2, show 43 + 2 * s + 1 = 44 + 2 * s by omega, b7 _ (by omega), show 64 * u + k = 64 * u + j + (k - j) by omega, g4 (k - j) (by omega), Nat.add_assoc]
    · rw [pk_cpy_out (by omega), g3 54 _ (by omega) (by omega), show 43 + 2 * u + 1 = 44 + 2 * u by omega, c7 k hk]
  · rw [cpyI_ne (by omega), g3 54 _ (by omega) (by omega)]; exact b6 k hk
theorem cpyOk_nI {α : Type} {i j n : Nat} (hi : i + n ≤ 64) (hj : j + n ≤ 64) (k : Option α) : g_cpyOk (nI i) (nI j) (nI n) 64 64 k = k := by
  unfold g_cpyOk
  rw [nI_clamp (show i < 2 ^ 31 by omega), nI_clamp (show j < 2 ^ 31 by omega), nI_clamp (show n < 2 ^ 31 by omega), if_pos ⟨nI_pos (by omega), nI_pos (by omega), nI_pos (by omega), hi, hj⟩]
theorem op_copy {F : Nat} (hF : 100 < F) (a i b j n : Int32) : Op Int32 (fX7_copy F a i b j n) (fX8_copy F a i b j n) := by
  intro S T h
  show OpAt _ _ S T
  rcases three a (n := 4) (by decide) with hout | ⟨s, hs, rfl⟩
  · apply at_bad (r := -2) h
    · unfold fX7_copy; rw [sheet7_out F hout, Option.bind_some, if_pos eq00]
    · unfold fX8_copy; rw [sheet8_out F hout, Option.bind_some, if_pos eq00]
  rcases three b (n := 4) (by decide) with hout | ⟨t, ht, rfl⟩
  · apply at_bad (r := -2) h
    · unfold fX7_copy; rw [sheet7_in F hs, Option.bind_some, if_neg ne10, sheet7_out F hout, Option.bind_some, if_pos eq00]
    · unfold fX8_copy; rw [sheet8_in F hs, Option.bind_some, if_neg ne10, sheet8_out F hout, Option.bind_some, if_pos eq00]
  rcases sheet_at h hs with ⟨l1, l2⟩ | ⟨f, n1, b1, b2, b3, b4, b5, b6, b7⟩
  · apply at_found 1 h
    · unfold fX7_copy; rw [sheet7_in F hs, Option.bind_some, if_neg ne10, sheet7_in F ht, Option.bind_some, if_neg ne10, chk_nI hs (by decide), nI_clamp (show s < 2 ^ 31 by omega), lost_yes F _ l1, Option.bind_some, if_neg ne10]; rfl
    · unfold fX8_copy; rw [sheet8_in F hs, Option.bind_some, if_neg ne10, sheet8_in F ht, Option.bind_some, if_neg ne10, chk_nI hs (by decide), nI_clamp (show s < 2 ^ 31 by omega), show g_I (1, (1, T).2).2 52 s = -1 from l2, if_pos (by decide)]; rfl
  rcases sheet_at h ht with ⟨l1, l2⟩ | ⟨f', n2, c1, c2, c3, c4, c5, c6, c7⟩
  · apply at_found 1 h
    · unfold fX7_copy; rw [sheet7_in F hs, Option.bind_some, if_neg ne10, sheet7_in F ht, Option.bind_some, if_neg ne10, chk_nI hs (by decide), nI_clamp (show s < 2 ^ 31 by omega), lost_no F _ b3 b1, Option.bind_some, if_pos eq00, chk_nI ht (by decide), nI_clamp (show t < 2 ^ 31 by omega), lost_yes F _ l1, Option.bind_some, if_neg ne10]; rfl
    · unfold fX8_copy; rw [sheet8_in F hs, Option.bind_some, if_neg ne10, sheet8_in F ht, Option.bind_some, if_neg ne10, chk_nI hs (by decide), nI_clamp (show s < 2 ^ 31 by omega), show g_I (1, (1, T).2).2 52 s = nI f from b4, if_neg (nI_pos (by omega)), chk_nI ht (by decide), nI_clamp (show t < 2 ^ 31 by omega), show g_I (1, (1, T).2).2 52 t = -1 from l2, if_neg (by decide)]; rfl
  have h7 : fX7_copy F (nI s) i (nI t) j n S = (if nI f = nI f' then ((fX5_holds F (43 + 2 * s) i n S).bind (fun q15 : Int32 × gS => if q15.1 = 0 then (bX7_copy_105 F q15.2) else (g_chk (nI t) 4 ((fX5_holds F (43 + 2 * t) j n q15.2).bind (fun q18 : Int32 × gS => if q18.1 = 0 then (bX7_copy_105 F q18.2) else (g_chk (nI s) 4 (g_chk (nI t) 4 (g_cpyOk i j n 64 64 (gl (g_cpyI q18.2 (43 + 2 * s + 1) (43 + 2 * t + 1) (i).toNatClampNeg (j).toNatClampNeg (n).toNatClampNeg) (fun S23 : gS => some ((1 : Int32), S23))))))))))) else ((fX7_found F (4 : Int32) S).bind (fun q24 : Int32 × gS => some (q24.1, q24.2)))) := by
    unfold fX7_copy
    rw [sheet7_in F hs, Option.bind_some, if_neg ne10, sheet7_in F ht, Option.bind_some, if_neg ne10, chk_nI hs (by decide), nI_clamp (show s < 2 ^ 31 by omega), lost_no F _ b3 b1, Option.bind_some, if_pos eq00, chk_nI ht (by decide), nI_clamp (show t < 2 ^ 31 by omega), lost_no F _ c3 c1, Option.bind_some, if_pos eq00, chk_nI hs (by decide), chk_nI ht (by decide), show g_I (0, (0, (1, (1, S).2).2).2).2 (43 + 2 * s) 1 = nI f from b3, show g_I (0, (0, (1, (1, S).2).2).2).2 (43 + 2 * t) 1 = nI f' from c3, chk_nI hs (by decide)]
  have h8 : fX8_copy F (nI s) i (nI t) j n T = (if nI f = nI f' then (if i < 0 then (bX8_copy_111 F T) else (if j < 0 then (bX8_copy_111 F T) else (if n < 0 then (bX8_copy_111 F T) else (g_chk (nI s) 4 (if 0 < (lg_cmp ((i).toInt64 + (n).toInt64) (((g_I T 53 s)).toInt64)) then (bX8_copy_111 F T) else (g_chk (nI t) 4 (if (lg_cmp ((j).toInt64 + (n).toInt64) (((g_I T 53 t)).toInt64)) ≤ 0 then (bX8_copy_120l F F (nI s, i, nI t, j, n, (0 : Int32), T)) else (bX8_copy_111 F T)))))))) else ((fX8_met F (4 : Int32) T).bind (fun q19 : Int32 × gS => some (q19.1, q19.2)))) := by
    unfold fX8_copy
    rw [sheet8_in F hs, Option.bind_some, if_neg ne10, sheet8_in F ht, Option.bind_some, if_neg ne10, chk_nI hs (by decide), nI_clamp (show s < 2 ^ 31 by omega), show g_I (1, (1, T).2).2 52 s = nI f from b4, if_neg (nI_pos (by omega)), chk_nI ht (by decide), nI_clamp (show t < 2 ^ 31 by omega), show g_I (1, (1, T).2).2 52 t = nI f' from c4, if_pos (nI_pos' (by omega)), chk_nI hs (by decide), chk_nI ht (by decide)]
  by_cases qf : f = f'
  · subst qf
    rw [if_pos rfl] at h7 h8
    by_cases qq : fitP i n n1 ∧ fitP j n n2
    · obtain ⟨q1, q2⟩ := qq
      rw [holds_yes b5 b2 q1, Option.bind_some, if_neg ne10, chk_nI ht (by decide), holds_yes c5 c2 q2, Option.bind_some, if_neg ne10, chk_nI hs (by decide), chk_nI ht (by decide)] at h7
      obtain ⟨x, y, rfl, rfl, hxy⟩ := q1
      obtain ⟨z, y', rfl, e, hzy⟩ := id q2
      have hy2 : y = y' := nI_inj (by omega) (by omega) e
      subst hy2
      obtain ⟨T', g1, g2, g3, g4⟩ := cp1_spec (F := F) (s := s) (i := x) (t := t) (j := z) (n := y) (T := T) hF hs ht (by omega) (by omega)
      rw [cpyOk_nI (by omega) (by omega), gl_def, nI_clamp (show x < 2 ^ 31 by omega), nI_clamp (show z < 2 ^ 31 by omega), nI_clamp (show y < 2 ^ 31 by omega)] at h7
      rw [copy8_yes b6 c6 b2 c2 hs ht hxy hzy, g1] at h8
      obtain ⟨i1, i2, i3⟩ := copy_rel h hs ht b2 c2 hxy hzy b1 b4 c4 b6 c6 b7 c7 rfl g2 g3 g4
      exact ⟨1, _, T', h7, h8, i1, i2, i3⟩
    · rw [copy8_no b6 c6 b2 c2 hs ht qq] at h8
      apply at_found 2 h _ h8
      rw [h7]
      by_cases q1 : fitP i n n1
      · rw [holds_yes b5 b2 q1, Option.bind_some, if_neg ne10, chk_nI ht (by decide), holds_no c5 c2 (fun q2 => qq ⟨q1, q2⟩), Option.bind_some, if_pos eq00]; rfl
      · rw [holds_no b5 b2 q1, Option.bind_some, if_pos eq00]; rfl
  · have hne : ¬ nI f = nI f' := fun z => qf (nI_inj (by omega) (by omega) z)
    rw [if_neg hne] at h7 h8
    exact at_found 4 h h7 h8

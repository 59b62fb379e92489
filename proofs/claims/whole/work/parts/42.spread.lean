/-! Route.spread: cost by cost -/
section SPREAD
variable {op : Nat → Bool} {wt : Nat → Nat} {b : Nat}
/-- what may change in it -/
def FrSp (S0 S : gS) : Prop := (∀ i k, i ≠ 13 → S.1 i k = S0.1 i k) ∧ (∀ i k, i ≠ 14 → (i ≠ 12 ∨ k ≠ 4) → S.2 i k = S0.2 i k)
/-- ahead of the cost t -/
def SpI (op : Nat → Bool) (wt : Nat → Nat) (b t l : Nat) (S : gS) : Prop :=
  (∀ c, c < 64 → (hb (S.2 12 4) c = true ↔ ∃ d, d < t ∧ isD op wt b c d)) ∧
  (∀ c d, c < 64 → d < t → isD op wt b c d → S.1 13 c = nI d) ∧
  (∀ u, t ≤ u → u ≤ t + 31 → ∀ n, n < 64 → (hb (S.2 14 (u % 32)) n = true ↔ op n = true ∧ ((u = 0 ∧ n = b) ∨ ∃ p d, p < 64 ∧ d < t ∧ isD op wt b p d ∧ adj n p = true ∧ d + wt p = u))) ∧
  (∀ p d, p < 64 → d < t → isD op wt b p d → d + wt p ≤ l) ∧
  l ≤ 31 * cntB (hb (S.2 12 4)) 64
/-- among the cells of the cost t, with those of x still to do -/
def SpJ (op : Nat → Bool) (wt : Nat → Nat) (b t l : Nat) (x : Int64) (S : gS) : Prop :=
  (∀ c, c < 64 → (hb (S.2 12 4) c = true ↔ ∃ d, d < t + 1 ∧ isD op wt b c d)) ∧
  (∀ c d, c < 64 → d < t + 1 → isD op wt b c d → (d < t ∨ hb x c = false) → S.1 13 c = nI d) ∧
  (∀ u, t + 1 ≤ u → u ≤ t + 32 → ∀ n, n < 64 → (hb (S.2 14 (u % 32)) n = true ↔ op n = true ∧ ∃ p d, p < 64 ∧ d < t + 1 ∧ isD op wt b p d ∧ (d < t ∨ hb x p = false) ∧ adj n p = true ∧ d + wt p = u)) ∧
  (∀ p d, p < 64 → d < t + 1 → isD op wt b p d → (d < t ∨ hb x p = false) → d + wt p ≤ l) ∧
  l + 31 * cntB (hb x) 64 ≤ 31 * cntB (hb (S.2 12 4)) 64 ∧ t ≤ l ∧
  (∀ c, c < 64 → hb x c = true → isD op wt b c t)
theorem hb_false_0 {x : Int64} (h : ∀ c, c < 64 → hb x c = false) : x = 0 := hb_ext (fun c hc => by rw [h c hc, hb_0])
theorem and31 {n : Nat} (h : n < 2 ^ 32) : nI n &&& (31 : Int32) = nI (n % 32) := pk_andN h 5 (by decide)
theorem sp_pop {F sn t l : Nat} {x1 : Int32} {x3 x : Int64} {S : gS} {c0 : Nat} (hw : ∀ n, 1 ≤ wt n ∧ wt n ≤ 31) (hcl : ∀ c, c < 64 → op c = !hb x3 c) (hsn : sn ≠ 13) (hs : ∀ c, c < 64 → S.1 sn c + 1 = nI (wt c)) (ht : t ≤ 1984) (hl : l ≤ 1984) (hc0 : c0 < 64) (hJ : SpJ op wt b t l x S) (hx : ¬ x = 0) :
    ∃ y l' S', SpJ op wt b t l' y S' ∧ cntB (hb x) 64 = cntB (hb y) 64 + 1 ∧ FrSp S S' ∧ l' ≤ 1984 ∧
      ∀ k29 k, bX4_spread_101 F sn k29 k x1 x3 (nI l) (nI t) x (nI c0) S = k (x1, x3, nI l', nI t, y, nI (c0 + 1), S') := by
  obtain ⟨c, hc, hxc, hlow, hclr⟩ := low_bit x hx
  obtain ⟨j1, j2, j3, j4, j5, j6, j7⟩ := hJ
  have hDc := j7 c hc hxc
  have hwc := hw c
  have hcnt : cntB (hb x) 64 = cntB (hb (x &&& (x - 1))) 64 + 1 := cntB_pop hc hxc hclr
  have hcle := cntB_le (hb (S.2 12 4)) 64
  have ev : nI t + (1 : Int32) + S.1 sn c = nI (t + wt c) := by
    rw [show nI t + (1 : Int32) + S.1 sn c = nI t + (S.1 sn c + 1) by rw [Int32.add_assoc, Int32.add_comm 1], hs c hc, nI_add]
  refine ⟨x &&& (x - 1), max l (t + wt c), g_setJ (g_setI S 13 c (nI t)) 14 ((t + wt c) % 32) (S.2 14 ((t + wt c) % 32) ||| (arV (bt c) &&& (x3 ^^^ (-1)))), ?_, hcnt, ?_, by omega, ?_⟩
  · have hne : ∀ d, d < 64 → (hb (x &&& (x - 1)) d = false ↔ (hb x d = false ∨ d = c)) := by
      intro d hd
      rw [hclr d hd]
      by_cases q : d = c
      · subst q; simp
      · simp [q]
    refine ⟨fun d hd => ?_, fun d e hd he hD hor => ?_, fun u hu1 hu2 n hn => ?_, fun p d hp hd hD hor => ?_, ?_, by omega, fun d hd hxd => ?_⟩
    · rw [rJ_ne _ _ (Or.inl (by decide)), rJ_I]; exact j1 d hd
    · rw [rI_J]
      by_cases q : d = c
      · subst q; rw [rI_same, isD_u hD hDc]
      · rw [rI_ne _ _ (Or.inr q)]
        refine j2 d e hd he hD ?_
        rcases hor with h | h
        · exact Or.inl h
        · rcases (hne d hd).mp h with h | h
          · exact Or.inr h
          · exact absurd h q
    · have old : hb (S.2 14 (u % 32)) n = true ↔ op n = true ∧ ∃ p d, p < 64 ∧ d < t + 1 ∧ isD op wt b p d ∧ (d < t ∨ hb x p = false) ∧ adj n p = true ∧ d + wt p = u := j3 u hu1 hu2 n hn
      by_cases q : u = t + wt c
      · subst q
        rw [rJ_same, hb_or, hb_and, ar_2 c hc n hn, hb_not _ hn, ← hcl n hn, Bool.or_eq_true, old, Bool.and_eq_true]
        constructor
        · rintro (⟨h1, p, d, h2, h3, h4, h5, h6, h7⟩ | ⟨h1, h2⟩)
          · exact ⟨h1, p, d, h2, h3, h4, h5.elim Or.inl (fun z => Or.inr ((hne p h2).mpr (Or.inl z))), h6, h7⟩
          · exact ⟨h2, c, t, hc, by omega, hDc, Or.inr ((hne c hc).mpr (Or.inr rfl)), h1, rfl⟩
        · rintro ⟨h1, p, d, h2, h3, h4, h5, h6, h7⟩
          rcases h5 with h5 | h5
          · exact Or.inl ⟨h1, p, d, h2, h3, h4, Or.inl h5, h6, h7⟩
          · rcases (hne p h2).mp h5 with h5 | h5
            · exact Or.inl ⟨h1, p, d, h2, h3, h4, Or.inr h5, h6, h7⟩
            · subst h5; exact Or.inr ⟨h6, h1⟩
      · rw [rJ_ne _ _ (Or.inr (by omega)), rJ_I, old]
        constructor
        · rintro ⟨h1, p, d, h2, h3, h4, h5, h6, h7⟩
          exact ⟨h1, p, d, h2, h3, h4, h5.elim Or.inl (fun z => Or.inr ((hne p h2).mpr (Or.inl z))), h6, h7⟩
        · rintro ⟨h1, p, d, h2, h3, h4, h5, h6, h7⟩
          refine ⟨h1, p, d, h2, h3, h4, ?_, h6, h7⟩
          rcases h5 with h5 | h5
          · exact Or.inl h5
          · rcases (hne p h2).mp h5 with h5 | h5
            · exact Or.inr h5
            · subst h5
              have := isD_u h4 hDc
              omega
    · rcases hor with h | h
      · have := j4 p d hp hd hD (Or.inl h); omega
      · rcases (hne p hp).mp h with h | h
        · have := j4 p d hp hd hD (Or.inr h); omega
        · subst h
          have := isD_u hD hDc
          omega
    · rw [rJ_ne _ _ (Or.inl (by decide)), rJ_I]
      omega
    · rw [hclr d hd] at hxd
      exact j7 d hd (by simp_all)
  · refine ⟨fun i k hi => ?_, fun i k hi _ => ?_⟩
    · rw [rI_J, rI_ne _ _ (Or.inl hi)]
    · rw [rJ_ne _ _ (Or.inl hi), rJ_I]
  · intro k29 k
    unfold bX4_spread_101
    have hc0' : ¬ ((64 : Int32) ≤ nI c0) := nI_ge hc0 (by decide)
    have hsl : (t + wt c) % 32 < 32 := Nat.mod_lt _ (by decide)
    rw [if_neg hc0', if_neg (fun q => hx ((lg_cmp_eq _ _).mp q)), hlow, bc_spec, bc_mask hc]
    simp only [Option.bind_some, gl_def]
    rw [chk_nI hc (by decide), chk_nI hc (by decide)]
    have e1 : g_I (g_setI S 13 (nI c).toNatClampNeg (nI t)) sn (nI c).toNatClampNeg = S.1 sn c := by
      rw [nI_clamp (by omega)]; exact rI_ne _ _ (Or.inl hsn)
    rw [e1, ev, and31 (by omega), chk_nI hsl (by decide), bit_spec]
    simp only [Option.bind_some, ar_spec]
    rw [chk_nI hsl (by decide), nI_clamp (show c < 2 ^ 31 by omega), nI_clamp (show (t + wt c) % 32 < 2 ^ 31 by omega)]
    have e2 : (if nI l < nI (t + wt c) then nI (t + wt c) else nI l) = nI (max l (t + wt c)) := by
      by_cases q : l < t + wt c
      · rw [if_pos (nI_lt q (by omega)), Nat.max_eq_right (by omega)]
      · rw [if_neg (nI_nlt (by omega) (by omega)), Nat.max_eq_left (by omega)]
    rw [e2, nI_1]
    rfl
theorem FrSp.rf (S : gS) : FrSp S S := ⟨fun _ _ _ => rfl, fun _ _ _ _ => rfl⟩
theorem FrSp.tr {S0 S1 S2 : gS} (h1 : FrSp S0 S1) (h2 : FrSp S1 S2) : FrSp S0 S2 := ⟨fun i k h => (h2.1 i k h).trans (h1.1 i k h), fun i k h h' => (h2.2 i k h h').trans (h1.2 i k h h')⟩
theorem sp_inner {F sn t l : Nat} {x1 : Int32} {x3 x : Int64} {S : gS} (hF : 64 < F) (hw : ∀ n, 1 ≤ wt n ∧ wt n ≤ 31) (hcl : ∀ c, c < 64 → op c = !hb x3 c) (hsn : sn ≠ 13) (hs : ∀ c, c < 64 → S.1 sn c + 1 = nI (wt c)) (ht : t ≤ 1984) (hl : l ≤ 1984) (hJ : SpJ op wt b t l x S) :
    ∃ l' S', SpJ op wt b t l' 0 S' ∧ FrSp S S' ∧ l' ≤ 1984 ∧ ∀ k29, bX4_spread_101l F sn k29 F (x1, x3, nI l, nI t, x, (0 : Int32), S) = k29 (x1, x3, nI l', nI (t + 1), S') := by
  have fin : ∀ (c : Nat) (l : Nat) (x : Int64) (S' : gS), c ≤ 64 → (x = 0 ∨ c = 64) → ∀ k29 k, bX4_spread_101 F sn k29 k x1 x3 (nI l) (nI t) x (nI c) S' = k29 (x1, x3, nI l, nI (t + 1), S') := by
    intro c l x S' hc hor k29 k
    unfold bX4_spread_101
    have e : bX4_spread_200 F sn k29 x1 x3 (nI l) (nI t) S' = k29 (x1, x3, nI l, nI (t + 1), S') := by
      unfold bX4_spread_200; rw [gl_def, nI_1]
    rcases hor with h | h
    · subst h
      by_cases q : (64 : Int32) ≤ nI c
      · rw [if_pos q, e]
      · rw [if_neg q, if_pos (by decide), e]
    · subst h; rw [if_pos (by decide), e]
  obtain ⟨z, ⟨h1, h2, h3⟩, hr⟩ := fix_upK (body := fun k29 k101 s => bX4_spread_101 F sn k29 k101 s.1 s.2.1 s.2.2.1 s.2.2.2.1 s.2.2.2.2.1 s.2.2.2.2.2.1 s.2.2.2.2.2.2)
    (fun (k29 : (Int32 × Int64 × Int32 × Int32 × gS) → Option gS) (z : Nat × gS) => k29 (x1, x3, nI z.1, nI (t + 1), z.2)) 64
    (fun c s => ∃ l x S', s = (x1, x3, nI l, nI t, x, nI c, S') ∧ SpJ op wt b t l x S' ∧ FrSp S S' ∧ l ≤ 1984 ∧ cntB (hb x) 64 + c ≤ 64)
    (fun z => SpJ op wt b t z.1 0 z.2 ∧ FrSp S z.2 ∧ z.1 ≤ 1984)
    (by
      rintro c s hc ⟨l, x, S', rfl, hJ, hFr, hl, hct⟩
      by_cases hx : x = 0
      · subst hx
        exact Or.inr ⟨(l, S'), ⟨hJ, hFr, hl⟩, fun k29 k => fin c l 0 S' (by omega) (Or.inl rfl) k29 k⟩
      · obtain ⟨y, l', S2, g1, g2, g3, g4, g5⟩ := sp_pop (F := F) (x1 := x1) hw hcl hsn (fun c hc => by rw [hFr.1 _ _ hsn]; exact hs c hc) ht hl hc hJ hx
        exact Or.inl ⟨_, ⟨l', y, S2, rfl, g1, hFr.tr g3, g4, by omega⟩, g5⟩)
    (by
      rintro s ⟨l, x, S', rfl, hJ, hFr, hl, hct⟩
      have hx : x = 0 := hb_false_0 (cntB_0 (by omega))
      subst hx
      exact ⟨(l, S'), ⟨hJ, hFr, hl⟩, fun k29 k => fin 64 l 0 S' (by omega) (Or.inl rfl) k29 k⟩)
    F (x1, x3, nI l, nI t, x, (0 : Int32), S) ⟨l, x, S, rfl, hJ, FrSp.rf S, hl, by have := cntB_le (hb x) 64; omega⟩ hF
  exact ⟨z.1, z.2, h1, h2, h3, fun k29 => hr k29⟩
theorem sp_up {t l : Nat} {S : gS} (h : SpJ op wt b t l 0 S) : SpI op wt b (t + 1) l S := by
  obtain ⟨j1, j2, j3, j4, j5, j6, j7⟩ := h
  refine ⟨j1, fun c d hc hd hD => j2 c d hc hd hD (Or.inr (hb_0 c)), fun u h1 h2 n hn => ?_, fun p d hp hd hD => j4 p d hp hd hD (Or.inr (hb_0 p)), by omega⟩
  rw [j3 u h1 (by omega) n hn]
  constructor
  · rintro ⟨a, p, d, h2, h3, h4, -, h6, h7⟩
    exact ⟨a, Or.inr ⟨p, d, h2, h3, h4, h6, h7⟩⟩
  · rintro ⟨a, ⟨q, -⟩ | ⟨p, d, h2, h3, h4, h6, h7⟩⟩
    · omega
    · exact ⟨a, p, d, h2, h3, h4, Or.inr (hb_0 p), h6, h7⟩
theorem sp_enter {t l : Nat} {S : gS} (hw : ∀ n, 1 ≤ wt n ∧ wt n ≤ 31) (hop : ∀ c, op c = true → c < 64) (hob : op b = true) (htl : t ≤ l) (h : SpI op wt b t l S) :
    SpJ op wt b t l (S.2 14 (t % 32) &&& (S.2 12 4 ^^^ (-1))) (g_setJ (g_setJ S 14 (t % 32) 0) 12 4 (S.2 12 4 ||| (S.2 14 (t % 32) &&& (S.2 12 4 ^^^ (-1))))) := by
  obtain ⟨j1, j2, j3, j4, j5⟩ := h
  have hnow : ∀ n, n < 64 → (hb (S.2 14 (t % 32) &&& (S.2 12 4 ^^^ (-1))) n = true ↔ isD op wt b n t) := by
    intro n hn
    rw [hb_and, hb_not _ hn, Bool.and_eq_true, j3 t (Nat.le_refl _) (by omega) n hn, Bool.not_eq_true']
    have hr : hb (S.2 12 4) n = false ↔ ¬ ∃ d, d < t ∧ isD op wt b n d := by
      rw [← j1 n hn]; simp
    rw [hr]
    constructor
    · rintro ⟨⟨ho, hor⟩, hnot⟩
      have hR : Rch op wt b n t := by
        rcases hor with ⟨h1, h2⟩ | ⟨p, d, h2, h3, h4, h5, h6⟩
        · subst h2; rw [h1]; exact rch_0 ho
        · obtain ⟨dir, hd, hnb⟩ := adj_iff.mp h5
          rw [← h6]; exact rch_s ho hd hnb h4.1
      obtain ⟨e, he, hD⟩ := isD_ex hR
      rcases Nat.lt_or_ge e t with q | q
      · exact absurd ⟨e, q, hD⟩ hnot
      · rw [show t = e by omega]; exact hD
    · intro hD
      refine ⟨⟨rch_op hD.1, ?_⟩, ?_⟩
      · rcases Nat.decEq n b with q | q
        · obtain ⟨dir, p, e, h1, h2, h3, h4⟩ := isD_back hD q
          have := hw p
          exact Or.inr ⟨p, e, hop p (rch_op h3.1), by omega, h3, adj_iff.mpr ⟨dir, h1, h2⟩, h4.symm⟩
        · refine Or.inl ⟨?_, q⟩
          have := hD.2 0 (by rw [q]; exact rch_0 hob)
          omega
      · rintro ⟨d, hd, hD2⟩
        have := isD_u hD hD2
        omega
  have hnf : ∀ n, n < 64 → isD op wt b n t → hb (S.2 14 (t % 32) &&& (S.2 12 4 ^^^ (-1))) n = false → False := by
    intro n hn hD hf
    rw [(hnow n hn).mpr hD] at hf; cases hf
  refine ⟨fun c hc => ?_, fun c d hc hd hD hor => ?_, fun u h1 h2 n hn => ?_, fun p d hp hd hD hor => ?_, ?_, htl, fun c hc hx => (hnow c hc).mp hx⟩
  · rw [rJ_same, hb_or, Bool.or_eq_true, j1 c hc, hnow c hc]
    constructor
    · rintro (⟨d, h1, h2⟩ | h)
      · exact ⟨d, by omega, h2⟩
      · exact ⟨t, by omega, h⟩
    · rintro ⟨d, h1, h2⟩
      rcases Nat.lt_or_ge d t with q | q
      · exact Or.inl ⟨d, q, h2⟩
      · rw [show d = t by omega] at h2; exact Or.inr h2
  · rw [rI_J, rI_J]
    rcases Nat.lt_or_ge d t with q | q
    · exact j2 c d hc q hD
    · rw [show d = t by omega] at hD hor
      rcases hor with h | h
      · omega
      · exact absurd h (fun z => hnf c hc hD z)
  · rw [rJ_ne _ _ (Or.inl (by decide))]
    by_cases q : u = t + 32
    · subst q
      rw [show (t + 32) % 32 = t % 32 by omega, rJ_same, hb_0]
      constructor
      · intro h; cases h
      · rintro ⟨-, p, d, h2, h3, h4, h5, h6, h7⟩
        have := hw p
        omega
    · rw [rJ_ne _ _ (Or.inr (by omega)), j3 u (by omega) (by omega) n hn]
      constructor
      · rintro ⟨ho, ⟨q2, -⟩ | ⟨p, d, h2, h3, h4, h5, h6⟩⟩
        · omega
        · exact ⟨ho, p, d, h2, by omega, h4, Or.inl h3, h5, h6⟩
      · rintro ⟨ho, p, d, h2, h3, h4, h5, h6, h7⟩
        rcases Nat.lt_or_ge d t with q3 | q3
        · exact ⟨ho, Or.inr ⟨p, d, h2, q3, h4, h6, h7⟩⟩
        · rw [show d = t by omega] at h4 h5
          rcases h5 with h5 | h5
          · omega
          · exact (hnf p h2 h4 h5).elim
  · rcases Nat.lt_or_ge d t with q | q
    · exact j4 p d hp q hD
    · rw [show d = t by omega] at hD hor
      rcases hor with h | h
      · omega
      · exact (hnf p hp hD h).elim
  · rw [rJ_same]
    have hct : cntB (hb (S.2 12 4 ||| (S.2 14 (t % 32) &&& (S.2 12 4 ^^^ (-1))))) 64 = cntB (hb (S.2 12 4)) 64 + cntB (hb (S.2 14 (t % 32) &&& (S.2 12 4 ^^^ (-1)))) 64 :=
      cntB_or (fun c _ => hb_or _ _ c) (fun c hc h => by
        obtain ⟨d, hd, hD⟩ := (j1 c hc).mp h.1
        have := isD_u hD ((hnow c hc).mp h.2)
        omega)
    omega
/-- the end of it -/
def SpE (op : Nat → Bool) (wt : Nat → Nat) (b a : Nat) (S : gS) : Prop := ∃ t,
  (∀ c, c < 64 → (hb (S.2 12 4) c = true ↔ ∃ d, d < t ∧ isD op wt b c d)) ∧
  (∀ c d, c < 64 → d < t → isD op wt b c d → S.1 13 c = nI d) ∧
  (∀ d, Rch op wt b a d → ∃ e, e < t ∧ isD op wt b a e) ∧ t ≤ 1985
theorem sp_loop {F sn a : Nat} {x3 : Int64} {S : gS} (hF : 2000 < F) (ha : a < 64) (hw : ∀ n, 1 ≤ wt n ∧ wt n ≤ 31) (hop : ∀ c, op c = true → c < 64) (hob : op b = true) (hcl : ∀ c, c < 64 → op c = !hb x3 c) (hsn : sn ≠ 13) (hs : ∀ c, c < 64 → S.1 sn c + 1 = nI (wt c)) (h0 : SpI op wt b 0 0 S) :
    ∃ S', FrSp S S' ∧ SpE op wt b a S' ∧ bX4_spread_29l F sn F (nI a, x3, (0 : Int32), (0 : Int32), S) = some S' := by
  obtain ⟨r, ⟨S', h1, h2, h3⟩, hr⟩ := fix_run (body := fun k29 s => bX4_spread_29 F sn k29 s.1 s.2.1 s.2.2.1 s.2.2.2.1 s.2.2.2.2)
    (fun s => ∃ t l S', s = (nI a, x3, nI l, nI t, S') ∧ SpI op wt b t l S' ∧ FrSp S S' ∧ t ≤ 1985 ∧ t ≤ l + 1)
    (fun s => 2000 - s.2.2.2.1.toNatClampNeg)
    (fun r => ∃ S', FrSp S S' ∧ SpE op wt b a S' ∧ r = some S')
    (by
      rintro s ⟨t, l, S', rfl, hI, hFr, ht, htl⟩
      have hcle := cntB_le (hb (S'.2 12 4)) 64
      have hl : l ≤ 1984 := by have := hI.2.2.2.2; omega
      by_cases q : l < t
      · refine Or.inr ⟨some S', ⟨S', hFr, ⟨t, hI.1, hI.2.1, ?_, ht⟩, rfl⟩, fun k => ?_⟩
        · have hall : ∀ k c d, Rc op wt b k c d → ∃ e, e < t ∧ isD op wt b c e := by
            intro k
            induction k with
            | zero =>
              intro c d h
              obtain ⟨h1, h2, h3⟩ := h
              subst h1
              exact ⟨0, by omega, isD_b h3⟩
            | succ k ih =>
              intro c d h
              obtain ⟨ho, dir, n, d', g1, g2, g3, g4⟩ := h
              obtain ⟨e, he, hD⟩ := ih n d' g3
              have hle := hI.2.2.2.1 n e (hop n (rch_op hD.1)) he hD
              obtain ⟨e', he', hD'⟩ := isD_ex (rch_s ho g1 g2 hD.1)
              exact ⟨e', by omega, hD'⟩
          rintro d ⟨k, hk⟩
          exact hall k a d hk
        · show bX4_spread_29 F sn k (nI a) x3 (nI l) (nI t) S' = some S'
          unfold bX4_spread_29
          rw [if_pos (nI_lt q (by omega))]
      · have hnl : ¬ nI l < nI t := nI_nlt (by omega) (by omega)
        have hn2 : ¬ (1984 : Int32) < nI t := show ¬ nI 1984 < nI t from nI_nlt (by omega) (by omega)
        by_cases q2 : hb (S'.2 12 4) a = true
        · obtain ⟨d, hd, hD⟩ := (hI.1 a ha).mp q2
          refine Or.inr ⟨some S', ⟨S', hFr, ⟨t, hI.1, hI.2.1, fun _ _ => ⟨d, hd, hD⟩, ht⟩, rfl⟩, fun k => ?_⟩
          show bX4_spread_29 F sn k (nI a) x3 (nI l) (nI t) S' = some S'
          unfold bX4_spread_29
          rw [if_neg hnl, if_neg hn2, has_spec F _ ha]
          simp only [Option.bind_some, hasV, q2, if_true]
          rw [if_neg (by decide)]
        · have hsl : t % 32 < 32 := Nat.mod_lt _ (by decide)
          have hJ := sp_enter hw hop hob (by omega) hI
          have hFr2 : FrSp S' (g_setJ (g_setJ S' 14 (t % 32) 0) 12 4 (S'.2 12 4 ||| (S'.2 14 (t % 32) &&& (S'.2 12 4 ^^^ (-1))))) := by
            refine ⟨fun i k _ => rfl, fun i k hi hor => ?_⟩
            rw [rJ_ne _ _ hor, rJ_ne _ _ (Or.inl hi)]
          obtain ⟨l', S2, g1, g2, g3, g4⟩ := sp_inner (F := F) (x1 := nI a) (by omega) hw hcl hsn (fun c hc => by rw [hFr2.1 _ _ hsn, hFr.1 _ _ hsn]; exact hs c hc) (show t ≤ 1984 by omega) hl hJ
          refine Or.inl ⟨(nI a, x3, nI l', nI (t + 1), S2), ⟨t + 1, l', S2, rfl, sp_up g1, hFr.tr (hFr2.tr g2), by omega, by have := g1.2.2.2.2.2.1; omega⟩, ?_, fun k => ?_⟩
          · show 2000 - (nI (t + 1)).toNatClampNeg < 2000 - (nI t).toNatClampNeg
            rw [nI_clamp (by omega), nI_clamp (by omega)]; omega
          · show bX4_spread_29 F sn k (nI a) x3 (nI l) (nI t) S' = _
            unfold bX4_spread_29
            have q3 : hb (S'.2 12 4) a = false := by simpa using q2
            rw [if_neg hnl, if_neg hn2, has_spec F _ ha]
            simp only [Option.bind_some, hasV, q3]
            rw [if_pos (by decide), and31 (by omega), chk_nI hsl (by decide)]
            simp only [gl_def]
            rw [chk_nI hsl (by decide), nI_clamp (by omega)]
            have e5 : g_J (g_setJ S' 14 (t % 32) 0) 12 4 = S'.2 12 4 := rJ_ne _ _ (Or.inl (by decide))
            rw [e5]
            exact g4 k)
    F (nI a, x3, (0 : Int32), (0 : Int32), S) ⟨0, 0, S, rfl, h0, FrSp.rf S, by omega, by omega⟩ (by show 2000 - _ < F; omega)
  exact ⟨S', h1, h2, by rw [← h3, ← hr]; rfl⟩
theorem fill_l {F : Nat} (hF : 32 < F) (v : Int64) (S : gS) : ∃ S', fJ7_fill_d0a16 F v S = some S' ∧ S'.1 = S.1 ∧ (∀ i k, i ≠ 14 → S'.2 i k = S.2 i k) ∧ ∀ k, k < 32 → S'.2 14 k = v := by
  obtain ⟨r, ⟨S', h1, h2, h3, h4⟩, hr⟩ := fix_up (body := fun k6 s => bJ7_fill_d0a16_6 F k6 s.1 s.2.1 s.2.2.1 s.2.2.2) 32
    (fun c s => ∃ S', s = (v, nI c, nI 32, S') ∧ S'.1 = S.1 ∧ (∀ i k, i ≠ 14 → S'.2 i k = S.2 i k) ∧ ∀ k, k < c → S'.2 14 k = v)
    (fun r => ∃ S', r = some S' ∧ S'.1 = S.1 ∧ (∀ i k, i ≠ 14 → S'.2 i k = S.2 i k) ∧ ∀ k, k < 32 → S'.2 14 k = v)
    (by
      rintro c s hc ⟨S', rfl, h1, h2, h3⟩
      refine Or.inl ⟨(v, nI (c + 1), nI 32, g_setJ S' 14 c v), ⟨_, rfl, h1, fun i k hi => by rw [rJ_ne _ _ (Or.inl hi)]; exact h2 i k hi, fun k hk => ?_⟩, fun k => ?_⟩
      · by_cases q : k = c
        · subst q; exact rJ_same _ _ _ _
        · rw [rJ_ne _ _ (Or.inr q)]; exact h3 k (by omega)
      · show bJ7_fill_d0a16_6 F k v (nI c) (nI 32) S' = _
        unfold bJ7_fill_d0a16_6
        rw [if_neg (nI_ge hc (by decide)), chk_nI hc (by decide), nI_clamp (by omega)]
        simp only [gl_def, nI_1])
    (by
      rintro s ⟨S', rfl, h1, h2, h3⟩
      refine ⟨some S', ⟨S', rfl, h1, h2, h3⟩, fun k => ?_⟩
      show bJ7_fill_d0a16_6 F k v (nI 32) (nI 32) S' = _
      unfold bJ7_fill_d0a16_6
      rw [if_pos (nI_le (Nat.le_refl _) (by decide))])
    F (v, (0 : Int32), nI 32, S) ⟨S, rfl, rfl, fun _ _ _ => rfl, fun k hk => by omega⟩ hF
  refine ⟨S', ?_, h2, h3, h4⟩
  rw [← h1, ← hr]; rfl
theorem spread_spec {F sn a : Nat} {x3 : Int64} {S : gS} (hF : 2000 < F) (ha : a < 64) (hbb : b < 64) (hw : ∀ n, 1 ≤ wt n ∧ wt n ≤ 31) (hop : ∀ c, op c = true → c < 64) (hob : op b = true) (hcl : ∀ c, c < 64 → op c = !hb x3 c) (hsn : sn ≠ 13) (hs : ∀ c, c < 64 → S.1 sn c + 1 = nI (wt c)) :
    ∃ S', FrSp S S' ∧ SpE op wt b a S' ∧ fX4_spread F sn (nI a) (nI b) x3 S = some S' := by
  obtain ⟨S1, h1, h2, h3, h4⟩ := fill_l (F := F) (by omega) 0 S
  have hI : SpI op wt b 0 0 (g_setJ (g_setJ S1 14 0 (bt b)) 12 4 0) := by
    refine ⟨fun c hc => ?_, fun c d _ hd _ => by omega, fun u _ hu n hn => ?_, fun p d _ hd _ => by omega, Nat.zero_le _⟩
    · rw [rJ_same, hb_0]
      constructor
      · intro h; cases h
      · rintro ⟨d, hd, -⟩; omega
    · rw [rJ_ne _ _ (Or.inl (by decide))]
      by_cases q : u = 0
      · subst q
        rw [rJ_same, hb_bt hbb hn, decide_eq_true_eq]
        constructor
        · intro h; subst h; exact ⟨hob, Or.inl ⟨rfl, rfl⟩⟩
        · rintro ⟨-, ⟨-, h⟩ | ⟨p, d, -, hd, -⟩⟩
          · exact h
          · omega
      · rw [rJ_ne _ _ (Or.inr (by omega)), h4 _ (by omega), hb_0]
        constructor
        · intro h; cases h
        · rintro ⟨-, ⟨h, -⟩ | ⟨p, d, -, hd, -⟩⟩ <;> omega
  obtain ⟨S', g1, g2, g3⟩ := sp_loop (F := F) (sn := sn) (a := a) (x3 := x3) hF ha hw hop hob hcl hsn (fun c hc => by rw [rI_J, rI_J, h2]; exact hs c hc) hI
  refine ⟨S', ⟨fun i k hi => ?_, fun i k hi hor => ?_⟩, g2, ?_⟩
  · rw [g1.1 i k hi, rI_J, rI_J, h2]
  · rw [g1.2 i k hi hor, rJ_ne _ _ hor, rJ_ne _ _ (Or.inl hi), h3 i k hi]
  · unfold fX4_spread
    rw [h1]
    simp only [Option.bind_some, bit_spec, gl_def]
    exact g3
end SPREAD

/-! pictures -/
def PicV (f g : Nat → Int32) (n : Nat) (v : Int32) : Prop := (v = 1 ∧ ∀ i, i < n → f i = g i) ∨ (v = 0 ∧ ¬ ∀ i, i < n → f i = g i)
theorem PicV_u {f g f' g' : Nat → Int32} {n : Nat} {v v' : Int32} (h : PicV f g n v) (h' : PicV f' g' n v') (hf : ∀ i, i < n → f i = f' i) (hg : ∀ i, i < n → g i = g' i) : v = v' := by
  have key : (∀ i, i < n → f i = g i) ↔ (∀ i, i < n → f' i = g' i) := by
    constructor
    · intro h i hi; rw [← hf i hi, ← hg i hi]; exact h i hi
    · intro h i hi; rw [hf i hi, hg i hi]; exact h i hi
  rcases h with ⟨h1, h2⟩ | ⟨h1, h2⟩ <;> rcases h' with ⟨h3, h4⟩ | ⟨h3, h4⟩
  · rw [h1, h3]
  · exact absurd (key.mp h2) h4
  · exact absurd (key.mpr h4) h2
  · rw [h1, h3]
theorem PicV_01 {f g : Nat → Int32} {n : Nat} {v : Int32} (h : PicV f g n v) : v = 0 ∨ v = 1 := by
  rcases h with ⟨h1, -⟩ | ⟨h1, -⟩
  · exact Or.inr h1
  · exact Or.inl h1
theorem shows_spec {F o ar n : Nat} {S : gS} (hF : 100 < F) (hn : n ≤ 64) (h2 : S.1 o 2 = nI n) : ∃ v, fX5_shows F o ar S = some (v, S) ∧ PicV (S.1 (o + 1)) (S.1 ar) n v := by
  obtain ⟨r, ⟨v, h1, h2⟩, hr⟩ := fix_up (body := fun k2 s => bX5_shows_2 F o ar k2 s.1 s.2) n
    (fun c s => s = (nI c, S) ∧ ∀ i, i < c → S.1 (o + 1) i = S.1 ar i)
    (fun r => ∃ v, r = some (v, S) ∧ PicV (S.1 (o + 1)) (S.1 ar) n v)
    (by
      rintro c s hc ⟨rfl, h⟩
      have e : ∀ k, bX5_shows_2 F o ar k (nI c) S = (if S.1 (o + 1) c = S.1 ar c then k (nI (c + 1), S) else some (0, S)) := fun k => by
        unfold bX5_shows_2
        rw [if_neg (by show ¬ S.1 o 2 ≤ nI c; rw [h2]; exact nI_ge hc (by omega)), chk_nI (show c < 64 by omega) (by decide), chk_nI (show c < 64 by omega) (by decide), nI_clamp (show c < 2 ^ 31 by omega), gl_def, nI_1]
      by_cases q : S.1 (o + 1) c = S.1 ar c
      · refine Or.inl ⟨(nI (c + 1), S), ⟨rfl, fun i hi => ?_⟩, fun k => (e k).trans (if_pos q)⟩
        by_cases qi : i = c
        · rw [qi]; exact q
        · exact h i (by omega)
      · exact Or.inr ⟨_, ⟨0, rfl, Or.inr ⟨rfl, fun z => q (z c hc)⟩⟩, fun k => (e k).trans (if_neg q)⟩)
    (by
      rintro s ⟨rfl, h⟩
      refine ⟨_, ⟨1, rfl, Or.inl ⟨rfl, h⟩⟩, fun k => ?_⟩
      show bX5_shows_2 F o ar k (nI n) S = _
      unfold bX5_shows_2
      rw [if_pos (by show S.1 o 2 ≤ nI n; rw [h2]; exact nI_le (Nat.le_refl _) (by omega))])
    F ((0 : Int32), S) ⟨rfl, fun i hi => by omega⟩ (by omega)
  exact ⟨v, by rw [← h1, ← hr]; rfl, h2⟩
theorem picture_spec {F s n : Nat} {T : gS} (hF : 100 < F) (hs : s < 4) (hn : n ≤ 64) (h2 : T.1 53 s = nI n) : ∃ v, fX8_isPicture F (nI s) T = some (v, T) ∧ PicV (fun i => T.1 54 (64 * s + i)) (T.1 66) n v := by
  obtain ⟨r, ⟨v, h1, h2⟩, hr⟩ := fix_up (body := fun k4 s => bX8_isPicture_4 F k4 s.1 s.2.1 s.2.2.1 s.2.2.2) n
    (fun c x => ∃ v, x = (nI s, v, nI c, T) ∧ PicV (fun i => T.1 54 (64 * s + i)) (T.1 66) c v)
    (fun r => ∃ v, r = some (v, T) ∧ PicV (fun i => T.1 54 (64 * s + i)) (T.1 66) n v)
    (by
      rintro c x hc ⟨v, rfl, h⟩
      have e : ∀ k, bX8_isPicture_4 F k (nI s) v (nI c) T = (if v = 0 then k (nI s, 0, nI (c + 1), T) else if T.1 54 (64 * s + c) = T.1 66 c then k (nI s, 1, nI (c + 1), T) else k (nI s, 0, nI (c + 1), T)) := fun k => by
        unfold bX8_isPicture_4 bX8_isPicture_42 bX8_isPicture_43
        rw [chk_nI hs (by decide), nI_clamp (show s < 2 ^ 31 by omega), if_neg (by show ¬ T.1 53 s ≤ nI c; rw [h2]; exact nI_ge hc (by omega)), ix_item, chk_nI (show 64 * s + c < 256 by omega) (by decide), chk_nI (show c < 64 by omega) (by decide), nI_clamp (show 64 * s + c < 2 ^ 31 by omega), nI_clamp (show c < 2 ^ 31 by omega), gl_def, gl_def, nI_1]
      rcases h with ⟨rfl, ha⟩ | ⟨rfl, ha⟩
      · by_cases q : T.1 54 (64 * s + c) = T.1 66 c
        · refine Or.inl ⟨_, ⟨1, rfl, Or.inl ⟨rfl, fun i hi => ?_⟩⟩, fun k => (e k).trans ((if_neg (by decide)).trans (if_pos q))⟩
          by_cases qi : i = c
          · rw [qi]; exact q
          · exact ha i (by omega)
        · exact Or.inl ⟨_, ⟨0, rfl, Or.inr ⟨rfl, fun z => q (z c (by omega))⟩⟩, fun k => (e k).trans ((if_neg (by decide)).trans (if_neg q))⟩
      · exact Or.inl ⟨_, ⟨0, rfl, Or.inr ⟨rfl, fun z => ha (fun i hi => z i (by omega))⟩⟩, fun k => (e k).trans (if_pos rfl)⟩)
    (by
      rintro x ⟨v, rfl, h⟩
      refine ⟨_, ⟨v, rfl, h⟩, fun k => ?_⟩
      show bX8_isPicture_4 F k (nI s) v (nI n) T = _
      unfold bX8_isPicture_4
      rw [chk_nI hs (by decide), nI_clamp (show s < 2 ^ 31 by omega), if_pos (by show T.1 53 s ≤ nI n; rw [h2]; exact nI_le (Nat.le_refl _) (by omega))]
      rcases PicV_01 h with rfl | rfl
      · exact bo_0 _
      · exact bo_1 _)
    F (nI s, (1 : Int32), (0 : Int32), T) ⟨1, rfl, Or.inl ⟨rfl, fun i hi => by omega⟩⟩ (by omega)
  exact ⟨v, by rw [← h1, ← hr]; rfl, h2⟩
theorem pic_rel {F s n ar : Nat} {S T : gS} (hF : 100 < F) (hs : s < 4) (hn : n ≤ 64) (b5 : S.1 (43 + 2 * s) 2 = nI n) (b6 : T.1 53 s = nI n) (b7 : ∀ i, i < n → S.1 (44 + 2 * s) i = T.1 54 (64 * s + i)) (hcm : ∀ c, c < 64 → S.1 ar c = T.1 66 c) : ∃ v, (v = 0 ∨ v = 1) ∧ fX5_shows F (43 + 2 * s) ar S = some (v, S) ∧ fX8_isPicture F (nI s) T = some (v, T) := by
  obtain ⟨v, e1, e2⟩ := shows_spec (F := F) (ar := ar) hF hn b5
  obtain ⟨v', g1, g2⟩ := picture_spec (F := F) (s := s) hF hs hn b6
  have := PicV_u e2 g2 (fun i hi => by rw [show 43 + 2 * s + 1 = 44 + 2 * s by omega]; exact b7 i hi) (fun i hi => hcm i (by omega))
  subst this
  exact ⟨v, PicV_01 e2, e1, g1⟩
/-! hints -/
theorem disj {S T : gS} (h : InvT S T) {c : Nat} (hc : c < 64) (q1 : hb (S.2 1 3) c = true) : hb (S.2 1 4) c = false := by
  obtain ⟨len, _, _, _, _, _, h6⟩ := h
  have h6' := h6 c hc
  rw [h6'.1] at q1; rw [h6'.2]; simp at q1 ⊢; intro _ h; rw [q1.2] at h; cases h
def Kinds (Wl hid : Int64) (T : gS) : Prop := ∀ c, c < 64 → T.1 57 c = if hb Wl c then 1 else if hb hid c then 2 else 0
theorem KRel_more {S T T5 : gS} {c : Nat} (hT : InvT S T) (hk : Kinds (S.2 1 3) (S.2 1 4) T5) (hc : c < 64) (h19 : T5.1 51 19 = nI c) : KRel (S.2 1 3) (S.2 1 4 ||| bt c) T5 := by
  intro d hd
  unfold hidM
  rw [hk d hd, h19, hb_or, hb_bt hc hd]
  have hdc : decide (nI d = nI c) = decide (d = c) := by
    by_cases q : d = c
    · simp [q]
    · have : ¬ nI d = nI c := fun z => q (nI_inj (by omega) (by omega) z)
      simp [q, this]
  rw [hdc]
  by_cases q1 : hb (S.2 1 3) d = true
  · have q2 := disj hT hd q1
    simp [q1, q2]
  · by_cases q2 : hb (S.2 1 4) d = true <;> simp [q1, q2]
theorem ws_spec {F sh w : Nat} {c a b : Nat} {S S1 S2 : gS} {ok v : Int32} (hw : w < 8) (hv : v = 0 ∨ v = 1) (e1 : fX3_begin F 16 S = some S1) (h4 : S1.2 1 4 = S.2 1 4) (h10 : S1.1 10 w = nI a) (h11 : S1.1 11 w = nI b) (e2 : fX3_go F 16 (nI a) (nI b) (S.2 1 4 ||| bt c) S1 = some (ok, S2)) (e3 : fX5_shows F sh 18 S2 = some (v, S2)) : fX7_wouldShow F sh (nI w) (nI c) S = some (v, S2) := by
  unfold fX7_wouldShow
  rw [e1, Option.bind_some, bit_spec, Option.bind_some, gl_def, chk_nI hw (by decide), chk_nI hw (by decide), nI_clamp (show w < 2 ^ 31 by omega), show g_I (bt c, S1).2 10 w = nI a from h10, show g_I (bt c, S1).2 11 w = nI b from h11, show g_J S1 1 4 = S.2 1 4 from h4, show fX3_go F 16 (nI a) (nI b) (S.2 1 4 ||| (bt c, S1).1) (bt c, S1).2 = some (ok, S2) from e2, Option.bind_some, e3, Option.bind_some]
  rcases hv with rfl | rfl
  · exact bo_0 _
  · exact bo_1 _
theorem hn7_107 {F c : Nat} {k : (Int32 × Int32 × Int32 × Int32 × Int32 × Int32 × gS) → Option (Int32 × gS)} {x1 x2 x3 x4 x5 : Int32} {S : gS} : bX7_hints_107 F k x1 x2 x3 x4 x5 (nI c) S = k (x1, x2, x3, x4, x5, nI (c + 1), S) := by
  unfold bX7_hints_107
  rw [gl_def, nI_1]
theorem hn7_closed {F c : Nat} {k : (Int32 × Int32 × Int32 × Int32 × Int32 × Int32 × gS) → Option (Int32 × gS)} {x1 x2 x3 x4 x5 v : Int32} {S : gS} (hc : c < 64) (hk : fX0_kindOf F (nI c) S = some (v, S)) (hv : ¬ v = 0) : bX7_hints_54 F k x1 x2 x3 x4 x5 (nI c) S = k (x1, x2, x3, x4, x5, nI (c + 1), S) := by
  unfold bX7_hints_54
  rw [if_neg (show ¬ ((64 : Int32) ≤ nI c) from nI_ge hc (by decide)), hk, Option.bind_some, if_neg hv, hn7_107]
theorem hn7_open {F c s : Nat} {k : (Int32 × Int32 × Int32 × Int32 × Int32 × Int32 × gS) → Option (Int32 × gS)} {x2 x3 x4 x5 v : Int32} {S S2 : gS} (hc : c < 64) (hs : s < 4) (hk : fX0_kindOf F (nI c) S = some (0, S)) (hw : fX7_wouldShow F (43 + 2 * s) x2 (nI c) S = some (v, S2)) : bX7_hints_54 F k (nI s) x2 x3 x4 x5 (nI c) S = k (nI s, x2, x3, (if v = 0 then x4 else x4 + 1), (if v = 0 then x5 else if x5 = -1 then nI c else x5), nI (c + 1), S2) := by
  unfold bX7_hints_54 bX7_hints_105
  rw [if_neg (show ¬ ((64 : Int32) ≤ nI c) from nI_ge hc (by decide)), hk, Option.bind_some, if_pos eq00, chk_nI hs (by decide), nI_clamp (show s < 2 ^ 31 by omega), show fX7_wouldShow F (43 + 2 * s) x2 (nI c) (0, S).2 = some (v, S2) from hw, Option.bind_some]
  by_cases q : v = 0
  · rw [if_pos q, if_pos q, if_pos q, hn7_107]
  · rw [if_neg q, if_neg q, if_neg q, gl_def]
    by_cases q5 : x5 = -1
    · rw [if_pos q5, if_pos q5, hn7_107]
    · rw [if_neg q5, if_neg q5, hn7_107]
theorem hn7_end {F : Nat} {k : (Int32 × Int32 × Int32 × Int32 × Int32 × Int32 × gS) → Option (Int32 × gS)} {x1 x2 x3 x4 x5 : Int32} {S : gS} : bX7_hints_54 F k x1 x2 x3 x4 x5 (nI 64) S = some (if x3 = 0 then x4 else x5, S) := by
  unfold bX7_hints_54
  rw [if_pos (by decide)]
  by_cases q : x3 = 0
  · rw [if_pos q, if_pos q]
  · rw [if_neg q, if_neg q]
theorem hn8_127 {F c : Nat} {k : (Int32 × Int32 × Int32 × Int32 × Int32 × Int32 × gS) → Option (Int32 × gS)} {x1 x2 x3 x4 x5 : Int32} {S : gS} : bX8_hints_127 F k x1 x2 x3 x4 x5 (nI c) S = k (x1, x2, x3, x4, x5, nI (c + 1), S) := by
  unfold bX8_hints_127
  rw [gl_def, nI_1]
theorem hn8_110 {F c : Nat} {k : (Int32 × Int32 × Int32 × Int32 × Int32 × Int32 × gS) → Option (Int32 × gS)} {x1 x2 x3 x4 v t : Int32} {S : gS} : bX8_hints_110 F k x1 x2 x3 x4 (nI c) v t S = k (x1, x2, x3, (if v = 0 then x4 else x4 + 1), t, nI (c + 1), S) := by
  unfold bX8_hints_110 bX8_hints_124
  by_cases q : v = 0
  · rw [if_pos q, if_pos q, gl_def, hn8_127, Int32.add_zero]
  · rw [if_neg q, if_neg q, gl_def, hn8_127]
theorem hn8_closed {F c : Nat} {k : (Int32 × Int32 × Int32 × Int32 × Int32 × Int32 × gS) → Option (Int32 × gS)} {x1 x2 x3 x4 x5 : Int32} {S : gS} (hc : c < 64) (hv : ¬ S.1 57 c = 0) : bX8_hints_53 F k x1 x2 x3 x4 x5 (nI c) S = k (x1, x2, x3, x4, x5, nI (c + 1), S) := by
  unfold bX8_hints_53
  rw [if_neg (show ¬ ((64 : Int32) ≤ nI c) from nI_ge hc (by decide)), chk_nI hc (by decide), nI_clamp (show c < 2 ^ 31 by omega), if_neg (show ¬ g_I S 57 c = 0 from hv), hn8_127]
theorem hn8_open {F c : Nat} {k : (Int32 × Int32 × Int32 × Int32 × Int32 × Int32 × gS) → Option (Int32 × gS)} {x1 x2 x3 x4 x5 v : Int32} {S S1 S2 : gS} (hc : c < 64) (hk : S.1 57 c = 0) (hb : fX8_begins F (g_setI S 51 19 (nI c)) = some S1) (hw : fX8_walks F x2 S1 = some S2) (hp : fX8_isPicture F x1 S2 = some (v, S2)) : bX8_hints_53 F k x1 x2 x3 x4 x5 (nI c) S = k (x1, x2, x3, (if v = 0 then x4 else x4 + 1), (if v = 0 then x5 else if x5 = -1 then nI c else x5), nI (c + 1), S2) := by
  unfold bX8_hints_53 bX8_hints_108
  rw [if_neg (show ¬ ((64 : Int32) ≤ nI c) from nI_ge hc (by decide)), chk_nI hc (by decide), nI_clamp (show c < 2 ^ 31 by omega), if_pos (show g_I S 57 c = 0 from hk), gl_def, hb, Option.bind_some, hw, Option.bind_some, hp, Option.bind_some, gl_def]
  by_cases q : v = 0
  · rw [if_pos (show (v, S2).1 = 0 from q), hn8_110, if_pos q, if_pos (show (v, S2).1 = 0 from q)]
  · rw [if_neg (show ¬ (v, S2).1 = 0 from q)]
    by_cases q5 : x5 = -1
    · rw [if_pos q5, hn8_110, if_neg q, if_pos q5, if_neg (show ¬ (v, S2).1 = 0 from q)]
    · rw [if_neg q5, hn8_110, if_neg q, if_neg q5, if_neg (show ¬ (v, S2).1 = 0 from q)]
theorem hn8_end {F : Nat} {k : (Int32 × Int32 × Int32 × Int32 × Int32 × Int32 × gS) → Option (Int32 × gS)} {x1 x2 x3 x4 x5 : Int32} {S : gS} : bX8_hints_53 F k x1 x2 x3 x4 x5 (nI 64) S = some (if x3 = 0 then x4 else x5, S) := by
  unfold bX8_hints_53
  rw [if_pos (by decide)]
  by_cases q : x3 = 0
  · rw [if_pos q, if_pos q]
  · rw [if_neg q, if_neg q]
theorem hints_rel {F s n w nW : Nat} {S T : gS} (hF : 20000000 < F) (h : Inv S T) (hs : s < 4) (hn : n ≤ 64) (b5 : S.1 (43 + 2 * s) 2 = nI n) (b6 : T.1 53 s = nI n) (b7 : ∀ i, i < n → S.1 (44 + 2 * s) i = T.1 54 (64 * s + i)) (hnW : nW ≤ 8) (hw : w < nW) (h9 : S.1 9 2 = nI nW) (x3 : Int32) : ∃ r S' T1 T', fX8_tries F T = some T1 ∧ bX7_hints_54l F F (nI s, nI w, x3, (0 : Int32), (-1 : Int32), (0 : Int32), S) = some (r, S') ∧ bX8_hints_53l F F (nI s, nI w, x3, (0 : Int32), (-1 : Int32), (0 : Int32), T1) = some (r, T') ∧ FC S S' ∧ FM T T' := by
  obtain ⟨nW', T1, w1, t1, hB, t10, w2, w3⟩ := beside_0 (F := F) (by omega) h
  have hnn : nW' = nW := nI_inj (by omega) (by omega) (w2.symm.trans h9)
  subst hnn
  obtain ⟨x, y, ⟨r, S', T', e1, e2, e3, e4⟩, g1, g2⟩ := fix2 (b1 := fun k54 s => bX7_hints_54 F k54 s.1 s.2.1 s.2.2.1 s.2.2.2.1 s.2.2.2.2.1 s.2.2.2.2.2.1 s.2.2.2.2.2.2) (b2 := fun k53 s => bX8_hints_53 F k53 s.1 s.2.1 s.2.2.1 s.2.2.2.1 s.2.2.2.2.1 s.2.2.2.2.2.1 s.2.2.2.2.2.2) 64
    (fun c x y => ∃ x4 x5 S' T', x = (nI s, nI w, x3, x4, x5, nI c, S') ∧ y = (nI s, nI w, x3, x4, x5, nI c, T') ∧ FC S S' ∧ FM T T' ∧ Kinds (S.2 1 3) (S.2 1 4) T')
    (fun x y => ∃ r S' T', x = some (r, S') ∧ y = some (r, T') ∧ FC S S' ∧ FM T T')
    (by
      rintro c x y hc ⟨x4, x5, S', T', rfl, rfl, k1, k2, k3⟩
      have hI := h.fr k1 k2
      have kk := kindOf0_spec F hc S'
      rw [k1.2 3, k1.2 4, ← k3 c hc] at kk
      by_cases q : T'.1 57 c = 0
      · rw [q] at kk
        obtain ⟨hT, hG, ⟨nW2, v1, v2, v3, v4⟩, -, -⟩ := id hI
        have : nW2 = nW' := nI_inj (by omega) (by omega) (v2.symm.trans ((k1.1 9 2 (by unfold per; omega)).trans h9))
        subst this
        obtain ⟨a, b, ha, hb64, p1, p2, p3, p4⟩ := v4 w hw
        obtain ⟨S1, s1, s2, s3, s4, s5, s6⟩ := begin_spec (F := F) (o := 16) (S := S') (by omega) ⟨by decide, by decide⟩
        obtain ⟨T2, u1, u2, u3, u4, u5, u6, u7⟩ := begins_spec (F := F) (T := g_setI T' 51 19 (nI c)) (by omega)
        have fm1 : FM T' T2 := (show FM T' (g_setI T' 51 19 (nI c)) from ⟨fun i k hp => rI_ne _ _ (by unfold per at hp; omega), rfl⟩).tr u2.fm
        have hk2 : Kinds (S.2 1 3) (S.2 1 4) T2 := fun d hd => by
          rw [u2.1 57 d (by decide) (by decide) (by decide) (Or.inl (by decide)), rI_ne _ _ (by omega)]; exact k3 d hd
        have hKR : KRel (S.2 1 3) (S.2 1 4 ||| bt c) T2 := KRel_more h.1 hk2 hc (by rw [u2.1 51 19 (by decide) (by decide) (by decide) (Or.inr (by decide)), rI_same])
        have hTR : TR 16 S1 T2 := TR_begin hG s3 s4 s5 s6 (fun d hd => by
          have := u3 d hd
          rw [rI_ne _ _ (by omega), rI_ne _ _ (by omega)] at this
          exact this) u4 u5 u6
        have z10 : S1.1 10 w = nI a := by rw [s2.1 10 w (by decide) (by decide) (by decide) (by decide) (by decide) (by decide)]; exact p1
        have z11 : S1.1 11 w = nI b := by rw [s2.1 11 w (by decide) (by decide) (by decide) (by decide) (by decide) (by decide)]; exact p3
        have z62 : T2.1 62 w = nI a := by rw [fm1.1 62 w (by unfold per; omega)]; exact p2
        have z63 : T2.1 63 w = nI b := by rw [fm1.1 63 w (by unfold per; omega)]; exact p4
        obtain ⟨ok, v, S2, T3, r1, r2, r3, r4, r5, r6, r7, r8, r9⟩ := walk_rel (F := F) (o := 16) (wi := w) (hid := S.2 1 4 ||| bt c) hF ⟨by decide, by decide⟩ (by omega) ha hb64 (by rw [s2.2 1 3 (by decide) (by decide)]; exact k1.2 3) hKR z62 z63 hTR
        have fc2 : FC S' S2 := (s2.tr r7).fc ⟨by decide, by decide⟩
        have fm2 : FM T' T3 := fm1.tr r8.fm
        obtain ⟨pv, pv1, pv2, pv3⟩ := pic_rel (F := F) (s := s) (n := n) (ar := 18) (S := S2) (T := T3) (by omega) hs hn (by rw [fc2.1 _ _ (by unfold per; omega), k1.1 _ _ (by unfold per; omega)]; exact b5) (by rw [fm2.1 _ _ (by unfold per; omega), k2.1 _ _ (by unfold per; omega)]; exact b6) (fun i hi => by rw [fc2.1 _ _ (by unfold per; omega), k1.1 _ _ (by unfold per; omega), fm2.1 _ _ (by unfold per; omega), k2.1 _ _ (by unfold per; omega)]; exact b7 i hi) (fun d hd => (r6.1 d hd).2.1)
        have hws := ws_spec (F := F) (sh := 43 + 2 * s) (w := w) (c := c) (by omega) pv1 s1 (s2.2 1 4 (by decide) (by decide)) z10 z11 (by rw [k1.2 4]; exact r2) pv2
        refine Or.inl ⟨_, _, ⟨_, _, S2, T3, rfl, rfl, k1.tr fc2, k2.tr fm2, fun d hd => ?_⟩, fun k => hn7_open hc hs kk hws, fun k => hn8_open hc q u1 r3 pv3⟩
        rw [r8.1 57 d (by decide) (by decide) (by decide) (by decide) (by decide) (by decide) (Or.inl (by decide))]; exact hk2 d hd
      · exact Or.inl ⟨_, _, ⟨x4, x5, S', T', rfl, rfl, k1, k2, k3⟩, fun k => hn7_closed hc kk q, fun k => hn8_closed hc q⟩)
    (by
      rintro x y ⟨x4, x5, S', T', rfl, rfl, k1, k2, k3⟩
      exact ⟨_, _, ⟨_, S', T', rfl, rfl, k1, k2⟩, fun k => hn7_end, fun k => hn8_end⟩)
    F F (nI s, nI w, x3, (0 : Int32), (-1 : Int32), (0 : Int32), S) (nI s, nI w, x3, (0 : Int32), (-1 : Int32), (0 : Int32), T1) ⟨0, -1, S, T1, rfl, rfl, FC.rf S, hB.2.2.2.1, t10⟩ (by omega) (by omega)
  exact ⟨r, S', T1, T', t1, by rw [← e1, ← g1]; rfl, by rw [← e2, ← g2]; rfl, e3, e4⟩
theorem op_hints {F : Nat} (hF : 20000000 < F) (a b c : Int32) : Op Int32 (fX7_hints F a b c) (fX8_hints F a b c) := by
  intro S T h
  show OpAt _ _ S T
  obtain ⟨-, -, ⟨nW, w1, w2, w3, -⟩, -⟩ := id h
  rcases three a (n := 4) (by decide) with hout | ⟨s, hs, rfl⟩
  · apply at_bad (r := -2) h
    · unfold fX7_hints; rw [sheet7_out F hout, Option.bind_some, if_pos eq00]
    · unfold fX8_hints; rw [sheet8_out F hout, Option.bind_some, if_pos eq00]
  rcases three b (n := nW) (by omega) with hout | ⟨w, hw, rfl⟩
  · apply at_bad (r := -2) h
    · unfold fX7_hints; rw [sheet7_in F hs, Option.bind_some, if_neg ne10, walker7_out F w2 hout, Option.bind_some, if_pos eq00]
    · unfold fX8_hints; rw [sheet8_in F hs, Option.bind_some, if_neg ne10, walker8_out F w3 w1 hout, Option.bind_some, if_pos eq00]
  have h7 : fX7_hints F (nI s) (nI w) c S = (if c < 0 then (some ((-2 : Int32), S)) else (if c ≤ (1 : Int32) then ((fX5_isLost F (43 + 2 * s) S).bind (fun q8 : Int32 × gS => if q8.1 = 0 then (bX7_hints_54l F F (nI s, nI w, c, (0 : Int32), (-1 : Int32), (0 : Int32), q8.2)) else ((fX7_found F (1 : Int32) q8.2).bind (fun q10 : Int32 × gS => some (q10.1, q10.2))))) else (some ((-2 : Int32), S)))) := by
    unfold fX7_hints
    rw [sheet7_in F hs, Option.bind_some, if_neg ne10, walker7_in F w2 w1 hw, Option.bind_some, if_neg ne10, chk_nI hs (by decide), nI_clamp (show s < 2 ^ 31 by omega)]
  rcases two_cases c with hout | hcc
  · apply at_bad (r := -2) h
    · rw [h7]
      rcases two_out hout with h1 | ⟨h1, h2⟩
      · rw [if_pos h1]
      · rw [if_neg h1, if_neg h2]
    · unfold fX8_hints; rw [sheet8_in F hs, Option.bind_some, if_neg ne10, walker8_in F w3 w1 hw, Option.bind_some, if_neg ne10, two8_out F hout, Option.bind_some, if_pos eq00]
  obtain ⟨h1, h2⟩ := two_nlt hcc
  rw [if_neg h1, if_pos h2] at h7
  have h8 : fX8_hints F (nI s) (nI w) c T = (if 0 ≤ (g_I T 52 s) then ((fX8_tries F T).bind (fun q9 : gS => bX8_hints_53l F F (nI s, nI w, c, (0 : Int32), (-1 : Int32), (0 : Int32), q9))) else ((fX8_met F (1 : Int32) T).bind (fun q10 : Int32 × gS => some (q10.1, q10.2)))) := by
    unfold fX8_hints
    rw [sheet8_in F hs, Option.bind_some, if_neg ne10, walker8_in F w3 w1 hw, Option.bind_some, if_neg ne10, two8_01 F hcc, Option.bind_some, if_neg ne10, chk_nI hs (by decide), nI_clamp (show s < 2 ^ 31 by omega)]
  rcases sheet_at h hs with ⟨l1, l2⟩ | ⟨f, n, b1, b2, b3, b4, b5, b6, b7⟩
  · apply at_found 1 h
    · rw [h7, lost_yes F _ l1, Option.bind_some, if_neg ne10, found7, Option.bind_some]
    · rw [h8, show g_I T 52 s = -1 from l2, if_neg (by decide), met8, Option.bind_some]
  · obtain ⟨r, S', T1, T', e1, e2, e3, e4, e5⟩ := hints_rel hF h hs b2 b5 b6 b7 w1 hw w2 c
    refine ⟨r, S', T', ?_, ?_, h.fr e4 e5, e4.ck, e5.mk⟩
    · rw [h7, lost_no F _ b3 b1, Option.bind_some, if_pos eq00, e2]
    · rw [h8, show g_I T 52 s = nI f from b4, if_pos (nI_pos' (by omega)), e1, Option.bind_some, e3]

/-! what ties the class's cells (of S) to the reference's (of T) -/
def InvT (S T : gS) : Prop := ∃ len, len ≤ 75 ∧ S.1 1 1 = nI len ∧ T.1 51 6 = nI len ∧ (∀ k, k < len → S.1 2 k = T.1 56 k) ∧ IsFlt (S.1 2) len (S.1 1 2) ∧ PsO S
def InvG (S T : gS) : Prop := ∀ c, c < 64 → (∃ w, w ≤ 30 ∧ S.1 4 c = nI w ∧ T.1 58 c = nI w) ∧ (∃ w, w ≤ 30 ∧ S.1 5 c = nI w ∧ T.1 59 c = nI w) ∧ (∃ w, w ≤ 30 ∧ S.1 6 c = nI w ∧ T.1 60 c = nI w) ∧ S.1 7 c = T.1 61 c ∧ S.1 8 c = 0
def InvW (S T : gS) : Prop := ∃ nW, nW ≤ 8 ∧ S.1 9 2 = nI nW ∧ T.1 51 12 = nI nW ∧ ∀ w, w < nW → ∃ a b, a < 64 ∧ b < 64 ∧ S.1 10 w = nI a ∧ T.1 62 w = nI a ∧ S.1 11 w = nI b ∧ T.1 63 w = nI b
def InvS (S T : gS) : Prop := ∀ s, s < 4 → S.1 (43 + 2 * s) 1 = T.1 52 s ∧ (T.1 52 s = -1 ∨ ∃ f n, f ≤ 2 ∧ n ≤ 64 ∧ T.1 52 s = nI f ∧ S.1 (43 + 2 * s) 2 = nI n ∧ T.1 53 s = nI n ∧ ∀ i, i < n → S.1 (44 + 2 * s) i = T.1 54 (64 * s + i))
def Inv (S T : gS) : Prop := InvT S T ∧ InvG S T ∧ InvW S T ∧ InvS S T ∧ S.1 0 7 = T.1 51 4
def per (i k : Nat) : Prop := i = 2 ∨ (4 ≤ i ∧ i ≤ 8) ∨ i = 10 ∨ i = 11 ∨ (43 ≤ i ∧ i ≤ 50) ∨ (52 ≤ i ∧ i ≤ 54) ∨ i = 56 ∨ (58 ≤ i ∧ i ≤ 63) ∨ (i = 0 ∧ k = 7) ∨ (i = 1 ∧ (k = 1 ∨ k = 2)) ∨ (i = 9 ∧ k = 2) ∨ (i = 51 ∧ (k = 4 ∨ k = 6 ∨ k = 12))
/-- what the class's trying leaves, and the reference's -/
def FC (S S' : gS) : Prop := (∀ i k, (per i k ∨ 51 ≤ i) → S'.1 i k = S.1 i k) ∧ ∀ k, S'.2 1 k = S.2 1 k
def FM (T T' : gS) : Prop := (∀ i k, (per i k ∨ i ≤ 50) → T'.1 i k = T.1 i k) ∧ T'.2 = T.2
/-- what the class leaves of the reference's, and the other way round -/
def CK (S S' : gS) : Prop := ∀ i k, 51 ≤ i → S'.1 i k = S.1 i k
def MK (T T' : gS) : Prop := (∀ i k, i ≤ 50 → T'.1 i k = T.1 i k) ∧ T'.2 = T.2
theorem FC.rf (S : gS) : FC S S := ⟨fun _ _ _ => rfl, fun _ => rfl⟩
theorem FM.rf (S : gS) : FM S S := ⟨fun _ _ _ => rfl, rfl⟩
theorem FC.tr {S0 S1 S2 : gS} (h1 : FC S0 S1) (h2 : FC S1 S2) : FC S0 S2 := ⟨fun i k h => (h2.1 i k h).trans (h1.1 i k h), fun k => (h2.2 k).trans (h1.2 k)⟩
theorem FM.tr {S0 S1 S2 : gS} (h1 : FM S0 S1) (h2 : FM S1 S2) : FM S0 S2 := ⟨fun i k h => (h2.1 i k h).trans (h1.1 i k h), h2.2.trans h1.2⟩
theorem FC.ck {S S' : gS} (h : FC S S') : CK S S' := fun i k hi => h.1 i k (Or.inr hi)
theorem FM.mk {T T' : gS} (h : FM T T') : MK T T' := ⟨fun i k hi => h.1 i k (Or.inr hi), h.2⟩
theorem FrGo.fc {o : Nat} {S S' : gS} (ho : 16 ≤ o ∧ o ≤ 39) (h : FrGo o S S') : FC S S' := ⟨fun i k hp => h.1 i k (by unfold per at hp; omega) (by unfold per at hp; omega) (by unfold per at hp; omega) (by unfold per at hp; omega) (by unfold per at hp; omega) (by unfold per at hp; omega), fun k => h.2 1 k (by decide) (by decide)⟩
theorem FrFi.fc {S S' : gS} (h : FrFi S S') : FC S S' := (FrFi.go (o := 16) h).fc ⟨by decide, by decide⟩
theorem FrW2.fm {T T' : gS} (h : FrW2 T T') : FM T T' := ⟨fun i k hp => h.1 i k (by unfold per at hp; omega) (by unfold per at hp; omega) (by unfold per at hp; omega) (by unfold per at hp; omega) (by unfold per at hp; omega) (by unfold per at hp; omega) (by unfold per at hp; omega), h.2⟩
theorem FrSt.fm {T T' : gS} (h : FrSt T T') : FM T T' := ⟨fun i k hp => h.1 i k (by unfold per at hp; omega) (by unfold per at hp; omega), h.2⟩
theorem Inv.fr {S S' T T' : gS} (h : Inv S T) (hc : FC S S') (hm : FM T T') : Inv S' T' := by
  obtain ⟨⟨len, h1, h2, h3, h4, h5, h6⟩, hG, ⟨nW, w1, w2, w3, w4⟩, hS, hf⟩ := h
  have c : ∀ i k, per i k → S'.1 i k = S.1 i k := fun i k h => hc.1 i k (Or.inl h)
  have m : ∀ i k, per i k → T'.1 i k = T.1 i k := fun i k h => hm.1 i k (Or.inl h)
  have c2 : S'.1 2 = S.1 2 := by funext k; exact c 2 k (by simp [per])
  refine ⟨⟨len, h1, ?_, ?_, fun k hk => ?_, ?_, fun x hx => ?_⟩, fun x hx => ?_, ⟨nW, w1, ?_, ?_, fun w hw => ?_⟩, fun s hs => ?_, ?_⟩
  · rw [c 1 1 (by simp [per])]; exact h2
  · rw [m 51 6 (by simp [per])]; exact h3
  · rw [c 2 k (by simp [per]), m 56 k (by simp [per])]; exact h4 k hk
  · rw [c2, c 1 2 (by simp [per])]; exact h5
  · rw [hc.2, hc.2, c 1 2 (by simp [per]), c 2 _ (by simp [per])]; exact h6 x hx
  · rw [c 4 x (by simp [per]), c 5 x (by simp [per]), c 6 x (by simp [per]), c 7 x (by simp [per]), c 8 x (by simp [per]), m 58 x (by simp [per]), m 59 x (by simp [per]), m 60 x (by simp [per]), m 61 x (by simp [per])]; exact hG x hx
  · rw [c 9 2 (by simp [per])]; exact w2
  · rw [m 51 12 (by simp [per])]; exact w3
  · rw [c 10 w (by simp [per]), c 11 w (by simp [per]), m 62 w (by simp [per]), m 63 w (by simp [per])]; exact w4 w hw
  · have e1 : ∀ k, S'.1 (43 + 2 * s) k = S.1 (43 + 2 * s) k := fun k => c _ k (by unfold per; omega)
    have e2 : ∀ k, S'.1 (44 + 2 * s) k = S.1 (44 + 2 * s) k := fun k => c _ k (by unfold per; omega)
    rw [e1, e1, m 52 s (by simp [per]), m 53 s (by simp [per])]
    obtain ⟨a, b | ⟨f, n, b1, b2, b3, b4, b5, b6⟩⟩ := hS s hs
    · exact ⟨a, Or.inl b⟩
    · exact ⟨a, Or.inr ⟨f, n, b1, b2, b3, b4, b5, fun i hi => by rw [e2, m 54 _ (by simp [per])]; exact b6 i hi⟩⟩
  · rw [c 0 7 (by simp [per]), m 51 4 (by simp [per])]; exact hf
/-- the model's cells may stand in another state -/
theorem Inv.ofCK {S T : gS} (h : Inv S S) (hc : CK S T) : Inv S T := by
  obtain ⟨⟨len, h1, h2, h3, h4, h5, h6⟩, hG, ⟨nW, w1, w2, w3, w4⟩, hS, hf⟩ := h
  refine ⟨⟨len, h1, h2, ?_, fun k hk => ?_, h5, h6⟩, fun x hx => ?_, ⟨nW, w1, w2, ?_, fun w hw => ?_⟩, fun s hs => ?_, ?_⟩
  · rw [hc 51 6 (by decide)]; exact h3
  · rw [hc 56 k (by decide)]; exact h4 k hk
  · rw [hc 58 x (by decide), hc 59 x (by decide), hc 60 x (by decide), hc 61 x (by decide)]; exact hG x hx
  · rw [hc 51 12 (by decide)]; exact w3
  · rw [hc 62 w (by decide), hc 63 w (by decide)]; exact w4 w hw
  · rw [hc 52 s (by decide), hc 53 s (by decide)]
    obtain ⟨a, b | ⟨f, n, b1, b2, b3, b4, b5, b6⟩⟩ := hS s hs
    · exact ⟨a, Or.inl b⟩
    · exact ⟨a, Or.inr ⟨f, n, b1, b2, b3, b4, b5, fun i hi => by rw [hc 54 _ (by decide)]; exact b6 i hi⟩⟩
  · rw [hc 51 4 (by decide)]; exact hf
theorem Inv.ofMK {S T : gS} (h : Inv S T) (hm : MK S T) : Inv T T := by
  obtain ⟨⟨len, h1, h2, h3, h4, h5, h6⟩, hG, ⟨nW, w1, w2, w3, w4⟩, hS, hf⟩ := h
  have c2 : T.1 2 = S.1 2 := by funext k; exact hm.1 2 k (by decide)
  refine ⟨⟨len, h1, ?_, h3, fun k hk => ?_, ?_, fun x hx => ?_⟩, fun x hx => ?_, ⟨nW, w1, ?_, w3, fun w hw => ?_⟩, fun s hs => ?_, ?_⟩
  · rw [hm.1 1 1 (by decide)]; exact h2
  · rw [hm.1 2 k (by decide)]; exact h4 k hk
  · rw [c2, hm.1 1 2 (by decide)]; exact h5
  · rw [hm.2, hm.1 1 2 (by decide), hm.1 2 _ (by decide)]; exact h6 x hx
  · rw [hm.1 4 x (by decide), hm.1 5 x (by decide), hm.1 6 x (by decide), hm.1 7 x (by decide), hm.1 8 x (by decide)]; exact hG x hx
  · rw [hm.1 9 2 (by decide)]; exact w2
  · rw [hm.1 10 w (by decide), hm.1 11 w (by decide)]; exact w4 w hw
  · have e1 : ∀ k, T.1 (43 + 2 * s) k = S.1 (43 + 2 * s) k := fun k => hm.1 _ k (by omega)
    have e2 : ∀ k, T.1 (44 + 2 * s) k = S.1 (44 + 2 * s) k := fun k => hm.1 _ k (by omega)
    rw [e1, e1]
    obtain ⟨a, b | ⟨f, n, b1, b2, b3, b4, b5, b6⟩⟩ := hS s hs
    · exact ⟨a, Or.inl b⟩
    · exact ⟨a, Or.inr ⟨f, n, b1, b2, b3, b4, b5, fun i hi => by rw [e2]; exact b6 i hi⟩⟩
  · rw [hm.1 0 7 (by decide)]; exact hf
/-- a call of both, from cells that are tied -/
def Op (α : Type) (f g : gS → Option (α × gS)) : Prop := ∀ S T, Inv S T → ∃ r S' T', f S = some (r, S') ∧ g T = some (r, T') ∧ Inv S' T' ∧ CK S S' ∧ MK T T'
theorem Op.use {α : Type} {f g : gS → Option (α × gS)} (h : Op α f g) {S : gS} (hI : Inv S S) : ∃ r S' T', f S = some (r, S') ∧ g S' = some (r, T') ∧ Inv T' T' := by
  obtain ⟨r, S', T0, h1, -, -, h4, -⟩ := h S S hI
  obtain ⟨r2, S2, T', g1, g2, g3, g4, g5⟩ := h S S' (hI.ofCK h4)
  rw [h1] at g1
  obtain ⟨rfl, rfl⟩ := Prod.mk.inj (Option.some.inj g1)
  exact ⟨r, S', T', h1, g2, g3.ofMK g5⟩
/-- by trying alone -/
theorem Op.try {α : Type} {f g : gS → Option (α × gS)} (h : ∀ S T, Inv S T → ∃ r S' T', f S = some (r, S') ∧ g T = some (r, T') ∧ FC S S' ∧ FM T T') : Op α f g := fun S T hI => by
  obtain ⟨r, S', T', h1, h2, h3, h4⟩ := h S T hI
  exact ⟨r, S', T', h1, h2, hI.fr h3 h4, h3.ck, h4.mk⟩
/-! the beginning of a try -/
theorem fill_i {F : Nat} (hF : 64 < F) (ar : Nat) (v : Int32) (S : gS) : ∃ S', fJ7_fill_53178 F ar v S = some S' ∧ S'.2 = S.2 ∧ (∀ i k, i ≠ ar → S'.1 i k = S.1 i k) ∧ ∀ k, k < 64 → S'.1 ar k = v := by
  obtain ⟨r, ⟨S', h1, h2, h3, h4⟩, hr⟩ := fix_up (body := fun k5 s => bJ7_fill_53178_5 F ar k5 s.1 s.2.1 s.2.2.1 s.2.2.2) 64
    (fun c s => ∃ S', s = (v, nI c, nI 64, S') ∧ S'.2 = S.2 ∧ (∀ i k, i ≠ ar → S'.1 i k = S.1 i k) ∧ ∀ k, k < c → S'.1 ar k = v)
    (fun r => ∃ S', r = some S' ∧ S'.2 = S.2 ∧ (∀ i k, i ≠ ar → S'.1 i k = S.1 i k) ∧ ∀ k, k < 64 → S'.1 ar k = v)
    (by
      rintro c s hc ⟨S', rfl, h1, h2, h3⟩
      refine Or.inl ⟨(v, nI (c + 1), nI 64, g_setI S' ar c v), ⟨_, rfl, h1, fun i k hi => by rw [rI_ne _ _ (Or.inl hi)]; exact h2 i k hi, fun k hk => ?_⟩, fun k => ?_⟩
      · by_cases q : k = c
        · subst q; exact rI_same _ _ _ _
        · rw [rI_ne _ _ (Or.inr q)]; exact h3 k (by omega)
      · show bJ7_fill_53178_5 F ar k v (nI c) (nI 64) S' = _
        unfold bJ7_fill_53178_5
        rw [if_neg (nI_ge hc (by decide)), chk_nI hc (by decide), nI_clamp (by omega)]
        simp only [gl_def, nI_1])
    (by
      rintro s ⟨S', rfl, h1, h2, h3⟩
      refine ⟨some S', ⟨S', rfl, h1, h2, h3⟩, fun k => ?_⟩
      show bJ7_fill_53178_5 F ar k v (nI 64) (nI 64) S' = _
      unfold bJ7_fill_53178_5
      rw [if_pos (nI_le (Nat.le_refl _) (by decide))])
    F (v, (0 : Int32), nI 64, S) ⟨S, rfl, rfl, fun _ _ _ => rfl, fun k hk => by omega⟩ hF
  refine ⟨S', ?_, h2, h3, h4⟩
  rw [← h1, ← hr]; rfl
theorem cpyOk64 {α : Type} (k : Option α) : g_cpyOk 0 0 64 64 64 k = k := if_pos (by decide)
theorem cpyI_at {S : gS} {i j c : Nat} (hc : c < 64) : (g_cpyI S i j ((0 : Int32)).toNatClampNeg ((0 : Int32)).toNatClampNeg ((64 : Int32)).toNatClampNeg).1 j c = S.1 i c := by
  show (if j = j then va_cpy (S.1 i) (S.1 j) _ _ _ c else _) = _
  rw [if_pos rfl]
  unfold va_cpy
  rw [if_pos ⟨Nat.zero_le _, by show c < 0 + 64; omega⟩]
  show S.1 i (0 + (c - 0)) = _
  rw [Nat.sub_zero, Nat.zero_add]
theorem cpyI_ne {S : gS} {i j a c sp dp n : Nat} (h : a ≠ j) : (g_cpyI S i j sp dp n).1 a c = S.1 a c := if_neg h
theorem begin_spec {F o : Nat} {S : gS} (hF : 64 < F) (ho : 16 ≤ o ∧ o ≤ 39) : ∃ S', fX3_begin F o S = some S' ∧ FrGo o S S' ∧ (∀ c, c < 64 → S'.1 (o + 1) c = S.1 4 c ∧ S'.1 (o + 2) c = 0) ∧ S'.1 o 4 = 0 ∧ S'.1 o 5 = 0 ∧ S'.1 o 6 = 0 := by
  obtain ⟨S1, e1, e2, e3, e4⟩ := fill_i (F := F) hF (o + 2) 0 (g_cpyI S 4 (o + 1) ((0 : Int32)).toNatClampNeg ((0 : Int32)).toNatClampNeg ((64 : Int32)).toNatClampNeg)
  refine ⟨g_setI (g_setI (g_setI S1 o 4 0) o 5 0) o 6 0, ?_, ⟨fun i k _ _ _ a b c => ?_, fun i k _ _ => ?_⟩, fun c hc => ⟨?_, ?_⟩, ?_, ?_, ?_⟩
  · unfold fX3_begin
    rw [cpyOk64]
    simp only [gl_def]
    rw [e1]
    rfl
  · rw [rI_ne _ _ (Or.inl a), rI_ne _ _ (Or.inl a), rI_ne _ _ (Or.inl a), e3 i k c, cpyI_ne b]
  · rw [rJ_I, rJ_I, rJ_I, e2]; rfl
  · rw [rI_ne _ _ (Or.inl (by omega)), rI_ne _ _ (Or.inl (by omega)), rI_ne _ _ (Or.inl (by omega)), e3 _ _ (by omega), cpyI_at hc]
  · rw [rI_ne _ _ (Or.inl (by omega)), rI_ne _ _ (Or.inl (by omega)), rI_ne _ _ (Or.inl (by omega)), e4 c hc]
  · rw [rI_ne _ _ (Or.inr (by decide)), rI_ne _ _ (Or.inr (by decide)), rI_same]
  · rw [rI_ne _ _ (Or.inr (by decide)), rI_same]
  · rw [rI_same]
def FrBg (T T' : gS) : Prop := (∀ i k, i ≠ 64 → i ≠ 65 → i ≠ 66 → (i ≠ 51 ∨ (k ≠ 21 ∧ k ≠ 22 ∧ k ≠ 23 ∧ k ≠ 24)) → T'.1 i k = T.1 i k) ∧ T'.2 = T.2
theorem begins_spec {F : Nat} {T : gS} (hF : 64 < F) : ∃ T', fX8_begins F T = some T' ∧ FrBg T T' ∧ (∀ c, c < 64 → T'.1 64 c = T.1 58 c ∧ T'.1 65 c = T.1 59 c ∧ T'.1 66 c = 0) ∧ T'.1 51 21 = 0 ∧ T'.1 51 22 = 0 ∧ T'.1 51 23 = 0 ∧ T'.1 51 24 = 0 := by
  obtain ⟨r, ⟨T', h1, h2⟩, hr⟩ := fix_up (body := fun k2 s => bX8_begins_2 F k2 s.1 s.2) 64
    (fun c s => ∃ T', s = (nI c, T') ∧ (∀ i k, i ≠ 64 → i ≠ 65 → i ≠ 66 → T'.1 i k = T.1 i k) ∧ T'.2 = T.2 ∧ ∀ x, x < c → T'.1 64 x = T.1 58 x ∧ T'.1 65 x = T.1 59 x ∧ T'.1 66 x = 0)
    (fun r => ∃ T', r = some T' ∧ FrBg T T' ∧ (∀ c, c < 64 → T'.1 64 c = T.1 58 c ∧ T'.1 65 c = T.1 59 c ∧ T'.1 66 c = 0) ∧ T'.1 51 21 = 0 ∧ T'.1 51 22 = 0 ∧ T'.1 51 23 = 0 ∧ T'.1 51 24 = 0)
    (by
      rintro c s hc ⟨T', rfl, h1, h2, h3⟩
      have c64 : ¬ ((64 : Int32) ≤ nI c) := nI_ge hc (by decide)
      refine Or.inl ⟨(nI (c + 1), g_setI (g_setI (g_setI T' 64 c (T.1 58 c)) 65 c (T.1 59 c)) 66 c 0), ⟨_, rfl, fun i k a b d => ?_, h2, fun x hx => ?_⟩, fun k => ?_⟩
      · rw [rI_ne _ _ (Or.inl d), rI_ne _ _ (Or.inl b), rI_ne _ _ (Or.inl a)]; exact h1 i k a b d
      · by_cases q : x = c
        · subst q
          refine ⟨?_, ?_, rI_same _ _ _ _⟩
          · rw [rI_ne _ _ (Or.inl (by decide)), rI_ne _ _ (Or.inl (by decide)), rI_same]
          · rw [rI_ne _ _ (Or.inl (by decide)), rI_same]
        · rw [rI_ne _ _ (Or.inr q), rI_ne _ _ (Or.inr q), rI_ne _ _ (Or.inr q), rI_ne _ _ (Or.inr q), rI_ne _ _ (Or.inr q), rI_ne _ _ (Or.inr q), rI_ne _ _ (Or.inr q), rI_ne _ _ (Or.inr q), rI_ne _ _ (Or.inr q)]
          exact h3 x (by omega)
      · show bX8_begins_2 F k (nI c) T' = _
        unfold bX8_begins_2
        rw [if_neg c64]
        simp only [gl_def, chk_nI hc (show 64 < 2 ^ 31 by decide), nI_clamp (show c < 2 ^ 31 by omega), nI_1]
        have x1 : g_I T' 58 c = T.1 58 c := h1 58 c (by decide) (by decide) (by decide)
        rw [x1]
        have x2 : g_I (g_setI T' 64 c (T.1 58 c)) 59 c = T.1 59 c := by
          show (g_setI _ _ _ _).1 _ _ = _
          rw [rI_ne _ _ (Or.inl (by decide))]; exact h1 59 c (by decide) (by decide) (by decide)
        rw [x2])
    (by
      rintro s ⟨T', rfl, h1, h2, h3⟩
      refine ⟨some (g_setI (g_setI (g_setI (g_setI T' 51 21 0) 51 22 0) 51 23 0) 51 24 0), ⟨_, rfl, ⟨fun i k a b d e => ?_, h2⟩, fun x hx => ?_, ?_, ?_, ?_, ?_⟩, fun k => ?_⟩
      · rw [rI_ne _ _ (e.imp_right (fun z => z.2.2.2)), rI_ne _ _ (e.imp_right (fun z => z.2.2.1)), rI_ne _ _ (e.imp_right (fun z => z.2.1)), rI_ne _ _ (e.imp_right (fun z => z.1))]; exact h1 i k a b d
      · have z : ∀ i, i ≠ 51 → (g_setI (g_setI (g_setI (g_setI T' 51 21 0) 51 22 0) 51 23 0) 51 24 0).1 i x = T'.1 i x := fun i hi => by
          rw [rI_ne _ _ (Or.inl hi), rI_ne _ _ (Or.inl hi), rI_ne _ _ (Or.inl hi), rI_ne _ _ (Or.inl hi)]
        rw [z 64 (by decide), z 65 (by decide), z 66 (by decide)]; exact h3 x hx
      · rw [rI_ne _ _ (Or.inr (by decide)), rI_ne _ _ (Or.inr (by decide)), rI_ne _ _ (Or.inr (by decide)), rI_same]
      · rw [rI_ne _ _ (Or.inr (by decide)), rI_ne _ _ (Or.inr (by decide)), rI_same]
      · rw [rI_ne _ _ (Or.inr (by decide)), rI_same]
      · rw [rI_same]
      · show bX8_begins_2 F k (nI 64) T' = _
        unfold bX8_begins_2
        rw [if_pos (by decide)]
        rfl)
    F ((0 : Int32), T) ⟨T, rfl, fun _ _ _ _ _ => rfl, rfl, fun x hx => by omega⟩ hF
  exact ⟨T', by rw [← h1, ← hr]; rfl, h2⟩
/-- the kinds, as the reference has read them, are the class's -/
theorem reads_rel {F : Nat} {S T : gS} (hF : 100 < F) (h : InvT S T) : ∃ T', fX8_reads F T = some (S.1 1 2, T') ∧ (∀ i k, i ≠ 57 → T'.1 i k = T.1 i k) ∧ T'.2 = T.2 ∧ ∀ c, c < 64 → T'.1 57 c = if hb (S.2 1 3) c then 1 else if hb (S.2 1 4) c then 2 else 0 := by
  obtain ⟨len, h1, h2, h3, h4, h5, h6⟩ := h
  obtain ⟨v, T', e1, e2, e3, e4, e5⟩ := reads_spec (F := F) hF h1 h3
  have hv : S.1 1 2 = v := IsFlt_u h4 h5 e2
  refine ⟨T', by rw [hv]; exact e1, e3, e4, fun c hc => ?_⟩
  rw [e5 c hc, (h6 c hc).1, (h6 c hc).2, hv]
  by_cases q : v = -1
  · rw [hv, q] at h5
    have hall := IsFlt_m1 (by omega) h5
    have hi : c + c / 8 < 71 := by omega
    obtain ⟨k1, k2⟩ := hall _ hi
    have hm : ¬ (c + c / 8) % 9 = 8 := by omega
    have hx : S.1 2 (c + c / 8) = T.1 56 (c + c / 8) := h4 _ k1
    have hne : ¬ kdV (S.1 2 (c + c / 8)) = -1 := fun z => by rw [kdV_ok (S.1 2) hm, k2] at z; cases z
    rw [if_pos q, ← hx]
    unfold kdV at hne ⊢
    by_cases q1 : S.1 2 (c + c / 8) = 46
    · simp [q, q1]
    · by_cases q2 : S.1 2 (c + c / 8) = 35
      · simp [q, q2]
      · by_cases q3 : S.1 2 (c + c / 8) = 111
        · simp [q, q3]
        · simp [q1, q2, q3] at hne
  · rw [if_neg q]; simp [q]

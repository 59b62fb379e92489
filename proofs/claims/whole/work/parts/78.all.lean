/-! the class's trying of all orders -/
def FrA (S S' : gS) : Prop := (∀ i k, i ≠ 19 → i ≠ 22 → i ≠ 23 → S'.1 i k = S.1 i k) ∧ S'.2 = S.2
def FrO (S S' : gS) : Prop := (∀ i k, (i < 12 ∨ (15 < i ∧ i < 19) ∨ i = 20 ∨ 41 < i) → S'.1 i k = S.1 i k) ∧ ∀ k, S'.2 1 k = S.2 1 k
theorem FrO.rf (S : gS) : FrO S S := ⟨fun _ _ _ => rfl, fun _ => rfl⟩
theorem FrO.tr {S0 S1 S2 : gS} (h1 : FrO S0 S1) (h2 : FrO S1 S2) : FrO S0 S2 := ⟨fun i k h => (h2.1 i k h).trans (h1.1 i k h), fun k => (h2.2 k).trans (h1.2 k)⟩
theorem FrSg.o {S S' : gS} (h : FrSg S S') : FrO S S' := ⟨fun i k hi => h.1 i k (by omega), h.2⟩
theorem Fr21.o {S S' : gS} (h : Fr21 S S') : FrO S S' := ⟨fun i k hi => h.1 i k (by omega), fun k => by rw [h.2]⟩
theorem FrA.o {S S' : gS} (h : FrA S S') : FrO S S' := ⟨fun i k hi => h.1 i k (by omega) (by omega) (by omega), fun k => by rw [h.2]⟩
theorem FrO.fc {S S' : gS} (h : FrO S S') : FC S S' := ⟨fun i k hp => h.1 i k (by unfold per at hp; omega), h.2⟩
theorem FrA.rf (S : gS) : FrA S S := ⟨fun _ _ _ _ _ => rfl, rfl⟩
theorem FrA.tr {S0 S1 S2 : gS} (h1 : FrA S0 S1) (h2 : FrA S1 S2) : FrA S0 S2 := ⟨fun i k a b c => (h2.1 i k a b c).trans (h1.1 i k a b c), h2.2.trans h1.2⟩
theorem Stg.far {F n : Nat} {Tb S S' : gS} {r : List Nat} (h : Stg F n Tb r S) (hf : ∀ i k, 24 ≤ i → S'.1 i k = S.1 i k) : Stg F n Tb r S' := fun k hk => TR_far (o := 0) (h k hk) (fun y => ⟨hf _ _ (by omega), hf _ _ (by omega), hf _ _ (by omega)⟩)
theorem chain_last {n : Nat} {r : List Nat} (h : chainOk n [r] = true) : r.length = n ∧ (∀ w, w ∈ r → w < n) ∧ plF (fl r) (n - 1) = none := by
  unfold chainOk at h
  simp only [Bool.and_eq_true, decide_eq_true_eq, List.all_eq_true, Option.isNone_iff_eq_none] at h
  exact ⟨h.1.1, h.1.2, h.2⟩
theorem chain_cons {n : Nat} {r r' : List Nat} {t : List (List Nat)} (h : chainOk n (r :: r' :: t) = true) : r.length = n ∧ (∀ w, w ∈ r → w < n) ∧ (∃ p, plF (fl r) (n - 1) = some p ∧ p < n ∧ tab n (nxtF n (fl r) p) = r' ∧ r.take p = r'.take p) ∧ chainOk n (r' :: t) = true := by
  unfold chainOk at h
  simp only [Bool.and_eq_true, decide_eq_true_eq, List.all_eq_true] at h
  obtain ⟨⟨⟨h1, h2⟩, h3⟩, h4⟩ := h
  refine ⟨h1, h2, ?_, h4⟩
  cases hp : plF (fl r) (n - 1) with
  | none => rw [hp] at h3; cases h3
  | some p =>
    rw [hp] at h3
    simp only [Bool.and_eq_true, decide_eq_true_eq, beq_iff_eq] at h3
    exact ⟨p, rfl, h3.1.1, h3.1.2, h3.2⟩
theorem fl_tab {n k : Nat} {f : Nat → Nat} (hk : k < n) : fl (tab n f) k = f k := by
  unfold fl tab
  rw [List.getD_eq_getElem?_getD, List.getElem?_map, List.getElem?_range hk]
  rfl
theorem fl_lt {n : Nat} {r : List Nat} (h1 : r.length = n) (h2 : ∀ w, w ∈ r → w < n) {k : Nat} (hk : k < n) : fl r k < n := h2 _ (fl_mem (by omega))
noncomputable def tB (F n : Nat) (act : Bool → gS → Option gS) (k : (Int32 × Int32 × Int32 × gS) → Option gS) (x4 x5 : Int32) (S : gS) : Option gS :=
  if (120 : Int32) ≤ x5 then some S else if x4 = -1 then some S else (fX2_sendFrom F x4 (nI n) S).bind (fun q => (act (decide (x5 = 0)) q).bind (fun q2 => (fX2_advance F (nI n) q2).bind (fun q1 => k (nI n, q1.1, x5 + 1, q1.2))))
def J3 (J : List (List Nat) → gS → Prop) : Prop := ∀ d S S', J d S → (∀ k, S'.1 19 k = S.1 19 k ∧ S'.1 22 k = S.1 22 k ∧ S'.1 23 k = S.1 23 k) → J d S'
def ActOk (F n : Nat) (Tb S0 : gS) (act : Bool → gS → Option gS) (J : List (List Nat) → gS → Prop) : Prop :=
  ∀ d r S, FrO S0 S → r.length = n → (∀ w, w ∈ r → w < n) → RowF n (fl r) S → Stg F n Tb r S → J d S → ∃ S', act (decide (d = [])) S = some S' ∧ J (d ++ [r]) S' ∧ FrA S S'
theorem all_one {F n ch : Nat} {Wl hid : Int64} {A B : Nat → Nat} {Tb S0 S : gS} {act : Bool → gS → Option gS} {J : List (List Nat) → gS → Prop} {d : List (List Nat)} {r : List Nat} (hF : 20000000 < F) (hn : n ≤ 5) (hTb : GdT n Wl hid A B Tb) (hAB : ∀ w, w < n → S0.1 10 w = nI (A w) ∧ S0.1 11 w = nI (B w)) (hW : S0.2 1 3 = Wl) (hH : S0.2 1 4 = hid) (hJ : J3 J) (hA : ActOk F n Tb S0 act J)
    (hr : r.length = n) (hrl : ∀ w, w ∈ r → w < n) (hd : d.length < 120) (hch : ch ≤ n) (hfr : FrO S0 S) (hR : RowF n (fl r) S) (hSt : Stg F ch Tb r S) (hJd : J d S) :
    ∃ S2, (∀ k, tB F n act k (nI ch) (nI d.length) S = (fX2_advance F (nI n) S2).bind (fun q1 => k (nI n, q1.1, nI (d.length + 1), q1.2))) ∧ J (d ++ [r]) S2 ∧ FrO S0 S2 ∧ RowF n (fl r) S2 ∧ Stg F n Tb r S2 := by
  obtain ⟨S1, e1, e2, e3⟩ := sendFrom_spec (F := F) hF hn hch hTb hr hrl hR (fun w hw => by rw [hfr.1 10 w (by omega), hfr.1 11 w (by omega)]; exact hAB w hw) ((hfr.2 3).trans hW) ((hfr.2 4).trans hH) hSt
  have hR1 : RowF n (fl r) S1 := fun k hk => by rw [e3.1 21 k (by omega)]; exact hR k hk
  have hJ1 : J d S1 := hJ d S S1 hJd (fun k => ⟨e3.1 19 k (by omega), e3.1 22 k (by omega), e3.1 23 k (by omega)⟩)
  have hf1 := hfr.tr e3.o
  obtain ⟨S2, a1, a2, a3⟩ := hA d r S1 hf1 hr hrl hR1 e2 hJ1
  refine ⟨S2, fun k => ?_, a2, hf1.tr a3.o, fun k hk => by rw [a3.1 21 k (by omega) (by omega) (by omega)]; exact hR1 k hk, e2.far (fun i k hi => a3.1 i k (by omega) (by omega) (by omega))⟩
  have hz : decide (nI d.length = 0) = decide (d = []) := by
    cases d with
    | nil => rfl
    | cons x y =>
      have h1 : ¬ nI (x :: y).length = 0 := nI_ne0 (by simp) (by omega)
      rw [decide_eq_false h1]; rfl
  unfold tB
  rw [if_neg (show ¬ ((120 : Int32) ≤ nI d.length) from nI_ge hd (by decide)), if_neg (nI_nm1 (by omega)), e1, Option.bind_some, hz, a1, Option.bind_some, nI_1]
theorem all_loop {F n : Nat} {Wl hid : Int64} {A B : Nat → Nat} {Tb S0 : gS} {act : Bool → gS → Option gS} {J : List (List Nat) → gS → Prop} {body : ((Int32 × Int32 × Int32 × gS) → Option gS) → (Int32 × Int32 × Int32 × gS) → Option gS} (hF : 20000000 < F) (hn : n ≤ 5) (hTb : GdT n Wl hid A B Tb) (hAB : ∀ w, w < n → S0.1 10 w = nI (A w) ∧ S0.1 11 w = nI (B w)) (hW : S0.2 1 3 = Wl) (hH : S0.2 1 4 = hid) (hJ : J3 J) (hA : ActOk F n Tb S0 act J)
    (hbody : ∀ k x4 x5 S, body k (nI n, x4, x5, S) = tB F n act k x4 x5 S) : ∀ (t : List (List Nat)) (r : List Nat) (d : List (List Nat)) (ch : Nat) (S : gS) (m : Nat), chainOk n (r :: t) = true → d.length + t.length < 120 → ch ≤ n → FrO S0 S → RowF n (fl r) S → Stg F ch Tb r S → J d S →
    ∃ S', g_fix body (m + t.length + 2) (nI n, nI ch, nI d.length, S) = some S' ∧ J (d ++ r :: t) S' ∧ FrO S0 S' := by
  intro t
  induction t with
  | nil =>
    intro r d ch S m hch hl hc hfr hR hSt hJd
    obtain ⟨c1, c2, c3⟩ := chain_last hch
    obtain ⟨S2, s1, s2, s3, s4, s5⟩ := all_one (F := F) hF hn hTb hAB hW hH hJ hA c1 c2 (by omega) hc hfr hR hSt hJd
    refine ⟨S2, ?_, s2, s3⟩
    have ha := (adv_spec (F := F) (f := fl r) (S := S2) (by omega) hn s4 (fun k hk => by have := fl_lt c1 c2 hk; omega)).1 c3
    show g_fix body (m + 1 + 1) _ = _
    rw [fix_s, hbody, s1, ha, Option.bind_some]
    show g_fix body (m + 1) (nI n, -1, nI (d.length + 1), S2) = _
    rw [fix_s, hbody]
    unfold tB
    rw [if_pos (rfl : (-1 : Int32) = -1)]
    split <;> rfl
  | cons r' t ih =>
    intro r d ch S m hch hl hc hfr hR hSt hJd
    obtain ⟨c1, c2, ⟨p, p1, p2, p3, p4⟩, c4⟩ := chain_cons hch
    obtain ⟨S2, s1, s2, s3, s4, s5⟩ := all_one (F := F) hF hn hTb hAB hW hH hJ hA c1 c2 (by omega) hc hfr hR hSt hJd
    obtain ⟨S3, a1, a2, a3⟩ := (adv_spec (F := F) (f := fl r) (S := S2) (by omega) hn s4 (fun k hk => by have := fl_lt c1 c2 hk; omega)).2 p p1
    obtain ⟨S', i1, i2, i3⟩ := ih r' (d ++ [r]) p S3 m c4 (by simp only [List.length_append, List.length_cons, List.length_nil] at hl ⊢; omega) (by omega) (s3.tr a3.o) (fun k hk => by rw [← p3, fl_tab hk]; exact a2 k hk) (fun k hk => by
      have e : r'.take k = r.take k := by
        have := congrArg (List.take k) p4
        rw [List.take_take, List.take_take, Nat.min_eq_left hk] at this
        exact this.symm
      rw [e]
      exact (s5.far (fun i k hi => a3.1 i k (by omega))) k (by omega)) (hJ _ _ _ s2 (fun k => ⟨a3.1 19 k (by omega), a3.1 22 k (by omega), a3.1 23 k (by omega)⟩))
    refine ⟨S', ?_, by rw [List.append_assoc] at i2; exact i2, i3⟩
    show g_fix body (m + (t.length + 1) + 1 + 1) _ = _
    rw [fix_s, hbody, s1, a1, Option.bind_some]
    rw [List.length_append] at i1
    exact i1
theorem init_loop {F n : Nat} {S : gS} {body : ((Int32 × Int32 × gS) → Option gS) → (Int32 × Int32 × gS) → Option gS} {fin : gS → Option gS} (hF : 10 < F) (hn : n ≤ 5) (hb : ∀ k x4 S, body k (nI n, x4, S) = if nI n ≤ x4 then fin S else g_chk x4 5 (gl (g_setI S 21 x4.toNatClampNeg x4) (fun S7 => gl (x4 + 1) (fun v8 => k (nI n, v8, S7))))) :
    ∃ S', g_fix body F (nI n, 0, S) = fin S' ∧ RowF n (fun k => k) S' ∧ Fr21 S S' := by
  obtain ⟨x, ⟨S', h1, h2, h3⟩, hx⟩ := fix_up (body := body) n (fun c s => ∃ S', s = (nI n, nI c, S') ∧ (∀ k, k < c → S'.1 21 k = nI k) ∧ Fr21 S S') (fun x => ∃ S', x = fin S' ∧ RowF n (fun k => k) S' ∧ Fr21 S S')
    (by
      rintro c s hc ⟨S', rfl, h1, h2⟩
      refine Or.inl ⟨(nI n, nI (c + 1), g_setI S' 21 c (nI c)), ⟨_, rfl, fun k hk => ?_, h2.tr ⟨fun i k hi => rI_ne _ _ (Or.inl hi), rfl⟩⟩, fun k => ?_⟩
      · by_cases q : k = c
        · subst q; exact rI_same _ _ _ _
        · rw [rI_ne _ _ (Or.inr q)]; exact h1 k (by omega)
      · rw [hb, if_neg (nI_ge hc (by omega)), chk_nI (show c < 5 by omega) (by decide), nI_clamp (show c < 2 ^ 31 by omega), gl_def, gl_def, nI_1])
    (by
      rintro s ⟨S', rfl, h1, h2⟩
      exact ⟨_, ⟨S', rfl, h1, h2⟩, fun k => by rw [hb, if_pos (nI_le (Nat.le_refl _) (by omega))]⟩)
    F (nI n, 0, S) ⟨S, rfl, fun k hk => by omega, Fr21.rf S⟩ (by omega)
  exact ⟨S', hx.trans h1, h2, h3⟩
theorem tryAll_gen {F n : Nat} {Wl hid : Int64} {A B : Nat → Nat} {Tb S : gS} {act : Bool → gS → Option gS} {J : List (List Nat) → gS → Prop} {f : gS → Option gS} {body : ((Int32 × Int32 × gS) → Option gS) → (Int32 × Int32 × gS) → Option gS} {body2 : ((Int32 × Int32 × Int32 × gS) → Option gS) → (Int32 × Int32 × Int32 × gS) → Option gS} (hF : 20000000 < F) (hn : n ≤ 5) (h9 : S.1 9 2 = nI n) (hTb : GdT n Wl hid A B Tb) (hAB : ∀ w, w < n → S.1 10 w = nI (A w) ∧ S.1 11 w = nI (B w)) (hW : S.2 1 3 = Wl) (hH : S.2 1 4 = hid) (hbg : ∀ S1 : gS, (∀ c, c < 64 → S1.1 25 c = S.1 4 c ∧ S1.1 26 c = 0) → S1.1 24 4 = 0 → S1.1 24 5 = 0 → S1.1 24 6 = 0 → TR 24 S1 Tb) (hJ : J3 J) (hJ0 : ∀ S1 : gS, S1.1 19 8 = 0 → S1.1 19 9 = 0 → J [] S1) (hA : ActOk F n Tb S act J)
    (hf : f S = gl (if (5 : Int32) < (g_I S 9 2) then (5 : Int32) else (g_I S 9 2)) (fun v1 : Int32 => g_fix body F (v1, (0 : Int32), S)))
    (hb : ∀ k x4 S, body k (nI n, x4, S) = if nI n ≤ x4 then (gl (g_setI S 19 8 (0 : Int32)) (fun S2 : gS => gl (g_setI S2 19 9 (0 : Int32)) (fun S3 : gS => g_chk (0 : Int32) 6 ((fX3_begin F (24 + 3 * ((0 : Int32)).toNatClampNeg) S3).bind (fun q5 : gS => g_fix body2 F (nI n, (0 : Int32), (0 : Int32), q5)))))) else g_chk x4 5 (gl (g_setI S 21 x4.toNatClampNeg x4) (fun S7 => gl (x4 + 1) (fun v8 => k (nI n, v8, S7)))))
    (hbody : ∀ k x4 x5 S, body2 k (nI n, x4, x5, S) = tB F n act k x4 x5 S) : ∃ S', f S = some S' ∧ J (rowsTo n (n ^ n)) S' ∧ FrO S S' := by
  obtain ⟨S1, e1, e2, e3⟩ := init_loop (F := F) (S := S) (by omega) hn hb
  obtain ⟨S2, b1, b2, b3, b4, b5, b6⟩ := begin_spec (F := F) (o := 24) (S := g_setI (g_setI S1 19 8 0) 19 9 0) (by omega) ⟨by decide, by decide⟩
  have z : ∀ i k, i ≠ 19 → (g_setI (g_setI S1 19 8 0) 19 9 0).1 i k = S1.1 i k := fun i k hi => by rw [rI_ne _ _ (Or.inl hi), rI_ne _ _ (Or.inl hi)]
  have f1 : FrO S1 (g_setI (g_setI S1 19 8 0) 19 9 0) := ⟨fun i k hi => z i k (by omega), fun _ => rfl⟩
  have f2 : FrO S S2 := (e3.o.tr f1).tr (b2.sg ⟨by decide, by decide⟩).o
  obtain ⟨c1, c2, c3⟩ := chain_all n (by omega)
  cases hrows : rowsTo n (n ^ n) with
  | nil => rw [hrows] at c2; cases c2
  | cons r t =>
    rw [hrows] at c1 c2 c3
    obtain rfl : r = tab n (fun k => k) := by simpa using c2
    obtain ⟨S', g1, g2, g3⟩ := all_loop (F := F) hF hn hTb hAB hW hH hJ hA hbody t _ [] 0 S2 (F - t.length - 2) c1 (by simp only [List.length_cons] at c3; simp only [List.length_nil]; omega) (Nat.zero_le _) f2 (fun k hk => by
      rw [fl_tab hk, b2.1 21 k (by decide) (by decide) (by decide) (by decide) (by decide) (by decide), z 21 k (by decide)]; exact e2 k hk) (fun k hk => by
      have : k = 0 := by omega
      subst this
      exact hbg S2 (fun c hc => ⟨(b3 c hc).1.trans ((z 4 c (by decide)).trans (e3.1 4 c (by decide))), (b3 c hc).2⟩) b4 b5 b6) (hJ0 S2 (by
        rw [b2.1 19 8 (by decide) (by decide) (by decide) (by decide) (by decide) (by decide), rI_ne _ _ (Or.inr (by decide)), rI_same]) (by
        rw [b2.1 19 9 (by decide) (by decide) (by decide) (by decide) (by decide) (by decide), rI_same]))
    refine ⟨S', ?_, g2, g3⟩
    simp only [List.length_cons] at c3
    rw [show F - t.length - 2 + t.length + 2 = F by omega] at g1
    rw [hf, gl_def, if_neg (show ¬ (5 : Int32) < g_I S 9 2 by show ¬ nI 5 < S.1 9 2; rw [h9]; exact nI_nlt hn (by decide)), show g_I S 9 2 = nI n from h9, e1, gl_def, gl_def, show (0 : Int32) = nI 0 from rfl, chk_nI (show 0 < 6 by decide) (by decide)]
    show (fX3_begin F 24 (g_setI (g_setI S1 19 8 0) 19 9 0)).bind _ = _
    rw [b1, Option.bind_some]
    exact g1

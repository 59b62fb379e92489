/-! what is kept of the orders -/
def oStep (E : List Nat → Int32) (x : Int32 × Int32 × List Nat) (r : List Nat) : Int32 × Int32 × List Nat :=
  (if x.1 = -1 then E r else if x.1 ≤ E r then x.1 else E r, if E r ≤ x.2.1 then x.2.1 else E r, if x.1 = -1 then r else if x.1 ≤ E r then x.2.2 else r)
def oF (E : List Nat → Int32) (d : List (List Nat)) : Int32 × Int32 × List Nat := d.foldl (oStep E) (-1, -1, [])
theorem oF_snoc (E : List Nat → Int32) (d : List (List Nat)) (r : List Nat) : oF E (d ++ [r]) = oStep E (oF E d) r := by unfold oF; rw [List.foldl_append]; rfl
def wStep (n : Nat) (P : List Nat → Bool) (x : Int32 × Int32 × List Nat) (r : List Nat) : Int32 × Int32 × List Nat :=
  if P r then (x.1 + 1, x.2.1 ||| (if n = 0 then 0 else (1 : Int32) <<< (nI (fl r 0) &&& 31)), if x.1 = 0 then r else x.2.2) else x
def wF (n : Nat) (P : List Nat → Bool) (d : List (List Nat)) : Int32 × Int32 × List Nat := d.foldl (wStep n P) (0, 0, [])
theorem wF_snoc (n : Nat) (P : List Nat → Bool) (d : List (List Nat)) (r : List Nat) : wF n P (d ++ [r]) = wStep n P (wF n P d) r := by unfold wF; rw [List.foldl_append]; rfl
theorem cpyOk5 {α : Type} (k : Option α) : g_cpyOk 0 0 5 5 5 k = k := if_pos (by decide)
theorem cpyI_at5 {S : gS} {i j c : Nat} (hc : c < 5) : (g_cpyI S i j ((0 : Int32)).toNatClampNeg ((0 : Int32)).toNatClampNeg ((5 : Int32)).toNatClampNeg).1 j c = S.1 i c := by
  show (if j = j then va_cpy (S.1 i) (S.1 j) _ _ _ c else _) = _
  rw [if_pos rfl]
  unfold va_cpy
  rw [if_pos ⟨Nat.zero_le _, by show c < 0 + 5; omega⟩]
  show S.1 i (0 + (c - 0)) = _
  rw [Nat.sub_zero, Nat.zero_add]
/-- weigh, whatever it finds -/
theorem weigh_any {F : Nat} {e b : Int32} {S : gS} : ∃ S', fX2_weigh F e b S = some S' ∧ FrA S S' ∧ (∀ k, S'.1 19 (k + 8) = S.1 19 (k + 8)) ∧ (∀ k, S'.1 23 k = S.1 23 k) ∧
    S'.1 19 6 = (if b = 0 then (if S.1 19 6 ≤ e then S.1 19 6 else e) else e) ∧ S'.1 19 7 = (if b = 0 then (if e ≤ S.1 19 7 then S.1 19 7 else e) else e) ∧ (∀ k, k < 5 → S'.1 22 k = (if b = 0 then (if S.1 19 6 ≤ e then S.1 22 k else S.1 21 k) else S.1 21 k)) := by
  have h31 : ∀ U : gS, ∃ S', bX2_weigh_31 F e b U = some S' ∧ (∀ i k, i ≠ 19 ∨ k ≠ 7 → S'.1 i k = U.1 i k) ∧ S'.2 = U.2 ∧ S'.1 19 7 = (if b = 0 then (if e ≤ U.1 19 7 then U.1 19 7 else e) else e) := by
    intro U
    unfold bX2_weigh_31
    by_cases q : b = 0
    · rw [if_pos q, if_pos q]
      by_cases q2 : e ≤ U.1 19 7
      · rw [if_pos (show e ≤ g_I U 19 7 from q2), if_pos q2]
        exact ⟨U, rfl, fun _ _ _ => rfl, rfl, rfl⟩
      · rw [if_neg (show ¬ e ≤ g_I U 19 7 from q2), if_neg q2]
        exact ⟨_, rfl, fun i k h => rI_ne _ _ h, rfl, rI_same _ _ _ _⟩
    · rw [if_neg q, if_neg q]
      exact ⟨_, rfl, fun i k h => rI_ne _ _ h, rfl, rI_same _ _ _ _⟩
  have h12 : ∃ S', bX2_weigh_12 F e b S = some S' ∧ FrA S S' ∧ (∀ k, S'.1 19 (k + 8) = S.1 19 (k + 8)) ∧ (∀ k, S'.1 23 k = S.1 23 k) ∧ S'.1 19 6 = e ∧ S'.1 19 7 = (if b = 0 then (if e ≤ S.1 19 7 then S.1 19 7 else e) else e) ∧ (∀ k, k < 5 → S'.1 22 k = S.1 21 k) := by
    obtain ⟨S', g1, g2, g3, g4⟩ := h31 (g_cpyI (g_setI S 19 6 e) 21 22 ((0 : Int32)).toNatClampNeg ((0 : Int32)).toNatClampNeg ((5 : Int32)).toNatClampNeg)
    have z : ∀ i k, i ≠ 22 → (i ≠ 19 ∨ k ≠ 6) → (g_cpyI (g_setI S 19 6 e) 21 22 ((0 : Int32)).toNatClampNeg ((0 : Int32)).toNatClampNeg ((5 : Int32)).toNatClampNeg).1 i k = S.1 i k := fun i k h1 h2 => by rw [cpyI_ne h1, rI_ne _ _ h2]
    refine ⟨S', ?_, ⟨fun i k a b c => ?_, ?_⟩, fun k => ?_, fun k => ?_, ?_, ?_, fun k hk => ?_⟩
    · unfold bX2_weigh_12
      rw [gl_def, cpyOk5, gl_def, g1]
    · rw [g2 i k (Or.inl a), z i k b (Or.inl a)]
    · rw [g3]; rfl
    · rw [g2 _ _ (Or.inr (by omega)), z _ _ (by decide) (Or.inr (by omega))]
    · rw [g2 _ _ (Or.inl (by decide)), z _ _ (by decide) (Or.inl (by decide))]
    · rw [g2 _ _ (Or.inr (by decide)), cpyI_ne (by decide), rI_same]
    · rw [g4, z 19 7 (by decide) (Or.inr (by decide))]
    · rw [g2 _ _ (Or.inl (by decide)), cpyI_at5 hk, rI_ne _ _ (Or.inl (by decide))]
  unfold fX2_weigh
  by_cases q : b = 0
  · simp only [if_pos q] at h12 ⊢
    by_cases q2 : S.1 19 6 ≤ e
    · rw [if_pos (show g_I S 19 6 ≤ e from q2)]
      simp only [if_pos q2]
      obtain ⟨S', g1, g2, g3, g4⟩ := h31 S
      refine ⟨S', g1, ⟨fun i k a _ _ => g2 i k (Or.inl a), g3⟩, fun k => g2 _ _ (Or.inr (by omega)), fun k => g2 _ _ (Or.inl (by decide)), g2 _ _ (Or.inr (by decide)), ?_, fun k _ => g2 _ _ (Or.inl (by decide))⟩
      rw [g4, if_pos q]
    · rw [if_neg (show ¬ g_I S 19 6 ≤ e from q2)]
      simp only [if_neg q2]
      exact h12
  · simp only [if_neg q] at h12 ⊢
    exact h12
theorem keep_any {F n : Nat} {S : gS} (hn : n ≤ 5) : ∃ S', fX2_keepAlike F (nI n) S = some S' ∧ FrA S S' ∧ S'.1 19 8 = S.1 19 8 + 1 ∧ S'.1 19 9 = S.1 19 9 ||| (if n = 0 then 0 else (1 : Int32) <<< (S.1 21 0 &&& 31)) ∧ ∀ k, k < 5 → S'.1 23 k = if S.1 19 8 = 0 then S.1 21 k else S.1 23 k := by
  have h21 : ∀ U : gS, ∃ S', bX2_keepAlike_21 F (nI n) U = some S' ∧ (∀ i k, i ≠ 19 ∨ (k ≠ 8 ∧ k ≠ 9) → S'.1 i k = U.1 i k) ∧ S'.2 = U.2 ∧ S'.1 19 8 = U.1 19 8 + 1 ∧ S'.1 19 9 = U.1 19 9 ||| (if n = 0 then 0 else (1 : Int32) <<< (U.1 21 0 &&& 31)) := by
    intro U
    unfold bX2_keepAlike_21
    rw [gl_def]
    by_cases q : n = 0
    · subst q
      rw [if_pos (by decide), if_pos rfl]
      refine ⟨_, rfl, fun i k h => rI_ne _ _ (h.imp_right (fun z => z.1)), rfl, rI_same _ _ _ _, ?_⟩
      rw [rI_ne _ _ (Or.inr (by decide))]
      simp
    · rw [if_neg (nI_nle (by omega) (by omega)), if_neg q, show (0 : Int32) = nI 0 from rfl, chk_nI (show 0 < 5 by decide) (by decide), gl_def]
      refine ⟨_, rfl, fun i k h => ?_, rfl, ?_, ?_⟩
      · rw [rI_ne _ _ (h.imp_right (fun z => z.2)), rI_ne _ _ (h.imp_right (fun z => z.1))]
      · rw [rI_ne _ _ (Or.inr (by decide)), rI_same]
      · rw [rI_same]
        show (g_setI U 19 8 _).1 19 9 ||| (1 : Int32) <<< ((g_setI U 19 8 _).1 21 0 &&& 31) = _
        rw [rI_ne _ _ (Or.inr (by decide)), rI_ne _ _ (Or.inl (by decide))]
  unfold fX2_keepAlike
  by_cases q : S.1 19 8 = 0
  · rw [if_pos (show g_I S 19 8 = 0 from q), cpyOk5, gl_def]
    obtain ⟨S', g1, g2, g3, g4, g5⟩ := h21 (g_cpyI S 21 23 ((0 : Int32)).toNatClampNeg ((0 : Int32)).toNatClampNeg ((5 : Int32)).toNatClampNeg)
    refine ⟨S', g1, ⟨fun i k a b c => ?_, by rw [g3]; rfl⟩, ?_, ?_, fun k hk => ?_⟩
    · rw [g2 i k (Or.inl a), cpyI_ne c]
    · rw [g4, cpyI_ne (by decide)]
    · rw [g5, cpyI_ne (by decide), cpyI_ne (by decide)]
    · rw [g2 _ _ (Or.inl (by decide)), cpyI_at5 hk, if_pos q]
  · rw [if_neg (show ¬ g_I S 19 8 = 0 from q)]
    obtain ⟨S', g1, g2, g3, g4, g5⟩ := h21 S
    refine ⟨S', g1, ⟨fun i k a b c => g2 i k (Or.inl a), g3⟩, g4, g5, fun k hk => ?_⟩
    rw [g2 _ _ (Or.inl (by decide)), if_neg q]
noncomputable def Ef (F : Nat) (Tb : gS) (r : List Nat) : Int32 := (RT F Tb r).1 51 21
noncomputable def Pf (F : Nat) (Tb : gS) (X : Nat → Int32) (sz : Nat) (r : List Nat) : Bool := decide (∀ i, i < sz → X i = (RT F Tb r).1 66 i)
theorem take_all {r : List Nat} {n : Nat} (h : r.length = n) : r.take n = r := List.take_of_length_le (by omega)
theorem Ef_nat {F n : Nat} {Wl hid : Int64} {A B : Nat → Nat} {Tb : gS} {r : List Nat} (hF : 20000000 < F) (hn : n ≤ 5) (hTb : GdT n Wl hid A B Tb) (hb : Bd 0 Tb) (hr : r.length = n) (hrl : ∀ w, w ∈ r → w < n) : ∃ e, e < 2 ^ 31 ∧ Ef F Tb r = nI e := by
  obtain ⟨-, -, k⟩ := RT_ok (F := F) hF (show n ≤ 8 by omega) r Tb hTb hrl
  obtain ⟨e, e1, e2⟩ := (k.2 0 hb).2
  exact ⟨e, by rw [hr] at e1; omega, e2⟩
/-- orders: what the class keeps -/
def Jn (E : List Nat → Int32) (n : Nat) (d : List (List Nat)) (S : gS) : Prop := d ≠ [] → ¬ (oF E d).1 = -1 ∧ S.1 19 6 = (oF E d).1 ∧ S.1 19 7 = (oF E d).2.1 ∧ ∀ k, k < n → S.1 22 k = nI (fl (oF E d).2.2 k)
theorem Jn3 (E : List Nat → Int32) (n : Nat) : J3 (Jn E n) := fun d S S' h hk hd => by
  obtain ⟨a, b, c, e⟩ := h hd
  exact ⟨a, by rw [(hk 6).1]; exact b, by rw [(hk 7).1]; exact c, fun k hk2 => by rw [(hk k).2.1]; exact e k hk2⟩
noncomputable def actN (F n : Nat) (b : Bool) (q : gS) : Option gS := fX2_weigh F (g_I q (24 + 3 * n) 4) (if b then 1 else 0) q
theorem actN_ok {F n : Nat} {Wl hid : Int64} {A B : Nat → Nat} {Tb S0 : gS} (hF : 20000000 < F) (hn : n ≤ 5) (hTb : GdT n Wl hid A B Tb) (hb : Bd 0 Tb) : ActOk F n Tb S0 (actN F n) (Jn (Ef F Tb) n) := by
  intro d r S _ hr hrl hR hSt hJ
  have hE : S.1 (24 + 3 * n) 4 = Ef F Tb r := by
    have := (hSt n (Nat.le_refl _)).2.1
    rw [take_all hr] at this
    exact this
  obtain ⟨e, e1, e2⟩ := Ef_nat (F := F) hF hn hTb hb hr hrl
  have hm1 : ¬ Ef F Tb r = -1 := by rw [e2]; exact nI_nm1 e1
  have hm2 : ¬ Ef F Tb r ≤ -1 := by
    rw [e2, Int32.le_iff_toInt_le, nI_toInt e1]
    have : (-1 : Int32).toInt = -1 := by decide
    rw [this]; omega
  obtain ⟨S', g1, g2, g3, g4, g5, g6, g7⟩ := weigh_any (F := F) (e := Ef F Tb r) (b := if decide (d = []) then 1 else 0) (S := S)
  refine ⟨S', ?_, fun _ => ?_, g2⟩
  · unfold actN
    rw [show g_I S (24 + 3 * n) 4 = Ef F Tb r from hE]; exact g1
  · rw [oF_snoc]
    unfold oStep
    cases d with
    | nil =>
      have c : (if decide (([] : List (List Nat)) = []) = true then (1 : Int32) else 0) = 1 := by simp
      rw [c] at g5 g6 g7
      rw [if_neg (by decide)] at g5 g6
      have h0 : oF (Ef F Tb) [] = (-1, -1, []) := rfl
      rw [h0]
      simp only [if_true]
      refine ⟨hm1, g5, ?_, fun k hk => ?_⟩
      · rw [g6, if_neg hm2]
      · rw [g7 k (by omega), if_neg (by decide)]; exact hR k hk
    | cons x y =>
      have c : (if decide ((x :: y : List (List Nat)) = []) = true then (1 : Int32) else 0) = 0 := by simp
      rw [c] at g5 g6 g7
      rw [if_pos rfl] at g5 g6
      obtain ⟨j1, j2, j3, j4⟩ := hJ (by simp)
      rw [j2] at g5
      rw [j3] at g6
      rw [if_neg j1, if_neg j1]
      refine ⟨?_, g5, g6, fun k hk => ?_⟩
      · split
        · exact j1
        · exact hm1
      · rw [g7 k (by omega), if_pos rfl, j2]
        by_cases q : (oF (Ef F Tb) (x :: y)).1 ≤ Ef F Tb r
        · simp only [if_pos q]; exact j4 k hk
        · simp only [if_neg q]; exact hR k hk
theorem tryAll_n {F n : Nat} {Wl hid : Int64} {A B : Nat → Nat} {Tb S : gS} (hF : 20000000 < F) (hn : n ≤ 5) (h9 : S.1 9 2 = nI n) (hTb : GdT n Wl hid A B Tb) (hb : Bd 0 Tb) (hAB : ∀ w, w < n → S.1 10 w = nI (A w) ∧ S.1 11 w = nI (B w)) (hW : S.2 1 3 = Wl) (hH : S.2 1 4 = hid) (hbg : ∀ S1 : gS, (∀ c, c < 64 → S1.1 25 c = S.1 4 c ∧ S1.1 26 c = 0) → S1.1 24 4 = 0 → S1.1 24 5 = 0 → S1.1 24 6 = 0 → TR 24 S1 Tb) :
    ∃ S', fX2_tryAll_n F S = some S' ∧ Jn (Ef F Tb) n (rowsTo n (n ^ n)) S' ∧ FrO S S' := by
  refine tryAll_gen (f := fX2_tryAll_n F) (body := fun k15 s => bX2_tryAll_n_15 F k15 s.1 s.2.1 s.2.2) (body2 := fun k62 s => bX2_tryAll_n_62 F k62 s.1 s.2.1 s.2.2.1 s.2.2.2) hF hn h9 hTb hAB hW hH hbg (Jn3 _ _) (fun S1 _ _ h => absurd rfl h) (actN_ok hF hn hTb hb) rfl (fun k x4 S => rfl) (fun k x4 x5 U => ?_)
  show bX2_tryAll_n_62 F k (nI n) x4 x5 U = _
  unfold bX2_tryAll_n_62 tB
  congr 1; congr 1
  congr 1; funext q
  rw [chk_nI (show n < 6 by omega) (by decide), nI_clamp (show n < 2 ^ 31 by omega)]
  unfold bX2_tryAll_n_102 bX2_tryAll_n_130 actN
  by_cases q0 : x5 = 0
  · rw [if_pos q0]; simp only [q0, decide_true, if_true]; rfl
  · rw [if_neg q0]; simp only [q0, decide_false]; rfl
/-- towers: what the class keeps -/
def Js (n : Nat) (P : List Nat → Bool) (d : List (List Nat)) (S : gS) : Prop := S.1 19 8 = (wF n P d).1 ∧ S.1 19 9 = (wF n P d).2.1 ∧ (¬ (wF n P d).1 = 0 → ∀ k, k < n → S.1 23 k = nI (fl (wF n P d).2.2 k))
theorem Js3 (n : Nat) (P : List Nat → Bool) : J3 (Js n P) := fun d S S' h hk => by
  obtain ⟨a, b, c⟩ := h
  exact ⟨by rw [(hk 8).1]; exact a, by rw [(hk 9).1]; exact b, fun z k hk2 => by rw [(hk k).2.2]; exact c z k hk2⟩
noncomputable def actS (F n sh : Nat) (b : Bool) (q : gS) : Option gS := (fX2_weigh F (g_I q (24 + 3 * n) 4) (if b then 1 else 0) q).bind (fun q1 => (fX5_shows F sh (24 + 3 * n + 2) q1).bind (fun q3 => if q3.1 = 0 then some q3.2 else fX2_keepAlike F (nI n) q3.2))
theorem actS_ok {F n s sz : Nat} {Tb S0 : gS} {X : Nat → Int32} (hF : 100 < F) (hn : n ≤ 5) (hs : s < 4) (hsz : sz ≤ 64) (h2 : S0.1 (43 + 2 * s) 2 = nI sz) (hX : ∀ i, i < sz → S0.1 (44 + 2 * s) i = X i) : ActOk F n Tb S0 (actS F n (43 + 2 * s)) (Js n (Pf F Tb X sz)) := by
  intro d r S hfr hr hrl hR hSt hJ
  obtain ⟨S1, g1, g2, g3, g4, -⟩ := weigh_any (F := F) (e := S.1 (24 + 3 * n) 4) (b := if decide (d = []) then 1 else 0) (S := S)
  have hfr1 := hfr.tr g2.o
  obtain ⟨v, v1, v2⟩ := shows_spec (F := F) (o := 43 + 2 * s) (ar := 24 + 3 * n + 2) (S := S1) hF hsz ((hfr1.1 _ 2 (by omega)).trans h2)
  have hcm : ∀ i, i < sz → S1.1 (24 + 3 * n + 2) i = (RT F Tb r).1 66 i := fun i hi => by
    have := ((hSt n (Nat.le_refl _)).1 i (by omega)).2.1
    rw [take_all hr] at this
    rw [g2.1 _ _ (by omega) (by omega) (by omega)]; exact this
  have hP : PicV X ((RT F Tb r).1 66) sz (if Pf F Tb X sz r then 1 else 0) := by
    unfold Pf
    by_cases q : ∀ i, i < sz → X i = (RT F Tb r).1 66 i
    · exact Or.inl ⟨by rw [if_pos (decide_eq_true q)], q⟩
    · exact Or.inr ⟨by rw [if_neg (by simpa using q)], q⟩
  have hv : v = if Pf F Tb X sz r then 1 else 0 := PicV_u v2 hP (fun i hi => (hfr1.1 _ i (by omega)).trans (by rw [show 43 + 2 * s + 1 = 44 + 2 * s by omega]; exact hX i hi)) hcm
  have e1 : S1.1 19 8 = S.1 19 8 := g3 0
  have e2 : S1.1 19 9 = S.1 19 9 := g3 1
  have hact : actS F n (43 + 2 * s) (decide (d = [])) S = if v = 0 then some S1 else fX2_keepAlike F (nI n) S1 := by
    unfold actS
    rw [show g_I S (24 + 3 * n) 4 = S.1 (24 + 3 * n) 4 from rfl, g1, Option.bind_some, v1, Option.bind_some]
  rw [hact]
  obtain ⟨j1, j2, j3⟩ := hJ
  by_cases q : Pf F Tb X sz r = true
  · rw [if_pos q] at hv
    rw [if_neg (by rw [hv]; decide)]
    obtain ⟨S', k1, k2, k3, k4, k5⟩ := keep_any (F := F) (n := n) (S := S1) hn
    refine ⟨S', k1, ?_, g2.tr k2⟩
    unfold Js
    rw [wF_snoc]
    unfold wStep
    rw [if_pos q]
    refine ⟨?_, ?_, fun _ k hk => ?_⟩
    · show _ = (wF n (Pf F Tb X sz) d).1 + 1
      rw [k3, e1, j1]
    · rw [k4, e2, j2]
      by_cases q0 : n = 0
      · rw [if_pos q0, if_pos q0]
      · rw [if_neg q0, if_neg q0, g2.1 21 0 (by decide) (by decide) (by decide), hR 0 (by omega)]
    · rw [k5 k (by omega), e1, j1]
      show _ = nI (fl (if (wF n (Pf F Tb X sz) d).1 = 0 then r else (wF n (Pf F Tb X sz) d).2.2) k)
      by_cases q0 : (wF n (Pf F Tb X sz) d).1 = 0
      · rw [if_pos q0, if_pos q0, g2.1 21 k (by decide) (by decide) (by decide)]; exact hR k hk
      · rw [if_neg q0, if_neg q0, g4]; exact j3 q0 k hk
  · rw [if_neg q] at hv
    rw [if_pos hv]
    refine ⟨S1, rfl, ?_, g2⟩
    unfold Js
    rw [wF_snoc]
    unfold wStep
    rw [if_neg q]
    exact ⟨e1.trans j1, e2.trans j2, fun z k hk => by rw [g4]; exact j3 z k hk⟩
theorem tryAll_s {F n s sz : Nat} {Wl hid : Int64} {A B : Nat → Nat} {Tb S : gS} {X : Nat → Int32} (hF : 20000000 < F) (hn : n ≤ 5) (h9 : S.1 9 2 = nI n) (hTb : GdT n Wl hid A B Tb) (hAB : ∀ w, w < n → S.1 10 w = nI (A w) ∧ S.1 11 w = nI (B w)) (hW : S.2 1 3 = Wl) (hH : S.2 1 4 = hid) (hbg : ∀ S1 : gS, (∀ c, c < 64 → S1.1 25 c = S.1 4 c ∧ S1.1 26 c = 0) → S1.1 24 4 = 0 → S1.1 24 5 = 0 → S1.1 24 6 = 0 → TR 24 S1 Tb) (hs : s < 4) (hsz : sz ≤ 64) (h2 : S.1 (43 + 2 * s) 2 = nI sz) (hX : ∀ i, i < sz → S.1 (44 + 2 * s) i = X i) :
    ∃ S', fX2_tryAll_s F (43 + 2 * s) S = some S' ∧ Js n (Pf F Tb X sz) (rowsTo n (n ^ n)) S' ∧ FrO S S' := by
  refine tryAll_gen (f := fX2_tryAll_s F (43 + 2 * s)) (body := fun k15 t => bX2_tryAll_s_15 F (43 + 2 * s) k15 t.1 t.2.1 t.2.2) (body2 := fun k62 t => bX2_tryAll_s_62 F (43 + 2 * s) k62 t.1 t.2.1 t.2.2.1 t.2.2.2) hF hn h9 hTb hAB hW hH hbg (Js3 _ _) (fun S1 a b => ⟨a, b, fun h => absurd rfl h⟩) (actS_ok (by omega) hn hs hsz h2 hX) rfl (fun k x4 S => rfl) (fun k x4 x5 U => ?_)
  show bX2_tryAll_s_62 F (43 + 2 * s) k (nI n) x4 x5 U = _
  unfold bX2_tryAll_s_62 tB
  congr 1; congr 1
  congr 1; funext q
  rw [chk_nI (show n < 6 by omega) (by decide), nI_clamp (show n < 2 ^ 31 by omega)]
  have hh : ∀ (t0 t1 : Int32) (V : gS), bX2_tryAll_s_102 F (43 + 2 * s) k (nI n) x5 t0 t1 V = ((fX2_weigh F t1 t0 V).bind (fun q1 => (fX5_shows F (43 + 2 * s) (24 + 3 * n + 2) q1).bind (fun q3 => if q3.1 = 0 then some q3.2 else fX2_keepAlike F (nI n) q3.2))).bind (fun q2 => (fX2_advance F (nI n) q2).bind (fun q1 => k (nI n, q1.1, x5 + 1, q1.2))) := by
    intro t0 t1 V
    unfold bX2_tryAll_s_102
    rw [Option.bind_assoc]
    congr 1; funext q1
    rw [chk_nI (show n < 6 by omega) (by decide), nI_clamp (show n < 2 ^ 31 by omega), Option.bind_assoc]
    congr 1; funext q3
    by_cases q0 : q3.1 = 0
    · rw [if_pos q0, if_pos q0]; rfl
    · rw [if_neg q0, if_neg q0]; rfl
  rw [hh, hh]
  unfold actS
  by_cases q0 : x5 = 0
  · rw [if_pos q0]; simp only [q0, decide_true, if_true]
  · rw [if_neg q0]; simp only [q0, decide_false]; rfl

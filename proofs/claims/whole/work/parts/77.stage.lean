/-! walks from like beginnings end alike -/
def GdT (nW : Nat) (Wl hid : Int64) (A B : Nat → Nat) (T : gS) : Prop := KRel Wl hid T ∧ (∀ w, w < nW → A w < 64 ∧ B w < 64 ∧ T.1 62 w = nI (A w) ∧ T.1 63 w = nI (B w)) ∧ (∀ c, c < 64 → ∃ w, w ≤ 30 ∧ T.1 64 c = nI w)
def CT (T1 T2 : gS) : Prop := (∀ c, c < 64 → T1.1 64 c = T2.1 64 c ∧ T1.1 66 c = T2.1 66 c) ∧ T1.1 51 21 = T2.1 51 21 ∧ T1.1 51 22 = T2.1 51 22 ∧ T1.1 51 23 = T2.1 51 23
theorem TR_CT {o : Nat} {S T1 T2 : gS} (h : TR o S T1) (hc : CT T1 T2) : TR o S T2 := by
  obtain ⟨a, b, c, d⟩ := h
  obtain ⟨e, f, g, i⟩ := hc
  refine ⟨fun x hx => ?_, by rw [b, f], by rw [c, g], by rw [d, i]⟩
  rw [← (e x hx).1, ← (e x hx).2]; exact a x hx
theorem CT_TR {o : Nat} {S T1 T2 : gS} (h1 : TR o S T1) (h2 : TR o S T2) : CT T1 T2 := by
  obtain ⟨a, b, c, d⟩ := h1
  obtain ⟨e, f, g, i⟩ := h2
  exact ⟨fun x hx => ⟨(a x hx).1.symm.trans (e x hx).1, (a x hx).2.1.symm.trans (e x hx).2.1⟩, b.symm.trans f, c.symm.trans g, d.symm.trans i⟩
noncomputable def mkS (Wl : Int64) (T : gS) : gS := (fun i k => if i = 17 then T.1 64 k else if i = 18 then T.1 66 k else if k = 4 then T.1 51 21 else if k = 5 then T.1 51 22 else T.1 51 23, fun _ _ => Wl)
theorem mkS_TR {Wl : Int64} {T : gS} (h : ∀ c, c < 64 → ∃ w, w ≤ 30 ∧ T.1 64 c = nI w) : TR 16 (mkS Wl T) T := ⟨fun c hc => ⟨rfl, rfl, h c hc⟩, rfl, rfl, rfl⟩
theorem GdT.fr {nW : Nat} {Wl hid : Int64} {A B : Nat → Nat} {T T' : gS} (h : GdT nW Wl hid A B T) (hf : FrW2 T T') (hb : ∀ c, c < 64 → ∃ w, w ≤ 30 ∧ T'.1 64 c = nI w) : GdT nW Wl hid A B T' := by
  refine ⟨h.1.fr2 hf, fun w hw => ?_, hb⟩
  rw [hf.1 62 w (by decide) (by decide) (by decide) (by decide) (by decide) (by decide) (Or.inl (by decide)), hf.1 63 w (by decide) (by decide) (by decide) (by decide) (by decide) (by decide) (Or.inl (by decide))]
  exact h.2.1 w hw
theorem go_stage {F o nW w : Nat} {Wl hid : Int64} {A B : Nat → Nat} {S T : gS} (hF : 20000000 < F) (ho : 16 ≤ o ∧ o ≤ 39) (hn : nW ≤ 8) (hw : w < nW) (hT : GdT nW Wl hid A B T) (hS : S.2 1 3 = Wl) (hTR : TR o S T) : ∃ ok S' T', fX3_go F o (nI (A w)) (nI (B w)) hid S = some (ok, S') ∧ fX8_walks F (nI w) T = some T' ∧ TR o S' T' ∧ FrGo o S S' ∧ GdT nW Wl hid A B T' ∧ FrW2 T T' ∧ Kp 4160 T T' := by
  obtain ⟨a1, a2, a3, a4⟩ := hT.2.1 w hw
  obtain ⟨ok, v, S', T', -, k2, k3, -, -, k6, k7, k8, k9⟩ := walk_rel (F := F) (o := o) (wi := w) hF ho (by omega) a1 a2 hS hT.1 a3 a4 hTR
  exact ⟨ok, S', T', k2, k3, k6, k7, hT.fr k8 (fun c hc => (k6.1 c hc).2.2), k8, k9⟩
theorem walks_det {F nW w : Nat} {Wl hid : Int64} {A B : Nat → Nat} {T1 T2 T1' T2' : gS} (hF : 20000000 < F) (hn : nW ≤ 8) (hw : w < nW) (h1 : GdT nW Wl hid A B T1) (h2 : GdT nW Wl hid A B T2) (hc : CT T1 T2) (e1 : fX8_walks F (nI w) T1 = some T1') (e2 : fX8_walks F (nI w) T2 = some T2') : CT T1' T2' := by
  have t1 := mkS_TR (Wl := Wl) h1.2.2
  obtain ⟨ok, S', U1, g1, g2, g3, -⟩ := go_stage (F := F) hF ⟨by decide, by decide⟩ hn hw h1 rfl t1
  obtain ⟨ok', S'', U2, k1, k2, k3, -⟩ := go_stage (F := F) hF ⟨by decide, by decide⟩ hn hw h2 rfl (TR_CT t1 hc)
  rw [g1] at k1
  obtain ⟨rfl, rfl⟩ := Prod.mk.inj (Option.some.inj k1)
  rw [e1] at g2
  rw [e2] at k2
  obtain rfl := Option.some.inj g2
  obtain rfl := Option.some.inj k2
  exact CT_TR g3 k3
noncomputable def RT (F : Nat) (Tb : gS) (l : List Nat) : gS := l.foldl (fun T w => (fX8_walks F (nI w) T).getD T) Tb
theorem RT_ok {F nW : Nat} {Wl hid : Int64} {A B : Nat → Nat} (hF : 20000000 < F) (hn : nW ≤ 8) : ∀ (l : List Nat) (Tb : gS), GdT nW Wl hid A B Tb → (∀ w, w ∈ l → w < nW) → GdT nW Wl hid A B (RT F Tb l) ∧ FrW2 Tb (RT F Tb l) ∧ Kp (4160 * l.length) Tb (RT F Tb l) := by
  intro l
  induction l with
  | nil => intro Tb h _; exact ⟨h, FrW2.rf Tb, (Kp.rf Tb).le (Nat.zero_le _)⟩
  | cons w l ih =>
    intro Tb h hl
    obtain ⟨ok, S', T', g1, g2, g3, g4, g5, g6, g7⟩ := go_stage (F := F) (S := mkS Wl Tb) hF ⟨by decide, by decide⟩ hn (hl w List.mem_cons_self) h rfl (mkS_TR h.2.2)
    obtain ⟨i1, i2, i3⟩ := ih T' g5 (fun x hx => hl x (List.mem_cons_of_mem _ hx))
    have e : RT F Tb (w :: l) = RT F T' l := by
      show l.foldl _ ((fX8_walks F (nI w) Tb).getD Tb) = _
      rw [g2]; rfl
    rw [e]
    exact ⟨i1, g6.tr i2, g7.tr i3 (by simp only [List.length_cons]; omega)⟩
theorem RT_step {F nW w : Nat} {Wl hid : Int64} {A B : Nat → Nat} {Tb : gS} {l : List Nat} (hF : 20000000 < F) (hn : nW ≤ 8) (h : GdT nW Wl hid A B Tb) (hl : ∀ w, w ∈ l → w < nW) (hw : w < nW) : fX8_walks F (nI w) (RT F Tb l) = some (RT F Tb (l ++ [w])) := by
  obtain ⟨i1, -⟩ := RT_ok (F := F) hF hn l Tb h hl
  obtain ⟨ok, S', T', g1, g2, -⟩ := go_stage (F := F) (S := mkS Wl (RT F Tb l)) hF ⟨by decide, by decide⟩ hn hw i1 rfl (mkS_TR i1.2.2)
  rw [g2]
  unfold RT at g2 ⊢
  rw [List.foldl_append]
  show some T' = some ((fX8_walks F (nI w) _).getD _)
  rw [g2]; rfl
/-! the class's stages -/
def Fr3 (o : Nat) (S S' : gS) : Prop := (∀ i k, i ≠ o → i ≠ o + 1 → i ≠ o + 2 → S'.1 i k = S.1 i k) ∧ S'.2 = S.2
noncomputable def asC (o oo : Nat) (S : gS) : gS := g_cpyI (g_cpyI S (oo + 1) (o + 1) ((0 : Int32)).toNatClampNeg ((0 : Int32)).toNatClampNeg ((64 : Int32)).toNatClampNeg) (oo + 2) (o + 2) ((0 : Int32)).toNatClampNeg ((0 : Int32)).toNatClampNeg ((64 : Int32)).toNatClampNeg
theorem as_spec {F o oo : Nat} {S : gS} (h : oo + 3 ≤ o) : ∃ S', fX3_beginAs F o oo S = some S' ∧ Fr3 o S S' ∧ ∀ T, TR oo S T → TR o S' T := by
  refine ⟨g_setI (g_setI (g_setI (asC o oo S) o 4 (g_I (asC o oo S) oo 4)) o 5 (g_I (g_setI (asC o oo S) o 4 (g_I (asC o oo S) oo 4)) oo 5)) o 6 (g_I (g_setI (g_setI (asC o oo S) o 4 (g_I (asC o oo S) oo 4)) o 5 (g_I (g_setI (asC o oo S) o 4 (g_I (asC o oo S) oo 4)) oo 5)) oo 6), ?_, ?_, ?_⟩
  · unfold fX3_beginAs
    rw [cpyOk64, gl_def, cpyOk64, gl_def, gl_def, gl_def, gl_def]
    rfl
  · refine ⟨fun i k a b c => ?_, rfl⟩
    rw [rI_ne _ _ (Or.inl a), rI_ne _ _ (Or.inl a), rI_ne _ _ (Or.inl a)]
    unfold asC
    rw [cpyI_ne c, cpyI_ne b]
  · intro T hT
    obtain ⟨h1, h2, h3, h4⟩ := hT
    have z : ∀ k, (asC o oo S).1 oo k = S.1 oo k := fun k => by unfold asC; rw [cpyI_ne (by omega), cpyI_ne (by omega)]
    refine ⟨fun c hc => ?_, ?_, ?_, ?_⟩
    · obtain ⟨a, b, d⟩ := h1 c hc
      refine ⟨?_, ?_, d⟩
      · rw [rI_ne _ _ (by omega), rI_ne _ _ (by omega), rI_ne _ _ (by omega)]
        unfold asC
        rw [cpyI_ne (by omega), cpyI_at hc, a]
      · rw [rI_ne _ _ (by omega), rI_ne _ _ (by omega), rI_ne _ _ (by omega)]
        unfold asC
        rw [cpyI_at hc, cpyI_ne (by omega), b]
    · rw [rI_ne _ _ (by omega), rI_ne _ _ (by omega), rI_same]
      show (asC o oo S).1 oo 4 = _
      rw [z, h2]
    · rw [rI_ne _ _ (by omega), rI_same]
      show (g_setI _ _ _ _).1 oo 5 = _
      rw [rI_ne _ _ (by omega), z, h3]
    · rw [rI_same]
      show (g_setI _ _ _ _).1 oo 6 = _
      rw [rI_ne _ _ (by omega), rI_ne _ _ (by omega), z, h4]
def FrSg (S S' : gS) : Prop := (∀ i k, (i < 12 ∨ (15 < i ∧ i < 24) ∨ 41 < i) → S'.1 i k = S.1 i k) ∧ ∀ k, S'.2 1 k = S.2 1 k
theorem FrSg.rf (S : gS) : FrSg S S := ⟨fun _ _ _ => rfl, fun _ => rfl⟩
theorem FrSg.tr {S0 S1 S2 : gS} (h1 : FrSg S0 S1) (h2 : FrSg S1 S2) : FrSg S0 S2 := ⟨fun i k h => (h2.1 i k h).trans (h1.1 i k h), fun k => (h2.2 k).trans (h1.2 k)⟩
theorem FrGo.sg {o : Nat} {S S' : gS} (ho : 24 ≤ o ∧ o ≤ 39) (h : FrGo o S S') : FrSg S S' := ⟨fun i k hi => h.1 i k (by omega) (by omega) (by omega) (by omega) (by omega) (by omega), fun k => h.2 1 k (by decide) (by decide)⟩
theorem Fr3.sg {o : Nat} {S S' : gS} (ho : 24 ≤ o ∧ o ≤ 39) (h : Fr3 o S S') : FrSg S S' := ⟨fun i k hi => h.1 i k (by omega) (by omega) (by omega), fun k => by rw [h.2]⟩
theorem TR_far {o o' : Nat} {S S' T : gS} (h : TR o' S T) (he : ∀ k, S'.1 o' k = S.1 o' k ∧ S'.1 (o' + 1) k = S.1 (o' + 1) k ∧ S'.1 (o' + 2) k = S.1 (o' + 2) k) : TR o' S' T := by
  obtain ⟨a, b, c, d⟩ := h
  refine ⟨fun x hx => ?_, ?_, ?_, ?_⟩
  · rw [(he x).2.1, (he x).2.2]; exact a x hx
  · rw [(he 4).1]; exact b
  · rw [(he 5).1]; exact c
  · rw [(he 6).1]; exact d
theorem take_snoc {r : List Nat} {k : Nat} (hk : k < r.length) : r.take (k + 1) = r.take k ++ [fl r k] := by
  rw [List.take_succ_eq_append_getElem hk]
  congr 2
  unfold fl
  rw [List.getD_eq_getElem?_getD, List.getElem?_eq_getElem hk]
  rfl
theorem fl_mem {r : List Nat} {k : Nat} (hk : k < r.length) : fl r k ∈ r := by
  unfold fl
  rw [List.getD_eq_getElem?_getD, List.getElem?_eq_getElem hk]
  exact List.getElem_mem hk
def Stg (F n : Nat) (Tb : gS) (r : List Nat) (S : gS) : Prop := ∀ k, k ≤ n → TR (24 + 3 * k) S (RT F Tb (r.take k))
theorem send_spec {F n : Nat} {Wl hid : Int64} {A B : Nat → Nat} {Tb : gS} {r : List Nat} (hF : 20000000 < F) (hn : n ≤ 5) (hTb : GdT n Wl hid A B Tb) (hr : r.length = n) (hrl : ∀ w, w ∈ r → w < n) : ∀ (j k : Nat) (S : gS) (m : Nat), k + j = n → RowF n (fl r) S → (∀ w, w < n → S.1 10 w = nI (A w) ∧ S.1 11 w = nI (B w)) → S.2 1 3 = Wl → S.2 1 4 = hid → Stg F k Tb r S →
    ∃ S', g_fix (fun k2 s => bX2_sendFrom_2 F k2 s.1 s.2.1 s.2.2) (m + j + 1) (nI n, nI k, S) = some S' ∧ Stg F n Tb r S' ∧ FrSg S S' := by
  intro j
  induction j with
  | zero =>
    intro k S m hk hR hAB hW hH hSt
    have : k = n := by omega
    subst this
    refine ⟨S, ?_, hSt, FrSg.rf S⟩
    rw [fix_s]
    show bX2_sendFrom_2 F _ (nI k) (nI k) S = _
    unfold bX2_sendFrom_2
    rw [if_pos (nI_le (Nat.le_refl _) (by omega))]
  | succ j ih =>
    intro k S m hk hR hAB hW hH hSt
    have hkr : k < r.length := by omega
    have hw : fl r k < n := hrl _ (fl_mem hkr)
    obtain ⟨S1, e1, e2, e3⟩ := as_spec (F := F) (o := 24 + 3 * (k + 1)) (oo := 24 + 3 * k) (S := S) (by omega)
    have t1 := e3 _ (hSt k (Nat.le_refl _))
    have fs1 := e2.sg ⟨by omega, by omega⟩
    obtain ⟨i1, -⟩ := RT_ok (F := F) hF (by omega) (r.take k) Tb hTb (fun w hw => hrl w (List.mem_of_mem_take hw))
    obtain ⟨ok, S2, T2, g1, g2, g3, g4, -⟩ := go_stage (F := F) (o := 24 + 3 * (k + 1)) hF ⟨by omega, by omega⟩ (by omega) hw i1 ((fs1.2 3).trans hW) t1
    rw [RT_step hF (by omega) hTb (fun w hw => hrl w (List.mem_of_mem_take hw)) hw, ← take_snoc hkr] at g2
    obtain rfl := Option.some.inj g2
    have fs2 := fs1.tr (g4.sg ⟨by omega, by omega⟩)
    obtain ⟨S', r1, r2, r3⟩ := ih (k + 1) S2 m (by omega) (fun x hx => by rw [fs2.1 21 x (by omega)]; exact hR x hx) (fun w hw => by rw [fs2.1 10 w (by omega), fs2.1 11 w (by omega)]; exact hAB w hw) ((fs2.2 3).trans hW) ((fs2.2 4).trans hH) (fun x hx => by
      by_cases q : x = k + 1
      · rw [q]; exact g3
      · refine TR_far (o := 0) (hSt x (by omega)) (fun y => ⟨?_, ?_, ?_⟩)
        · rw [g4.1 _ _ (by omega) (by omega) (by omega) (by omega) (by omega) (by omega), e2.1 _ _ (by omega) (by omega) (by omega)]
        · rw [g4.1 _ _ (by omega) (by omega) (by omega) (by omega) (by omega) (by omega), e2.1 _ _ (by omega) (by omega) (by omega)]
        · rw [g4.1 _ _ (by omega) (by omega) (by omega) (by omega) (by omega) (by omega), e2.1 _ _ (by omega) (by omega) (by omega)])
    refine ⟨S', ?_, r2, fs2.tr r3⟩
    rw [fix_s]
    show bX2_sendFrom_2 F (g_fix _ (m + (j + 1))) (nI n) (nI k) S = _
    unfold bX2_sendFrom_2
    have z21 : g_I S1 21 k = nI (fl r k) := (fs1.1 21 k (by omega)).trans (hR k (by omega))
    rw [if_neg (nI_ge (by omega) (by omega)), nI_1, chk_nI (show k + 1 < 6 by omega) (by decide), chk_nI (show k < 6 by omega) (by decide), nI_clamp (show k + 1 < 2 ^ 31 by omega), nI_clamp (show k < 2 ^ 31 by omega), e1, Option.bind_some, chk_nI (show k + 1 < 6 by omega) (by decide), chk_nI (show k < 5 by omega) (by decide), z21, chk_nI (show fl r k < 8 by omega) (by decide), chk_nI (show k < 5 by omega) (by decide), chk_nI (show fl r k < 8 by omega) (by decide), nI_clamp (show fl r k < 2 ^ 31 by omega), show g_I S1 10 (fl r k) = nI (A (fl r k)) from (fs1.1 10 _ (by omega)).trans (hAB _ hw).1, show g_I S1 11 (fl r k) = nI (B (fl r k)) from (fs1.1 11 _ (by omega)).trans (hAB _ hw).2, show g_J S1 1 4 = hid from (fs1.2 4).trans hH, g1, Option.bind_some, gl_def]
    exact r1
theorem sendFrom_spec {F n ch : Nat} {Wl hid : Int64} {A B : Nat → Nat} {Tb S : gS} {r : List Nat} (hF : 20000000 < F) (hn : n ≤ 5) (hch : ch ≤ n) (hTb : GdT n Wl hid A B Tb) (hr : r.length = n) (hrl : ∀ w, w ∈ r → w < n) (hR : RowF n (fl r) S) (hAB : ∀ w, w < n → S.1 10 w = nI (A w) ∧ S.1 11 w = nI (B w)) (hW : S.2 1 3 = Wl) (hH : S.2 1 4 = hid) (hSt : Stg F ch Tb r S) :
    ∃ S', fX2_sendFrom F (nI ch) (nI n) S = some S' ∧ Stg F n Tb r S' ∧ FrSg S S' := by
  obtain ⟨S', h1, h2, h3⟩ := send_spec hF hn hTb hr hrl (n - ch) ch S (F - (n - ch) - 1) (by omega) hR hAB hW hH hSt
  rw [show F - (n - ch) - 1 + (n - ch) + 1 = F by omega] at h1
  exact ⟨S', h1, h2, h3⟩

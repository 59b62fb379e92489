/-! the way that costs least, by the least direction -/
section FIND
variable {op : Nat → Bool} {wt : Nat → Nat} {b : Nat}
def Tgt (op : Nat → Bool) (wt : Nat → Nat) (b c n : Nat) : Prop := ∃ d e, isD op wt b c d ∧ isD op wt b n e ∧ e + wt n = d
def Nx (op : Nat → Bool) (wt : Nat → Nat) (b c n : Nat) : Prop := ∃ dir, dir < 4 ∧ nb c dir = some n ∧ Tgt op wt b c n ∧ ∀ dir', dir' < dir → ∀ n', nb c dir' = some n' → ¬ Tgt op wt b c n'
theorem Nx_u {c n n' : Nat} (h : Nx op wt b c n) (h' : Nx op wt b c n') : n = n' := by
  obtain ⟨d, h1, h2, h3, h4⟩ := h
  obtain ⟨d', g1, g2, g3, g4⟩ := h'
  rcases Nat.lt_trichotomy d d' with q | q | q
  · exact absurd h3 (g4 d q n h2)
  · subst q; exact Option.some.inj (h2.symm.trans g2)
  · exact absurd g3 (h4 d' q n' g2)
/-- a chain of such steps -/
def Ch (op : Nat → Bool) (wt : Nat → Nat) (b : Nat) : Nat → List Nat → Nat → Prop
  | c, [], z => c = z
  | c, n :: l, z => c ≠ b ∧ Nx op wt b c n ∧ Ch op wt b n l z
theorem Ch_app {z n : Nat} (hz : z ≠ b) (hn : Nx op wt b z n) : ∀ {c : Nat} {l : List Nat}, Ch op wt b c l z → Ch op wt b c (l ++ [n]) n := by
  intro c l
  induction l generalizing c with
  | nil => intro h; simp only [Ch] at h; subst h; exact ⟨hz, hn, rfl⟩
  | cons m l ih => intro h; exact ⟨h.1, h.2.1, ih h.2.2⟩
theorem Ch_u : ∀ {c : Nat} {l l' : List Nat}, Ch op wt b c l b → Ch op wt b c l' b → l = l' := by
  intro c l
  induction l generalizing c with
  | nil =>
    intro l' h h'
    simp only [Ch] at h
    cases l' with
    | nil => rfl
    | cons m l' => exact absurd h h'.1
  | cons m l ih =>
    intro l' h h'
    cases l' with
    | nil => simp only [Ch] at h'; exact absurd h' h.1
    | cons m' l' =>
      have e := Nx_u h.2.1 h'.2.1
      subst e
      rw [ih h.2.2 h'.2.2]
theorem onward_spec {F sn c d t : Nat} {S : gS} (hF : 4 < F) (hsn : ∀ c, c < 64 → S.1 sn c + 1 = nI (wt c)) (hw : ∀ n, 1 ≤ wt n ∧ wt n ≤ 31) (ht : t ≤ 1985) (h1 : ∀ c, c < 64 → (hb (S.2 12 4) c = true ↔ ∃ d, d < t ∧ isD op wt b c d)) (h2 : ∀ c d, c < 64 → d < t → isD op wt b c d → S.1 13 c = nI d) (hc : c < 64) (hd : d < t) (hD : isD op wt b c d) (hcb : c ≠ b) :
    ∃ n, Nx op wt b c n ∧ n < 64 ∧ fX4_onward F sn (nI c) S = some (nI n, S) := by
  obtain ⟨r, ⟨n, g1, g2, g3⟩, hr⟩ := fix_up (body := fun k2 s => bX4_onward_2 F sn k2 s.1 s.2.1 s.2.2) 4
    (fun i s => s = (nI c, nI i, S) ∧ ∀ dir', dir' < i → ∀ n', nb c dir' = some n' → ¬ Tgt op wt b c n')
    (fun r => ∃ n, Nx op wt b c n ∧ n < 64 ∧ r = some (nI n, S))
    (by
      rintro i s hi ⟨rfl, hno⟩
      have hi4 : ¬ ((4 : Int32) ≤ nI i) := nI_ge hi (by decide)
      have nxt : (∀ n', nb c i = some n' → ¬ Tgt op wt b c n') → ∃ s', (s' = (nI c, nI (i + 1), S) ∧ ∀ dir', dir' < i + 1 → ∀ n', nb c dir' = some n' → ¬ Tgt op wt b c n') ∧ s' = (nI c, nI (i + 1), S) := fun h => ⟨_, ⟨rfl, fun dir' hd' n' hn' => by
        rcases Nat.lt_or_ge dir' i with q | q
        · exact hno dir' q n' hn'
        · rw [show dir' = i by omega] at hn'; exact h n' hn'⟩, rfl⟩
      have e58 : ∀ k, bX4_onward_58 F sn k (nI c) (nI i) S = k (nI c, nI (i + 1), S) := fun k => by
        unfold bX4_onward_58; rw [gl_def, nI_1]
      cases hn : nb c i with
      | none =>
        obtain ⟨s', hI, e⟩ := nxt (fun n' h => by rw [hn] at h; cases h)
        refine Or.inl ⟨s', hI, fun k => ?_⟩
        show bX4_onward_2 F sn k (nI c) (nI i) S = _
        unfold bX4_onward_2
        rw [if_neg hi4, bes_spec F hc hi, hn]
        simp only [Option.bind_some, gl_def, oI]
        rw [if_pos trivial, e58, e]
      | some n =>
        have hn64 := nb_lt hc hn
        have hne : ¬ nI n = -1 := nI_nm1 (by omega)
        by_cases hr : hb (S.2 12 4) n = true
        · obtain ⟨e, he, hDe⟩ := (h1 n hn64).mp hr
          have hwn := hw n
          have hcmp : ((S.1 13 n + (1 : Int32)) + S.1 sn n = S.1 13 c) ↔ e + wt n = d := by
            rw [Int32.add_assoc, Int32.add_comm 1, hsn n hn64, h2 n e hn64 he hDe, h2 c d hc hd hD, nI_add, nI_eq (by omega) (by omega)]
          by_cases heq : e + wt n = d
          · refine Or.inr ⟨_, ⟨n, ⟨i, hi, hn, ⟨d, e, hD, hDe, heq⟩, hno⟩, hn64, rfl⟩, fun k => ?_⟩
            show bX4_onward_2 F sn k (nI c) (nI i) S = _
            unfold bX4_onward_2
            rw [if_neg hi4, bes_spec F hc hi, hn]
            simp only [Option.bind_some, gl_def, oI]
            rw [if_neg hne, has_spec F _ hn64]
            simp only [Option.bind_some, hasV, hr, if_true]
            rw [if_neg (by decide), chk_nI hn64 (by decide), chk_nI hn64 (by decide), chk_nI hc (by decide), nI_clamp (by omega), nI_clamp (by omega), if_pos (hcmp.mpr heq)]
          · obtain ⟨s', hI, e'⟩ := nxt (fun n' h => by
              rw [hn] at h; cases h
              rintro ⟨d2, e2, q1, q2, q3⟩
              rw [isD_u q1 hD, isD_u q2 hDe] at q3
              exact heq q3)
            refine Or.inl ⟨s', hI, fun k => ?_⟩
            show bX4_onward_2 F sn k (nI c) (nI i) S = _
            unfold bX4_onward_2
            rw [if_neg hi4, bes_spec F hc hi, hn]
            simp only [Option.bind_some, gl_def, oI]
            rw [if_neg hne, has_spec F _ hn64]
            simp only [Option.bind_some, hasV, hr, if_true]
            rw [if_neg (by decide), chk_nI hn64 (by decide), chk_nI hn64 (by decide), chk_nI hc (by decide), nI_clamp (by omega), nI_clamp (by omega), if_neg (fun z => heq (hcmp.mp z)), e58, e']
        · obtain ⟨s', hI, e'⟩ := nxt (fun n' h => by
            rw [hn] at h; cases h
            rintro ⟨d2, e2, q1, q2, q3⟩
            have := isD_u q1 hD
            have hwn := hw n
            exact hr ((h1 n hn64).mpr ⟨e2, by omega, q2⟩))
          have hr' : hb (S.2 12 4) n = false := by simpa using hr
          refine Or.inl ⟨s', hI, fun k => ?_⟩
          show bX4_onward_2 F sn k (nI c) (nI i) S = _
          unfold bX4_onward_2
          rw [if_neg hi4, bes_spec F hc hi, hn]
          simp only [Option.bind_some, gl_def, oI]
          rw [if_neg hne, has_spec F _ hn64]
          simp only [Option.bind_some, hasV, hr']
          rw [if_pos (by decide), e58, e'])
    (by
      rintro s ⟨rfl, hno⟩
      exfalso
      obtain ⟨dir, n, e, q1, q2, q3, q4⟩ := isD_back hD hcb
      exact hno dir q1 n q2 ⟨d, e, hD, q3, q4.symm⟩)
    F (nI c, (0 : Int32), S) ⟨rfl, fun dir' h => by omega⟩ hF
  exact ⟨n, g1, g2, by rw [← g3, ← hr]; rfl⟩
/-- what may change in find -/
def FrFi (S0 S : gS) : Prop := (∀ i k, i ≠ 13 → i ≠ 15 → (i ≠ 12 ∨ k ≠ 3) → S.1 i k = S0.1 i k) ∧ (∀ i k, i ≠ 14 → (i ≠ 12 ∨ k ≠ 4) → S.2 i k = S0.2 i k)
theorem FrFi.rf (S : gS) : FrFi S S := ⟨fun _ _ _ _ _ => rfl, fun _ _ _ _ => rfl⟩
theorem FrFi.tr {S0 S1 S2 : gS} (h1 : FrFi S0 S1) (h2 : FrFi S1 S2) : FrFi S0 S2 := ⟨fun i k a b c => (h2.1 i k a b c).trans (h1.1 i k a b c), fun i k a b => (h2.2 i k a b).trans (h1.2 i k a b)⟩
/-- the way that was found -/
def Way (op : Nat → Bool) (wt : Nat → Nat) (b a : Nat) (l : List Nat) : Prop := Ch op wt b a l b ∧ l.length ≤ 63 ∧ (∀ n, n ∈ l → n < 64 ∧ op n = true)
theorem find_loop {F sn a d t : Nat} {S : gS} (hF : 100 < F) (h13 : sn ≠ 13) (h15 : sn ≠ 15) (h12 : sn ≠ 12) (hsn : ∀ c, c < 64 → S.1 sn c + 1 = nI (wt c)) (hw : ∀ n, 1 ≤ wt n ∧ wt n ≤ 31) (ht : t ≤ 1985) (h1 : ∀ c, c < 64 → (hb (S.2 12 4) c = true ↔ ∃ d, d < t ∧ isD op wt b c d)) (h2 : ∀ c d, c < 64 → d < t → isD op wt b c d → S.1 13 c = nI d) (ha : a < 64) (hbb : b < 64) (hd : d < t) (hD : isD op wt b a d) (h0 : S.1 12 3 = nI 0) :
    ∃ l S', Way op wt b a l ∧ (∀ i k, i ≠ 15 → (i ≠ 12 ∨ k ≠ 3) → S'.1 i k = S.1 i k) ∧ S'.2 = S.2 ∧ S'.1 12 3 = nI l.length ∧ (∀ i (h : i < l.length), S'.1 15 i = nI l[i]) ∧
      bX4_find_51l F sn F (nI a, nI b, nI a, (0 : Int32), S) = some (nI d, S') := by
  obtain ⟨r, ⟨l, S', g1, g2, g3, g4, g5, g6⟩, hr⟩ := fix_up (body := fun k51 s => bX4_find_51 F sn k51 s.1 s.2.1 s.2.2.1 s.2.2.2.1 s.2.2.2.2) 64
    (fun i s => ∃ c e l S', s = (nI a, nI b, nI c, nI i, S') ∧ c < 64 ∧ e < t ∧ isD op wt b c e ∧ Ch op wt b a l c ∧ l.length = i ∧ (∀ n, n ∈ l → n < 64 ∧ op n = true) ∧
      i ≤ cntB (fun x => hb (S.2 12 4) x && decide ((nI e).toNatClampNeg < (S.1 13 x).toNatClampNeg)) 64 ∧
      (∀ i k, i ≠ 15 → (i ≠ 12 ∨ k ≠ 3) → S'.1 i k = S.1 i k) ∧ S'.2 = S.2 ∧ S'.1 12 3 = nI i ∧ (∀ j (h : j < l.length), S'.1 15 j = nI l[j]))
    (fun r => ∃ l S', Way op wt b a l ∧ (∀ i k, i ≠ 15 → (i ≠ 12 ∨ k ≠ 3) → S'.1 i k = S.1 i k) ∧ S'.2 = S.2 ∧ S'.1 12 3 = nI l.length ∧ (∀ i (h : i < l.length), S'.1 15 i = nI l[i]) ∧ r = some (nI d, S'))
    (by
      rintro i s hi ⟨c, e, l, S', rfl, hc, he, hDe, hCh, hll, hmem, hcnt, f1, f2, f3, f4⟩
      have hi64 : ¬ ((64 : Int32) ≤ nI i) := nI_ge hi (by decide)
      have e105 : bX4_find_105 F sn (nI a) S' = some (nI d, S') := by
        unfold bX4_find_105
        rw [chk_nI ha (by decide), nI_clamp (by omega)]
        show some (S'.1 13 a, S') = _
        rw [f1 13 a (by decide) (Or.inl (by decide)), h2 a d ha hd hD]
      by_cases hcb : c = b
      · subst hcb
        refine Or.inr ⟨_, ⟨l, S', ⟨hCh, by omega, hmem⟩, f1, f2, by rw [f3, hll], f4, rfl⟩, fun k => ?_⟩
        show bX4_find_51 F sn k (nI a) (nI c) (nI c) (nI i) S' = _
        unfold bX4_find_51
        rw [if_neg hi64, if_pos rfl, e105]
      · obtain ⟨n, hN, hn64, hon⟩ := onward_spec (F := F) (sn := sn) (S := S') (by omega) (fun c hc => by rw [f1 sn c h15 (Or.inl h12)]; exact hsn c hc) hw ht (fun c hc => by rw [f2]; exact h1 c hc) (fun c d hc hd hD => by rw [f1 13 c (by decide) (Or.inl (by decide))]; exact h2 c d hc hd hD) hc he hDe hcb
        have hNN := hN
        obtain ⟨dir, q1, q2, ⟨e1, e2, q3, q4, q5⟩, q6⟩ := hNN
        have hee := isD_u q3 hDe
        have hwn := hw n
        have hcn : ¬ nI c = nI b := fun z => hcb (nI_inj (by omega) (by omega) z)
        have hfar : S.1 13 c = nI e := h2 c e hc he hDe
        have hcnt2 : cntB (fun x => hb (S.2 12 4) x && decide ((nI e).toNatClampNeg < (S.1 13 x).toNatClampNeg)) 64 < cntB (fun x => hb (S.2 12 4) x && decide ((nI e2).toNatClampNeg < (S.1 13 x).toNatClampNeg)) 64 := by
          refine cntB_lt hc (fun x hx h => ?_) ?_ ?_
          · rw [Bool.and_eq_true, decide_eq_true_eq, nI_clamp (by omega)] at h
            rw [Bool.and_eq_true, decide_eq_true_eq, nI_clamp (by omega)]
            exact ⟨h.1, by omega⟩
          · rw [hfar]; simp
          · rw [hfar, Bool.and_eq_true, decide_eq_true_eq, nI_clamp (by omega), nI_clamp (by omega)]
            exact ⟨(h1 c hc).mpr ⟨e, he, hDe⟩, by omega⟩
        refine Or.inl ⟨(nI a, nI b, nI n, nI (i + 1), g_setI (g_setI S' 15 i (nI n)) 12 3 (nI (i + 1))), ⟨n, e2, l ++ [n], _, rfl, hn64, by omega, q4, Ch_app hcb hN hCh, by simp [hll], fun m hm => ?_, by omega, fun j k hj hor => ?_, f2, rI_same _ _ _ _, fun j hj => ?_⟩, fun k => ?_⟩
        · rcases List.mem_append.mp hm with h | h
          · exact hmem m h
          · rw [List.mem_singleton.mp h]; exact ⟨hn64, rch_op q4.1⟩
        · rw [rI_ne _ _ hor, rI_ne _ _ (Or.inl hj)]; exact f1 j k hj hor
        · rw [rI_ne _ _ (Or.inl (by decide))]
          by_cases q : j = i
          · subst q; rw [rI_same]; congr 1; simp [hll]
          · have hj' : j < l.length := by simp at hj; omega
            rw [rI_ne _ _ (Or.inr q), f4 j hj', List.getElem_append_left hj']
        · show bX4_find_51 F sn k (nI a) (nI b) (nI c) (nI i) S' = _
          unfold bX4_find_51
          rw [if_neg hi64, if_neg hcn, hon]
          simp only [Option.bind_some, gl_def]
          rw [if_neg (nI_nm1 (by omega)), chk_nI hi (by decide), nI_clamp (by omega), nI_1])
    (by
      rintro s ⟨c, e, l, S', rfl, hc, he, hDe, hCh, hll, hmem, hcnt, -⟩
      exfalso
      have hlt : cntB (fun x => hb (S.2 12 4) x && decide ((nI e).toNatClampNeg < (S.1 13 x).toNatClampNeg)) 64 < cntB (fun _ => true) 64 := by
        refine cntB_lt hc (fun _ _ _ => rfl) ?_ rfl
        rw [h2 c e hc he hDe]; simp
      have := cntB_le (fun _ => true) 64
      omega)
    F (nI a, nI b, nI a, (0 : Int32), S) ⟨a, d, [], S, rfl, ha, hd, hD, rfl, rfl, fun n h => by simp at h, Nat.zero_le _, fun _ _ _ _ => rfl, rfl, h0, fun j h => by simp at h⟩ (by omega)
  exact ⟨l, S', g1, g2, g3, g4, g5, by rw [← g6, ← hr]; rfl⟩
theorem find_spec {F sn a : Nat} {cl : Int64} {S : gS} (hF : 2000 < F) (ha : a < 64) (hbb : b < 64) (hw : ∀ n, 1 ≤ wt n ∧ wt n ≤ 31) (hcl : ∀ c, op c = (decide (c < 64) && !hb cl c)) (h13 : sn ≠ 13) (h15 : sn ≠ 15) (h12 : sn ≠ 12) (hs : ∀ c, c < 64 → S.1 sn c + 1 = nI (wt c)) :
    (∃ S', (∀ d, ¬ Rch op wt b a d) ∧ (FrFi S S' ∧ S'.1 12 3 = nI 0) ∧ fX4_find F sn (nI a) (nI b) cl S = some (-1, S')) ∨
    (∃ d l S', isD op wt b a d ∧ d < 1985 ∧ Way op wt b a l ∧ FrFi S S' ∧ S'.1 12 3 = nI l.length ∧ (∀ i (h : i < l.length), S'.1 15 i = nI l[i]) ∧ fX4_find F sn (nI a) (nI b) cl S = some (nI d, S')) := by
  have hop : ∀ c, op c = true → c < 64 := fun c h => by rw [hcl] at h; simp at h; exact h.1
  have hcl' : ∀ c, c < 64 → op c = !hb cl c := fun c hc => by rw [hcl]; simp [hc]
  have fr0 : FrFi S (g_setI S 12 3 0) := ⟨fun i k _ _ h => rI_ne _ _ h, fun _ _ _ _ => rfl⟩
  by_cases q1 : hb cl a = true
  · refine Or.inl ⟨g_setI S 12 3 0, fun d h => ?_, ⟨fr0, rI_same _ _ _ _⟩, ?_⟩
    · have := rch_op h; rw [hcl' a ha, q1] at this; cases this
    · unfold fX4_find
      simp only [gl_def]
      rw [has_spec F _ ha]
      simp only [Option.bind_some, hasV, q1, if_true]
      rw [if_neg (by decide)]
  · have q1' : hb cl a = false := by simpa using q1
    by_cases q2 : hb cl b = true
    · refine Or.inl ⟨g_setI S 12 3 0, fun d h => ?_, ⟨fr0, rI_same _ _ _ _⟩, ?_⟩
      · obtain ⟨k, h⟩ := h
        have hob : op b = true := by
          induction k generalizing a d with
          | zero => exact h.2.2
          | succ k ih =>
            obtain ⟨-, dir, n, d', g1, g2, g3, g4⟩ := h
            have hn := nb_lt ha g2
            obtain ⟨m, hm⟩ : ∃ m, Rc op wt b k n m := ⟨d', g3⟩
            have hall : ∀ k c d, Rc op wt b k c d → op b = true := by
              intro k
              induction k with
              | zero => intro c d h; exact h.2.2
              | succ k ih2 => intro c d h; obtain ⟨-, _, n, d', _, _, g3, _⟩ := h; exact ih2 n d' g3
            exact hall k n d' g3
        rw [hcl' b hbb, q2] at hob; cases hob
      · unfold fX4_find
        simp only [gl_def]
        rw [has_spec F _ ha]
        simp only [Option.bind_some, hasV, q1']
        rw [if_pos (by decide), has_spec F _ hbb]
        simp only [Option.bind_some, hasV, q2, if_true]
        rw [if_neg (by decide)]
    · have q2' : hb cl b = false := by simpa using q2
      have hob : op b = true := by rw [hcl' b hbb, q2']; rfl
      obtain ⟨S1, g1, ⟨t, e1, e2, e3, e4⟩, g3⟩ := spread_spec (F := F) (sn := sn) (a := a) (x3 := cl) (S := g_setI S 12 3 0) hF ha hbb hw hop hob hcl' h13 (fun c hc => by rw [rI_ne _ _ (Or.inl h12)]; exact hs c hc)
      have fr1 : FrFi S S1 := fr0.tr ⟨fun i k h _ _ => g1.1 i k h, fun i k h h' => g1.2 i k h h'⟩
      have hhead : fX4_find F sn (nI a) (nI b) cl S = (fX7_has F (g_J S1 12 4) (nI a) S1).bind (fun q7 : Int32 × gS => if q7.1 = 0 then (some ((-1 : Int32), q7.2)) else (bX4_find_51l F sn F (nI a, nI b, nI a, (0 : Int32), q7.2))) := by
        unfold fX4_find
        simp only [gl_def]
        rw [has_spec F _ ha]
        simp only [Option.bind_some, hasV, q1']
        rw [if_pos (by decide), has_spec F _ hbb]
        simp only [Option.bind_some, hasV, q2']
        rw [if_pos (by decide), g3]
        rfl
      rw [hhead, has_spec F _ ha]
      simp only [Option.bind_some]
      by_cases q3 : hb (g_J S1 12 4) a = true
      · obtain ⟨d, hd, hD⟩ := (e1 a ha).mp q3
        obtain ⟨l, S2, k1, k2, k3, k4, k5, k6⟩ := find_loop (F := F) (sn := sn) (S := S1) (by omega) h13 h15 h12 (fun c hc => by rw [g1.1 sn c h13, rI_ne _ _ (Or.inl h12)]; exact hs c hc) hw e4 e1 e2 ha hbb hd hD (by rw [g1.1 12 3 (by decide), rI_same]; rfl)
        refine Or.inr ⟨d, l, S2, hD, by omega, k1, fr1.tr ⟨fun i k _ h h' => k2 i k h h', fun i k _ _ => by rw [k3]⟩, k4, k5, ?_⟩
        simp only [hasV, q3, if_true]
        rw [if_neg (by decide)]
        exact k6
      · have q3' : hb (g_J S1 12 4) a = false := by simpa using q3
        refine Or.inl ⟨S1, fun d h => ?_, ⟨fr1, by rw [g1.1 12 3 (by decide), rI_same]; rfl⟩, ?_⟩
        · obtain ⟨e, he, hD⟩ := e3 d h
          exact q3 ((e1 a ha).mpr ⟨e, he, hD⟩)
        · simp only [hasV, q3']
          rfl
end FIND

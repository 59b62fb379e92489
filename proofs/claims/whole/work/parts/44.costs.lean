/-! the reference's costs -/
def sumN (f : Nat → Nat) : Nat → Nat
  | 0 => 0
  | n + 1 => sumN f n + f n
theorem sumN_congr {f g : Nat → Nat} : ∀ {n : Nat}, (∀ c, c < n → f c = g c) → sumN f n = sumN g n := by
  intro n
  induction n with
  | zero => intro _; rfl
  | succ n ih => intro h; unfold sumN; rw [ih (fun c hc => h c (by omega)), h n (by omega)]
theorem sumN_lt {f g : Nat → Nat} {c : Nat} : ∀ {n : Nat}, c < n → (∀ d, d < n → d ≠ c → f d = g d) → f c < g c → sumN f n < sumN g n := by
  intro n
  induction n with
  | zero => intro h; omega
  | succ n ih =>
    intro hc h hlt
    unfold sumN
    by_cases q : c = n
    · subst q
      rw [sumN_congr (fun d hd => h d (by omega) (by omega))]
      omega
    · have := ih (by omega) (fun d hd hne => h d (by omega) hne) hlt
      have := h n (by omega) (fun z => q z.symm)
      omega
section COSTS
variable {op : Nat → Bool} {wt : Nat → Nat} {b : Nat}
def kk (S : gS) (c : Nat) : Nat := (S.1 68 c).toNatClampNeg
def Fr68 (S0 S : gS) : Prop := (∀ i k, i ≠ 68 → S.1 i k = S0.1 i k) ∧ S.2 = S0.2
theorem Fr68.rf (S : gS) : Fr68 S S := ⟨fun _ _ _ => rfl, rfl⟩
theorem Fr68.tr {S0 S1 S2 : gS} (h1 : Fr68 S0 S1) (h2 : Fr68 S1 S2) : Fr68 S0 S2 := ⟨fun i k h => (h2.1 i k h).trans (h1.1 i k h), h2.2.trans h1.2⟩
/-- op and wt are what the cells say -/
def MOp (op : Nat → Bool) (S : gS) : Prop := ∀ c, c < 64 → op c = (decide (S.1 57 c ≠ 1) && decide (S.1 67 c = 0))
def MWt (wt : Nat → Nat) (fl : Int32) (S : gS) : Prop := (∀ n, 1 ≤ wt n ∧ wt n ≤ 31) ∧ (fl = 0 → ∀ c, c < 64 → (1 : Int32) + S.1 64 c = nI (wt c)) ∧ (¬ fl = 0 → ∀ c, wt c = 1)
theorem MOp.fr {S0 S : gS} (h : MOp op S0) (hf : Fr68 S0 S) : MOp op S := fun c hc => by rw [hf.1 57 c (by decide), hf.1 67 c (by decide)]; exact h c hc
theorem MWt.fr {fl : Int32} {S0 S : gS} (h : MWt wt fl S0) (hf : Fr68 S0 S) : MWt wt fl S := ⟨h.1, fun e c hc => by rw [hf.1 64 c (by decide)]; exact h.2.1 e c hc, h.2.2⟩
theorem mayPass_spec (F : Nat) {c : Nat} {S : gS} (hc : c < 64) (h : MOp op S) : fX8_mayPass F (nI c) S = some (if op c then 1 else 0, S) := by
  unfold fX8_mayPass
  rw [chk_nI hc (by decide), chk_nI hc (by decide), nI_clamp (by omega), h c hc]
  by_cases q1 : S.1 57 c = 1
  · rw [if_pos q1]; simp [q1]
  · rw [if_neg q1]
    by_cases q2 : S.1 67 c = 0
    · rw [if_pos q2]; simp [q1, q2]
    · rw [if_neg q2]; simp [q1, q2]
theorem wades_spec (F : Nat) {c : Nat} {fl : Int32} {S : gS} (hc : c < 64) (h : MWt wt fl S) : fX8_wades F (nI c) fl S = some (nI (wt c), S) := by
  unfold fX8_wades
  by_cases q : fl = 0
  · rw [if_pos q, chk_nI hc (by decide), nI_clamp (by omega)]
    show some ((1 : Int32) + S.1 64 c, S) = _
    rw [h.2.1 q c hc]
  · rw [if_neg q, h.2.2 q c]; rfl
/-- what holds of the costs all the time -/
def CI (op : Nat → Bool) (wt : Nat → Nat) (b : Nat) (S : gS) : Prop := ∀ c, c < 64 → S.1 68 c = nI (kk S c) ∧ kk S c ≤ 100000 ∧ (kk S c < 100000 → Rch op wt b c (kk S c)) ∧ (c = b → op b = true → kk S c = 0)
def Ck (op : Nat → Bool) (wt : Nat → Nat) (S : gS) (c dir : Nat) : Prop := op c = true → ∀ n, nb c dir = some n → kk S n < 100000 → kk S c ≤ kk S n + wt n
/-- in a pass that began with S0, ahead of c and dir -/
def PS (op : Nat → Bool) (wt : Nat → Nat) (S0 : gS) (c dir : Nat) (more : Int32) (S : gS) : Prop :=
  (more = 0 ∧ (∀ x, x < 64 → S.1 68 x = S0.1 68 x) ∧ ∀ c' d', d' < 4 → (c' < c ∨ (c' = c ∧ d' < dir)) → Ck op wt S0 c' d') ∨ (more = 1 ∧ sumN (kk S) 64 < sumN (kk S0) 64)
theorem kk_set_same {S : gS} {c v : Nat} (hv : v < 2 ^ 31) : kk (g_setI S 68 c (nI v)) c = v := by unfold kk; rw [rI_same, nI_clamp hv]
theorem kk_set_ne {S : gS} {c d : Nat} {v : Int32} (h : d ≠ c) : kk (g_setI S 68 c v) d = kk S d := by unfold kk; rw [rI_ne _ _ (Or.inr h)]
theorem costs_d {F : Nat} (hF : 100 < F) {fl more : Int32} {S0 S : gS} {c : Nat} (hc : c < 64) (hop : MOp op S) (hwt : MWt wt fl S) (hCI : CI op wt b S) (hPS : PS op wt S0 c 0 more S) :
    ∃ more' S', CI op wt b S' ∧ Fr68 S S' ∧ PS op wt S0 (c + 1) 0 more' S' ∧ ∀ k41 k50, bX8_findCosts_60l F k41 k50 F (fl, more, nI c, (0 : Int32), S) = k50 (fl, more', nI (c + 1), S') := by
  have e157 : ∀ (k41 : (Int32 × Int32 × gS) → Option gS) (k50 : (Int32 × Int32 × Int32 × gS) → Option gS) (more : Int32) (S : gS), bX8_findCosts_157 F k41 k50 fl more (nI c) S = k50 (fl, more, nI (c + 1), S) := fun k41 k50 more S => by
    unfold bX8_findCosts_157; rw [gl_def, nI_1]
  by_cases hoc' : op c = false
  · have hF' : ∃ m, F = m + 1 := ⟨F - 1, by omega⟩
    obtain ⟨m, hm⟩ := hF'
    refine ⟨more, S, hCI, Fr68.rf S, ?_, fun k41 k50 => ?_⟩
    · rcases hPS with ⟨h1, h2, h3⟩ | h
      · refine Or.inl ⟨h1, h2, fun c' d' hd' hor => ?_⟩
        by_cases q : c' = c
        · subst q; intro z; rw [hoc'] at z; cases z
        · exact h3 c' d' hd' (Or.inl (by omega))
      · exact Or.inr h
    · rw [show bX8_findCosts_60l F k41 k50 F (fl, more, nI c, (0 : Int32), S) = bX8_findCosts_60 F k41 k50 (bX8_findCosts_60l F k41 k50 m) fl more (nI c) 0 S by
        show g_fix _ F _ = _
        rw [hm]; rfl]
      unfold bX8_findCosts_60
      rw [if_neg (by decide), mayPass_spec F hc hop, hoc']
      simp only [Option.bind_some]
      rw [if_pos (by decide), e157]
  · have hoc : op c = true := by simpa using hoc'
    obtain ⟨z, ⟨h1, h2, h3⟩, hr⟩ := fix_upK (body := fun (κ : ((Int32 × Int32 × gS) → Option gS) × ((Int32 × Int32 × Int32 × gS) → Option gS)) k60 s => bX8_findCosts_60 F κ.1 κ.2 k60 s.1 s.2.1 s.2.2.1 s.2.2.2.1 s.2.2.2.2)
      (fun κ (z : Int32 × gS) => κ.2 (fl, z.1, nI (c + 1), z.2)) 4
      (fun i s => ∃ more S', s = (fl, more, nI c, nI i, S') ∧ CI op wt b S' ∧ Fr68 S S' ∧ PS op wt S0 c i more S')
      (fun z => CI op wt b z.2 ∧ Fr68 S z.2 ∧ PS op wt S0 c 4 z.1 z.2)
      (by
        rintro i s hi ⟨more, S', rfl, hCI, hFr, hPS⟩
        have hop' := hop.fr hFr
        have hwt' := hwt.fr hFr
        have hi4 : ¬ ((4 : Int32) ≤ nI i) := nI_ge hi (by decide)
        have e151 : ∀ (k41 : (Int32 × Int32 × gS) → Option gS) (k50 : (Int32 × Int32 × Int32 × gS) → Option gS) (k60 : (Int32 × Int32 × Int32 × Int32 × gS) → Option gS) (more : Int32) (S : gS), bX8_findCosts_151 F k41 k50 k60 fl more (nI c) (nI i) S = k60 (fl, more, nI c, nI (i + 1), S) := fun k41 k50 k60 more S => by
          unfold bX8_findCosts_151; rw [gl_def, nI_1]
        have keep : (∀ (_ : S'.1 68 c = S'.1 68 c), Ck op wt S' c i) → PS op wt S0 c (i + 1) more S' := fun hk => by
          rcases hPS with ⟨g1, g2, g3⟩ | g
          · refine Or.inl ⟨g1, g2, fun c' d' hd' hor => ?_⟩
            by_cases q : c' = c ∧ d' = i
            · obtain ⟨q1, q2⟩ := q
              subst q1; subst q2
              have := hk rfl
              intro ho n hn
              have e1 : kk S0 n = kk S' n := by unfold kk; rw [g2 n (nb_lt hc hn)]
              have e2 : kk S0 c' = kk S' c' := by unfold kk; rw [g2 c' hc]
              rw [e1, e2]; exact this ho n hn
            · exact g3 c' d' hd' (by omega)
          · exact Or.inr g
        cases hn : nb c i with
        | none =>
          refine Or.inl ⟨(fl, more, nI c, nI (i + 1), S'), ⟨more, S', rfl, hCI, hFr, keep (fun _ ho n h => by rw [hn] at h; cases h)⟩, fun κ k => ?_⟩
          show bX8_findCosts_60 F κ.1 κ.2 k fl more (nI c) (nI i) S' = _
          unfold bX8_findCosts_60
          rw [if_neg hi4, mayPass_spec F hc hop', hoc]
          simp only [Option.bind_some, if_true]
          rw [if_neg (by decide), nxt_spec F hc hi, hn]
          simp only [Option.bind_some, gl_def, oI]
          rw [if_pos trivial, e151]
        | some n =>
          have hn64 := nb_lt hc hn
          have hne : ¬ nI n = -1 := nI_nm1 (by omega)
          obtain ⟨a1, a2, a3, a4⟩ := hCI n hn64
          obtain ⟨b1, b2, b3, b4⟩ := hCI c hc
          have hwn := hwt.1 n
          by_cases q1 : kk S' n < 100000
          · have hlt : ¬ ((100000 : Int32) ≤ S'.1 68 n) := by rw [a1]; exact nI_ge q1 (by decide)
            by_cases q2 : kk S' c ≤ kk S' n + wt n
            · refine Or.inl ⟨(fl, more, nI c, nI (i + 1), S'), ⟨more, S', rfl, hCI, hFr, keep (fun _ ho n' h _ => by rw [hn] at h; cases h; exact q2)⟩, fun κ k => ?_⟩
              show bX8_findCosts_60 F κ.1 κ.2 k fl more (nI c) (nI i) S' = _
              unfold bX8_findCosts_60
              rw [if_neg hi4, mayPass_spec F hc hop', hoc]
              simp only [Option.bind_some, if_true]
              rw [if_neg (by decide), nxt_spec F hc hi, hn]
              simp only [Option.bind_some, gl_def, oI]
              rw [if_neg hne, chk_nI hn64 (by decide), nI_clamp (show n < 2 ^ 31 by omega), if_neg hlt, chk_nI hn64 (by decide), wades_spec F hn64 hwt']
              simp only [Option.bind_some]
              rw [chk_nI hc (by decide), nI_clamp (show c < 2 ^ 31 by omega), if_pos (by show S'.1 68 c ≤ S'.1 68 n + nI (wt n); rw [a1, b1, nI_add]; exact nI_le q2 (by omega)), e151]
            · have hkc : kk (g_setI S' 68 c (nI (kk S' n + wt n))) c = kk S' n + wt n := kk_set_same (by omega)
              have hcnb : n ≠ c := nb_ne hn
              refine Or.inl ⟨(fl, 1, nI c, nI (i + 1), g_setI S' 68 c (nI (kk S' n + wt n))), ⟨1, _, rfl, fun x hx => ?_, hFr.tr ⟨fun j k hj => rI_ne _ _ (Or.inl hj), rfl⟩, Or.inr ⟨rfl, ?_⟩⟩, fun κ k => ?_⟩
              · by_cases qx : x = c
                · subst qx
                  rw [hkc, rI_same]
                  refine ⟨rfl, by omega, fun _ => rch_s hoc hi hn (a3 q1), fun e1 e2 => ?_⟩
                  have := b4 e1 e2
                  omega
                · rw [kk_set_ne qx, rI_ne _ _ (Or.inr qx)]; exact hCI x hx
              · have hs : sumN (kk (g_setI S' 68 c (nI (kk S' n + wt n)))) 64 < sumN (kk S') 64 := sumN_lt hc (fun d _ hne => kk_set_ne hne) (by rw [hkc]; omega)
                rcases hPS with ⟨g1, g2, g3⟩ | ⟨g1, g2⟩
                · have : sumN (kk S') 64 = sumN (kk S0) 64 := sumN_congr (fun x hx => by unfold kk; rw [g2 x hx])
                  omega
                · omega
              · show bX8_findCosts_60 F κ.1 κ.2 k fl more (nI c) (nI i) S' = _
                unfold bX8_findCosts_60
                rw [if_neg hi4, mayPass_spec F hc hop', hoc]
                simp only [Option.bind_some, if_true]
                rw [if_neg (by decide), nxt_spec F hc hi, hn]
                simp only [Option.bind_some, gl_def, oI]
                rw [if_neg hne, chk_nI hn64 (by decide), nI_clamp (show n < 2 ^ 31 by omega), if_neg hlt, chk_nI hn64 (by decide), wades_spec F hn64 hwt']
                simp only [Option.bind_some]
                rw [chk_nI hc (by decide), nI_clamp (show c < 2 ^ 31 by omega), if_neg (by show ¬ S'.1 68 c ≤ S'.1 68 n + nI (wt n); rw [a1, b1, nI_add]; exact nI_ge (by omega) (by omega)), chk_nI hn64 (by decide), wades_spec F hn64 hwt']
                simp only [Option.bind_some]
                rw [chk_nI hc (by decide), show g_I S' 68 n = nI (kk S' n) from a1, nI_add, e151]
          · have hge : ((100000 : Int32) ≤ S'.1 68 n) := by rw [a1]; exact nI_le (a := 100000) (by omega) (by omega)
            refine Or.inl ⟨(fl, more, nI c, nI (i + 1), S'), ⟨more, S', rfl, hCI, hFr, keep (fun _ ho n' h hlt => by rw [hn] at h; cases h; exact absurd hlt q1)⟩, fun κ k => ?_⟩
            show bX8_findCosts_60 F κ.1 κ.2 k fl more (nI c) (nI i) S' = _
            unfold bX8_findCosts_60
            rw [if_neg hi4, mayPass_spec F hc hop', hoc]
            simp only [Option.bind_some, if_true]
            rw [if_neg (by decide), nxt_spec F hc hi, hn]
            simp only [Option.bind_some, gl_def, oI]
            rw [if_neg hne, chk_nI hn64 (by decide), nI_clamp (show n < 2 ^ 31 by omega), if_pos hge, e151])
      (by
        rintro s ⟨more, S', rfl, hCI, hFr, hPS⟩
        refine ⟨(more, S'), ⟨hCI, hFr, hPS⟩, fun κ k => ?_⟩
        show bX8_findCosts_60 F κ.1 κ.2 k fl more (nI c) (nI 4) S' = _
        unfold bX8_findCosts_60
        rw [if_pos (by decide), e157])
      F (fl, more, nI c, (0 : Int32), S) ⟨more, S, rfl, hCI, Fr68.rf S, hPS⟩ (by omega)
    refine ⟨z.1, z.2, h1, h2, ?_, fun k41 k50 => hr (k41, k50)⟩
    rcases h3 with ⟨g1, g2, g3⟩ | g
    · exact Or.inl ⟨g1, g2, fun c' d' hd' hor => g3 c' d' hd' (by omega)⟩
    · exact Or.inr g
theorem costs_pass {F : Nat} (hF : 100 < F) {fl : Int32} {S : gS} (hop : MOp op S) (hwt : MWt wt fl S) (hCI : CI op wt b S) :
    ∃ more S', CI op wt b S' ∧ Fr68 S S' ∧ PS op wt S 64 0 more S' ∧ ∀ k41, bX8_findCosts_50l F k41 F (fl, (0 : Int32), (0 : Int32), S) = k41 (fl, more, S') := by
  obtain ⟨z, ⟨h1, h2, h3⟩, hr⟩ := fix_upK (body := fun (k41 : (Int32 × Int32 × gS) → Option gS) k50 s => bX8_findCosts_50 F k41 k50 s.1 s.2.1 s.2.2.1 s.2.2.2)
    (fun k41 (z : Int32 × gS) => k41 (fl, z.1, z.2)) 64
    (fun c s => ∃ more S', s = (fl, more, nI c, S') ∧ CI op wt b S' ∧ Fr68 S S' ∧ PS op wt S c 0 more S')
    (fun z => CI op wt b z.2 ∧ Fr68 S z.2 ∧ PS op wt S 64 0 z.1 z.2)
    (by
      rintro c s hc ⟨more, S', rfl, g1, g2, g3⟩
      obtain ⟨more', S2, e1, e2, e3, e4⟩ := costs_d hF hc (hop.fr g2) (hwt.fr g2) g1 g3
      refine Or.inl ⟨(fl, more', nI (c + 1), S2), ⟨more', S2, rfl, e1, g2.tr e2, e3⟩, fun k41 k => ?_⟩
      show bX8_findCosts_50 F k41 k fl more (nI c) S' = _
      unfold bX8_findCosts_50
      rw [if_neg (show ¬ ((64 : Int32) ≤ nI c) from nI_ge hc (by decide))]
      exact e4 k41 k)
    (by
      rintro s ⟨more, S', rfl, g1, g2, g3⟩
      refine ⟨(more, S'), ⟨g1, g2, g3⟩, fun k41 k => ?_⟩
      show bX8_findCosts_50 F k41 k fl more (nI 64) S' = _
      unfold bX8_findCosts_50
      rw [if_pos (by decide)])
    F (fl, (0 : Int32), (0 : Int32), S) ⟨0, S, rfl, hCI, Fr68.rf S, Or.inl ⟨rfl, fun _ _ => rfl, fun c' d' _ h => by omega⟩⟩ (by omega)
  exact ⟨z.1, z.2, h1, h2, h3, fun k41 => hr k41⟩
/-- the costs at their end -/
def CE (op : Nat → Bool) (wt : Nat → Nat) (b : Nat) (S : gS) : Prop := ∀ c, c < 64 → S.1 68 c = nI (kk S c) ∧ kk S c ≤ 100000 ∧ (kk S c < 100000 → Rch op wt b c (kk S c)) ∧ ∀ d, Rch op wt b c d → kk S c ≤ d
theorem CE_of {S : gS} (hop : ∀ c, op c = true → c < 64) (hCI : CI op wt b S) (hck : ∀ c' d', c' < 64 → d' < 4 → Ck op wt S c' d') : CE op wt b S := by
  intro c hc
  obtain ⟨h1, h2, h3, -⟩ := hCI c hc
  refine ⟨h1, h2, h3, fun d hR => ?_⟩
  obtain ⟨k, hk⟩ := hR
  clear h1 h2 h3
  induction k generalizing c d with
  | zero =>
    obtain ⟨e1, e2, e3⟩ := hk
    rw [(hCI c hc).2.2.2 e1 e3]; exact Nat.zero_le _
  | succ k ih =>
    obtain ⟨ho, dir, n, d', g1, g2, g3, g4⟩ := hk
    have hn := nb_lt hc g2
    have := ih n hn d' g3
    by_cases q : kk S n < 100000
    · have := hck c dir hc g1 ho n g2 q
      omega
    · have := (hCI c hc).2.1
      omega
theorem CE_D {S : gS} {c d : Nat} (h : CE op wt b S) (hc : c < 64) (hd : d < 100000) : isD op wt b c d ↔ kk S c = d := by
  obtain ⟨-, h2, h3, h4⟩ := h c hc
  constructor
  · intro hD
    have := h4 d hD.1
    have := hD.2 _ (h3 (by omega))
    omega
  · intro e
    subst e
    exact ⟨h3 hd, h4⟩
theorem sum_bound {S : gS} : ∀ n, n ≤ 64 → (∀ c, c < 64 → kk S c ≤ 100000) → sumN (kk S) n ≤ n * 100000 := by
  intro n
  induction n with
  | zero => intro _ _; exact Nat.zero_le _
  | succ n ih => intro hn h; unfold sumN; have := ih (by omega) h; have := h n (by omega); omega
theorem costs_while {F : Nat} (hF : 20000000 < F) {fl : Int32} {S : gS} (hop : MOp op S) (hop2 : ∀ c, op c = true → c < 64) (hwt : MWt wt fl S) (hCI : CI op wt b S) :
    ∃ S', CE op wt b S' ∧ Fr68 S S' ∧ bX8_findCosts_41l F F (fl, (1 : Int32), S) = some S' := by
  obtain ⟨r, ⟨S', h1, h2, h3⟩, hr⟩ := fix_run (body := fun k41 s => bX8_findCosts_41 F k41 s.1 s.2.1 s.2.2)
    (fun s => ∃ more S', s = (fl, more, S') ∧ CI op wt b S' ∧ Fr68 S S' ∧ (more = 0 → ∀ c' d', c' < 64 → d' < 4 → Ck op wt S' c' d'))
    (fun s => 2 * sumN (kk s.2.2) 64 + (if s.2.1 = 0 then 0 else 1))
    (fun r => ∃ S', CE op wt b S' ∧ Fr68 S S' ∧ r = some S')
    (by
      rintro s ⟨more, S', rfl, g1, g2, g3⟩
      by_cases q : more = 0
      · refine Or.inr ⟨some S', ⟨S', CE_of hop2 g1 (g3 q), g2, rfl⟩, fun k => ?_⟩
        show bX8_findCosts_41 F k fl more S' = _
        unfold bX8_findCosts_41
        rw [if_pos q]
      · obtain ⟨more', S2, e1, e2, e3, e4⟩ := costs_pass (F := F) (by omega) (hop.fr g2) (hwt.fr g2) g1
        refine Or.inl ⟨(fl, more', S2), ⟨more', S2, rfl, e1, g2.tr e2, fun z c' d' hc' hd' => ?_⟩, ?_, fun k => ?_⟩
        · rcases e3 with ⟨-, f2, f3⟩ | ⟨f1, -⟩
          · have := f3 c' d' hd' (Or.inl hc')
            intro ho n hn
            have x1 : kk S2 n = kk S' n := by unfold kk; rw [f2 n (nb_lt hc' hn)]
            have x2 : kk S2 c' = kk S' c' := by unfold kk; rw [f2 c' hc']
            rw [x1, x2]; exact this ho n hn
          · rw [f1] at z; cases z
        · show 2 * sumN (kk S2) 64 + (if more' = 0 then 0 else 1) < 2 * sumN (kk S') 64 + (if more = 0 then 0 else 1)
          rw [if_neg q]
          rcases e3 with ⟨f1, f2, -⟩ | ⟨f1, f2⟩
          · have : sumN (kk S2) 64 = sumN (kk S') 64 := sumN_congr (fun x hx => by unfold kk; rw [f2 x hx])
            rw [if_pos f1]; omega
          · rw [f1, if_neg (by decide)]; omega
        · show bX8_findCosts_41 F k fl more S' = _
          unfold bX8_findCosts_41
          rw [if_neg q]
          exact e4 k)
    F (fl, (1 : Int32), S) ⟨1, S, rfl, hCI, Fr68.rf S, fun z => by cases z⟩ (by
      have := sum_bound (S := S) 64 (Nat.le_refl _) (fun c hc => (hCI c hc).2.1)
      show 2 * sumN (kk S) 64 + (if (1 : Int32) = 0 then 0 else 1) < F
      rw [if_neg (by decide)]
      omega)
  exact ⟨S', h1, h2, by rw [← h3, ← hr]; rfl⟩
theorem findCosts_spec {F : Nat} (hF : 20000000 < F) {fl : Int32} {S : gS} (hbb : b < 64) (hop : MOp op S) (hop2 : ∀ c, op c = true → c < 64) (hwt : MWt wt fl S) :
    ∃ S', CE op wt b S' ∧ Fr68 S S' ∧ fX8_findCosts F (nI b) fl S = some S' := by
  obtain ⟨r, ⟨S', h1, h2, h3⟩, hr⟩ := fix_up (body := fun k2 s => bX8_findCosts_2 F k2 s.1 s.2.1 s.2.2.1 s.2.2.2) 64
    (fun c s => ∃ S', s = (nI b, fl, nI c, S') ∧ Fr68 S S' ∧ ∀ x, x < c → S'.1 68 x = if x = b ∧ op b = true then nI 0 else nI 100000)
    (fun r => ∃ S', CE op wt b S' ∧ Fr68 S S' ∧ r = some S')
    (by
      rintro c s hc ⟨S', rfl, g1, g2⟩
      have e32 : ∀ k v, bX8_findCosts_32 F k (nI b) fl (nI c) v (nI c) S' = k (nI b, fl, nI (c + 1), g_setI S' 68 c v) := fun k v => by
        unfold bX8_findCosts_32
        rw [chk_nI hc (by decide), nI_clamp (by omega)]
        simp only [gl_def, nI_1]
      have c64 : ¬ ((64 : Int32) ≤ nI c) := nI_ge hc (by decide)
      refine Or.inl ⟨(nI b, fl, nI (c + 1), g_setI S' 68 c (if c = b ∧ op b = true then nI 0 else nI 100000)), ⟨_, rfl, g1.tr ⟨fun j k hj => rI_ne _ _ (Or.inl hj), rfl⟩, fun x hx => ?_⟩, fun k => ?_⟩
      · by_cases q : x = c
        · subst q; rw [rI_same]
        · rw [rI_ne _ _ (Or.inr q)]; exact g2 x (by omega)
      · show bX8_findCosts_2 F k (nI b) fl (nI c) S' = _
        unfold bX8_findCosts_2
        rw [if_neg c64]
        by_cases q : c = b
        · subst q
          rw [if_pos rfl, mayPass_spec F hc (hop.fr g1)]
          simp only [Option.bind_some]
          by_cases q2 : op c = true
          · simp only [q2, if_true]
            rw [if_neg (by decide), e32]
            simp
            rfl
          · have q2' : op c = false := by simpa using q2
            simp only [q2']
            rw [if_pos (by decide)]
            unfold bX8_findCosts_30
            rw [e32]
            simp
            rfl
        · rw [if_neg (fun z => q (nI_inj (by omega) (by omega) z))]
          unfold bX8_findCosts_30
          rw [e32]
          simp [q]
          rfl)
    (by
      rintro s ⟨S', rfl, g1, g2⟩
      have hCI : CI op wt b S' := by
        intro c hc
        have e := g2 c hc
        by_cases q : c = b ∧ op b = true
        · rw [if_pos q] at e
          have k0 : kk S' c = 0 := by unfold kk; rw [e, nI_clamp (by decide)]
          rw [k0]
          exact ⟨e, by omega, fun _ => by rw [q.1]; exact rch_0 q.2, fun _ _ => rfl⟩
        · rw [if_neg q] at e
          have k0 : kk S' c = 100000 := by unfold kk; rw [e, nI_clamp (by decide)]
          rw [k0]
          exact ⟨e, by omega, fun h => by omega, fun h1 h2 => absurd ⟨h1, h2⟩ q⟩
      obtain ⟨S2, f1, f2, f3⟩ := costs_while hF (hop.fr g1) hop2 (hwt.fr g1) hCI
      refine ⟨some S2, ⟨S2, f1, g1.tr f2, rfl⟩, fun k => ?_⟩
      show bX8_findCosts_2 F k (nI b) fl (nI 64) S' = _
      unfold bX8_findCosts_2
      rw [if_pos (by decide)]
      exact f3)
    F (nI b, fl, (0 : Int32), S) ⟨S, rfl, Fr68.rf S, fun x hx => by omega⟩ (by omega)
  exact ⟨S', h1, h2, by rw [← h3, ← hr]; rfl⟩
end COSTS

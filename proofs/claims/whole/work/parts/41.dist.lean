/-! ways and what the least of them costs: op: who may be passed; wt: what entering costs; b: the goal -/
def Rc (op : Nat → Bool) (wt : Nat → Nat) (b : Nat) : Nat → Nat → Nat → Prop
  | 0, c, d => c = b ∧ d = 0 ∧ op b = true
  | k + 1, c, d => op c = true ∧ ∃ dir n d', dir < 4 ∧ nb c dir = some n ∧ Rc op wt b k n d' ∧ d = d' + wt n
def Rch (op : Nat → Bool) (wt : Nat → Nat) (b c d : Nat) : Prop := ∃ k, Rc op wt b k c d
def isD (op : Nat → Bool) (wt : Nat → Nat) (b c d : Nat) : Prop := Rch op wt b c d ∧ ∀ d', Rch op wt b c d' → d ≤ d'
section DIST
variable {op : Nat → Bool} {wt : Nat → Nat} {b : Nat}
theorem rch_0 (h : op b = true) : Rch op wt b b 0 := ⟨0, rfl, rfl, h⟩
theorem rch_s {c n d dir : Nat} (ho : op c = true) (hd : dir < 4) (hn : nb c dir = some n) (h : Rch op wt b n d) : Rch op wt b c (d + wt n) := by
  obtain ⟨k, h⟩ := h
  exact ⟨k + 1, ho, dir, n, d, hd, hn, h, rfl⟩
theorem rch_op {c d : Nat} (h : Rch op wt b c d) : op c = true := by
  obtain ⟨k, h⟩ := h
  cases k with
  | zero => obtain ⟨h1, _, h2⟩ := h; rw [h1]; exact h2
  | succ k => exact h.1
theorem rch_lt {c d : Nat} (hb : b < 64) (hop : ∀ c, op c = true → c < 64) (h : Rch op wt b c d) : c < 64 := hop c (rch_op h)
theorem isD_u {c d e : Nat} (h1 : isD op wt b c d) (h2 : isD op wt b c e) : d = e := Nat.le_antisymm (h1.2 e h2.1) (h2.2 d h1.1)
theorem isD_ex {c d : Nat} (h : Rch op wt b c d) : ∃ e, e ≤ d ∧ isD op wt b c e := by
  obtain ⟨e, h1, h2⟩ := pk_least (fun e => Rch op wt b c e) ⟨d, h⟩
  refine ⟨e, ?_, h1, fun d' hd' => ?_⟩
  · rcases Nat.lt_or_ge d e with q | q
    · exact absurd h (h2 d q)
    · exact q
  · rcases Nat.lt_or_ge d' e with q | q
    · exact absurd hd' (h2 d' q)
    · exact q
theorem isD_b (h : op b = true) : isD op wt b b 0 := ⟨rch_0 h, fun _ _ => Nat.zero_le _⟩
theorem isD_le {c n d e dir : Nat} (h : isD op wt b c d) (hd : dir < 4) (hn : nb c dir = some n) (h2 : isD op wt b n e) : d ≤ e + wt n := h.2 _ (rch_s (rch_op h.1) hd hn h2.1)
/-- the last cell but one -/
theorem isD_back {c d : Nat} (h : isD op wt b c d) (hc : c ≠ b) : ∃ dir n e, dir < 4 ∧ nb c dir = some n ∧ isD op wt b n e ∧ d = e + wt n := by
  obtain ⟨⟨k, hk⟩, hm⟩ := h
  cases k with
  | zero => exact absurd hk.1 hc
  | succ k =>
    obtain ⟨ho, dir, n, d', h1, h2, h3, h4⟩ := hk
    obtain ⟨e, he, hD⟩ := isD_ex ⟨k, h3⟩
    have := hm _ (rch_s ho h1 h2 hD.1)
    exact ⟨dir, n, e, h1, h2, hD, by omega⟩
theorem isD_0 {c : Nat} (hw : ∀ n, 1 ≤ wt n) (h : isD op wt b c 0) : c = b := by
  rcases Nat.decEq c b with q | q
  · obtain ⟨dir, n, e, h1, h2, h3, h4⟩ := isD_back h q
    have := hw n
    omega
  · exact q
end DIST
/-! how many bits -/
def cntB (f : Nat → Bool) : Nat → Nat
  | 0 => 0
  | n + 1 => cntB f n + (if f n then 1 else 0)
theorem cntB_le (f : Nat → Bool) : ∀ n, cntB f n ≤ n := by
  intro n
  induction n with
  | zero => exact Nat.le_refl _
  | succ n ih => unfold cntB; split <;> omega
theorem cntB_congr {f g : Nat → Bool} : ∀ {n : Nat}, (∀ c, c < n → f c = g c) → cntB f n = cntB g n := by
  intro n
  induction n with
  | zero => intro _; rfl
  | succ n ih => intro h; unfold cntB; rw [ih (fun c hc => h c (by omega)), h n (by omega)]
theorem cntB_or {f g h : Nat → Bool} : ∀ {n : Nat}, (∀ c, c < n → f c = (g c || h c)) → (∀ c, c < n → ¬ (g c = true ∧ h c = true)) → cntB f n = cntB g n + cntB h n := by
  intro n
  induction n with
  | zero => intro _ _; rfl
  | succ n ih =>
    intro h1 h2
    unfold cntB
    rw [ih (fun c hc => h1 c (by omega)) (fun c hc => h2 c (by omega)), h1 n (by omega)]
    have := h2 n (by omega)
    cases hg : g n <;> cases hh : h n <;> simp_all <;> omega
theorem cntB_1 {c : Nat} : ∀ {n : Nat}, c < n → cntB (fun d => decide (d = c)) n = 1 := by
  intro n
  induction n with
  | zero => intro h; omega
  | succ n ih =>
    intro h
    unfold cntB
    by_cases q : n = c
    · subst q
      have : cntB (fun d => decide (d = n)) n = cntB (fun _ => false) n := cntB_congr (fun d hd => by simp; omega)
      rw [this]
      have z : ∀ m, cntB (fun _ => false) m = 0 := by
        intro m
        induction m with
        | zero => rfl
        | succ m ih2 => unfold cntB; rw [ih2]; rfl
      rw [z]; simp
    · rw [ih (by omega)]; simp [q]
theorem cntB_pop {f g : Nat → Bool} {c n : Nat} (hc : c < n) (hf : f c = true) (hg : ∀ d, d < n → g d = (f d && decide (d ≠ c))) : cntB f n = cntB g n + 1 := by
  rw [← cntB_1 hc]
  apply cntB_or
  · intro d hd
    rw [hg d hd]
    by_cases q : d = c
    · subst q; simp [hf]
    · simp [q]
  · intro d hd
    rw [hg d hd]
    by_cases q : d = c
    · subst q; simp
    · simp [q]
theorem cntB_0 {f : Nat → Bool} : ∀ {n : Nat}, cntB f n = 0 → ∀ c, c < n → f c = false := by
  intro n
  induction n with
  | zero => intro _ c hc; omega
  | succ n ih =>
    intro h c hc
    unfold cntB at h
    by_cases q : c = n
    · subst q
      cases hf : f c
      · rfl
      · rw [hf] at h; simp at h
    · exact ih (by omega) c (by omega)
theorem cntB_mono {f g : Nat → Bool} : ∀ {n : Nat}, (∀ c, c < n → f c = true → g c = true) → cntB f n ≤ cntB g n := by
  intro n
  induction n with
  | zero => intro _; exact Nat.le_refl _
  | succ n ih =>
    intro h
    unfold cntB
    have h1 := ih (fun c hc => h c (by omega))
    have h2 := h n (by omega)
    cases hf : f n <;> cases hg : g n <;> simp_all <;> omega
theorem cntB_lt {f g : Nat → Bool} {n c : Nat} (hc : c < n) (h : ∀ c, c < n → f c = true → g c = true) (hf : f c = false) (hg : g c = true) : cntB f n < cntB g n := by
  have h1 := cntB_pop (f := g) (g := fun d => g d && decide (d ≠ c)) hc hg (fun d _ => rfl)
  have h2 : cntB f n ≤ cntB (fun d => g d && decide (d ≠ c)) n := cntB_mono (fun d hd hfd => by
    have : d ≠ c := fun q => by subst q; rw [hf] at hfd; cases hfd
    simp [h d hd hfd, this])
  omega

/-! the words that every method may lean on; the nest words apart -/
def g_isNest : Cond → Bool
  | .fieldLinkNest .. => true
  | .methodLinkNest .. => true
  | _ => false
def gW : List Cond := lw_tbl.filter goodWord
def gN : List Cond := tables_1.filter g_isNest
theorem gW_of {w : Cond} (h : w ∈ lw_tbl) (g : goodWord w = true) : w ∈ gW := List.mem_filter.mpr ⟨h, g⟩
theorem gW_t {w : Cond} (i : Nat) (h : tables_1[i]? = some w) (g : goodWord w = true) : w ∈ gW := gW_of (List.mem_append_right _ (List.mem_of_getElem? h)) g
theorem gW_p {w : Cond} (i : Nat) (h : (k2_sels lw_privs)[i]? = some w) (g : goodWord w = true) : w ∈ gW := gW_of (List.mem_append_left _ (List.mem_of_getElem? h)) g
theorem gN_t {w : Cond} (i : Nat) (h : tables_1[i]? = some w) (g : g_isNest w = true) : w ∈ gN := List.mem_filter.mpr ⟨List.mem_of_getElem? h, g⟩
theorem gW_good {y : MethodName} {cc : ByteArray} {nL : Nat} {ret : Option FieldType} {ws : List Cond} (hs : ∀ w ∈ gW, w ∈ ws) (h : Cond.code y cc nL ret ∈ gW) : GoodIn ws (Cond.code y cc nL ret :: gW) := by
  intro w hw
  have h1 : w ∈ gW := by
    rcases List.mem_cons.mp hw with e | e
    · rw [e]; exact h
    · exact e
  exact ⟨hs w h1, good_of_word (List.mem_filter.mp h1).2⟩
/-! the cells: what each is (the shapes never change), and what it holds now -/
abbrev gS : Type := (Nat → Nat → Int32) × (Nat → Nat → Int64)
abbrev gX : Type := Nat × va_G × (Nat → ClassId)
abbrev gSh : Type := (Nat × List (Option (Option Nat))) ⊕ (Nat × Nat × Nat × Nat)
def g_fv (X : gX) (S : gS) (i k : Nat) : Option (Option Nat) → Value
  | some (some t) => .ref (X.1 + t)
  | some none => .int (S.1 i k)
  | none => .long (S.2 i k)
def g_fvs (X : gX) (S : gS) (i : Nat) : Nat → List (Option (Option Nat)) → List Value
  | _, [] => []
  | k, d :: ds => g_fv X S i k d :: g_fvs X S i (k + 1) ds
def g_arr (X : gX) (S : gS) (i kd b w : Nat) : (Nat → Int32) ⊕ (Nat → Int64) ⊕ (Nat → UInt32) ⊕ (Nat → UInt64) ⊕ (Nat → Option Nat) :=
  if kd = 1 then .inr (.inl (S.2 i)) else if kd < 3 then .inl (S.1 i) else .inr (.inr (.inr (.inr (fun j => some (X.1 + (b + w * j))))))
def g_cell (X : gX) (S : gS) (i : Nat) : gSh → va_E
  | .inl (ci, ds) => .inr (ci, g_fvs X S i 0 ds)
  | .inr (kd, n, b, w) => .inl (X.2.2 kd, n, g_arr X S i kd b w)
def g_wl (X : gX) (S : gS) : Nat → List gSh → va_W
  | _, [] => []
  | i, c :: cs => (X.1 + i, g_cell X S i c) :: g_wl X S (i + 1) cs
def g_shps : List gSh := [
  .inl (7, [some (some 1), some (some 3), some (some 9), some (some 12), some (some 16), some (some 19), some (some 42), some none, some none, some none, some none, some none]),
  .inl (0, [some (some 2), some none, some none, none, none]),
  .inr (0, 75, 0, 0),
  .inl (1, [some (some 4), some (some 5), some (some 6), some (some 7), some (some 8)]),
  .inr (0, 64, 0, 0),
  .inr (0, 64, 0, 0),
  .inr (0, 64, 0, 0),
  .inr (0, 64, 0, 0),
  .inr (0, 64, 0, 0),
  .inl (6, [some (some 10), some (some 11), some none]),
  .inr (0, 8, 0, 0),
  .inr (0, 8, 0, 0),
  .inl (4, [some (some 13), some (some 14), some (some 15), some none, none]),
  .inr (0, 64, 0, 0),
  .inr (1, 32, 0, 0),
  .inr (0, 64, 0, 0),
  .inl (3, [some (some 1), some (some 12), some (some 17), some (some 18), some none, some none, some none, some none]),
  .inr (0, 64, 0, 0),
  .inr (0, 64, 0, 0),
  .inl (2, [some (some 1), some (some 9), some (some 20), some (some 21), some (some 22), some (some 23), some none, some none, some none, some none]),
  .inr (3, 6, 24, 3),
  .inr (0, 5, 0, 0),
  .inr (0, 5, 0, 0),
  .inr (0, 5, 0, 0),
  .inl (3, [some (some 1), some (some 12), some (some 25), some (some 26), some none, some none, some none, some none]),
  .inr (0, 64, 0, 0),
  .inr (0, 64, 0, 0),
  .inl (3, [some (some 1), some (some 12), some (some 28), some (some 29), some none, some none, some none, some none]),
  .inr (0, 64, 0, 0),
  .inr (0, 64, 0, 0),
  .inl (3, [some (some 1), some (some 12), some (some 31), some (some 32), some none, some none, some none, some none]),
  .inr (0, 64, 0, 0),
  .inr (0, 64, 0, 0),
  .inl (3, [some (some 1), some (some 12), some (some 34), some (some 35), some none, some none, some none, some none]),
  .inr (0, 64, 0, 0),
  .inr (0, 64, 0, 0),
  .inl (3, [some (some 1), some (some 12), some (some 37), some (some 38), some none, some none, some none, some none]),
  .inr (0, 64, 0, 0),
  .inr (0, 64, 0, 0),
  .inl (3, [some (some 1), some (some 12), some (some 40), some (some 41), some none, some none, some none, some none]),
  .inr (0, 64, 0, 0),
  .inr (0, 64, 0, 0),
  .inr (4, 4, 43, 2),
  .inl (5, [some (some 44), some none, some none]),
  .inr (0, 64, 0, 0),
  .inl (5, [some (some 46), some none, some none]),
  .inr (0, 64, 0, 0),
  .inl (5, [some (some 48), some none, some none]),
  .inr (0, 64, 0, 0),
  .inl (5, [some (some 50), some none, some none]),
  .inr (0, 64, 0, 0),
  .inl (8, [some (some 52), some (some 53), some (some 54), some (some 55), some none, some (some 56), some none, some (some 57), some (some 58), some (some 59), some (some 60), some (some 61), some none, some (some 62), some (some 63), some (some 64), some (some 65), some (some 66), some (some 67), some none, some (some 68), some none, some none, some none, some none, some (some 69), some none, some (some 70), some (some 71), some none, some none, some none, some none, some (some 72), some none, some none]),
  .inr (0, 4, 0, 0),
  .inr (0, 4, 0, 0),
  .inr (0, 256, 0, 0),
  .inr (0, 64, 0, 0),
  .inr (0, 75, 0, 0),
  .inr (0, 64, 0, 0),
  .inr (0, 64, 0, 0),
  .inr (0, 64, 0, 0),
  .inr (0, 64, 0, 0),
  .inr (0, 64, 0, 0),
  .inr (0, 8, 0, 0),
  .inr (0, 8, 0, 0),
  .inr (0, 64, 0, 0),
  .inr (0, 64, 0, 0),
  .inr (0, 64, 0, 0),
  .inr (2, 64, 0, 0),
  .inr (0, 64, 0, 0),
  .inr (0, 64, 0, 0),
  .inr (0, 5, 0, 0),
  .inr (0, 5, 0, 0),
  .inr (2, 64, 0, 0)]
def g_ws (X : gX) (S : gS) : va_W := g_wl X S 0 g_shps
theorem g_fvs_get (X : gX) (S : gS) (i : Nat) (ds : List (Option (Option Nat))) : ∀ (k0 k : Nat), (g_fvs X S i k0 ds)[k]? = (ds[k]?).map (g_fv X S i (k0 + k)) := by
  induction ds with
  | nil => intro k0 k; simp [g_fvs]
  | cons d ds ih =>
    intro k0 k
    cases k with
    | zero => simp [g_fvs]
    | succ k =>
      simp only [g_fvs, List.getElem?_cons_succ]
      rw [ih (k0 + 1) k, show k0 + 1 + k = k0 + (k + 1) by omega]
theorem g_fvs_len (X : gX) (S : gS) (i : Nat) (ds : List (Option (Option Nat))) : ∀ k0, (g_fvs X S i k0 ds).length = ds.length := by
  induction ds with
  | nil => intro k0; rfl
  | cons d ds ih => intro k0; simp [g_fvs, ih]
theorem g_wl_get (X : gX) (S : gS) (l : List gSh) : ∀ (i k : Nat), (g_wl X S i l)[k]? = (l[k]?).map (fun c => (X.1 + (i + k), g_cell X S (i + k) c)) := by
  induction l with
  | nil => intro i k; simp [g_wl]
  | cons c cs ih =>
    intro i k
    cases k with
    | zero => simp [g_wl]
    | succ k =>
      simp only [g_wl, List.getElem?_cons_succ]
      rw [ih (i + 1) k, show i + 1 + k = i + (k + 1) by omega]
theorem g_ws_get (X : gX) (S : gS) {k : Nat} {c : gSh} (h : g_shps[k]? = some c) : (g_ws X S)[k]? = some (X.1 + k, g_cell X S k c) := by
  unfold g_ws
  rw [g_wl_get, h, Nat.zero_add]
  rfl
theorem g_ws_get' (X : gX) (S : gS) (k : Nat) : (g_ws X S)[k]? = (g_shps[k]?).map (fun c => (X.1 + k, g_cell X S k c)) := by
  unfold g_ws
  rw [g_wl_get, Nat.zero_add]
theorem g_ws_set (X : gX) (S S' : gS) {k : Nat} {c : gSh} {e : va_E} (h : g_shps[k]? = some c) (hc : g_cell X S' k c = e) (ho : ∀ (j : Nat) (c' : gSh), j ≠ k → g_cell X S' j c' = g_cell X S j c') : (g_ws X S).set k (X.1 + k, e) = g_ws X S' := by
  apply List.ext_getElem?
  intro j
  rw [List.getElem?_set, g_ws_get', g_ws_get']
  by_cases hj : k = j
  · subst hj
    have hlt : k < (g_ws X S).length := by
      have := g_ws_get X S h
      exact (List.getElem?_eq_some_iff.mp this).1
    simp only [if_true, hlt, h, Option.map_some, hc]
  · simp only [hj, if_false]
    cases g_shps[j]? with
    | none => rfl
    | some c' => simp only [Option.map_some, ho j c' (fun q => hj q.symm)]
theorem g_D (X : gX) (S : gS) : va_D (fun q => X.1 ≤ q) (g_ws X S) := by
  refine ⟨fun i j p q hp hq e => ?_, fun k q hk => ?_⟩
  · rw [g_ws_get'] at hp hq
    cases h1 : g_shps[i]? with
    | none => rw [h1] at hp; cases hp
    | some c1 =>
      cases h2 : g_shps[j]? with
      | none => rw [h2] at hq; cases hq
      | some c2 =>
        rw [h1] at hp; rw [h2] at hq
        simp only [Option.map_some, Option.some.injEq] at hp hq
        subst hp; subst hq
        simp only at e
        omega
  · rw [g_ws_get'] at hk
    cases h1 : g_shps[k]? with
    | none => rw [h1] at hk; cases hk
    | some c1 =>
      rw [h1] at hk
      simp only [Option.map_some, Option.some.injEq] at hk
      subst hk
      simp only
      omega
def g_setI (S : gS) (i k : Nat) (v : Int32) : gS := (fun a b => if a = i ∧ b = k then v else S.1 a b, S.2)
def g_setJ (S : gS) (i k : Nat) (v : Int64) : gS := (S.1, fun a b => if a = i ∧ b = k then v else S.2 a b)
def g_cpyI (S : gS) (i j sp dp n : Nat) : gS := (fun a b => if a = j then va_cpy (S.1 i) (S.1 j) sp dp n b else S.1 a b, S.2)
theorem g_fvs_congr (X : gX) (S S' : gS) (i : Nat) (h1 : ∀ k, S'.1 i k = S.1 i k) (h2 : ∀ k, S'.2 i k = S.2 i k) (ds : List (Option (Option Nat))) : ∀ k0, g_fvs X S' i k0 ds = g_fvs X S i k0 ds := by
  induction ds with
  | nil => intro k0; rfl
  | cons d ds ih =>
    intro k0
    simp only [g_fvs, ih]
    congr 1
    rcases d with _ | _ | t <;> simp [g_fv, h1, h2]
theorem g_cell_congr (X : gX) (S S' : gS) (i : Nat) (h1 : ∀ k, S'.1 i k = S.1 i k) (h2 : ∀ k, S'.2 i k = S.2 i k) (c : gSh) : g_cell X S' i c = g_cell X S i c := by
  rcases c with ⟨ci, ds⟩ | ⟨kd, n, b, w⟩
  · simp only [g_cell, g_fvs_congr X S S' i h1 h2]
  · have e1 : S'.1 i = S.1 i := funext h1
    have e2 : S'.2 i = S.2 i := funext h2
    simp only [g_cell, g_arr, e1, e2]
theorem g_fvs_set (X : gX) (S S' : gS) (i : Nat) (v : Value) (k : Nat) (ds : List (Option (Option Nat))) (hk : ∀ d, ds[k]? = some d → g_fv X S' i k d = v) (ho : ∀ j d, j ≠ k → ds[j]? = some d → g_fv X S' i j d = g_fv X S i j d) : (g_fvs X S i 0 ds).set k v = g_fvs X S' i 0 ds := by
  apply List.ext_getElem?
  intro j
  rw [List.getElem?_set, g_fvs_get, g_fvs_get, g_fvs_len]
  by_cases hj : k = j
  · subst hj
    cases hd : ds[k]? with
    | none =>
      have : ¬ k < ds.length := by
        intro h
        rw [List.getElem?_eq_getElem h] at hd
        cases hd
      simp [this]
    | some d =>
      have : k < ds.length := (List.getElem?_eq_some_iff.mp hd).1
      simp [this, hk d hd]
  · simp only [hj, if_false]
    cases hd : ds[j]? with
    | none => rfl
    | some d => simp only [Option.map_some, Nat.zero_add, ho j d (fun q => hj q.symm) hd]
/-! what a place is -/
def g_isI (i ci k : Nat) : Prop := ∃ ds, g_shps[i]? = some (.inl (ci, ds)) ∧ ds[k]? = some (some none)
def g_isJ (i ci k : Nat) : Prop := ∃ ds, g_shps[i]? = some (.inl (ci, ds)) ∧ ds[k]? = some none
def g_isR (i ci k t : Nat) : Prop := ∃ ds, g_shps[i]? = some (.inl (ci, ds)) ∧ ds[k]? = some (some (some t))
def g_isO (i ci : Nat) : Prop := ∃ ds, g_shps[i]? = some (.inl (ci, ds))
def g_isA (i kd n : Nat) : Prop := ∃ b w, g_shps[i]? = some (.inr (kd, n, b, w))
def g_isAR (i kd n b w : Nat) : Prop := g_shps[i]? = some (.inr (kd, n, b, w))
theorem g_isI.o {i ci k : Nat} (h : g_isI i ci k) : g_isO i ci := by obtain ⟨ds, h, -⟩ := h; exact ⟨ds, h⟩
theorem g_isR.o {i ci k t : Nat} (h : g_isR i ci k t) : g_isO i ci := by obtain ⟨ds, h, -⟩ := h; exact ⟨ds, h⟩
/-! the state's other words -/
def g_tys (X : gX) : List (ClassId × FieldType) := [(X.2.2 0, .int), (X.2.2 1, .long), (X.2.2 2, .boolean), (X.2.2 3, .object "SnowPaths$Outing"), (X.2.2 4, .object "SnowPaths$Sheet")]
def g_K (X : gX) (U : State) : Prop := va_K X.2.1 vwCl (g_tys X) U ∧ ∀ w ∈ gN, va_Nw w U
theorem gN_form {w : Cond} (h : w ∈ gN) : (∃ a i b n d h', w = .fieldLinkNest a i b n d h') ∨ ∃ a i x h', w = .methodLinkNest a i x h' := by
  have h2 := (List.mem_filter.mp h).2
  cases w <;> first | (simp [g_isNest] at h2; done) | exact Or.inl ⟨_, _, _, _, _, _, rfl⟩ | exact Or.inr ⟨_, _, _, _, rfl⟩
theorem g_K.warm {X : gX} {s U : State} (hW : s.WarmedH U.vm) (h : g_K X s) : g_K X U := by
  refine ⟨va_K.moved hW.alike h.1, fun w hw => ?_⟩
  rcases gN_form hw with ⟨a, i, b, n, d, h', rfl⟩ | ⟨a, i, x, h', rfl⟩
  · exact va_Nw.warmF hW (h.2 _ hw)
  · exact va_Nw.warmM hW (h.2 _ hw)
theorem g_K.same {X : gX} {u U : State} (h : u.vm = U.vm) (hK : g_K X u) : g_K X U := by
  refine ⟨va_K.moved (by rw [h]; exact Vm.Alike.refl U.vm) hK.1, fun w hw => ?_⟩
  rcases gN_form hw with ⟨a, i, b, n, d, h', rfl⟩ | ⟨a, i, x, h', rfl⟩
  · exact va_Nw.same rfl h (hK.2 _ hw)
  · exact va_Nw.same rfl h (hK.2 _ hw)
abbrev gP (X : gX) (S : gS) (H : Heap) : Prop := va_P X.2.1 vwCl (g_ws X S) H
abbrev gA (X : gX) : Nat → Prop := fun q => X.1 ≤ q
def g_room (h : Nat) : Room := { frames := h, cells := 0, slots := 0, locals := 45 * h }
def g_Q (X : gX) (ro : Option Value) (S' : gS) : Array Value → State → Outcome → State → Prop := fun _ st o t => (o = .returned ro ∧ gP X S' t.heap) ∧ va_F (gA X) st t
def g_Pc (X : gX) (av : List Value) (S : gS) : Array Value → State → Prop := fun a U => a = av.toArray ∧ gP X S U.heap ∧ g_K X U
/-- a method's contract: from the cells S, with the arguments av, it answers ro, and the cells are S' -/
def g_C (X : gX) (y : MethodName) (cc : ByteArray) (nL : Nat) (ret : Option FieldType) (h : Nat) (av : List Value) (S : gS) (ro : Option Value) (S' : gS) : Prop :=
  ∀ l : Launch, Met l y (.code y cc nL ret :: gW) (g_room h) (g_Pc X av S) (g_Q X ro S') 0 0 (gA X)
def g_At (X : gX) (own : String) (cc : ByteArray) (nL : Nat) (p : Program) (s : State) (m : MethodId) (args : Array Value) (c : Code) : Prop :=
  p.tables.exec = Jvm.exec ∧ c.code = cc ∧ c.maxLocals = nL ∧ s.vm.findClass own = some m.cls ∧ (∀ w ∈ gW, w.before args s = true) ∧ g_K X s
/-! links -/
def g_lnk (own : String) (idx ci k : Nat) : Prop := ∃ C T N, vwCl[ci]? = some (C, T, N) ∧ (∀ w ∈ u_ws C T N, w ∈ gW) ∧ k < N ∧ (T k).1 = C ∧
  (Cond.fieldLink own idx C (T k).2.1 (T k).2.2.1 ∈ gW ∨ ∃ host, Cond.fieldLinkNest own idx C (T k).2.1 (T k).2.2.1 host ∈ gN)
def g_lnkP (own : String) (idx ci k : Nat) (ty : FieldType) : Prop := ∃ C T N, vwCl[ci]? = some (C, T, N) ∧ (∀ w ∈ u_ws C T N, w ∈ gW) ∧ k < N ∧ (T k).1 = C ∧
  (Cond.fieldLink own idx C (T k).2.1 (T k).2.2.1 ∈ gW ∨ ∃ host, Cond.fieldLinkNest own idx C (T k).2.1 (T k).2.2.1 host ∈ gN) ∧
  (∃ ty0 : Nat → FieldType, ∀ k, k < N → parseFieldDescriptor (T k).2.2.1 = some (ty0 k)) ∧ (∀ a, a < N → ∀ b, b < N → a ≠ b → (T a).2.1 ≠ (T b).2.1) ∧ (T k).2.2.2 = false ∧ parseFieldDescriptor (T k).2.2.1 = some ty
section WR
variable {p : Program} {l : Launch} {e : Env} {R : Room} {s : State} {m : MethodId} {args : Array Value} {below : List Frame} {meth : Method} {c : Code} {H : Heap} {locs : List Loc} {cells slots : Nat} {Q : State → Prop}
variable {X : gX} {S : gS} {cc : ByteArray} {pc nL : Nat} {ls : Array Slot} {rest : List Value} {own : String} {H0 : Heap}
theorem w_get {i ci k idx : Nat} {v : Value} (A : g_At X own cc nL p s m args c) (hP : gP X S H) (L : g_lnk own idx ci k) {ds : List (Option (Option Nat))} (hs : g_shps[i]? = some (.inl (ci, ds))) (hv : (g_fvs X S i 0 ds)[k]? = some v) (hdg : decode cc pc = .ok (.getfield idx, 3))
    (kk : W p l e R s m args below meth c H locs cells slots Q (F0 m (pc + 3) ls (v :: rest))) : W p l e R s m args below meth c H locs cells slots Q (F0 m pc ls (.ref (X.1 + i) :: rest)) := by
  obtain ⟨hx, hb, hml, hown, hts, hK⟩ := A
  obtain ⟨C, T, N, h1, h2, h3, h4, h5⟩ := L
  subst h4
  have he := g_ws_get X S hs
  rcases h5 with h5 | ⟨host, h5⟩
  · exact va_get hx hb hts h2 hown hK.1 hP i he h1 k h3 (hts _ h5) (fun _ h => h) hv hdg kk
  · exact va_getN hx hb hts h2 hown hK.1 hP i he h1 k h3 (va_Nw.use rfl (hK.2 _ h5)) (fun _ h => h) hv hdg kk
theorem w_put {i ci k idx : Nat} {v : Value} {ty : FieldType} {S' : gS} (A : g_At X own cc nL p s m args c) (hP : gP X S H) (hS : va_S (gA X) H0 H locs) (L : g_lnkP own idx ci k ty) {ds : List (Option (Option Nat))} (hs : g_shps[i]? = some (.inl (ci, ds))) (hk : k < ds.length) (hn : narrow ty v = v) (hfit : fits ty v = true)
    (hset : (g_fvs X S i 0 ds).set k v = g_fvs X S' i 0 ds) (ho : ∀ (j : Nat) (c' : gSh), j ≠ i → g_cell X S' j c' = g_cell X S j c') (hdg : decode cc pc = .ok (.putfield idx, 3))
    (kk : ∀ (H1 : Heap) (locs1 : List Loc), gP X S' H1 → va_S (gA X) H0 H1 locs1 → W p l e R s m args below meth c H1 locs1 cells slots Q (F0 m (pc + 3) ls rest)) : W p l e R s m args below meth c H locs cells slots Q (F0 m pc ls (v :: .ref (X.1 + i) :: rest)) := by
  obtain ⟨hx, hb, hml, hown, hts, hK⟩ := A
  obtain ⟨C, T, N, h1, h2, h3, h4, h5, ⟨ty0, h6⟩, h7, h8, h9⟩ := L
  subst h4
  have he := g_ws_get X S hs
  have hlen : k < (g_fvs X S i 0 ds).length := by rw [g_fvs_len]; exact hk
  have hws : (g_ws X S).set i (X.1 + i, .inr (ci, (g_fvs X S i 0 ds).set k v)) = g_ws X S' := g_ws_set X S S' hs (by rw [hset]; rfl) ho
  rcases h5 with h5 | ⟨host, h5⟩
  · refine va_put hx hb hts h2 ty0 h6 h7 hown hK.1 hP (g_D X S) hS i he h1 k h3 (hts _ h5) (fun _ h => h) h8 h9 hn hfit hlen hdg (fun H1 locs1 hP1 hD1 hS1 => ?_)
    rw [hws] at hP1
    exact kk H1 locs1 hP1 hS1
  · refine va_putN hx hb hts h2 ty0 h6 h7 hown hK.1 hP (g_D X S) hS i he h1 k h3 (va_Nw.use rfl (hK.2 _ h5)) (fun _ h => h) h8 h9 hn hfit hlen hdg (fun H1 locs1 hP1 hD1 hS1 => ?_)
    rw [hws] at hP1
    exact kk H1 locs1 hP1 hS1
theorem w_geti {i ci k idx : Nat} (A : g_At X own cc nL p s m args c) (hP : gP X S H) (L : g_lnk own idx ci k) (hs : g_isI i ci k) (hdg : decode cc pc = .ok (.getfield idx, 3))
    (kk : W p l e R s m args below meth c H locs cells slots Q (F0 m (pc + 3) ls (.int (S.1 i k) :: rest))) : W p l e R s m args below meth c H locs cells slots Q (F0 m pc ls (.ref (X.1 + i) :: rest)) := by
  obtain ⟨ds, h1, h2⟩ := hs
  exact w_get A hP L h1 (by rw [g_fvs_get, h2]; simp [g_fv]) hdg kk
theorem w_getj {i ci k idx : Nat} (A : g_At X own cc nL p s m args c) (hP : gP X S H) (L : g_lnk own idx ci k) (hs : g_isJ i ci k) (hdg : decode cc pc = .ok (.getfield idx, 3))
    (kk : W p l e R s m args below meth c H locs cells slots Q (F0 m (pc + 3) ls (.long (S.2 i k) :: rest))) : W p l e R s m args below meth c H locs cells slots Q (F0 m pc ls (.ref (X.1 + i) :: rest)) := by
  obtain ⟨ds, h1, h2⟩ := hs
  exact w_get A hP L h1 (by rw [g_fvs_get, h2]; simp [g_fv]) hdg kk
theorem w_getr {i ci k idx t : Nat} (A : g_At X own cc nL p s m args c) (hP : gP X S H) (L : g_lnk own idx ci k) (hs : g_isR i ci k t) (hdg : decode cc pc = .ok (.getfield idx, 3))
    (kk : W p l e R s m args below meth c H locs cells slots Q (F0 m (pc + 3) ls (.ref (X.1 + t) :: rest))) : W p l e R s m args below meth c H locs cells slots Q (F0 m pc ls (.ref (X.1 + i) :: rest)) := by
  obtain ⟨ds, h1, h2⟩ := hs
  exact w_get A hP L h1 (by rw [g_fvs_get, h2]; simp [g_fv]) hdg kk
theorem g_cell_setI_ne (X : gX) (S : gS) (i k : Nat) (v : Int32) : ∀ (j : Nat) (c' : gSh), j ≠ i → g_cell X (g_setI S i k v) j c' = g_cell X S j c' := fun j c' h => g_cell_congr X S (g_setI S i k v) j (fun b => by simp [g_setI, h]) (fun b => rfl) c'
theorem g_cell_setJ_ne (X : gX) (S : gS) (i k : Nat) (v : Int64) : ∀ (j : Nat) (c' : gSh), j ≠ i → g_cell X (g_setJ S i k v) j c' = g_cell X S j c' := fun j c' h => g_cell_congr X S (g_setJ S i k v) j (fun b => rfl) (fun b => by simp [g_setJ, h]) c'
theorem w_puti {i ci k idx : Nat} {v : Int32} (A : g_At X own cc nL p s m args c) (hP : gP X S H) (hS : va_S (gA X) H0 H locs) (L : g_lnkP own idx ci k .int) (hs : g_isI i ci k) (hdg : decode cc pc = .ok (.putfield idx, 3))
    (kk : ∀ (H1 : Heap) (locs1 : List Loc), gP X (g_setI S i k v) H1 → va_S (gA X) H0 H1 locs1 → W p l e R s m args below meth c H1 locs1 cells slots Q (F0 m (pc + 3) ls rest)) : W p l e R s m args below meth c H locs cells slots Q (F0 m pc ls (.int v :: .ref (X.1 + i) :: rest)) := by
  obtain ⟨ds, h1, h2⟩ := hs
  refine w_put A hP hS L h1 (List.getElem?_eq_some_iff.mp h2).1 rfl rfl (g_fvs_set X S _ i _ k ds (fun d hd => ?_) (fun j d hj hd => ?_)) (g_cell_setI_ne X S i k v) hdg kk
  · rw [h2] at hd; cases hd; simp [g_fv, g_setI]
  · rcases d with _ | _ | t <;> simp [g_fv, g_setI, hj]
theorem w_putj {i ci k idx : Nat} {v : Int64} (A : g_At X own cc nL p s m args c) (hP : gP X S H) (hS : va_S (gA X) H0 H locs) (L : g_lnkP own idx ci k .long) (hs : g_isJ i ci k) (hdg : decode cc pc = .ok (.putfield idx, 3))
    (kk : ∀ (H1 : Heap) (locs1 : List Loc), gP X (g_setJ S i k v) H1 → va_S (gA X) H0 H1 locs1 → W p l e R s m args below meth c H1 locs1 cells slots Q (F0 m (pc + 3) ls rest)) : W p l e R s m args below meth c H locs cells slots Q (F0 m pc ls (.long v :: .ref (X.1 + i) :: rest)) := by
  obtain ⟨ds, h1, h2⟩ := hs
  refine w_put A hP hS L h1 (List.getElem?_eq_some_iff.mp h2).1 rfl rfl (g_fvs_set X S _ i _ k ds (fun d hd => ?_) (fun j d hj hd => ?_)) (g_cell_setJ_ne X S i k v) hdg kk
  · rw [h2] at hd; cases hd; simp [g_fv, g_setJ]
  · rcases d with _ | _ | t <;> simp [g_fv, g_setJ, hj]
theorem w_iald {i n : Nat} {j : Int32} (A : g_At X own cc nL p s m args c) (hP : gP X S H) (hs : g_isA i 0 n) (hin : vp_in j n) (hdg : decode cc pc = .ok (.iaload, 1))
    (kk : W p l e R s m args below meth c H locs cells slots Q (F0 m (pc + 1) ls (.int (S.1 i j.toNatClampNeg) :: rest))) : W p l e R s m args below meth c H locs cells slots Q (F0 m pc ls (.int j :: .ref (X.1 + i) :: rest)) := by
  obtain ⟨b, w, h1⟩ := hs
  exact va_iald A.1 A.2.1 A.2.2.2.2.2.1 hP i 0 (g_ws_get X S h1) rfl hin hdg kk
theorem w_zald {i n : Nat} {j : Int32} (A : g_At X own cc nL p s m args c) (hP : gP X S H) (hs : g_isA i 2 n) (hin : vp_in j n) (hdg : decode cc pc = .ok (.baload, 1))
    (kk : W p l e R s m args below meth c H locs cells slots Q (F0 m (pc + 1) ls (.int (S.1 i j.toNatClampNeg) :: rest))) : W p l e R s m args below meth c H locs cells slots Q (F0 m pc ls (.int j :: .ref (X.1 + i) :: rest)) := by
  obtain ⟨b, w, h1⟩ := hs
  exact va_zald A.1 A.2.1 A.2.2.2.2.2.1 hP i 2 (g_ws_get X S h1) rfl hin hdg kk
theorem w_lald {i n : Nat} {j : Int32} (A : g_At X own cc nL p s m args c) (hP : gP X S H) (hs : g_isA i 1 n) (hin : vp_in j n) (hdg : decode cc pc = .ok (.laload, 1))
    (kk : W p l e R s m args below meth c H locs cells slots Q (F0 m (pc + 1) ls (.long (S.2 i j.toNatClampNeg) :: rest))) : W p l e R s m args below meth c H locs cells slots Q (F0 m pc ls (.int j :: .ref (X.1 + i) :: rest)) := by
  obtain ⟨b, w, h1⟩ := hs
  exact va_lald A.1 A.2.1 A.2.2.2.2.2.1 hP i 1 (g_ws_get X S h1) rfl hin hdg kk
theorem g_upd_eq (S : gS) (i k : Nat) (v : Int32) : (g_setI S i k v).1 i = upd (S.1 i) k v := by
  funext b
  simp [g_setI, upd]
theorem g_updJ_eq (S : gS) (i k : Nat) (v : Int64) : (g_setJ S i k v).2 i = vp_updL (S.2 i) k v := by
  funext b
  simp [g_setJ, vp_updL]
theorem w_iast {i n : Nat} {j v : Int32} (A : g_At X own cc nL p s m args c) (hP : gP X S H) (hS : va_S (gA X) H0 H locs) (hs : g_isA i 0 n) (hin : vp_in j n) (hdg : decode cc pc = .ok (.iastore, 1))
    (kk : ∀ (H1 : Heap) (locs1 : List Loc), gP X (g_setI S i j.toNatClampNeg v) H1 → va_S (gA X) H0 H1 locs1 → W p l e R s m args below meth c H1 locs1 cells slots Q (F0 m (pc + 1) ls rest)) : W p l e R s m args below meth c H locs cells slots Q (F0 m pc ls (.int v :: .int j :: .ref (X.1 + i) :: rest)) := by
  obtain ⟨b, w, h1⟩ := hs
  refine va_iast A.1 A.2.1 A.2.2.2.2.2.1 hP (g_D X S) hS i 0 (g_ws_get X S h1) rfl hin hdg (fun H1 locs1 hP1 hD1 hS1 => kk H1 locs1 ?_ hS1)
  rw [g_ws_set X S (g_setI S i j.toNatClampNeg v) h1 (by simp [g_cell, g_arr, g_upd_eq]) (g_cell_setI_ne X S i _ v)] at hP1
  exact hP1
theorem w_zast {i n : Nat} {j v : Int32} (A : g_At X own cc nL p s m args c) (hP : gP X S H) (hS : va_S (gA X) H0 H locs) (hs : g_isA i 2 n) (hin : vp_in j n) (hdg : decode cc pc = .ok (.bastore, 1))
    (kk : ∀ (H1 : Heap) (locs1 : List Loc), gP X (g_setI S i j.toNatClampNeg (vp_nar .boolean v)) H1 → va_S (gA X) H0 H1 locs1 → W p l e R s m args below meth c H1 locs1 cells slots Q (F0 m (pc + 1) ls rest)) : W p l e R s m args below meth c H locs cells slots Q (F0 m pc ls (.int v :: .int j :: .ref (X.1 + i) :: rest)) := by
  obtain ⟨b, w, h1⟩ := hs
  refine va_zast A.1 A.2.1 A.2.2.2.2.2.1 hP (g_D X S) hS i 2 (g_ws_get X S h1) rfl hin hdg (fun H1 locs1 hP1 hD1 hS1 => kk H1 locs1 ?_ hS1)
  rw [g_ws_set X S (g_setI S i j.toNatClampNeg (vp_nar .boolean v)) h1 (by simp [g_cell, g_arr, g_upd_eq]) (g_cell_setI_ne X S i _ _)] at hP1
  exact hP1
theorem w_last {i n : Nat} {j : Int32} {v : Int64} (A : g_At X own cc nL p s m args c) (hP : gP X S H) (hS : va_S (gA X) H0 H locs) (hs : g_isA i 1 n) (hin : vp_in j n) (hdg : decode cc pc = .ok (.lastore, 1))
    (kk : ∀ (H1 : Heap) (locs1 : List Loc), gP X (g_setJ S i j.toNatClampNeg v) H1 → va_S (gA X) H0 H1 locs1 → W p l e R s m args below meth c H1 locs1 cells slots Q (F0 m (pc + 1) ls rest)) : W p l e R s m args below meth c H locs cells slots Q (F0 m pc ls (.long v :: .int j :: .ref (X.1 + i) :: rest)) := by
  obtain ⟨b, w, h1⟩ := hs
  refine va_last A.1 A.2.1 A.2.2.2.2.2.1 hP (g_D X S) hS i 1 (g_ws_get X S h1) rfl hin hdg (fun H1 locs1 hP1 hD1 hS1 => kk H1 locs1 ?_ hS1)
  rw [g_ws_set X S (g_setJ S i j.toNatClampNeg v) h1 (by simp [g_cell, g_arr, g_updJ_eq]) (g_cell_setJ_ne X S i _ v)] at hP1
  exact hP1
theorem w_aald3 {i n b w : Nat} {j : Int32} (A : g_At X own cc nL p s m args c) (hP : gP X S H) (hs : g_isAR i 3 n b w) (hin : vp_in j n) (hdg : decode cc pc = .ok (.aaload, 1))
    (kk : W p l e R s m args below meth c H locs cells slots Q (F0 m (pc + 1) ls (.ref (X.1 + (b + w * j.toNatClampNeg)) :: rest))) : W p l e R s m args below meth c H locs cells slots Q (F0 m pc ls (.int j :: .ref (X.1 + i) :: rest)) :=
  va_aldq A.1 A.2.1 A.2.2.2.2.2.1 hP i 3 (g_ws_get X S hs) rfl hin hdg kk
theorem w_aald4 {i n b w : Nat} {j : Int32} (A : g_At X own cc nL p s m args c) (hP : gP X S H) (hs : g_isAR i 4 n b w) (hin : vp_in j n) (hdg : decode cc pc = .ok (.aaload, 1))
    (kk : W p l e R s m args below meth c H locs cells slots Q (F0 m (pc + 1) ls (.ref (X.1 + (b + w * j.toNatClampNeg)) :: rest))) : W p l e R s m args below meth c H locs cells slots Q (F0 m pc ls (.int j :: .ref (X.1 + i) :: rest)) :=
  va_aldq A.1 A.2.1 A.2.2.2.2.2.1 hP i 4 (g_ws_get X S hs) rfl hin hdg kk
theorem w_alen {i kd n : Nat} (A : g_At X own cc nL p s m args c) (hP : gP X S H) (hk : kd < 5) (hs : g_isA i kd n) (hdg : decode cc pc = .ok (.arraylength, 1))
    (kk : W p l e R s m args below meth c H locs cells slots Q (F0 m (pc + 1) ls (.int (Int32.ofNat n) :: rest))) : W p l e R s m args below meth c H locs cells slots Q (F0 m pc ls (.ref (X.1 + i) :: rest)) := by
  obtain ⟨b, w, h1⟩ := hs
  have he := g_ws_get X S h1
  rcases (show kd = 0 ∨ kd = 1 ∨ kd = 2 ∨ kd = 3 ∨ kd = 4 by omega) with rfl | rfl | rfl | rfl | rfl
  · exact va_alen A.1 A.2.1 A.2.2.2.2.2.1 hP i 0 he rfl rfl hdg kk
  · exact va_alen A.1 A.2.1 A.2.2.2.2.2.1 hP i 1 he rfl rfl hdg kk
  · exact va_alen A.1 A.2.1 A.2.2.2.2.2.1 hP i 2 he rfl rfl hdg kk
  · exact va_alen A.1 A.2.1 A.2.2.2.2.2.1 hP i 3 he rfl rfl hdg kk
  · exact va_alen A.1 A.2.1 A.2.2.2.2.2.1 hP i 4 he rfl rfl hdg kk
theorem w_cpy {i1 i2 n1 n2 idx : Nat} {sp dp n : Int32} (A : g_At X own cc nL p s m args c) (hsz : ls.size = nL) (hP : gP X S H) (hS : va_S (gA X) H0 H locs) (hl : Cond.methodLink own idx arraycopyName ∈ gW ∧ Cond.native arraycopyName ∈ gW ∧ Cond.static arraycopyName ∈ gW ∧ Cond.initialized "java/lang/System" ∈ gW) (hs1 : g_isA i1 0 n1) (hs2 : g_isA i2 0 n2)
    (h1 : ¬ sp < 0) (h2 : ¬ dp < 0) (h3 : ¬ n < 0) (h4 : sp.toNatClampNeg + n.toNatClampNeg ≤ n1) (h5 : dp.toNatClampNeg + n.toNatClampNeg ≤ n2) (hframes : 1 ≤ R.frames) (hlocals : (rest.map fun v => v.category).sum + (nativeFrameWords "java/lang/System" "arraycopy" 5 + 11) ≤ R.locals) (hdg : decode cc pc = .ok (.invokestatic idx, 3))
    (kk : ∀ (H1 : Heap) (locs1 : List Loc), gP X (g_cpyI S i1 i2 sp.toNatClampNeg dp.toNatClampNeg n.toNatClampNeg) H1 → va_S (gA X) H0 H1 locs1 → W p l e R s m args below meth c H1 locs1 cells slots Q (F0 m (pc + 3) ls rest)) : W p l e R s m args below meth c H locs cells slots Q (F0 m pc ls (.int n :: .int dp :: .ref (X.1 + i2) :: .int sp :: .ref (X.1 + i1) :: rest)) := by
  obtain ⟨b1, w1, g1⟩ := hs1
  obtain ⟨b2, w2, g2⟩ := hs2
  obtain ⟨hx, hb, hml, hown, hts, hK⟩ := A
  refine va_copyi hx hb (hml.trans hsz.symm) hown (hts _ hl.1) (hts _ hl.2.1) (hts _ hl.2.2.1) (hts _ hl.2.2.2) hK.1 hP (g_D X S) hS i1 i2 0 0 (g_ws_get X S g1) (g_ws_get X S g2) rfl rfl rfl h1 h2 h3 h4 h5 (fun _ _ => rfl) hframes hlocals hdg (fun H1 locs1 hP1 hD1 hS1 => kk H1 locs1 ?_ hS1)
  rw [g_ws_set X S (g_cpyI S i1 i2 sp.toNatClampNeg dp.toNatClampNeg n.toNatClampNeg) g2 (by simp [g_cell, g_arr, g_cpyI]) (fun j c' hj => g_cell_congr X S (g_cpyI S i1 i2 sp.toNatClampNeg dp.toNatClampNeg n.toNatClampNeg) j (fun b => by simp [g_cpyI, hj]) (fun b => rfl) c')] at hP1
  exact hP1
/-- behind a call -/
theorem w_back {a : Array Value} {ro : Option Value} {S' : gS} {st0 : List Value} (hr : va_Run p l e R s m args below meth c H locs cells slots 0 0 (F0 m pc ls st0) rest (g_Q X ro S' a) (gA X)) (hS : va_S (gA X) H0 H locs)
    (kk : ∀ (H1 : Heap) (locs1 : List Loc), gP X S' H1 → va_S (gA X) H0 H1 locs1 → W p l e R s m args below meth c H1 locs1 cells slots Q (F0 m (pc + 3) ls (ro.toList ++ rest))) : W p l e R s m args below meth c H locs cells slots Q (F0 m pc ls st0) := by
  intro T hT X0
  obtain ⟨v, st₀, t, T', L, h0, X', hL, e1, e2, ⟨⟨hv, hp⟩, hz, hk⟩, st⟩ := hr T hT X0
  cases hv
  rw [h0] at hz hk
  obtain ⟨t2, a1, b1⟩ := kk T'.heap (locs ++ L) (by rw [e1]; exact hp)
    ⟨Nat.le_trans hS.1 (by rw [e1]; exact hz), fun q h1 h2 => by rw [e1, hk q (Nat.lt_of_lt_of_le h1 hS.1) h2]; exact hS.2.1 q h1 h2, fun q hq => by
      rcases List.mem_append.mp hq with h | h
      · exact hS.2.2 q h
      · exact hL q h⟩ T' rfl X'
  exact ⟨t2, st t2 a1, b1⟩
theorem g_blind (X : gX) (av : List Value) (S : gS) : FrameBlind (g_Pc X av S) := fun a U g mk q => ⟨q.1, q.2.1, g_K.same (u := U) (U := U.calling g mk a) rfl q.2.2⟩
/-- a method's link at a call -/
def g_ml (own : String) (idx : Nat) (y : MethodName) (cc : ByteArray) (nL : Nat) (ret : Option FieldType) (n : Nat) : Prop :=
  (Cond.methodLink own idx y ∈ gW ∨ ∃ host, Cond.methodLinkNest own idx y host ∈ gN) ∧ Cond.initialized y.cls ∈ gW ∧ Cond.code y cc nL ret ∈ gW ∧
  (y.cls ≠ "java/lang/invoke/MethodHandle" ∧ y.cls ≠ "java/lang/invoke/VarHandle" ∧ (parseMethodDescriptor y.desc).map (fun d => d.parameters.length) = some n)
def g_mlV (own : String) (idx : Nat) (y : MethodName) (cc : ByteArray) (nL : Nat) (ret : Option FieldType) (n ci : Nat) : Prop :=
  g_ml own idx y cc nL ret n ∧ Cond.instanceMethod y ∈ gW ∧ Cond.selects y.cls y y ∈ gW ∧ ∃ T N, vwCl[ci]? = some (y.cls, T, N)
def g_mlS (own : String) (idx : Nat) (y : MethodName) (cc : ByteArray) (nL : Nat) (ret : Option FieldType) (n : Nat) : Prop :=
  g_ml own idx y cc nL ret n ∧ Cond.static y ∈ gW
theorem w_callV {i ci idx n nL2 h2 : Nat} {y : MethodName} {cc2 : ByteArray} {ret2 : Option FieldType} {As : List Value} {ro : Option Value} {S' : gS} {stk : List Value} (A : g_At X own cc nL p s m args c) (hsz : ls.size = nL) (hP : gP X S H) (hS : va_S (gA X) H0 H locs) (L : g_mlV own idx y cc2 nL2 ret2 n ci) (ho : g_isO i ci) (hM : g_C X y cc2 nL2 ret2 h2 (.ref (X.1 + i) :: As) S ro S') (hn : As.length = n)
    (hR : h2 + 1 ≤ R.frames ∧ 8 + (nL2 + 11) + 45 * h2 ≤ R.locals) (hcs : cells ≤ R.cells ∧ slots ≤ R.slots) (hst : stk = As.reverse ++ .ref (X.1 + i) :: rest) (hW : (rest.map fun v => v.category).sum ≤ 8) (hdg : decode cc pc = .ok (.invokevirtual idx, 3))
    (kk : ∀ (H1 : Heap) (locs1 : List Loc), gP X S' H1 → va_S (gA X) H0 H1 locs1 → W p l e R s m args below meth c H1 locs1 cells slots Q (F0 m (pc + 3) ls (ro.toList ++ rest))) : W p l e R s m args below meth c H locs cells slots Q (F0 m pc ls stk) := by
  obtain ⟨⟨hlk, hini, hcd, hd⟩, hinst, hsel, T, N, hcl⟩ := L
  obtain ⟨ds, hsh⟩ := ho
  have A' := A
  obtain ⟨hx, hb, hml, hown, hts, hK⟩ := A
  have hrecv := va_recv hK.1 hP hcl (g_ws_get X S hsh)
  have hG : GoodIn gW (Cond.code y cc2 nL2 ret2 :: gW) := gW_good (fun _ h => h) hcd
  have hpre : PreV s H y.cls (X.1 + i) (g_Pc X (.ref (X.1 + i) :: As) S) As := ⟨g_blind X _ S, hrecv, fun U hU hW => ⟨rfl, by rw [hU]; exact hP, hK.warm hW⟩⟩
  rcases hlk with hlk | ⟨host, hlk⟩
  · exact w_back (va_runV (Ts := gW) (As := As) (rest := rest) (b := X.1 + i) ⟨hx, hb, hml, hown, hts⟩ (hM l) ⟨callB_of n hts hG rfl rfl rfl (hts _ hini) (hts _ hlk) hd hR, hts _ hinst, hts _ hsel⟩ hpre rfl hn hsz hst (lv_room hW) hdg ⟨by omega, by omega⟩) hS kk
  · exact w_back (va_runVN (Ts := gW) (As := As) (rest := rest) (b := X.1 + i) ⟨hx, hb, hml, hown, hts⟩ (hM l) ⟨va_cnB n hts hG rfl rfl rfl (hK.2 _ hlk) (hts _ hini) hd hR, hts _ hinst, hts _ hsel⟩ hpre rfl hn hsz hst (lv_room hW) hdg ⟨by omega, by omega⟩) hS kk
theorem w_callS {idx n nL2 h2 : Nat} {y : MethodName} {cc2 : ByteArray} {ret2 : Option FieldType} {As : List Value} {ro : Option Value} {S' : gS} {stk : List Value} (A : g_At X own cc nL p s m args c) (hsz : ls.size = nL) (hP : gP X S H) (hS : va_S (gA X) H0 H locs) (L : g_mlS own idx y cc2 nL2 ret2 n) (hM : g_C X y cc2 nL2 ret2 h2 As S ro S') (hn : As.length = n)
    (hR : h2 + 1 ≤ R.frames ∧ 8 + (nL2 + 11) + 45 * h2 ≤ R.locals) (hcs : cells ≤ R.cells ∧ slots ≤ R.slots) (hst : stk = As.reverse ++ rest) (hW : (rest.map fun v => v.category).sum ≤ 8) (hdg : decode cc pc = .ok (.invokestatic idx, 3))
    (kk : ∀ (H1 : Heap) (locs1 : List Loc), gP X S' H1 → va_S (gA X) H0 H1 locs1 → W p l e R s m args below meth c H1 locs1 cells slots Q (F0 m (pc + 3) ls (ro.toList ++ rest))) : W p l e R s m args below meth c H locs cells slots Q (F0 m pc ls stk) := by
  obtain ⟨⟨hlk, hini, hcd, hd⟩, hstt⟩ := L
  obtain ⟨hx, hb, hml, hown, hts, hK⟩ := A
  have hG : GoodIn gW (Cond.code y cc2 nL2 ret2 :: gW) := gW_good (fun _ h => h) hcd
  have hpre : PreS s H (g_Pc X As S) As := ⟨g_blind X _ S, fun U hU hW => ⟨rfl, by rw [hU]; exact hP, hK.warm hW⟩⟩
  rcases hlk with hlk | ⟨host, hlk⟩
  · exact w_back (va_runS (Ts := gW) (As := As) (rest := rest) ⟨hx, hb, hml, hown, hts⟩ (hM l) ⟨callB_of n hts hG rfl rfl rfl (hts _ hini) (hts _ hlk) hd hR, hts _ hstt⟩ hpre rfl hn hsz hst (lv_room hW) hdg ⟨by omega, by omega⟩) hS kk
  · exact w_back (va_runSN (Ts := gW) (As := As) (rest := rest) ⟨hx, hb, hml, hown, hts⟩ (hM l) ⟨va_cnB n hts hG rfl rfl rfl (hK.2 _ hlk) (hts _ hini) hd hR, hts _ hstt, trivial⟩ hpre rfl hn hsz hst (lv_room hW) hdg ⟨by omega, by omega⟩) hS kk
end WR

/-! making cells: they stand one behind the other -/
def cwl (a : Nat) : Nat → List va_E → va_W
  | _, [] => []
  | i, e :: t => (a + i, e) :: cwl a (i + 1) t
theorem cwl_get (a : Nat) (t : List va_E) : ∀ (i k : Nat), (cwl a i t)[k]? = (t[k]?).map (fun e => (a + (i + k), e)) := by
  induction t with
  | nil => intro i k; simp [cwl]
  | cons e t ih =>
    intro i k
    cases k with
    | zero => simp [cwl]
    | succ k =>
      simp only [cwl, List.getElem?_cons_succ]
      rw [ih (i + 1) k, show i + 1 + k = i + (k + 1) by omega]
theorem cwl_get0 (a : Nat) (t : List va_E) (k : Nat) : (cwl a 0 t)[k]? = (t[k]?).map (fun e => (a + k, e)) := by rw [cwl_get, Nat.zero_add]
theorem cwl_len (a : Nat) (t : List va_E) : ∀ i, (cwl a i t).length = t.length := by
  induction t with
  | nil => intro i; rfl
  | cons e t ih => intro i; simp [cwl, ih]
theorem cwl_app (a : Nat) (t u : List va_E) : ∀ i, cwl a i (t ++ u) = cwl a i t ++ cwl a (i + t.length) u := by
  induction t with
  | nil => intro i; simp [cwl]
  | cons e t ih =>
    intro i
    show (a + i, e) :: cwl a (i + 1) (t ++ u) = (a + i, e) :: (cwl a (i + 1) t ++ cwl a (i + (t.length + 1)) u)
    rw [ih (i + 1), show i + 1 + t.length = i + (t.length + 1) by omega]
theorem cwl_shift (a : Nat) (u : List va_E) : ∀ i j, cwl (a + i) j u = cwl a (i + j) u := by
  induction u with
  | nil => intro i j; rfl
  | cons e t ih =>
    intro i j
    show (a + i + j, e) :: cwl (a + i) (j + 1) t = (a + (i + j), e) :: cwl a (i + j + 1) t
    rw [ih i (j + 1), Nat.add_assoc, Nat.add_assoc]
theorem cwl_set (a : Nat) (t : List va_E) (k : Nat) (e : va_E) : (cwl a 0 t).set k (a + k, e) = cwl a 0 (t.set k e) := by
  apply List.ext_getElem?
  intro j
  rw [List.getElem?_set, cwl_get0, cwl_get0, cwl_len, List.getElem?_set]
  by_cases hj : k = j
  · subst hj
    by_cases hl : k < t.length <;> simp [hl]
  · simp [hj]
theorem cwl_D (a : Nat) (t : List va_E) : va_D (fun q => a ≤ q) (cwl a 0 t) := by
  refine ⟨fun i j p q hp hq e => ?_, fun k q hk => ?_⟩
  · rw [cwl_get0] at hp hq
    cases h1 : t[i]? with
    | none => rw [h1] at hp; cases hp
    | some c1 =>
      cases h2 : t[j]? with
      | none => rw [h2] at hq; cases hq
      | some c2 =>
        rw [h1] at hp; rw [h2] at hq
        simp only [Option.map_some, Option.some.injEq] at hp hq
        subst hp; subst hq
        simp only at e
        omega
  · rw [cwl_get0] at hk
    cases h1 : t[k]? with
    | none => rw [h1] at hk; cases hk
    | some c1 =>
      rw [h1] at hk
      simp only [Option.map_some, Option.some.injEq] at hk
      subst hk
      exact Nat.le_add_right _ _
def g_KA (U : State) : Prop := va_AO "SnowPaths$Outing" U ∧ va_AO "SnowPaths$Sheet" U
theorem g_KA.moved {u U : State} (h : u.vm.Alike U.vm) (k : g_KA u) : g_KA U := ⟨k.1.moved h, k.2.moved h⟩
/-- what holds while cells are made -/
def cM (X : gX) (s : State) (a : Nat) (t : List va_E) (H : Heap) (locs : List Loc) (cells : Nat) : Prop := va_P X.2.1 vwCl (cwl a 0 t) H ∧ va_S (fun q => a ≤ q) s.heap H locs ∧ s.heap.size + cells = a + t.length ∧ a ≤ s.heap.size
def cRoom (h mc ms : Nat) : Room := { frames := h, cells := mc, slots := ms, locals := 45 * h }
def cPc (X : gX) (av : List Value) (a : Nat) (D : va_E) : Array Value → State → Prop := fun v U => v = av.toArray ∧ (U.heap.size = a + 1 ∧ va_P X.2.1 vwCl (cwl a 0 [D]) U.heap) ∧ g_K X U ∧ g_KA U
def cQ (X : gX) (a : Nat) (fin : List va_E) : Array Value → State → Outcome → State → Prop := fun _ st o t => (o = .returned none ∧ va_P X.2.1 vwCl (cwl a 0 fin) t.heap) ∧ va_F (fun q => a ≤ q) st t
/-- a constructor's contract: from the blank cell D at a (the last of the heap) it makes the cells fin, from a on -/
def cC (X : gX) (y : MethodName) (cc : ByteArray) (nL h mc ms : Nat) (av : List Value) (a : Nat) (D : va_E) (fin : List va_E) : Prop :=
  ∀ l : Launch, Met l y (.code y cc nL none :: gW) (cRoom h mc ms) (cPc X av a D) (cQ X a fin) mc ms (fun q => a ≤ q)
theorem c_blind (X : gX) (av : List Value) (a : Nat) (D : va_E) : FrameBlind (cPc X av a D) := fun v U g mk q => ⟨q.1, q.2.1, g_K.same (u := U) (U := U.calling g mk v) rfl q.2.2.1, g_KA.moved (u := U) (U := U.calling g mk v) (Vm.Alike.refl U.vm) q.2.2.2⟩
def c_ml (own : String) (idx : Nat) (y : MethodName) (cc : ByteArray) (nL : Nat) (n : Nat) : Prop :=
  (Cond.methodLink own idx y ∈ gW ∨ ∃ host, Cond.methodLinkNest own idx y host ∈ gN) ∧ Cond.initialized y.cls ∈ gW ∧ Cond.code y cc nL none ∈ gW ∧
  (y.cls ≠ "java/lang/invoke/MethodHandle" ∧ y.cls ≠ "java/lang/invoke/VarHandle" ∧ (parseMethodDescriptor y.desc).map (fun d => d.parameters.length) = some n) ∧ y.name = "<init>" ∧ Cond.instanceMethod y ∈ gW
section MK
variable {p : Program} {l : Launch} {e : Env} {R : Room} {s : State} {m : MethodId} {args : Array Value} {below : List Frame} {meth : Method} {c : Code} {H : Heap} {locs : List Loc} {cells slots : Nat} {Q : State → Prop}
variable {X : gX} {cc : ByteArray} {pc nL : Nat} {ls : Array Slot} {rest : List Value} {own : String} {a : Nat} {t : List va_E}
theorem k_sz {g : JFrame} (k : H.size ≤ s.heap.size + cells → W p l e R s m args below meth c H locs cells slots Q g) : W p l e R s m args below meth c H locs cells slots Q g := fun T hT X0 => k (by rw [← hT]; exact X0.heapSize) T hT X0
theorem k_fresh {H1 : Heap} {q : Nat} {x : va_E} (hP : va_P X.2.1 vwCl (cwl a 0 t ++ [(q, x)]) H1) (hD : va_D (fun q => a ≤ q) (cwl a 0 t ++ [(q, x)])) (hz : H1.size ≤ a + t.length + 1) : q = a + t.length := by
  have hl : (cwl a 0 t ++ [(q, x)])[t.length]? = some (q, x) := by
    rw [List.getElem?_append_right (Nat.le_of_eq (cwl_len a t 0)), cwl_len, Nat.sub_self]
    exact List.getElem?_cons_zero
  have h1 : q < H1.size := (hP t.length (q, x) hl).lt
  have h2 : a ≤ q := hD.2 t.length (q, x) hl
  rcases Nat.lt_or_ge q (a + t.length) with h | h
  · have hj : q - a < t.length := by omega
    obtain ⟨x', hx'⟩ : ∃ x', t[q - a]? = some x' := by
      cases hh : t[q - a]? with
      | none => exact absurd (List.getElem?_eq_none_iff.mp hh) (by omega)
      | some x' => exact ⟨x', rfl⟩
    have hg : (cwl a 0 t ++ [(q, x)])[q - a]? = some (a + (q - a), x') := by
      rw [List.getElem?_append_left (by rw [cwl_len]; exact hj), cwl_get0, hx']
      exact Option.map_some _ _
    have hqa : a + (q - a) = q := by omega
    have := hD.1 (q - a) t.length (a + (q - a), x') (q, x) hg hl hqa
    omega
  · omega
theorem cM_app {x : va_E} {H1 : Heap} (hM : cM X s a t H locs cells) (hP : va_P X.2.1 vwCl (cwl a 0 t ++ [(a + t.length, x)]) H1) (hS : va_S (fun q => a ≤ q) s.heap H1 locs) : cM X s a (t ++ [x]) H1 locs (cells + 1) := by
  refine ⟨?_, hS, ?_, hM.2.2.2⟩
  · rw [cwl_app, Nat.zero_add]; exact hP
  · rw [List.length_append]; have := hM.2.2.1; simp only [List.length_cons, List.length_nil]; omega
theorem k_new (A : g_At X own cc nL p s m args c) (hM : cM X s a t H locs cells) {C : String} {T : u_T} {N ci idx : Nat} (hc : vwCl[ci]? = some (C, T, N)) (hin : ∀ w ∈ u_ws C T N, w ∈ gW) (ty : Nat → FieldType) (hty : ∀ k, k < N → parseFieldDescriptor (T k).2.2.1 = some (ty k)) (hcl : Cond.classLink own idx C ∈ gW) (hinst : Cond.instantiable C N ∈ gW) (hini : Cond.initialized C ∈ gW) {fs : List Value} (hfs : ∀ j, j < N → defaultValue (ty j) = vp_V fs j) (hcells : cells + 1 ≤ R.cells) (hslots : slots + N ≤ R.slots) (hdg : decode cc pc = .ok (.new idx, 3))
    (kk : ∀ H1 : Heap, cM X s a (t ++ [.inr (ci, fs)]) H1 locs (cells + 1) → W p l e R s m args below meth c H1 locs (cells + 1) (slots + N) Q (F0 m (pc + 3) ls (.ref (a + t.length) :: rest))) : W p l e R s m args below meth c H locs cells slots Q (F0 m pc ls rest) := by
  obtain ⟨hx, hb, hml, hown, hts, hK⟩ := A
  refine va_new hx hb hts hin ty hty hown (hts _ hcl) (hts _ hinst) (hts _ hini) hK.1 hM.1 (cwl_D a t) hM.2.1 (fun q h => Nat.le_trans hM.2.2.2 h) hc hfs hcells hslots hdg (fun q H1 hP hD hS => k_sz (fun hz => ?_))
  have hq : q = a + t.length := k_fresh hP hD (by have := hM.2.2.1; omega)
  subst hq
  exact kk H1 (cM_app hM hP hS)
theorem k_newa (A : g_At X own cc nL p s m args c) (hM : cM X s a t H locs cells) {atype : ArrayType} {ty : FieldType} {kd N : Nat} {n : Int32} {a0 : vp_A} (harr : Cond.arrayClass ty ∈ gW) (hty : Jvm.Op.newarray.typeOf atype = ty) (htk : (g_tys X)[kd]? = some (X.2.2 kd, ty)) (hra : ∀ cA cB, va_RA s cA ty → va_RA s cB ty → cA = cB) (ha : ∀ cA : ClassId, vp_cell cA a0 = arrV cA N (fun _ => defaultValue ty)) (hn : ¬ n < 0) (hN : n.toNatClampNeg = N) (hbytes : N * componentBytes ty ≤ 536870912) (hcells : cells + 1 ≤ R.cells) (hslots : slots + N ≤ R.slots) (hdg : decode cc pc = .ok (.newarray atype, 2))
    (kk : ∀ H1 : Heap, cM X s a (t ++ [.inl (X.2.2 kd, a0)]) H1 locs (cells + 1) → W p l e R s m args below meth c H1 locs (cells + 1) (slots + N) Q (F0 m (pc + 2) ls (.ref (a + t.length) :: rest))) : W p l e R s m args below meth c H locs cells slots Q (F0 m pc ls (.int n :: rest)) := by
  obtain ⟨hx, hb, hml, hown, hts, hK⟩ := A
  refine va_newa hx hb (by rw [hty]; exact hts _ harr) hty hK.1 hM.1 (cwl_D a t) hM.2.1 (fun q h => Nat.le_trans hM.2.2.2 h) ha hn hN hbytes hcells hslots hdg (fun q cA H1 hK1 hP hD hS => k_sz (fun hz => ?_))
  have hq : q = a + t.length := k_fresh hP hD (by have := hM.2.2.1; omega)
  subst hq
  have hcA : cA = X.2.2 kd := hra _ _ (hK1.2 (g_tys X).length (cA, ty) (by rw [List.getElem?_append_right (Nat.le_refl _), Nat.sub_self]; rfl)).2 (hK.1.2 kd _ htk).2
  subst hcA
  exact kk H1 (cM_app hM hP hS)
theorem k_newq (A : g_At X own cc nL p s m args c) (hM : cM X s a t H locs cells) {C : String} {kd N idx : Nat} {n : Int32} (hcl : Cond.classLink own idx C ∈ gW) (hover : va_AO C s) (htk : (g_tys X)[kd]? = some (X.2.2 kd, .object C)) (hn : ¬ n < 0) (hN : n.toNatClampNeg = N) (hbytes : N * 4 ≤ 536870912) (hcells : cells + 1 ≤ R.cells) (hslots : slots + N ≤ R.slots) (hdg : decode cc pc = .ok (.anewarray idx, 3))
    (kk : ∀ H1 : Heap, cM X s a (t ++ [.inl (X.2.2 kd, N, .inr (.inr (.inr (.inr (fun _ => none)))))]) H1 locs (cells + 1) → W p l e R s m args below meth c H1 locs (cells + 1) (slots + N) Q (F0 m (pc + 3) ls (.ref (a + t.length) :: rest))) : W p l e R s m args below meth c H locs cells slots Q (F0 m pc ls (.int n :: rest)) := by
  obtain ⟨hx, hb, hml, hown, hts, hK⟩ := A
  refine va_newq hx hb hown (hts _ hcl) hover hK.1 hM.1 (cwl_D a t) hM.2.1 (fun q h => Nat.le_trans hM.2.2.2 h) hn hN hbytes hcells hslots hdg (fun q cA H1 hK1 hP hD hS => k_sz (fun hz => ?_))
  have hq : q = a + t.length := k_fresh hP hD (by have := hM.2.2.1; omega)
  subst hq
  have hcA : cA = X.2.2 kd := by
    obtain ⟨_, _, _, _, _, h1⟩ := (hK1.2 (g_tys X).length (cA, .object C) (by rw [List.getElem?_append_right (Nat.le_refl _), Nat.sub_self]; rfl)).2
    obtain ⟨_, _, _, _, _, h2⟩ := (hK.1.2 kd _ htk).2
    exact Option.some.inj (h1.symm.trans h2)
  subst hcA
  exact kk H1 (cM_app hM hP hS)
theorem cM_set {i : Nat} {x : va_E} {H1 : Heap} {locs1 : List Loc} (hM : cM X s a t H locs cells) (hP : va_P X.2.1 vwCl ((cwl a 0 t).set i (a + i, x)) H1) (hS : va_S (fun q => a ≤ q) s.heap H1 locs1) : cM X s a (t.set i x) H1 locs1 cells := by
  rw [cwl_set] at hP
  exact ⟨hP, hS, by rw [List.length_set]; exact hM.2.2.1, hM.2.2.2⟩
theorem k_put (A : g_At X own cc nL p s m args c) (hM : cM X s a t H locs cells) (hnm2 : meth.name = "<init>") {i ci k idx : Nat} {T : u_T} {N : Nat} {fs : List Value} {v : Value} {ty : FieldType} (he : t[i]? = some (.inr (ci, fs))) (hc : vwCl[ci]? = some (own, T, N)) (hin : ∀ w ∈ u_ws own T N, w ∈ gW) (ty0 : Nat → FieldType) (hty : ∀ k, k < N → parseFieldDescriptor (T k).2.2.1 = some (ty0 k)) (hnm : ∀ a, a < N → ∀ b, b < N → a ≠ b → (T a).2.1 ≠ (T b).2.1) (hk : k < N) (hdecl : (T k).1 = own) (hlink : Cond.fieldLink own idx own (T k).2.1 (T k).2.2.1 ∈ gW) (hd : parseFieldDescriptor (T k).2.2.1 = some ty) (hn : narrow ty v = v) (hfit : fits ty v = true) (hl : k < fs.length) (hdg : decode cc pc = .ok (.putfield idx, 3))
    (kk : ∀ (H1 : Heap) (locs1 : List Loc), cM X s a (t.set i (.inr (ci, fs.set k v))) H1 locs1 cells → W p l e R s m args below meth c H1 locs1 cells slots Q (F0 m (pc + 3) ls rest)) : W p l e R s m args below meth c H locs cells slots Q (F0 m pc ls (v :: .ref (a + i) :: rest)) := by
  obtain ⟨hx, hb, hml, hown, hts, hK⟩ := A
  have he' : (cwl a 0 t)[i]? = some (a + i, .inr (ci, fs)) := by rw [cwl_get0, he]; rfl
  cases hf : (T k).2.2.2 with
  | true => exact va_putF hx hb hts hin ty0 hty hnm hown hK.1 hM.1 (cwl_D a t) hM.2.1 i he' hc k hk (hts _ hlink) (fun _ h => by rw [hdecl] at h; exact h) hf hnm2 hdecl hd hn hfit hl hdg (fun H1 locs1 hP hD hS => kk H1 locs1 (cM_set hM hP hS))
  | false => exact va_put hx hb hts hin ty0 hty hnm hown hK.1 hM.1 (cwl_D a t) hM.2.1 i he' hc k hk (hts _ hlink) (fun _ h => by rw [hdecl] at h; exact h) hf hd hn hfit hl hdg (fun H1 locs1 hP hD hS => kk H1 locs1 (cM_set hM hP hS))
theorem k_get (A : g_At X own cc nL p s m args c) (hM : cM X s a t H locs cells) {i ci k idx : Nat} {T : u_T} {N : Nat} {fs : List Value} {v : Value} (he : t[i]? = some (.inr (ci, fs))) (hc : vwCl[ci]? = some (own, T, N)) (hin : ∀ w ∈ u_ws own T N, w ∈ gW) (hk : k < N) (hdecl : (T k).1 = own) (hlink : Cond.fieldLink own idx own (T k).2.1 (T k).2.2.1 ∈ gW) (hv : fs[k]? = some v) (hdg : decode cc pc = .ok (.getfield idx, 3))
    (kk : W p l e R s m args below meth c H locs cells slots Q (F0 m (pc + 3) ls (v :: rest))) : W p l e R s m args below meth c H locs cells slots Q (F0 m pc ls (.ref (a + i) :: rest)) := by
  obtain ⟨hx, hb, hml, hown, hts, hK⟩ := A
  have he' : (cwl a 0 t)[i]? = some (a + i, .inr (ci, fs)) := by rw [cwl_get0, he]; rfl
  exact va_get hx hb hts hin hown hK.1 hM.1 i he' hc k hk (hts _ hlink) (fun _ h => by rw [hdecl] at h; exact h) hv hdg kk
theorem k_ast (A : g_At X own cc nL p s m args c) (hM : cM X s a t H locs cells) {i kd j ci N : Nat} {r : vw_C} {n : Int32} {vs : List Value} {f : Nat → Option Nat} (ha : t[i]? = some (.inl (X.2.2 kd, N, .inr (.inr (.inr (.inr f)))))) (ht : (g_tys X)[kd]? = some (X.2.2 kd, .object r.1)) (hv : t[j]? = some (.inr (ci, vs))) (hc : vwCl[ci]? = some r) (hin : vp_in n N) (hdg : decode cc pc = .ok (.aastore, 1))
    (kk : ∀ (H1 : Heap) (locs1 : List Loc), cM X s a (t.set i (.inl (X.2.2 kd, N, .inr (.inr (.inr (.inr (va_up f n.toNatClampNeg (some (a + j)))))))) ) H1 locs1 cells → W p l e R s m args below meth c H1 locs1 cells slots Q (F0 m (pc + 1) ls rest)) : W p l e R s m args below meth c H locs cells slots Q (F0 m pc ls (.ref (a + j) :: .int n :: .ref (a + i) :: rest)) := by
  obtain ⟨hx, hb, hml, hown, hts, hK⟩ := A
  exact va_astq hx hb hK.1 hM.1 (cwl_D a t) hM.2.1 i kd j ci (by rw [cwl_get0, ha]; rfl) ht (by rw [cwl_get0, hv]; rfl) hc hin hdg (fun H1 locs1 hP hD hS => kk H1 locs1 (cM_set hM hP hS))
theorem k_ist (A : g_At X own cc nL p s m args c) (hM : cM X s a t H locs cells) {i N : Nat} {n x : Int32} {f : Nat → Int32} (ha : t[i]? = some (.inl (X.2.2 0, N, .inl f))) (hin : vp_in n N) (hdg : decode cc pc = .ok (.iastore, 1))
    (kk : ∀ (H1 : Heap) (locs1 : List Loc), cM X s a (t.set i (.inl (X.2.2 0, N, .inl (upd f n.toNatClampNeg x)))) H1 locs1 cells → W p l e R s m args below meth c H1 locs1 cells slots Q (F0 m (pc + 1) ls rest)) : W p l e R s m args below meth c H locs cells slots Q (F0 m pc ls (.int x :: .int n :: .ref (a + i) :: rest)) := by
  obtain ⟨hx, hb, hml, hown, hts, hK⟩ := A
  exact va_iast hx hb hK.1 hM.1 (cwl_D a t) hM.2.1 i 0 (by rw [cwl_get0, ha]; rfl) rfl hin hdg (fun H1 locs1 hP hD hS => kk H1 locs1 (cM_set hM hP hS))
theorem k_norm (hM : cM X s a t H locs cells) {i N : Nat} {cA : ClassId} {f g : Nat → Option Nat} (ha : t[i]? = some (.inl (cA, N, .inr (.inr (.inr (.inr f)))))) (hfg : ∀ j, j < N → f j = g j) : cM X s a (t.set i (.inl (cA, N, .inr (.inr (.inr (.inr g)))))) H locs cells := by
  have he : arrV cA N (fun j => va_rf (f j)) = arrV cA N (fun j => va_rf (g j)) := by
    unfold arrV
    congr 1
    congr 1
    funext j
    show va_rf (f j.val) = va_rf (g j.val)
    rw [hfg j.val j.isLt]
  refine ⟨fun k q hk => ?_, hM.2.1, by rw [List.length_set]; exact hM.2.2.1, hM.2.2.2⟩
  rw [cwl_get0, List.getElem?_set] at hk
  by_cases hik : i = k
  · subst hik
    have hl : i < t.length := (List.getElem?_eq_some_iff.mp ha).1
    simp only [if_true, hl, Option.map_some, Option.some.injEq] at hk
    subst hk
    have h0 := hM.1 i (a + i, .inl (cA, N, .inr (.inr (.inr (.inr f))))) (by rw [cwl_get0, ha]; rfl)
    show H[a + i]? = some (vp_cell cA (N, .inr (.inr (.inr (.inr g)))))
    rw [vp_cell_q, ← he, ← vp_cell_q]
    exact h0
  · rw [if_neg hik] at hk
    exact hM.1 k q (by rw [cwl_get0]; exact hk)
theorem k_normI (hM : cM X s a t H locs cells) {i N : Nat} {cA : ClassId} {f g : Nat → Int32} (ha : t[i]? = some (.inl (cA, N, .inl f))) (hfg : ∀ j, j < N → f j = g j) : cM X s a (t.set i (.inl (cA, N, .inl g))) H locs cells := by
  have he : arrV cA N (fun j => .int (f j)) = arrV cA N (fun j => .int (g j)) := by
    unfold arrV
    congr 1
    congr 1
    funext j
    show Value.int (f j.val) = Value.int (g j.val)
    rw [hfg j.val j.isLt]
  refine ⟨fun k q hk => ?_, hM.2.1, by rw [List.length_set]; exact hM.2.2.1, hM.2.2.2⟩
  rw [cwl_get0, List.getElem?_set] at hk
  by_cases hik : i = k
  · subst hik
    have hl : i < t.length := (List.getElem?_eq_some_iff.mp ha).1
    simp only [if_true, hl, Option.map_some, Option.some.injEq] at hk
    subst hk
    have h0 := hM.1 i (a + i, .inl (cA, N, .inl f)) (by rw [cwl_get0, ha]; rfl)
    show H[a + i]? = some (vp_cell cA (N, .inl g))
    have e2 : vp_cell cA (N, .inl g) = vp_cell cA (N, .inl f) := he.symm
    rw [e2]
    exact h0
  · rw [if_neg hik] at hk
    exact hM.1 k q (by rw [cwl_get0]; exact hk)
theorem k_call (A : g_At X own cc nL p s m args c) (hKA : g_KA s) (hsz : ls.size = nL) {D : va_E} (hM : cM X s a (t ++ [D]) H locs cells) {y : MethodName} {cc2 : ByteArray} {nL2 h2 mc ms idx n : Nat} {As : List Value} {fin : List va_E} {stk : List Value} (L : c_ml own idx y cc2 nL2 n) (hC : cC X y cc2 nL2 h2 mc ms (.ref (a + t.length) :: As) (a + t.length) D fin) (hn : As.length = n) (hR : h2 + 1 ≤ R.frames ∧ 8 + (nL2 + 11) + 45 * h2 ≤ R.locals) (hcs : cells + mc ≤ R.cells ∧ slots + ms ≤ R.slots) (hst : stk = As.reverse ++ .ref (a + t.length) :: rest) (hW : (rest.map fun v => v.category).sum ≤ 8) (hfl : fin.length = mc + 1) (hdg : decode cc pc = .ok (.invokespecial idx, 3))
    (kk : ∀ (H1 : Heap) (locs1 : List Loc), cM X s a (t ++ fin) H1 locs1 (cells + mc) → W p l e R s m args below meth c H1 locs1 (cells + mc) (slots + ms) Q (F0 m (pc + 3) ls rest)) : W p l e R s m args below meth c H locs cells slots Q (F0 m pc ls stk) := by
  refine k_sz (fun hz => ?_)
  obtain ⟨hlk, hini, hcd, hd, hyn, hinst⟩ := L
  obtain ⟨hx, hb, hml, hown, hts, hK⟩ := A
  have hlen : (t ++ [D]).length = t.length + 1 := by rw [List.length_append]; rfl
  have hD : (cwl a 0 (t ++ [D]))[t.length]? = some (a + t.length, D) := by
    rw [cwl_get0, List.getElem?_append_right (Nat.le_refl _), Nat.sub_self]; rfl
  have hat := hM.1 _ _ hD
  have hH : H.size = a + t.length + 1 := by
    have h1 := hat.lt
    have h2 := hM.2.2.1
    rw [hlen] at h2
    have h3 : a + t.length < H.size := h1
    omega
  have hG : GoodIn gW (Cond.code y cc2 nL2 none :: gW) := gW_good (fun _ h => h) hcd
  have hpre : PreS s H (cPc X (.ref (a + t.length) :: As) (a + t.length) D) (.ref (a + t.length) :: As) := ⟨c_blind X _ _ _, fun U hU hW => ⟨rfl, ⟨by rw [hU]; exact hH, fun k q hk => by
    have : k = 0 := by have := (List.getElem?_eq_some_iff.mp hk).1; rw [cwl_len] at this; simp only [List.length_cons, List.length_nil] at this; omega
    subst this
    have hk' : some (a + t.length + 0, D) = some q := hk
    obtain rfl := Option.some.inj hk'
    rw [hU]; exact hat⟩, hK.warm hW, hKA.moved hW.alike⟩⟩
  have back : va_Run p l e R s m args below meth c H locs cells slots mc ms (F0 m pc ls stk) rest (cQ X (a + t.length) fin (Value.ref (a + t.length) :: As).toArray) (fun q => a + t.length ≤ q) → W p l e R s m args below meth c H locs cells slots Q (F0 m pc ls stk) := by
    intro hr T hT X0
    obtain ⟨v, st₀, t', T', L, h0, X', hL, e1, e2, ⟨⟨hv, hp⟩, hz1, hk⟩, st⟩ := hr T hT X0
    cases hv
    rw [h0] at hz1 hk
    have hS1 : va_S (fun q => a ≤ q) s.heap T'.heap (locs ++ L) := ⟨Nat.le_trans hM.2.1.1 (by rw [e1]; exact hz1), fun q h1 h2 => by rw [e1, hk q (Nat.lt_of_lt_of_le h1 hM.2.1.1) (fun z => h2 (Nat.le_trans (Nat.le_add_right _ _) z))]; exact hM.2.1.2.1 q h1 h2, fun q hq => by
      rcases List.mem_append.mp hq with h | h
      · exact hM.2.1.2.2 q h
      · exact Nat.le_trans (Nat.le_add_right _ _) (hL q h)⟩
    have hM1 : cM X s a (t ++ fin) T'.heap (locs ++ L) (cells + mc) := by
      refine ⟨?_, hS1, ?_, hM.2.2.2⟩
      · rw [cwl_app]
        refine va_P.app (fun k q hk2 => ?_) ?_
        · have hkl : k < t.length := by have := (List.getElem?_eq_some_iff.mp hk2).1; rw [cwl_len] at this; exact this
          have hq : (cwl a 0 (t ++ [D]))[k]? = some q := by rw [cwl_app, List.getElem?_append_left (by rw [cwl_len]; exact hkl)]; exact hk2
          have hqe : q.1 = a + k := by
            rw [cwl_get0, List.getElem?_eq_getElem hkl] at hk2
            have := Option.some.inj hk2
            rw [← this]
          refine (hM.1 k q hq).kept ?_
          rw [e1, hk q.1 (by rw [hqe]; omega) (by rw [hqe]; omega)]
        · rw [e1, ← Nat.add_zero (0 + t.length), ← cwl_shift a fin (0 + t.length) 0, Nat.zero_add]
          exact hp
      · have := hM.2.2.1
        rw [hlen] at this
        rw [List.length_append, hfl]; omega
    obtain ⟨t2, a1, b1⟩ := kk T'.heap (locs ++ L) hM1 T' rfl X'
    exact ⟨t2, st t2 a1, b1⟩
  rcases hlk with hlk | ⟨host, hlk⟩
  · exact back (va_runI (Ts := gW) (As := As) (rest := rest) (b := a + t.length) ⟨hx, hb, hml, hown, hts⟩ (hC l) ⟨callB_of n hts hG rfl rfl rfl (hts _ hini) (hts _ hlk) hd hR, hyn, hts _ hinst⟩ hpre rfl hn hsz hst (lv_room hW) hdg hcs)
  · exact back (va_runIN (Ts := gW) (As := As) (rest := rest) (b := a + t.length) ⟨hx, hb, hml, hown, hts⟩ (hC l) ⟨va_cnB n hts hG rfl rfl rfl (hK.2 _ hlk) (hts _ hini) hd hR, hyn, hts _ hinst⟩ hpre rfl hn hsz hst (lv_room hW) hdg hcs)
theorem k_obj (A : g_At X own cc nL p s m args c) (hsz : ls.size = nL) {idx a1 : Nat} (hl : Cond.methodLink own idx objectInit ∈ gW) (hi : Cond.instanceMethod objectInit ∈ gW) (hc : Cond.code objectInit ⟨#[0xb1]⟩ 1 none ∈ gW) (hf : 1 ≤ R.frames) (hlo : (rest.map fun v => v.category).sum + 12 ≤ R.locals) (hdg : decode cc pc = .ok (.invokespecial idx, 3))
    (kk : W p l e R s m args below meth c H locs cells slots Q (F0 m (pc + 3) ls rest)) : W p l e R s m args below meth c H locs cells slots Q (F0 m pc ls (.ref a1 :: rest)) := by
  obtain ⟨hx, hb, hml, hown, hts, hK⟩ := A
  exact W.objInit hx hb hown (hts _ hl) (hts _ hi) (hts _ hc) rfl (by rw [hml]; exact hsz) rfl hdg hf (by show 2 * 0 + _ + 12 ≤ _; omega) kk
theorem k_ret (A : g_At X own cc nL p s m args c) (hM : cM X s a t H locs cells) (hr : meth.sig.returnType = none) (hlk : meth.locks = false) {fin : List va_E} (ht : t = fin) (hdg : decode cc pc = .ok (.return_, 1)) : W p l e R s m args below meth c H locs cells slots (MQ below (cQ X a fin) args s cells slots (fun q => a ≤ q)) (F0 m pc ls []) := by
  subst ht
  exact W.vret A.1 A.2.1 hr (fun t' ht' _ => ⟨⟨rfl, by rw [ht']; exact hM.1⟩, hM.2.1.F ht'⟩) hM.2.1.2.2 hdg hlk
end MK
theorem k_met {X : gX} {y : MethodName} {cc : ByteArray} {nL h mc ms a : Nat} {av : List Value} {D : va_E} {fin : List va_E} (hy : plainName y.cls = true) (hyn : y.name = "<init>") (hav : (lg_sl av).length ≤ nL)
    (k : ∀ (p : Program) (l : Launch) (e : Env) (s : State) (m : MethodId) (args : Array Value) (below : List Frame) (meth : Method) (c : Code) (ls : Array Slot), g_At X y.cls cc nL p s m args c → g_KA s → meth.sig.returnType = none → meth.locks = false → meth.name = "<init>" → cM X s a [D] s.heap [] 0 → lv_has ls nL (lv_args 0 av) →
      W p l e (cRoom h mc ms) s m args below meth c s.heap [] 0 0 (MQ below (cQ X a fin) args s mc ms (fun q => a ≤ q)) (F0 m 0 ls [])) : cC X y cc nL h mc ms av a D fin := by
  intro l
  refine Met.ofW (cc := cc) (maxL := nL) (ret := none) hy rfl ?_
  intro p e s m args below meth c s₁ B hml hv
  obtain ⟨rfl, ⟨hz, hP⟩, hK, hKA⟩ := hv
  have hts : ∀ w ∈ Cond.code y cc nL none :: gW, w.before av.toArray s = true := atoms_spec B.pre
  have hown : s.vm.findClass y.cls = some m.cls := findClass_of_methodNamed B.named
  have hin : meth.name = "<init>" := ((name_of_methodNamed B.named B.method).1).trans hyn
  have hl := lv_entry av (n := nL) hav
  rw [lg_entry_eq]
  exact k p l e s m av.toArray below meth c _ ⟨B.exec, B.bytes, hml, hown, fun w hw => hts w (List.mem_cons_of_mem _ hw), hK⟩ hKA B.returns B.notSynchronized hin ⟨hP, va_S.rf, by rw [hz]; rfl, by omega⟩ hl

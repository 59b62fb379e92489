section KK
variable {p : Program} {l : Launch} {e : Env} {R : Room} {s : State} {m : MethodId} {args : Array Value} {below : List Frame} {meth : Method} {c : Code} {H : Heap} {locs : List Loc} {cells slots : Nat} {Q : State → Prop}
variable {X : gX} {cc : ByteArray} {pc nL : Nat} {ls : Array Slot} {rest : List Value} {own : String} {a : Nat} {t : List va_E}
theorem k_new2 {q : Nat} (hq : a + t.length = q) (A : g_At X own cc nL p s m args c) (hM : cM X s a t H locs cells) {C : String} {T : u_T} {N ci idx : Nat} (hc : vwCl[ci]? = some (C, T, N)) (hin : ∀ w ∈ u_ws C T N, w ∈ gW) (ty : Nat → FieldType) (hty : ∀ k, k < N → parseFieldDescriptor (T k).2.2.1 = some (ty k)) (hcl : Cond.classLink own idx C ∈ gW) (hinst : Cond.instantiable C N ∈ gW) (hini : Cond.initialized C ∈ gW) {fs : List Value} (hfs : ∀ j, j < N → defaultValue (ty j) = vp_V fs j) (hcells : cells + 1 ≤ R.cells) (hslots : slots + N ≤ R.slots) (hdg : decode cc pc = .ok (.new idx, 3))
    (kk : ∀ H1 : Heap, cM X s a (t ++ [.inr (ci, fs)]) H1 locs (cells + 1) → W p l e R s m args below meth c H1 locs (cells + 1) (slots + N) Q (F0 m (pc + 3) ls (.ref q :: rest))) : W p l e R s m args below meth c H locs cells slots Q (F0 m pc ls rest) := by
  subst hq
  exact k_new A hM hc hin ty hty hcl hinst hini hfs hcells hslots hdg kk
theorem k_call2 {q : Nat} (hq : a + t.length = q) (A : g_At X own cc nL p s m args c) (hKA : g_KA s) (hsz : ls.size = nL) {D : va_E} (hM : cM X s a (t ++ [D]) H locs cells) {y : MethodName} {cc2 : ByteArray} {nL2 h2 mc ms idx n : Nat} {As : List Value} {fin : List va_E} {stk : List Value} (L : c_ml own idx y cc2 nL2 n) (hC : cC X y cc2 nL2 h2 mc ms (.ref q :: As) q D fin) (hn : As.length = n) (hR : h2 + 1 ≤ R.frames ∧ 8 + (nL2 + 11) + 45 * h2 ≤ R.locals) (hcs : cells + mc ≤ R.cells ∧ slots + ms ≤ R.slots) (hst : stk = As.reverse ++ .ref q :: rest) (hW : (rest.map fun v => v.category).sum ≤ 8) (hfl : fin.length = mc + 1) (hdg : decode cc pc = .ok (.invokespecial idx, 3))
    (kk : ∀ (H1 : Heap) (locs1 : List Loc), cM X s a (t ++ fin) H1 locs1 (cells + mc) → W p l e R s m args below meth c H1 locs1 (cells + mc) (slots + ms) Q (F0 m (pc + 3) ls rest)) : W p l e R s m args below meth c H locs cells slots Q (F0 m pc ls stk) := by
  subst hq
  exact k_call A hKA hsz hM L hC hn hR hcs hst hW hfl hdg kk
end KK
set_option maxRecDepth 100000 in
theorem len3 (X : gX) (a g r : Nat) : (finX3 X a g r).length = 3 := rfl
theorem len2 (X : gX) (a g w r : Nat) : (finX2 X a g w r).length = 23 := by
  unfold finX2
  simp only [List.length_append, len3, List.length_cons, List.length_nil]
theorem len5 (X : gX) (a : Nat) : (finX5 X a).length = 2 := rfl
theorem len0 (X : gX) (a : Nat) : (finX0 X a).length = 2 := rfl
theorem len1 (X : gX) (a : Nat) : (finX1 X a).length = 6 := rfl
theorem len4 (X : gX) (a : Nat) : (finX4 X a).length = 4 := rfl
theorem len6 (X : gX) (a : Nat) : (finX6 X a).length = 3 := rfl
theorem len7 (X : gX) (a : Nat) : (finX7 X a).length = 51 := by
  unfold finX7
  simp only [List.length_append, len0, len1, len2, len3, len4, len5, len6, List.length_cons, List.length_nil]
theorem len8 (X : gX) (a : Nat) : (finX8 X a).length = 22 := by
  unfold finX8
  simp only [List.length_append, List.length_cons, List.length_nil]
set_option maxRecDepth 100000 in
set_option maxHeartbeats 4000000 in
theorem whole_start {p : Program} {e : Env} {s : State} {m : MethodId} {below : List Frame} {meth : Method} {c : Code} (l : Launch) {b L : Nat} {xs : Nat → Int32} (hL : L ≤ 3072) (C0 : lw_At p s m meth c b L xs) : W p l e room_1 s m #[Value.ref b] below meth c s.heap [] 0 0 (lw_Z below #[Value.ref b] s) (entryFrame m ([Value.ref b] : List Value).toArray 4) := by
  obtain ⟨hx, hb, hr, hml, hown, hts, hX, hbl, hlocks, hgv⟩ := id C0
  obtain ⟨D, kd, hKs⟩ := start_K hts
  have hKA : g_KA s := (hKs 0).2
  obtain ⟨X, hXB, hK⟩ : ∃ X : gX, X.1 = s.heap.size ∧ g_K X s := ⟨(s.heap.size, D, kd), rfl, (hKs s.heap.size).1⟩
  have A : g_At X RL cL_law 4 p s m #[Value.ref b] c := ⟨hx, hb, hml, hown, fun w hw => hts w (gW_tbl hw), hK⟩
  have hl := lv_entry [.ref b] (n := 4) (Nat.le_of_ble_eq_true rfl)
  rw [lg_entry_eq]
  generalize (lg_sl [.ref b] ++ List.replicate (4 - (lg_sl [.ref b]).length) Slot.unset).toArray = ls at hl ⊢
  have hl : lv_has ls 4 [(0, .ref b)] := hl
  have hM : cM X s X.1 [] s.heap [] 0 := ⟨(fun k q h => by simp [cwl] at h), va_S.rf, (by rw [hXB]; rfl), (by rw [hXB]; exact Nat.le_refl _)⟩
  have hct7 := ctX7_init X X.1
  have hct8 := ctX8_init X (X.1 + 51)
  have hw0 := w0_eq X
  have hl7 := len7 X X.1
  have hl8 := len8 X (X.1 + 51)
  generalize finX7 X X.1 = t7 at hct7 hw0 hl7
  generalize finX8 X (X.1 + 51) = t8 at hct8 hw0 hl8
  refine k_new2 (q := X.1) (ci := 7) (fs := [.null, .null, .null, .null, .null, .null, .null, .int 0, .int 0, .int 0, .int 0, .int 0]) rfl A hM rfl iwX7 tyX7 tyX7_ok cl_L_7 ib_X7 in_X7 dfX7 (Nat.le_of_ble_eq_true rfl) (Nat.le_of_ble_eq_true rfl) dL_law_0 (fun H hM => ?_)
  refine lv_dup A.1 A.2.1 dL_law_3 rfl ?_
  refine k_call2 (q := X.1) (t := []) (D := .inr (7, [.null, .null, .null, .null, .null, .null, .null, .int 0, .int 0, .int 0, .int 0, .int 0])) (As := []) (rest := [.ref X.1]) rfl A hKA hl.1 hM ml_L_9 hct7 rfl ⟨Nat.le_of_ble_eq_true rfl, Nat.le_of_ble_eq_true rfl⟩ ⟨Nat.le_of_ble_eq_true rfl, Nat.le_of_ble_eq_true rfl⟩ rfl (Nat.le_of_ble_eq_true rfl) hl7 dL_law_4 (fun H locs hM => ?_)
  have hM : cM X s X.1 t7 H locs 51 := hM
  refine lv_astore_n (lv' := [(1, .ref X.1), (0, .ref b)]) A.1 A.2.1 dL_law_7 rfl hl (by decide) rfl (fun ls hl => ?_)
  refine k_new2 (q := X.1 + 51) (ci := 8) (fs := [.null, .null, .null, .null, .int 0, .null, .int 0, .null, .null, .null, .null, .null, .int 0, .null, .null, .null, .null, .null, .null, .int 0, .null, .int 0, .int 0, .int 0, .int 0, .null, .int 0, .null, .null, .int 0, .int 0, .int 0, .int 0, .null, .int 0, .int 0]) (by rw [hl7]) A hM rfl iwX8 tyX8 tyX8_ok cl_L_10 ib_X8 in_X8 dfX8 (Nat.le_of_ble_eq_true rfl) (Nat.le_of_ble_eq_true rfl) dL_law_8 (fun H hM => ?_)
  refine lv_dup A.1 A.2.1 dL_law_11 rfl ?_
  refine k_call2 (q := X.1 + 51) (t := t7) (D := .inr (8, [.null, .null, .null, .null, .int 0, .null, .int 0, .null, .null, .null, .null, .null, .int 0, .null, .null, .null, .null, .null, .null, .int 0, .null, .int 0, .int 0, .int 0, .int 0, .null, .int 0, .null, .null, .int 0, .int 0, .int 0, .int 0, .null, .int 0, .int 0])) (As := []) (rest := [.ref (X.1 + 51)]) (by rw [hl7]) A hKA hl.1 hM ml_L_12 hct8 rfl ⟨Nat.le_of_ble_eq_true rfl, Nat.le_of_ble_eq_true rfl⟩ ⟨Nat.le_of_ble_eq_true rfl, Nat.le_of_ble_eq_true rfl⟩ rfl (Nat.le_of_ble_eq_true rfl) hl8 dL_law_12 (fun H locs hM => ?_)
  have hM : cM X s X.1 (t7 ++ t8) H locs 73 := hM
  refine lv_astore_n (lv' := [(2, .ref (X.1 + 51)), (1, .ref X.1), (0, .ref b)]) A.1 A.2.1 dL_law_15 rfl hl (by decide) rfl (fun ls hl => ?_)
  refine lv_iconst (v := 0) A.1 A.2.1 dL_law_16 (by decide) ?_
  refine lv_istore_n (lv' := [(3, .int 0), (2, .ref (X.1 + 51)), (1, .ref X.1), (0, .ref b)]) A.1 A.2.1 dL_law_17 rfl hl (by decide) rfl (fun ls hl => ?_)
  have hP : gP X S0 H := by
    have h1 := hM.1
    rw [hw0] at h1
    exact h1
  refine W.widen (k := 73) (n := 3089) (Nat.le_of_ble_eq_true rfl) (Nat.le_of_ble_eq_true rfl) ?_
  exact law_loop hL C0 hK hXB L 0 (by omega) (by omega) S0 H locs ls hP hM.2.1 inv0 (lv_sub hl [3, 2, 1, 0] rfl)

/-! THE CLAIM OUT OF ONE WALK OF THE LAW'S BODY. Your part is whole_start (and what it stands on); all else here is the same for every law, but numbers. -/
def R_law : String := "SnowPathsLaw"
def lw_P (b : Addr) (xs : List Int32) (args : Array Value) (s : State) : Prop := args = #[.ref b] ∧ s.IntsAt b xs ∧ xs.length ≤ 3072 ∧ (Jvm.Cond.and given_1 narrow_1).before args s = true
def lw_Q (_ : Array Value) (s : State) (o : Outcome) (t : State) : Prop := o = .returned (some (.int 1)) ∧ Framed s o t [] 600000 7302250
def lw_Z (below : List Frame) (a : Array Value) (s : State) : State → Prop := fun t => ∃ o, t.status = .running ∧ Ended t below o ∧ lw_Q a s o t
/-- the law's own end, with 1 on the stack, nothing written that was there before, its room as the claim has it -/
theorem lw_ret {p : Program} {l : Launch} {e : Env} {s : State} {m : MethodId} {below : List Frame} {meth : Method} {c : Code} {b : Nat} (hx : p.tables.exec = Jvm.exec) (hb : c.code = code) (hr : meth.sig.returnType = ret) (hlocks : meth.locks = false) {pc : Nat} {H : Heap} {ls : Array Slot} (hdg : decode code pc = .ok (.ireturn, 1)) : W p l e room_1 s m #[Value.ref b] below meth c H [] 600000 7302250 (lw_Z below #[Value.ref b] s) (F0 m pc ls [.int 1]) := by
  intro T hT X
  obtain ⟨fs, hret, hrun, hended, hW, hframe⟩ := X.leave (v := some (.int 1)) (hlocks := hlocks) (fun h => by rw [hr] at h; cases h)
  have hmeth' : T.vm.method? m = some meth := X.method'
  refine ⟨T.setFrames fs, ?_, .returned (some (.int 1)), hrun, hended, rfl, ⟨_, rfl⟩, hW, hframe⟩
  jvm_step X.here [X.here.top, hx, hb, hdg, hmeth', hr, ret, narrow_b1]
  (try refine ⟨rfl, ?_⟩); (try refine ⟨rfl, ?_⟩)
  first | (intro acts; rw [hret _ acts rfl rfl rfl]) | rw [hret _ _ rfl rfl rfl]
  exact Steps.refl _
/-- what holds at the law's entry: the machine, the code, the tables' words (any of lw_tbl by 'hts w (by decide +kernel)'), the script of L ints xs at the cell b, what the Statement gives of the start (any of its parts by flat_of_before) -/
def lw_At (p : Program) (s : State) (m : MethodId) (meth : Method) (c : Code) (b L : Nat) (xs : Nat → Int32) : Prop :=
  p.tables.exec = Jvm.exec ∧ c.code = code ∧ meth.sig.returnType = ret ∧ c.maxLocals = 4 ∧ s.vm.findClass R_law = some m.cls ∧ (∀ w ∈ lw_tbl, w.before #[Value.ref b] s = true) ∧ va_X b L xs s s.heap ∧ b < s.heap.size ∧ meth.locks = false ∧ (Jvm.Cond.and given_1 narrow_1).before #[Value.ref b] s = true
theorem law_lt {i L : Nat} (hi : i ≤ 3072) (hL : L ≤ 3072) (h : ¬ Int32.ofNat L - 6 < nI i) : i + 6 ≤ L := by
  have h1 : (nI i).toInt ≤ (nI L - nI 6).toInt := Int32.le_iff_toInt_le.mp (Int32.not_lt.mp h)
  rw [nI_toInt (by omega), pk_sub_toInt (by omega) (by omega)] at h1
  omega
set_option maxRecDepth 100000 in
theorem law_loop {p : Program} {l : Launch} {e : Env} {s : State} {m : MethodId} {below : List Frame} {meth : Method} {c : Code} {b L : Nat} {xs : Nat → Int32} {X : gX} (hL : L ≤ 3072) (C0 : lw_At p s m meth c b L xs) (hK : g_K X s) (hXB : X.1 = s.heap.size) : ∀ (n i : Nat), i ≤ 3072 → L < i + 6 * n + 6 → ∀ (S : gS) (H : Heap) (locs : List Loc) (ls : Array Slot), gP X S H → va_S (gA X) s.heap H locs → Inv S S → lv_has ls 4 [(0, .ref b), (1, .ref (X.1 + 0)), (2, .ref (X.1 + 51)), (3, .int (nI i))] → W p l e room_1 s m #[Value.ref b] below meth c H locs 73 3089 (lw_Z below #[Value.ref b] s) (F0 m 18 ls []) := by
  obtain ⟨hx, hb, hr, hml, hown, hts, hX, hbl, hlocks, hgv⟩ := C0
  have A : g_At X RL cL_law 4 p s m #[Value.ref b] c := ⟨hx, hb, hml, hown, fun w hw => hts w (gW_tbl hw), hK⟩
  have hbA : ¬ gA X b := by show ¬ X.1 ≤ b; omega
  intro n
  induction n with
  | zero =>
    intro i hi hn S H locs ls hP hS hI hl
    refine lv_iload_n hx hb dL_law_18 rfl (lv_at hl 3 rfl) ?_
    refine lv_aload_n hx hb dL_law_19 rfl (lv_at hl 0 rfl) ?_
    refine va_slen hx hb hX hbl hbA hS dL_law_20 ?_
    refine lv_bipush (v := 6) hx hb dL_law_21 (by decide) ?_
    refine lv_isub hx hb dL_law_23 ?_
    refine lv_icmp_gt (tgt := 1152) hx hb dL_law_24 (by decide) (fun _ => ?_) (fun h => ?_)
    · refine lv_iconst (v := 1) hx hb dL_law_1152 (by decide) ?_
      refine va_forget (fun q hq => by have h1 : X.1 ≤ q.base := hS.2.2 q hq; omega) ?_
      refine W.widen (k := 600000) (n := 7302250) (by decide) (by decide) ?_
      exact lw_ret hx hb hr hlocks dL_law_1153
    · exact absurd (law_lt (by omega) (by omega) h) (by omega)
  | succ n ih =>
    intro i hi hn S H locs ls hP hS hI hl
    refine lv_iload_n hx hb dL_law_18 rfl (lv_at hl 3 rfl) ?_
    refine lv_aload_n hx hb dL_law_19 rfl (lv_at hl 0 rfl) ?_
    refine va_slen hx hb hX hbl hbA hS dL_law_20 ?_
    refine lv_bipush (v := 6) hx hb dL_law_21 (by decide) ?_
    refine lv_isub hx hb dL_law_23 ?_
    refine lv_icmp_gt (tgt := 1152) hx hb dL_law_24 (by decide) (fun _ => ?_) (fun h => ?_)
    · refine lv_iconst (v := 1) hx hb dL_law_1152 (by decide) ?_
      refine va_forget (fun q hq => by have h1 : X.1 ≤ q.base := hS.2.2 q hq; omega) ?_
      refine W.widen (k := 600000) (n := 7302250) (by decide) (by decide) ?_
      exact lw_ret hx hb hr hlocks dL_law_1153
    · have h6 : i + 6 ≤ L := law_lt (by omega) (by omega) h
      have hin : ∀ k, k < 6 → vp_in (nI i + nI k) L := fun k hk => by rw [nI_add]; exact vp_in_nI (by omega) (by omega)
      have C : lC X p s m c b L xs (nI i) := ⟨A, hX, hbl, hXB, hin 1 (by decide), hin 2 (by decide), hin 3 (by decide), hin 4 (by decide), hin 5 (by decide)⟩
      refine lv_aload_n hx hb dL_law_27 rfl (lv_at hl 0 rfl) ?_
      refine lv_iload_n hx hb dL_law_28 rfl (lv_at hl 3 rfl) ?_
      refine va_sld hx hb hX hbl hbA hS (vp_in_nI (show i < L by omega) (by omega)) dL_law_29 ?_
      refine lv_bipush (v := 63) hx hb dL_law_30 (by decide) ?_
      refine lv_iand hx hb dL_law_32 ?_
      obtain ⟨j, hj, ej⟩ := pk_andE (xs (nI i).toNatClampNeg) (m := 63) 6 (by decide)
      rw [ej]
      have kk : ∀ (H1 : Heap) (locs1 : List Loc) (S1 : gS), gP X S1 H1 → va_S (gA X) s.heap H1 locs1 → Inv S1 S1 → W p l e room_1 s m #[Value.ref b] below meth c H1 locs1 73 3089 (lw_Z below #[Value.ref b] s) (F0 m 1146 ls []) := fun H1 locs1 S1 hP1 hS1 hI1 => by
        refine lv_iinc (v := nI (i + 6)) (lv' := [(3, .int (nI (i + 6))), (0, .ref b), (1, .ref (X.1 + 0)), (2, .ref (X.1 + 51))]) hx hb dL_law_1146 hl (k := 3) rfl (nI_add i 6) (by decide) rfl (fun ls2 hl2 => ?_)
        refine lv_goto (tgt := 18) hx hb dL_law_1149 (by decide) ?_
        exact ih (i + 6) (by omega) (by omega) S1 H1 locs1 ls2 hP1 hS1 hI1 (lv_sub hl2 [1, 2, 3, 0] rfl)
      by_cases hjc : j < 35
      · match j, hjc with
      | 0, _ => exact lv_tableIn (off := 155) (tgt := 188) hx hb dL_law_33 (by decide) (by decide) (by decide) (by decide) (la_0 C hP hS hI hl kk)
      | 1, _ => exact lv_tableIn (off := 178) (tgt := 211) hx hb dL_law_33 (by decide) (by decide) (by decide) (by decide) (la_1 C hP hS hI hl kk)
      | 2, _ => exact lv_tableIn (off := 191) (tgt := 224) hx hb dL_law_33 (by decide) (by decide) (by decide) (by decide) (la_2 C hP hS hI hl kk)
      | 3, _ => exact lv_tableIn (off := 204) (tgt := 237) hx hb dL_law_33 (by decide) (by decide) (by decide) (by decide) (la_3 C hP hS hI hl kk)
      | 4, _ => exact lv_tableIn (off := 237) (tgt := 270) hx hb dL_law_33 (by decide) (by decide) (by decide) (by decide) (la_4 C hP hS hI hl kk)
      | 5, _ => exact lv_tableIn (off := 260) (tgt := 293) hx hb dL_law_33 (by decide) (by decide) (by decide) (by decide) (la_5 C hP hS hI hl kk)
      | 6, _ => exact lv_tableIn (off := 283) (tgt := 316) hx hb dL_law_33 (by decide) (by decide) (by decide) (by decide) (la_6 C hP hS hI hl kk)
      | 7, _ => exact lv_tableIn (off := 296) (tgt := 329) hx hb dL_law_33 (by decide) (by decide) (by decide) (by decide) (la_7 C hP hS hI hl kk)
      | 8, _ => exact lv_tableIn (off := 329) (tgt := 362) hx hb dL_law_33 (by decide) (by decide) (by decide) (by decide) (la_8 C hP hS hI hl kk)
      | 9, _ => exact lv_tableIn (off := 352) (tgt := 385) hx hb dL_law_33 (by decide) (by decide) (by decide) (by decide) (la_9 C hP hS hI hl kk)
      | 10, _ => exact lv_tableIn (off := 385) (tgt := 418) hx hb dL_law_33 (by decide) (by decide) (by decide) (by decide) (la_10 C hP hS hI hl kk)
      | 11, _ => exact lv_tableIn (off := 398) (tgt := 431) hx hb dL_law_33 (by decide) (by decide) (by decide) (by decide) (la_11 C hP hS hI hl kk)
      | 12, _ => exact lv_tableIn (off := 441) (tgt := 474) hx hb dL_law_33 (by decide) (by decide) (by decide) (by decide) (la_12 C hP hS hI hl kk)
      | 13, _ => exact lv_tableIn (off := 464) (tgt := 497) hx hb dL_law_33 (by decide) (by decide) (by decide) (by decide) (la_13 C hP hS hI hl kk)
      | 14, _ => exact lv_tableIn (off := 477) (tgt := 510) hx hb dL_law_33 (by decide) (by decide) (by decide) (by decide) (la_14 C hP hS hI hl kk)
      | 15, _ => exact lv_tableIn (off := 500) (tgt := 533) hx hb dL_law_33 (by decide) (by decide) (by decide) (by decide) (la_15 C hP hS hI hl kk)
      | 16, _ => exact lv_tableIn (off := 523) (tgt := 556) hx hb dL_law_33 (by decide) (by decide) (by decide) (by decide) (la_16 C hP hS hI hl kk)
      | 17, _ => exact lv_tableIn (off := 536) (tgt := 569) hx hb dL_law_33 (by decide) (by decide) (by decide) (by decide) (la_17 C hP hS hI hl kk)
      | 18, _ => exact lv_tableIn (off := 559) (tgt := 592) hx hb dL_law_33 (by decide) (by decide) (by decide) (by decide) (la_18 C hP hS hI hl kk)
      | 19, _ => exact lv_tableIn (off := 582) (tgt := 615) hx hb dL_law_33 (by decide) (by decide) (by decide) (by decide) (la_19 C hP hS hI hl kk)
      | 20, _ => exact lv_tableIn (off := 605) (tgt := 638) hx hb dL_law_33 (by decide) (by decide) (by decide) (by decide) (la_20 C hP hS hI hl kk)
      | 21, _ => exact lv_tableIn (off := 628) (tgt := 661) hx hb dL_law_33 (by decide) (by decide) (by decide) (by decide) (la_21 C hP hS hI hl kk)
      | 22, _ => exact lv_tableIn (off := 652) (tgt := 685) hx hb dL_law_33 (by decide) (by decide) (by decide) (by decide) (la_22 C hP hS hI hl kk)
      | 23, _ => exact lv_tableIn (off := 685) (tgt := 718) hx hb dL_law_33 (by decide) (by decide) (by decide) (by decide) (la_23 C hP hS hI hl kk)
      | 24, _ => exact lv_tableIn (off := 719) (tgt := 752) hx hb dL_law_33 (by decide) (by decide) (by decide) (by decide) (la_24 C hP hS hI hl kk)
      | 25, _ => exact lv_tableIn (off := 752) (tgt := 785) hx hb dL_law_33 (by decide) (by decide) (by decide) (by decide) (la_25 C hP hS hI hl kk)
      | 26, _ => exact lv_tableIn (off := 785) (tgt := 818) hx hb dL_law_33 (by decide) (by decide) (by decide) (by decide) (la_26 C hP hS hI hl kk)
      | 27, _ => exact lv_tableIn (off := 828) (tgt := 861) hx hb dL_law_33 (by decide) (by decide) (by decide) (by decide) (la_27 C hP hS hI hl kk)
      | 28, _ => exact lv_tableIn (off := 871) (tgt := 904) hx hb dL_law_33 (by decide) (by decide) (by decide) (by decide) (la_28 C hP hS hI hl kk)
      | 29, _ => exact lv_tableIn (off := 894) (tgt := 927) hx hb dL_law_33 (by decide) (by decide) (by decide) (by decide) (la_29 C hP hS hI hl kk)
      | 30, _ => exact lv_tableIn (off := 947) (tgt := 980) hx hb dL_law_33 (by decide) (by decide) (by decide) (by decide) (la_30 C hP hS hI hl kk)
      | 31, _ => exact lv_tableIn (off := 990) (tgt := 1023) hx hb dL_law_33 (by decide) (by decide) (by decide) (by decide) (la_31 C hP hS hI hl kk)
      | 32, _ => exact lv_tableIn (off := 1053) (tgt := 1086) hx hb dL_law_33 (by decide) (by decide) (by decide) (by decide) (la_32 C hP hS hI hl kk)
      | 33, _ => exact lv_tableIn (off := 1076) (tgt := 1109) hx hb dL_law_33 (by decide) (by decide) (by decide) (by decide) (la_33 C hP hS hI hl kk)
      | 34, _ => exact lv_tableIn (off := 1099) (tgt := 1132) hx hb dL_law_33 (by decide) (by decide) (by decide) (by decide) (la_34 C hP hS hI hl kk)
      | j + 35, h => exact absurd h (by omega)
      · exact lv_tableOut (tgt := 1146) hx hb dL_law_33 (Or.inr (by rw [nI_toInt (by omega)]; omega)) (by decide) (kk H locs S hP hS hI)

/-! lay, get -/
theorem lay7_o1 {F : Nat} {a b c d : Int32} {S : gS} (hout : a < 0 ∨ nI 4 ≤ a) : fX7_lay F a b c d S = some (-2, S) := by
  have : fX7_refusedItem F a b c S = some (-2, S) := by unfold fX7_refusedItem; rw [sheet7_out F hout]; rfl
  unfold fX7_lay; rw [this, Option.bind_some, gl_def, if_neg (show ¬ (-2 : Int32) = 0 by decide)]
theorem lay8_o1 {F : Nat} {a b c d : Int32} {S : gS} (hout : a < 0 ∨ nI 4 ≤ a) : fX8_lay F a b c d S = some (-2, S) := by
  unfold fX8_lay; rw [sheet8_out F hout]; rfl
theorem lay8_o2 {F s : Nat} {b c d : Int32} {S : gS} (hs : s < 4) (hout : b < 0 ∨ nI 3 ≤ b) : fX8_lay F (nI s) b c d S = some (-2, S) := by
  unfold fX8_lay; rw [sheet8_in F hs, Option.bind_some, if_neg (show ¬ (1 : Int32) = 0 by decide), in_out (n := 2) (by decide) (by decide) hout]; rfl
theorem ne10 : ¬ (1 : Int32) = 0 := by decide
theorem eq00 : (0 : Int32) = 0 := rfl
theorem ref7_o1 {F : Nat} {a b c : Int32} {S : gS} (hout : a < 0 ∨ nI 4 ≤ a) : fX7_refusedItem F a b c S = some (-2, S) := by unfold fX7_refusedItem; rw [sheet7_out F hout]; rfl
theorem ref7_o2 {F s : Nat} {b c : Int32} {S : gS} (hs : s < 4) (hout : b < 0 ∨ nI 3 ≤ b) : fX7_refusedItem F (nI s) b c S = some (-2, S) := by unfold fX7_refusedItem; rw [sheet7_in F hs, Option.bind_some, if_neg ne10, form7_out F hout]; rfl
theorem lay7_no {F : Nat} {a b c d : Int32} {S S' : gS} {v : Int32} (h : fX7_refusedItem F a b c S = some (v, S')) (hv : ¬ v = 0) : fX7_lay F a b c d S = some (v, S') := by
  unfold fX7_lay; rw [h, Option.bind_some, gl_def, if_neg hv]
theorem get7_no {F : Nat} {a b c : Int32} {S S' : gS} {v : Int32} (h : fX7_refusedItem F a b c S = some (v, S')) (hv : ¬ v = 0) : fX7_get F a b c S = some (-2147483648, S') := by
  unfold fX7_get; rw [h, Option.bind_some, if_neg hv]
theorem lay8_no {F s f : Nat} {c d : Int32} {S S' : gS} {v : Int32} (hs : s < 4) (hf : f < 3) (h : fX8_lacks F (nI s) (nI f) c S = some (v, S')) (hv : ¬ v = 0) : fX8_lay F (nI s) (nI f) c d S = some (v, S') := by
  unfold fX8_lay; rw [sheet8_in F hs, Option.bind_some, if_neg ne10, in_in (n := 2) (by decide) (by decide) (show f ≤ 2 by omega), Option.bind_some, if_neg ne10, h, Option.bind_some, gl_def, if_neg hv]
theorem get8_o1 {F : Nat} {a b c : Int32} {S : gS} (hout : a < 0 ∨ nI 4 ≤ a) : fX8_get F a b c S = some (-2147483648, S) := by
  unfold fX8_get; rw [sheet8_out F hout, Option.bind_some, if_pos eq00]
theorem get8_o2 {F s : Nat} {b c : Int32} {S : gS} (hs : s < 4) (hout : b < 0 ∨ nI 3 ≤ b) : fX8_get F (nI s) b c S = some (-2147483648, S) := by
  unfold fX8_get; rw [sheet8_in F hs, Option.bind_some, if_neg ne10, in_out (n := 2) (by decide) (by decide) hout, Option.bind_some, if_pos eq00]
theorem get8_no {F s f : Nat} {c : Int32} {S S' : gS} {v : Int32} (hs : s < 4) (hf : f < 3) (h : fX8_lacks F (nI s) (nI f) c S = some (v, S')) (hv : ¬ v = 0) : fX8_get F (nI s) (nI f) c S = some (-2147483648, S') := by
  unfold fX8_get; rw [sheet8_in F hs, Option.bind_some, if_neg ne10, in_in (n := 2) (by decide) (by decide) (show f ≤ 2 by omega), Option.bind_some, if_neg ne10, h, Option.bind_some, if_neg hv]
theorem ix_item {s j : Nat} : (64 : Int32) * nI s + nI j = nI (64 * s + j) := by rw [show (64 : Int32) = nI 64 from rfl, pk_mul, nI_add]
theorem lay8_yes {F s f j : Nat} {d : Int32} {S : gS} (hs : s < 4) (hf : f < 3) (hj : j < 64) (h : fX8_lacks F (nI s) (nI f) (nI j) S = some (0, S)) : fX8_lay F (nI s) (nI f) (nI j) d S = some (1, g_setI S 54 (64 * s + j) (cutV f d)) := by
  unfold fX8_lay; rw [sheet8_in F hs, Option.bind_some, if_neg ne10, in_in (n := 2) (by decide) (by decide) (show f ≤ 2 by omega), Option.bind_some, if_neg ne10, h, Option.bind_some, gl_def, if_pos eq00, cut_spec F (by omega), Option.bind_some, ix_item, chk_nI (show 64 * s + j < 256 by omega) (by decide), nI_clamp (show 64 * s + j < 2 ^ 31 by omega), gl_def]
theorem get8_yes {F s f j : Nat} {S : gS} (hs : s < 4) (hf : f < 3) (hj : j < 64) (h : fX8_lacks F (nI s) (nI f) (nI j) S = some (0, S)) : fX8_get F (nI s) (nI f) (nI j) S = some (S.1 54 (64 * s + j), S) := by
  unfold fX8_get; rw [sheet8_in F hs, Option.bind_some, if_neg ne10, in_in (n := 2) (by decide) (by decide) (show f ≤ 2 by omega), Option.bind_some, if_neg ne10, h, Option.bind_some, if_pos eq00, ix_item, chk_nI (show 64 * s + j < 256 by omega) (by decide), nI_clamp (show 64 * s + j < 2 ^ 31 by omega)]
theorem lay7_yes {F s f j : Nat} {d : Int32} {S : gS} (hs : s < 4) (hf : f < 3) (hj : j < 64) (h1 : S.1 (43 + 2 * s) 1 = nI f) (h : fX7_refusedItem F (nI s) (nI f) (nI j) S = some (0, S)) : fX7_lay F (nI s) (nI f) (nI j) d S = some (1, g_setI S (43 + 2 * s + 1) j (cutV f d)) := by
  unfold fX7_lay; rw [h, Option.bind_some, gl_def, if_pos eq00, chk_nI hs (by decide), nI_clamp (show s < 2 ^ 31 by omega), put_spec F (by omega) h1 hj, Option.bind_some]
theorem get7_yes {F s f j : Nat} {S : gS} (hs : s < 4) (hf : f < 3) (hj : j < 64) (h : fX7_refusedItem F (nI s) (nI f) (nI j) S = some (0, S)) : fX7_get F (nI s) (nI f) (nI j) S = some (S.1 (43 + 2 * s + 1) j, S) := by
  unfold fX7_get; rw [h, Option.bind_some, if_pos eq00, chk_nI hs (by decide), chk_nI hj (by decide), nI_clamp (show s < 2 ^ 31 by omega), nI_clamp (show j < 2 ^ 31 by omega)]
theorem op_lay {F : Nat} (a b c d : Int32) : Op Int32 (fX7_lay F a b c d) (fX8_lay F a b c d) := by
  intro S T h
  show OpAt _ _ S T
  rcases three a (n := 4) (by decide) with hout | ⟨s, hs, rfl⟩
  · exact at_bad h (lay7_no (ref7_o1 hout) (by decide)) (lay8_o1 hout)
  rcases three b (n := 3) (by decide) with hout | ⟨f, hf, rfl⟩
  · exact at_bad h (lay7_no (ref7_o2 hs hout) (by decide)) (lay8_o2 hs hout)
  rcases item_rel (F := F) h hs hf c with ⟨v, hv, e1, e2⟩ | ⟨n, j, b1, b2, rfl, b3, b4, b5, b6, b7, e1, e2⟩
  · exact at_found v h (lay7_no e1 hv) (lay8_no hs hf e2 hv)
  · obtain ⟨i1, i2, i3⟩ := put_rel h hs b1 b2 (by omega) b3 b4 b5 b6 (cutV f d)
    exact ⟨1, _, _, lay7_yes hs hf (by omega) b3 e1, lay8_yes hs hf (by omega) e2, i1, i2, i3⟩
theorem op_get {F : Nat} (a b c : Int32) : Op Int32 (fX7_get F a b c) (fX8_get F a b c) := by
  intro S T h
  show OpAt _ _ S T
  rcases three a (n := 4) (by decide) with hout | ⟨s, hs, rfl⟩
  · exact at_bad h (get7_no (ref7_o1 hout) (by decide)) (get8_o1 hout)
  rcases three b (n := 3) (by decide) with hout | ⟨f, hf, rfl⟩
  · exact at_bad h (get7_no (ref7_o2 hs hout) (by decide)) (get8_o2 hs hout)
  rcases item_rel (F := F) h hs hf c with ⟨v, hv, e1, e2⟩ | ⟨n, j, b1, b2, rfl, b3, b4, b5, b6, b7, e1, e2⟩
  · exact at_found v h (get7_no e1 hv) (get8_no hs hf e2 hv)
  · refine at_bad h (get7_yes hs hf (by omega) e1) ?_
    rw [get8_yes hs hf (by omega) e2, ← b7 j b2, show 44 + 2 * s = 43 + 2 * s + 1 by omega]

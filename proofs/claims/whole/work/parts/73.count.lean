/-! how many bits -/
theorem and_split {a c p q : Nat} (ha : a < 256) (hc : c < 256) : (a + 256 * p) &&& (c + 256 * q) = (a &&& c) + 256 * (p &&& q) := by
  have h1 : ((a + 256 * p) &&& (c + 256 * q)) % 2 ^ 8 = (a &&& c) := by
    rw [Nat.and_mod_two_pow, show (a + 256 * p) % 2 ^ 8 = a by omega, show (c + 256 * q) % 2 ^ 8 = c by omega]
  have h2 : ((a + 256 * p) &&& (c + 256 * q)) / 2 ^ 8 = (p &&& q) := by
    rw [Nat.and_div_two_pow, show (a + 256 * p) / 2 ^ 8 = p by omega, show (c + 256 * q) / 2 ^ 8 = q by omega]
  have h3 := Nat.div_add_mod ((a + 256 * p) &&& (c + 256 * q)) (2 ^ 8)
  rw [h1, h2] at h3
  omega
def bval : List Nat → Nat
  | [] => 0
  | b :: l => b + 256 * bval l
def brep (m : Nat) : Nat → Nat
  | 0 => 0
  | k + 1 => m + 256 * brep m k
def digs : Nat → Nat → List Nat
  | 0, _ => []
  | k + 1, x => x % 256 :: digs k (x / 256)
theorem digs_len : ∀ k x, (digs k x).length = k := by
  intro k
  induction k with
  | zero => intro x; rfl
  | succ k ih => intro x; simp [digs, ih]
theorem digs_lt : ∀ k x b, b ∈ digs k x → b < 256 := by
  intro k
  induction k with
  | zero => intro x b h; cases h
  | succ k ih =>
    intro x b h
    rcases List.mem_cons.mp h with h | h
    · omega
    · exact ih _ b h
theorem digs_val : ∀ k x, x < 256 ^ k → bval (digs k x) = x := by
  intro k
  induction k with
  | zero => intro x h; simp at h; simp [digs, bval, h]
  | succ k ih =>
    intro x h
    show x % 256 + 256 * bval (digs k (x / 256)) = x
    rw [ih (x / 256) (by rw [Nat.pow_succ] at h; exact Nat.div_lt_of_lt_mul (by rw [Nat.mul_comm]; exact h))]
    omega
def q1 (b : Nat) : Nat := b - ((b / 2) &&& 85)
def q2 (b : Nat) : Nat := (b &&& 51) + ((b / 4) &&& 51)
def q3 (b : Nat) : Nat := (b + b / 16) &&& 15
theorem q1_ok : ∀ b, b < 256 → ((b / 2) &&& 85) + q1 b = b := by decide +kernel
theorem q1_lt : ∀ b, b < 256 → q1 b < 256 := by decide +kernel
theorem q2_ok : ∀ b, b < 256 → q2 (q1 b) ≤ 68 ∧ q2 (q1 b) % 16 ≤ 4 := by decide +kernel
theorem q3_ok : ∀ b, b < 256 → q3 (q2 (q1 b)) = cntB (fun c => b.testBit c) 8 := by decide +kernel
theorem m85 : ∀ u, u < 128 → ∀ t, t < 2 → (u + 128 * t) &&& 85 = (u &&& 85) := by decide +kernel
theorem m51 : ∀ u, u < 64 → ∀ t, t < 4 → (u + 64 * t) &&& 51 = (u &&& 51) := by decide +kernel
theorem m15 : ∀ b, b < 69 → ∀ t, t < 5 → (b + b / 16 + 16 * t) &&& 15 = ((b + b / 16) &&& 15) := by decide +kernel
theorem step1 : ∀ l : List Nat, (∀ b, b ∈ l → b < 256) → ((bval l / 2) &&& brep 85 l.length) + bval (l.map q1) = bval l := by
  intro l
  induction l with
  | nil => intro _; rfl
  | cons b l ih =>
    intro h
    have hb := h b List.mem_cons_self
    have ih' := ih (fun x hx => h x (List.mem_cons_of_mem _ hx))
    show (((b + 256 * bval l) / 2) &&& (85 + 256 * brep 85 l.length)) + (q1 b + 256 * bval (l.map q1)) = b + 256 * bval l
    rw [show (b + 256 * bval l) / 2 = (b / 2 + 128 * (bval l % 2)) + 256 * (bval l / 2) by omega, and_split (by omega) (by decide), m85 _ (by omega) _ (by omega)]
    have := q1_ok b hb
    omega
theorem step2 : ∀ l : List Nat, (∀ b, b ∈ l → b < 256) → (bval l &&& brep 51 l.length) + ((bval l / 4) &&& brep 51 l.length) = bval (l.map q2) := by
  intro l
  induction l with
  | nil => intro _; rfl
  | cons b l ih =>
    intro h
    have hb := h b List.mem_cons_self
    have ih' := ih (fun x hx => h x (List.mem_cons_of_mem _ hx))
    show ((b + 256 * bval l) &&& (51 + 256 * brep 51 l.length)) + (((b + 256 * bval l) / 4) &&& (51 + 256 * brep 51 l.length)) = q2 b + 256 * bval (l.map q2)
    rw [show (b + 256 * bval l) / 4 = (b / 4 + 64 * (bval l % 4)) + 256 * (bval l / 4) by omega, and_split hb (by decide), and_split (by omega) (by decide), m51 _ (by omega) _ (by omega)]
    have : q2 b = (b &&& 51) + ((b / 4) &&& 51) := rfl
    omega
theorem bval_16 : ∀ l : List Nat, (∀ b, b ∈ l → b ≤ 68 ∧ b % 16 ≤ 4) → bval l % 16 ≤ 4 := by
  intro l h
  cases l with
  | nil => decide
  | cons b l =>
    have := h b List.mem_cons_self
    show (b + 256 * bval l) % 16 ≤ 4
    omega
theorem step3 : ∀ l : List Nat, (∀ b, b ∈ l → b ≤ 68 ∧ b % 16 ≤ 4) → ((bval l + bval l / 16) &&& brep 15 l.length) = bval (l.map q3) := by
  intro l
  induction l with
  | nil => intro _; rfl
  | cons b l ih =>
    intro h
    have hb := h b List.mem_cons_self
    have ih' := ih (fun x hx => h x (List.mem_cons_of_mem _ hx))
    have h16 := bval_16 l (fun x hx => h x (List.mem_cons_of_mem _ hx))
    show ((b + 256 * bval l) + (b + 256 * bval l) / 16) &&& (15 + 256 * brep 15 l.length) = q3 b + 256 * bval (l.map q3)
    rw [show (b + 256 * bval l) + (b + 256 * bval l) / 16 = (b + b / 16 + 16 * (bval l % 16)) + 256 * (bval l + bval l / 16) by omega, and_split (by omega) (by decide), m15 _ (by omega) _ (by omega), ih']
    rfl
def sumL : List Nat → Nat
  | [] => 0
  | b :: l => b + sumL l
theorem cntB_add (f : Nat → Bool) (m : Nat) : ∀ n, cntB f (m + n) = cntB f m + cntB (fun c => f (m + c)) n := by
  intro n
  induction n with
  | zero => rfl
  | succ n ih =>
    show cntB f (m + n) + (if f (m + n) then 1 else 0) = cntB f m + (cntB (fun c => f (m + c)) n + (if f (m + n) then 1 else 0))
    rw [ih, Nat.add_assoc]
theorem cnt_digs : ∀ k x, cntB (fun c => x.testBit c) (8 * k) = sumL ((digs k x).map (fun b => cntB (fun c => b.testBit c) 8)) := by
  intro k
  induction k with
  | zero => intro x; rfl
  | succ k ih =>
    intro x
    rw [show 8 * (k + 1) = 8 + 8 * k by omega, cntB_add]
    show _ = cntB (fun c => (x % 256).testBit c) 8 + sumL ((digs k (x / 256)).map (fun b => cntB (fun c => b.testBit c) 8))
    rw [← ih]
    congr 1
    · apply cntB_congr
      intro c hc
      show x.testBit c = (x % 2 ^ 8).testBit c
      rw [Nat.testBit_mod_two_pow]
      simp [hc]
    · apply cntB_congr
      intro c hc
      show x.testBit (8 + c) = (x / 2 ^ 8).testBit c
      rw [Nat.testBit_div_two_pow, Nat.add_comm]
theorem sh_nat (x : Int64) {k : Nat} (hk : k < 64) (hw : ((nI k).toInt64.toUInt64 &&& Int64.toUInt64 63) = UInt64.ofNat k) : ((x).toUInt64 >>> ((nI k).toInt64.toUInt64 &&& Int64.toUInt64 63)).toInt64.toBitVec.toNat = x.toBitVec.toNat / 2 ^ k := by
  rw [hw]
  show (x.toUInt64 >>> UInt64.ofNat k).toNat = _
  rw [UInt64.toNat_shiftRight, u_tn (by omega), Nat.mod_eq_of_lt hk, Nat.shiftRight_eq_div_pow]
  rfl
theorem nat8 {l : List Nat} (h : l.length = 8) : ∃ a b c d e f g i, l = [a, b, c, d, e, f, g, i] := by
  match l, h with
  | [a, b, c, d, e, f, g, i], _ => exact ⟨a, b, c, d, e, f, g, i, rfl⟩
theorem dv256 {a y : Nat} (h : a < 256) : (a + 256 * y) / 256 = y := by omega
theorem dv2 {a b y : Nat} (ha : a < 256) (hb : b < 256) : (a + 256 * (b + 256 * y)) / 65536 = y := by
  rw [show (65536 : Nat) = 256 * 256 from rfl, ← Nat.div_div_eq_div_mul, dv256 ha, dv256 hb]
theorem dv4 {a b c d y : Nat} (ha : a < 256) (hb : b < 256) (hc : c < 256) (hd : d < 256) : (a + 256 * (b + 256 * (c + 256 * (d + 256 * y)))) / 4294967296 = y := by
  rw [show (4294967296 : Nat) = 65536 * 65536 from rfl, ← Nat.div_div_eq_div_mul, dv2 ha hb, dv2 hc hd]
theorem md128 {s y : Nat} (h : s < 128) : (s + 256 * y) % 128 = s := by omega
theorem hx256 (a b p q : Nat) : (a + 256 * p) + (b + 256 * q) = (a + b) + 256 * (p + q) := by omega
theorem hor {a p M : Nat} (ha : a < 256) (hp : p < M) : a + 256 * p < 256 * M := by omega
theorem hor8 {a b c d e f g i : Nat} (ha : a < 256) (hb : b < 256) (hc : c < 256) (hd : d < 256) (he : e < 256) (hf : f < 256) (hg : g < 256) (hi : i < 256) : a + 256 * (b + 256 * (c + 256 * (d + 256 * (e + 256 * (f + 256 * (g + 256 * i)))))) < 2 ^ 64 :=
  Nat.lt_of_lt_of_eq (hor ha (hor hb (hor hc (hor hd (hor he (hor hf (hor hg hi))))))) (by decide)
theorem lt1 {a : Nat} (ha : a ≤ 8) : a < 256 := by omega
theorem lt2 {a b : Nat} (ha : a ≤ 8) (hb : b ≤ 8) : a + b < 256 := by omega
theorem lt3 {a b c : Nat} (ha : a ≤ 8) (hb : b ≤ 8) (hc : c ≤ 8) : (a + b) + c < 256 := by omega
theorem lt4 {a b c d : Nat} (ha : a ≤ 8) (hb : b ≤ 8) (hc : c ≤ 8) (hd : d ≤ 8) : (a + b) + (c + d) < 256 := by omega
theorem lt5 {a b c d e : Nat} (ha : a ≤ 8) (hb : b ≤ 8) (hc : c ≤ 8) (hd : d ≤ 8) (he : e ≤ 8) : ((a + b) + (c + d)) + e < 256 := by omega
theorem lt6 {a b c d e f : Nat} (ha : a ≤ 8) (hb : b ≤ 8) (hc : c ≤ 8) (hd : d ≤ 8) (he : e ≤ 8) (hf : f ≤ 8) : ((a + b) + (c + d)) + (e + f) < 256 := by omega
theorem lt7 {a b c d e f g : Nat} (ha : a ≤ 8) (hb : b ≤ 8) (hc : c ≤ 8) (hd : d ≤ 8) (he : e ≤ 8) (hf : f ≤ 8) (hg : g ≤ 8) : ((a + b) + (c + d)) + ((e + f) + g) < 256 := by omega
theorem lt8 {a b c d e f g i : Nat} (ha : a ≤ 8) (hb : b ≤ 8) (hc : c ≤ 8) (hd : d ≤ 8) (he : e ≤ 8) (hf : f ≤ 8) (hg : g ≤ 8) (hi : i ≤ 8) : ((a + b) + (c + d)) + ((e + f) + (g + i)) < 128 := by omega
theorem sum8 {a b c d e f g i : Nat} : ((a + b) + (c + d)) + ((e + f) + (g + i)) = a + b + c + d + e + f + g + i := by omega
theorem fold8 {a b c d e f g i : Nat} (ha : a ≤ 8) (hb : b ≤ 8) (hc : c ≤ 8) (hd : d ≤ 8) (he : e ≤ 8) (hf : f ≤ 8) (hg : g ≤ 8) (hi : i ≤ 8) {z z4 z5 z6 : Nat} (hz : z = a + 256 * (b + 256 * (c + 256 * (d + 256 * (e + 256 * (f + 256 * (g + 256 * i))))))) (h4 : z4 = z + z / 256) (h5 : z5 = z4 + z4 / 65536) (h6 : z6 = z5 + z5 / 4294967296) : z4 < 2 ^ 64 ∧ z5 < 2 ^ 64 ∧ z6 < 2 ^ 64 ∧ z6 % 128 = a + b + c + d + e + f + g + i := by
  have e4 : z4 = (a + b) + 256 * ((b + c) + 256 * ((c + d) + 256 * ((d + e) + 256 * ((e + f) + 256 * ((f + g) + 256 * ((g + i) + 256 * i)))))) := by
    rw [h4, hz, dv256 (lt1 ha), hx256, hx256, hx256, hx256, hx256, hx256, Nat.add_right_comm g]
  have e5 : z5 = ((a + b) + (c + d)) + 256 * (((b + c) + (d + e)) + 256 * (((c + d) + (e + f)) + 256 * (((d + e) + (f + g)) + 256 * (((e + f) + (g + i)) + 256 * (((f + g) + i) + 256 * ((g + i) + 256 * i)))))) := by
    rw [h5, e4, dv2 (lt2 ha hb) (lt2 hb hc), hx256, hx256, hx256, hx256, hx256, Nat.add_right_comm (f + g)]
  have e6 : z6 = (((a + b) + (c + d)) + ((e + f) + (g + i))) + 256 * ((((b + c) + (d + e)) + ((f + g) + i)) + 256 * ((((c + d) + (e + f)) + (g + i)) + 256 * ((((d + e) + (f + g)) + i) + 256 * (((e + f) + (g + i)) + 256 * (((f + g) + i) + 256 * ((g + i) + 256 * i)))))) := by
    rw [h6, e5, dv4 (lt4 ha hb hc hd) (lt4 hb hc hd he) (lt4 hc hd he hf) (lt4 hd he hf hg), hx256, hx256, hx256, Nat.add_right_comm (d + e + (f + g))]
  refine ⟨by rw [e4]; exact hor8 (lt2 ha hb) (lt2 hb hc) (lt2 hc hd) (lt2 hd he) (lt2 he hf) (lt2 hf hg) (lt2 hg hi) (lt1 hi), by rw [e5]; exact hor8 (lt4 ha hb hc hd) (lt4 hb hc hd he) (lt4 hc hd he hf) (lt4 hd he hf hg) (lt4 he hf hg hi) (lt3 hf hg hi) (lt2 hg hi) (lt1 hi), by rw [e6]; exact hor8 (Nat.lt_trans (lt8 ha hb hc hd he hf hg hi) (by decide)) (lt7 hb hc hd he hf hg hi) (lt6 hc hd he hf hg hi) (lt5 hd he hf hg hi) (lt4 he hf hg hi) (lt3 hf hg hi) (lt2 hg hi) (lt1 hi), ?_⟩
  rw [e6, md128 (lt8 ha hb hc hd he hf hg hi), sum8]
theorem brep85 : brep 85 8 = 6148914691236517205 := by decide +kernel
theorem brep51 : brep 51 8 = 3689348814741910323 := by decide +kernel
theorem brep15 : brep 15 8 = 1085102592571150095 := by decide +kernel
theorem cnt8_le (b : Nat) : cntB (fun c => b.testBit c) 8 ≤ 8 := cntB_le _ 8
def tn (x : Int64) : Nat := x.toBitVec.toNat
theorem tn_sub {x y : Int64} (h : tn y ≤ tn x) : tn (x - y) = tn x - tn y := by
  unfold tn at *
  rw [Int64.toBitVec_sub, BitVec.toNat_sub_of_le (BitVec.le_def.mpr h)]
theorem tn_add {x y : Int64} (h : tn x + tn y < 2 ^ 64) : tn (x + y) = tn x + tn y := by
  unfold tn at *
  rw [Int64.toBitVec_add, BitVec.toNat_add, Nat.mod_eq_of_lt h]
theorem tn_and (x y : Int64) : tn (x &&& y) = (tn x &&& tn y) := by
  unfold tn
  rw [Int64.toBitVec_and, BitVec.toNat_and]
theorem tn_sh (x : Int64) {k : Nat} (hk : k < 64) : tn ((x).toUInt64 >>> ((nI k).toInt64.toUInt64 &&& Int64.toUInt64 63)).toInt64 = tn x / 2 ^ k := sh_nat x hk (wb_cu k hk)
theorem tn_end {x : Int64} {n : Nat} (h : tn x % 128 = n) : x.toInt32 &&& (127 : Int32) = nI n := by
  rw [pk_and _ 7 (by decide)]
  have e : x.toInt32.toBitVec.toNat = tn x % 2 ^ 32 := by
    show (x.toBitVec.signExtend 32).toNat = _
    rw [BitVec.signExtend_eq_setWidth_of_le _ (by decide), BitVec.toNat_setWidth]
    rfl
  rw [e, ← h]
  congr 1
  omega
theorem bv_lt8 {l : List Nat} (h8 : l.length = 8) (h : ∀ b, b ∈ l → b ≤ 68) : bval l < 2 ^ 63 := by
  obtain ⟨a, b, c, d, e, f, g, i, rfl⟩ := nat8 h8
  have hi := h i (by simp)
  have := hor (show a < 256 by have := h a (by simp); omega) (hor (show b < 256 by have := h b (by simp); omega) (hor (show c < 256 by have := h c (by simp); omega) (hor (show d < 256 by have := h d (by simp); omega) (hor (show e < 256 by have := h e (by simp); omega) (hor (show f < 256 by have := h f (by simp); omega) (hor (show g < 256 by have := h g (by simp); omega) (show i < 128 by omega)))))))
  exact Nat.lt_of_lt_of_eq this (by decide)
theorem bcV_spec (x : Int64) : bcV x = nI (cntB (hb x) 64) := by
  have hN : tn x < 256 ^ 8 := Nat.lt_of_lt_of_eq x.toBitVec.isLt (by decide)
  have hx := digs_val 8 (tn x) hN
  have hlt := digs_lt 8 (tn x)
  have hln := digs_len 8 (tn x)
  have hcnt : cntB (hb x) 64 = sumL ((digs 8 (tn x)).map (fun b => cntB (fun c => b.testBit c) 8)) := cnt_digs 8 (tn x)
  rw [hcnt]
  generalize digs 8 (tn x) = l at hx hlt hln
  have s1 := step1 l hlt
  rw [hln, hx, brep85] at s1
  have hl1 : ∀ b, b ∈ l.map q1 → b < 256 := fun b hb => by
    obtain ⟨c, hc, rfl⟩ := List.mem_map.mp hb
    exact q1_lt c (hlt c hc)
  have s2 := step2 (l.map q1) hl1
  rw [List.length_map, hln, brep51] at s2
  have hl2 : ∀ b, b ∈ (l.map q1).map q2 → b ≤ 68 ∧ b % 16 ≤ 4 := fun b hb => by
    obtain ⟨c, hc, rfl⟩ := List.mem_map.mp hb
    obtain ⟨d, hd, rfl⟩ := List.mem_map.mp hc
    exact q2_ok d (hlt d hd)
  have s3 := step3 ((l.map q1).map q2) hl2
  rw [List.length_map, List.length_map, hln, brep15] at s3
  have hmap : ((l.map q1).map q2).map q3 = l.map (fun b => cntB (fun c => b.testBit c) 8) := by
    rw [List.map_map, List.map_map]
    apply List.map_congr_left
    intro b hb
    exact q3_ok b (hlt b hb)
  rw [hmap] at s3
  have hB : bval ((l.map q1).map q2) < 2 ^ 63 := bv_lt8 (by rw [List.length_map, List.length_map, hln]) (fun b hb => (hl2 b hb).1)
  generalize bval ((l.map q1).map q2) = B at s2 s3 hB
  generalize bval (l.map q1) = A at s1 s2
  obtain ⟨a, b, c, d, e, f, g, i, rfl⟩ := nat8 hln
  simp only [List.map_cons, List.map_nil, bval, sumL] at s3 ⊢
  have ka := cnt8_le a
  have kb := cnt8_le b
  have kc := cnt8_le c
  have kd := cnt8_le d
  have ke := cnt8_le e
  have kf := cnt8_le f
  have kg := cnt8_le g
  have ki := cnt8_le i
  generalize cntB (fun c => a.testBit c) 8 = pa at ka s3 ⊢
  generalize cntB (fun c => b.testBit c) 8 = pb at kb s3 ⊢
  generalize cntB (fun x => c.testBit x) 8 = pc at kc s3 ⊢
  generalize cntB (fun c => d.testBit c) 8 = pd at kd s3 ⊢
  generalize cntB (fun c => e.testBit c) 8 = pe at ke s3 ⊢
  generalize cntB (fun c => f.testBit c) 8 = pf at kf s3 ⊢
  generalize cntB (fun c => g.testBit c) 8 = pg at kg s3 ⊢
  generalize cntB (fun c => i.testBit c) 8 = pi at ki s3 ⊢
  obtain ⟨f4, f5, f6, f7⟩ := fold8 (z := (B + B / 16) &&& 1085102592571150095) ka kb kc kd ke kf kg ki s3 rfl rfl rfl
  clear hlt hl1 hl2 hx hcnt hmap
  unfold bcV
  dsimp only
  generalize e1 : x - (((x).toUInt64 >>> (((1 : Int32)).toInt64.toUInt64 &&& Int64.toUInt64 63)).toInt64 &&& (6148914691236517205 : Int64)) = v1
  have t1 : tn v1 = A := by
    rw [← e1, tn_sub]
    · rw [tn_and, show tn ((x).toUInt64 >>> (((1 : Int32)).toInt64.toUInt64 &&& Int64.toUInt64 63)).toInt64 = tn x / 2 ^ 1 from tn_sh x (k := 1) (by decide), show tn (6148914691236517205 : Int64) = 6148914691236517205 by decide +kernel]
      exact Nat.sub_eq_of_eq_add (by rw [Nat.add_comm]; exact s1.symm)
    · rw [tn_and, show tn ((x).toUInt64 >>> (((1 : Int32)).toInt64.toUInt64 &&& Int64.toUInt64 63)).toInt64 = tn x / 2 ^ 1 from tn_sh x (k := 1) (by decide), show tn (6148914691236517205 : Int64) = 6148914691236517205 by decide +kernel]
      exact Nat.le.intro s1
  generalize e2 : (v1 &&& (3689348814741910323 : Int64)) + (((v1).toUInt64 >>> (((2 : Int32)).toInt64.toUInt64 &&& Int64.toUInt64 63)).toInt64 &&& (3689348814741910323 : Int64)) = v2
  have t2 : tn v2 = B := by
    have ea : tn (v1 &&& (3689348814741910323 : Int64)) + tn (((v1).toUInt64 >>> (((2 : Int32)).toInt64.toUInt64 &&& Int64.toUInt64 63)).toInt64 &&& (3689348814741910323 : Int64)) = B := by
      rw [tn_and, tn_and, show tn ((v1).toUInt64 >>> (((2 : Int32)).toInt64.toUInt64 &&& Int64.toUInt64 63)).toInt64 = tn v1 / 2 ^ 2 from tn_sh v1 (k := 2) (by decide), show tn (3689348814741910323 : Int64) = 3689348814741910323 by decide +kernel, t1]
      exact s2
    rw [← e2, tn_add (by rw [ea]; exact Nat.lt_trans hB (by decide)), ea]
  generalize e3 : ((v2 + ((v2).toUInt64 >>> (((4 : Int32)).toInt64.toUInt64 &&& Int64.toUInt64 63)).toInt64) &&& (1085102592571150095 : Int64)) = v3
  have t3 : tn v3 = (B + B / 16) &&& 1085102592571150095 := by
    have ea : tn ((v2).toUInt64 >>> (((4 : Int32)).toInt64.toUInt64 &&& Int64.toUInt64 63)).toInt64 = B / 16 := by
      rw [show tn ((v2).toUInt64 >>> (((4 : Int32)).toInt64.toUInt64 &&& Int64.toUInt64 63)).toInt64 = tn v2 / 2 ^ 4 from tn_sh v2 (k := 4) (by decide), t2]
    rw [← e3, tn_and, tn_add (by rw [ea, t2]; clear s1 s2 s3 f4 f5 f6 f7; omega), ea, t2, show tn (1085102592571150095 : Int64) = 1085102592571150095 by decide +kernel]
  generalize (B + B / 16) &&& 1085102592571150095 = z at s3 f4 f5 f6 f7 t3
  generalize e4 : v3 + ((v3).toUInt64 >>> (((8 : Int32)).toInt64.toUInt64 &&& Int64.toUInt64 63)).toInt64 = v4
  have t4 : tn v4 = z + z / 256 := by
    have ea : tn ((v3).toUInt64 >>> (((8 : Int32)).toInt64.toUInt64 &&& Int64.toUInt64 63)).toInt64 = z / 256 := by
      rw [show tn ((v3).toUInt64 >>> (((8 : Int32)).toInt64.toUInt64 &&& Int64.toUInt64 63)).toInt64 = tn v3 / 2 ^ 8 from tn_sh v3 (k := 8) (by decide), t3]
    rw [← e4, tn_add (by rw [ea, t3]; exact f4), ea, t3]
  generalize e5 : v4 + ((v4).toUInt64 >>> (((16 : Int32)).toInt64.toUInt64 &&& Int64.toUInt64 63)).toInt64 = v5
  generalize z + z / 256 = z4 at f4 f5 f6 f7 t4
  have t5 : tn v5 = z4 + z4 / 65536 := by
    have ea : tn ((v4).toUInt64 >>> (((16 : Int32)).toInt64.toUInt64 &&& Int64.toUInt64 63)).toInt64 = z4 / 65536 := by
      rw [show tn ((v4).toUInt64 >>> (((16 : Int32)).toInt64.toUInt64 &&& Int64.toUInt64 63)).toInt64 = tn v4 / 2 ^ 16 from tn_sh v4 (k := 16) (by decide), t4]
    rw [← e5, tn_add (by rw [ea, t4]; exact f5), ea, t4]
  generalize z4 + z4 / 65536 = z5 at f5 f6 f7 t5
  rw [tn_end (n := pa + pb + pc + pd + pe + pf + pg + pi)]
  · congr 1
    clear s1 s2 s3 f4 f5 f6 f7
    omega
  · have ea : tn ((v5).toUInt64 >>> (((32 : Int32)).toInt64.toUInt64 &&& Int64.toUInt64 63)).toInt64 = z5 / 4294967296 := by
      rw [show tn ((v5).toUInt64 >>> (((32 : Int32)).toInt64.toUInt64 &&& Int64.toUInt64 63)).toInt64 = tn v5 / 2 ^ 32 from tn_sh v5 (k := 32) (by decide), t5]
    rw [tn_add (by rw [ea, t5]; exact f6), ea, t5]
    exact f7

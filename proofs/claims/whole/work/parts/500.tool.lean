/-! pasted: bits (laws/BITS.to-paste) -/
/-! ===== Int32 by its bits: bt x i ===== -/
def bt (x : Int32) (i : Nat) : Bool := x.toBitVec.getLsbD i
theorem b_ext {x y : Int32} (h : ∀ i, i < 32 → bt x i = bt y i) : x = y := Int32.toBitVec_inj.mp (BitVec.eq_of_getLsbD_eq (fun i hi => h i hi))
theorem b_or (x y : Int32) (i : Nat) : bt (x ||| y) i = (bt x i || bt y i) := by unfold bt; rw [Int32.toBitVec_or, BitVec.getLsbD_or]
theorem b_and (x y : Int32) (i : Nat) : bt (x &&& y) i = (bt x i && bt y i) := by unfold bt; rw [Int32.toBitVec_and, BitVec.getLsbD_and]
theorem b_xor (x y : Int32) (i : Nat) : bt (x ^^^ y) i = (bt x i ^^ bt y i) := by unfold bt; rw [Int32.toBitVec_xor, BitVec.getLsbD_xor]
theorem b_big {x : Int32} {i : Nat} (h : 32 ≤ i) : bt x i = false := BitVec.getLsbD_of_ge _ _ h
theorem b_255 (i : Nat) : bt 255 i = decide (i < 8) := by
  rcases Nat.lt_or_ge i 32 with h | h
  · exact (by decide +kernel : ∀ i, i < 32 → bt 255 i = decide (i < 8)) i h
  · rw [b_big h, decide_eq_false (by omega)]
theorem b_65535 (i : Nat) : bt 65535 i = decide (i < 16) := by
  rcases Nat.lt_or_ge i 32 with h | h
  · exact (by decide +kernel : ∀ i, i < 32 → bt 65535 i = decide (i < 16)) i h
  · rw [b_big h, decide_eq_false (by omega)]
theorem b_m1 : ∀ i, i < 32 → bt (-1) i = true := by decide +kernel
theorem b_0 (i : Nat) : bt 0 i = false := BitVec.getLsbD_zero
theorem s_l : ∀ n, n < 32 → ((nI n &&& 31).toBitVec.smod 32).toNat = n := by decide +kernel
theorem s_u : ∀ n, n < 32 → (((nI n).toUInt32 &&& Int32.toUInt32 31).toBitVec % 32).toNat = n := by decide +kernel
theorem b_shl (n : Nat) (hn : n < 32) (x : Int32) {i : Nat} (hi : i < 32) : bt (x <<< (nI n &&& 31)) i = (decide (n ≤ i) && bt x (i - n)) := by
  unfold bt
  rw [Int32.toBitVec_shiftLeft]
  show (x.toBitVec <<< ((nI n &&& 31).toBitVec.smod 32).toNat).getLsbD i = _
  rw [s_l n hn, BitVec.getLsbD_shiftLeft]
  rcases Nat.lt_or_ge i n with h | h
  · simp [h, Nat.not_le.mpr h]
  · simp [hi, h, Nat.not_lt.mpr h]
theorem b_ushr (n : Nat) (hn : n < 32) (x : Int32) (i : Nat) : bt ((x.toUInt32 >>> ((nI n).toUInt32 &&& Int32.toUInt32 31)).toInt32) i = bt x (n + i) := by
  show (x.toUInt32 >>> ((nI n).toUInt32 &&& Int32.toUInt32 31)).toBitVec.getLsbD i = x.toUInt32.toBitVec.getLsbD (n + i)
  rw [UInt32.toBitVec_shiftRight]
  show (x.toUInt32.toBitVec >>> (((nI n).toUInt32 &&& Int32.toUInt32 31).toBitVec % 32).toNat).getLsbD i = _
  rw [s_u n hn, BitVec.getLsbD_ushiftRight]
theorem b_sshr (n : Nat) (hn : n < 32) (x : Int32) {i : Nat} (hi : i < 32) : bt (x >>> (nI n &&& 31)) i = if n + i < 32 then bt x (n + i) else bt x 31 := by
  unfold bt
  rw [Int32.toBitVec_shiftRight]
  show (x.toBitVec.sshiftRight ((nI n &&& 31).toBitVec.smod 32).toNat).getLsbD i = _
  rw [s_l n hn, BitVec.getLsbD_sshiftRight, BitVec.msb_eq_getLsbD_last]
  simp [hi]
theorem b_shl8 (x : Int32) {i : Nat} (hi : i < 32) : bt (x <<< ((8 : Int32) &&& 31)) i = (decide (8 ≤ i) && bt x (i - 8)) := b_shl 8 (by omega) x hi
theorem b_shl16 (x : Int32) {i : Nat} (hi : i < 32) : bt (x <<< ((16 : Int32) &&& 31)) i = (decide (16 ≤ i) && bt x (i - 16)) := b_shl 16 (by omega) x hi
theorem b_shl24 (x : Int32) {i : Nat} (hi : i < 32) : bt (x <<< ((24 : Int32) &&& 31)) i = (decide (24 ≤ i) && bt x (i - 24)) := b_shl 24 (by omega) x hi
theorem b_sshr8 (x : Int32) {i : Nat} (hi : i < 32) : bt (x >>> ((8 : Int32) &&& 31)) i = if 8 + i < 32 then bt x (8 + i) else bt x 31 := b_sshr 8 (by omega) x hi
theorem nx_and (a b : Nat) : nI a &&& nI b = nI (a &&& b) := by
  apply Int32.toBitVec_inj.1
  show BitVec.ofNat 32 a &&& BitVec.ofNat 32 b = BitVec.ofNat 32 (a &&& b)
  apply BitVec.eq_of_getLsbD_eq
  intro i hi
  simp [hi]
theorem nx_xor (a b : Nat) : nI a ^^^ nI b = nI (a ^^^ b) := by
  apply Int32.toBitVec_inj.1
  show BitVec.ofNat 32 a ^^^ BitVec.ofNat 32 b = BitVec.ofNat 32 (a ^^^ b)
  apply BitVec.eq_of_getLsbD_eq
  intro i hi
  simp [hi]
theorem bp_b (x : Int32) : x.toInt8.toInt32 &&& 255 = x &&& 255 := by
  apply Int32.toBitVec_inj.mp
  rw [Int32.toBitVec_and, Int32.toBitVec_and, Int8.toBitVec_toInt32, Int32.toBitVec_toInt8]
  apply BitVec.eq_of_getLsbD_eq
  intro i hi
  rw [BitVec.getLsbD_and, BitVec.getLsbD_and]
  have hm : ∀ i < 32, 8 ≤ i → (255 : Int32).toBitVec.getLsbD i = false := by decide
  rcases Nat.lt_or_ge i 8 with z | z
  · rw [BitVec.getLsbD_signExtend, BitVec.getLsbD_signExtend, if_pos z, if_pos hi]
    simp only [z, hi, decide_true, Bool.true_and]
  · rw [hm i hi z]; simp
/-! numbers: Int32 as natural numbers -/
theorem il (n : Nat) : (@OfNat.ofNat Int32 n Int32.instOfNat) = nI (@OfNat.ofNat Nat n (instOfNatNat n)) := Eq.trans rfl rfl
def un (x : Int32) : Nat := x.toBitVec.toNat
theorem un_lt (x : Int32) : un x < 4294967296 := x.toBitVec.isLt
theorem nI_un (x : Int32) : nI (un x) = x := by
  have h : (nI (un x)).toBitVec = x.toBitVec := by
    show BitVec.ofNat 32 _ = _
    unfold un
    simp
  exact Int32.toBitVec_inj.mp h
theorem un_nI (n : Nat) : un (nI n) = n % 4294967296 := by
  show (BitVec.ofNat 32 n).toNat = _
  simp
theorem un_inj {x y : Int32} (h : un x = un y) : x = y := by rw [← nI_un x, ← nI_un y, h]
theorem nI_mod (n : Nat) : nI (n % 4294967296) = nI n := un_inj (by rw [un_nI, un_nI]; omega)
theorem nI_m1 {n : Nat} (h : n < 2147483648) : ¬ nI n = -1 := by
  intro e
  have h1 : (nI n).toInt = (-1 : Int32).toInt := by rw [e]
  rw [nI_toInt (by omega)] at h1
  have h2 : (-1 : Int32).toInt = -1 := by decide
  omega
theorem nI_lt0 {n : Nat} (h : n < 2147483648) : ¬ nI n < nI 0 := nI_pos (n := n) (by omega)
theorem nLt {a b : Nat} (ha : a < 2147483648) (hb : b < 2147483648) : nI a < nI b ↔ a < b := nI_ltI (by omega) (by omega)
theorem nLe {a b : Nat} (ha : a < 2147483648) (hb : b < 2147483648) : nI a ≤ nI b ↔ a ≤ b := nI_leI (by omega) (by omega)
theorem nEq {a b : Nat} (ha : a < 2147483648) (hb : b < 2147483648) : nI a = nI b ↔ a = b := nI_eq (by omega) (by omega)
theorem nDiv {a d : Nat} (ha : a < 2147483648) (h0 : 0 < d) (hd : d < 2147483648) : nI a / nI d = nI (a / d) := pk_div (by omega) h0 (by omega)
theorem nRem {a d : Nat} (ha : a < 2147483648) (h0 : 0 < d) (hd : d < 2147483648) : nI a - nI a / nI d * nI d = nI (a % d) := pk_rem (by omega) h0 (by omega)
theorem nSub {a b : Nat} (h : b ≤ a) : nI a - nI b = nI (a - b) := pk_sub h
theorem ld_nI {f : Nat → Int32} {n i : Nat} (h : i < n) (h2 : n ≤ 2147483648) : fb_ld f n (nI i) = some (f i) := by
  unfold fb_ld
  have h1 : (nI i).toNatClampNeg = i := nI_clamp (by omega)
  rw [if_neg, h1]
  rw [h1]
  intro q
  rcases q with q | q
  · exact nI_pos (n := i) (by omega) q
  · omega
theorem st_nI {st : fb_S} {k n i : Nat} {x : Int32} (h : i < n) (h2 : n ≤ 2147483648) : fb_st st k n (nI i) x = some (va_up st k (upd (st k) i x)) := by
  unfold fb_st
  have h1 : (nI i).toNatClampNeg = i := nI_clamp (by omega)
  rw [if_neg, h1]
  rw [h1]
  intro q
  rcases q with q | q
  · exact nI_pos (n := i) (by omega) q
  · omega
theorem cl_nI {i : Nat} (h : i < 2147483648) : (nI i).toNatClampNeg = i := nI_clamp (by omega)
/-- a row of numbers with one changed -/
def un1 (f : Nat → Nat) (k v : Nat) : Nat → Nat := fun j => if j = k then v else f j
theorem un1_s (f : Nat → Nat) (k v : Nat) : un1 f k v k = v := by simp [un1]
theorem un1_n (f : Nat → Nat) {k j : Nat} (v : Nat) (h : j ≠ k) : un1 f k v j = f j := by simp [un1, h]
def up (A : Nat → Nat → Nat) (k i v : Nat) : Nat → Nat → Nat := va_up A k (un1 (A k) i v)
/-- a byte as a byte array holds it -/
def bs (n : Nat) : Int32 := fb_b (nI n)
theorem bs_k : ∀ n, n < 256 → bs n &&& nI 255 = nI n := by decide +kernel
theorem bs_b : ∀ n, n < 256 → fb_b (bs n) = bs n := by decide +kernel
theorem fb_bb (x : Int32) : fb_b (fb_b x) = fb_b x := by unfold fb_b; simp
theorem nAnd8 (n : Nat) : nI n &&& nI 255 = nI (n % 256) := by
  have h1 := pk_and (nI n) (m := 255) 8 (by decide)
  show nI n &&& 255 = _
  rw [h1]
  show nI (un (nI n) % 256) = _
  rw [un_nI]
  congr 1
  omega
theorem nAnd16 (n : Nat) : nI n &&& nI 65535 = nI (n % 65536) := by
  have h1 := pk_and (nI n) (m := 65535) 16 (by decide)
  show nI n &&& 65535 = _
  rw [h1]
  show nI (un (nI n) % 65536) = _
  rw [un_nI]
  congr 1
  omega
theorem nAnd3 (n : Nat) : nI n &&& nI 3 = nI (n % 4) := by
  have h1 := pk_and (nI n) (m := 3) 2 (by decide)
  show nI n &&& 3 = _
  rw [h1]
  show nI (un (nI n) % 4) = _
  rw [un_nI]
  congr 1
  omega
theorem nAnd7 (n : Nat) : nI n &&& nI 7 = nI (n % 8) := by
  have h1 := pk_and (nI n) (m := 7) 3 (by decide)
  show nI n &&& 7 = _
  rw [h1]
  show nI (un (nI n) % 8) = _
  rw [un_nI]
  congr 1
  omega
theorem nAnd1 (n : Nat) : nI n &&& nI 1 = nI (n % 2) := by
  have h1 := pk_and (nI n) (m := 1) 1 (by decide)
  show nI n &&& 1 = _
  rw [h1]
  show nI (un (nI n) % 2) = _
  rw [un_nI]
  congr 1
  omega
theorem bs_m (n : Nat) : fb_b (nI n) = bs (n % 256) := by
  have h : fb_b (nI n) &&& 255 = nI (n % 256) := by
    show (nI n).toInt8.toInt32 &&& 255 = _
    rw [bp_b]
    exact nAnd8 n
  exact (sc_eq (b := fb_b (nI n)) (fb_bb (nI n)) (n := n % 256) (by omega)).mpr h
theorem bs_inj : ∀ a, a < 256 → ∀ b, b < 256 → bs a = bs b → a = b := by
  intro a ha b hb h
  have h1 := bs_k a ha
  rw [h, bs_k b hb] at h1
  exact ((nEq (by omega) (by omega)).mp h1).symm
theorem bs_eq {a b : Nat} (ha : a < 256) (hb : b < 256) : bs a = bs b ↔ a = b := ⟨bs_inj a ha b hb, fun h => by rw [h]⟩
theorem bs_lo : ∀ n, n < 128 → bs n = nI n := by decide +kernel
theorem bs_eqI {a b : Nat} (ha : a < 256) (hb : b < 128) : bs a = nI b ↔ a = b := by
  rw [← bs_lo b hb]
  exact bs_eq ha (by omega)
/-! words of four bytes -/
def wo (B : Nat → Nat) (w : Nat) : Nat := B (4 * w) + 256 * B (4 * w + 1) + 65536 * B (4 * w + 2) + 16777216 * B (4 * w + 3)
theorem bt_nI (n : Nat) {i : Nat} (hi : i < 32) : bt (nI n) i = n.testBit i := by
  show (BitVec.ofNat 32 n).getLsbD i = _
  rw [BitVec.getLsbD_ofNat, decide_eq_true hi, Bool.true_and]
theorem tb (n i : Nat) : n.testBit i = decide (n / 2 ^ i % 2 = 1) := Nat.testBit_eq_decide_div_mod_eq
theorem wo_bit {B : Nat → Nat} (hB : ∀ q, B q < 256) (w : Nat) {i : Nat} (hi : i < 32) : (wo B w).testBit i = (B (4 * w + i / 8)).testBit (i % 8) := by
  have h0 := hB (4 * w)
  have h1 := hB (4 * w + 1)
  have h2 := hB (4 * w + 2)
  have h3 := hB (4 * w + 3)
  rw [tb, tb]
  unfold wo
  have key : ∀ r t : Nat, r < 4 → t < 8 → i = 8 * r + t → (decide ((B (4 * w) + 256 * B (4 * w + 1) + 65536 * B (4 * w + 2) + 16777216 * B (4 * w + 3)) / 2 ^ i % 2 = 1)) = decide (B (4 * w + i / 8) / 2 ^ (i % 8) % 2 = 1) := by
    intro r t hr ht e
    have e1 : i / 8 = r := by omega
    have e2 : i % 8 = t := by omega
    rw [e1, e2, e]
    congr 1
    apply propext
    rcases (show r = 0 ∨ r = 1 ∨ r = 2 ∨ r = 3 by omega) with rfl | rfl | rfl | rfl <;> rcases (show t = 0 ∨ t = 1 ∨ t = 2 ∨ t = 3 ∨ t = 4 ∨ t = 5 ∨ t = 6 ∨ t = 7 by omega) with rfl | rfl | rfl | rfl | rfl | rfl | rfl | rfl <;> simp only [Nat.mul_zero, Nat.mul_one, Nat.zero_add, Nat.add_zero, Nat.reducePow, Nat.reduceMul, Nat.reduceAdd, Nat.pow_zero, Nat.div_one] <;> omega
  exact key (i / 8) (i % 8) (by omega) (by omega) (by omega)
theorem set8 {B : Nat → Nat} (hB : ∀ q, B q < 256) (w r : Nat) (hr : r < 4) (y : Int32) : ((nI (wo B w) &&& ((255 <<< (nI (8 * r) &&& 31)) ^^^ (-1))) ||| ((y &&& 255) <<< (nI (8 * r) &&& 31))) = nI (wo (un1 B (4 * w + r) (un y % 256)) w) := by
  have hB2 : ∀ q, un1 B (4 * w + r) (un y % 256) q < 256 := by
    intro q
    unfold un1
    split
    · omega
    · exact hB q
  apply b_ext
  intro i hi
  rw [bt_nI _ hi, wo_bit hB2 w hi, b_or, b_and, b_xor, b_m1 i hi, b_shl (8 * r) (by omega) _ hi, b_shl (8 * r) (by omega) _ hi, b_and, b_255, bt_nI _ hi, wo_bit hB w hi]
  by_cases h : i / 8 = r
  · subst h
    have e1 : decide (8 * (i / 8) ≤ i) = true := decide_eq_true (by omega)
    have e2 : decide (i - 8 * (i / 8) < 8) = true := decide_eq_true (by omega)
    have e3 : i - 8 * (i / 8) = i % 8 := by omega
    rw [un1_s, e1, e2, e3]
    have e4 : (un y % 256).testBit (i % 8) = bt y (i % 8) := by
      have h5 : (un y % 2 ^ 8).testBit (i % 8) = (decide (i % 8 < 8) && (un y).testBit (i % 8)) := Nat.testBit_mod_two_pow _ _ _
      rw [show (256 : Nat) = 2 ^ 8 by rfl, h5, decide_eq_true (show i % 8 < 8 by omega), Bool.true_and, ← bt_nI (un y) (show i % 8 < 32 by omega), nI_un]
    rw [e4]
    simp
  · rw [un1_n _ _ (by omega)]
    have e1 : (decide (8 * r ≤ i) && decide (i - 8 * r < 8)) = false := by
      rcases Nat.lt_or_ge i (8 * r) with z | z
      · rw [decide_eq_false (show ¬ 8 * r ≤ i by omega), Bool.false_and]
      · rw [decide_eq_false (show ¬ i - 8 * r < 8 by omega), Bool.and_false]
    rw [e1]
    have e2 : (decide (8 * r ≤ i) && (bt y (i - 8 * r) && decide (i - 8 * r < 8))) = false := by
      rw [Bool.and_comm (bt y _), ← Bool.and_assoc, e1, Bool.false_and]
    rw [e2]
    simp
theorem set16 {B : Nat → Nat} (hB : ∀ q, B q < 256) (w r : Nat) (hr : r = 0 ∨ r = 2) (y : Int32) : ((nI (wo B w) &&& ((65535 <<< (nI (8 * r) &&& 31)) ^^^ (-1))) ||| ((y &&& 65535) <<< (nI (8 * r) &&& 31))) = nI (wo (un1 (un1 B (4 * w + r) (un y % 256)) (4 * w + r + 1) (un y / 256 % 256)) w) := by
  have hB2 : ∀ q, un1 (un1 B (4 * w + r) (un y % 256)) (4 * w + r + 1) (un y / 256 % 256) q < 256 := by
    intro q
    unfold un1
    split
    · omega
    · split
      · omega
      · exact hB q
  apply b_ext
  intro i hi
  rw [bt_nI _ hi, wo_bit hB2 w hi, b_or, b_and, b_xor, b_m1 i hi, b_shl (8 * r) (by omega) _ hi, b_shl (8 * r) (by omega) _ hi, b_and, b_65535, bt_nI _ hi, wo_bit hB w hi]
  by_cases h : i / 8 = r ∨ i / 8 = r + 1
  · have e1 : decide (8 * r ≤ i) = true := decide_eq_true (by omega)
    have e2 : decide (i - 8 * r < 16) = true := decide_eq_true (by omega)
    rw [e1, e2]
    have e4 : (un1 (un1 B (4 * w + r) (un y % 256)) (4 * w + r + 1) (un y / 256 % 256) (4 * w + i / 8)).testBit (i % 8) = bt y (i - 8 * r) := by
      rw [← nI_un y, bt_nI _ (show i - 8 * r < 32 by omega), nI_un]
      rcases h with h | h
      · rw [un1_n _ _ (by omega), show 4 * w + i / 8 = 4 * w + r by omega, un1_s]
        have h5 : (un y % 2 ^ 8).testBit (i % 8) = (decide (i % 8 < 8) && (un y).testBit (i % 8)) := Nat.testBit_mod_two_pow _ _ _
        rw [show (256 : Nat) = 2 ^ 8 by rfl, h5, decide_eq_true (show i % 8 < 8 by omega), Bool.true_and, show i - 8 * r = i % 8 by omega]
      · rw [show 4 * w + i / 8 = 4 * w + r + 1 by omega, un1_s]
        have h5 : (un y / 256 % 2 ^ 8).testBit (i % 8) = (decide (i % 8 < 8) && (un y / 256).testBit (i % 8)) := Nat.testBit_mod_two_pow _ _ _
        have h6 : (un y / 2 ^ 8).testBit (i % 8) = (un y).testBit (i % 8 + 8) := Nat.testBit_div_two_pow _ _
        rw [show un y / 256 % 256 = un y / 256 % 2 ^ 8 by rfl, h5, decide_eq_true (show i % 8 < 8 by omega), Bool.true_and, show un y / 256 = un y / 2 ^ 8 by rfl, h6, show i - 8 * r = i % 8 + 8 by omega]
    rw [e4]
    simp
  · rw [un1_n _ _ (by omega), un1_n _ _ (by omega)]
    have e1 : (decide (8 * r ≤ i) && decide (i - 8 * r < 16)) = false := by
      rcases Nat.lt_or_ge i (8 * r) with z | z
      · rw [decide_eq_false (show ¬ 8 * r ≤ i by omega), Bool.false_and]
      · rw [decide_eq_false (show ¬ i - 8 * r < 16 by omega), Bool.and_false]
    rw [e1]
    have e2 : (decide (8 * r ≤ i) && (bt y (i - 8 * r) && decide (i - 8 * r < 16))) = false := by
      rw [Bool.and_comm (bt y _), ← Bool.and_assoc, e1, Bool.false_and]
    rw [e2]
    simp

/-! peek -/
theorem mOf {n k : Nat} (st : fb_S) (hn : n < 2147483648) (hk : k < 4) : f_M_of (nI n) (nI k) st = some (nI (le n k), st) := by
  unfold f_M_of
  show some ((nI n >>> ((nI 8 * nI k) &&& 31)) &&& nI 255, st) = _
  rw [pk_mul, pk_shrN (by omega) (nI (8 * k) &&& 31) (8 * k) (s_l (8 * k) (by omega)), nAnd8]
  unfold le
  rw [Nat.pow_mul, show (2 ^ 8 : Nat) = 256 by rfl]
theorem mSup {A : fb_N} (o : oA A) {k : Nat} (hk : k < 1024) : f_M_superByte (nI k) (mu A) = some (nI (db A (1024 + k)), mu A) := by
  unfold f_M_superByte
  simp only [il]
  unfold db
  by_cases h : 32 ≤ k
  · rw [if_pos (by rw [nLe (by omega) (by omega)]; exact h), if_neg (by omega), if_neg (by omega), if_pos (by omega)]
  · have hn := o.nu (i := k / 4) (by omega)
    rw [if_neg (by rw [nLe (by omega) (by omega)]; exact h), nDiv (by omega) (by omega) (by omega), ld_nI (by omega) (by omega), Option.bind_some, mu_12, pk_mul, nSub (by omega), show k - k / 4 * 4 = k % 4 by omega, mOf _ hn.2 (by omega), Option.bind_some, if_neg (by omega), if_pos (by omega), show (1024 + k - 1024) / 4 = k / 4 by omega, show (1024 + k) % 4 = k % 4 by omega]
theorem mIno {A : fb_N} (o : oA A) {i k : Nat} (hi : i < 64) (hk : k < 64) : f_M_inodeByte (nI i) (nI k) (mu A) = some (nI (ibx A i k), mu A) := by
  unfold f_M_inodeByte b_M_inodeByte_55 b_M_inodeByte_112
  simp only [il]
  have o4 := o.ki i
  have o5 := o.ma i
  have o6 := o.mi i
  have o7 := o.li i
  have o8 := o.sz i
  unfold ibx
  have r2 : nI k - nI k / nI 2 * nI 2 = nI (k % 2) := nRem (by omega) (by omega) (by omega)
  have r4 : nI k - nI k / nI 4 * nI 4 = nI (k % 4) := nRem (by omega) (by omega) (by omega)
  by_cases h8 : 8 ≤ k
  · rw [if_pos (by rw [nLe (by omega) (by omega)]; exact h8), if_neg (show ¬ k < 2 by omega), if_neg (show ¬ k < 4 by omega), if_neg (show ¬ k < 6 by omega), if_neg (show ¬ k < 8 by omega)]
    by_cases h12 : 12 ≤ k
    · rw [if_pos (by rw [nLe (by omega) (by omega)]; exact h12), if_neg (show ¬ k < 12 by omega), r4, nDiv (by omega) (by omega) (by omega), nSub (by omega), pk_mul, nI_add, nI_add]
      by_cases h3 : 12 ≤ k / 4 - 3
      · rw [if_pos (by rw [nLe (by omega) (by omega)]; exact h3), if_neg (show ¬ k / 4 - 3 < 12 by omega), ld_nI (by omega) (by omega), Option.bind_some, mu_11, mOf _ (by have := o.bl (269 * i + 268); omega) (by omega), Option.bind_some]
      · rw [if_neg (by rw [nLe (by omega) (by omega)]; exact h3), if_pos (show k / 4 - 3 < 12 by omega), ld_nI (by omega) (by omega), Option.bind_some, mu_11, mOf _ (by have := o.bl (269 * i + (k / 4 - 3)); omega) (by omega), Option.bind_some]
    · rw [if_neg (by rw [nLe (by omega) (by omega)]; exact h12), if_pos (show k < 12 by omega), ld_nI (by omega) (by omega), Option.bind_some, mu_8, nSub (by omega), mOf _ (by omega) (by omega), Option.bind_some]
  · rw [if_neg (by rw [nLe (by omega) (by omega)]; exact h8), r2]
    by_cases h2 : 2 ≤ k
    · rw [if_pos (by rw [nLe (by omega) (by omega)]; exact h2), if_neg (show ¬ k < 2 by omega)]
      by_cases h4 : 4 ≤ k
      · rw [if_pos (by rw [nLe (by omega) (by omega)]; exact h4), if_neg (show ¬ k < 4 by omega)]
        by_cases h6 : 6 ≤ k
        · rw [if_pos (by rw [nLe (by omega) (by omega)]; exact h6), if_neg (show ¬ k < 6 by omega), if_pos (show k < 8 by omega), ld_nI (by omega) (by omega), Option.bind_some, mu_7, mOf _ (by omega) (by omega), Option.bind_some, show k % 2 = k - 6 by omega]
        · rw [if_neg (by rw [nLe (by omega) (by omega)]; exact h6), if_pos (show k < 6 by omega), ld_nI (by omega) (by omega), Option.bind_some, mu_6, mOf _ (by omega) (by omega), Option.bind_some, show k % 2 = k - 4 by omega]
      · rw [if_neg (by rw [nLe (by omega) (by omega)]; exact h4), if_pos (show k < 4 by omega), ld_nI (by omega) (by omega), Option.bind_some, mu_5, mOf _ (by omega) (by omega), Option.bind_some, show k % 2 = k - 2 by omega]
    · rw [if_neg (by rw [nLe (by omega) (by omega)]; exact h2), if_pos (show k < 2 by omega), ld_nI (by omega) (by omega), Option.bind_some, mu_4, mOf _ (by omega) (by omega), Option.bind_some, show k % 2 = k by omega]
theorem nOr {v t : Nat} (hv : v < 2 ^ t) (ht : t < 31) : nI v ||| (nI 1 <<< (nI t &&& 31)) = nI (v + 2 ^ t) := by
  have h2 : 2 ^ t ≤ 2 ^ 30 := Nat.pow_le_pow_right (by omega) (by omega)
  have e1 : nI 1 <<< (nI t &&& 31) = nI (1 * 2 ^ t) := pk_shlN (nI t &&& 31) t (s_l t (by omega)) (by omega)
  rw [e1, Nat.one_mul]
  have e2 : nI v ||| nI (2 ^ t) = nI (v ||| 2 ^ t) := by
    apply b_ext
    intro i hi
    rw [b_or, bt_nI _ hi, bt_nI _ hi, bt_nI _ hi, Nat.testBit_or]
  rw [e2]
  congr 1
  have e3 := Nat.two_pow_add_eq_or_of_lt hv 1
  rw [Nat.mul_one] at e3
  rw [Nat.or_comm, ← e3, Nat.add_comm]
def pm (A : fb_N) (k t : Nat) : Nat := sg (fun j => A 3 (8 * k + j) * 2 ^ j) t
theorem pm_lt {A : fb_N} (o : oA A) (k : Nat) : ∀ t, pm A k t < 2 ^ t := by
  intro t
  induction t with
  | zero => simp [pm, sg]
  | succ t ih =>
    have h := o.us (8 * k + t)
    show pm A k t + A 3 (8 * k + t) * 2 ^ t < 2 ^ (t + 1)
    rw [Nat.pow_succ]
    rcases (show A 3 (8 * k + t) = 0 ∨ A 3 (8 * k + t) = 1 by omega) with e | e <;> rw [e] <;> omega
theorem pm_8 (A : fb_N) (k : Nat) : pm A k 8 = mbx A k := by
  unfold mbx
  simp only [pm, sg, Nat.reducePow, Nat.zero_add, Nat.add_zero, Nat.mul_one]
  omega
theorem mMapL {A : fb_N} (o : oA A) {k : Nat} (hk : k < 64) : ∀ n t, t ≤ 8 → 8 - t < n → l_M_mapByte_4 n (nI k) (nI (pm A k t)) (nI t) (mu A) = some (nI (mbx A k), mu A) := by
  intro n
  induction n with
  | zero => intro t _ h; omega
  | succ n ih =>
    intro t ht hn
    show b_M_mapByte_4 (l_M_mapByte_4 n) (nI k) (nI (pm A k t)) (nI t) (mu A) = _
    unfold b_M_mapByte_4 b_M_mapByte_39
    simp only [il]
    by_cases e : 8 ≤ t
    · rw [if_pos (by rw [nLe (by omega) (by omega)]; exact e), show t = 8 by omega, pm_8]
    · have hu := o.us (8 * k + t)
      rw [if_neg (by rw [nLe (by omega) (by omega)]; exact e), if_neg (by rw [nLe (by omega) (by omega)]; omega), pk_mul, nI_add, ld_nI (by omega) (by omega), Option.bind_some, mu_3, nI_add]
      have h1 := ih (t + 1) (by omega) (by omega)
      have h2 : pm A k (t + 1) = pm A k t + A 3 (8 * k + t) * 2 ^ t := rfl
      rcases (show A 3 (8 * k + t) = 0 ∨ A 3 (8 * k + t) = 1 by omega) with z | z
      · rw [z, if_pos rfl]
        rw [h2, z, Nat.zero_mul, Nat.add_zero] at h1
        exact h1
      · rw [z, if_neg (by rw [nEq (by omega) (by omega)]; omega)]
        rw [h2, z, Nat.one_mul] at h1
        have h3 : nI (pm A k t) ||| nI 1 <<< (nI t &&& nI 31) = nI (pm A k t + 2 ^ t) := nOr (pm_lt o k t) (by omega)
        rw [h3]
        exact h1
theorem mMap {A : fb_N} (o : oA A) {k : Nat} (hk : k < 1024) : f_M_mapByte (nI k) (mu A) = some (nI (db A (37888 + k)), mu A) := by
  unfold f_M_mapByte
  by_cases h : k < 64
  · rw [db_m A h]
    exact mMapL o h fb_n 0 (by omega) (by unfold fb_n; omega)
  · show b_M_mapByte_4 (l_M_mapByte_4 999999) (nI k) (nI 0) (nI 0) (mu A) = _
    unfold b_M_mapByte_4
    simp only [il]
    rw [if_neg (by rw [nLe (by omega) (by omega)]; omega), if_pos (by rw [nLe (by omega) (by omega)]; omega)]
    unfold db
    rw [if_neg (by omega), if_neg (by omega), if_neg (by omega), if_neg (by omega), if_neg (by omega), if_pos (by omega)]
theorem mPeek {A : fb_N} (o : oA A) (h0 : ∀ q, q < 38912 → A 2 q = 0) {b k : Nat} (hb : b < 512) (hk : k < 1024) : f_M_peek (nI b) (nI k) (mu A) = some (nI (db A (1024 * b + k)), mu A) := by
  unfold f_M_peek
  rw [mThr o, Option.bind_some]
  simp only [il]
  rw [if_neg (nI_lt0 (by omega)), if_neg (by rw [nLt (by omega) (by omega)]; omega), if_neg (nI_lt0 (by omega)), if_pos (by rw [nLe (by omega) (by omega)]; omega)]
  by_cases h1 : b = 1
  · subst h1
    rw [if_pos rfl, mSup o hk, Option.bind_some]
  · rw [if_neg (by rw [nEq (by omega) (by omega)]; exact h1)]
    by_cases h37 : b = 37
    · subst h37
      rw [if_pos rfl, mMap o hk, Option.bind_some]
    · rw [if_neg (by rw [nEq (by omega) (by omega)]; exact h37)]
      have e87 : b_M_peek_87 (nI b) (nI k) (mu A) = some (nI (A 2 (1024 * b + k)), mu A) := by
        unfold b_M_peek_87
        simp only [il]
        rw [pk_mul, nI_add, ld_nI (by omega) (by omega), Option.bind_some, mu_2, bs_k _ (o.dk _)]
      by_cases h32 : b ≤ 32
      · rw [if_pos (by rw [nLe (by omega) (by omega)]; exact h32), e87, h0 _ (by omega)]
        unfold db
        by_cases z : b = 0
        · rw [if_pos (by omega)]
        · rw [if_neg (by omega), if_neg (by omega), if_pos (by omega)]
      · rw [if_neg (by rw [nLe (by omega) (by omega)]; exact h32)]
        by_cases z : 37 ≤ b
        · rw [if_pos (by rw [nLe (by omega) (by omega)]; exact z), e87, db_d A (by omega)]
        · rw [if_neg (by rw [nLe (by omega) (by omega)]; exact z), nSub (by omega), pk_mul, nDiv (by omega) (by omega) (by omega), nI_add, pk_mul, nSub (by omega), mIno o (by omega) (by omega), Option.bind_some]
          have e := db_i A (i := 16 * (b - 33) + k / 64) (k := k - k / 64 * 64) (by omega) (by omega)
          rw [← e, show 33792 + 64 * (16 * (b - 33) + k / 64) + (k - k / 64 * 64) = 1024 * b + k by omega]
theorem s_peek : sm_peek sim := by
  intro j st mt x y hj hs
  obtain ⟨c, A, rfl, rfl, hR, hI⟩ := hs
  have fin : ∀ r : Int32, f_T_peek x y (ka c) = some (r, ka c) → f_M_peek x y (mu A) = some (r, mu A) → ∃ (r : Int32) (st1 mt1 : fb_S), f_T_peek x y (ka c) = some (r, st1) ∧ f_M_peek x y (mu A) = some (r, mt1) ∧ sim (j + 1) st1 mt1 := fun r h1 h2 => ⟨r, ka c, mu A, h1, h2, c, A, rfl, rfl, hR, hI.next⟩
  rcases ix x (n := 512) (by decide) with hx | ⟨h0, hx⟩ | ⟨b, hb, rfl⟩
  · refine fin (-1) ?_ ?_
    · unfold f_T_peek
      rw [if_pos hx]
    · unfold f_M_peek
      rw [mThr hI.1, Option.bind_some, if_pos hx]
  · refine fin (-1) ?_ ?_
    · unfold f_T_peek
      rw [if_neg h0, if_pos (show (512 : Int32) ≤ x from hx)]
    · unfold f_M_peek
      have hx2 : (511 : Int32) < x := by
        obtain ⟨a, ha, rfl⟩ := nI_of h0
        rw [nLe (by omega) (by omega)] at hx
        exact (nLt (a := 511) (by omega) (by omega)).mpr (by omega)
      rw [mThr hI.1, Option.bind_some, if_neg h0, if_pos hx2]
  · have hb1 : ¬ (512 : Int32) ≤ nI b := nLe' (a := 512) hb (by omega)
    have hb2 : ¬ (511 : Int32) < nI b := fun q => by have := (nLt (a := 511) (by omega) (by omega)).mp q; omega
    rcases ix y (n := 1024) (by decide) with hy | ⟨h0, hy⟩ | ⟨k, hk, rfl⟩
    · refine fin (-1) ?_ ?_
      · unfold f_T_peek
        rw [if_neg (nn0 (by omega)), if_neg hb1, if_pos hy]
      · unfold f_M_peek
        rw [mThr hI.1, Option.bind_some, if_neg (nn0 (by omega)), if_neg hb2, if_pos hy]
    · obtain ⟨a, ha, rfl⟩ := nI_of h0
      rw [nLe (by omega) (by omega)] at hy
      refine fin (-1) ?_ ?_
      · unfold f_T_peek
        rw [if_neg (nn0 (by omega)), if_neg hb1, if_neg h0, if_neg (fun q => by have := (nLt (b := 1024) (by omega) (by omega)).mp q; omega)]
      · unfold f_M_peek
        rw [mThr hI.1, Option.bind_some, if_neg (nn0 (by omega)), if_neg hb2, if_neg h0, if_neg (fun q => by have := (nLe (b := 1023) (by omega) (by omega)).mp q; omega)]
    · refine fin (nI (db A (1024 * b + k))) ?_ (mPeek hI.1 hI.2.1.2.2.2.2.2 hb hk)
      unfold f_T_peek
      rw [if_neg (nn0 (by omega)), if_neg hb1, if_neg (nn0 (by omega)), if_pos (show nI k < (1024 : Int32) from (nLt (b := 1024) (by omega) (by omega)).mpr hk)]
      show (f_K_partAt (nI b * nI 1024 + nI k) (255 : Int32) (ka c)).bind _ = _
      rw [pk_mul, nI_add, kPart8 hR.w (by omega), Option.bind_some, hR.d (by omega), Nat.mul_comm b 1024]

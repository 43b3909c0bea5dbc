/-! write -/
def bw (w : Int64) (k : Nat) : Nat := w.toBitVec.toNat / 2 ^ (8 * k) % 256
theorem lus_c : ∀ k, k < 64 → ((nI k).toInt64.toUInt64 &&& Int64.toUInt64 63) = UInt64.ofNat k := by decide +kernel
theorem lus_n (x : Int64) {s : Nat} (hs : s < 64) : (fb_lus x (nI s)).toBitVec.toNat = x.toBitVec.toNat / 2 ^ s := by
  unfold fb_lus
  rw [lus_c s hs]
  show (x.toUInt64 >>> UInt64.ofNat s).toNat = x.toUInt64.toNat / 2 ^ s
  rw [UInt64.toNat_shiftRight, show (UInt64.ofNat s).toNat % 64 = s by
    have : (UInt64.ofNat s).toNat = s := UInt64.toNat_ofNat_of_lt' (by
      show s < 18446744073709551616
      omega)
    rw [this]
    omega, Nat.shiftRight_eq_div_pow]
theorem l255 (X : Int64) : X &&& 255 = lN (X.toBitVec.toNat % 256) := by
  apply Int64.toBitVec_inj.mp
  apply BitVec.eq_of_toNat_eq
  show (X.toBitVec &&& 255#64).toNat = (BitVec.ofNat 64 (X.toBitVec.toNat % 256)).toNat
  rw [BitVec.toNat_and, BitVec.toNat_ofNat, BitVec.toNat_ofNat]
  have h := Nat.and_two_pow_sub_one_eq_mod X.toBitVec.toNat 8
  rw [show (255 % 2 ^ 64 : Nat) = 2 ^ 8 - 1 by decide, h]
  omega
theorem l2i_n (X : Int64) : un X.toInt32 % 256 = X.toBitVec.toNat % 256 := by
  unfold un
  rw [Int64.toBitVec_toInt32]
  simp only [BitVec.toNat_signExtend, BitVec.toNat_setWidth, Nat.reducePow, Nat.reduceSub, ite_self, Nat.add_zero]
  omega
theorem cmpw (w : Int64) {k : Nat} (hk : k < 8) : (lg_cmp (fb_lus w (nI (8 * k)) &&& 255) 0 = 0 ↔ bw w k = 0) ∧ (lg_cmp (fb_lus w (nI (8 * k)) &&& 255) 0 ≤ 0 ↔ bw w k = 0) := by
  have e : fb_lus w (nI (8 * k)) &&& 255 = lN (bw w k) := by
    rw [l255, lus_n w (by omega)]
    rfl
  have hb : bw w k < 256 := Nat.mod_lt _ (by omega)
  rw [e]
  unfold lg_cmp
  by_cases h : bw w k = 0
  · rw [h]
    constructor
    · exact ⟨fun _ => rfl, fun _ => by decide⟩
    · exact ⟨fun _ => rfl, fun _ => by decide⟩
  · have h1 : (0 : Int64) < lN (bw w k) := (pk_lLT (a := 0) (by omega) (by omega)).mpr (by omega)
    rw [if_pos h1]
    constructor
    · exact ⟨fun q => absurd q (by decide), fun q => absurd q h⟩
    · exact ⟨fun q => absurd q (by decide), fun q => absurd q h⟩
theorem wB (w : Int64) {k : Nat} (hk : k < 8) : fb_b (fb_lus w (nI (8 * k))).toInt32 = bs (bw w k) := by
  rw [fb_un, l2i_n, lus_n w (by omega)]
  rfl
theorem wA (w : Int64) {k : Nat} (hk : k < 8) : (fb_lus w (nI (8 * k))).toInt32 &&& nI 255 = nI (bw w k) := by
  have h := nAnd8 (un (fb_lus w (nI (8 * k))).toInt32)
  rw [nI_un] at h
  rw [h, l2i_n, lus_n w (by omega)]
  rfl
theorem nM {a b : Nat} (h : b ≤ a) : nI a + -nI b = nI (a - b) := by
  rw [← Int32.sub_eq_add_neg]
  exact nSub h
theorem m8 : nI (8 * 0) + -nI 8 < nI 0 := by decide
theorem m1 : nI 0 + -nI 1 < nI 0 := by decide
def cnw (w : Int64) : Nat → Nat
  | 0 => 0
  | k + 1 => cnw w k + (if bw w k = 0 then 0 else 1)
theorem cnw_le (w : Int64) : ∀ r, cnw w r ≤ r := by
  intro r
  induction r with
  | zero => exact Nat.le_refl 0
  | succ r ih =>
    show cnw w r + (if bw w r = 0 then 0 else 1) ≤ r + 1
    split <;> omega
theorem app_1 (w : Int64) (st : fb_S) : ∀ n r x, r ≤ 8 → r < n → l_X_append_6 n w (nI x) (nI (8 * r) + -nI 8) st = if nI (x + cnw w r) ≤ nI 260 - st 6 0 then l_X_append_58 fb_n w (nI 56) st else fb_rz (nI 0) st := by
  intro n
  induction n with
  | zero => intro r x _ h; omega
  | succ n ih =>
    intro r x hr hn
    show b_X_append_6 (l_X_append_6 n) w (nI x) (nI (8 * r) + -nI 8) st = _
    unfold b_X_append_6 b_X_append_30
    match r, hr with
    | 0, _ =>
      rw [if_pos (show nI (8 * 0) + -nI 8 < 0 from m8)]
      rfl
    | r + 1, hr =>
      rw [nM (by omega), show 8 * (r + 1) - 8 = 8 * r by omega, if_neg (nn0 (by omega))]
      have e : cnw w (r + 1) = cnw w r + (if bw w r = 0 then 0 else 1) := rfl
      by_cases h : bw w r = 0
      · rw [if_pos ((cmpw w (by omega)).1.mpr h)]
        have := ih r x (by omega) (by omega)
        rw [e, if_pos h, Nat.add_zero, ← this]
        show l_X_append_6 n w (nI x + nI 0) _ st = _
        rw [nI_add]
        rfl
      · rw [if_neg (fun q => h ((cmpw w (by omega)).1.mp q))]
        have := ih r (x + 1) (by omega) (by omega)
        rw [e, if_neg h, show x + (cnw w r + 1) = x + 1 + cnw w r by omega, ← this]
        show l_X_append_6 n w (nI x + nI 1) _ st = _
        rw [nI_add]
        rfl
theorem wri_1 (w : Int64) (st : fb_S) : ∀ n r x, r ≤ 8 → r < n → l_M_write_14 n w (nI x) (nI r + -nI 1) st = if nI (x + cnw w r) ≤ nI 260 then l_M_write_62 fb_n w (nI 7) st else fb_rz (nI 0) st := by
  intro n
  induction n with
  | zero => intro r x _ h; omega
  | succ n ih =>
    intro r x hr hn
    show b_M_write_14 (l_M_write_14 n) w (nI x) (nI r + -nI 1) st = _
    unfold b_M_write_14 b_M_write_41
    match r, hr with
    | 0, _ =>
      rw [if_pos (show nI 0 + -nI 1 < 0 from m1)]
      rfl
    | r + 1, hr =>
      rw [nM (by omega), show r + 1 - 1 = r by omega, if_neg (nn0 (by omega)), show (8 : Int32) * nI r = nI (8 * r) from pk_mul 8 r]
      have e : cnw w (r + 1) = cnw w r + (if bw w r = 0 then 0 else 1) := rfl
      by_cases h : bw w r = 0
      · rw [if_pos ((cmpw w (by omega)).2.mpr h)]
        have := ih r x (by omega) (by omega)
        rw [e, if_pos h, Nat.add_zero, ← this]
        show l_M_write_14 n w (nI x + nI 0) _ st = _
        rw [nI_add]
        rfl
      · rw [if_neg (fun q => h ((cmpw w (by omega)).2.mp q))]
        have := ih r (x + 1) (by omega) (by omega)
        rw [e, if_neg h, show x + (cnw w r + 1) = x + 1 + cnw w r by omega, ← this]
        show l_M_write_14 n w (nI x + nI 1) _ st = _
        rw [nI_add]
        rfl
theorem wr_2 (w : Int64) : ∀ (n r j : Nat) (c A : fb_N), RC c A → IV j A → r ≤ 8 → r < n → A 15 0 + cnw w r ≤ 260 → ∃ c2 A2, l_X_append_58 n w (nI (8 * r) + -nI 8) (ka c) = some (1, ka c2) ∧ l_M_write_62 n w (nI r + -nI 1) (mu A) = some (1, mu A2) ∧ RC c2 A2 ∧ IV j A2 := by
  intro n
  induction n with
  | zero => intro r j c A _ _ _ h; omega
  | succ n ih =>
    intro r j c A hR hI hr hn hc
    show ∃ c2 A2, b_X_append_58 (l_X_append_58 n) w (nI (8 * r) + -nI 8) (ka c) = some (1, ka c2) ∧ b_M_write_62 (l_M_write_62 n) w (nI r + -nI 1) (mu A) = some (1, mu A2) ∧ RC c2 A2 ∧ IV j A2
    unfold b_X_append_58 b_M_write_62 b_X_append_116 b_M_write_108
    match r, hr with
    | 0, _ =>
      rw [if_pos (show nI (8 * 0) + -nI 8 < 0 from m8), if_pos (show nI 0 + -nI 1 < 0 from m1)]
      exact ⟨c, A, rz1 _, rz1 _, hR, hI⟩
    | r + 1, hr =>
      have hb : bw w r < 256 := Nat.mod_lt _ (by omega)
      have e : cnw w (r + 1) = cnw w r + (if bw w r = 0 then 0 else 1) := rfl
      rw [nM (by omega), nM (by omega), show 8 * (r + 1) - 8 = 8 * r by omega, show r + 1 - 1 = r by omega, if_neg (nn0 (by omega)), if_neg (nn0 (by omega)), show (8 : Int32) * nI r = nI (8 * r) from pk_mul 8 r, wB w (by omega), show (fb_lus w (nI (8 * r))).toInt32 &&& (255 : Int32) = nI (bw w r) from wA w (by omega)]
      by_cases h : bw w r = 0
      · rw [h, if_pos (show bs 0 = 0 by decide), if_pos (show nI 0 ≤ 0 by decide)]
        rw [e, if_pos h] at hc
        exact ih r j c A hR hI (by omega) (by omega) (by omega)
      · rw [e, if_neg h] at hc
        have hl : ka c 6 0 = nI (A 15 0) := by rw [ka_6, hR.2.2.2.2.1]
        rw [if_neg (show ¬ bs (bw w r) = 0 from fun q => h ((bs_eqI (b := 0) hb (by omega)).mp q)), if_neg (show ¬ nI (bw w r) ≤ 0 from fun q => by have := (nLe (b := 0) (by omega) (by omega)).mp q; omega), hl, if_neg (nn0 (by omega)), if_neg (show ¬ (260 : Int32) ≤ nI (A 15 0) from nLe' (a := 260) (by omega) (by omega)), st_nI (by omega) (by decide), Option.bind_some, bs_b _ hb, ka_b c 2 _ _ (by omega), mu_15, st_nI (by omega) (by decide), Option.bind_some, fb_bb, bs_m, Nat.mod_eq_of_lt hb, mu_b A 0 _ _ (by omega)]
        unfold fb_pf
        rw [Option.bind_some, Option.bind_some, ka_6, mu_15, up_n c (by omega), up_n A (by omega), hR.2.2.2.2.1]
        have e1 : nI (A 15 0) + 1 = nI (A 15 0 + 1) := nI_add _ 1
        rw [e1, ka_i _ 6 0 _ (by omega), mu_i _ 15 0 _ (by decide)]
        have h1 : RC (up (up c 2 (A 15 0) (bw w r)) 6 0 (A 15 0 + 1)) (up (up A 0 (A 15 0) (bw w r)) 15 0 (A 15 0 + 1)) := rc15 (rc0 hR _ hb) _
        have h2 : IV j (up (up A 0 (A 15 0) (bw w r)) 15 0 (A 15 0 + 1)) := (hI.off (k := 0) (by omega) (fun _ => hb) (by omega)).off (k := 15) (by omega) (by omega) (fun _ => by omega)
        exact ih r j _ _ h1 h2 (by omega) (by omega) (by rw [up_s]; omega)
theorem s_write : sm_write sim := by
  intro j st mt w hj hs
  obtain ⟨c, A, rfl, rfl, hR, hI⟩ := hs
  have hty := hI.1.ty
  have hcn := cnw_le w 8
  have e1 : f_X_append w (ka c) = if nI (0 + cnw w 8) ≤ nI 260 - ka c 6 0 then l_X_append_58 fb_n w (nI 56) (ka c) else fb_rz (nI 0) (ka c) := app_1 w (ka c) fb_n 8 0 (by omega) (by unfold fb_n; omega)
  have e2 : f_M_write w (mu A) = if nI (A 15 0 + cnw w 8) ≤ nI 260 then l_M_write_62 fb_n w (nI 7) (mu A) else fb_rz (nI 0) (mu A) := by
    unfold f_M_write
    rw [mThr hI.1, Option.bind_some, mu_15]
    exact wri_1 w (mu A) fb_n 8 (A 15 0) (by omega) (by unfold fb_n; omega)
  rw [ka_6, hR.2.2.2.2.1, nSub (by omega), Nat.zero_add] at e1
  by_cases h : A 15 0 + cnw w 8 ≤ 260
  · rw [if_pos (by rw [nLe (by omega) (by omega)]; omega)] at e1
    rw [if_pos (by rw [nLe (by omega) (by omega)]; omega)] at e2
    obtain ⟨c2, A2, g1, g2, g3, g4⟩ := wr_2 w fb_n 8 j c A hR hI (by omega) (by unfold fb_n; omega) h
    refine ⟨1, ka c2, mu A2, ?_, ?_, c2, A2, rfl, rfl, g3, g4.next⟩
    · unfold f_T_write
      rw [e1, show l_X_append_58 fb_n w (nI 56) (ka c) = some (1, ka c2) from g1, Option.bind_some, rz1]
    · rw [e2]
      exact g2
  · rw [if_neg (by rw [nLe (by omega) (by omega)]; omega)] at e1
    rw [if_neg (by rw [nLe (by omega) (by omega)]; omega)] at e2
    refine ⟨0, ka c, mu A, ?_, ?_, c, A, rfl, rfl, hR, hI.next⟩
    · unfold f_T_write
      rw [e1, show fb_rz (nI 0) (ka c) = some (0, ka c) from rz0 _, Option.bind_some, rz0]
    · rw [e2]
      exact rz0 _

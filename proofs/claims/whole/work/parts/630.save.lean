/-! save -/
/-- a file i of which the bytes before D are there, the size being told later -/
def SV (j i D : Nat) (A : fb_N) : Prop := oA A ∧ BK A ∧ EN A ∧ LK A ∧ BD j A ∧ A 4 i = 2 ∧ (∀ x, x < 64 → A 4 x = 0 → A 5 x = 0 ∧ A 6 x = 0 ∧ A 7 x = 0 ∧ A 8 x = 0 ∧ A 9 x = 0) ∧ A 4 0 = 0 ∧ (∀ x, x < 64 → A 10 x = ((if x = i then max (A 8 x) D else A 8 x) + 1023) / 1024) ∧ dS A
theorem SV.hv {j i D : Nat} {A : fb_N} (h : SV j i D A) : ∀ d p, d < 64 → A 4 d = 1 → p < A 8 d → p / 1024 < A 10 d := by
  obtain ⟨o, hB, hE, hL, hb, h2, hz, h0, hm, hS⟩ := h
  intro d p h1 h3 h4
  rw [hm d h1, if_neg (fun e => by rw [e, h2] at h3; omega)]
  omega
theorem SV.mi {j i D : Nat} {A : fb_N} (h : SV j i D A) (hi : i < 64) : A 10 i = (max (A 8 i) D + 1023) / 1024 := by
  obtain ⟨o, hB, hE, hL, hb, h2, hz, h0, hm, hS⟩ := h
  rw [hm i hi, if_pos rfl]
theorem svN {j i D : Nat} {A : fb_N} (h : SV j i D A) (hi : i < 64) (hk : D / 1024 < A 10 i) : SV j i (D + 1) A := by
  have hmi := h.mi hi
  obtain ⟨o, hB, hE, hL, hb, h2, hz, h0, hm, hS⟩ := h
  refine ⟨o, hB, hE, hL, hb, h2, hz, h0, fun x hx => ?_, hS⟩
  by_cases e : x = i
  · rw [if_pos e, e]
    omega
  · rw [hm x hx, if_neg e, if_neg e]
theorem svG {j i D b1 b2 : Nat} {A F : fb_N} (h : SV j i D A) (hi : i < 64) (hk : A 10 i = D / 1024) (oF : oA F) (hG : isG A F i (A 10 i) b1 b2) (hf : frG A i (A 10 i) b1 b2) : SV j i (D + 1) F := by
  have hv := h.hv
  have hmi := h.mi hi
  obtain ⟨o, hB, hE, hL, hb, h2, hz, h0, hm, hS⟩ := h
  have hsd := sD_G hB o.mn hG hf hi hv
  have u := hG.2.2.2.2
  have u4 := u 4 (by omega) (by omega) (by omega) (by omega)
  have u5 := u 5 (by omega) (by omega) (by omega) (by omega)
  have u6 := u 6 (by omega) (by omega) (by omega) (by omega)
  have u7 := u 7 (by omega) (by omega) (by omega) (by omega)
  have u8 := u 8 (by omega) (by omega) (by omega) (by omega)
  have u9 := u 9 (by omega) (by omega) (by omega) (by omega)
  refine ⟨oF, gBK hB o.mn hG hf hi, hE.dat hS hsd, hL.dat hS hsd u7, fun x => by rw [u7, u9]; exact hb x, by rw [u4]; exact h2, by rw [u4, u5, u6, u7, u8, u9]; exact hz, by rw [u4]; exact h0, fun x hx => ?_, ?_⟩
  · rw [hG.2.1, u8]
    by_cases e : x = i
    · rw [if_pos e, if_pos e, e]
      omega
    · rw [if_neg e, if_neg e, hm x hx, if_neg e]
  · unfold dS
    rw [u4, u8]
    exact hS
theorem svW {j i D E : Nat} {A : fb_N} (h : SV j i E A) (hi : i < 64) (hk : D / 1024 < A 10 i) {v : Nat} (hv : v < 256) : SV j i E (up A 2 (pl A i D) v) := by
  have hvd := h.hv
  obtain ⟨o, hB, hE, hL, hb, h2, hz, h0, hm, hS⟩ := h
  have hq : pl A i D / 1024 = A 11 (269 * i + D / 1024) := by unfold pl; omega
  have hsd := sD_w (v := v) hB hi hk hq (by omega) hvd
  have u : ∀ j, j ≠ 2 → up A 2 (pl A i D) v j = A j := fun j hj => up_c A hj
  refine ⟨oA_2 o _ (fun q => ?_), hB.w o.mn hi hk hq, hE.dat hS hsd, hL.dat hS hsd (u 7 (by omega)), fun x => by rw [u 7 (by omega), u 9 (by omega)]; exact hb x, by rw [u 4 (by omega)]; exact h2, by rw [u 4 (by omega), u 5 (by omega), u 6 (by omega), u 7 (by omega), u 8 (by omega), u 9 (by omega)]; exact hz, by rw [u 4 (by omega)]; exact h0, by rw [u 10 (by omega), u 8 (by omega)]; exact hm, by unfold dS; rw [u 4 (by omega), u 8 (by omega)]; exact hS⟩
  unfold un1
  have := o.dk q
  split <;> omega
/-- the size is told -/
theorem svE {j i D : Nat} {A : fb_N} (h : SV j i D A) (hi : i < 64) (hD : D ≤ 274432) : IV j (up A 8 i (max D (A 8 i))) := by
  have hvd := h.hv
  obtain ⟨o, hB, hE, hL, hb, h2, hz, h0, hm, hS⟩ := h
  have u : ∀ j, j ≠ 8 → up A 8 i (max D (A 8 i)) j = A j := fun j hj => up_c A hj
  have hsz := o.sz i
  have hsd : sD A (up A 8 i (max D (A 8 i))) := by
    refine ⟨u 4 (by omega), fun d g1 g2 => up_n _ (Or.inr (fun e => by rw [e, h2] at g2; omega)), fun d p g1 g2 g3 => ⟨by unfold pl; rw [u 11 (by omega)], by rw [u 2 (by omega)]⟩⟩
  refine ⟨?_, hB.cg (u 2 (by omega)) (u 3 (by omega)) (u 10 (by omega)) (u 11 (by omega)), ?_, hE.dat hS hsd, hL.dat hS hsd (u 7 (by omega)), fun x => by rw [u 7 (by omega), u 9 (by omega)]; exact hb x⟩
  · obtain ⟨g1, g2, g3, g4, g5, g6, g7, g8, g9, g10, g11, g12, g13⟩ := o
    refine ⟨fun k q hk => by rw [u k (by omega)]; exact g1 k q hk, by rw [u 4 (by omega)]; exact g2, by rw [u 5 (by omega)]; exact g3, by rw [u 6 (by omega)]; exact g4, by rw [u 7 (by omega)]; exact g5, fun x => ?_, by rw [u 9 (by omega)]; exact g7, by rw [u 10 (by omega)]; exact g8, by rw [u 11 (by omega)]; exact g9, by rw [u 3 (by omega)]; exact g10, by rw [u 14 (by omega)]; exact g11, by rw [u 15 (by omega)]; exact g12, by rw [u 12 (by omega)]; exact g13⟩
    by_cases e : x = i
    · rw [e, up_s]; omega
    · rw [up_n _ (Or.inr e)]; exact g6 x
  · refine ⟨?_, by rw [u 4 (by omega)]; exact h0, fun x hx => ?_, ?_⟩
    · rw [u 4 (by omega), u 5 (by omega), u 6 (by omega), u 7 (by omega), u 9 (by omega)]
      intro x hx q
      obtain ⟨w1, w2, w3, w4, w5⟩ := hz x hx q
      exact ⟨w1, w2, w3, by rw [up_n _ (Or.inr (fun e => by rw [e, h2] at q; omega))]; exact w4, w5⟩
    · rw [u 10 (by omega), hm x hx]
      by_cases e : x = i
      · rw [if_pos e, e, up_s, Nat.max_comm]
      · rw [if_neg e, up_n _ (Or.inr e)]
    · rw [u 4 (by omega)]
      intro x hx q
      rw [up_n _ (Or.inr (fun e => by rw [e, h2] at q; omega))]
      exact hS x hx q
theorem IV.sv {j i D : Nat} {A : fb_N} (h : IV j A) (h2 : A 4 i = 2) (hD : D ≤ A 8 i) : SV j i D A := by
  obtain ⟨o, hB, ⟨d1, d2, d3, d4⟩, hE, hL, hb⟩ := h
  refine ⟨o, hB, hE, hL, hb, h2, d1, d2, fun x hx => ?_, d4⟩
  rw [d3 x hx]
  by_cases e : x = i
  · rw [if_pos e, e, Nat.max_eq_left hD]
  · rw [if_neg e]
theorem kFin {c A : fb_N} (h : RC c A) (o : oA A) {i a D : Nat} (hi : i < 64) (haD : a ≤ D) (hD : D ≤ 274432) : b_I_put_buffer_132 (nI i) (nI a) (nI D) (ka c) = some (nI (D - a), ka (va_up c 0 (s4 (c 0) (33792 + 64 * i + 8) (max D (A 8 i))))) := by
  have hsz := o.sz i
  unfold b_I_put_buffer_132
  rw [iSize h o hi, Option.bind_some, max_nI (by omega) (by omega), nSub haD]
  unfold f_I_setSize
  rw [iIs _ hi, Option.bind_some, if_neg n01, iPl, Option.bind_some]
  show ((f_K_setNumber (nI (33792 + 64 * i) + nI 8) _ (ka c)).bind _).bind _ = _
  rw [nI_add, show 33792 + 64 * i + 8 = 4 * ((33792 + 64 * i + 8) / 4) by omega, kSetN c (by omega), Option.bind_some, Option.bind_some]
theorem mFin {A : fb_N} (o : oA A) {i a t : Nat} (hi : i < 64) (h : a + t ≤ 274432) : b_M_save_153 (nI i) (nI a) (nI t) (mu A) = some (nI t, mu (up A 8 i (max (a + t) (A 8 i)))) := by
  have hsz := o.sz i
  unfold b_M_save_153
  rw [ld_nI hi (by omega), Option.bind_some, mu_8, nI_add, Option.bind_some]
  by_cases z : a + t ≤ A 8 i
  · rw [if_pos (by rw [nLe (by omega) (by omega)]; exact z), st_nI hi (by omega), Option.bind_some, mu_i _ 8 _ _ (by decide), Nat.max_eq_right z]
  · rw [if_neg (by rw [nLe (by omega) (by omega)]; exact z), st_nI hi (by omega), Option.bind_some, mu_i _ 8 _ _ (by decide), Nat.max_eq_left (by omega)]
/-- the reference writes one byte into a block that is there -/
theorem mByte {A : fb_N} (o : oA A) (hB : BK A) {i a m t : Nat} (hi : i < 64) (ht : t < m) (hm : m ≤ 3072) (hk : (a + t) / 1024 < A 10 i) (k64 : Int32 → Int32 → Int32 → Int32 → Int32 → fb_S → Option (Int32 × fb_S)) : b_M_save_121 k64 (nI i) (nI a) (nI m) (nI t) (nI 1) (mu A) = k64 (nI i) (nI a) (nI m) (nI (t + 1)) (nI 1) (mu (up A 2 (pl A i (a + t)) (A 1 t))) := by
  have h268 := o.mn i
  have hp := pl_ge o hB hi (p := a + t) (Or.inl hk)
  unfold b_M_save_121
  rw [if_neg (show ¬ nI 1 = 0 from n01), nI_add, mPlace o hi (by omega), Option.bind_some]
  show ((fb_ld (mu A 1) 3072 (nI t)).bind _) = _
  rw [ld_nI (by omega) (by omega), Option.bind_some, mu_1, bs_b _ (o.bu t)]
  show ((fb_st (mu A) 2 524288 (nI (pl A i (a + t))) (bs (A 1 t))).bind _) = _
  rw [st_nI (by omega) (by omega), Option.bind_some, mu_b _ 2 _ _ (by omega)]
  show k64 (nI i) (nI a) (nI m) (nI t + nI 1) (nI 1) _ = _
  rw [nI_add]
theorem mByteL {A : fb_N} (o : oA A) (hB : BK A) {i a m t : Nat} (hi : i < 64) (ht : t < m) (hm : m ≤ 3072) (hk : (a + t) / 1024 < A 10 i) (n : Nat) : l_M_save_64 (n + 1) (nI i) (nI a) (nI m) (nI t) (nI 1) (mu A) = l_M_save_64 n (nI i) (nI a) (nI m) (nI (t + 1)) (nI 1) (mu (up A 2 (pl A i (a + t)) (A 1 t))) := by
  have h268 := o.mn i
  show b_M_save_64 (l_M_save_64 n) (nI i) (nI a) (nI m) (nI t) (nI 1) (mu A) = _
  unfold b_M_save_64
  rw [if_neg (by rw [nLe (by omega) (by omega)]; omega), if_neg (show ¬ nI 1 = 0 from n01), ld_nI hi (by omega), Option.bind_some, mu_10, nI_add, show nI (a + t) / (1024 : Int32) = nI ((a + t) / 1024) from nDiv (d := 1024) (by omega) (by omega) (by omega), if_neg (by rw [nEq (by omega) (by omega)]; omega)]
  exact mByte o hB hi ht hm hk _
/-- a stretch within one block -/
theorem sv_blk {j i a m D k l : Nat} (hi : i < 64) (hm : m ≤ 3072) (he : a + m ≤ 274432) (haD : a ≤ D) (hl : l ≤ a + m) (hk : D / 1024 = k) (hlk : l ≤ 1024 * (k + 1)) : ∀ (s t : Nat) (c A : fb_N), l - t = s → D ≤ t → t ≤ l → RC c A → SV j i (if t < l then t + 1 else t) A → k < A 10 i → ∃ c2 A2, (∀ n k21, s < n → l_I_put_buffer_84 k21 n (nI i) (nI a) (nI (a + m)) (nI D) (nI k) (nI l) (nI (pl A i D)) (nI t) (ka c) = k21 (nI i) (nI a) (nI (a + m)) (nI l) (nI (k + 1)) (ka c2)) ∧ (∀ n, l_M_save_64 (n + s) (nI i) (nI a) (nI m) (nI (t - a)) (nI 1) (mu A) = l_M_save_64 n (nI i) (nI a) (nI m) (nI (l - a)) (nI 1) (mu A2)) ∧ RC c2 A2 ∧ SV j i l A2 := by
  intro s
  induction s with
  | zero =>
    intro t c A hs h1 h2 hR hV hkm
    have : t = l := by omega
    subst this
    rw [if_neg (by omega)] at hV
    refine ⟨c, A, fun n k21 hn => ?_, fun n => rfl, hR, hV⟩
    match n, hn with
    | n + 1, _ =>
      show b_I_put_buffer_84 k21 (l_I_put_buffer_84 k21 n) (nI i) (nI a) (nI (a + m)) (nI D) (nI k) (nI t) (nI (pl A i D)) (nI t) (ka c) = _
      unfold b_I_put_buffer_84
      rw [if_pos (by rw [nLe (by omega) (by omega)]; omega)]
      show k21 (nI i) (nI a) (nI (a + m)) (nI t) (nI k + nI 1) (ka c) = _
      rw [nI_add]
  | succ s ih =>
    intro t c A hs h1 h2 hR hV hkm
    rw [if_pos (by omega)] at hV
    have o := hV.1
    have hB := hV.2.1
    have hbt := o.bu (t - a)
    have htk : t / 1024 = k := by omega
    have hp := pl_ge o hB hi (p := t) (Or.inl (by omega))
    have hpf : pl A i D + t = pl A i t + D := by
      unfold pl
      rw [htk, hk]
      omega
    have hV2 := svW (D := t) (v := A 1 (t - a)) hV hi (by omega) hbt
    have e10 : up A 2 (pl A i t) (A 1 (t - a)) 10 i = A 10 i := by rw [up_c _ (by omega)]
    have hV3 : SV j i (if t + 1 < l then t + 1 + 1 else t + 1) (up A 2 (pl A i t) (A 1 (t - a))) := by
      by_cases z : t + 1 < l
      · rw [if_pos z]
        exact svN hV2 hi (by rw [e10]; omega)
      · rw [if_neg z]
        exact hV2
    obtain ⟨c2, A2, g1, g2, g3, g4⟩ := ih (t + 1) (up c 0 (pl A i t) (A 1 (t - a))) (up A 2 (pl A i t) (A 1 (t - a))) (by omega) (by omega) (by omega) (rcW hR hp.1 hbt) hV3 (by rw [e10]; exact hkm)
    refine ⟨c2, A2, fun n k21 hn => ?_, fun n => ?_, g3, g4⟩
    · match n, hn with
      | n + 1, hn =>
        have h3 := g1 n k21 (by omega)
        have epl : pl (up A 2 (pl A i t) (A 1 (t - a))) i D = pl A i D := by
          unfold pl
          rw [up_c _ (by omega)]
        rw [epl] at h3
        show b_I_put_buffer_84 k21 (l_I_put_buffer_84 k21 n) (nI i) (nI a) (nI (a + m)) (nI D) (nI k) (nI l) (nI (pl A i D)) (nI t) (ka c) = _
        unfold b_I_put_buffer_84
        rw [if_neg (by rw [nLe (by omega) (by omega)]; omega), nSub (by omega), ld_nI (by omega) (by omega), Option.bind_some, ka_5, hR.2.2.2.1, nI_add, nSub (by omega), show pl A i D + t - D = pl A i t by omega, kSet8 hR.w (by omega), Option.bind_some]
        have e : un (bs (A 1 (t - a))) % 256 = A 1 (t - a) := by
          have hh := bs_k _ hbt
          have h5 := nAnd8 (un (bs (A 1 (t - a))))
          rw [nI_un, hh, nEq (by omega) (by omega)] at h5
          exact h5.symm
        rw [e]
        show l_I_put_buffer_84 k21 n (nI i) (nI a) (nI (a + m)) (nI D) (nI k) (nI l) (nI (pl A i D)) (nI t + nI 1) _ = _
        rw [nI_add]
        exact h3
    · have h3 := mByteL o hB (i := i) (a := a) (m := m) (t := t - a) hi (by omega) hm (by rw [show a + (t - a) = t by omega]; omega) (n + s)
      rw [show n + (s + 1) = n + s + 1 by omega, h3, show a + (t - a) = t by omega, show t - a + 1 = t + 1 - a by omega]
      exact g2 n

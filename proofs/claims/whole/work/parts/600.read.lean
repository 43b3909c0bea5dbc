/-! places of bytes; read -/
theorem mPlace {A : fb_N} (o : oA A) {i p : Nat} (hi : i < 64) (hp : p < 275456) : f_M_place (nI i) (nI p) (mu A) = some (nI (pl A i p), mu A) := by
  have hb := o.bl (269 * i + p / 1024)
  unfold f_M_place pl
  simp only [il]
  have e : nI p - nI p / nI 1024 * nI 1024 = nI (p % 1024) := nRem (by omega) (by omega) (by omega)
  rw [e, nDiv (by omega) (by omega) (by omega), pk_mul, nI_add, ld_nI (by omega) (by omega), Option.bind_some, mu_11, pk_mul, nI_add]
theorem kSlotNum {c A : fb_N} (h : RC c A) (o : oA A) (hB : BK A) {i k : Nat} (hi : i < 64) (hk : k < 268) : ((f_I_slotOf (nI i) (nI k) (ka c)).bind fun r => f_K_numberAt r.1 r.2) = some (nI (A 11 (269 * i + k)), ka c) := by
  have hbl := o.bl (269 * i + 268)
  have hbk := o.bl (269 * i + k)
  by_cases hd : k < 12
  · rw [kSlotD c hi hd, Option.bind_some]
    show f_K_numberAt (nI (33792 + 64 * i + (12 + 4 * k))) (ka c) = _
    rw [← nI_add (33792 + 64 * i) (12 + 4 * k)]
    refine rd32 h hi (by omega) (by omega) (fun t ht => ?_) (by omega)
    unfold ibx
    rw [if_neg (by omega), if_neg (by omega), if_neg (by omega), if_neg (by omega), if_neg (by omega), show (12 + 4 * k + t) / 4 - 3 = k by omega, if_pos hd, show (12 + 4 * k + t) % 4 = t by omega]
  · rw [kSlotN h o hi (by omega) hk, Option.bind_some]
    by_cases z : A 11 (269 * i + 268) = 0
    · rw [if_pos z]
      have hm : ¬ 12 < A 10 i := fun q => by
        have := (hB.1 i 268 hi (Or.inr ⟨rfl, q⟩)).1
        omega
      rw [hB.2.1 i k hi (by omega) (by unfold vl; omega)]
      show f_K_numberAt (-1) (ka c) = _
      rw [kNumN]
      rfl
    · rw [if_neg z]
      have hm : 12 < A 10 i := by
        rcases Nat.lt_or_ge 12 (A 10 i) with q | q
        · exact q
        · exact absurd (hB.2.1 i 268 hi (by omega) (by unfold vl; omega)) z
      have h38 := (hB.1 i 268 hi (Or.inr ⟨rfl, hm⟩)).1
      show f_K_numberAt (nI (1024 * A 11 (269 * i + 268) + 4 * (k - 12))) (ka c) = _
      have g : ∀ t, t < 4 → c 0 (1024 * A 11 (269 * i + 268) + 4 * (k - 12) + t) = le (A 11 (269 * i + k)) t := fun t ht => by
        rw [h.x (by omega) (by omega), hB.2.2.2.2.1 i k t hi hm (by omega) hk ht]
      have e := wo_le (B := c 0) (q := 1024 * A 11 (269 * i + 268) + 4 * (k - 12)) (v := A 11 (269 * i + k)) (by omega) (g 0 (by omega)) (g 1 (by omega)) (g 2 (by omega)) (g 3 (by omega)) (by omega)
      rw [show 1024 * A 11 (269 * i + 268) + 4 * (k - 12) = 4 * ((1024 * A 11 (269 * i + 268) + 4 * (k - 12)) / 4) by omega, kNum c (by omega), e]
theorem kPlace {c A : fb_N} (h : RC c A) (o : oA A) (hB : BK A) {i p : Nat} (hi : i < 64) (hp : p < 274432) : f_I_placeOfByte (nI i) (nI p) (ka c) = some (if A 11 (269 * i + p / 1024) = 0 then -1 else nI (pl A i p), ka c) := by
  have hbk := o.bl (269 * i + p / 1024)
  have key := kSlotNum h o hB (k := p / 1024) hi (by omega)
  unfold f_I_placeOfByte
  simp only [il]
  have e : nI p - nI p / nI 1024 * nI 1024 = nI (p % 1024) := nRem (by omega) (by omega) (by omega)
  rw [e, nDiv (by omega) (by omega) (by omega)]
  cases hs : f_I_slotOf (nI i) (nI (p / 1024)) (ka c) with
  | none => rw [hs] at key; cases key
  | some r =>
    rw [hs, Option.bind_some] at key
    rw [Option.bind_some, key, Option.bind_some]
    by_cases z : A 11 (269 * i + p / 1024) = 0
    · rw [if_pos z, z, if_pos rfl]
    · rw [if_neg z, if_neg (by rw [nEq (by omega) (by omega)]; exact z), pk_mul, nI_add]
      unfold pl
      rw [Nat.mul_comm _ 1024]
/-- a byte that a file has -/
theorem vl_in {A : fb_N} (hD : DI A) {i p : Nat} (hi : i < 64) (hp : p < A 8 i) : vl A i (p / 1024) := by
  left
  rw [hD.2.2.1 i hi]
  omega
theorem kPlaceIn {c A : fb_N} (h : RC c A) (o : oA A) (hB : BK A) (hD : DI A) {i p : Nat} (hi : i < 64) (hp : p < A 8 i) : f_I_placeOfByte (nI i) (nI p) (ka c) = some (nI (pl A i p), ka c) := by
  have h1 := (hB.1 i (p / 1024) hi (vl_in hD hi hp)).1
  have h2 := o.sz i
  rw [kPlace h o hB hi (by omega), if_neg (by omega)]
theorem pl_ge {A : fb_N} (o : oA A) (hB : BK A) {i p : Nat} (hi : i < 64) (hv : vl A i (p / 1024)) : 38912 ≤ pl A i p ∧ pl A i p < 524288 := by
  have h1 := (hB.1 i (p / 1024) hi hv).1
  have h2 := o.bl (269 * i + p / 1024)
  unfold pl
  omega
/-- the buffer with m bytes of a file -/
def rb (A : fb_N) (i a m : Nat) : Nat → Nat := fun t => if t < m then A 2 (pl A i (a + t)) else A 1 t
theorem rb_up (A : fb_N) (i a m : Nat) : un1 (rb A i a m) m (A 2 (pl A i (a + m))) = rb A i a (m + 1) := by
  funext t
  unfold un1 rb
  by_cases e : t = m
  · rw [if_pos e, if_pos (by omega), e]
  · rw [if_neg e]
    by_cases z : t < m
    · rw [if_pos z, if_pos (by omega)]
    · rw [if_neg z, if_neg (by omega)]
theorem max_nI {a b : Nat} (ha : a < 2147483648) (hb : b < 2147483648) : fb_max (nI a) (nI b) = nI (max a b) := by
  unfold fb_max
  by_cases h : a < b
  · rw [if_pos (by rw [nLt ha hb]; exact h), Nat.max_eq_right (by omega)]
  · rw [if_neg (by rw [nLt ha hb]; exact h), Nat.max_eq_left (by omega)]
theorem min_nI {a b : Nat} (ha : a < 2147483648) (hb : b < 2147483648) : fb_min (nI a) (nI b) = nI (min a b) := by
  unfold fb_min
  by_cases h : b < a
  · rw [if_pos (by rw [nLt hb ha]; exact h), Nat.min_eq_right (by omega)]
  · rw [if_neg (by rw [nLt hb ha]; exact h), Nat.min_eq_left (by omega)]
theorem va_up_tw (c : fb_N) (k : Nat) (f : Nat → Nat) (m v : Nat) : up (va_up c k f) k m v = va_up c k (un1 f m v) := by
  unfold up
  rw [va_up_s]
  funext j
  unfold va_up
  by_cases hj : j = k
  · rw [if_pos hj, if_pos hj]
  · rw [if_neg hj, if_neg hj, if_neg hj]
theorem br_in {c A : fb_N} (h : RC c A) (o : oA A) (hB : BK A) (hD : DI A) {i a e k f l : Nat} (hi : i < 64) (k18 : Int32 → Int32 → Int32 → Int32 → fb_S → Option (Int32 × fb_S)) (he : e ≤ A 8 i) (hae : e ≤ a + 3072) (haf : a ≤ f) (hl : l ≤ e) (hk : f / 1024 = k) (hlk : l ≤ 1024 * (k + 1)) : ∀ n t, f ≤ t → t ≤ l → l - t < n → l_I_bring_buffer_69 k18 n (nI i) (nI a) (nI e) (nI k) (nI f) (nI l) (nI (pl A i f)) (nI t) (ka (va_up c 5 (rb A i a (t - a)))) = k18 (nI i) (nI a) (nI e) (nI k + nI 1) (ka (va_up c 5 (rb A i a (l - a)))) := by
  have hsz := o.sz i
  intro n
  induction n with
  | zero => intro t _ _ h; omega
  | succ n ih =>
    intro t hf ht hn
    show b_I_bring_buffer_69 k18 (l_I_bring_buffer_69 k18 n) (nI i) (nI a) (nI e) (nI k) (nI f) (nI l) (nI (pl A i f)) (nI t) _ = _
    unfold b_I_bring_buffer_69
    by_cases z : t = l
    · subst z
      rw [if_pos (by rw [nLe (by omega) (by omega)]; omega)]
      rfl
    · have hv := vl_in hD hi (p := t) (by omega)
      have hp := pl_ge o hB hi hv
      have hpf : pl A i f + t = pl A i t + f := by
        unfold pl
        rw [show t / 1024 = k by omega, hk]
        omega
      rw [if_neg (by rw [nLe (by omega) (by omega)]; omega), nI_add, nSub (by omega), show pl A i f + t - f = pl A i t by omega]
      have hR2 : cw (va_up c 5 (rb A i a (t - a))) := by
        intro k2 q h1 h2
        by_cases e5 : k2 = 5
        · subst e5
          rw [va_up_s]
          unfold rb
          have g1 := o.dk (pl A i (a + q))
          have g2 := o.bu q
          split <;> omega
        · rw [va_up_n _ _ _ e5]; exact h.w k2 q h1 h2
      rw [kPart8 hR2 (by omega), Option.bind_some, va_up_n _ _ _ (by omega), h.x hp.1 hp.2, nSub (by omega)]
      show (fb_st (ka (va_up c 5 (rb A i a (t - a)))) 5 3072 (nI (t - a)) (fb_b (fb_b (nI (A 2 (pl A i t)))))).bind _ = _
      rw [st_nI (by omega) (by omega), Option.bind_some, fb_bb, bs_m, Nat.mod_eq_of_lt (o.dk _), ka_b _ 5 _ _ (by omega), va_up_tw, show A 2 (pl A i t) = A 2 (pl A i (a + (t - a))) by rw [show a + (t - a) = t by omega], rb_up, show t - a + 1 = t + 1 - a by omega]
      have h1 := ih (t + 1) (by omega) (by omega) (by omega)
      rw [← nI_add t 1] at h1
      exact h1
theorem br_out {c A : fb_N} (h : RC c A) (o : oA A) (hB : BK A) (hD : DI A) {i a e : Nat} (hi : i < 64) (ha : a < A 8 i) (he : e ≤ A 8 i) (hae : a ≤ e) (hae2 : e ≤ a + 3072) : ∀ n k, a / 1024 ≤ k → k ≤ 269 → 269 - k < n → l_I_bring_buffer_18 n (nI i) (nI a) (nI e) (nI k) (ka (va_up c 5 (rb A i a (min e (max a (1024 * k)) - a)))) = some (nI (e - a), ka (va_up c 5 (rb A i a (e - a)))) := by
  have hsz := o.sz i
  intro n
  induction n with
  | zero => intro k _ _ h; omega
  | succ n ih =>
    intro k hk hk2 hn
    show b_I_bring_buffer_18 (l_I_bring_buffer_18 n) (nI i) (nI a) (nI e) (nI k) _ = _
    unfold b_I_bring_buffer_18
    simp only [il]
    rw [pk_mul]
    by_cases z : e ≤ k * 1024
    · rw [if_pos (by rw [nLe (by omega) (by omega)]; exact z), nSub hae, show min e (max a (1024 * k)) = e by omega]
    · have hf : max a (k * 1024) < A 8 i := by omega
      rw [if_neg (by rw [nLe (by omega) (by omega)]; exact z), max_nI (by omega) (by omega), nI_add, pk_mul, min_nI (by omega) (by omega)]
      have hR2 : RC (va_up c 5 (rb A i a (min e (max a (1024 * k)) - a))) (va_up A 1 (rb A i a (min e (max a (1024 * k)) - a))) := by
        refine ⟨?_, ?_, ?_, ?_, ?_, ?_⟩
        · rw [va_up_n _ _ _ (by omega), db_c (A := A) (va_up_n _ _ _ (by omega)) (va_up_n _ _ _ (by omega)) (va_up_n _ _ _ (by omega)) (va_up_n _ _ _ (by omega)) (va_up_n _ _ _ (by omega)) (va_up_n _ _ _ (by omega)) (va_up_n _ _ _ (by omega)) (va_up_n _ _ _ (by omega)) (va_up_n _ _ _ (by omega))]
          exact h.1
        · rw [va_up_n _ _ _ (by omega), va_up_n _ _ _ (by omega)]; exact h.2.1
        · rw [va_up_n _ _ _ (by omega), va_up_n _ _ _ (by omega)]; exact h.2.2.1
        · rw [va_up_s, va_up_s]
        · rw [va_up_n _ _ _ (by omega), va_up_n _ _ _ (by omega)]; exact h.2.2.2.2.1
        · intro k2 q h1 h2
          by_cases e5 : k2 = 5
          · subst e5
            rw [va_up_s]
            unfold rb
            have g1 := o.dk (pl A i (a + q))
            have g2 := o.bu q
            split <;> omega
          · rw [va_up_n _ _ _ e5]; exact h.w k2 q h1 h2
      have hpl := kPlaceIn (A := A) (c := c) h o hB hD hi hf
      have hpl2 : f_I_placeOfByte (nI i) (nI (max a (k * 1024))) (ka (va_up c 5 (rb A i a (min e (max a (1024 * k)) - a)))) = some (nI (pl A i (max a (k * 1024))), ka (va_up c 5 (rb A i a (min e (max a (1024 * k)) - a)))) := by
        have hRA : RC (va_up c 5 (rb A i a (min e (max a (1024 * k)) - a))) (va_up A 1 (rb A i a (min e (max a (1024 * k)) - a))) := hR2
        have oA2 : oA (va_up A 1 (rb A i a (min e (max a (1024 * k)) - a))) := by
          obtain ⟨g1, g2, g3, g4, g5, g6, g7, g8, g9, g10, g11, g12, g13⟩ := o
          have u : ∀ j, j ≠ 1 → va_up A 1 (rb A i a (min e (max a (1024 * k)) - a)) j = A j := fun j hj => va_up_n _ _ _ hj
          refine ⟨fun k2 q hk2 => ?_, by rw [u 4 (by omega)]; exact g2, by rw [u 5 (by omega)]; exact g3, by rw [u 6 (by omega)]; exact g4, by rw [u 7 (by omega)]; exact g5, by rw [u 8 (by omega)]; exact g6, by rw [u 9 (by omega)]; exact g7, by rw [u 10 (by omega)]; exact g8, by rw [u 11 (by omega)]; exact g9, by rw [u 3 (by omega)]; exact g10, by rw [u 14 (by omega)]; exact g11, by rw [u 15 (by omega)]; exact g12, by rw [u 12 (by omega)]; exact g13⟩
          by_cases e1 : k2 = 1
          · subst e1
            rw [va_up_s]
            unfold rb
            have h1 := g1 2 (pl A i (a + q)) (by omega)
            have h2 := g1 1 q (by omega)
            split <;> omega
          · rw [u k2 e1]; exact g1 k2 q hk2
        have hB2 : BK (va_up A 1 (rb A i a (min e (max a (1024 * k)) - a))) := hB.cg (va_up_n _ _ _ (by omega)) (va_up_n _ _ _ (by omega)) (va_up_n _ _ _ (by omega)) (va_up_n _ _ _ (by omega))
        have hD2 : DI (va_up A 1 (rb A i a (min e (max a (1024 * k)) - a))) := hD.cg (va_up_n _ _ _ (by omega)) (va_up_n _ _ _ (by omega)) (va_up_n _ _ _ (by omega)) (va_up_n _ _ _ (by omega)) (va_up_n _ _ _ (by omega)) (va_up_n _ _ _ (by omega)) (va_up_n _ _ _ (by omega))
        have := kPlaceIn hRA oA2 hB2 hD2 hi (p := max a (k * 1024)) (by rw [va_up_n _ _ _ (by omega)]; exact hf)
        rw [this]
        unfold pl
        rw [va_up_n _ _ _ (by omega)]
      rw [hpl2, Option.bind_some]
      have h1 := br_in h o hB hD (e := e) (k := k) (f := max a (k * 1024)) (l := min e ((k + 1) * 1024)) hi (l_I_bring_buffer_18 n) he hae2 (by omega) (by omega) (by omega) (by omega) fb_n (max a (k * 1024)) (by omega) (by omega) (by unfold fb_n; omega)
      have e2 : min e (max a (1024 * k)) - a = max a (k * 1024) - a := by omega
      rw [e2]
      show l_I_bring_buffer_69 (l_I_bring_buffer_18 n) fb_n (nI i) (nI a) (nI e) (nI k) (nI (max a (k * 1024))) (nI (min e ((k + 1) * 1024))) (nI (pl A i (max a (k * 1024)))) (nI (max a (k * 1024))) (ka (va_up c 5 (rb A i a (max a (k * 1024) - a)))) = _
      rw [h1, nI_add]
      have h2 := ih (k + 1) (by omega) (by omega) (by omega)
      rw [show min e (max a (1024 * (k + 1))) - a = min e ((k + 1) * 1024) - a by omega] at h2
      exact h2
theorem mRead {A : fb_N} (o : oA A) (hB : BK A) (hD : DI A) {i a m : Nat} (hi : i < 64) (ha : a < 2147483648) (hm : m ≤ 3072) : ∀ n t, t ≤ min m (A 8 i - a) → min m (A 8 i - a) - t < n → l_M_read_43 n (nI i) (nI a) (nI m) (nI t) (mu (va_up A 1 (rb A i a t))) = some (nI (min m (A 8 i - a)), mu (va_up A 1 (rb A i a (min m (A 8 i - a))))) := by
  have hsz := o.sz i
  intro n
  induction n with
  | zero => intro t _ h; omega
  | succ n ih =>
    intro t ht hn
    show b_M_read_43 (l_M_read_43 n) (nI i) (nI a) (nI m) (nI t) _ = _
    unfold b_M_read_43
    by_cases z : m ≤ t
    · rw [if_pos (by rw [nLe (by omega) (by omega)]; exact z), show t = min m (A 8 i - a) by omega]
    · rw [if_neg (by rw [nLe (by omega) (by omega)]; exact z), ld_nI hi (by omega), Option.bind_some, mu_8, va_up_n _ _ _ (by omega), nSub (by omega)]
      by_cases y : A 8 i - t ≤ a
      · rw [if_pos (by rw [nLe (by omega) (by omega)]; exact y), show t = min m (A 8 i - a) by omega]
      · have hv := vl_in hD hi (p := a + t) (by omega)
        have hp := pl_ge o hB hi hv
        have epl : pl (va_up A 1 (rb A i a t)) i (a + t) = pl A i (a + t) := by
          unfold pl
          rw [va_up_n _ _ _ (by omega)]
        have hpl : f_M_place (nI i) (nI (a + t)) (mu (va_up A 1 (rb A i a t))) = some (nI (pl A i (a + t)), mu (va_up A 1 (rb A i a t))) := by
          have hb := o.bl (269 * i + (a + t) / 1024)
          unfold f_M_place pl
          simp only [il]
          have e : nI (a + t) - nI (a + t) / nI 1024 * nI 1024 = nI ((a + t) % 1024) := nRem (by omega) (by omega) (by omega)
          rw [e, nDiv (by omega) (by omega) (by omega), pk_mul, nI_add, ld_nI (by omega) (by omega), Option.bind_some, mu_11, va_up_n _ _ _ (by omega), pk_mul, nI_add]
        rw [if_neg (by rw [nLe (by omega) (by omega)]; exact y), nI_add, hpl, Option.bind_some]
        show ((fb_ld (mu (va_up A 1 (rb A i a t)) 2) 524288 (nI (pl A i (a + t)))).bind _) = _
        rw [ld_nI (by omega) (by omega), Option.bind_some, mu_2, va_up_n _ _ _ (by omega)]
        show ((fb_st (mu (va_up A 1 (rb A i a t))) 1 3072 (nI t) (fb_b (bs (A 2 (pl A i (a + t)))))).bind _) = _
        rw [st_nI (by omega) (by omega), Option.bind_some, bs_b _ (o.dk _), mu_b _ 1 _ _ (by omega), va_up_tw, rb_up]
        have h1 := ih (t + 1) (by omega) (by omega)
        rw [← nI_add t 1] at h1
        exact h1

/-! a block is taken -/
def isL (A : fb_N) (b : Nat) : Prop := 38 ≤ b ∧ b < 512 ∧ A 3 b = 0 ∧ ∀ x, 38 ≤ x → x < b → A 3 x = 1
theorem sg_full {f : Nat → Nat} (n : Nat) (h : ∀ i, i < n → f i = 1) : sg f n = n := by
  induction n with
  | zero => rfl
  | succ n ih =>
    show sg f n + f n = n + 1
    rw [ih (fun i hi => h i (by omega)), h n (by omega)]
theorem isL_ex {A : fb_N} (o : oA A) (h38 : ∀ b, b < 38 → A 3 b = 1) (h : 0 < lf A) : ∃ b, isL A b := by
  have key : ∃ b, 38 ≤ b ∧ b < 512 ∧ A 3 b = 0 := by
    rcases Classical.em (∃ b, 38 ≤ b ∧ b < 512 ∧ A 3 b = 0) with z | z
    · exact z
    · exfalso
      have h1 : sg (A 3) 512 = 512 := sg_full 512 (fun i hi => by
        rcases Nat.lt_or_ge i 38 with q | q
        · exact h38 i q
        · have := o.us i
          rcases (show A 3 i = 0 ∨ A 3 i = 1 by omega) with e | e
          · exact absurd ⟨i, q, hi, e⟩ z
          · exact e)
      unfold lf at h
      omega
  obtain ⟨b, hb, hm⟩ := pk_least _ key
  refine ⟨b, hb.1, hb.2.1, hb.2.2, fun x h1 h2 => ?_⟩
  have := o.us x
  rcases (show A 3 x = 0 ∨ A 3 x = 1 by omega) with e | e
  · exact absurd ⟨h1, by omega, e⟩ (hm x h2)
  · exact e
/-- bytes of a stretch become 0 -/
def zr (B : Nat → Nat) (p n : Nat) : Nat → Nat := fun q => if p ≤ q ∧ q < p + n then 0 else B q
def tk (A : fb_N) (b : Nat) : fb_N := va_up (up A 3 b 1) 2 (zr (A 2) (1024 * b) 1024)
theorem kWipeL (m w : Nat) (hw : w + m ≤ 131072) : ∀ (n t : Nat) (c : fb_N), t ≤ m → m - t < n → l_K_wipe_2 n (nI (4 * w)) (nI (4 * m)) (nI (4 * t)) (ka (va_up c 0 (zr (c 0) (4 * w) (4 * t)))) = some (0, ka (va_up c 0 (zr (c 0) (4 * w) (4 * m)))) := by
  intro n
  induction n with
  | zero => intro t c _ h; omega
  | succ n ih =>
    intro t c ht hn
    show b_K_wipe_2 (l_K_wipe_2 n) (nI (4 * w)) (nI (4 * m)) (nI (4 * t)) _ = _
    unfold b_K_wipe_2
    by_cases e : t = m
    · subst e
      rw [if_pos (by rw [nLe (by omega) (by omega)]; omega)]
    · rw [if_neg (by rw [nLe (by omega) (by omega)]; omega), nI_add, show 4 * w + 4 * t = 4 * (w + t) by omega]
      show (f_K_setNumber (nI (4 * (w + t))) (nI 0) _).bind _ = _
      rw [kSetN _ (by omega), Option.bind_some]
      have e2 : va_up (va_up c 0 (zr (c 0) (4 * w) (4 * t))) 0 (s4 (va_up c 0 (zr (c 0) (4 * w) (4 * t)) 0) (4 * (w + t)) 0) = va_up c 0 (zr (c 0) (4 * w) (4 * (t + 1))) := by
        funext k q
        by_cases hk : k = 0
        · subst hk
          rw [va_up_s, va_up_s, va_up_s]
          unfold zr
          by_cases h1 : 4 * (w + t) ≤ q ∧ q < 4 * (w + t) + 4
          · rw [show q = 4 * (w + t) + (q - 4 * (w + t)) by omega, s4_in _ _ _ (by omega), if_pos (by omega)]
            unfold le
            simp
          · rw [s4_out _ (by omega)]
            by_cases h2 : 4 * w ≤ q ∧ q < 4 * w + 4 * t
            · rw [if_pos h2, if_pos (by omega)]
            · rw [if_neg h2, if_neg (by omega)]
        · rw [va_up_n _ _ _ hk, va_up_n _ _ _ hk, va_up_n _ _ _ hk]
      have h3 := ih (t + 1) c (by omega) (by omega)
      show l_K_wipe_2 n (nI (4 * w)) (nI (4 * m)) (nI (4 * t) + nI 4) _ = _
      rw [nI_add, show 4 * t + 4 = 4 * (t + 1) by omega]
      show l_K_wipe_2 n (nI (4 * w)) (nI (4 * m)) (nI (4 * (t + 1))) (ka (va_up (va_up c 0 (zr (c 0) (4 * w) (4 * t))) 0 (s4 (va_up c 0 (zr (c 0) (4 * w) (4 * t)) 0) (4 * (w + t)) 0))) = _
      rw [e2]
      exact h3
theorem kWipe (c : fb_N) {p n : Nat} (hp : p % 4 = 0) (hn : n % 4 = 0) (h : p + n ≤ 524288) : f_K_wipe (nI p) (nI n) (ka c) = some (0, ka (va_up c 0 (zr (c 0) p n))) := by
  have h1 := kWipeL (n / 4) (p / 4) (by omega) fb_n 0 c (by omega) (by unfold fb_n; omega)
  rw [show 4 * (p / 4) = p by omega, show 4 * (n / 4) = n by omega] at h1
  have h2 : va_up c 0 (zr (c 0) p (4 * 0)) = c := by
    funext k q
    by_cases hk : k = 0
    · subst hk
      rw [va_up_s]
      unfold zr
      rw [if_neg (by omega)]
    · rw [va_up_n _ _ _ hk]
  rw [h2] at h1
  exact h1
theorem mk1 : ∀ m, m < 256 → ∀ r, r < 8 → un ((nI m &&& (((1 : Int32) <<< (nI r &&& 31)) ^^^ (-1))) ||| ((1 : Int32) <<< (nI r &&& 31))) % 256 = m - m / 2 ^ r % 2 * 2 ^ r + 2 ^ r := by decide +kernel
theorem mk0 : ∀ m, m < 256 → ∀ r, r < 8 → un (nI m &&& (((1 : Int32) <<< (nI r &&& 31)) ^^^ (-1))) % 256 = m - m / 2 ^ r % 2 * 2 ^ r := by decide +kernel
theorem mb_bit {A : fb_N} (o : oA A) (b : Nat) : mbx A (b / 8) / 2 ^ (b % 8) % 2 = A 3 b := by
  have h : ∀ x, A 3 x ≤ 1 := o.us
  have h0 := h (8 * (b / 8))
  have h1 := h (8 * (b / 8) + 1)
  have h2 := h (8 * (b / 8) + 2)
  have h3 := h (8 * (b / 8) + 3)
  have h4 := h (8 * (b / 8) + 4)
  have h5 := h (8 * (b / 8) + 5)
  have h6 := h (8 * (b / 8) + 6)
  have h7 := h (8 * (b / 8) + 7)
  unfold mbx
  have key : ∀ r, r < 8 → b % 8 = r → A 3 b = A 3 (8 * (b / 8) + r) := fun r _ e => by congr 1; omega
  rcases (show b % 8 = 0 ∨ b % 8 = 1 ∨ b % 8 = 2 ∨ b % 8 = 3 ∨ b % 8 = 4 ∨ b % 8 = 5 ∨ b % 8 = 6 ∨ b % 8 = 7 by omega) with e | e | e | e | e | e | e | e <;> rw [key _ (by omega) e, e] <;> simp only [Nat.reducePow, Nat.add_zero] <;> omega
theorem mb_up {A : fb_N} (b v : Nat) : mbx (up A 3 b v) (b / 8) + A 3 b * 2 ^ (b % 8) = mbx A (b / 8) + v * 2 ^ (b % 8) := by
  unfold mbx
  have key : ∀ r, r < 8 → up A 3 b v 3 (8 * (b / 8) + r) = if b % 8 = r then v else A 3 (8 * (b / 8) + r) := by
    intro r hr
    by_cases e : b % 8 = r
    · rw [if_pos e, show 8 * (b / 8) + r = b by omega, up_s]
    · rw [if_neg e, up_n _ (by omega)]
  have key0 := key 0 (by omega)
  rw [Nat.add_zero] at key0
  have kb : ∀ r, r < 8 → b % 8 = r → A 3 b = A 3 (8 * (b / 8) + r) := fun r _ e => by congr 1; omega
  rw [key0, key 1 (by omega), key 2 (by omega), key 3 (by omega), key 4 (by omega), key 5 (by omega), key 6 (by omega), key 7 (by omega)]
  rcases (show b % 8 = 0 ∨ b % 8 = 1 ∨ b % 8 = 2 ∨ b % 8 = 3 ∨ b % 8 = 4 ∨ b % 8 = 5 ∨ b % 8 = 6 ∨ b % 8 = 7 by omega) with e | e | e | e | e | e | e | e <;> rw [kb _ (by omega) e, e] <;> simp <;> omega
theorem mb_lt {A : fb_N} (o : oA A) (k : Nat) : mbx A k < 256 := by
  have h : ∀ x, A 3 x ≤ 1 := o.us
  have h0 := h (8 * k)
  have h1 := h (8 * k + 1)
  have h2 := h (8 * k + 2)
  have h3 := h (8 * k + 3)
  have h4 := h (8 * k + 4)
  have h5 := h (8 * k + 5)
  have h6 := h (8 * k + 6)
  have h7 := h (8 * k + 7)
  unfold mbx
  omega
theorem kMark1 {c A : fb_N} (h : RC c A) (o : oA A) {b : Nat} (hb : b < 512) : f_K_mark (nI b) (1 : Int32) (ka c) = some (0, ka (up c 0 (37888 + b / 8) (mbx (up A 3 b 1) (b / 8)))) := by
  unfold f_K_mark b_K_mark_50
  simp only [il]
  rw [nDiv (by omega) (by omega) (by omega), nI_add]
  show (f_K_partAt (nI (37888 + b / 8)) (255 : Int32) (ka c)).bind _ = _
  rw [kPart8 h.w (by omega), Option.bind_some, if_neg (show ¬ nI 1 = nI 0 from n01), nAnd7, h.m (by omega)]
  show (f_K_setPart (nI (37888 + b / 8)) (255 : Int32) _ (ka c)).bind _ = _
  rw [kSet8 h.w (by omega), Option.bind_some]
  have e := mk1 (mbx A (b / 8)) (mb_lt o _) (b % 8) (by omega)
  have e2 : un (nI (mbx A (b / 8)) &&& (nI 1 <<< (nI (b % 8) &&& nI 31) ^^^ -nI 1) ||| nI 1 <<< (nI (b % 8) &&& nI 31)) % 256 = mbx (up A 3 b 1) (b / 8) := by
    refine e.trans ?_
    have e3 := mb_up (A := A) b 1
    rw [mb_bit o b]
    have e4 : A 3 b * 2 ^ (b % 8) ≤ mbx A (b / 8) := by
      rw [← mb_bit o b]
      have : mbx A (b / 8) / 2 ^ (b % 8) % 2 * 2 ^ (b % 8) ≤ mbx A (b / 8) / 2 ^ (b % 8) * 2 ^ (b % 8) := Nat.mul_le_mul_right _ (Nat.mod_le _ _)
      exact Nat.le_trans this (Nat.div_mul_le_self _ _)
    omega
  show some (0, ka (up c 0 (37888 + b / 8) (un (nI (mbx A (b / 8)) &&& (nI 1 <<< (nI (b % 8) &&& nI 31) ^^^ -nI 1) ||| nI 1 <<< (nI (b % 8) &&& nI 31)) % 256))) = _
  rw [e2]
  rfl
theorem kMark0 {c A : fb_N} (h : RC c A) (o : oA A) {b : Nat} (hb : b < 512) : f_K_mark (nI b) (0 : Int32) (ka c) = some (0, ka (up c 0 (37888 + b / 8) (mbx (up A 3 b 0) (b / 8)))) := by
  unfold f_K_mark b_K_mark_50
  simp only [il]
  rw [nDiv (by omega) (by omega) (by omega), nI_add]
  show (f_K_partAt (nI (37888 + b / 8)) (255 : Int32) (ka c)).bind _ = _
  rw [kPart8 h.w (by omega), Option.bind_some, if_pos trivial, nAnd7, h.m (by omega)]
  show (f_K_setPart (nI (37888 + b / 8)) (255 : Int32) _ (ka c)).bind _ = _
  rw [kSet8 h.w (by omega), Option.bind_some]
  have e := mk0 (mbx A (b / 8)) (mb_lt o _) (b % 8) (by omega)
  have e2 : un (nI (mbx A (b / 8)) &&& (nI 1 <<< (nI (b % 8) &&& nI 31) ^^^ -nI 1)) % 256 = mbx (up A 3 b 0) (b / 8) := by
    refine e.trans ?_
    have e3 := mb_up (A := A) b 0
    rw [mb_bit o b]
    omega
  show some (0, ka (up c 0 (37888 + b / 8) (un (nI (mbx A (b / 8)) &&& (nI 1 <<< (nI (b % 8) &&& nI 31) ^^^ -nI 1)) % 256))) = _
  rw [e2]
  rfl
theorem oA_3 {A : fb_N} (o : oA A) {b v : Nat} (hv : v ≤ 1) : oA (up A 3 b v) := by
  have u : ∀ j, j ≠ 3 → up A 3 b v j = A j := fun j hj => up_c A hj
  obtain ⟨g1, g2, g3, g4, g5, g6, g7, g8, g9, g10, g11, g12, g13⟩ := o
  refine ⟨fun k q hk => by rw [u k (by omega)]; exact g1 k q hk, by rw [u 4 (by omega)]; exact g2, by rw [u 5 (by omega)]; exact g3, by rw [u 6 (by omega)]; exact g4, by rw [u 7 (by omega)]; exact g5, by rw [u 8 (by omega)]; exact g6, by rw [u 9 (by omega)]; exact g7, by rw [u 10 (by omega)]; exact g8, by rw [u 11 (by omega)]; exact g9, ?_, by rw [u 14 (by omega)]; exact g11, by rw [u 15 (by omega)]; exact g12, by rw [u 12 (by omega)]; exact g13⟩
  intro x
  by_cases e : x = b
  · rw [e, up_s]; exact hv
  · rw [up_n _ (Or.inr e)]; exact g10 x
theorem oA_2 {A : fb_N} (o : oA A) (f : Nat → Nat) (hf : ∀ q, f q < 256) : oA (va_up A 2 f) := by
  have u : ∀ j, j ≠ 2 → va_up A 2 f j = A j := fun j hj => va_up_n _ _ _ hj
  obtain ⟨g1, g2, g3, g4, g5, g6, g7, g8, g9, g10, g11, g12, g13⟩ := o
  refine ⟨fun k q hk => ?_, by rw [u 4 (by omega)]; exact g2, by rw [u 5 (by omega)]; exact g3, by rw [u 6 (by omega)]; exact g4, by rw [u 7 (by omega)]; exact g5, by rw [u 8 (by omega)]; exact g6, by rw [u 9 (by omega)]; exact g7, by rw [u 10 (by omega)]; exact g8, by rw [u 11 (by omega)]; exact g9, by rw [u 3 (by omega)]; exact g10, by rw [u 14 (by omega)]; exact g11, by rw [u 15 (by omega)]; exact g12, by rw [u 12 (by omega)]; exact g13⟩
  by_cases e : k = 2
  · subst e; rw [va_up_s]; exact hf q
  · rw [u k e]; exact g1 k q hk
theorem zr_b {B : Nat → Nat} (hB : ∀ q, B q < 256) (p n q : Nat) : zr B p n q < 256 := by
  unfold zr
  have := hB q
  split <;> omega
theorem oA_tk {A : fb_N} (o : oA A) (b : Nat) : oA (tk A b) := oA_2 (oA_3 o (by omega)) _ (zr_b o.dk _ _)
theorem kTakeL {c A : fb_N} (h : RC c A) (o : oA A) {b : Nat} (hb : isL A b) : ∀ n x, 38 ≤ x → x ≤ b → b - x < n → ∃ c2, l_K_takeBlock_3 n (nI x) (ka c) = some (nI b, ka c2) ∧ RC c2 (tk A b) := by
  obtain ⟨h1, h2, h3, h4⟩ := hb
  intro n
  induction n with
  | zero => intro x _ _ h; omega
  | succ n ih =>
    intro x hx hxb hn
    show ∃ c2, b_K_takeBlock_3 (l_K_takeBlock_3 n) (nI x) (ka c) = some (nI b, ka c2) ∧ RC c2 (tk A b)
    unfold b_K_takeBlock_3
    rw [if_neg (show ¬ (512 : Int32) ≤ nI x from nLe' (a := 512) (by omega) (by omega)), show (37888 : Int32) + nI x / (8 : Int32) = nI (37888 + x / 8) from by
      show nI 37888 + nI x / nI 8 = _
      rw [nDiv (by omega) (by omega) (by omega), nI_add], kPart8 h.w (by omega), Option.bind_some, h.m (by omega)]
    have hbit : (nI (mbx A (x / 8)) >>> ((nI x &&& (7 : Int32)) &&& 31)) &&& (1 : Int32) = nI (A 3 x) := by
      show (nI (mbx A (x / 8)) >>> ((nI x &&& nI 7) &&& 31)) &&& nI 1 = _
      have hm := mb_lt o (x / 8)
      rw [nAnd7, pk_shrN (by omega) (nI (x % 8) &&& 31) (x % 8) (s_l (x % 8) (by omega)), nAnd1, mb_bit o x]
    rw [hbit]
    by_cases e : x = b
    · subst e
      rw [h3, if_pos (show nI 0 = (0 : Int32) from rfl), kMark1 h o (by omega), Option.bind_some]
      have hR1 := rc3 h o (b := x) (v := 1) h2 (by omega)
      show ∃ c2, (f_K_wipe (nI x * nI 1024) (nI 1024) _).bind _ = _ ∧ _
      rw [pk_mul, kWipe _ (by omega) (by omega) (by omega), Option.bind_some]
      refine ⟨_, rfl, ?_⟩
      unfold tk
      rw [Nat.mul_comm x 1024]
      refine rcB hR1 _ _ (fun q => ⟨fun hq => ?_, fun hq1 hq2 => ?_⟩) (fun q => zr_b hR1.w.b _ _ q)
      · unfold zr
        rw [if_neg (by omega)]
      · unfold zr
        by_cases z : 1024 * x ≤ q ∧ q < 1024 * x + 1024
        · rw [if_pos z, if_pos z]
        · rw [if_neg z, if_neg z, hR1.x hq1 hq2, up_c A (by omega)]
    · rw [h4 x hx (by omega), if_neg (show ¬ nI 1 = (0 : Int32) from n01)]
      have := ih (x + 1) (by omega) (by omega) (by omega)
      rw [← nI_add x 1] at this
      exact this
theorem kTake {c A : fb_N} (h : RC c A) (o : oA A) {b : Nat} (hb : isL A b) : ∃ c2, f_K_takeBlock (ka c) = some (nI b, ka c2) ∧ RC c2 (tk A b) := kTakeL h o hb fb_n 38 (by omega) hb.1 (by have := hb.2.1; unfold fb_n; omega)
theorem mTake2 (A : fb_N) {b : Nat} (hb : b < 512) : ∀ n t, t ≤ 1024 → 1024 - t < n → l_M_take_27 n (nI b) (nI t) (mu (va_up A 2 (zr (A 2) (1024 * b) t))) = some (nI b, mu (va_up A 2 (zr (A 2) (1024 * b) 1024))) := by
  intro n
  induction n with
  | zero => intro t _ h; omega
  | succ n ih =>
    intro t ht hn
    show b_M_take_27 (l_M_take_27 n) (nI b) (nI t) _ = _
    unfold b_M_take_27
    simp only [il]
    by_cases e : t = 1024
    · subst e
      rw [if_pos (by rw [nLe (by omega) (by omega)]; omega)]
    · rw [if_neg (by rw [nLe (by omega) (by omega)]; omega), pk_mul, nI_add, st_nI (by omega) (by omega), Option.bind_some, nI_add]
      have h1 := ih (t + 1) (by omega) (by omega)
      have e1 : fb_b (nI 0) = bs 0 := rfl
      rw [e1, mu_b _ 2 _ _ (by omega)]
      have e2 : up (va_up A 2 (zr (A 2) (1024 * b) t)) 2 (1024 * b + t) 0 = va_up A 2 (zr (A 2) (1024 * b) (t + 1)) := by
        funext k q
        by_cases hk : k = 2
        · subst hk
          rw [va_up_s]
          unfold zr
          by_cases hq : q = 1024 * b + t
          · rw [hq, up_s, if_pos (by omega)]
          · rw [up_n _ (Or.inr hq), va_up_s]
            by_cases z : 1024 * b ≤ q ∧ q < 1024 * b + t
            · rw [if_pos z, if_pos (by omega)]
            · rw [if_neg z, if_neg (by omega)]
        · rw [up_n _ (Or.inl hk), va_up_n _ _ _ hk, va_up_n _ _ _ hk]
      rw [e2]
      exact h1
theorem mTake {A : fb_N} (o : oA A) {b : Nat} (hb : isL A b) : f_M_take (mu A) = some (nI b, mu (tk A b)) := by
  obtain ⟨h1, h2, h3, h4⟩ := hb
  have key : ∀ n x, 38 ≤ x → x ≤ b → b - x < n → l_M_take_3 n (nI x) (mu A) = some (nI b, mu (tk A b)) := by
    intro n
    induction n with
    | zero => intro x _ _ h; omega
    | succ n ih =>
      intro x hx hxb hn
      show b_M_take_3 (l_M_take_3 n) (nI x) (mu A) = _
      unfold b_M_take_3
      simp only [il]
      rw [ld_nI (by omega) (by omega), Option.bind_some, mu_3, nI_add]
      by_cases e : x = b
      · subst e
        rw [h3, if_pos rfl, st_nI (by omega) (by omega), Option.bind_some, show nI 1 &&& nI 1 = nI 1 by decide, mu_i A 3 _ _ (by decide)]
        have h5 := mTake2 (up A 3 x 1) h2 fb_n 0 (by omega) (by unfold fb_n; omega)
        have e2 : va_up (up A 3 x 1) 2 (zr (up A 3 x 1 2) (1024 * x) 0) = up A 3 x 1 := by
          funext k q
          by_cases hk : k = 2
          · subst hk
            rw [va_up_s]
            unfold zr
            rw [if_neg (by omega)]
          · rw [va_up_n _ _ _ hk]
        rw [e2, up_c A (show 2 ≠ 3 by omega)] at h5
        exact h5
      · rw [h4 x hx (by omega), if_neg (by rw [nEq (by omega) (by omega)]; omega)]
        exact ih (x + 1) (by omega) (by omega) (by omega)
  exact key fb_n 38 (by omega) h1 (by unfold fb_n; omega)

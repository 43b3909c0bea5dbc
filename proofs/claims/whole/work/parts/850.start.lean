/-! the start -/
theorem mb_ltu {A : fb_N} (us : ∀ x, A 3 x ≤ 1) (k : Nat) : mbx A k < 256 := by
  have h : ∀ x, A 3 x ≤ 1 := us
  have h0 := h (8 * k)
  have h1 := h (8 * k + 1)
  have h2 := h (8 * k + 2)
  have h3 := h (8 * k + 3)
  have h4 := h (8 * k + 4)
  have h5 := h (8 * k + 5)
  have h6 := h (8 * k + 6)
  have h7 := h (8 * k + 7)
  unfold mbx
  omega
theorem mb_bitu {A : fb_N} (us : ∀ x, A 3 x ≤ 1) (b : Nat) : mbx A (b / 8) / 2 ^ (b % 8) % 2 = A 3 b := by
  have h : ∀ x, A 3 x ≤ 1 := us
  have h0 := h (8 * (b / 8))
  have h1 := h (8 * (b / 8) + 1)
  have h2 := h (8 * (b / 8) + 2)
  have h3 := h (8 * (b / 8) + 3)
  have h4 := h (8 * (b / 8) + 4)
  have h5 := h (8 * (b / 8) + 5)
  have h6 := h (8 * (b / 8) + 6)
  have h7 := h (8 * (b / 8) + 7)
  unfold mbx
  have key : ∀ r, r < 8 → b % 8 = r → A 3 b = A 3 (8 * (b / 8) + r) := fun r _ e => by congr 1; omega
  rcases (show b % 8 = 0 ∨ b % 8 = 1 ∨ b % 8 = 2 ∨ b % 8 = 3 ∨ b % 8 = 4 ∨ b % 8 = 5 ∨ b % 8 = 6 ∨ b % 8 = 7 by omega) with e | e | e | e | e | e | e | e <;> rw [key _ (by omega) e, e] <;> simp only [Nat.reducePow, Nat.add_zero] <;> omega
theorem kMark1u {c A : fb_N} (h : RC c A) (us : ∀ x, A 3 x ≤ 1) {b : Nat} (hb : b < 512) : f_K_mark (nI b) (1 : Int32) (ka c) = some (0, ka (up c 0 (37888 + b / 8) (mbx (up A 3 b 1) (b / 8)))) := by
  unfold f_K_mark b_K_mark_50
  simp only [il]
  rw [nDiv (by omega) (by omega) (by omega), nI_add]
  show (f_K_partAt (nI (37888 + b / 8)) (255 : Int32) (ka c)).bind _ = _
  rw [kPart8 h.w (by omega), Option.bind_some, if_neg (show ¬ nI 1 = nI 0 from n01), nAnd7, h.m (by omega)]
  show (f_K_setPart (nI (37888 + b / 8)) (255 : Int32) _ (ka c)).bind _ = _
  rw [kSet8 h.w (by omega), Option.bind_some]
  have e := mk1 (mbx A (b / 8)) (mb_ltu us _) (b % 8) (by omega)
  have e2 : un (nI (mbx A (b / 8)) &&& (nI 1 <<< (nI (b % 8) &&& nI 31) ^^^ -nI 1) ||| nI 1 <<< (nI (b % 8) &&& nI 31)) % 256 = mbx (up A 3 b 1) (b / 8) := by
    refine e.trans ?_
    have e3 := mb_up (A := A) b 1
    rw [mb_bitu us b]
    have e4 : A 3 b * 2 ^ (b % 8) ≤ mbx A (b / 8) := by
      rw [← mb_bitu us b]
      have : mbx A (b / 8) / 2 ^ (b % 8) % 2 * 2 ^ (b % 8) ≤ mbx A (b / 8) / 2 ^ (b % 8) * 2 ^ (b % 8) := Nat.mul_le_mul_right _ (Nat.mod_le _ _)
      exact Nat.le_trans this (Nat.div_mul_le_self _ _)
    omega
  show some (0, ka (up c 0 (37888 + b / 8) (un (nI (mbx A (b / 8)) &&& (nI 1 <<< (nI (b % 8) &&& nI 31) ^^^ -nI 1) ||| nI 1 <<< (nI (b % 8) &&& nI 31)) % 256))) = _
  rw [e2]
  rfl
theorem rc3u {c A : fb_N} (h : RC c A) (us : ∀ x, A 3 x ≤ 1) {b v : Nat} (hb : b < 512) (hv : v ≤ 1) : RC (up c 0 (37888 + b / 8) (mbx (up A 3 b v) (b / 8))) (up A 3 b v) := by
  have hu : ∀ x, up A 3 b v 3 x ≤ 1 := by
    intro x
    by_cases e : x = b
    · rw [e, up_s]; exact hv
    · rw [up_n _ (Or.inr e)]; exact us x
  refine rcD h (fun k hk => up_c _ hk) ?_ ?_ ?_ ?_ ?_ (up_c A (by omega)) (up_c A (by omega)) (up_c A (by omega)) (up_c A (by omega)) (up_c A (by omega))
  · intro q
    by_cases e : q = 37888 + b / 8
    · rw [e, up_s]
      unfold mbx
      have h0 := hu (8 * (b / 8))
      have h1 := hu (8 * (b / 8) + 1)
      have h2 := hu (8 * (b / 8) + 2)
      have h3 := hu (8 * (b / 8) + 3)
      have h4 := hu (8 * (b / 8) + 4)
      have h5 := hu (8 * (b / 8) + 5)
      have h6 := hu (8 * (b / 8) + 6)
      have h7 := hu (8 * (b / 8) + 7)
      omega
    · rw [up_n _ (Or.inr e)]; exact h.w.b q
  · intro a k ha hk
    rw [up_n _ (Or.inr (by omega)), h.i ha hk]
    unfold ibx
    rw [up_c A (show 4 ≠ 3 by omega), up_c A (show 5 ≠ 3 by omega), up_c A (show 6 ≠ 3 by omega), up_c A (show 7 ≠ 3 by omega), up_c A (show 8 ≠ 3 by omega), up_c A (show 11 ≠ 3 by omega)]
  · intro k hk
    by_cases e : k = b / 8
    · rw [e, up_s]
    · rw [up_n _ (Or.inr (by omega)), h.m hk]
      unfold mbx
      rw [up_n A (show 3 ≠ 3 ∨ 8 * k ≠ b by omega), up_n A (show 3 ≠ 3 ∨ 8 * k + 1 ≠ b by omega), up_n A (show 3 ≠ 3 ∨ 8 * k + 2 ≠ b by omega), up_n A (show 3 ≠ 3 ∨ 8 * k + 3 ≠ b by omega), up_n A (show 3 ≠ 3 ∨ 8 * k + 4 ≠ b by omega), up_n A (show 3 ≠ 3 ∨ 8 * k + 5 ≠ b by omega), up_n A (show 3 ≠ 3 ∨ 8 * k + 6 ≠ b by omega), up_n A (show 3 ≠ 3 ∨ 8 * k + 7 ≠ b by omega)]
  · intro q h1 h2
    rw [up_n _ (Or.inr (by omega)), h.x h1 h2, up_c A (show 2 ≠ 3 by omega)]
  · intro q hq
    rw [up_n _ (Or.inr (by omega))]
def sN : Nat → Nat := fun i => un (stM_0 12 i)
theorem sN_ok {i : Nat} (hi : i < 8) : nI (sN i) = zf_0 i ∧ sN i < 2147483648 := by
  refine ⟨?_, ?_⟩
  · unfold sN
    rw [nI_un]
    rcases (show i = 0 ∨ i = 1 ∨ i = 2 ∨ i = 3 ∨ i = 4 ∨ i = 5 ∨ i = 6 ∨ i = 7 by omega) with e | e | e | e | e | e | e | e <;> rw [e] <;> rfl
  · rcases (show i = 0 ∨ i = 1 ∨ i = 2 ∨ i = 3 ∨ i = 4 ∨ i = 5 ∨ i = 6 ∨ i = 7 by omega) with e | e | e | e | e | e | e | e <;> rw [e] <;> decide +kernel
def U0 (t : Nat) : fb_N := fun k => if k = 12 then sN else if k = 3 then (fun x => if x < t then 1 else 0) else fun _ => 0
theorem U0_12 (t : Nat) : U0 t 12 = sN := rfl
theorem U0_3 (t x : Nat) : U0 t 3 x = if x < t then 1 else 0 := rfl
theorem U0_z (t : Nat) {k : Nat} (h : k ≠ 12) (h3 : k ≠ 3) (x : Nat) : U0 t k x = 0 := by
  unfold U0
  rw [if_neg h, if_neg h3]
theorem U0_up (t : Nat) : up (U0 t) 3 t 1 = U0 (t + 1) := by
  funext a b
  by_cases e : a = 3
  · subst e
    rw [U0_3]
    by_cases w : b = t
    · rw [w, up_s, if_pos (by omega)]
    · rw [up_n _ (Or.inr w), U0_3]
      by_cases w2 : b < t
      · rw [if_pos w2, if_pos (by omega)]
      · rw [if_neg w2, if_neg (by omega)]
  · rw [up_c _ e]
    unfold U0
    by_cases w : a = 12
    · rw [if_pos w, if_pos w]
    · rw [if_neg w, if_neg w, if_neg e, if_neg e]
theorem stM_mu : stM_0 = mu (U0 0) := by
  funext k i
  by_cases e : k = 12
  · subst e
    rw [mu_12, U0_12]
    unfold sN
    rw [nI_un]
  · have h0 : U0 0 k i = 0 := by
      by_cases w : k = 3
      · subst w
        rw [U0_3, if_neg (by omega)]
      · exact U0_z 0 e w i
    unfold mu
    rw [h0]
    unfold stM_0
    rw [if_neg e]
    split <;> rfl
theorem stT_ka : stT_0 = ka (fun _ _ => 0) := by
  funext k i
  unfold stT_0 ka
  by_cases e : k = 0
  · rw [if_pos e]
    by_cases w : i < 131072
    · rw [if_pos w]
      rfl
    · rw [if_neg w]
  · rw [if_neg e]
    split <;> rfl
def fB (t : Nat) : Nat → Nat := fun q => if 1024 ≤ q ∧ q < 1024 + 4 * t then le (sN ((q - 1024) / 4)) (q % 4) else 0
def fC (t : Nat) : fb_N := fun k => if k = 0 then fB t else fun _ => 0
theorem fC_0 : fC 0 = fun _ _ => 0 := by
  funext k q
  unfold fC fB
  by_cases e : k = 0
  · rw [if_pos e, if_neg (by omega)]
  · rw [if_neg e]
theorem fC_s (t : Nat) : va_up (fC t) 0 (s4 (fC t 0) (4 * (256 + t)) (sN t)) = fC (t + 1) := by
  funext k q
  by_cases e : k = 0
  · subst e
    rw [va_up_s]
    show s4 (fB t) (4 * (256 + t)) (sN t) q = fB (t + 1) q
    by_cases w : 4 * (256 + t) ≤ q ∧ q < 4 * (256 + t) + 4
    · have h1 : q = 4 * (256 + t) + q % 4 := by omega
      have h2 : s4 (fB t) (4 * (256 + t)) (sN t) q = le (sN t) (q % 4) := by
        have := s4_in (fB t) (4 * (256 + t)) (sN t) (t := q % 4) (by omega)
        rw [← h1] at this
        exact this
      rw [h2]
      unfold fB
      rw [if_pos (by omega), show (q - 1024) / 4 = t by omega]
    · rw [s4_out _ (by omega)]
      unfold fB
      by_cases w2 : 1024 ≤ q ∧ q < 1024 + 4 * t
      · rw [if_pos w2, if_pos (by omega)]
      · rw [if_neg w2, if_neg (by omega)]
  · rw [va_up_n _ _ _ e]
    unfold fC
    rw [if_neg e, if_neg e]
theorem kFm2 : ∀ n t, t ≤ 8 → 8 - t < n → l_K_format_2 n (nI t) (ka (fC t)) = l_K_format_34 fb_n (0 : Int32) (ka (fC 8)) := by
  intro n
  induction n with
  | zero => intro t _ h; omega
  | succ n ih =>
    intro t ht hn
    show b_K_format_2 (l_K_format_2 n) (nI t) (ka (fC t)) = _
    unfold b_K_format_2
    by_cases e : t = 8
    · rw [e, if_pos (show (8 : Int32) ≤ nI 8 by decide)]
    · have e1 : (1024 : Int32) + (4 : Int32) * nI t = nI (4 * (256 + t)) := by
        show nI 1024 + nI 4 * nI t = _
        rw [pk_mul, nI_add, show 1024 + 4 * t = 4 * (256 + t) by omega]
      rw [if_neg (show ¬ (8 : Int32) ≤ nI t from nLe' (a := 8) (by omega) (by omega)), ld_nI (by omega) (by decide), Option.bind_some, e1, ← (sN_ok (i := t) (by omega)).1, kSetN _ (by omega), Option.bind_some, fC_s]
      show l_K_format_2 n (nI t + nI 1) _ = _
      rw [nI_add]
      exact ih (t + 1) (by omega) (by omega)
theorem ibx_U0 (i k : Nat) : ibx (U0 0) i k = 0 := by
  unfold ibx
  rw [U0_z 0 (by omega) (by omega), U0_z 0 (by omega) (by omega), U0_z 0 (by omega) (by omega), U0_z 0 (by omega) (by omega), U0_z 0 (by omega) (by omega), U0_z 0 (by omega) (by omega)]
  simp only [le_0, ite_self]
theorem mbx_U0 (k : Nat) : mbx (U0 0) k = 0 := by
  have z : ∀ x, U0 0 3 x = 0 := fun x => by rw [U0_3, if_neg (by omega)]
  unfold mbx
  rw [z, z, z, z, z, z, z, z]
theorem fB_n {q : Nat} (h : ¬ (1024 ≤ q ∧ q < 1056)) : fB 8 q = 0 := by
  unfold fB
  rw [if_neg (by omega)]
theorem fB_y {q : Nat} (h : 1024 ≤ q ∧ q < 1056) : fB 8 q = le (sN ((q - 1024) / 4)) (q % 4) := by
  unfold fB
  rw [if_pos (by omega)]
theorem db_U0 (q : Nat) : fB 8 q = db (U0 0) q := by
  unfold db
  by_cases h1 : q < 1024
  · rw [if_pos h1, fB_n (by omega)]
  · rw [if_neg h1]
    by_cases h2 : q < 1056
    · rw [if_pos h2, fB_y (by omega), U0_12]
    · rw [if_neg h2, fB_n (by omega), ibx_U0, mbx_U0, U0_z 0 (by omega) (by omega)]
      simp only [ite_self]
theorem fC_z {k : Nat} (h : k ≠ 0) : fC 8 k = fun _ => 0 := by
  unfold fC
  rw [if_neg h]
theorem U0_zf {k : Nat} (h : k ≠ 12) (h3 : k ≠ 3) : U0 0 k = fun _ => 0 := by
  funext x
  exact U0_z 0 h h3 x
theorem fB_lt (t q : Nat) : fB t q < 256 := by
  unfold fB
  split
  · exact le_lt _ _
  · omega
theorem rc_U0 : RC (fC 8) (U0 0) := by
  have e0 : fC 8 0 = fB 8 := rfl
  refine ⟨fun q _ => ?_, ?_, ?_, ?_, ?_, fun k q _ _ => ?_⟩
  · rw [e0]; exact db_U0 q
  · rw [fC_z (by omega), U0_zf (by omega) (by omega)]
  · rw [fC_z (by omega), U0_zf (by omega) (by omega)]
  · rw [fC_z (by omega), U0_zf (by omega) (by omega)]
  · rw [fC_z (by omega), U0_zf (by omega) (by omega)]
  · by_cases e : k = 0
    · rw [e, e0]; exact fB_lt 8 q
    · rw [fC_z e]
      show 0 < 256
      omega
theorem kFm34 : ∀ n t (c : fb_N), t ≤ 38 → 38 - t < n → RC c (U0 t) → ∃ c2, l_K_format_34 n (nI t) (ka c) = some (0, ka c2) ∧ RC c2 (U0 38) := by
  intro n
  induction n with
  | zero => intro t c _ h; omega
  | succ n ih =>
    intro t c ht hn h
    show ∃ c2, b_K_format_34 (l_K_format_34 n) (nI t) (ka c) = _ ∧ _
    unfold b_K_format_34
    by_cases e : t = 38
    · subst e
      rw [if_pos (show (38 : Int32) ≤ nI 38 by decide)]
      exact ⟨c, rfl, h⟩
    · have us : ∀ x, U0 t 3 x ≤ 1 := fun x => by rw [U0_3]; split <;> omega
      have h2 := rc3u h us (b := t) (v := 1) (by omega) (by omega)
      have h1 := kMark1u h us (b := t) (by omega)
      rw [U0_up] at h1 h2
      rw [if_neg (show ¬ (38 : Int32) ≤ nI t from nLe' (a := 38) (by omega) (by omega)), h1, Option.bind_some]
      obtain ⟨c2, g1, g2⟩ := ih (t + 1) _ (by omega) (by omega) h2
      rw [← nI_add t 1] at g1
      exact ⟨c2, g1, g2⟩
theorem kFm : ∃ c, f_K_format stT_0 = some (0, ka c) ∧ RC c (U0 38) := by
  obtain ⟨c2, g1, g2⟩ := kFm34 fb_n 0 (fC 8) (by omega) (by unfold fb_n; omega) rc_U0
  refine ⟨c2, ?_, g2⟩
  have h := kFm2 fb_n 0 (by omega) (by unfold fb_n; omega)
  rw [fC_0] at h
  rw [stT_ka]
  unfold f_K_format
  have h : l_K_format_2 fb_n (0 : Int32) (ka fun _ _ => 0) = _ := h
  rw [h]
  exact g1
theorem mIn : ∀ n t, t ≤ 39 → 39 - t < n → l_M_init_165 n (nI t) (mu (U0 (min t 38))) = (fb_st (mu (U0 38)) 4 64 (1 : Int32) (1 : Int32)).bind fun s2 => (f_M_begins (1 : Int32) (1 : Int32) s2).bind fun r3 => (fb_st r3.2 7 64 (1 : Int32) (2 : Int32)).bind fun s4 => some (0, s4) := by
  intro n
  induction n with
  | zero => intro t _ h; omega
  | succ n ih =>
    intro t ht hn
    show b_M_init_165 (l_M_init_165 n) (nI t) (mu (U0 (min t 38))) = _
    unfold b_M_init_165
    by_cases e : t = 39
    · subst e
      rw [if_pos (show (39 : Int32) ≤ nI 39 by decide)]
      rfl
    · rw [if_neg (show ¬ (39 : Int32) ≤ nI t from nLe' (a := 39) (by omega) (by omega))]
      have key : ∀ y v, y &&& 1 = nI v → up (U0 (min t 38)) 3 t v = U0 (min (t + 1) 38) → b_M_init_187 (l_M_init_165 n) (nI t) y (nI t) (mu (U0 (min t 38))) = (fb_st (mu (U0 38)) 4 64 (1 : Int32) (1 : Int32)).bind fun s2 => (f_M_begins (1 : Int32) (1 : Int32) s2).bind fun r3 => (fb_st r3.2 7 64 (1 : Int32) (2 : Int32)).bind fun s4 => some (0, s4) := by
        intro y v hy hv
        unfold b_M_init_187
        rw [hy, st_nI (by omega) (by decide), Option.bind_some, mu_i _ 3 _ _ (by decide), hv]
        show l_M_init_165 n (nI t + nI 1) _ = _
        rw [nI_add]
        exact ih (t + 1) (by omega) (by omega)
      by_cases w : t = 38
      · rw [if_pos (show (38 : Int32) ≤ nI t from by rw [w]; decide)]
        refine key 0 0 (by decide) ?_
        subst w
        exact up_id _ (by rw [U0_3, if_neg (by omega)])
      · rw [if_neg (show ¬ (38 : Int32) ≤ nI t from nLe' (a := 38) (by omega) (by omega))]
        refine key 1 1 (by decide) ?_
        rw [show min t 38 = t by omega, show min (t + 1) 38 = t + 1 by omega, U0_up]
theorem oS {A : fb_N} (h4 : ∀ x, A 4 x = if x = 1 then 1 else 0) (h7 : ∀ x, A 7 x ≤ 1) (h3 : ∀ x, A 3 x = if x < 38 then 1 else 0) (h12 : A 12 = sN) (h : ∀ k x, k ≠ 3 → k ≠ 4 → k ≠ 7 → k ≠ 12 → A k x = 0) : oA A ∧ BK A ∧ DM A ∧ isL A 38 ∧ 1 ≤ lf A := by
  have us : ∀ x, A 3 x ≤ 1 := fun x => by rw [h3]; split <;> omega
  have h10 : ∀ x, A 10 x = 0 := fun x => h 10 x (by omega) (by omega) (by omega) (by omega)
  refine ⟨⟨fun k q hk => ?_, fun i => ?_, fun i => ?_, fun i => ?_, fun i => ?_, fun i => ?_, fun i => ?_, fun i => ?_, fun i => ?_, us, ?_, ?_, fun i hi => ?_⟩, ⟨?_, ?_, ?_, ?_, ?_, ?_⟩, ?_, ⟨by omega, by omega, ?_, fun x _ _ => by omega⟩, ?_⟩
  · rw [h k q (by omega) (by omega) (by omega) (by omega)]; omega
  · rw [h4]
    by_cases e : i = 1
    · rw [if_pos e]; exact ⟨by omega, fun _ => rfl⟩
    · rw [if_neg e]; exact ⟨by omega, fun q => absurd q e⟩
  · rw [h 5 i (by omega) (by omega) (by omega) (by omega)]; omega
  · rw [h 6 i (by omega) (by omega) (by omega) (by omega)]; omega
  · have := h7 i; omega
  · rw [h 8 i (by omega) (by omega) (by omega) (by omega)]; omega
  · rw [h 9 i (by omega) (by omega) (by omega) (by omega)]; omega
  · rw [h10]; omega
  · rw [h 11 i (by omega) (by omega) (by omega) (by omega)]; omega
  · exact h 14 0 (by omega) (by omega) (by omega) (by omega)
  · rw [h 15 0 (by omega) (by omega) (by omega) (by omega)]; omega
  · rw [h12]; exact sN_ok hi
  · intro i k _ hv
    unfold vl at hv
    rw [h10] at hv
    omega
  · intro i k _ _ _
    exact h 11 _ (by omega) (by omega) (by omega) (by omega)
  · intro i k i2 k2 _ _ hv
    unfold vl at hv
    rw [h10] at hv
    omega
  · intro b hb
    rw [h3, if_pos hb]
  · intro i k t _ hv
    rw [h10] at hv
    omega
  · intro q _
    exact h 2 q (by omega) (by omega) (by omega) (by omega)
  · intro x _
    rw [h10, h 8 x (by omega) (by omega) (by omega) (by omega)]
  · rw [h3, if_neg (by omega)]
  · have h5 := sg_up (A 3) 511 1 512 (by omega)
    have h6 : sg (un1 (A 3) 511 1) 512 ≤ 512 := by
      refine sg_le 512 (fun x _ => ?_)
      unfold un1
      split
      · omega
      · exact us x
    have h8 : A 3 511 = 0 := by rw [h3, if_neg (by omega)]
    unfold lf
    omega
theorem Bg3_7 {G G2 : fb_N} {i d : Nat} (h : ∀ k, k ≠ 7 → G2 k = G k) : ∀ k, k ≠ 7 → Bg3 G2 i d k = Bg3 G i d k := by
  have key : ∀ (X Y : fb_N) (t n : Nat) (nm : Nat → Nat) (v : Nat), (∀ k, k ≠ 7 → Y k = X k) → ∀ k, k ≠ 7 → ePt Y i t n nm v k = ePt X i t n nm v k := by
    intro X Y t n nm v hXY k hk
    by_cases e2 : k = 2
    · subst e2
      rw [ePt_2, ePt_2, hXY 2 (by omega)]
      unfold pl
      rw [hXY 11 (by omega)]
    · by_cases e8 : k = 8
      · subst e8
        funext x
        rw [ePt_8, ePt_8, hXY 8 (by omega)]
      · rw [ePt_c _ _ _ _ _ _ e2 e8, ePt_c _ _ _ _ _ _ e2 e8, hXY k hk]
  intro k hk
  unfold Bg3
  rw [up_c _ hk, up_c _ hk]
  unfold Bg2
  refine key _ _ _ _ _ _ ?_ k hk
  unfold Bg1
  exact key _ _ _ _ _ _ h
theorem sg_z {f : Nat → Nat} : ∀ n, (∀ x, x < n → f x = 0) → sg f n = 0 := by
  intro n
  induction n with
  | zero => intro _; rfl
  | succ n ih =>
    intro h
    show sg f n + f n = 0
    rw [ih (fun x hx => h x (by omega)), h n (by omega)]
set_option maxRecDepth 20000 in
theorem start_ok : ∃ o o2 : Int32 × fb_S, b_T_init_57 stT_0 = some o ∧ b_M_init_163 stM_0 = some o2 ∧ sim 0 o.2 o2.2 := by
  obtain ⟨c1, f1, f2⟩ := kFm
  obtain ⟨c2, a1, a2, -⟩ := kMake f2 (i := 1) (by omega) (1 : Int32) (0 : Int32) (0 : Int32)
  rw [show un (1 : Int32) % 65536 = 1 by decide +kernel, show un (0 : Int32) % 65536 = 0 by decide +kernel] at a2
  -- the class's state before it begins, and the reference's
  obtain ⟨M, hM⟩ : ∃ M, M = MK (U0 38) 1 1 0 0 := ⟨_, rfl⟩
  obtain ⟨N, hN⟩ : ∃ N, N = up (U0 38) 4 1 1 := ⟨_, rfl⟩
  rw [← hM] at a2
  have mf : ∀ f x, (f = 4 ∨ f = 5 ∨ f = 6 ∨ f = 7) → M f x = if x = 1 then (if f = 4 then 1 else if f = 5 then 0 else if f = 6 then 0 else 1) else 0 := by
    intro f x hf
    rw [hM, MK_f _ _ _ _ _ _ hf, U0_z 38 (by omega) (by omega)]
  have mc : ∀ k, (k < 4 ∨ 7 < k) → M k = U0 38 k := fun k hk => by rw [hM, MK_c _ _ _ _ _ hk]
  have m4 : ∀ x, M 4 x = if x = 1 then 1 else 0 := fun x => by rw [mf 4 x (by omega)]; rfl
  have m7 : ∀ x, M 7 x = if x = 1 then 1 else 0 := fun x => by rw [mf 7 x (by omega)]; rfl
  have m3 : ∀ x, M 3 x = if x < 38 then 1 else 0 := fun x => by rw [mc 3 (by omega), U0_3]
  have m12 : M 12 = sN := by rw [mc 12 (by omega), U0_12]
  have mz : ∀ k x, k ≠ 3 → k ≠ 4 → k ≠ 7 → k ≠ 12 → M k x = 0 := by
    intro k x h3 h4 h7 h12
    by_cases e : k = 5 ∨ k = 6
    · rw [mf k x (by omega)]
      rcases e with e | e <;> rw [e] <;> simp
    · rw [mc k (by omega)]
      exact U0_z 38 h12 h3 x
  have nm : ∀ k, k ≠ 7 → N k = M k := by
    intro k hk
    funext x
    rw [hN]
    by_cases e : k = 4
    · subst e
      rw [m4]
      by_cases w : x = 1
      · rw [w, up_s, if_pos rfl]
      · rw [up_n _ (Or.inr w), if_neg w, U0_z 38 (by omega) (by omega)]
    · rw [up_c _ e]
      by_cases w : k = 3
      · rw [w, m3, U0_3]
      · by_cases w2 : k = 12
        · rw [w2, m12, U0_12]
        · rw [mz k x w e hk w2, U0_z 38 w2 w]
  have n7 : ∀ x, N 7 x = 0 := fun x => by rw [hN, up_c _ (by omega), U0_z 38 (by omega) (by omega)]
  obtain ⟨oM, BM, DMM, LM, lM⟩ := oS m4 (fun x => by rw [m7]; split <;> omega) m3 m12 mz
  obtain ⟨oN, BN, DMN, LN, lN⟩ := oS (A := N) (by rw [nm 4 (by omega)]; exact m4) (fun x => by rw [n7]; omega) (by rw [nm 3 (by omega)]; exact m3) (by rw [nm 12 (by omega)]; exact m12) (fun k x h3 h4 h7 h12 => by rw [nm k h7]; exact mz k x h3 h4 h7 h12)
  have m8 : M 8 1 = 0 := mz 8 1 (by omega) (by omega) (by omega) (by omega)
  have m10 : M 10 1 = 0 := mz 10 1 (by omega) (by omega) (by omega) (by omega)
  have n10 : N 10 1 = 0 := by rw [nm 10 (by omega)]; exact m10
  have m11 : M 11 (269 * 1 + 268) = 0 := mz 11 _ (by omega) (by omega) (by omega) (by omega)
  have n11 : N 11 (269 * 1 + 268) = 0 := by rw [nm 11 (by omega)]; exact m11
  obtain ⟨c3, g1, g3⟩ := kAdd a2 oM (i := 1) (by omega) LM (by omega) (by omega) lM (fun q => by omega)
  have g4 := oA_gA oM (i := 1) (b := 38) (by omega) (by omega)
  have g5 := gA_G (A := M) (i := 1) (b := 38) (by omega)
  have g6 : frG M 1 (M 10 1) (M 11 (269 * 1 + 268)) 38 := ⟨rfl, by omega, by omega, by omega, LM.2.2.1, fun q => by omega, fun _ => rfl⟩
  have hg := mGrow oN (i := 1) (by omega) LN (by omega) (by omega)
  have i4 := oA_gA oN (i := 1) (b := 38) (by omega) (by omega)
  have i5 := gA_G (A := N) (i := 1) (b := 38) (by omega)
  have i6 : frG N 1 (N 10 1) (N 11 (269 * 1 + 268)) 38 := ⟨rfl, by omega, by omega, by omega, LN.2.2.1, fun q => by omega, fun _ => rfl⟩
  generalize gA M 1 38 = G at *
  generalize gA N 1 38 = J at *
  have hBG := gBK BM oM.mn g5 g6 (by omega)
  have hBJ := gBK BN oN.mn i5 i6 (by omega)
  have hG10 : G 10 1 = M 10 1 + 1 := by rw [g5.2.1, if_pos rfl]
  have hJ10 : J 10 1 = N 10 1 + 1 := by rw [i5.2.1, if_pos rfl]
  have hlG := lf_G g4 g5 g6
  have hpl := G_pl oM BM g5 g6 (by omega)
  rw [m10, if_neg (by omega)] at hlG
  have u : ∀ k, k ≠ 2 → k ≠ 3 → k ≠ 10 → k ≠ 11 → G k = M k := g5.2.2.2.2
  have u2 : ∀ k, k ≠ 2 → k ≠ 3 → k ≠ 10 → k ≠ 11 → J k = N k := i5.2.2.2.2
  have hGx : ∀ x, x ≠ 1 → G 10 x = M 10 x := fun x hx => by rw [g5.2.1, if_neg hx]
  have hJG : ∀ k, k ≠ 7 → J k = G k := by
    rw [m10, m11] at g5
    rw [n10, n11] at i5
    intro k hk
    by_cases e2 : k = 2
    · subst e2
      funext q
      rw [g5.2.2.2.1, i5.2.2.2.1, nm 2 (by omega)]
    · by_cases e3 : k = 3
      · subst e3
        funext q
        rw [g5.1, i5.1, nm 3 (by omega)]
      · by_cases e10 : k = 10
        · subst e10
          funext q
          rw [g5.2.1, i5.2.1, nm 10 (by omega)]
        · by_cases e11 : k = 11
          · subst e11
            funext q
            rw [g5.2.2.1, i5.2.2.1, nm 11 (by omega)]
          · rw [u k e2 e3 e10 e11, u2 k e2 e3 e10 e11, nm k hk]
  have p1 : isP M (Bg1 G 1) 1 0 1 (dk 1) 1 := ePt_P DMM (by omega) (by omega) (fun k _ => dk_lt 1 k) u g4 hBG hpl hGx (by omega) (by omega) (by omega) (by omega) (by omega) hlG
  have s1 : Bg1 G 1 8 1 = 16 := by
    rw [p1.2.1, if_pos rfl]
    omega
  have t1 := p1.2.2.2.2.1 1 (by omega)
  have p2 : isP (Bg1 G 1) (Bg2 G 1 1) 1 1 1 (dk 2) 0 := ePt_P p1.2.2.2.2.1 (by omega) (by omega) (fun k _ => dk_lt 2 k) (fun _ _ _ _ _ => rfl) p1.2.2.1 p1.2.2.2.1 (fun _ _ _ _ => ⟨rfl, rfl⟩) (fun _ _ => rfl) (by omega) (Nat.le_refl _) (by omega) (by omega) (by omega) rfl
  have h7G : G 7 = M 7 := u 7 (by omega) (by omega) (by omega) (by omega)
  have h71 : G 7 1 = 1 := by rw [h7G, m7, if_pos rfl]
  obtain ⟨c4, k1, k2, -⟩ := kBegin a2 oM BM DMM (i := 1) (d := 1) (by omega) (by omega) (by omega) (by rw [m4, if_pos rfl]) m8 g1 g3 g4 hBG hG10 p1 p2 (by omega)
  have p1' := p1
  rw [hM] at p1'
  obtain ⟨w1, -, w3, -, w5, w6, -⟩ := Bg_rows (A := U0 38) (by omega) (U0_z 38 (by omega) (by omega) 1) p1' p2 (by rw [h7G, hM])
  rw [← hM] at w1
  have pv0 := pl_v i4 hBJ (d := 1) (s := 0) (by omega) (by omega)
  have pv1 := pl_v i4 hBJ (d := 1) (s := 1) (by omega) (by omega)
  have hmb := mBegins i4 (i := 1) (d := 1) (by omega) (by omega) hg pv0.2.1 pv1.2.1
  have l2 : ∀ q, dr (dr (J 13) 1 14) 2 14 q < 256 := dr_lt (dr_lt i4.nm 1 14) 2 14
  generalize dr (dr (J 13) 1 14) 2 14 = rw2 at hmb l2
  have oP : oA (Bg3 G 1 1) := oA_7 p2.2.2.1 (by omega)
  have BP : BK (Bg3 G 1 1) := p2.2.2.2.1.cg (up_c _ (by omega)) (up_c _ (by omega)) (up_c _ (by omega)) (up_c _ (by omega))
  have MP : DM (Bg3 G 1 1) := by
    intro x hx
    have e10 : Bg3 G 1 1 10 = Bg2 G 1 1 10 := up_c _ (by omega)
    have e8 : Bg3 G 1 1 8 = Bg2 G 1 1 8 := up_c _ (by omega)
    rw [e10, e8]
    exact p2.2.2.2.2.1 x hx
  have b7 : ∀ (Y : fb_N) x, Bg3 Y 1 1 7 x = if x = 1 then Y 7 1 + 1 else Y 7 x := by
    intro Y x
    unfold Bg3
    by_cases e : x = 1
    · rw [if_pos e, e, up_s]
    · rw [if_neg e, up_n _ (Or.inr e)]
      unfold Bg2 Bg1
      rw [ePt_c _ _ _ _ _ _ (by omega) (by omega), ePt_c _ _ _ _ _ _ (by omega) (by omega)]
  have P7 : ∀ x, Bg3 G 1 1 7 x = if x = 1 then 2 else 0 := by
    intro x
    rw [b7, h71, h7G, m7]
    split <;> rfl
  have hJP := Bg3_7 (i := 1) (d := 1) hJG
  have hF : of3 (Bg3 G 1 1) (up (va_up (Bg3 J 1 1) 13 rw2) 7 1 2) := by
    intro k h13 _ _
    by_cases e : k = 7
    · subst e
      funext x
      rw [P7]
      by_cases w : x = 1
      · rw [w, up_s, if_pos rfl]
      · rw [if_neg w, up_n _ (Or.inr w), va_up_n _ _ _ (by omega), b7, if_neg w, u2 7 (by omega) (by omega) (by omega) (by omega), n7]
    · rw [up_c _ e, va_up_n _ _ _ h13, hJP k e]
  have P4 : ∀ x, Bg3 G 1 1 4 x = if x = 1 then 1 else 0 := fun x => by rw [w1 4 (by omega) (by omega) (by omega) (by omega) (by omega) (by omega)]; exact m4 x
  have P8 : ∀ x, Bg3 G 1 1 8 x = if x = 1 then 32 else 0 := fun x => by rw [w3, U0_z 38 (by omega) (by omega)]
  have Pz : ∀ k x, (k = 5 ∨ k = 6 ∨ k = 9) → Bg3 G 1 1 k x = 0 := fun k x hk => by rw [w1 k (by omega) (by omega) (by omega) (by omega) (by omega) (by omega)]; exact mz k x (by omega) (by omega) (by omega) (by omega)
  have enP : ∀ {x s}, en (Bg3 G 1 1) x s → x = 1 ∧ nu (Bg3 G 1 1) 1 (16 * s) = 1 ∧ dt (Bg3 G 1 1) 1 (16 * s) := by
    intro x s he
    obtain ⟨h1, h2, h3⟩ := he
    have hx : x = 1 := by
      rw [P4] at h2
      by_cases w : x = 1
      · exact w
      · rw [if_neg w] at h2; omega
    rw [P8, if_pos hx] at h3
    refine ⟨hx, ?_⟩
    rcases (show s = 0 ∨ s = 1 by omega) with w | w
    · rw [w]; exact w5
    · rw [w]; exact w6
  have hIV : IV 0 (Bg3 G 1 1) := by
    refine ⟨oP, BP, ⟨fun x hx hq => ?_, ?_, MP, fun x hx hq => ?_⟩, fun x s he => ?_, fun x hx h0 => ?_, fun x => ?_⟩
    · rw [P4] at hq
      have hx1 : x ≠ 1 := fun w => by rw [if_pos w] at hq; omega
      rw [Pz 5 x (by omega), Pz 6 x (by omega), Pz 9 x (by omega), P7, P8, if_neg hx1, if_neg hx1]
      exact ⟨rfl, rfl, rfl, rfl, rfl⟩
    · rw [P4, if_neg (by omega)]
    · rw [P4] at hq
      have hx1 : x = 1 := by
        by_cases w : x = 1
        · exact w
        · rw [if_neg w] at hq; omega
      rw [P8, if_pos hx1]
      omega
    · obtain ⟨hx, h1, h2⟩ := enP he
      rw [hx, h1]
      exact ⟨by omega, fun _ => h2, fun _ q => absurd rfl q⟩
    · have hc : cn (Bg3 G 1 1) x = 0 := by
        unfold cn
        refine sg_z 64 (fun y _ => sg_z 17152 (fun s _ => ?_))
        unfold cn1
        refine if_neg (fun q => ?_)
        obtain ⟨q1, q2, q3⟩ := q
        obtain ⟨hy, h1, -⟩ := enP q1
        rw [hy, h1] at q3
        exact q2 (by rw [hy, q3])
      rw [hc, P7]
      split <;> omega
    · rw [P7, Pz 9 x (by omega)]
      split <;> omega
  refine ⟨(0, ka c4), (0, mu (up (va_up (Bg3 J 1 1) 13 rw2) 7 1 2)), ?_, ?_, c4, _, rfl, rfl, rc_o3 k2 hF, hIV.ofs (fun k h13 _ h16 h17 => hF k h13 h16 h17) (fun q => by rw [up_c _ (by omega), va_up_s]; exact l2 q) (by rw [hF 15 (by omega) (by omega) (by omega)]; exact oP.ty)⟩
  · unfold b_T_init_57
    have a1 : f_I_make (1 : Int32) (1 : Int32) (0 : Int32) (0 : Int32) (ka c1) = some (0, ka c2) := a1
    have k1 : f_D_begin (1 : Int32) (1 : Int32) (ka c2) = some (0, ka c4) := k1
    rw [f1, Option.bind_some, a1, Option.bind_some, k1, Option.bind_some]
  · unfold b_M_init_163
    rw [stM_mu]
    have h := mIn fb_n 0 (by omega) (by unfold fb_n; omega)
    have h : l_M_init_165 fb_n (0 : Int32) (mu (U0 0)) = _ := h
    rw [h]
    have e1 : fb_st (mu (U0 38)) 4 64 (1 : Int32) (1 : Int32) = some (mu N) := by
      show fb_st (mu (U0 38)) 4 64 (nI 1) (nI 1) = _
      rw [st_nI (by omega) (by decide), mu_i _ 4 _ _ (by decide), hN]
    have e2 : f_M_begins (1 : Int32) (1 : Int32) (mu N) = some (0, mu (va_up (Bg3 J 1 1) 13 rw2)) := hmb
    have e3 : fb_st (mu (va_up (Bg3 J 1 1) 13 rw2)) 7 64 (1 : Int32) (2 : Int32) = some (mu (up (va_up (Bg3 J 1 1) 13 rw2) 7 1 2)) := by
      show fb_st (mu (va_up (Bg3 J 1 1) 13 rw2)) 7 64 (nI 1) (nI 2) = _
      rw [st_nI (by omega) (by decide), mu_i _ 7 _ _ (by decide)]
    rw [e1, Option.bind_some, e2, Option.bind_some, e3, Option.bind_some]

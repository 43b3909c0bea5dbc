/-! a file gets one block more -/
def pn (B : Nat → Nat) (p n v : Nat) : Nat → Nat := fun q => if p ≤ q ∧ q < p + n then le v (q - p) else B q
theorem s4_pn (B : Nat → Nat) (p v : Nat) : s4 B p v = pn B p 4 v := by
  funext q
  unfold pn
  by_cases h : p ≤ q ∧ q < p + 4
  · rw [if_pos h, show q = p + (q - p) by omega, s4_in B p v (by omega), show p + (q - p) - p = q - p by omega]
  · rw [if_neg h, s4_out B (by omega)]
theorem le_lt (v k : Nat) : le v k < 256 := Nat.mod_lt _ (by omega)
theorem pn_b {B : Nat → Nat} (hB : ∀ q, B q < 256) (p n v q : Nat) : pn B p n v q < 256 := by
  unfold pn
  have h1 := hB q
  have h2 := le_lt v (q - p)
  split <;> omega
theorem mPutL (A : fb_N) {p m v : Nat} (hm : m ≤ 4) (hp : p + m ≤ 524288) (hv : v < 2147483648) : ∀ n t, t ≤ m → m - t < n → l_M_putNumber_3 n (nI p) (nI m) (nI v) (nI t) (mu (va_up A 2 (pn (A 2) p t v))) = some (0, mu (va_up A 2 (pn (A 2) p m v))) := by
  intro n
  induction n with
  | zero => intro t _ h; omega
  | succ n ih =>
    intro t ht hn
    show b_M_putNumber_3 (l_M_putNumber_3 n) (nI p) (nI m) (nI v) (nI t) _ = _
    unfold b_M_putNumber_3
    by_cases e : t = m
    · subst e
      rw [if_pos (by rw [nLe (by omega) (by omega)]; omega)]
    · rw [if_neg (by rw [nLe (by omega) (by omega)]; omega), nI_add, st_nI (by omega) (by omega), Option.bind_some]
      have e1 : fb_b (fb_b (nI v >>> (((8 : Int32) * nI t) &&& 31))) = bs (le v t) := by
        show fb_b (fb_b (nI v >>> ((nI 8 * nI t) &&& 31))) = _
        rw [fb_bb, pk_mul, pk_shrN (by omega) (nI (8 * t) &&& 31) (8 * t) (s_l (8 * t) (by omega)), bs_m]
        unfold le
        rw [Nat.pow_mul, show (2 ^ 8 : Nat) = 256 by rfl]
      rw [e1, mu_b _ 2 _ _ (by omega)]
      have e2 : up (va_up A 2 (pn (A 2) p t v)) 2 (p + t) (le v t) = va_up A 2 (pn (A 2) p (t + 1) v) := by
        funext k q
        by_cases hk : k = 2
        · subst hk
          rw [va_up_s]
          unfold pn
          by_cases hq : q = p + t
          · rw [hq, up_s, if_pos (by omega), show p + t - p = t by omega]
          · rw [up_n _ (Or.inr hq), va_up_s]
            by_cases z : p ≤ q ∧ q < p + t
            · rw [if_pos z, if_pos (by omega)]
            · rw [if_neg z, if_neg (by omega)]
        · rw [up_n _ (Or.inl hk), va_up_n _ _ _ hk, va_up_n _ _ _ hk]
      rw [e2]
      have h1 := ih (t + 1) (by omega) (by omega)
      rw [← nI_add t 1] at h1
      exact h1
theorem pn_0 (A : fb_N) (p v : Nat) : va_up A 2 (pn (A 2) p 0 v) = A := by
  funext k q
  by_cases hk : k = 2
  · subst hk
    rw [va_up_s]
    unfold pn
    rw [if_neg (by omega)]
  · rw [va_up_n _ _ _ hk]
theorem mPut (A : fb_N) {p m v : Nat} (hm : m ≤ 4) (hp : p + m ≤ 524288) (hv : v < 2147483648) : f_M_putNumber (nI p) (nI m) (nI v) (mu A) = some (0, mu (va_up A 2 (pn (A 2) p m v))) := by
  have h := mPutL A hm hp hv fb_n 0 (by omega) (by unfold fb_n; omega)
  rw [pn_0] at h
  exact h
/-- the number of block k is told, k blocks being there; the count grows -/
def gA (A : fb_N) (i b : Nat) : fb_N := if A 10 i < 12 then up (up (tk A b) 11 (269 * i + A 10 i) b) 10 i (A 10 i + 1) else up (va_up (up (tk A b) 11 (269 * i + A 10 i) b) 2 (pn (tk A b 2) (1024 * A 11 (269 * i + 268) + 4 * (A 10 i - 12)) 4 b)) 10 i (A 10 i + 1)
theorem tk_c (A : fb_N) (b : Nat) {j : Nat} (h2 : j ≠ 2) (h3 : j ≠ 3) : tk A b j = A j := by
  unfold tk
  rw [va_up_n _ _ _ h2, up_c _ h3]
theorem mGrow31 {A : fb_N} (o : oA A) {i b : Nat} (hi : i < 64) (hb : isL A b) (hk : A 10 i < 268) : b_M_grow_31 (nI i) (nI (A 10 i)) (mu A) = some (0, mu (gA A i b)) := by
  have hbl := o.bl (269 * i + 268)
  have hb2 := hb.2.1
  unfold b_M_grow_31 b_M_grow_95 gA
  rw [mTake o hb, Option.bind_some]
  simp only [il]
  rw [pk_mul, nI_add, nI_add, st_nI (by omega) (by omega), Option.bind_some, mu_i _ 11 _ _ (by decide)]
  have e10 : ∀ X : fb_N, X 10 i = A 10 i → ((fb_ld (mu X 10) 64 (nI i)).bind fun v1 => (fb_st (mu X) 10 64 (nI i) (v1 + nI 1)).bind fun s2 => some (nI 0, s2)) = some (0, mu (up X 10 i (A 10 i + 1))) := by
    intro X hX
    rw [ld_nI hi (by omega), Option.bind_some, mu_10, hX, nI_add, st_nI hi (by omega), Option.bind_some, mu_i _ 10 _ _ (by decide)]
    rfl
  by_cases h : A 10 i < 12
  · rw [if_pos (by rw [nLt (by omega) (by omega)]; exact h), if_pos h]
    exact e10 _ (by rw [up_c _ (by omega), tk_c _ _ (by omega) (by omega)])
  · have e268 : up (tk A b) 11 (269 * i + A 10 i) b 11 (269 * i + 268) = A 11 (269 * i + 268) := by rw [up_n _ (by omega), tk_c _ _ (by omega) (by omega)]
    rw [if_neg (by rw [nLt (by omega) (by omega)]; exact h), if_neg h, ld_nI (by omega) (by omega), Option.bind_some, ld_nI (by omega) (by omega), Option.bind_some, mu_11, mu_11, up_s, e268, pk_mul, nSub (by omega), pk_mul, nI_add, mPut _ (by omega) (by omega) (by omega), Option.bind_some, up_c _ (show 2 ≠ 11 by omega)]
    exact e10 _ (by rw [va_up_n _ _ _ (by omega), up_c _ (by omega), tk_c _ _ (by omega) (by omega)])
theorem mGrow {A : fb_N} (o : oA A) {i b : Nat} (hi : i < 64) (hb : isL A b) (hk : A 10 i < 268) (h12 : A 10 i ≠ 12) : f_M_grow (nI i) (mu A) = some (0, mu (gA A i b)) := by
  unfold f_M_grow
  rw [ld_nI hi (by omega), Option.bind_some, mu_10, if_neg (show ¬ nI (A 10 i) = 12 from fun q => h12 ((nEq (b := 12) (by omega) (by omega)).mp q)), mGrow31 o hi hb hk]
theorem oA_11 {A : fb_N} (o : oA A) {q v : Nat} (hv : v < 512) : oA (up A 11 q v) := by
  have u : ∀ j, j ≠ 11 → up A 11 q v j = A j := fun j hj => up_c A hj
  obtain ⟨g1, g2, g3, g4, g5, g6, g7, g8, g9, g10, g11, g12, g13⟩ := o
  refine ⟨fun k q hk => by rw [u k (by omega)]; exact g1 k q hk, by rw [u 4 (by omega)]; exact g2, by rw [u 5 (by omega)]; exact g3, by rw [u 6 (by omega)]; exact g4, by rw [u 7 (by omega)]; exact g5, by rw [u 8 (by omega)]; exact g6, by rw [u 9 (by omega)]; exact g7, by rw [u 10 (by omega)]; exact g8, ?_, by rw [u 3 (by omega)]; exact g10, by rw [u 14 (by omega)]; exact g11, by rw [u 15 (by omega)]; exact g12, by rw [u 12 (by omega)]; exact g13⟩
  intro x
  by_cases e : x = q
  · rw [e, up_s]; exact hv
  · rw [up_n _ (Or.inr e)]; exact g9 x
theorem oA_10 {A : fb_N} (o : oA A) {q v : Nat} (hv : v ≤ 268) : oA (up A 10 q v) := by
  have u : ∀ j, j ≠ 10 → up A 10 q v j = A j := fun j hj => up_c A hj
  obtain ⟨g1, g2, g3, g4, g5, g6, g7, g8, g9, g10, g11, g12, g13⟩ := o
  refine ⟨fun k q hk => by rw [u k (by omega)]; exact g1 k q hk, by rw [u 4 (by omega)]; exact g2, by rw [u 5 (by omega)]; exact g3, by rw [u 6 (by omega)]; exact g4, by rw [u 7 (by omega)]; exact g5, by rw [u 8 (by omega)]; exact g6, by rw [u 9 (by omega)]; exact g7, ?_, by rw [u 11 (by omega)]; exact g9, by rw [u 3 (by omega)]; exact g10, by rw [u 14 (by omega)]; exact g11, by rw [u 15 (by omega)]; exact g12, by rw [u 12 (by omega)]; exact g13⟩
  intro x
  by_cases e : x = q
  · rw [e, up_s]; exact hv
  · rw [up_n _ (Or.inr e)]; exact g8 x
theorem oA_gA {A : fb_N} (o : oA A) {i b : Nat} (hb : b < 512) (hk : A 10 i < 268) : oA (gA A i b) := by
  unfold gA
  split
  · exact oA_10 (oA_11 (oA_tk o b) hb) (by omega)
  · exact oA_10 (oA_2 (oA_11 (oA_tk o b) hb) _ (pn_b (oA_tk o b).dk _ _ _)) (by omega)
/-- with the block of numbers first -/
def hA (A : fb_N) (i b : Nat) : fb_N := up (tk A b) 11 (269 * i + 268) b
theorem mGrow12 {A : fb_N} (o : oA A) {i b1 b2 : Nat} (hi : i < 64) (hb1 : isL A b1) (h12 : A 10 i = 12) (hb2 : isL (hA A i b1) b2) : f_M_grow (nI i) (mu A) = some (0, mu (gA (hA A i b1) i b2)) := by
  have e10 : hA A i b1 10 i = 12 := by unfold hA; rw [up_c _ (by omega), tk_c _ _ (by omega) (by omega), h12]
  have o2 : oA (hA A i b1) := oA_11 (oA_tk o b1) hb1.2.1
  have h := mGrow31 o2 hi hb2 (by omega)
  rw [e10] at h
  unfold f_M_grow
  rw [ld_nI hi (by omega), Option.bind_some, mu_10, h12, if_pos (show nI 12 = 12 from rfl), mTake o hb1, Option.bind_some]
  simp only [il]
  rw [pk_mul, nI_add, st_nI (by omega) (by omega), Option.bind_some, mu_i _ 11 _ _ (by decide)]
  exact h
/-! the class -/
theorem kSlotD (c : fb_N) {i k : Nat} (hi : i < 64) (hk : k < 12) : f_I_slotOf (nI i) (nI k) (ka c) = some (nI (33792 + 64 * i + (12 + 4 * k)), ka c) := by
  unfold f_I_slotOf
  rw [iIs _ hi, Option.bind_some, if_neg n01]
  simp only [il]
  rw [if_neg (nI_lt0 (by omega)), if_pos (by rw [nLt (by omega) (by omega)]; omega), if_neg (by rw [nLe (by omega) (by omega)]; omega), iPl, Option.bind_some, nI_add, pk_mul, nI_add, Nat.add_assoc]
theorem kMore {c A : fb_N} (h : RC c A) (o : oA A) {i : Nat} (hi : i < 64) : f_K_numberAt (nI (33792 + 64 * i) + nI 60) (ka c) = some (nI (A 11 (269 * i + 268)), ka c) :=
  rd32 h hi (by omega) (by omega) (fun t ht => by rcases (show t = 0 ∨ t = 1 ∨ t = 2 ∨ t = 3 by omega) with rfl | rfl | rfl | rfl <;> rfl) (by have := o.bl (269 * i + 268); omega)
theorem kSlotN {c A : fb_N} (h : RC c A) (o : oA A) {i k : Nat} (hi : i < 64) (hk : 12 ≤ k) (hk2 : k < 268) : f_I_slotOf (nI i) (nI k) (ka c) = some (if A 11 (269 * i + 268) = 0 then -1 else nI (1024 * A 11 (269 * i + 268) + 4 * (k - 12)), ka c) := by
  have hbl := o.bl (269 * i + 268)
  unfold f_I_slotOf
  rw [iIs _ hi, Option.bind_some, if_neg n01]
  simp only [il]
  rw [if_neg (nI_lt0 (by omega)), if_pos (by rw [nLt (by omega) (by omega)]; omega), if_pos (by rw [nLe (by omega) (by omega)]; omega), iPl, Option.bind_some, kMore h o hi, Option.bind_some]
  by_cases z : A 11 (269 * i + 268) = 0
  · rw [if_pos z, z, if_pos rfl]
  · rw [if_neg z, if_neg (by rw [nEq (by omega) (by omega)]; exact z), pk_mul, nSub (by omega), pk_mul, nI_add, Nat.mul_comm _ 1024]
theorem k52 {c A : fb_N} (h : RC c A) (o : oA A) {i b : Nat} (hi : i < 64) (hb : isL A b) (hk : A 10 i < 268) (h3 : 12 ≤ A 10 i → 38 ≤ A 11 (269 * i + 268)) : ∃ c2, b_I_addBlock_52 (nI i) (nI (A 10 i)) (ka c) = some (1, ka c2) ∧ RC c2 (gA A i b) := by
  have hbl := o.bl (269 * i + 268)
  obtain ⟨c1, hc1, hR1⟩ := kTake h o hb
  unfold b_I_addBlock_52 gA
  by_cases hd : A 10 i < 12
  · rw [kSlotD c hi hd, Option.bind_some, hc1, Option.bind_some]
    show ∃ c2, (f_K_setNumber (nI (33792 + 64 * i + (12 + 4 * A 10 i))) (nI b) (ka c1)).bind _ = _ ∧ _
    rw [show 33792 + 64 * i + (12 + 4 * A 10 i) = 4 * ((33792 + 64 * i + (12 + 4 * A 10 i)) / 4) by omega, kSetN c1 (by omega), Option.bind_some, ← show 33792 + 64 * i + (12 + 4 * A 10 i) = 4 * ((33792 + 64 * i + (12 + 4 * A 10 i)) / 4) by omega, if_pos hd]
    exact ⟨_, rz1 _, rcX (rc11 hR1 hi hd b) (by omega)⟩
  · have h38 := h3 (by omega)
    rw [kSlotN h o hi (by omega) hk, Option.bind_some, if_neg (by omega), hc1, Option.bind_some]
    show ∃ c2, (f_K_setNumber (nI (1024 * A 11 (269 * i + 268) + 4 * (A 10 i - 12))) (nI b) (ka c1)).bind _ = _ ∧ _
    rw [show 1024 * A 11 (269 * i + 268) + 4 * (A 10 i - 12) = 4 * ((1024 * A 11 (269 * i + 268) + 4 * (A 10 i - 12)) / 4) by omega, kSetN c1 (by omega), Option.bind_some, ← show 1024 * A 11 (269 * i + 268) + 4 * (A 10 i - 12) = 4 * ((1024 * A 11 (269 * i + 268) + 4 * (A 10 i - 12)) / 4) by omega, if_neg hd]
    refine ⟨_, rz1 _, rcX ?_ (by omega)⟩
    rw [s4_pn]
    have e2 : up (tk A b) 11 (269 * i + A 10 i) b 2 = tk A b 2 := up_c _ (by omega)
    refine rcB (rc11x hR1 (by omega) hk) _ _ (fun q => ⟨fun hq => ?_, fun h1 h2 => ?_⟩) (pn_b hR1.w.b _ _ _)
    · unfold pn
      rw [if_neg (by omega)]
    · unfold pn
      by_cases z : 1024 * A 11 (269 * i + 268) + 4 * (A 10 i - 12) ≤ q ∧ q < 1024 * A 11 (269 * i + 268) + 4 * (A 10 i - 12) + 4
      · rw [if_pos z, if_pos z]
      · rw [if_neg z, if_neg z, hR1.x h1 h2]
theorem kToAdd (st : fb_S) {k : Nat} (hk : k < 2147483648) : f_I_blocksToAdd (nI k) st = some (nI (if k = 12 then 2 else 1), st) := by
  unfold f_I_blocksToAdd
  simp only [il]
  by_cases h : k = 12
  · rw [if_pos (by rw [h]), if_pos h]
  · rw [if_neg (by rw [nEq (by omega) (by omega)]; exact h), if_neg h]
theorem lf_le {A : fb_N} : lf A ≤ 512 := by unfold lf; omega
theorem kAddNo {c A : fb_N} (h : RC c A) (o : oA A) {i k : Nat} (hk : k < 268) (hf : lf A < (if k = 12 then 2 else 1)) : f_I_addBlock (nI i) (nI k) (ka c) = some (0, ka c) := by
  have hl := lf_le (A := A)
  unfold f_I_addBlock
  rw [if_neg (show ¬ (268 : Int32) ≤ nI k from nLe' (a := 268) hk (by omega)), kToAdd _ (by omega), Option.bind_some, kFree h o, Option.bind_some, if_neg (show ¬ nI _ ≤ nI (lf A) from nLe' hf (by split <;> omega)), rz0]
theorem kAdd {c A : fb_N} (h : RC c A) (o : oA A) {i b : Nat} (hi : i < 64) (hb : isL A b) (hk : A 10 i < 268) (h12 : A 10 i ≠ 12) (hf : 1 ≤ lf A) (h3 : 12 ≤ A 10 i → 38 ≤ A 11 (269 * i + 268)) : ∃ c2, f_I_addBlock (nI i) (nI (A 10 i)) (ka c) = some (1, ka c2) ∧ RC c2 (gA A i b) := by
  have hl := lf_le (A := A)
  unfold f_I_addBlock
  rw [if_neg (show ¬ (268 : Int32) ≤ nI (A 10 i) from nLe' (a := 268) hk (by omega)), kToAdd _ (by omega), Option.bind_some, kFree h o, Option.bind_some, if_neg h12, if_pos (show nI 1 ≤ nI (lf A) from (nLe (by omega) (by omega)).mpr hf), if_neg (show ¬ nI (A 10 i) = 12 from fun q => h12 ((nEq (b := 12) (by omega) (by omega)).mp q))]
  exact k52 h o hi hb hk h3
theorem kAdd12 {c A : fb_N} (h : RC c A) (o : oA A) {i b1 b2 : Nat} (hi : i < 64) (hb1 : isL A b1) (h12 : A 10 i = 12) (hb2 : isL (hA A i b1) b2) (hf : 2 ≤ lf A) : ∃ c2, f_I_addBlock (nI i) (nI 12) (ka c) = some (1, ka c2) ∧ RC c2 (gA (hA A i b1) i b2) := by
  have hl := lf_le (A := A)
  have hl1 := hb1.2.1
  obtain ⟨c1, hc1, hR1⟩ := kTake h o hb1
  have e10 : hA A i b1 10 i = 12 := by unfold hA; rw [up_c _ (by omega), tk_c _ _ (by omega) (by omega), h12]
  have o2 : oA (hA A i b1) := oA_11 (oA_tk o b1) hl1
  unfold f_I_addBlock
  rw [if_neg (show ¬ (268 : Int32) ≤ nI 12 by decide), kToAdd _ (by omega), Option.bind_some, kFree h o, Option.bind_some, if_pos rfl, if_pos (show nI 2 ≤ nI (lf A) from (nLe (by omega) (by omega)).mpr hf), if_pos (show nI 12 = 12 from rfl), iPl, Option.bind_some, hc1, Option.bind_some]
  show ∃ c2, (f_K_setNumber (nI (33792 + 64 * i) + nI 60) (nI b1) (ka c1)).bind _ = _ ∧ _
  rw [nI_add, show 33792 + 64 * i + 60 = 4 * ((33792 + 64 * i + 60) / 4) by omega, kSetN c1 (by omega), Option.bind_some, ← show 33792 + 64 * i + 60 = 4 * ((33792 + 64 * i + 60) / 4) by omega]
  have hR2 : RC _ (hA A i b1) := rc11n hR1 hi b1
  have key := k52 hR2 o2 hi hb2 (by omega) (fun _ => by unfold hA; rw [up_s]; exact hb1.1)
  rw [e10] at key
  exact key

/-! a file's blocks become free -/
def BK0 (A : fb_N) : Prop := (∀ i k, i < 64 → vl A i k → 38 ≤ A 11 (269 * i + k)) ∧ (∀ i k, i < 64 → k < 269 → ¬ vl A i k → A 11 (269 * i + k) = 0) ∧ (∀ i k t, i < 64 → 12 < A 10 i → 12 ≤ k → k < 268 → t < 4 → A 2 (1024 * A 11 (269 * i + 268) + 4 * (k - 12) + t) = le (A 11 (269 * i + k)) t)
theorem BK.z {A : fb_N} (h : BK A) : BK0 A := ⟨fun i k hi hv => (h.1 i k hi hv).1, h.2.1, h.2.2.2.2.1⟩
theorem BK0.cg {A B : fb_N} (h : BK0 A) (e2 : B 2 = A 2) (e10 : B 10 = A 10) (e11 : B 11 = A 11) : BK0 B := by
  unfold BK0 vl at *
  rw [e2, e10, e11]
  exact h
theorem kSlotNum0 {c A : fb_N} (h : RC c A) (o : oA A) (hB : BK0 A) {i k : Nat} (hi : i < 64) (hk : k < 268) : ((f_I_slotOf (nI i) (nI k) (ka c)).bind fun r => f_K_numberAt r.1 r.2) = some (nI (A 11 (269 * i + k)), ka c) := by
  have hbl := o.bl (269 * i + 268)
  have hbk := o.bl (269 * i + k)
  by_cases hd : k < 12
  · rw [kSlotD c hi hd, Option.bind_some]
    show f_K_numberAt (nI (33792 + 64 * i + (12 + 4 * k))) (ka c) = _
    rw [← nI_add (33792 + 64 * i) (12 + 4 * k)]
    refine rd32 h hi (by omega) (by omega) (fun t ht => ?_) (by omega)
    unfold ibx
    rw [if_neg (by omega), if_neg (by omega), if_neg (by omega), if_neg (by omega), if_neg (by omega), show (12 + 4 * k + t) / 4 - 3 = k by omega, if_pos hd, show (12 + 4 * k + t) % 4 = t by omega]
  · rw [kSlotN h o hi (by omega) hk, Option.bind_some]
    by_cases z : A 11 (269 * i + 268) = 0
    · rw [if_pos z]
      have hm : ¬ 12 < A 10 i := fun q => by
        have := hB.1 i 268 hi (Or.inr ⟨rfl, q⟩)
        omega
      rw [hB.2.1 i k hi (by omega) (by unfold vl; omega)]
      show f_K_numberAt (-1) (ka c) = _
      rw [kNumN]
      rfl
    · rw [if_neg z]
      have hm : 12 < A 10 i := by
        rcases Nat.lt_or_ge 12 (A 10 i) with q | q
        · exact q
        · exact absurd (hB.2.1 i 268 hi (by omega) (by unfold vl; omega)) z
      have h38 := hB.1 i 268 hi (Or.inr ⟨rfl, hm⟩)
      show f_K_numberAt (nI (1024 * A 11 (269 * i + 268) + 4 * (k - 12))) (ka c) = _
      have g : ∀ t, t < 4 → c 0 (1024 * A 11 (269 * i + 268) + 4 * (k - 12) + t) = le (A 11 (269 * i + k)) t := fun t ht => by
        rw [h.x (by omega) (by omega), hB.2.2 i k t hi hm (by omega) hk ht]
      have e := wo_le (B := c 0) (q := 1024 * A 11 (269 * i + 268) + 4 * (k - 12)) (v := A 11 (269 * i + k)) (by omega) (g 0 (by omega)) (g 1 (by omega)) (g 2 (by omega)) (g 3 (by omega)) (by omega)
      rw [show 1024 * A 11 (269 * i + 268) + 4 * (k - 12) = 4 * ((1024 * A 11 (269 * i + 268) + 4 * (k - 12)) / 4) by omega, kNum c (by omega), e]
/-- the map without the first k blocks of i -/
def eV (A : fb_N) (i : Nat) : Nat → Nat → Nat
  | 0 => A 3
  | k + 1 => if A 11 (269 * i + k) = 0 then eV A i k else un1 (eV A i k) (A 11 (269 * i + k)) 0
theorem eV_01 {A : fb_N} (i : Nat) : ∀ k x, eV A i k x = A 3 x ∨ eV A i k x = 0 := by
  intro k
  induction k with
  | zero => intro x; exact Or.inl rfl
  | succ k ih =>
    intro x
    show (if A 11 (269 * i + k) = 0 then eV A i k else un1 (eV A i k) (A 11 (269 * i + k)) 0) x = _ ∨ (if A 11 (269 * i + k) = 0 then eV A i k else un1 (eV A i k) (A 11 (269 * i + k)) 0) x = 0
    split
    · exact ih x
    · unfold un1
      split
      · exact Or.inr rfl
      · exact ih x
theorem eV_n {A : fb_N} (i : Nat) : ∀ k x, (∀ y, y < k → A 11 (269 * i + y) ≠ 0 → A 11 (269 * i + y) ≠ x) → eV A i k x = A 3 x := by
  intro k
  induction k with
  | zero => intro x _; rfl
  | succ k ih =>
    intro x h
    show (if A 11 (269 * i + k) = 0 then eV A i k else un1 (eV A i k) (A 11 (269 * i + k)) 0) x = _
    split
    · exact ih x (fun y hy => h y (by omega))
    · rename_i z
      rw [un1_n _ _ (fun q => h k (by omega) z q.symm)]
      exact ih x (fun y hy => h y (by omega))
theorem oA_eV {A : fb_N} (o : oA A) (i k : Nat) : oA (va_up A 3 (eV A i k)) := by
  obtain ⟨g1, g2, g3, g4, g5, g6, g7, g8, g9, g10, g11, g12, g13⟩ := o
  have u : ∀ j, j ≠ 3 → va_up A 3 (eV A i k) j = A j := fun j hj => va_up_n _ _ _ hj
  refine ⟨fun k q hk => by rw [u k (by omega)]; exact g1 k q hk, by rw [u 4 (by omega)]; exact g2, by rw [u 5 (by omega)]; exact g3, by rw [u 6 (by omega)]; exact g4, by rw [u 7 (by omega)]; exact g5, by rw [u 8 (by omega)]; exact g6, by rw [u 9 (by omega)]; exact g7, by rw [u 10 (by omega)]; exact g8, by rw [u 11 (by omega)]; exact g9, fun b => ?_, by rw [u 14 (by omega)]; exact g11, by rw [u 15 (by omega)]; exact g12, by rw [u 12 (by omega)]; exact g13⟩
  rw [va_up_s]
  rcases eV_01 (A := A) i k b with e | e
  · rw [e]; exact g10 b
  · rw [e]; omega
theorem kGive {c A : fb_N} (o : oA A) (i k : Nat) (hz : A 11 (269 * i + k) = 0 ∨ 38 ≤ A 11 (269 * i + k)) (f : Nat → Nat) (hf : ∀ x, f x ≤ 1) (hR : RC c (va_up A 3 f)) (oF : oA (va_up A 3 f)) : ∃ c2, f_K_giveBlock (nI (A 11 (269 * i + k))) (ka c) = some (0, ka c2) ∧ RC c2 (va_up A 3 (if A 11 (269 * i + k) = 0 then f else un1 f (A 11 (269 * i + k)) 0)) := by
  have hbl := o.bl (269 * i + k)
  unfold f_K_giveBlock
  by_cases z : A 11 (269 * i + k) = 0
  · rw [if_pos z, if_pos (show nI (A 11 (269 * i + k)) < (38 : Int32) from (nLt (b := 38) (by omega) (by omega)).mpr (by omega))]
    exact ⟨c, rfl, hR⟩
  · rw [if_neg z, if_neg (show ¬ nI (A 11 (269 * i + k)) < (38 : Int32) from fun q => by have := (nLt (b := 38) (by omega) (by omega)).mp q; omega), if_neg (show ¬ (512 : Int32) ≤ nI (A 11 (269 * i + k)) from nLe' (a := 512) hbl (by omega)), kMark0 hR oF hbl, Option.bind_some]
    refine ⟨_, rfl, ?_⟩
    have := rc3 hR oF (b := A 11 (269 * i + k)) (v := 0) hbl (by omega)
    rw [va_up_tw] at this
    exact this
/-- the numbers of blocks of i -/
def eB (A : fb_N) (i k : Nat) : Nat → Nat := fun q => if 269 * i ≤ q ∧ q < 269 * i + k then 0 else A 11 q
theorem rcWipe {c A : fb_N} (h : RC c A) {i : Nat} (hi : i < 64) : RC (va_up c 0 (zr (c 0) (33792 + 64 * i + 12) 52)) (va_up A 11 (eB A i 269)) := by
  have u : ∀ j, j ≠ 11 → va_up A 11 (eB A i 269) j = A j := fun j hj => va_up_n _ _ _ hj
  refine rcD h (fun k hk => va_up_n _ _ _ hk) (fun q => by rw [va_up_s]; exact zr_b h.w.b _ _ q) ?_ ?_ ?_ ?_ (u 0 (by omega)) (u 1 (by omega)) (u 9 (by omega)) (u 12 (by omega)) (u 15 (by omega))
  · intro x k hx hk
    rw [va_up_s]
    unfold zr
    by_cases e : x = i
    · subst e
      by_cases z : 12 ≤ k
      · rw [if_pos (by omega)]
        unfold ibx
        rw [if_neg (by omega), if_neg (by omega), if_neg (by omega), if_neg (by omega), if_neg (by omega), va_up_s]
        unfold eB
        rw [if_pos (by split <;> omega), le_0]
      · rw [if_neg (by omega), h.i hx hk]
        unfold ibx
        rw [u 4 (by omega), u 5 (by omega), u 6 (by omega), u 7 (by omega), u 8 (by omega)]
        rw [if_pos (show k < 12 by omega), if_pos (show k < 12 by omega)]
    · rw [if_neg (by omega), h.i hx hk]
      unfold ibx
      rw [u 4 (by omega), u 5 (by omega), u 6 (by omega), u 7 (by omega), u 8 (by omega), va_up_s]
      have e2 : eB A i 269 (269 * x + (if k / 4 - 3 < 12 then k / 4 - 3 else 268)) = A 11 (269 * x + (if k / 4 - 3 < 12 then k / 4 - 3 else 268)) := by
        unfold eB
        rw [if_neg (by split <;> omega)]
      rw [e2]
  · intro k hk
    rw [va_up_s]
    unfold zr
    rw [if_neg (by omega), h.m hk]
    unfold mbx
    rw [u 3 (by omega)]
  · intro q h1 h2
    rw [va_up_s]
    unfold zr
    rw [if_neg (by omega), h.x h1 h2, u 2 (by omega)]
  · intro q hq
    rw [va_up_s]
    unfold zr
    rw [if_neg (by omega)]
def E0 (A : fb_N) (i : Nat) : fb_N := va_up (va_up A 3 (eV A i 269)) 11 (eB A i 269)
theorem kDropL {A : fb_N} (o : oA A) (hB : BK A) {i : Nat} (hi : i < 64) : ∀ n k c, k ≤ 268 → 268 - k < n → RC c (va_up A 3 (eV A i k)) → ∃ c2, l_I_dropBlocks_11 n (nI i) (nI k) (ka c) = some (0, ka c2) ∧ RC c2 (E0 A i) := by
  have hz : ∀ k, k < 269 → A 11 (269 * i + k) = 0 ∨ 38 ≤ A 11 (269 * i + k) := by
    intro k hk
    rcases Classical.em (vl A i k) with z | z
    · exact Or.inr (hB.1 i k hi z).1
    · exact Or.inl (hB.2.1 i k hi hk z)
  intro n
  induction n with
  | zero => intro k c _ h; omega
  | succ n ih =>
    intro k c hk hn hR
    have ok := oA_eV o i k
    have u11 : va_up A 3 (eV A i k) 11 = A 11 := va_up_n _ _ _ (by omega)
    have hV1 : ∀ x, eV A i k x ≤ 1 := fun x => by
      have := ok.us x
      rw [va_up_s] at this
      exact this
    show ∃ c2, b_I_dropBlocks_11 (l_I_dropBlocks_11 n) (nI i) (nI k) (ka c) = some (0, ka c2) ∧ _
    unfold b_I_dropBlocks_11
    obtain ⟨c1, g1, g2⟩ := kGive (c := c) o i k (hz k (by omega)) (eV A i k) hV1 hR ok
    have g2 : RC c1 (va_up A 3 (eV A i (k + 1))) := g2
    by_cases e : k = 268
    · subst e
      have hm := kMore hR ok hi
      rw [u11] at hm
      have hm2 : f_K_numberAt (nI (33792 + 64 * i) + (60 : Int32)) (ka c) = some (nI (A 11 (269 * i + 268)), ka c) := hm
      rw [if_pos (show (268 : Int32) ≤ nI 268 by decide), iPl, Option.bind_some, hm2, Option.bind_some, g1, Option.bind_some, iPl, Option.bind_some]
      show ∃ c2, (f_K_wipe (nI (33792 + 64 * i) + nI 12) (nI 52) (ka c1)).bind _ = _ ∧ _
      rw [nI_add, kWipe c1 (by omega) (by omega) (by omega), Option.bind_some]
      refine ⟨_, rfl, ?_⟩
      have := rcWipe g2 hi
      have e2 : eB (va_up A 3 (eV A i (268 + 1))) i 269 = eB A i 269 := by
        unfold eB
        rw [va_up_n _ _ _ (by omega)]
      rw [e2] at this
      exact this
    · have key := kSlotNum0 hR ok (hB.z.cg (va_up_n _ _ _ (by omega)) (va_up_n _ _ _ (by omega)) u11) (k := k) hi (by omega)
      rw [u11] at key
      rw [if_neg (show ¬ (268 : Int32) ≤ nI k from nLe' (a := 268) (by omega) (by omega))]
      cases hs : f_I_slotOf (nI i) (nI k) (ka c) with
      | none => rw [hs] at key; cases key
      | some r =>
        rw [hs, Option.bind_some] at key
        rw [Option.bind_some, key, Option.bind_some, g1, Option.bind_some]
        have := ih (k + 1) c1 (by omega) (by omega) g2
        rw [← nI_add k 1] at this
        exact this
theorem kDrop {c A : fb_N} (h : RC c A) (o : oA A) (hB : BK A) {i : Nat} (hi : i < 64) : ∃ c2, f_I_dropBlocks (nI i) (ka c) = some (0, ka c2) ∧ RC c2 (E0 A i) := by
  unfold f_I_dropBlocks
  rw [iIs _ hi, Option.bind_some, if_neg n01]
  refine kDropL o hB hi fb_n 0 c (by omega) (by unfold fb_n; omega) ?_
  have : va_up A 3 (eV A i 0) = A := va_up_id A 3
  rw [this]
  exact h
/-! the reference -/
theorem eS_up (A : fb_N) (i k : Nat) (hn : A 11 (269 * i + k) ≠ 0) : up (up (va_up (va_up A 3 (eV A i k)) 11 (eB A i k)) 3 (A 11 (269 * i + k)) 0) 11 (269 * i + k) 0 = va_up (va_up A 3 (eV A i (k + 1))) 11 (eB A i (k + 1)) := by
  funext j q
  by_cases h11 : j = 11
  · subst h11
    rw [va_up_s]
    by_cases e : q = 269 * i + k
    · rw [e, up_s]
      unfold eB
      rw [if_pos (by omega)]
    · rw [up_n _ (Or.inr e), up_n _ (by omega), va_up_s]
      unfold eB
      by_cases z : 269 * i ≤ q ∧ q < 269 * i + k
      · rw [if_pos z, if_pos (by omega)]
      · rw [if_neg z, if_neg (by omega)]
  · rw [up_n _ (Or.inl h11), va_up_n _ _ _ h11]
    by_cases h3 : j = 3
    · subst h3
      rw [va_up_s]
      show _ = (if A 11 (269 * i + k) = 0 then eV A i k else un1 (eV A i k) (A 11 (269 * i + k)) 0) q
      rw [if_neg hn]
      unfold un1
      by_cases e : q = A 11 (269 * i + k)
      · rw [if_pos e, e, up_s]
      · rw [if_neg e, up_n _ (Or.inr e), va_up_n _ _ _ (by omega), va_up_s]
    · rw [up_n _ (Or.inl h3), va_up_n _ _ _ h11, va_up_n _ _ _ h3, va_up_n _ _ _ h3]
theorem eV_tail {A : fb_N} {i k : Nat} : ∀ m, (∀ y, k ≤ y → y < k + m → A 11 (269 * i + y) = 0) → eV A i (k + m) = eV A i k := by
  intro m
  induction m with
  | zero => intro _; rfl
  | succ m ih =>
    intro h
    show (if A 11 (269 * i + (k + m)) = 0 then eV A i (k + m) else _) = _
    rw [if_pos (h (k + m) (by omega) (by omega))]
    exact ih (fun y h1 h2 => h y h1 (by omega))
def EE (A : fb_N) (i : Nat) : fb_N := up (up (E0 A i) 10 i 0) 8 i 0
theorem m95 (X : fb_N) {i : Nat} (hi : i < 64) : b_M_empty_95 (nI i) (mu X) = some (0, mu (up (up X 10 i 0) 8 i 0)) := by
  unfold b_M_empty_95
  simp only [il]
  rw [st_nI hi (by omega), Option.bind_some, mu_i _ 10 _ _ (by decide), st_nI hi (by omega), Option.bind_some, mu_i _ 8 _ _ (by decide)]
theorem mEmptyL {A : fb_N} (o : oA A) (hB : BK A) {i : Nat} (hi : i < 64) : ∀ n k, k ≤ A 10 i → A 10 i - k < n → l_M_empty_2 n (nI i) (nI k) (mu (va_up (va_up A 3 (eV A i k)) 11 (eB A i k))) = some (0, mu (EE A i)) := by
  have h268 := o.mn i
  intro n
  induction n with
  | zero => intro k _ h; omega
  | succ n ih =>
    intro k hk hn
    have e10 : ∀ k, va_up (va_up A 3 (eV A i k)) 11 (eB A i k) 10 i = A 10 i := fun k => by rw [va_up_n _ _ _ (by omega), va_up_n _ _ _ (by omega)]
    show b_M_empty_2 (l_M_empty_2 n) (nI i) (nI k) _ = _
    unfold b_M_empty_2
    rw [ld_nI hi (by omega), Option.bind_some, mu_10, e10]
    by_cases z : A 10 i ≤ k
    · have hkm : k = A 10 i := by omega
      rw [if_pos (by rw [nLe (by omega) (by omega)]; exact z), Option.bind_some]
      have t1 : eV A i 268 = eV A i k := by
        have := eV_tail (A := A) (i := i) (k := k) (268 - k) (fun y h1 h2 => hB.2.1 i y hi (by omega) (by unfold vl; omega))
        rw [show k + (268 - k) = 268 by omega] at this
        exact this
      by_cases z2 : A 10 i ≤ 12
      · rw [if_pos (show nI (A 10 i) ≤ (12 : Int32) from (nLe (b := 12) (by omega) (by omega)).mpr z2), m95 _ hi]
        have h0 := hB.2.1 i 268 hi (by omega) (by unfold vl; omega)
        have t2 : eV A i 269 = eV A i k := by
          show (if A 11 (269 * i + 268) = 0 then eV A i 268 else _) = _
          rw [if_pos h0, t1]
        have t3 : eB A i 269 = eB A i k := by
          funext q
          unfold eB
          by_cases w : 269 * i ≤ q ∧ q < 269 * i + k
          · rw [if_pos w, if_pos (by omega)]
          · rw [if_neg w]
            by_cases w2 : 269 * i ≤ q ∧ q < 269 * i + 269
            · rw [if_pos w2]
              have := hB.2.1 i (q - 269 * i) hi (by omega) (by unfold vl; omega)
              rw [show 269 * i + (q - 269 * i) = q by omega] at this
              exact this.symm
            · rw [if_neg w2]
        unfold EE E0
        rw [t2, t3]
      · have hb := (hB.1 i 268 hi (Or.inr ⟨rfl, by omega⟩)).1
        have hbl := o.bl (269 * i + 268)
        rw [if_neg (show ¬ nI (A 10 i) ≤ (12 : Int32) from fun q => by have := (nLe (b := 12) (by omega) (by omega)).mp q; omega)]
        simp only [il]
        have e268 : mu (va_up (va_up A 3 (eV A i k)) 11 (eB A i k)) 11 (269 * i + 268) = nI (A 11 (269 * i + 268)) := by
          rw [mu_11, va_up_s]
          unfold eB
          rw [if_neg (by omega)]
        rw [pk_mul, nI_add, ld_nI (by omega) (by omega), Option.bind_some, e268, st_nI (by omega) (by omega), Option.bind_some, show nI 0 &&& nI 1 = nI 0 by decide, mu_i _ 3 _ _ (by decide), st_nI (by omega) (by omega), Option.bind_some, mu_i _ 11 _ _ (by decide), m95 _ hi]
        have t4 : up (up (va_up (va_up A 3 (eV A i k)) 11 (eB A i k)) 3 (A 11 (269 * i + 268)) 0) 11 (269 * i + 268) 0 = E0 A i := by
          unfold E0
          funext j q
          by_cases h11 : j = 11
          · subst h11
            rw [va_up_s]
            by_cases e : q = 269 * i + 268
            · rw [e, up_s]
              unfold eB
              rw [if_pos (by omega)]
            · rw [up_n _ (Or.inr e), up_n _ (by omega), va_up_s]
              unfold eB
              by_cases w : 269 * i ≤ q ∧ q < 269 * i + k
              · rw [if_pos w, if_pos (by omega)]
              · rw [if_neg w]
                by_cases w2 : 269 * i ≤ q ∧ q < 269 * i + 269
                · rw [if_pos w2]
                  have := hB.2.1 i (q - 269 * i) hi (by omega) (by unfold vl; omega)
                  rw [show 269 * i + (q - 269 * i) = q by omega] at this
                  exact this
                · rw [if_neg w2]
          · rw [up_n _ (Or.inl h11), va_up_n _ _ _ h11]
            by_cases h3 : j = 3
            · subst h3
              rw [va_up_s]
              show _ = (if A 11 (269 * i + 268) = 0 then eV A i 268 else un1 (eV A i 268) (A 11 (269 * i + 268)) 0) q
              rw [if_neg (by omega), t1]
              unfold un1
              by_cases e : q = A 11 (269 * i + 268)
              · rw [if_pos e, e, up_s]
              · rw [if_neg e, up_n _ (Or.inr e), va_up_n _ _ _ (by omega), va_up_s]
            · rw [up_n _ (Or.inl h3), va_up_n _ _ _ h11, va_up_n _ _ _ h3, va_up_n _ _ _ h3]
        rw [t4]
        rfl
    · have hb := (hB.1 i k hi (Or.inl (by omega))).1
      have hbl := o.bl (269 * i + k)
      rw [if_neg (by rw [nLe (by omega) (by omega)]; exact z)]
      simp only [il]
      have ek : mu (va_up (va_up A 3 (eV A i k)) 11 (eB A i k)) 11 (269 * i + k) = nI (A 11 (269 * i + k)) := by
        rw [mu_11, va_up_s]
        unfold eB
        rw [if_neg (by omega)]
      rw [pk_mul, nI_add, ld_nI (by omega) (by omega), Option.bind_some, ek, st_nI (by omega) (by omega), Option.bind_some, show nI 0 &&& nI 1 = nI 0 by decide, mu_i _ 3 _ _ (by decide), st_nI (by omega) (by omega), Option.bind_some, mu_i _ 11 _ _ (by decide), eS_up A i k (by omega), nI_add]
      exact ih (k + 1) (by omega) (by omega)
theorem mEmpty {A : fb_N} (o : oA A) (hB : BK A) {i : Nat} (hi : i < 64) : f_M_empty (nI i) (mu A) = some (0, mu (EE A i)) := by
  have h := mEmptyL o hB hi fb_n 0 (by omega) (by have := o.mn i; unfold fb_n; omega)
  have e : va_up (va_up A 3 (eV A i 0)) 11 (eB A i 0) = A := by
    have e1 : va_up A 3 (eV A i 0) = A := va_up_id A 3
    have e2 : eB A i 0 = A 11 := by
      funext q
      unfold eB
      rw [if_neg (by omega)]
    rw [e1, e2, va_up_id]
  rw [e] at h
  exact h

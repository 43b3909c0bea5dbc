/-! paths: slashes and names in the text -/
def isSk (T : Nat → Nat) (e k q : Nat) : Prop := k ≤ q ∧ q ≤ e ∧ (∀ x, k ≤ x → x < q → T x = 47) ∧ (q = e ∨ T q ≠ 47)
def isNd (T : Nat → Nat) (e k q : Nat) : Prop := k ≤ q ∧ q ≤ e ∧ (∀ x, k ≤ x → x < q → T x ≠ 47) ∧ (q = e ∨ T q = 47)
theorem sk_ex (T : Nat → Nat) (e : Nat) : ∀ n k, k ≤ e → e - k ≤ n → ∃ q, isSk T e k q := by
  intro n
  induction n with
  | zero => intro k h1 h2; exact ⟨k, Nat.le_refl _, h1, fun x _ _ => by omega, Or.inl (by omega)⟩
  | succ n ih =>
    intro k h1 h2
    by_cases e1 : k = e
    · exact ⟨k, Nat.le_refl _, h1, fun x _ _ => by omega, Or.inl e1⟩
    · by_cases z : T k = 47
      · obtain ⟨q, a1, a2, a3, a4⟩ := ih (k + 1) (by omega) (by omega)
        refine ⟨q, by omega, a2, fun x g1 g2 => ?_, a4⟩
        by_cases e2 : x = k
        · rw [e2, z]
        · exact a3 x (by omega) g2
      · exact ⟨k, Nat.le_refl _, h1, fun x _ _ => by omega, Or.inr z⟩
theorem nd_ex (T : Nat → Nat) (e : Nat) : ∀ n k, k ≤ e → e - k ≤ n → ∃ q, isNd T e k q := by
  intro n
  induction n with
  | zero => intro k h1 h2; exact ⟨k, Nat.le_refl _, h1, fun x _ _ => by omega, Or.inl (by omega)⟩
  | succ n ih =>
    intro k h1 h2
    by_cases e1 : k = e
    · exact ⟨k, Nat.le_refl _, h1, fun x _ _ => by omega, Or.inl e1⟩
    · by_cases z : T k = 47
      · exact ⟨k, Nat.le_refl _, h1, fun x _ _ => by omega, Or.inr z⟩
      · obtain ⟨q, a1, a2, a3, a4⟩ := ih (k + 1) (by omega) (by omega)
        refine ⟨q, by omega, a2, fun x g1 g2 => ?_, a4⟩
        by_cases e2 : x = k
        · rw [e2]; exact z
        · exact a3 x (by omega) g2
theorem sk_get (T : Nat → Nat) {e k : Nat} (h : k ≤ e) : ∃ q, isSk T e k q := sk_ex T e (e - k) k h (Nat.le_refl _)
theorem nd_get (T : Nat → Nat) {e k : Nat} (h : k ≤ e) : ∃ q, isNd T e k q := nd_ex T e (e - k) k h (Nat.le_refl _)
theorem mPf (A : fb_N) (k v : Nat) (hk : ¬ (k = 0 ∨ k = 1 ∨ k = 2 ∨ k = 13)) : fb_pf (mu A) k (nI v) = some (mu (up A k 0 v)) := by
  unfold fb_pf
  show some (va_up (mu A) k (upd (mu A k) 0 (nI v))) = _
  rw [mu_i A k 0 v hk]
theorem mSlL {A : fb_N} (o : oA A) {e q : Nat} (he : A 17 0 = e) (h260 : e ≤ 260) : ∀ n k, isSk (A 0) e k q → q - k < n → A 16 0 = k → l_M_slashes_0 n (mu A) = some (0, mu (up A 16 0 q)) := by
  intro n
  induction n generalizing A with
  | zero => intro k _ h; omega
  | succ n ih =>
    intro k hq hn hk
    obtain ⟨q1, q2, q3, q4⟩ := hq
    show b_M_slashes_0 (l_M_slashes_0 n) (mu A) = _
    unfold b_M_slashes_0
    simp only [il]
    rw [mu_17, mu_16, he, hk]
    by_cases z : e ≤ k
    · rw [if_pos (by rw [nLe (by omega) (by omega)]; exact z), up_id A (show A 16 0 = q by omega)]
    · have hb := o.tx k
      rw [if_neg (by rw [nLe (by omega) (by omega)]; exact z), ld_nI (by omega) (by omega), Option.bind_some, mu_0]
      by_cases z2 : A 0 k = 47
      · rw [if_pos (show bs (A 0 k) = nI 47 from by rw [bs_eqI hb (by omega)]; exact z2), nI_add, mPf A 16 _ (by decide), Option.bind_some]
        have hkq : k ≠ q := by
          intro e2
          rcases q4 with q4 | q4
          · omega
          · rw [← e2] at q4; exact q4 z2
        have u0 : up A 16 0 (k + 1) 0 = A 0 := up_c A (by omega)
        have o2 : oA (up A 16 0 (k + 1)) := by
          obtain ⟨g1, g2, g3, g4, g5, g6, g7, g8, g9, g10, g11, g12, g13⟩ := o
          have u : ∀ j, j ≠ 16 → up A 16 0 (k + 1) j = A j := fun j hj => up_c A hj
          exact ⟨fun j x hj => by rw [u j (by omega)]; exact g1 j x hj, g2, g3, g4, g5, g6, g7, g8, g9, g10, g11, g12, g13⟩
        have := ih o2 (by rw [up_n _ (by omega)]; exact he) (k + 1) (by rw [u0]; exact ⟨by omega, q2, fun x g1 g2 => q3 x (by omega) g2, q4⟩) (by omega) (up_s A 16 0 (k + 1))
        rw [this]
        have e3 : up (up A 16 0 (k + 1)) 16 0 q = up A 16 0 q := by
          funext a b
          by_cases w : a = 16 ∧ b = 0
          · obtain ⟨rfl, rfl⟩ := w
            rw [up_s, up_s]
          · rw [up_n _ (by omega), up_n _ (by omega), up_n _ (by omega)]
        rw [e3]
        rfl
      · rw [if_neg (show ¬ bs (A 0 k) = nI 47 from by rw [bs_eqI hb (by omega)]; exact z2)]
        have hkq : k = q := by
          rcases Nat.lt_or_ge k q with w | w
          · exact absurd (q3 k (Nat.le_refl _) w) z2
          · omega
        rw [up_id A (show A 16 0 = q by omega)]
theorem mSlashes {A : fb_N} (o : oA A) {e k q : Nat} (he : A 17 0 = e) (h260 : e ≤ 260) (hk : A 16 0 = k) (hq : isSk (A 0) e k q) : f_M_slashes (mu A) = some (0, mu (up A 16 0 q)) := mSlL o he h260 fb_n k hq (by have := hq.2.1; unfold fb_n; omega) hk
/-- the reference's row of a name -/
def nr (A : fb_N) (q m : Nat) : Nat → Nat := fun i => if i < 14 then (if i < m then A 0 (q + i) else 0) else A 13 i
def NR (A : fb_N) (q m : Nat) : fb_N := up (va_up A 13 (nr A q m)) 16 0 (q + m)
theorem NR_c (A : fb_N) (q m : Nat) {j : Nat} (h : j ≠ 13) (h2 : j ≠ 16) : NR A q m j = A j := by
  unfold NR
  rw [up_c _ h2, va_up_n _ _ _ h]
theorem NR_13 (A : fb_N) (q m : Nat) : NR A q m 13 = nr A q m := by
  unfold NR
  rw [up_c _ (by omega), va_up_s]
theorem NR_16 (A : fb_N) (q m : Nat) : NR A q m 16 0 = q + m := up_s _ _ _ _
theorem mNmL {A : fb_N} (o : oA A) {e q r : Nat} (y : Int32) (he : A 17 0 = e) (h260 : e ≤ 260) (hr : isNd (A 0) e q r) : ∀ n t, q + t ≤ r → r - (q + t) < n → l_M_named_44 n y (nI t) (mu (NR A q t)) = fb_rz y (mu (NR A q (r - q))) := by
  obtain ⟨r1, r2, r3, r4⟩ := hr
  intro n
  induction n with
  | zero => intro t _ h; omega
  | succ n ih =>
    intro t ht hn
    show b_M_named_44 (l_M_named_44 n) y (nI t) (mu (NR A q t)) = _
    unfold b_M_named_44
    simp only [il]
    rw [mu_17, mu_16, NR_16, NR_c A q t (by omega) (by omega), he]
    by_cases z : q + t = r
    · rw [show r - q = t by omega]
      by_cases z1 : e ≤ q + t
      · rw [if_pos (by rw [nLe (by omega) (by omega)]; exact z1)]
      · have h47 : A 0 (q + t) = 47 := by
          rcases r4 with w | w
          · omega
          · rw [z]; exact w
        rw [if_neg (by rw [nLe (by omega) (by omega)]; exact z1), ld_nI (by omega) (by omega), Option.bind_some, mu_0, NR_c A q t (by omega) (by omega), if_pos (show bs (A 0 (q + t)) = nI 47 from by rw [bs_eqI (o.tx _) (by omega)]; exact h47)]
    · have hn47 := r3 (q + t) (by omega) (by omega)
      rw [if_neg (by rw [nLe (by omega) (by omega)]; omega), ld_nI (by omega) (by omega), Option.bind_some, mu_0, NR_c A q t (by omega) (by omega), if_neg (show ¬ bs (A 0 (q + t)) = nI 47 from by rw [bs_eqI (o.tx _) (by omega)]; exact hn47)]
      have fin : ∀ X : fb_N, up X 16 0 (q + t + 1) = NR A q (t + 1) → X 16 0 = q + t → b_M_named_90 (l_M_named_44 n) y (nI t) (mu X) = fb_rz y (mu (NR A q (r - q))) := by
        intro X e1 e2
        unfold b_M_named_90
        simp only [il]
        rw [mu_16, e2, nI_add, nI_add, mPf X 16 _ (by decide), Option.bind_some, e1]
        exact ih (t + 1) (by omega) (by omega)
      by_cases z14 : 14 ≤ t
      · rw [if_pos (by rw [nLe (by omega) (by omega)]; exact z14)]
        refine fin _ ?_ (NR_16 A q t)
        unfold NR
        funext a b
        by_cases w : a = 16 ∧ b = 0
        · obtain ⟨rfl, rfl⟩ := w
          rw [up_s, up_s]
          omega
        · rw [up_n _ (by omega), up_n _ (by omega), up_n _ (by omega)]
          have : nr A q t = nr A q (t + 1) := by
            funext i
            unfold nr
            by_cases w1 : i < 14
            · rw [if_pos w1, if_pos w1, if_pos (by omega), if_pos (by omega)]
            · rw [if_neg w1, if_neg w1]
          rw [this]
      · rw [if_neg (by rw [nLe (by omega) (by omega)]; exact z14), Option.bind_some, st_nI (by omega) (by omega), Option.bind_some]
        have eb : fb_b (bs (A 0 (q + t))) = bs (A 0 (q + t)) := bs_b _ (o.tx _)
        rw [eb, mu_b _ 13 _ _ (by omega)]
        refine fin _ ?_ (by rw [up_n _ (by omega), NR_16])
        unfold NR
        funext a b
        by_cases w : a = 16 ∧ b = 0
        · obtain ⟨rfl, rfl⟩ := w
          rw [up_s, up_s]
          omega
        · rw [up_n (up (up (va_up A 13 (nr A q t)) 16 0 (q + t)) 13 t (A 0 (q + t))) (by omega), up_n (va_up A 13 (nr A q (t + 1))) (by omega)]
          by_cases w2 : a = 13
          · subst w2
            rw [va_up_s]
            by_cases w3 : b = t
            · subst w3
              rw [up_s]
              unfold nr
              rw [if_pos (by omega), if_pos (by omega)]
            · rw [up_n _ (Or.inr w3), up_n _ (by omega), va_up_s]
              unfold nr
              by_cases w1 : b < 14
              · rw [if_pos w1, if_pos w1]
                by_cases w4 : b < t
                · rw [if_pos w4, if_pos (by omega)]
                · rw [if_neg w4, if_neg (by omega)]
              · rw [if_neg w1, if_neg w1]
          · rw [up_n _ (Or.inl w2), up_n _ (by omega), va_up_n _ _ _ w2, va_up_n _ _ _ w2]
theorem mNmZ {A : fb_N} (y : Int32) : ∀ n t, t ≤ 14 → 14 - t < n → l_M_named_23 n y (nI t) (mu (va_up A 13 (zr (A 13) 0 t))) = l_M_named_44 fb_n y (nI 0) (mu (va_up A 13 (zr (A 13) 0 14))) := by
  intro n
  induction n with
  | zero => intro t _ h; omega
  | succ n ih =>
    intro t ht hn
    show b_M_named_23 (l_M_named_23 n) y (nI t) _ = _
    unfold b_M_named_23
    simp only [il]
    by_cases e : t = 14
    · subst e
      rw [if_pos (by decide)]
    · rw [if_neg (nLe' (a := 14) (by omega) (by omega)), st_nI (by omega) (by omega), Option.bind_some, show fb_b (nI 0) = bs 0 from rfl, mu_b _ 13 _ _ (by omega), nI_add, va_up_tw]
      have : un1 (zr (A 13) 0 t) t 0 = zr (A 13) 0 (t + 1) := by
        funext x
        unfold un1 zr
        by_cases w : x = t
        · rw [if_pos w, if_pos (by omega)]
        · rw [if_neg w]
          by_cases w2 : 0 ≤ x ∧ x < 0 + t
          · rw [if_pos w2, if_pos (by omega)]
          · rw [if_neg w2, if_neg (by omega)]
      rw [this]
      exact ih (t + 1) (by omega) (by omega)
theorem mNamed {A : fb_N} (o : oA A) {e k q r : Nat} (he : A 17 0 = e) (h260 : e ≤ 260) (hk : A 16 0 = k) (hq : isSk (A 0) e k q) (hr : isNd (A 0) e q r) : f_M_named (mu A) = some (if q < e then 1 else 0, mu (NR A q (r - q))) := by
  unfold f_M_named
  have hqe := hq.2.1
  rw [mSlashes o he h260 hk hq, Option.bind_some]
  have u : ∀ j, j ≠ 16 → up A 16 0 q j = A j := fun j hj => up_c A hj
  have o2 : oA (up A 16 0 q) := by
    obtain ⟨g1, g2, g3, g4, g5, g6, g7, g8, g9, g10, g11, g12, g13⟩ := o
    exact ⟨fun j x hj => by rw [u j (by omega)]; exact g1 j x hj, g2, g3, g4, g5, g6, g7, g8, g9, g10, g11, g12, g13⟩
  have key : ∀ y : Int32, (y = 0 ∨ y = 1) → b_M_named_20 y (mu (up A 16 0 q)) = some (y, mu (NR A q (r - q))) := by
    intro y hy
    unfold b_M_named_20
    have h1 := mNmZ (A := up A 16 0 q) y fb_n 0 (by omega) (by unfold fb_n; omega)
    have e0 : va_up (up A 16 0 q) 13 (zr (up A 16 0 q 13) 0 0) = up A 16 0 q := by
      have : zr (up A 16 0 q 13) 0 0 = up A 16 0 q 13 := by
        funext x
        unfold zr
        rw [if_neg (by omega)]
      rw [this, va_up_id]
    rw [e0] at h1
    have e1 : va_up (up A 16 0 q) 13 (zr (up A 16 0 q 13) 0 14) = NR (up A 16 0 q) q 0 := by
      unfold NR
      have : zr (up A 16 0 q 13) 0 14 = nr (up A 16 0 q) q 0 := by
        funext x
        unfold zr nr
        by_cases w : x < 14
        · rw [if_pos (by omega), if_pos w, if_neg (by omega)]
        · rw [if_neg (by omega), if_neg w]
      rw [this]
      exact (up_id _ (by rw [va_up_n _ _ _ (by omega), up_s, Nat.add_zero])).symm
    rw [e1] at h1
    have h2 := mNmL o2 (q := q) (r := r) y (by rw [u 17 (by omega)]; exact he) h260 (by rw [u 0 (by omega)]; exact hr) fb_n 0 (by have := hr.1; omega) (by have := hr.2.1; unfold fb_n; omega)
    have e2 : NR (up A 16 0 q) q (r - q) = NR A q (r - q) := by
      have e3 : nr (up A 16 0 q) q (r - q) = nr A q (r - q) := by
        unfold nr
        rw [u 0 (by omega), u 13 (by omega)]
      unfold NR
      rw [e3]
      funext a b
      by_cases w : a = 16 ∧ b = 0
      · obtain ⟨rfl, rfl⟩ := w
        rw [up_s, up_s]
      · rw [up_n _ (by omega), up_n _ (by omega)]
        by_cases w2 : a = 13
        · subst w2
          rw [va_up_s, va_up_s]
        · rw [va_up_n _ _ _ w2, va_up_n _ _ _ w2, up_n _ (by omega)]
    rw [e2] at h2
    show l_M_named_23 fb_n y (nI 0) (mu (up A 16 0 q)) = _
    rw [h1, h2]
    rcases hy with rfl | rfl <;> rfl
  have c1 : mu (up A 16 0 q) 17 0 = nI e := by rw [mu_17, u 17 (by omega), he]
  have c2 : mu (up A 16 0 q) 16 0 = nI q := by rw [mu_16, up_s]
  by_cases z : q < e
  · rw [if_pos z, if_neg (show ¬ mu (up A 16 0 q) 17 0 ≤ mu (up A 16 0 q) 16 0 from by rw [c1, c2, nLe (by omega) (by omega)]; omega), key 1 (Or.inr rfl)]
  · rw [if_neg z, if_pos (show mu (up A 16 0 q) 17 0 ≤ mu (up A 16 0 q) 16 0 from by rw [c1, c2, nLe (by omega) (by omega)]; omega), key 0 (Or.inl rfl)]
/-! the class -/
theorem kByte {c : fb_N} (h : cw c) {k : Nat} (hk : k < 260) : f_X_byteAt (nI k) (ka c) = some (nI (c 2 k), ka c) := by
  unfold f_X_byteAt
  rw [if_neg (nn0 (by omega)), if_neg (show ¬ (260 : Int32) ≤ nI k from nLe' (a := 260) hk (by omega)), ld_nI hk (by decide), Option.bind_some]
  show some (bs (c 2 k) &&& nI 255, ka c) = _
  rw [bs_k _ (h 2 k (by decide) (by decide))]
def bg (T : Nat → Nat) (s k : Nat) : Prop := T k ≠ 47 ∧ (k = s ∨ T (k - 1) = 47)
theorem kBg1 {c : fb_N} (h : cw c) {s k : Nat} (hs : s ≤ k) (hk : k < 260) (hb : bg (c 2) s k) : f_X_nameBegins (nI s) (nI k) (ka c) = some (1, ka c) := by
  have b1 := h 2 k (by decide) (by decide)
  have b2 := h 2 (k - 1) (by decide) (by decide)
  unfold f_X_nameBegins
  rw [kByte h hk, Option.bind_some, if_neg (show ¬ nI (c 2 k) = (47 : Int32) from fun q => hb.1 ((nEq (b := 47) (by omega) (by omega)).mp q))]
  by_cases e : k = s
  · rw [if_pos (show nI k = nI s by rw [e])]
    rfl
  · rw [if_neg (show ¬ nI k = nI s by rw [nEq (by omega) (by omega)]; exact e)]
    have e2 : f_X_byteAt (nI k - (1 : Int32)) (ka c) = some (nI (c 2 (k - 1)), ka c) := by
      show f_X_byteAt (nI k - nI 1) (ka c) = _
      rw [nSub (by omega), kByte h (by omega)]
    rw [e2, Option.bind_some, if_pos (show nI (c 2 (k - 1)) = (47 : Int32) from by rw [hb.2.resolve_left e]; rfl)]
    rfl
theorem kBg0 {c : fb_N} (h : cw c) {s k : Nat} (hs : s ≤ k) (hk : k < 260) (hb : ¬ bg (c 2) s k) : f_X_nameBegins (nI s) (nI k) (ka c) = some (0, ka c) := by
  have b1 := h 2 k (by decide) (by decide)
  have b2 := h 2 (k - 1) (by decide) (by decide)
  unfold f_X_nameBegins
  rw [kByte h hk, Option.bind_some]
  by_cases z : c 2 k = 47
  · rw [if_pos (show nI (c 2 k) = (47 : Int32) from by rw [z]; rfl), rz0]
  · rw [if_neg (show ¬ nI (c 2 k) = (47 : Int32) from fun q => z ((nEq (b := 47) (by omega) (by omega)).mp q))]
    have e : k ≠ s := fun q => hb ⟨z, Or.inl q⟩
    have z2 : c 2 (k - 1) ≠ 47 := fun q => hb ⟨z, Or.inr q⟩
    rw [if_neg (show ¬ nI k = nI s by rw [nEq (by omega) (by omega)]; exact e)]
    have e2 : f_X_byteAt (nI k - (1 : Int32)) (ka c) = some (nI (c 2 (k - 1)), ka c) := by
      show f_X_byteAt (nI k - nI 1) (ka c) = _
      rw [nSub (by omega), kByte h (by omega)]
    rw [e2, Option.bind_some, if_neg (show ¬ nI (c 2 (k - 1)) = (47 : Int32) from fun q => z2 ((nEq (b := 47) (by omega) (by omega)).mp q)), rz0]
def pth (T : Nat → Nat) (s e : Nat) : Prop := e - s ≤ 128 ∧ ∀ q, s ≤ q → q < e → T q ≠ 32
theorem kPathL {c : fb_N} (h : cw c) {e : Nat} (he : e ≤ 260) : ∀ n k, k ≤ e → e - k < n → ((∀ q, k ≤ q → q < e → c 2 q ≠ 32) ∧ l_X_isPath_18 n (nI e) (nI k) (ka c) = some (1, ka c)) ∨ ((¬ ∀ q, k ≤ q → q < e → c 2 q ≠ 32) ∧ l_X_isPath_18 n (nI e) (nI k) (ka c) = some (0, ka c)) := by
  intro n
  induction n with
  | zero => intro k _ h; omega
  | succ n ih =>
    intro k hk hn
    have e0 : l_X_isPath_18 (n + 1) (nI e) (nI k) (ka c) = b_X_isPath_18 (l_X_isPath_18 n) (nI e) (nI k) (ka c) := rfl
    rw [e0]
    unfold b_X_isPath_18
    by_cases z : e ≤ k
    · rw [if_pos (by rw [nLe (by omega) (by omega)]; exact z), rz1]
      exact Or.inl ⟨fun q _ _ => by omega, rfl⟩
    · have b1 := h 2 k (by decide) (by decide)
      rw [if_neg (by rw [nLe (by omega) (by omega)]; exact z), kByte h (by omega), Option.bind_some]
      by_cases z2 : c 2 k = 32
      · rw [if_pos (show nI (c 2 k) = (32 : Int32) from by rw [z2]; rfl), rz0]
        exact Or.inr ⟨fun w => w k (Nat.le_refl _) (by omega) z2, rfl⟩
      · rw [if_neg (show ¬ nI (c 2 k) = (32 : Int32) from fun q => z2 ((nEq (b := 32) (by omega) (by omega)).mp q))]
        have g := ih (k + 1) (by omega) (by omega)
        rw [← nI_add k 1] at g
        rcases g with ⟨g1, g2⟩ | ⟨g1, g2⟩
        · refine Or.inl ⟨fun q w1 w2 => ?_, g2⟩
          by_cases e2 : q = k
          · rw [e2]; exact z2
          · exact g1 q (by omega) w2
        · exact Or.inr ⟨fun w => g1 (fun q w1 w2 => w q (by omega) w2), g2⟩
theorem kPath {c : fb_N} (h : cw c) {s e : Nat} (hs : s ≤ e) (he : e ≤ 260) : (pth (c 2) s e ∧ f_X_isPath (nI s) (nI e) (ka c) = some (1, ka c)) ∨ (¬ pth (c 2) s e ∧ f_X_isPath (nI s) (nI e) (ka c) = some (0, ka c)) := by
  unfold f_X_isPath pth
  simp only [il]
  rw [if_neg (by rw [nLt (by omega) (by omega)]; omega), nSub hs]
  by_cases z : e - s ≤ 128
  · rw [if_pos (by rw [nLe (by omega) (by omega)]; exact z)]
    rcases kPathL h he fb_n s hs (by unfold fb_n; omega) with ⟨g1, g2⟩ | ⟨g1, g2⟩
    · exact Or.inl ⟨⟨z, g1⟩, g2⟩
    · exact Or.inr ⟨fun q => g1 q.2, g2⟩
  · rw [if_neg (by rw [nLe (by omega) (by omega)]; exact z)]
    exact Or.inr ⟨fun q => z q.1, rfl⟩
theorem kPathN (st : fb_S) {s : Nat} (hs : s < 2147483648) : f_X_isPath (nI s) (-1) st = some (0, st) := by
  unfold f_X_isPath
  rw [if_pos, rz0]
  rw [Int32.lt_iff_toInt_lt, nI_toInt (by omega)]
  have : (-1 : Int32).toInt = -1 := by decide
  omega
/-- the class's row of a name -/
def nc (c : fb_N) (R k m t : Nat) : Nat → Nat := fun i => if i < t then (if i < m then c 2 (k + i) else 0) else c R i
theorem kCpL_name {c : fb_N} (h : cw c) {e k r : Nat} (he : e ≤ 260) (hr : isNd (c 2) e k r) : ∀ n t, t ≤ 14 → 14 - t < n → l_X_copyName_name_6 n (nI k) (nI e) (if t ≤ r - k then 1 else 0) (nI t) (ka (va_up c 3 (nc c 3 k (r - k) t))) = some (0, ka (va_up c 3 (nc c 3 k (r - k) 14))) := by
  obtain ⟨r1, r2, r3, r4⟩ := hr
  intro n
  induction n with
  | zero => intro t _ h; omega
  | succ n ih =>
    intro t ht hn
    show b_X_copyName_name_6 (l_X_copyName_name_6 n) (nI k) (nI e) (if t ≤ r - k then 1 else 0) (nI t) _ = _
    unfold b_X_copyName_name_6
    by_cases e14 : t = 14
    · subst e14
      rw [if_pos (show (14 : Int32) ≤ nI 14 by decide)]
    · rw [if_neg (show ¬ (14 : Int32) ≤ nI t from nLe' (a := 14) (by omega) (by omega)), nI_add]
      have hcw : cw (va_up c 3 (nc c 3 k (r - k) t)) := by
        intro j q h1 h2
        by_cases ej : j = 3
        · subst ej
          rw [va_up_s]
          unfold nc
          split
          · split
            · exact h 2 _ (by decide) (by decide)
            · omega
          · exact h 3 _ h1 h2
        · rw [va_up_n _ _ _ ej]
          exact h j q h1 h2
      have u2 : va_up c 3 (nc c 3 k (r - k) t) 2 = c 2 := va_up_n _ _ _ (by decide)
      have stp : ∀ (v : Nat) (y : Int32), v = (if t < r - k then c 2 (k + t) else 0) → (if t + 1 ≤ r - k then (1 : Int32) else 0) = y → b_X_copyName_name_67 (l_X_copyName_name_6 n) (nI k) (nI e) y (nI t) (bs v) (nI t) (ka (va_up c 3 (nc c 3 k (r - k) t))) = some (0, ka (va_up c 3 (nc c 3 k (r - k) 14))) := by
        intro v y hv hy
        have hv2 : v < 256 := by
          rw [hv]
          have := h 2 (k + t) (by decide) (by decide)
          split <;> omega
        unfold b_X_copyName_name_67
        rw [bs_b v hv2, st_nI (by omega) (by omega), Option.bind_some, ka_b _ 3 _ _ (by omega), va_up_tw]
        have en : un1 (nc c 3 k (r - k) t) t v = nc c 3 k (r - k) (t + 1) := by
          funext x
          unfold un1 nc
          by_cases w : x = t
          · subst w
            rw [if_pos rfl, if_pos (by omega), hv]
          · rw [if_neg w]
            by_cases w2 : x < t
            · rw [if_pos w2, if_pos (show x < t + 1 by omega)]
            · rw [if_neg w2, if_neg (show ¬ x < t + 1 by omega)]
        rw [en, ← hy]
        show l_X_copyName_name_6 n (nI k) (nI e) _ (nI t + nI 1) _ = _
        rw [nI_add]
        exact ih (t + 1) (by omega) (by omega)
      have no : ¬ t < r - k → b_X_copyName_name_43 (l_X_copyName_name_6 n) (nI k) (nI e) (nI t) (ka (va_up c 3 (nc c 3 k (r - k) t))) = some (0, ka (va_up c 3 (nc c 3 k (r - k) 14))) := by
        intro hno
        unfold b_X_copyName_name_43 b_X_copyName_name_44
        rw [if_pos rfl]
        exact stp 0 0 (by rw [if_neg hno]) (by rw [if_neg (by omega)])
      by_cases z : t ≤ r - k
      · rw [if_pos z, if_neg n01]
        by_cases z2 : e ≤ k + t
        · rw [if_pos (by rw [nLe (by omega) (by omega)]; exact z2)]
          exact no (by omega)
        · have b1 := h 2 (k + t) (by decide) (by decide)
          rw [if_neg (by rw [nLe (by omega) (by omega)]; exact z2), kByte hcw (by omega), Option.bind_some, u2]
          by_cases z3 : c 2 (k + t) = 47
          · rw [if_pos (show nI (c 2 (k + t)) = (47 : Int32) from by rw [z3]; rfl)]
            exact no (fun q => r3 (k + t) (by omega) (by omega) z3)
          · have hlt : t < r - k := by
              rcases Nat.lt_or_ge t (r - k) with w | w
              · exact w
              · exfalso
                rcases r4 with w2 | w2
                · omega
                · rw [show k + t = r by omega] at z3
                  exact z3 w2
            rw [if_neg (show ¬ nI (c 2 (k + t)) = (47 : Int32) from fun q => z3 ((nEq (b := 47) (by omega) (by omega)).mp q))]
            unfold b_X_copyName_name_44
            rw [if_neg n01, nI_add, kByte hcw (by omega), Option.bind_some, u2]
            exact stp (c 2 (k + t)) 1 (by rw [if_pos hlt]) (by rw [if_pos (by omega)])
      · rw [if_neg z, if_pos rfl]
        exact no (by omega)
theorem kCopy_name {c : fb_N} (h : cw c) {e k r : Nat} (he : e ≤ 260) (hr : isNd (c 2) e k r) : f_X_copyName_name (nI k) (nI e) (ka c) = some (0, ka (va_up c 3 (nc c 3 k (r - k) 14))) := by
  have h1 := kCpL_name h he hr fb_n 0 (by omega) (by unfold fb_n; omega)
  rw [if_pos (by omega)] at h1
  have e0 : va_up c 3 (nc c 3 k (r - k) 0) = c := by
    have : nc c 3 k (r - k) 0 = c 3 := by
      funext x
      unfold nc
      rw [if_neg (by omega)]
    rw [this, va_up_id]
  rw [e0] at h1
  exact h1
theorem kCpL_last {c : fb_N} (h : cw c) {e k r : Nat} (he : e ≤ 260) (hr : isNd (c 2) e k r) : ∀ n t, t ≤ 14 → 14 - t < n → l_X_copyName_last_6 n (nI k) (nI e) (if t ≤ r - k then 1 else 0) (nI t) (ka (va_up c 4 (nc c 4 k (r - k) t))) = some (0, ka (va_up c 4 (nc c 4 k (r - k) 14))) := by
  obtain ⟨r1, r2, r3, r4⟩ := hr
  intro n
  induction n with
  | zero => intro t _ h; omega
  | succ n ih =>
    intro t ht hn
    show b_X_copyName_last_6 (l_X_copyName_last_6 n) (nI k) (nI e) (if t ≤ r - k then 1 else 0) (nI t) _ = _
    unfold b_X_copyName_last_6
    by_cases e14 : t = 14
    · subst e14
      rw [if_pos (show (14 : Int32) ≤ nI 14 by decide)]
    · rw [if_neg (show ¬ (14 : Int32) ≤ nI t from nLe' (a := 14) (by omega) (by omega)), nI_add]
      have hcw : cw (va_up c 4 (nc c 4 k (r - k) t)) := by
        intro j q h1 h2
        by_cases ej : j = 4
        · subst ej
          rw [va_up_s]
          unfold nc
          split
          · split
            · exact h 2 _ (by decide) (by decide)
            · omega
          · exact h 4 _ h1 h2
        · rw [va_up_n _ _ _ ej]
          exact h j q h1 h2
      have u2 : va_up c 4 (nc c 4 k (r - k) t) 2 = c 2 := va_up_n _ _ _ (by decide)
      have stp : ∀ (v : Nat) (y : Int32), v = (if t < r - k then c 2 (k + t) else 0) → (if t + 1 ≤ r - k then (1 : Int32) else 0) = y → b_X_copyName_last_67 (l_X_copyName_last_6 n) (nI k) (nI e) y (nI t) (bs v) (nI t) (ka (va_up c 4 (nc c 4 k (r - k) t))) = some (0, ka (va_up c 4 (nc c 4 k (r - k) 14))) := by
        intro v y hv hy
        have hv2 : v < 256 := by
          rw [hv]
          have := h 2 (k + t) (by decide) (by decide)
          split <;> omega
        unfold b_X_copyName_last_67
        rw [bs_b v hv2, st_nI (by omega) (by omega), Option.bind_some, ka_b _ 4 _ _ (by omega), va_up_tw]
        have en : un1 (nc c 4 k (r - k) t) t v = nc c 4 k (r - k) (t + 1) := by
          funext x
          unfold un1 nc
          by_cases w : x = t
          · subst w
            rw [if_pos rfl, if_pos (by omega), hv]
          · rw [if_neg w]
            by_cases w2 : x < t
            · rw [if_pos w2, if_pos (show x < t + 1 by omega)]
            · rw [if_neg w2, if_neg (show ¬ x < t + 1 by omega)]
        rw [en, ← hy]
        show l_X_copyName_last_6 n (nI k) (nI e) _ (nI t + nI 1) _ = _
        rw [nI_add]
        exact ih (t + 1) (by omega) (by omega)
      have no : ¬ t < r - k → b_X_copyName_last_43 (l_X_copyName_last_6 n) (nI k) (nI e) (nI t) (ka (va_up c 4 (nc c 4 k (r - k) t))) = some (0, ka (va_up c 4 (nc c 4 k (r - k) 14))) := by
        intro hno
        unfold b_X_copyName_last_43 b_X_copyName_last_44
        rw [if_pos rfl]
        exact stp 0 0 (by rw [if_neg hno]) (by rw [if_neg (by omega)])
      by_cases z : t ≤ r - k
      · rw [if_pos z, if_neg n01]
        by_cases z2 : e ≤ k + t
        · rw [if_pos (by rw [nLe (by omega) (by omega)]; exact z2)]
          exact no (by omega)
        · have b1 := h 2 (k + t) (by decide) (by decide)
          rw [if_neg (by rw [nLe (by omega) (by omega)]; exact z2), kByte hcw (by omega), Option.bind_some, u2]
          by_cases z3 : c 2 (k + t) = 47
          · rw [if_pos (show nI (c 2 (k + t)) = (47 : Int32) from by rw [z3]; rfl)]
            exact no (fun q => r3 (k + t) (by omega) (by omega) z3)
          · have hlt : t < r - k := by
              rcases Nat.lt_or_ge t (r - k) with w | w
              · exact w
              · exfalso
                rcases r4 with w2 | w2
                · omega
                · rw [show k + t = r by omega] at z3
                  exact z3 w2
            rw [if_neg (show ¬ nI (c 2 (k + t)) = (47 : Int32) from fun q => z3 ((nEq (b := 47) (by omega) (by omega)).mp q))]
            unfold b_X_copyName_last_44
            rw [if_neg n01, nI_add, kByte hcw (by omega), Option.bind_some, u2]
            exact stp (c 2 (k + t)) 1 (by rw [if_pos hlt]) (by rw [if_pos (by omega)])
      · rw [if_neg z, if_pos rfl]
        exact no (by omega)
theorem kCopy_last {c : fb_N} (h : cw c) {e k r : Nat} (he : e ≤ 260) (hr : isNd (c 2) e k r) : f_X_copyName_last (nI k) (nI e) (ka c) = some (0, ka (va_up c 4 (nc c 4 k (r - k) 14))) := by
  have h1 := kCpL_last h he hr fb_n 0 (by omega) (by unfold fb_n; omega)
  rw [if_pos (by omega)] at h1
  have e0 : va_up c 4 (nc c 4 k (r - k) 0) = c := by
    have : nc c 4 k (r - k) 0 = c 4 := by
      funext x
      unfold nc
      rw [if_neg (by omega)]
    rw [this, va_up_id]
  rw [e0] at h1
  exact h1

/-! entries: the first with a name -/
def mt (A : fb_N) (nm : Nat → Nat) (d s : Nat) : Prop := nu A d (16 * s) ≠ 0 ∧ ∀ k, k < 14 → ne A d (16 * s) k = nm k
noncomputable def fe (P : Nat → Prop) : Nat → Nat → Option Nat
  | _, 0 => none
  | s, n + 1 => by classical exact if P s then some s else fe P (s + 1) n
theorem fe_p {P : Nat → Prop} {s : Nat} (n : Nat) (h : P s) : fe P s (n + 1) = some s := by
  simp [fe, h]
theorem fe_n {P : Nat → Prop} {s : Nat} (n : Nat) (h : ¬ P s) : fe P s (n + 1) = fe P (s + 1) n := by
  simp [fe, h]
theorem fe_some {P : Nat → Prop} : ∀ n s t, fe P s n = some t → s ≤ t ∧ t < s + n ∧ P t ∧ ∀ q, s ≤ q → q < t → ¬ P q := by
  intro n
  induction n with
  | zero => intro s t h; cases h
  | succ n ih =>
    intro s t h
    by_cases hp : P s
    · rw [fe_p n hp] at h
      cases h
      exact ⟨Nat.le_refl _, by omega, hp, fun q h1 h2 => by omega⟩
    · rw [fe_n n hp] at h
      obtain ⟨h1, h2, h3, h4⟩ := ih (s + 1) t h
      refine ⟨by omega, by omega, h3, fun q g1 g2 => ?_⟩
      by_cases e : q = s
      · rw [e]; exact hp
      · exact h4 q (by omega) g2
theorem fe_none {P : Nat → Prop} : ∀ n s, fe P s n = none → ∀ t, s ≤ t → t < s + n → ¬ P t := by
  intro n
  induction n with
  | zero => intro s _ t h1 h2; omega
  | succ n ih =>
    intro s h t h1 h2
    by_cases hp : P s
    · rw [fe_p n hp] at h; cases h
    · rw [fe_n n hp] at h
      by_cases e : t = s
      · rw [e]; exact hp
      · exact ih (s + 1) h t (by omega) (by omega)
theorem fe_cg {P Q : Nat → Prop} : ∀ n s, (∀ t, s ≤ t → t < s + n → (P t ↔ Q t)) → fe P s n = fe Q s n := by
  intro n
  induction n with
  | zero => intro s _; rfl
  | succ n ih =>
    intro s h
    have h0 := h s (Nat.le_refl _) (by omega)
    have h1 := ih (s + 1) (fun t g1 g2 => h t (by omega) (by omega))
    by_cases hp : P s
    · rw [fe_p n hp, fe_p n (h0.mp hp)]
    · rw [fe_n n hp, fe_n n (fun q => hp (h0.mpr q)), h1]
def an (f : Nat → Nat) : Option Nat → Int32
  | none => -1
  | some t => nI (f t)
theorem or8 {a b : Nat} (ha : a < 256) (hb : b < 256) : nI a ||| (nI b <<< (nI 8 &&& nI 31)) = nI (a + 256 * b) := by
  apply b_ext
  intro i hi
  have h1 : bt (nI b <<< (nI 8 &&& nI 31)) i = (decide (8 ≤ i) && bt (nI b) (i - 8)) := b_shl 8 (by omega) (nI b) hi
  have h2 := Nat.testBit_two_pow_mul_add b (show a < 2 ^ 8 by omega) i
  rw [b_or, h1, bt_nI _ hi, bt_nI _ hi, bt_nI _ (show i - 8 < 32 by omega), show a + 256 * b = 2 ^ 8 * b + a by omega, h2]
  by_cases h : i < 8
  · rw [if_pos h, decide_eq_false (by omega)]; simp
  · rw [if_neg h, decide_eq_true (by omega)]
    have : a.testBit i = false := Nat.testBit_lt_two_pow (Nat.lt_of_lt_of_le (show a < 2 ^ 8 by omega) (Nat.pow_le_pow_right (by omega) (by omega)))
    rw [this]
    simp
theorem mNum {A : fb_N} (o : oA A) {d p : Nat} (hd : d < 64) (hp : p < 275456) (h2 : pl A d p + 1 < 524288) : f_M_numberAt (nI d) (nI p) (mu A) = some (nI (nu A d p), mu A) := by
  unfold f_M_numberAt
  simp only [il]
  rw [mPlace o hd hp, Option.bind_some, ld_nI (by omega) (by omega), Option.bind_some, nI_add, ld_nI h2 (by omega), Option.bind_some]
  show some (bs (A 2 (pl A d p)) &&& nI 255 ||| ((bs (A 2 (pl A d p + 1)) &&& nI 255) <<< (nI 8 &&& nI 31)), mu A) = _
  rw [bs_k _ (o.dk _), bs_k _ (o.dk _), or8 (o.dk _) (o.dk _)]
  rfl
theorem nu_lt {A : fb_N} (o : oA A) (d p : Nat) : nu A d p < 65536 := by
  have h1 := o.dk (pl A d p)
  have h2 := o.dk (pl A d p + 1)
  unfold nu
  omega
theorem pl_e {A : fb_N} (o : oA A) (hB : BK A) (hD : DI A) {d s : Nat} (hd : d < 64) (hs : 16 * s < A 8 d) : 38912 ≤ pl A d (16 * s) ∧ pl A d (16 * s) + 16 ≤ 524288 ∧ pl A d (16 * s) % 16 = 0 := by
  have h := pl_ge o hB hd (vl_in hD hd hs)
  unfold pl at h ⊢
  omega
theorem kNumE {c A : fb_N} (h : RC c A) (o : oA A) (hB : BK A) (hD : DI A) {d s : Nat} (hd : d < 64) (hs : 16 * s < A 8 d) : f_K_partAt (nI (pl A d (16 * s))) (65535 : Int32) (ka c) = some (nI (nu A d (16 * s)), ka c) := by
  obtain ⟨h1, h2, h3⟩ := pl_e o hB hD hd hs
  rw [kPart16 h.w (by omega) (by omega), h.x (by omega) (by omega), h.x (by omega) (by omega)]
  rfl
/-! the reference -/
theorem mEnt0 (k2 : Int32 → Int32 → fb_S → Option (Int32 × fb_S)) (st : fb_S) (x p y : Int32) : ∀ n t, t ≤ 14 → 14 - t < n → l_M_entry_40 k2 n x p (0 : Int32) y (nI t) st = k2 x (p + (16 : Int32)) st := by
  intro n
  induction n with
  | zero => intro t _ h; omega
  | succ n ih =>
    intro t ht hn
    show b_M_entry_40 k2 (l_M_entry_40 k2 n) x p 0 y (nI t) st = _
    unfold b_M_entry_40
    by_cases e : t = 14
    · subst e
      rw [if_pos (show (14 : Int32) ≤ nI 14 by decide), if_pos rfl]
    · rw [if_neg (show ¬ (14 : Int32) ≤ nI t from nLe' (a := 14) (by omega) (by omega)), if_pos rfl]
      unfold b_M_entry_75 b_M_entry_76
      show l_M_entry_40 k2 n x p 0 y (nI t + nI 1) st = _
      rw [nI_add]
      exact ih (t + 1) (by omega) (by omega)
theorem mEnt1 {A : fb_N} (o : oA A) (k2 : Int32 → Int32 → fb_S → Option (Int32 × fb_S)) (x p : Int32) {q : Nat} (hq : q + 14 ≤ 524288) : ∀ n t, t ≤ 14 → 14 - t < n → ((∀ k, t ≤ k → k < 14 → A 2 (q + k) = A 13 k) ∧ l_M_entry_40 k2 n x p (1 : Int32) (nI q) (nI t) (mu A) = some (p, mu A)) ∨ ((¬ ∀ k, t ≤ k → k < 14 → A 2 (q + k) = A 13 k) ∧ l_M_entry_40 k2 n x p (1 : Int32) (nI q) (nI t) (mu A) = k2 x (p + (16 : Int32)) (mu A)) := by
  intro n
  induction n with
  | zero => intro t _ h; omega
  | succ n ih =>
    intro t ht hn
    have e0 : l_M_entry_40 k2 (n + 1) x p (1 : Int32) (nI q) (nI t) (mu A) = b_M_entry_40 k2 (l_M_entry_40 k2 n) x p 1 (nI q) (nI t) (mu A) := rfl
    rw [e0]
    unfold b_M_entry_40
    by_cases e : t = 14
    · subst e
      rw [if_pos (show (14 : Int32) ≤ nI 14 by decide), if_neg n01]
      exact Or.inl ⟨fun k h1 h2 => by omega, rfl⟩
    · rw [if_neg (show ¬ (14 : Int32) ≤ nI t from nLe' (a := 14) (by omega) (by omega)), if_neg n01, nI_add, ld_nI (by omega) (by omega), Option.bind_some, ld_nI (by omega) (by omega), Option.bind_some, mu_2, mu_13]
      unfold b_M_entry_75 b_M_entry_76
      by_cases z : A 2 (q + t) = A 13 t
      · rw [if_pos (by rw [z])]
        have g := ih (t + 1) (by omega) (by omega)
        show (_ ∧ l_M_entry_40 k2 n x p 1 (nI q) (nI t + nI 1) (mu A) = _) ∨ (_ ∧ l_M_entry_40 k2 n x p 1 (nI q) (nI t + nI 1) (mu A) = _)
        rw [nI_add]
        rcases g with ⟨g1, g2⟩ | ⟨g1, g2⟩
        · refine Or.inl ⟨fun k h1 h2 => ?_, g2⟩
          by_cases e2 : k = t
          · rw [e2, z]
          · exact g1 k (by omega) h2
        · exact Or.inr ⟨fun w => g1 (fun k h1 h2 => w k (by omega) h2), g2⟩
      · rw [if_neg (by rw [bs_eq (o.dk _) (o.nm _)]; exact z)]
        refine Or.inr ⟨fun w => z (w t (Nat.le_refl _) (by omega)), ?_⟩
        show l_M_entry_40 k2 n x p 0 (nI q) (nI t + nI 1) (mu A) = _
        rw [nI_add]
        exact mEnt0 k2 (mu A) x p (nI q) n (t + 1) (by omega) (by omega)
theorem mEntryL {A : fb_N} (o : oA A) (hB : BK A) (hD : DI A) {d m : Nat} (hd : d < 64) (hm : A 8 d = 16 * m) : ∀ n s, s ≤ m → m - s < n → l_M_entry_2 n (nI d) (nI (16 * s)) (mu A) = some (an (fun t => 16 * t) (fe (mt A (A 13) d) s (m - s)), mu A) := by
  have h8 := o.sz d
  intro n
  induction n with
  | zero => intro s _ h; omega
  | succ n ih =>
    intro s hs hn
    show b_M_entry_2 (l_M_entry_2 n) (nI d) (nI (16 * s)) (mu A) = _
    unfold b_M_entry_2
    rw [ld_nI hd (by omega), Option.bind_some, mu_8]
    by_cases e : s = m
    · rw [if_pos (by rw [nLe (by omega) (by omega)]; omega), e, Nat.sub_self]
      rfl
    · have hs2 : 16 * s < A 8 d := by omega
      obtain ⟨p1, p2, p3⟩ := pl_e o hB hD hd hs2
      have hu := nu_lt o d (16 * s)
      have gt : l_M_entry_2 n (nI d) (nI (16 * s) + (16 : Int32)) (mu A) = some (an (fun t => 16 * t) (fe (mt A (A 13) d) (s + 1) (m - (s + 1))), mu A) := by
        show l_M_entry_2 n (nI d) (nI (16 * s) + nI 16) (mu A) = _
        rw [nI_add, show 16 * s + 16 = 16 * (s + 1) by omega]
        exact ih (s + 1) (by omega) (by omega)
      rw [if_neg (by rw [nLe (by omega) (by omega)]; omega), mNum o hd (by omega) (by omega), Option.bind_some, show m - s = m - (s + 1) + 1 by omega]
      have e26 : ∀ y, b_M_entry_26 (l_M_entry_2 n) (nI d) (nI (16 * s)) y (mu A) = l_M_entry_40 (l_M_entry_2 n) fb_n (nI d) (nI (16 * s)) y (nI (pl A d (16 * s) + 2)) (nI 0) (mu A) := by
        intro y
        unfold b_M_entry_26
        rw [mPlace o hd (by omega), Option.bind_some]
        show l_M_entry_40 (l_M_entry_2 n) fb_n (nI d) (nI (16 * s)) y (nI (pl A d (16 * s)) + nI 2) (nI 0) (mu A) = _
        rw [nI_add]
      by_cases z : nu A d (16 * s) = 0
      · rw [if_pos (show nI (nu A d (16 * s)) ≤ (0 : Int32) from by rw [z]; decide), e26, mEnt0 _ _ _ _ _ fb_n 0 (by omega) (by unfold fb_n; omega), gt, fe_n _ (fun q => q.1 z)]
      · rw [if_neg (show ¬ nI (nu A d (16 * s)) ≤ (0 : Int32) from fun q => by have := (nLe (b := 0) (by omega) (by omega)).mp q; omega), e26]
        rcases mEnt1 o (l_M_entry_2 n) (nI d) (nI (16 * s)) (q := pl A d (16 * s) + 2) (by omega) fb_n 0 (by omega) (by unfold fb_n; omega) with ⟨g1, g2⟩ | ⟨g1, g2⟩
        · rw [g2, fe_p _ ⟨z, fun k hk => g1 k (by omega) hk⟩]
          rfl
        · rw [g2, gt, fe_n _ (fun q => g1 (fun k _ hk => q.2 k hk))]
noncomputable def fd (A : fb_N) (nm : Nat → Nat) (d : Nat) : Option Nat := if A 4 d = 1 then fe (mt A nm d) 0 (A 8 d / 16) else none
theorem mEntry {A : fb_N} (o : oA A) (hB : BK A) (hD : DI A) {d : Nat} (hd : d < 64) (hk : A 4 d = 1) : f_M_entry (nI d) (mu A) = some (an (fun t => 16 * t) (fd A (A 13) d), mu A) := by
  have hm := (hD.dS d hd hk).1
  have h := mEntryL o hB hD hd (m := A 8 d / 16) (by omega) fb_n 0 (by omega) (by have := o.sz d; unfold fb_n; omega)
  unfold fd
  rw [if_pos hk]
  exact h
theorem fd_some {A : fb_N} (hD : DI A) {nm : Nat → Nat} {d s : Nat} (hd : d < 64) (h : fd A nm d = some s) : en A d s ∧ mt A nm d s := by
  unfold fd at h
  by_cases hk : A 4 d = 1
  · rw [if_pos hk] at h
    obtain ⟨-, h2, h3, -⟩ := fe_some _ _ _ h
    exact ⟨⟨hd, hk, by have := (hD.dS d hd hk).1; omega⟩, h3⟩
  · rw [if_neg hk] at h; cases h
theorem fd_none {A : fb_N} (hD : DI A) {nm : Nat → Nat} {d : Nat} (h : fd A nm d = none) : ∀ s, en A d s → ¬ mt A nm d s := by
  intro s he
  unfold fd at h
  rw [if_pos he.2.1] at h
  exact fe_none _ _ h s (by omega) (by have := he.2.2; have := (hD.dS d he.1 he.2.1).1; omega)
theorem fd_cg {A B : fb_N} {nm nm2 : Nat → Nat} {d : Nat} (e2 : B 2 = A 2) (e4 : B 4 = A 4) (e8 : B 8 = A 8) (e11 : B 11 = A 11) (hn : ∀ k, k < 14 → nm2 k = nm k) : fd B nm2 d = fd A nm d := by
  unfold fd
  rw [e4, e8]
  have : fe (mt B nm2 d) 0 (A 8 d / 16) = fe (mt A nm d) 0 (A 8 d / 16) := by
    apply fe_cg
    intro t _ _
    unfold mt nu ne pl
    rw [e2, e11]
    constructor
    · exact fun q => ⟨q.1, fun k hk => (q.2 k hk).trans (hn k hk)⟩
    · exact fun q => ⟨q.1, fun k hk => (q.2 k hk).trans (hn k hk).symm⟩
  rw [this]
theorem kDSize {c A : fb_N} (h : RC c A) (o : oA A) {d : Nat} (hd : d < 64) : f_D_sizeOf (nI d) (ka c) = some (nI (if A 4 d = 1 then A 8 d else 0), ka c) := by
  have h4 := o.ki d
  unfold f_D_sizeOf
  rw [iKind h o hd, Option.bind_some]
  by_cases z : A 4 d = 1
  · rw [if_pos (show nI (A 4 d) = (1 : Int32) from by rw [z]; rfl), iSize h o hd, Option.bind_some, if_pos z]
  · rw [if_neg (show ¬ nI (A 4 d) = (1 : Int32) from fun q => z ((nEq (b := 1) (by omega) (by omega)).mp q)), if_neg z]
    rfl
theorem kNB_name {c : fb_N} (h : cw c) {t : Nat} (ht : t < 14) : f_D_nameByte_name (nI t) (ka c) = some (nI (c 3 t), ka c) := by
  unfold f_D_nameByte_name
  rw [if_neg (nn0 (by omega)), if_neg (show ¬ (14 : Int32) ≤ nI t from nLe' (a := 14) ht (by omega)), ld_nI ht (by decide), Option.bind_some]
  show some (bs (c 3 t) &&& nI 255, ka c) = _
  rw [bs_k _ (h 3 t (by decide) (by decide))]
theorem kHas_name {c A : fb_N} (h : RC c A) (nm : Nat → Nat) (hn : ∀ k, k < 14 → c 3 k = nm k) {q : Nat} (h1 : 38912 ≤ q) (h2 : q + 16 ≤ 524288) : ∀ n t, t ≤ 14 → 14 - t < n → ((∀ k, t ≤ k → k < 14 → A 2 (q + 2 + k) = nm k) ∧ l_D_hasName_name_2 n (nI q) (nI t) (ka c) = some (1, ka c)) ∨ ((¬ ∀ k, t ≤ k → k < 14 → A 2 (q + 2 + k) = nm k) ∧ l_D_hasName_name_2 n (nI q) (nI t) (ka c) = some (0, ka c)) := by
  intro n
  induction n with
  | zero => intro t _ h; omega
  | succ n ih =>
    intro t ht hk
    have e0 : l_D_hasName_name_2 (n + 1) (nI q) (nI t) (ka c) = b_D_hasName_name_2 (l_D_hasName_name_2 n) (nI q) (nI t) (ka c) := rfl
    rw [e0]
    unfold b_D_hasName_name_2
    by_cases e : t = 14
    · subst e
      rw [if_pos (show (14 : Int32) ≤ nI 14 by decide), rz1]
      exact Or.inl ⟨fun k g1 g2 => by omega, rfl⟩
    · have b1 := h.w 0 (q + 2 + t) (by decide) (by decide)
      have b2 := h.w 3 t (by decide) (by decide)
      have e3 : f_K_partAt ((nI q + (2 : Int32)) + nI t) (255 : Int32) (ka c) = some (nI (c 0 (q + 2 + t)), ka c) := by
        show f_K_partAt ((nI q + nI 2) + nI t) (255 : Int32) (ka c) = _
        rw [nI_add, nI_add, kPart8 h.w (by omega)]
      rw [if_neg (show ¬ (14 : Int32) ≤ nI t from nLe' (a := 14) (by omega) (by omega)), e3, Option.bind_some, kNB_name h.w (by omega), Option.bind_some]
      have ex := h.x (q := q + 2 + t) (by omega) (by omega)
      have en := hn t (by omega)
      by_cases z : A 2 (q + 2 + t) = nm t
      · rw [if_pos (show nI (c 0 (q + 2 + t)) = nI (c 3 t) by rw [ex, en, z])]
        have g := ih (t + 1) (by omega) (by omega)
        rw [← nI_add t 1] at g
        rcases g with ⟨g1, g2⟩ | ⟨g1, g2⟩
        · refine Or.inl ⟨fun k w1 w2 => ?_, g2⟩
          by_cases e2 : k = t
          · rw [e2, z]
          · exact g1 k (by omega) w2
        · exact Or.inr ⟨fun w => g1 (fun k w1 w2 => w k (by omega) w2), g2⟩
      · rw [if_neg (show ¬ nI (c 0 (q + 2 + t)) = nI (c 3 t) by rw [nEq (by omega) (by omega), ex, en]; exact z), rz0]
        exact Or.inr ⟨fun w => z (w t (Nat.le_refl _) (by omega)), rfl⟩
theorem kEntL_name {c A : fb_N} (h : RC c A) (o : oA A) (hB : BK A) (hD : DI A) (nm : Nat → Nat) (hn : ∀ k, k < 14 → c 3 k = nm k) {d m : Nat} (hd : d < 64) (hm : A 8 d = 16 * m) : ∀ n s, s ≤ m → m - s < n → l_D_entryNamed_name_9 n (nI d) (nI (A 8 d)) (nI (16 * s)) (ka c) = some (an (fun t => pl A d (16 * t)) (fe (mt A nm d) s (m - s)), ka c) := by
  have h8 := o.sz d
  intro n
  induction n with
  | zero => intro s _ h; omega
  | succ n ih =>
    intro s hs hk
    show b_D_entryNamed_name_9 (l_D_entryNamed_name_9 n) (nI d) (nI (A 8 d)) (nI (16 * s)) (ka c) = _
    unfold b_D_entryNamed_name_9
    by_cases e : s = m
    · rw [if_pos (by rw [nLe (by omega) (by omega)]; omega), e, Nat.sub_self]
      rfl
    · have hs2 : 16 * s < A 8 d := by omega
      obtain ⟨p1, p2, p3⟩ := pl_e o hB hD hd hs2
      have hu := nu_lt o d (16 * s)
      have gt : b_D_entryNamed_name_54 (l_D_entryNamed_name_9 n) (nI d) (nI (A 8 d)) (nI (16 * s)) (ka c) = some (an (fun t => pl A d (16 * t)) (fe (mt A nm d) (s + 1) (m - (s + 1))), ka c) := by
        unfold b_D_entryNamed_name_54
        show l_D_entryNamed_name_9 n (nI d) (nI (A 8 d)) (nI (16 * s) + nI 16) (ka c) = _
        rw [nI_add, show 16 * s + 16 = 16 * (s + 1) by omega]
        exact ih (s + 1) (by omega) (by omega)
      rw [if_neg (by rw [nLe (by omega) (by omega)]; omega), kPlaceIn h o hB hD hd hs2, Option.bind_some, kNumE h o hB hD hd hs2, Option.bind_some, show m - s = m - (s + 1) + 1 by omega]
      by_cases z : nu A d (16 * s) = 0
      · rw [if_pos (show nI (nu A d (16 * s)) = (0 : Int32) from by rw [z]; rfl), gt, fe_n _ (fun q => q.1 z)]
      · rw [if_neg (show ¬ nI (nu A d (16 * s)) = (0 : Int32) from fun q => z ((nEq (b := 0) (by omega) (by omega)).mp q))]
        unfold f_D_hasName_name
        rcases kHas_name h nm hn (q := pl A d (16 * s)) p1 p2 fb_n 0 (by omega) (by unfold fb_n; omega) with ⟨g1, g2⟩ | ⟨g1, g2⟩
        · have g2 : l_D_hasName_name_2 fb_n (nI (pl A d (16 * s))) (0 : Int32) (ka c) = some (1, ka c) := g2
          rw [g2, Option.bind_some, if_neg n01, fe_p _ ⟨z, fun k hk => g1 k (by omega) hk⟩]
          rfl
        · have g2 : l_D_hasName_name_2 fb_n (nI (pl A d (16 * s))) (0 : Int32) (ka c) = some (0, ka c) := g2
          rw [g2, Option.bind_some, if_pos rfl, gt, fe_n _ (fun q => g1 (fun k _ hk => q.2 k hk))]
theorem kEntry_name {c A : fb_N} (h : RC c A) (o : oA A) (hB : BK A) (hD : DI A) (nm : Nat → Nat) (hn : ∀ k, k < 14 → c 3 k = nm k) {d : Nat} (hd : d < 64) : f_D_entryNamed_name (nI d) (ka c) = some (an (fun t => pl A d (16 * t)) (fd A nm d), ka c) := by
  unfold f_D_entryNamed_name
  rw [kDSize h o hd, Option.bind_some]
  unfold fd
  by_cases hk : A 4 d = 1
  · have hm := (hD.dS d hd hk).1
    rw [if_pos hk, if_pos hk]
    exact kEntL_name h o hB hD nm hn hd (m := A 8 d / 16) (by omega) fb_n 0 (by omega) (by have := o.sz d; unfold fb_n; omega)
  · rw [if_neg hk, if_neg hk]
    show l_D_entryNamed_name_9 (fb_n - 1 + 1) (nI d) (nI 0) (nI 0) (ka c) = _
    show b_D_entryNamed_name_9 (l_D_entryNamed_name_9 (fb_n - 1)) (nI d) (nI 0) (nI 0) (ka c) = _
    unfold b_D_entryNamed_name_9
    rw [if_pos (by decide)]
    rfl
theorem kNB_last {c : fb_N} (h : cw c) {t : Nat} (ht : t < 14) : f_D_nameByte_last (nI t) (ka c) = some (nI (c 4 t), ka c) := by
  unfold f_D_nameByte_last
  rw [if_neg (nn0 (by omega)), if_neg (show ¬ (14 : Int32) ≤ nI t from nLe' (a := 14) ht (by omega)), ld_nI ht (by decide), Option.bind_some]
  show some (bs (c 4 t) &&& nI 255, ka c) = _
  rw [bs_k _ (h 4 t (by decide) (by decide))]
theorem kHas_last {c A : fb_N} (h : RC c A) (nm : Nat → Nat) (hn : ∀ k, k < 14 → c 4 k = nm k) {q : Nat} (h1 : 38912 ≤ q) (h2 : q + 16 ≤ 524288) : ∀ n t, t ≤ 14 → 14 - t < n → ((∀ k, t ≤ k → k < 14 → A 2 (q + 2 + k) = nm k) ∧ l_D_hasName_last_2 n (nI q) (nI t) (ka c) = some (1, ka c)) ∨ ((¬ ∀ k, t ≤ k → k < 14 → A 2 (q + 2 + k) = nm k) ∧ l_D_hasName_last_2 n (nI q) (nI t) (ka c) = some (0, ka c)) := by
  intro n
  induction n with
  | zero => intro t _ h; omega
  | succ n ih =>
    intro t ht hk
    have e0 : l_D_hasName_last_2 (n + 1) (nI q) (nI t) (ka c) = b_D_hasName_last_2 (l_D_hasName_last_2 n) (nI q) (nI t) (ka c) := rfl
    rw [e0]
    unfold b_D_hasName_last_2
    by_cases e : t = 14
    · subst e
      rw [if_pos (show (14 : Int32) ≤ nI 14 by decide), rz1]
      exact Or.inl ⟨fun k g1 g2 => by omega, rfl⟩
    · have b1 := h.w 0 (q + 2 + t) (by decide) (by decide)
      have b2 := h.w 4 t (by decide) (by decide)
      have e3 : f_K_partAt ((nI q + (2 : Int32)) + nI t) (255 : Int32) (ka c) = some (nI (c 0 (q + 2 + t)), ka c) := by
        show f_K_partAt ((nI q + nI 2) + nI t) (255 : Int32) (ka c) = _
        rw [nI_add, nI_add, kPart8 h.w (by omega)]
      rw [if_neg (show ¬ (14 : Int32) ≤ nI t from nLe' (a := 14) (by omega) (by omega)), e3, Option.bind_some, kNB_last h.w (by omega), Option.bind_some]
      have ex := h.x (q := q + 2 + t) (by omega) (by omega)
      have en := hn t (by omega)
      by_cases z : A 2 (q + 2 + t) = nm t
      · rw [if_pos (show nI (c 0 (q + 2 + t)) = nI (c 4 t) by rw [ex, en, z])]
        have g := ih (t + 1) (by omega) (by omega)
        rw [← nI_add t 1] at g
        rcases g with ⟨g1, g2⟩ | ⟨g1, g2⟩
        · refine Or.inl ⟨fun k w1 w2 => ?_, g2⟩
          by_cases e2 : k = t
          · rw [e2, z]
          · exact g1 k (by omega) w2
        · exact Or.inr ⟨fun w => g1 (fun k w1 w2 => w k (by omega) w2), g2⟩
      · rw [if_neg (show ¬ nI (c 0 (q + 2 + t)) = nI (c 4 t) by rw [nEq (by omega) (by omega), ex, en]; exact z), rz0]
        exact Or.inr ⟨fun w => z (w t (Nat.le_refl _) (by omega)), rfl⟩
theorem kEntL_last {c A : fb_N} (h : RC c A) (o : oA A) (hB : BK A) (hD : DI A) (nm : Nat → Nat) (hn : ∀ k, k < 14 → c 4 k = nm k) {d m : Nat} (hd : d < 64) (hm : A 8 d = 16 * m) : ∀ n s, s ≤ m → m - s < n → l_D_entryNamed_last_9 n (nI d) (nI (A 8 d)) (nI (16 * s)) (ka c) = some (an (fun t => pl A d (16 * t)) (fe (mt A nm d) s (m - s)), ka c) := by
  have h8 := o.sz d
  intro n
  induction n with
  | zero => intro s _ h; omega
  | succ n ih =>
    intro s hs hk
    show b_D_entryNamed_last_9 (l_D_entryNamed_last_9 n) (nI d) (nI (A 8 d)) (nI (16 * s)) (ka c) = _
    unfold b_D_entryNamed_last_9
    by_cases e : s = m
    · rw [if_pos (by rw [nLe (by omega) (by omega)]; omega), e, Nat.sub_self]
      rfl
    · have hs2 : 16 * s < A 8 d := by omega
      obtain ⟨p1, p2, p3⟩ := pl_e o hB hD hd hs2
      have hu := nu_lt o d (16 * s)
      have gt : b_D_entryNamed_last_54 (l_D_entryNamed_last_9 n) (nI d) (nI (A 8 d)) (nI (16 * s)) (ka c) = some (an (fun t => pl A d (16 * t)) (fe (mt A nm d) (s + 1) (m - (s + 1))), ka c) := by
        unfold b_D_entryNamed_last_54
        show l_D_entryNamed_last_9 n (nI d) (nI (A 8 d)) (nI (16 * s) + nI 16) (ka c) = _
        rw [nI_add, show 16 * s + 16 = 16 * (s + 1) by omega]
        exact ih (s + 1) (by omega) (by omega)
      rw [if_neg (by rw [nLe (by omega) (by omega)]; omega), kPlaceIn h o hB hD hd hs2, Option.bind_some, kNumE h o hB hD hd hs2, Option.bind_some, show m - s = m - (s + 1) + 1 by omega]
      by_cases z : nu A d (16 * s) = 0
      · rw [if_pos (show nI (nu A d (16 * s)) = (0 : Int32) from by rw [z]; rfl), gt, fe_n _ (fun q => q.1 z)]
      · rw [if_neg (show ¬ nI (nu A d (16 * s)) = (0 : Int32) from fun q => z ((nEq (b := 0) (by omega) (by omega)).mp q))]
        unfold f_D_hasName_last
        rcases kHas_last h nm hn (q := pl A d (16 * s)) p1 p2 fb_n 0 (by omega) (by unfold fb_n; omega) with ⟨g1, g2⟩ | ⟨g1, g2⟩
        · have g2 : l_D_hasName_last_2 fb_n (nI (pl A d (16 * s))) (0 : Int32) (ka c) = some (1, ka c) := g2
          rw [g2, Option.bind_some, if_neg n01, fe_p _ ⟨z, fun k hk => g1 k (by omega) hk⟩]
          rfl
        · have g2 : l_D_hasName_last_2 fb_n (nI (pl A d (16 * s))) (0 : Int32) (ka c) = some (0, ka c) := g2
          rw [g2, Option.bind_some, if_pos rfl, gt, fe_n _ (fun q => g1 (fun k _ hk => q.2 k hk))]
theorem kEntry_last {c A : fb_N} (h : RC c A) (o : oA A) (hB : BK A) (hD : DI A) (nm : Nat → Nat) (hn : ∀ k, k < 14 → c 4 k = nm k) {d : Nat} (hd : d < 64) : f_D_entryNamed_last (nI d) (ka c) = some (an (fun t => pl A d (16 * t)) (fd A nm d), ka c) := by
  unfold f_D_entryNamed_last
  rw [kDSize h o hd, Option.bind_some]
  unfold fd
  by_cases hk : A 4 d = 1
  · have hm := (hD.dS d hd hk).1
    rw [if_pos hk, if_pos hk]
    exact kEntL_last h o hB hD nm hn hd (m := A 8 d / 16) (by omega) fb_n 0 (by omega) (by have := o.sz d; unfold fb_n; omega)
  · rw [if_neg hk, if_neg hk]
    show l_D_entryNamed_last_9 (fb_n - 1 + 1) (nI d) (nI 0) (nI 0) (ka c) = _
    show b_D_entryNamed_last_9 (l_D_entryNamed_last_9 (fb_n - 1)) (nI d) (nI 0) (nI 0) (ka c) = _
    unfold b_D_entryNamed_last_9
    rw [if_pos (by decide)]
    rfl

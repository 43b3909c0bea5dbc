/-! an entry is laid -/
def LB (f : Nat → Nat) (q i : Nat) (nm : Nat → Nat) (t : Nat) : Nat → Nat := fun x => if x = q then i % 256 else if x = q + 1 then i / 256 % 256 else if q + 2 ≤ x ∧ x < q + 2 + t then nm (x - q - 2) else f x
theorem LB_up (f : Nat → Nat) (q i : Nat) (nm : Nat → Nat) (t : Nat) : un1 (LB f q i nm t) (q + 2 + t) (nm t) = LB f q i nm (t + 1) := by
  funext x
  unfold un1 LB
  by_cases e : x = q + 2 + t
  · rw [if_pos e, if_neg (by omega), if_neg (by omega), if_pos (by omega), show x - q - 2 = t by omega]
  · rw [if_neg e]
    by_cases e1 : x = q
    · rw [if_pos e1, if_pos e1]
    · rw [if_neg e1, if_neg e1]
      by_cases e2 : x = q + 1
      · rw [if_pos e2, if_pos e2]
      · rw [if_neg e2, if_neg e2]
        by_cases e3 : q + 2 ≤ x ∧ x < q + 2 + t
        · rw [if_pos e3, if_pos (show q + 2 ≤ x ∧ x < q + 2 + (t + 1) by omega)]
        · rw [if_neg e3, if_neg (show ¬ (q + 2 ≤ x ∧ x < q + 2 + (t + 1)) by omega)]
theorem LB_lt {f : Nat → Nat} (hf : ∀ x, f x < 256) {q i t : Nat} {nm : Nat → Nat} (hn : ∀ k, k < t → nm k < 256) (x : Nat) : LB f q i nm t x < 256 := by
  unfold LB
  split
  · omega
  · split
    · omega
    · split
      · exact hn _ (by omega)
      · exact hf x
theorem LB_out {f : Nat → Nat} {q i t x : Nat} {nm : Nat → Nat} (h : x < q ∨ q + 2 + t ≤ x) : LB f q i nm t x = f x := by
  unfold LB
  rw [if_neg (by omega), if_neg (by omega), if_neg (by omega)]
theorem LB_cg (f : Nat → Nat) (q i t : Nat) {nm nm2 : Nat → Nat} (h : ∀ k, k < t → nm k = nm2 k) : LB f q i nm t = LB f q i nm2 t := by
  funext x
  unfold LB
  by_cases e1 : x = q
  · rw [if_pos e1, if_pos e1]
  · rw [if_neg e1, if_neg e1]
    by_cases e2 : x = q + 1
    · rw [if_pos e2, if_pos e2]
    · rw [if_neg e2, if_neg e2]
      by_cases e3 : q + 2 ≤ x ∧ x < q + 2 + t
      · rw [if_pos e3, if_pos e3, h _ (by omega)]
      · rw [if_neg e3, if_neg e3]
theorem mLayL (A : fb_N) (hn : ∀ k, A 13 k < 256) {q i : Nat} (hq : q + 16 ≤ 524288) : ∀ n t, t ≤ 14 → 14 - t < n → l_M_lay_19 n (nI q) (nI t) (mu (va_up A 2 (LB (A 2) q i (A 13) t))) = some (0, mu (va_up A 2 (LB (A 2) q i (A 13) 14))) := by
  intro n
  induction n with
  | zero => intro t _ h; omega
  | succ n ih =>
    intro t ht hk
    show b_M_lay_19 (l_M_lay_19 n) (nI q) (nI t) _ = _
    unfold b_M_lay_19
    simp only [il]
    by_cases e : t = 14
    · subst e
      rw [if_pos (by decide)]
    · rw [if_neg (nLe' (a := 14) (by omega) (by omega)), ld_nI (by omega) (by omega), Option.bind_some, mu_13, va_up_n _ _ _ (by omega), nI_add, nI_add, st_nI (by omega) (by omega), Option.bind_some, bs_b _ (hn t), mu_b _ 2 _ _ (by omega), va_up_tw, LB_up, nI_add]
      exact ih (t + 1) (by omega) (by omega)
theorem mLay {A : fb_N} (o : oA A) {d p i : Nat} (hd : d < 64) (hp : p < 275456) (hq : pl A d p + 16 ≤ 524288) (hi : i < 64) : f_M_lay (nI d) (nI p) (nI i) (mu A) = some (0, mu (va_up A 2 (LB (A 2) (pl A d p) i (A 13) 14))) := by
  unfold f_M_lay
  rw [mPlace o hd hp, Option.bind_some]
  show (f_M_putNumber (nI (pl A d p)) (nI 2) (nI i) (mu A)).bind _ = _
  rw [mPut A (by omega) (by omega) (by omega), Option.bind_some]
  have e : va_up A 2 (pn (A 2) (pl A d p) 2 i) = va_up A 2 (LB (A 2) (pl A d p) i (A 13) 0) := by
    have : pn (A 2) (pl A d p) 2 i = LB (A 2) (pl A d p) i (A 13) 0 := by
      funext x
      unfold pn LB
      by_cases e1 : x = pl A d p
      · rw [if_pos e1, if_pos (by omega), e1, Nat.sub_self, le0]
      · rw [if_neg e1]
        by_cases e2 : x = pl A d p + 1
        · rw [if_pos e2, if_pos (by omega), e2, show pl A d p + 1 - pl A d p = 1 by omega, le1]
        · rw [if_neg e2, if_neg (by omega), if_neg (by omega)]
    rw [this]
  rw [e]
  exact mLayL A o.nm (by omega) fb_n 0 (by omega) (by unfold fb_n; omega)
theorem kNB_z1 (st : fb_S) {t : Nat} (ht : t < 14) : f_D_nameByte_z1 (nI t) st = some (nI (if t < 1 then 46 else 0), st) := by
  unfold f_D_nameByte_z1
  rw [if_neg (nn0 (by omega))]
  by_cases e : t < 1
  · rw [if_neg (show ¬ (1 : Int32) ≤ nI t from nLe' (a := 1) e (by omega)), ld_nI e (by decide), Option.bind_some, if_pos e, show zf_1 t &&& (255 : Int32) = nI 46 by show (46 : Int32) &&& 255 = _; decide]
  · rw [if_pos (show (1 : Int32) ≤ nI t from (nLe (a := 1) (by omega) (by omega)).mpr (by omega)), if_neg e]
    rfl
theorem kNB_z2 (st : fb_S) {t : Nat} (ht : t < 14) : f_D_nameByte_z2 (nI t) st = some (nI (if t < 2 then 46 else 0), st) := by
  unfold f_D_nameByte_z2
  rw [if_neg (nn0 (by omega))]
  by_cases e : t < 2
  · rw [if_neg (show ¬ (2 : Int32) ≤ nI t from nLe' (a := 2) e (by omega)), ld_nI e (by decide), Option.bind_some, if_pos e, show zf_2 t &&& (255 : Int32) = nI 46 by show (46 : Int32) &&& 255 = _; decide]
  · rw [if_pos (show (2 : Int32) ≤ nI t from (nLe (a := 2) (by omega) (by omega)).mpr (by omega)), if_neg e]
    rfl
theorem cw_0 {c : fb_N} (h : cw c) {f : Nat → Nat} (hf : ∀ x, f x < 256) : cw (va_up c 0 f) := by
  intro k p h1 h2
  by_cases e : k = 0
  · subst e
    rw [va_up_s]; exact hf p
  · rw [va_up_n _ _ _ e]; exact h k p h1 h2
theorem kLayL_last {c : fb_N} (h : cw c) (nm : Nat → Nat) (hnb : ∀ k, k < 14 → nm k < 256) (hn : ∀ k, k < 14 → c 4 k = nm k) {q i : Nat} (hq : q + 16 ≤ 524288) : ∀ n t, t ≤ 14 → 14 - t < n → l_D_addEntry_last_87 n (nI q) (nI t) (ka (va_up c 0 (LB (c 0) q i nm t))) = some (0, ka (va_up c 0 (LB (c 0) q i nm 14))) := by
  intro n
  induction n with
  | zero => intro t _ h; omega
  | succ n ih =>
    intro t ht hk
    have hcw : cw (va_up c 0 (LB (c 0) q i nm t)) := cw_0 h (LB_lt h.b (fun k hk => hnb k (by omega)))
    show b_D_addEntry_last_87 (l_D_addEntry_last_87 n) (nI q) (nI t) _ = _
    unfold b_D_addEntry_last_87
    by_cases e : t = 14
    · subst e
      rw [if_pos (show (14 : Int32) ≤ nI 14 by decide)]
    · have e1 : f_D_nameByte_last (nI t) (ka (va_up c 0 (LB (c 0) q i nm t))) = some (nI (nm t), ka (va_up c 0 (LB (c 0) q i nm t))) := by
        rw [kNB_last hcw (by omega), va_up_n _ _ _ (by decide), hn t (by omega)]
      have e2 : f_K_setPart ((nI q + (2 : Int32)) + nI t) (255 : Int32) (nI (nm t)) (ka (va_up c 0 (LB (c 0) q i nm t))) = some (0, ka (va_up c 0 (LB (c 0) q i nm (t + 1)))) := by
        show f_K_setPart ((nI q + nI 2) + nI t) (255 : Int32) (nI (nm t)) _ = _
        have hb := hnb t (by omega)
        rw [nI_add, nI_add, kSet8 hcw (by omega), un_nI, show nm t % 4294967296 % 256 = nm t by omega, va_up_tw, LB_up]
      rw [if_neg (show ¬ (14 : Int32) ≤ nI t from nLe' (a := 14) (by omega) (by omega)), e1, Option.bind_some, e2, Option.bind_some]
      show l_D_addEntry_last_87 n (nI q) (nI t + nI 1) _ = _
      rw [nI_add]
      exact ih (t + 1) (by omega) (by omega)
theorem kLay_last {c : fb_N} (h : cw c) (nm : Nat → Nat) (hnb : ∀ k, k < 14 → nm k < 256) (hn : ∀ k, k < 14 → c 4 k = nm k) {q i : Nat} (hq : q + 16 ≤ 524288) (h2 : q % 2 = 0) (hi : i < 64) : b_D_addEntry_last_72 (nI i) (nI q) (ka c) = some (0, ka (va_up c 0 (LB (c 0) q i nm 14))) := by
  unfold b_D_addEntry_last_72
  rw [kSet16 h (by omega) h2, Option.bind_some, un_nI]
  have e : up (up c 0 q (i % 4294967296 % 256)) 0 (q + 1) (i % 4294967296 / 256 % 256) = va_up c 0 (LB (c 0) q i nm 0) := by
    funext k x
    by_cases hk : k = 0
    · subst hk
      rw [va_up_s]
      unfold LB
      by_cases e1 : x = q
      · rw [if_pos e1, e1, up_n _ (by omega), up_s]
        omega
      · rw [if_neg e1]
        by_cases e2 : x = q + 1
        · rw [if_pos e2, e2, up_s]
          omega
        · rw [if_neg e2, if_neg (by omega), up_n _ (Or.inr e2), up_n _ (Or.inr e1)]
    · rw [up_n _ (Or.inl hk), up_n _ (Or.inl hk), va_up_n _ _ _ hk]
  show l_D_addEntry_last_87 fb_n (nI q) (nI 0) (ka (up (up c 0 q (i % 4294967296 % 256)) 0 (q + 1) (i % 4294967296 / 256 % 256))) = _
  rw [e]
  exact kLayL_last h nm hnb hn hq fb_n 0 (by omega) (by unfold fb_n; omega)
theorem kLayL_z1 {c : fb_N} (h : cw c) (nm : Nat → Nat) (hnb : ∀ k, k < 14 → nm k < 256) (hn : ∀ k, k < 14 → (if k < 1 then 46 else 0) = nm k) {q i : Nat} (hq : q + 16 ≤ 524288) : ∀ n t, t ≤ 14 → 14 - t < n → l_D_addEntry_z1_87 n (nI q) (nI t) (ka (va_up c 0 (LB (c 0) q i nm t))) = some (0, ka (va_up c 0 (LB (c 0) q i nm 14))) := by
  intro n
  induction n with
  | zero => intro t _ h; omega
  | succ n ih =>
    intro t ht hk
    have hcw : cw (va_up c 0 (LB (c 0) q i nm t)) := cw_0 h (LB_lt h.b (fun k hk => hnb k (by omega)))
    show b_D_addEntry_z1_87 (l_D_addEntry_z1_87 n) (nI q) (nI t) _ = _
    unfold b_D_addEntry_z1_87
    by_cases e : t = 14
    · subst e
      rw [if_pos (show (14 : Int32) ≤ nI 14 by decide)]
    · have e1 : f_D_nameByte_z1 (nI t) (ka (va_up c 0 (LB (c 0) q i nm t))) = some (nI (nm t), ka (va_up c 0 (LB (c 0) q i nm t))) := by
        rw [kNB_z1 _ (by omega), hn t (by omega)]
      have e2 : f_K_setPart ((nI q + (2 : Int32)) + nI t) (255 : Int32) (nI (nm t)) (ka (va_up c 0 (LB (c 0) q i nm t))) = some (0, ka (va_up c 0 (LB (c 0) q i nm (t + 1)))) := by
        show f_K_setPart ((nI q + nI 2) + nI t) (255 : Int32) (nI (nm t)) _ = _
        have hb := hnb t (by omega)
        rw [nI_add, nI_add, kSet8 hcw (by omega), un_nI, show nm t % 4294967296 % 256 = nm t by omega, va_up_tw, LB_up]
      rw [if_neg (show ¬ (14 : Int32) ≤ nI t from nLe' (a := 14) (by omega) (by omega)), e1, Option.bind_some, e2, Option.bind_some]
      show l_D_addEntry_z1_87 n (nI q) (nI t + nI 1) _ = _
      rw [nI_add]
      exact ih (t + 1) (by omega) (by omega)
theorem kLay_z1 {c : fb_N} (h : cw c) (nm : Nat → Nat) (hnb : ∀ k, k < 14 → nm k < 256) (hn : ∀ k, k < 14 → (if k < 1 then 46 else 0) = nm k) {q i : Nat} (hq : q + 16 ≤ 524288) (h2 : q % 2 = 0) (hi : i < 64) : b_D_addEntry_z1_72 (nI i) (nI q) (ka c) = some (0, ka (va_up c 0 (LB (c 0) q i nm 14))) := by
  unfold b_D_addEntry_z1_72
  rw [kSet16 h (by omega) h2, Option.bind_some, un_nI]
  have e : up (up c 0 q (i % 4294967296 % 256)) 0 (q + 1) (i % 4294967296 / 256 % 256) = va_up c 0 (LB (c 0) q i nm 0) := by
    funext k x
    by_cases hk : k = 0
    · subst hk
      rw [va_up_s]
      unfold LB
      by_cases e1 : x = q
      · rw [if_pos e1, e1, up_n _ (by omega), up_s]
        omega
      · rw [if_neg e1]
        by_cases e2 : x = q + 1
        · rw [if_pos e2, e2, up_s]
          omega
        · rw [if_neg e2, if_neg (by omega), up_n _ (Or.inr e2), up_n _ (Or.inr e1)]
    · rw [up_n _ (Or.inl hk), up_n _ (Or.inl hk), va_up_n _ _ _ hk]
  show l_D_addEntry_z1_87 fb_n (nI q) (nI 0) (ka (up (up c 0 q (i % 4294967296 % 256)) 0 (q + 1) (i % 4294967296 / 256 % 256))) = _
  rw [e]
  exact kLayL_z1 h nm hnb hn hq fb_n 0 (by omega) (by unfold fb_n; omega)
theorem kLayL_z2 {c : fb_N} (h : cw c) (nm : Nat → Nat) (hnb : ∀ k, k < 14 → nm k < 256) (hn : ∀ k, k < 14 → (if k < 2 then 46 else 0) = nm k) {q i : Nat} (hq : q + 16 ≤ 524288) : ∀ n t, t ≤ 14 → 14 - t < n → l_D_addEntry_z2_87 n (nI q) (nI t) (ka (va_up c 0 (LB (c 0) q i nm t))) = some (0, ka (va_up c 0 (LB (c 0) q i nm 14))) := by
  intro n
  induction n with
  | zero => intro t _ h; omega
  | succ n ih =>
    intro t ht hk
    have hcw : cw (va_up c 0 (LB (c 0) q i nm t)) := cw_0 h (LB_lt h.b (fun k hk => hnb k (by omega)))
    show b_D_addEntry_z2_87 (l_D_addEntry_z2_87 n) (nI q) (nI t) _ = _
    unfold b_D_addEntry_z2_87
    by_cases e : t = 14
    · subst e
      rw [if_pos (show (14 : Int32) ≤ nI 14 by decide)]
    · have e1 : f_D_nameByte_z2 (nI t) (ka (va_up c 0 (LB (c 0) q i nm t))) = some (nI (nm t), ka (va_up c 0 (LB (c 0) q i nm t))) := by
        rw [kNB_z2 _ (by omega), hn t (by omega)]
      have e2 : f_K_setPart ((nI q + (2 : Int32)) + nI t) (255 : Int32) (nI (nm t)) (ka (va_up c 0 (LB (c 0) q i nm t))) = some (0, ka (va_up c 0 (LB (c 0) q i nm (t + 1)))) := by
        show f_K_setPart ((nI q + nI 2) + nI t) (255 : Int32) (nI (nm t)) _ = _
        have hb := hnb t (by omega)
        rw [nI_add, nI_add, kSet8 hcw (by omega), un_nI, show nm t % 4294967296 % 256 = nm t by omega, va_up_tw, LB_up]
      rw [if_neg (show ¬ (14 : Int32) ≤ nI t from nLe' (a := 14) (by omega) (by omega)), e1, Option.bind_some, e2, Option.bind_some]
      show l_D_addEntry_z2_87 n (nI q) (nI t + nI 1) _ = _
      rw [nI_add]
      exact ih (t + 1) (by omega) (by omega)
theorem kLay_z2 {c : fb_N} (h : cw c) (nm : Nat → Nat) (hnb : ∀ k, k < 14 → nm k < 256) (hn : ∀ k, k < 14 → (if k < 2 then 46 else 0) = nm k) {q i : Nat} (hq : q + 16 ≤ 524288) (h2 : q % 2 = 0) (hi : i < 64) : b_D_addEntry_z2_72 (nI i) (nI q) (ka c) = some (0, ka (va_up c 0 (LB (c 0) q i nm 14))) := by
  unfold b_D_addEntry_z2_72
  rw [kSet16 h (by omega) h2, Option.bind_some, un_nI]
  have e : up (up c 0 q (i % 4294967296 % 256)) 0 (q + 1) (i % 4294967296 / 256 % 256) = va_up c 0 (LB (c 0) q i nm 0) := by
    funext k x
    by_cases hk : k = 0
    · subst hk
      rw [va_up_s]
      unfold LB
      by_cases e1 : x = q
      · rw [if_pos e1, e1, up_n _ (by omega), up_s]
        omega
      · rw [if_neg e1]
        by_cases e2 : x = q + 1
        · rw [if_pos e2, e2, up_s]
          omega
        · rw [if_neg e2, if_neg (by omega), up_n _ (Or.inr e2), up_n _ (Or.inr e1)]
    · rw [up_n _ (Or.inl hk), up_n _ (Or.inl hk), va_up_n _ _ _ hk]
  show l_D_addEntry_z2_87 fb_n (nI q) (nI 0) (ka (up (up c 0 q (i % 4294967296 % 256)) 0 (q + 1) (i % 4294967296 / 256 % 256))) = _
  rw [e]
  exact kLayL_z2 h nm hnb hn hq fb_n 0 (by omega) (by unfold fb_n; omega)
/-! places of bytes that have a block -/
theorem pl_v {A : fb_N} (o : oA A) (hB : BK A) {d s : Nat} (hd : d < 64) (hv : 16 * s / 1024 < A 10 d) : 38912 ≤ pl A d (16 * s) ∧ pl A d (16 * s) + 16 ≤ 524288 ∧ pl A d (16 * s) % 16 = 0 := by
  have h := pl_ge o hB (p := 16 * s) hd (Or.inl hv)
  unfold pl at h ⊢
  omega
theorem kPlV {c A : fb_N} (h : RC c A) (o : oA A) (hB : BK A) {d p : Nat} (hd : d < 64) (hv : p / 1024 < A 10 d) : f_I_placeOfByte (nI d) (nI p) (ka c) = some (nI (pl A d p), ka c) := by
  have h1 := (hB.1 d (p / 1024) hd (Or.inl hv)).1
  have h2 := o.mn d
  rw [kPlace h o hB hd (by omega), if_neg (by omega)]
theorem kNumV {c A : fb_N} (h : RC c A) (o : oA A) (hB : BK A) {d s : Nat} (hd : d < 64) (hv : 16 * s / 1024 < A 10 d) : f_K_partAt (nI (pl A d (16 * s))) (65535 : Int32) (ka c) = some (nI (nu A d (16 * s)), ka c) := by
  obtain ⟨h1, h2, h3⟩ := pl_v o hB hd hv
  rw [kPart16 h.w (by omega) (by omega), h.x (by omega) (by omega), h.x (by omega) (by omega)]
  rfl
def DM (A : fb_N) : Prop := ∀ i, i < 64 → A 10 i = (A 8 i + 1023) / 1024
theorem DI.dm {A : fb_N} (h : DI A) : DM A := h.2.2.1
/-- the first vacant entry -/
noncomputable def ff (A : fb_N) (d : Nat) : Option Nat := fe (fun s => nu A d (16 * s) = 0) 0 (A 8 d / 16)
theorem kFeL {c A : fb_N} (h : RC c A) (o : oA A) (hB : BK A) (hM : DM A) {d m : Nat} (hd : d < 64) (hm : A 8 d = 16 * m) : ∀ n s, s ≤ m → m - s < n → l_D_freeEntry_8 n (nI d) (nI (A 8 d)) (nI (16 * s)) (ka c) = some (an (fun t => pl A d (16 * t)) (fe (fun s => nu A d (16 * s) = 0) s (m - s)), ka c) := by
  have h8 := o.sz d
  have h10 := hM d hd
  intro n
  induction n with
  | zero => intro s _ h; omega
  | succ n ih =>
    intro s hs hk
    show b_D_freeEntry_8 (l_D_freeEntry_8 n) (nI d) (nI (A 8 d)) (nI (16 * s)) (ka c) = _
    unfold b_D_freeEntry_8
    by_cases e : s = m
    · rw [if_pos (by rw [nLe (by omega) (by omega)]; omega), e, Nat.sub_self]
      rfl
    · have hu := nu_lt o d (16 * s)
      rw [if_neg (by rw [nLe (by omega) (by omega)]; omega), kPlV h o hB hd (by omega), Option.bind_some, kNumV h o hB hd (by omega), Option.bind_some, show m - s = m - (s + 1) + 1 by omega]
      by_cases z : nu A d (16 * s) = 0
      · rw [if_pos (show nI (nu A d (16 * s)) = (0 : Int32) from by rw [z]; rfl), fe_p (P := fun s => nu A d (16 * s) = 0) _ z]
        rfl
      · rw [if_neg (show ¬ nI (nu A d (16 * s)) = (0 : Int32) from fun q => z ((nEq (b := 0) (by omega) (by omega)).mp q)), fe_n (P := fun s => nu A d (16 * s) = 0) _ z]
        show l_D_freeEntry_8 n (nI d) (nI (A 8 d)) (nI (16 * s) + nI 16) (ka c) = _
        rw [nI_add, show 16 * s + 16 = 16 * (s + 1) by omega]
        exact ih (s + 1) (by omega) (by omega)
theorem kFe {c A : fb_N} (h : RC c A) (o : oA A) (hB : BK A) (hM : DM A) {d : Nat} (hd : d < 64) (hk : A 4 d = 1) (hm : A 8 d % 16 = 0) : f_D_freeEntry (nI d) (ka c) = some (an (fun t => pl A d (16 * t)) (ff A d), ka c) := by
  unfold f_D_freeEntry
  rw [kDSize h o hd, Option.bind_some, if_pos hk]
  exact kFeL h o hB hM hd (m := A 8 d / 16) (by omega) fb_n 0 (by omega) (by have := o.sz d; unfold fb_n; omega)
/-- the slot that a new entry gets -/
noncomputable def sl (A : fb_N) (d : Nat) : Nat := match ff A d with
  | none => A 8 d / 16
  | some t => t
theorem mVacL {A : fb_N} (o : oA A) (hB : BK A) (hM : DM A) {d m : Nat} (hd : d < 64) (hm : A 8 d = 16 * m) : ∀ n s, s ≤ m → m - s < n → l_M_vacant_2 n (nI d) (nI (16 * s)) (mu A) = some (nI (16 * (match fe (fun s => nu A d (16 * s) = 0) s (m - s) with | none => m | some t => t)), mu A) := by
  have h8 := o.sz d
  have h10 := hM d hd
  intro n
  induction n with
  | zero => intro s _ h; omega
  | succ n ih =>
    intro s hs hk
    show b_M_vacant_2 (l_M_vacant_2 n) (nI d) (nI (16 * s)) (mu A) = _
    unfold b_M_vacant_2
    rw [ld_nI hd (by omega), Option.bind_some, mu_8]
    by_cases e : s = m
    · rw [if_pos (by rw [nLe (by omega) (by omega)]; omega), e, Nat.sub_self]
      rfl
    · have hu := nu_lt o d (16 * s)
      obtain ⟨p1, p2, p3⟩ := pl_v o hB (d := d) (s := s) hd (by omega)
      rw [if_neg (by rw [nLe (by omega) (by omega)]; omega), mNum o hd (by omega) (by omega), Option.bind_some, show m - s = m - (s + 1) + 1 by omega]
      by_cases z : nu A d (16 * s) = 0
      · rw [if_pos (show nI (nu A d (16 * s)) ≤ (0 : Int32) from by rw [z]; decide), fe_p (P := fun s => nu A d (16 * s) = 0) _ z]
      · rw [if_neg (show ¬ nI (nu A d (16 * s)) ≤ (0 : Int32) from fun q => by have := (nLe (b := 0) (by omega) (by omega)).mp q; omega), fe_n (P := fun s => nu A d (16 * s) = 0) _ z]
        show l_M_vacant_2 n (nI d) (nI (16 * s) + nI 16) (mu A) = _
        rw [nI_add, show 16 * s + 16 = 16 * (s + 1) by omega]
        exact ih (s + 1) (by omega) (by omega)
theorem mVac {A : fb_N} (o : oA A) (hB : BK A) (hM : DM A) {d : Nat} (hd : d < 64) (hm : A 8 d % 16 = 0) : f_M_vacant (nI d) (mu A) = some (nI (16 * sl A d), mu A) :=
  mVacL o hB hM hd (m := A 8 d / 16) (by omega) fb_n 0 (by omega) (by have := o.sz d; unfold fb_n; omega)
theorem ff_some {A : fb_N} {d t : Nat} (h : ff A d = some t) : t < A 8 d / 16 ∧ nu A d (16 * t) = 0 := by
  obtain ⟨-, h2, h3, -⟩ := fe_some _ _ _ h
  exact ⟨by omega, h3⟩
/-- blocks that one entry more wants; 1000: it cannot be -/
noncomputable def wt (A : fb_N) (d : Nat) : Nat := if A 7 d = 0 then 1000 else match ff A d with
  | some _ => 0
  | none => if A 8 d = 274432 then 1000 else if A 8 d % 1024 = 0 then (if A 10 d = 12 then 2 else 1) else 0
theorem mWants {A : fb_N} (o : oA A) (hB : BK A) (hM : DM A) {d : Nat} (hd : d < 64) (hm : A 8 d % 16 = 0) : f_M_wants (nI d) (mu A) = some (nI (wt A d), mu A) := by
  have h7 := o.li d
  have h8 := o.sz d
  have h10 := o.mn d
  unfold f_M_wants wt
  rw [mVac o hB hM hd hm, Option.bind_some, ld_nI hd (by decide), Option.bind_some]
  by_cases z7 : A 7 d = 0
  · rw [if_pos z7, if_pos (show mu A 7 d = (0 : Int32) from by rw [mu_7, z7]; rfl)]
    rfl
  · rw [if_neg z7, if_neg (show ¬ mu A 7 d = (0 : Int32) from by rw [mu_7]; exact fun q => z7 ((nEq (b := 0) (by omega) (by omega)).mp q))]
    unfold sl
    cases hf : ff A d with
    | some t =>
      obtain ⟨f1, -⟩ := ff_some hf
      rw [if_neg (show ¬ nI (16 * t) = (274432 : Int32) from fun q => by have := (nEq (b := 274432) (by omega) (by omega)).mp q; omega), ld_nI hd (by decide), Option.bind_some, if_pos (show nI (16 * t) < mu A 8 d from by rw [mu_8, nLt (by omega) (by omega)]; omega)]
      rfl
    | none =>
      simp only [il]
      rw [show 16 * (A 8 d / 16) = A 8 d by omega]
      by_cases z8 : A 8 d = 274432
      · rw [if_pos (by rw [z8]), if_pos z8]
      · rw [if_neg (show ¬ nI (A 8 d) = nI 274432 from by rw [nEq (by omega) (by omega)]; exact z8), if_neg z8, ld_nI hd (by decide), Option.bind_some, mu_8, if_neg (show ¬ nI (A 8 d) < nI (A 8 d) from by rw [nLt (by omega) (by omega)]; omega), nRem (by omega) (by omega) (by omega)]
        by_cases zr : A 8 d % 1024 = 0
        · rw [if_pos (by rw [nLe (by omega) (by omega)]; omega), if_pos zr]
          unfold f_M_next
          simp only [il]
          rw [ld_nI hd (by decide), Option.bind_some, mu_10]
          by_cases z12 : A 10 d = 12
          · rw [if_pos (by rw [z12]), if_pos z12, Option.bind_some]
          · rw [if_neg (by rw [nEq (by omega) (by omega)]; exact z12), if_neg z12, Option.bind_some]
        · rw [if_neg (by rw [nLe (by omega) (by omega)]; omega), if_neg zr]
          rfl
theorem kRoom76 {c A : fb_N} (h : RC c A) (o : oA A) {w : Nat} (hw : w < 2147483648) : b_D_hasRoom_76 (nI w) (ka c) = some (if w ≤ lf A then 1 else 0, ka c) := by
  have := lf_le (A := A)
  unfold b_D_hasRoom_76
  rw [kFree h o, Option.bind_some]
  by_cases z : w ≤ lf A
  · rw [if_pos z, if_neg (show ¬ nI (lf A) < nI w by rw [nLt (by omega) (by omega)]; omega), rz1]
  · rw [if_neg z, if_pos (show nI (lf A) < nI w by rw [nLt (by omega) (by omega)]; omega), rz0]
theorem kRoom {c A : fb_N} (h : RC c A) (o : oA A) (hB : BK A) (hM : DM A) {d b : Nat} (hd : d < 64) (hk : A 4 d = 1) (hm : A 8 d % 16 = 0) (hb : b ≤ 1) : f_D_hasRoom (nI d) (nI b) (ka c) = some (if wt A d + b ≤ lf A then 1 else 0, ka c) := by
  have h7 := o.li d
  have h8 := o.sz d
  have h10 := hM d hd
  have hl := lf_le (A := A)
  unfold f_D_hasRoom wt
  rw [iKind h o hd, Option.bind_some, if_pos (show nI (A 4 d) = (1 : Int32) from by rw [hk]; rfl), iLinks h o hd, Option.bind_some]
  by_cases z7 : A 7 d = 0
  · rw [if_pos (show nI (A 7 d) = (0 : Int32) from by rw [z7]; rfl), if_pos z7, rz0, if_neg (by omega)]
  · rw [if_neg (show ¬ nI (A 7 d) = (0 : Int32) from fun q => z7 ((nEq (b := 0) (by omega) (by omega)).mp q)), if_neg z7, kDSize h o hd, Option.bind_some, if_pos hk, kFe h o hB hM hd hk hm, Option.bind_some]
    cases hf : ff A d with
    | some t =>
      obtain ⟨f1, -⟩ := ff_some hf
      obtain ⟨p1, p2, p3⟩ := pl_v o hB (d := d) (s := t) hd (by omega)
      rw [if_neg (show ¬ an (fun t => pl A d (16 * t)) (some t) = -1 from nI_m1 (n := pl A d (16 * t)) (by omega)), kRoom76 h o (by omega), Nat.zero_add]
    | none =>
      rw [if_pos (show an (fun t => pl A d (16 * t)) none = -1 from rfl)]
      simp only [il]
      by_cases z8 : A 8 d = 274432
      · rw [if_neg (show ¬ nI (A 8 d) ≤ nI 274416 from by rw [nLe (by omega) (by omega)]; omega), if_pos z8, if_neg (by omega)]
        rfl
      · rw [if_pos (show nI (A 8 d) ≤ nI 274416 from by rw [nLe (by omega) (by omega)]; omega), if_neg z8, nRem (by omega) (by omega) (by omega)]
        by_cases zr : A 8 d % 1024 = 0
        · rw [if_pos (by rw [zr]), if_pos zr, nDiv (by omega) (by omega) (by omega), kToAdd _ (by omega), Option.bind_some]
          have e : A 8 d / 1024 = A 10 d := by omega
          rw [e, nI_add, kRoom76 h o (by split <;> omega), Nat.add_comm]
          rfl
        · rw [if_neg (by rw [nEq (by omega) (by omega)]; exact zr), if_neg zr, kRoom76 h o (by omega), Nat.zero_add]
          rfl
theorem kRoomN {c A : fb_N} (h : RC c A) (o : oA A) {d : Nat} (hd : d < 64) (hk : A 4 d ≠ 1) (b : Int32) : f_D_hasRoom (nI d) b (ka c) = some (0, ka c) := by
  have h4 := o.ki d
  unfold f_D_hasRoom
  rw [iKind h o hd, Option.bind_some, if_neg (show ¬ nI (A 4 d) = (1 : Int32) from fun q => hk ((nEq (b := 1) (by omega) (by omega)).mp q)), rz0]

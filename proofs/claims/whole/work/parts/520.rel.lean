/-! the reference's state as numbers: 0 text, 1 buffer, 2 disk, 3 used, 4 kind, 5 major, 6 minor, 7 links, 8 size, 9 held, 10 many, 11 blocks, 12 numbers, 13 name, 14 thrown, 15 typed, 16 p, 17 end -/
def mu (A : fb_N) : fb_S := fun k i => if k = 0 ∨ k = 1 ∨ k = 2 ∨ k = 13 then bs (A k i) else nI (A k i)
theorem mu_0 (A : fb_N) (i : Nat) : mu A 0 i = bs (A 0 i) := rfl
theorem mu_1 (A : fb_N) (i : Nat) : mu A 1 i = bs (A 1 i) := rfl
theorem mu_2 (A : fb_N) (i : Nat) : mu A 2 i = bs (A 2 i) := rfl
theorem mu_13 (A : fb_N) (i : Nat) : mu A 13 i = bs (A 13 i) := rfl
theorem mu_3 (A : fb_N) (i : Nat) : mu A 3 i = nI (A 3 i) := rfl
theorem mu_4 (A : fb_N) (i : Nat) : mu A 4 i = nI (A 4 i) := rfl
theorem mu_5 (A : fb_N) (i : Nat) : mu A 5 i = nI (A 5 i) := rfl
theorem mu_6 (A : fb_N) (i : Nat) : mu A 6 i = nI (A 6 i) := rfl
theorem mu_7 (A : fb_N) (i : Nat) : mu A 7 i = nI (A 7 i) := rfl
theorem mu_8 (A : fb_N) (i : Nat) : mu A 8 i = nI (A 8 i) := rfl
theorem mu_9 (A : fb_N) (i : Nat) : mu A 9 i = nI (A 9 i) := rfl
theorem mu_10 (A : fb_N) (i : Nat) : mu A 10 i = nI (A 10 i) := rfl
theorem mu_11 (A : fb_N) (i : Nat) : mu A 11 i = nI (A 11 i) := rfl
theorem mu_12 (A : fb_N) (i : Nat) : mu A 12 i = nI (A 12 i) := rfl
theorem mu_14 (A : fb_N) (i : Nat) : mu A 14 i = nI (A 14 i) := rfl
theorem mu_15 (A : fb_N) (i : Nat) : mu A 15 i = nI (A 15 i) := rfl
theorem mu_16 (A : fb_N) (i : Nat) : mu A 16 i = nI (A 16 i) := rfl
theorem mu_17 (A : fb_N) (i : Nat) : mu A 17 i = nI (A 17 i) := rfl
theorem mu_i (A : fb_N) (k i v : Nat) (hk : ¬ (k = 0 ∨ k = 1 ∨ k = 2 ∨ k = 13)) : va_up (mu A) k (upd (mu A k) i (nI v)) = mu (up A k i v) := by
  funext j q
  by_cases hj : j = k
  · subst hj
    rw [va_up_self]
    by_cases hq : q = i
    · subst hq
      rw [pk_us]
      unfold mu
      rw [if_neg hk, up_s]
    · rw [pk_un hq]
      unfold mu
      rw [if_neg hk, if_neg hk, up_n _ (Or.inr hq)]
  · rw [va_up_ne _ _ hj]
    unfold mu
    rw [up_n _ (Or.inl hj)]
theorem mu_b (A : fb_N) (k i v : Nat) (hk : k = 0 ∨ k = 1 ∨ k = 2 ∨ k = 13) : va_up (mu A) k (upd (mu A k) i (bs v)) = mu (up A k i v) := by
  funext j q
  by_cases hj : j = k
  · subst hj
    rw [va_up_self]
    by_cases hq : q = i
    · subst hq
      rw [pk_us]
      unfold mu
      rw [if_pos hk, up_s]
    · rw [pk_un hq]
      unfold mu
      rw [if_pos hk, if_pos hk, up_n _ (Or.inr hq)]
  · rw [va_up_ne _ _ hj]
    unfold mu
    rw [up_n _ (Or.inl hj)]
theorem ka_i (c : fb_N) (k i v : Nat) (hk : k = 1 ∨ k = 6) : va_up (ka c) k (upd (ka c k) i (nI v)) = ka (up c k i v) := by
  funext j q
  have hk0 : k ≠ 0 := by omega
  by_cases hj : j = k
  · subst hj
    rw [va_up_self]
    by_cases hq : q = i
    · subst hq
      rw [pk_us]
      unfold ka
      rw [if_neg hk0, if_pos hk, up_s]
    · rw [pk_un hq]
      unfold ka
      rw [if_neg hk0, if_neg hk0, if_pos hk, if_pos hk, up_n _ (Or.inr hq)]
  · rw [va_up_ne _ _ hj]
    unfold ka
    have e : up c k i v j = c j := by funext m; exact up_n _ (Or.inl hj)
    rw [show up c k i v 0 = c 0 by funext m; exact up_n _ (Or.inl (Ne.symm hk0)), e]
theorem ka_b (c : fb_N) (k i v : Nat) (hk : k = 2 ∨ k = 3 ∨ k = 4 ∨ k = 5) : va_up (ka c) k (upd (ka c k) i (bs v)) = ka (up c k i v) := by
  funext j q
  have hk0 : k ≠ 0 := by omega
  have hk1 : ¬ (k = 1 ∨ k = 6) := by omega
  by_cases hj : j = k
  · subst hj
    rw [va_up_self]
    by_cases hq : q = i
    · subst hq
      rw [pk_us]
      unfold ka
      rw [if_neg hk0, if_neg hk1, up_s]
    · rw [pk_un hq]
      unfold ka
      rw [if_neg hk0, if_neg hk0, if_neg hk1, if_neg hk1, up_n _ (Or.inr hq)]
  · rw [va_up_ne _ _ hj]
    unfold ka
    have e : up c k i v j = c j := by funext m; exact up_n _ (Or.inl hj)
    rw [show up c k i v 0 = c 0 by funext m; exact up_n _ (Or.inl (Ne.symm hk0)), e]
theorem up_id (A : fb_N) {k i v : Nat} (h : A k i = v) : up A k i v = A := by
  funext j q
  by_cases e : j = k ∧ q = i
  · obtain ⟨rfl, rfl⟩ := e
    rw [up_s, h]
  · rw [up_n _ (by omega)]
/-- what numbers are in the reference's rows -/
def oA (A : fb_N) : Prop := (∀ k q, (k = 0 ∨ k = 1 ∨ k = 2 ∨ k = 13) → A k q < 256) ∧ (∀ i, A 4 i ≤ 3 ∧ (i = 1 → A 4 i = 1)) ∧ (∀ i, A 5 i < 65536) ∧ (∀ i, A 6 i < 65536) ∧ (∀ i, A 7 i < 65536) ∧ (∀ i, A 8 i ≤ 274432) ∧ (∀ i, A 9 i < 65536) ∧ (∀ i, A 10 i ≤ 268) ∧ (∀ q, A 11 q < 512) ∧ (∀ b, A 3 b ≤ 1) ∧ A 14 0 = 0 ∧ A 15 0 ≤ 260 ∧ (∀ i, i < 8 → nI (A 12 i) = zf_0 i ∧ A 12 i < 2147483648)
theorem oA.by {A : fb_N} (h : oA A) {k q : Nat} (hk : k = 0 ∨ k = 1 ∨ k = 2 ∨ k = 13) : A k q < 256 := h.1 k q hk
theorem oA.dk {A : fb_N} (h : oA A) (q : Nat) : A 2 q < 256 := h.1 2 q (by simp)
theorem oA.tx {A : fb_N} (h : oA A) (q : Nat) : A 0 q < 256 := h.1 0 q (by simp)
theorem oA.bu {A : fb_N} (h : oA A) (q : Nat) : A 1 q < 256 := h.1 1 q (by simp)
theorem oA.nm {A : fb_N} (h : oA A) (q : Nat) : A 13 q < 256 := h.1 13 q (by simp)
theorem oA.ki {A : fb_N} (h : oA A) (i : Nat) : A 4 i ≤ 3 := (h.2.1 i).1
theorem oA.rt {A : fb_N} (h : oA A) : A 4 1 = 1 := (h.2.1 1).2 rfl
theorem oA.ma {A : fb_N} (h : oA A) (i : Nat) : A 5 i < 65536 := h.2.2.1 i
theorem oA.mi {A : fb_N} (h : oA A) (i : Nat) : A 6 i < 65536 := h.2.2.2.1 i
theorem oA.li {A : fb_N} (h : oA A) (i : Nat) : A 7 i < 65536 := h.2.2.2.2.1 i
theorem oA.sz {A : fb_N} (h : oA A) (i : Nat) : A 8 i ≤ 274432 := h.2.2.2.2.2.1 i
theorem oA.he {A : fb_N} (h : oA A) (i : Nat) : A 9 i < 65536 := h.2.2.2.2.2.2.1 i
theorem oA.mn {A : fb_N} (h : oA A) (i : Nat) : A 10 i ≤ 268 := h.2.2.2.2.2.2.2.1 i
theorem oA.bl {A : fb_N} (h : oA A) (q : Nat) : A 11 q < 512 := h.2.2.2.2.2.2.2.2.1 q
theorem oA.us {A : fb_N} (h : oA A) (b : Nat) : A 3 b ≤ 1 := h.2.2.2.2.2.2.2.2.2.1 b
theorem oA.th {A : fb_N} (h : oA A) : A 14 0 = 0 := h.2.2.2.2.2.2.2.2.2.2.1
theorem oA.ty {A : fb_N} (h : oA A) : A 15 0 ≤ 260 := h.2.2.2.2.2.2.2.2.2.2.2.1
theorem oA.nu {A : fb_N} (h : oA A) {i : Nat} (hi : i < 8) : nI (A 12 i) = zf_0 i ∧ A 12 i < 2147483648 := h.2.2.2.2.2.2.2.2.2.2.2.2 i hi
theorem mThr {A : fb_N} (h : oA A) : fb_pf (mu A) 14 (0 : Int32) = some (mu A) := by
  unfold fb_pf
  show some (va_up (mu A) 14 (upd (mu A 14) 0 (nI 0))) = _
  rw [mu_i A 14 0 0 (by decide), up_id A h.th]
/-! the disk's bytes, out of the reference's rows -/
def le (v k : Nat) : Nat := v / 256 ^ k % 256
def ibx (A : fb_N) (i k : Nat) : Nat := if k < 2 then le (A 4 i) k else if k < 4 then le (A 5 i) (k - 2) else if k < 6 then le (A 6 i) (k - 4) else if k < 8 then le (A 7 i) (k - 6) else if k < 12 then le (A 8 i) (k - 8) else le (A 11 (269 * i + (if k / 4 - 3 < 12 then k / 4 - 3 else 268))) (k % 4)
def mbx (A : fb_N) (k : Nat) : Nat := A 3 (8 * k) + 2 * A 3 (8 * k + 1) + 4 * A 3 (8 * k + 2) + 8 * A 3 (8 * k + 3) + 16 * A 3 (8 * k + 4) + 32 * A 3 (8 * k + 5) + 64 * A 3 (8 * k + 6) + 128 * A 3 (8 * k + 7)
def db (A : fb_N) (q : Nat) : Nat := if q < 1024 then 0 else if q < 1056 then le (A 12 ((q - 1024) / 4)) (q % 4) else if q < 33792 then 0 else if q < 37888 then ibx A ((q - 33792) / 64) (q % 64) else if q < 37952 then mbx A (q - 37888) else if q < 38912 then 0 else A 2 q
theorem db_i (A : fb_N) {i k : Nat} (hi : i < 64) (hk : k < 64) : db A (33792 + 64 * i + k) = ibx A i k := by
  unfold db
  rw [if_neg (by omega), if_neg (by omega), if_neg (by omega), if_pos (by omega), show (33792 + 64 * i + k - 33792) / 64 = i by omega, show (33792 + 64 * i + k) % 64 = k by omega]
theorem db_d (A : fb_N) {q : Nat} (hq : 38912 ≤ q) : db A q = A 2 q := by
  unfold db
  rw [if_neg (by omega), if_neg (by omega), if_neg (by omega), if_neg (by omega), if_neg (by omega), if_neg (by omega)]
theorem db_m (A : fb_N) {k : Nat} (hk : k < 64) : db A (37888 + k) = mbx A k := by
  unfold db
  rw [if_neg (by omega), if_neg (by omega), if_neg (by omega), if_neg (by omega), if_pos (by omega), show 37888 + k - 37888 = k by omega]
/-- the two states agree -/
def RC (c A : fb_N) : Prop := (∀ q, q < 524288 → c 0 q = db A q) ∧ c 1 = A 9 ∧ c 2 = A 0 ∧ c 5 = A 1 ∧ c 6 0 = A 15 0 ∧ cw c
theorem RC.d {c A : fb_N} (h : RC c A) {q : Nat} (hq : q < 524288) : c 0 q = db A q := h.1 q hq
theorem RC.w {c A : fb_N} (h : RC c A) : cw c := h.2.2.2.2.2
theorem le0 (v : Nat) : le v 0 = v % 256 := by simp [le]
theorem le1 (v : Nat) : le v 1 = v / 256 % 256 := by simp [le]
theorem le2 (v : Nat) : le v 2 = v / 65536 % 256 := by simp [le]
theorem le3 (v : Nat) : le v 3 = v / 16777216 % 256 := by simp [le]
theorem wo_le {B : Nat → Nat} {q v : Nat} (h4 : q % 4 = 0) (h0 : B q = le v 0) (h1 : B (q + 1) = le v 1) (h2 : B (q + 2) = le v 2) (h3 : B (q + 3) = le v 3) (hv : v < 4294967296) : wo B (q / 4) = v := by
  unfold wo
  rw [show 4 * (q / 4) = q by omega, h0, h1, h2, h3, le0, le1, le2, le3]
  omega
/-! what the class reads of an inode -/
theorem rz0 (st : fb_S) : fb_rz (0 : Int32) st = some (0, st) := rfl
theorem rz1 (st : fb_S) : fb_rz (1 : Int32) st = some (1, st) := rfl
theorem n01 : ¬ (1 : Int32) = 0 := by decide
theorem iIs (st : fb_S) {i : Nat} (hi : i < 64) : f_I_isInode (nI i) st = some (1, st) := by
  unfold f_I_isInode
  rw [if_neg (show ¬ nI i < 0 from nI_lt0 (n := i) (by omega)), if_neg (show ¬ 64 ≤ nI i from by intro q; have := (nLe (a := 64) (b := i) (by omega) (by omega)).mp q; omega), rz1]
theorem iIsN (st : fb_S) {x : Int32} (hx : x < 0 ∨ nI 64 ≤ x) : f_I_isInode x st = some (0, st) := by
  unfold f_I_isInode
  rcases hx with h | h
  · rw [if_pos h, rz0]
  · by_cases h2 : x < 0
    · rw [if_pos h2, rz0]
    · rw [if_neg h2, if_pos (show 64 ≤ x from h), rz0]
theorem iPl (st : fb_S) (i : Nat) : f_I_placeOf (nI i) st = some (nI (33792 + 64 * i), st) := by
  unfold f_I_placeOf
  simp only [il]
  rw [pk_mul, nI_add, Nat.mul_comm]
theorem rd16 {c A : fb_N} (h : RC c A) {i k v : Nat} (hi : i < 64) (hk : k < 63) (h2 : k % 2 = 0) (e0 : ibx A i k = le v 0) (e1 : ibx A i (k + 1) = le v 1) (hv : v < 65536) : f_K_partAt (nI (33792 + 64 * i) + nI k) (65535 : Int32) (ka c) = some (nI v, ka c) := by
  rw [nI_add, kPart16 h.w (by omega) (by omega), h.d (by omega), h.d (by omega), db_i A hi (by omega), show 33792 + 64 * i + k + 1 = 33792 + 64 * i + (k + 1) by omega, db_i A hi (by omega), e0, e1, le0, le1]
  congr 3
  omega
theorem rd32 {c A : fb_N} (h : RC c A) {i k v : Nat} (hi : i < 64) (hk : k < 61) (h4 : k % 4 = 0) (e : ∀ t, t < 4 → ibx A i (k + t) = le v t) (hv : v < 4294967296) : f_K_numberAt (nI (33792 + 64 * i) + nI k) (ka c) = some (nI v, ka c) := by
  have key : wo (c 0) ((33792 + 64 * i + k) / 4) = v := by
    have g : ∀ t, t < 4 → c 0 (33792 + 64 * i + k + t) = le v t := by
      intro t ht
      rw [h.d (by omega), show 33792 + 64 * i + k + t = 33792 + 64 * i + (k + t) by omega, db_i A hi (by omega), e t ht]
    exact wo_le (by omega) (g 0 (by omega)) (g 1 (by omega)) (g 2 (by omega)) (g 3 (by omega)) hv
  rw [nI_add, show 33792 + 64 * i + k = 4 * ((33792 + 64 * i + k) / 4) by omega, kNum c (by omega), key]
theorem iKind {c A : fb_N} (h : RC c A) (o : oA A) {i : Nat} (hi : i < 64) : f_I_kindOf (nI i) (ka c) = some (nI (A 4 i), ka c) := by
  unfold f_I_kindOf
  rw [iIs _ hi, Option.bind_some, if_neg n01, iPl, Option.bind_some]
  show (f_K_partAt (nI (33792 + 64 * i) + nI 0) (65535 : Int32) (ka c)).bind _ = _
  rw [rd16 h (v := A 4 i) hi (by decide) (by decide) rfl rfl (by have := o.ki i; omega), Option.bind_some]
theorem iKindN (c : fb_N) {x : Int32} (hx : x < 0 ∨ nI 64 ≤ x) : f_I_kindOf x (ka c) = some (0, ka c) := by
  unfold f_I_kindOf
  rw [iIsN _ hx, Option.bind_some, if_pos rfl]
theorem iMajor {c A : fb_N} (h : RC c A) (o : oA A) {i : Nat} (hi : i < 64) : f_I_majorOf (nI i) (ka c) = some (nI (A 5 i), ka c) := by
  unfold f_I_majorOf
  rw [iIs _ hi, Option.bind_some, if_neg n01, iPl, Option.bind_some]
  show (f_K_partAt (nI (33792 + 64 * i) + nI 2) (65535 : Int32) (ka c)).bind _ = _
  rw [rd16 h (v := A 5 i) hi (by decide) (by decide) rfl rfl (o.ma i), Option.bind_some]
theorem iMinor {c A : fb_N} (h : RC c A) (o : oA A) {i : Nat} (hi : i < 64) : f_I_minorOf (nI i) (ka c) = some (nI (A 6 i), ka c) := by
  unfold f_I_minorOf
  rw [iIs _ hi, Option.bind_some, if_neg n01, iPl, Option.bind_some]
  show (f_K_partAt (nI (33792 + 64 * i) + nI 4) (65535 : Int32) (ka c)).bind _ = _
  rw [rd16 h (v := A 6 i) hi (by decide) (by decide) rfl rfl (o.mi i), Option.bind_some]
theorem iLinks {c A : fb_N} (h : RC c A) (o : oA A) {i : Nat} (hi : i < 64) : f_I_linksOf (nI i) (ka c) = some (nI (A 7 i), ka c) := by
  unfold f_I_linksOf
  rw [iIs _ hi, Option.bind_some, if_neg n01, iPl, Option.bind_some]
  show (f_K_partAt (nI (33792 + 64 * i) + nI 6) (65535 : Int32) (ka c)).bind _ = _
  rw [rd16 h (v := A 7 i) hi (by decide) (by decide) rfl rfl (o.li i), Option.bind_some]
theorem iSize {c A : fb_N} (h : RC c A) (o : oA A) {i : Nat} (hi : i < 64) : f_I_sizeOf (nI i) (ka c) = some (nI (A 8 i), ka c) := by
  unfold f_I_sizeOf
  rw [iIs _ hi, Option.bind_some, if_neg n01, iPl, Option.bind_some]
  show (f_K_numberAt (nI (33792 + 64 * i) + nI 8) (ka c)).bind _ = _
  rw [rd32 h (v := A 8 i) hi (by decide) (by decide) (fun t ht => by rcases (show t = 0 ∨ t = 1 ∨ t = 2 ∨ t = 3 by omega) with rfl | rfl | rfl | rfl <;> rfl) (by have := o.sz i; omega), Option.bind_some]
theorem iHeld {c A : fb_N} (h : RC c A) {i : Nat} (hi : i < 64) : f_I_heldOf (nI i) (ka c) = some (nI (A 9 i), ka c) := by
  unfold f_I_heldOf
  rw [iIs _ hi, Option.bind_some, if_neg n01, ld_nI hi (by decide), Option.bind_some]
  show some (ka c 1 i, ka c) = _
  rw [ka_1, h.2.1]
theorem iHeldN (c : fb_N) {x : Int32} (hx : x < 0 ∨ nI 64 ≤ x) : f_I_heldOf x (ka c) = some (0, ka c) := by
  unfold f_I_heldOf
  rw [iIsN _ hx, Option.bind_some, if_pos rfl]

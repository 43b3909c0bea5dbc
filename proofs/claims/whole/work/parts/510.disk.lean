/-! the class's state as numbers: c 0 the disk's bytes, 1 held, 2 text, 3 name, 4 last, 5 buffer, 6 the length -/
abbrev fb_N : Type := Nat → Nat → Nat
def ka (c : fb_N) : fb_S := fun k i => if k = 0 then (if i < 131072 then nI (wo (c 0) i) else 0) else if k = 1 ∨ k = 6 then nI (c k i) else bs (c k i)
theorem ka_0 (c : fb_N) {i : Nat} (h : i < 131072) : ka c 0 i = nI (wo (c 0) i) := by simp [ka, h]
theorem ka_1 (c : fb_N) (i : Nat) : ka c 1 i = nI (c 1 i) := rfl
theorem ka_2 (c : fb_N) (i : Nat) : ka c 2 i = bs (c 2 i) := rfl
theorem ka_3 (c : fb_N) (i : Nat) : ka c 3 i = bs (c 3 i) := rfl
theorem ka_4 (c : fb_N) (i : Nat) : ka c 4 i = bs (c 4 i) := rfl
theorem ka_5 (c : fb_N) (i : Nat) : ka c 5 i = bs (c 5 i) := rfl
theorem ka_6 (c : fb_N) (i : Nat) : ka c 6 i = nI (c 6 i) := rfl
/-- bytes are bytes -/
def cw (c : fb_N) : Prop := ∀ k q, k ≠ 1 → k ≠ 6 → c k q < 256
theorem cw.b {c : fb_N} (h : cw c) : ∀ q, c 0 q < 256 := fun q => h 0 q (by decide) (by decide)
theorem va_up_n (A : fb_N) (k : Nat) (f : Nat → Nat) {j : Nat} (h : j ≠ k) : va_up A k f j = A j := by simp [va_up, h]
theorem va_up_s (A : fb_N) (k : Nat) (f : Nat → Nat) : va_up A k f k = f := by simp [va_up]
theorem up_s (A : fb_N) (k i v : Nat) : up A k i v k i = v := by simp [up, va_up, un1]
theorem up_n (A : fb_N) {k i v j m : Nat} (h : j ≠ k ∨ m ≠ i) : up A k i v j m = A j m := by
  unfold up va_up un1
  by_cases hj : j = k
  · subst hj
    have : m ≠ i := by omega
    simp [this]
  · simp [hj]
theorem cw_up {c : fb_N} (h : cw c) (k i v : Nat) (hv : v < 256 ∨ k = 1 ∨ k = 6) : cw (up c k i v) := by
  intro j q h1 h2
  by_cases e : j = k ∧ q = i
  · obtain ⟨rfl, rfl⟩ := e
    rw [up_s]
    omega
  · rw [up_n _ (by omega)]
    exact h j q h1 h2
theorem wo_un1 (B : Nat → Nat) {q v w : Nat} (h : w ≠ q / 4) : wo (un1 B q v) w = wo B w := by
  unfold wo
  rw [un1_n _ _ (by omega), un1_n _ _ (by omega), un1_n _ _ (by omega), un1_n _ _ (by omega)]
theorem ka_wr (c : fb_N) (f : Nat → Nat) (w : Nat) (h : w < 131072) (hf : ∀ v, v ≠ w → wo f v = wo (c 0) v) : va_up (ka c) 0 (upd (ka c 0) w (nI (wo f w))) = ka (va_up c 0 f) := by
  funext k i
  by_cases hk : k = 0
  · subst hk
    rw [va_up_self]
    by_cases hi : i = w
    · subst hi
      rw [pk_us, ka_0 _ h, va_up_s]
    · rw [pk_un hi]
      unfold ka
      simp only [if_true]
      by_cases h3 : i < 131072
      · rw [if_pos h3, if_pos h3, va_up_s, hf i hi]
      · rw [if_neg h3, if_neg h3]
  · rw [va_up_ne _ _ hk]
    unfold ka
    rw [if_neg hk, if_neg hk, va_up_n _ _ _ hk]
theorem shr2 {q : Nat} (h : q < 2147483648) : nI q >>> (nI 2 &&& nI 31) = nI (q / 4) := pk_shrN (by omega) (nI 2 &&& nI 31) 2 (by decide)
theorem shl3 {q : Nat} (h : q < 4) : nI q <<< (nI 3 &&& nI 31) = nI (8 * q) := by
  rw [pk_shlN (nI 3 &&& nI 31) 3 (by decide) (by omega), Nat.mul_comm]
theorem us_nI {n k : Nat} (hn : n < 4294967296) (hk : k < 32) : fb_us (nI n) (nI k) = nI (n / 2 ^ k) := pk_ushrN (by omega) (nI k) k (s_u k hk)
theorem wo_lt {B : Nat → Nat} (hB : ∀ q, B q < 256) (w : Nat) : wo B w < 4294967296 := by
  have h0 := hB (4 * w)
  have h1 := hB (4 * w + 1)
  have h2 := hB (4 * w + 2)
  have h3 := hB (4 * w + 3)
  unfold wo
  omega
theorem wo_8 {B : Nat → Nat} (hB : ∀ q, B q < 256) (q : Nat) : wo B (q / 4) / 2 ^ (8 * (q % 4)) % 256 = B q := by
  have h0 := hB (4 * (q / 4))
  have h1 := hB (4 * (q / 4) + 1)
  have h2 := hB (4 * (q / 4) + 2)
  have h3 := hB (4 * (q / 4) + 3)
  unfold wo
  rcases (show q % 4 = 0 ∨ q % 4 = 1 ∨ q % 4 = 2 ∨ q % 4 = 3 by omega) with e | e | e | e
  · have e2 : q = 4 * (q / 4) := by omega
    rw [e]
    simp only [Nat.mul_zero, Nat.pow_zero, Nat.div_one]
    have : B q = B (4 * (q / 4)) := by rw [← e2]
    omega
  · have : B q = B (4 * (q / 4) + 1) := by congr 1; omega
    rw [e]
    simp only [Nat.mul_one, Nat.reducePow]
    omega
  · have : B q = B (4 * (q / 4) + 2) := by congr 1; omega
    rw [e]
    simp only [Nat.reduceMul, Nat.reducePow]
    omega
  · have : B q = B (4 * (q / 4) + 3) := by congr 1; omega
    rw [e]
    simp only [Nat.reduceMul, Nat.reducePow]
    omega
theorem wo_16 {B : Nat → Nat} (hB : ∀ q, B q < 256) {q : Nat} (hq : q % 2 = 0) : wo B (q / 4) / 2 ^ (8 * (q % 4)) % 65536 = B q + 256 * B (q + 1) := by
  have h0 := hB (4 * (q / 4))
  have h1 := hB (4 * (q / 4) + 1)
  have h2 := hB (4 * (q / 4) + 2)
  have h3 := hB (4 * (q / 4) + 3)
  unfold wo
  rcases (show q % 4 = 0 ∨ q % 4 = 2 by omega) with e | e
  · have e1 : B q = B (4 * (q / 4)) := by congr 1; omega
    have e2 : B (q + 1) = B (4 * (q / 4) + 1) := by congr 1; omega
    rw [e]
    simp only [Nat.mul_zero, Nat.pow_zero, Nat.div_one]
    omega
  · have e1 : B q = B (4 * (q / 4) + 2) := by congr 1; omega
    have e2 : B (q + 1) = B (4 * (q / 4) + 3) := by congr 1; omega
    rw [e]
    simp only [Nat.reduceMul, Nat.reducePow]
    omega
theorem kPart8 {c : fb_N} (h : cw c) {q : Nat} (hq : q < 524288) : f_K_partAt (nI q) (255 : Int32) (ka c) = some (nI (c 0 q), ka c) := by
  unfold f_K_partAt
  simp only [il]
  rw [shr2 (by omega), if_neg (nI_lt0 (by omega)), if_neg (by rw [nLe (by omega) (by omega)]; omega), ld_nI (by omega) (by omega), Option.bind_some, ka_0 _ (by omega), nAnd3, shl3 (by omega), us_nI (wo_lt h.b _) (by omega), nAnd8, wo_8 h.b]
theorem kPart16 {c : fb_N} (h : cw c) {q : Nat} (hq : q < 524288) (h2 : q % 2 = 0) : f_K_partAt (nI q) (65535 : Int32) (ka c) = some (nI (c 0 q + 256 * c 0 (q + 1)), ka c) := by
  unfold f_K_partAt
  simp only [il]
  rw [shr2 (by omega), if_neg (nI_lt0 (by omega)), if_neg (by rw [nLe (by omega) (by omega)]; omega), ld_nI (by omega) (by omega), Option.bind_some, ka_0 _ (by omega), nAnd3, shl3 (by omega), us_nI (wo_lt h.b _) (by omega), nAnd16, wo_16 h.b h2]
theorem kPartN (m : Int32) (st : fb_S) : f_K_partAt (-1) m st = some (0, st) := by
  unfold f_K_partAt
  rw [if_pos (by decide)]
theorem kNumN (st : fb_S) : f_K_numberAt (-1) st = some (0, st) := by
  unfold f_K_numberAt
  rw [if_pos (by decide)]
theorem kNum (c : fb_N) {w : Nat} (hw : w < 131072) : f_K_numberAt (nI (4 * w)) (ka c) = some (nI (wo (c 0) w), ka c) := by
  unfold f_K_numberAt
  simp only [il]
  rw [shr2 (by omega), if_neg (nI_lt0 (by omega)), if_neg (by rw [nLe (by omega) (by omega)]; omega), ld_nI (by omega) (by omega), Option.bind_some, ka_0 _ (by omega), show 4 * w / 4 = w by omega]
theorem kSet8 {c : fb_N} (h : cw c) {q : Nat} (hq : q < 524288) (y : Int32) : f_K_setPart (nI q) (255 : Int32) y (ka c) = some (0, ka (up c 0 q (un y % 256))) := by
  unfold f_K_setPart
  simp only [il]
  rw [shr2 (by omega), if_neg (nI_lt0 (by omega)), if_neg (by rw [nLe (by omega) (by omega)]; omega), ld_nI (by omega) (by omega), Option.bind_some, ka_0 _ (by omega), nAnd3, shl3 (by omega), st_nI (by omega) (by omega), Option.bind_some]
  have e := set8 h.b (q / 4) (q % 4) (by omega) y
  rw [show 4 * (q / 4) + q % 4 = q by omega] at e
  have e2 : (nI 0 : Int32) = 0 := rfl
  have e3 : ((nI (wo (c 0) (q / 4)) &&& (nI 255 <<< (nI (8 * (q % 4)) &&& nI 31) ^^^ -nI 1)) ||| ((y &&& nI 255) <<< (nI (8 * (q % 4)) &&& nI 31))) = nI (wo (un1 (c 0) q (un y % 256)) (q / 4)) := e
  rw [e3, ka_wr c (un1 (c 0) q (un y % 256)) (q / 4) (by omega) (fun v hv => wo_un1 _ hv)]
  rfl
theorem kSet16 {c : fb_N} (h : cw c) {q : Nat} (hq : q < 524288) (h2 : q % 2 = 0) (y : Int32) : f_K_setPart (nI q) (65535 : Int32) y (ka c) = some (0, ka (up (up c 0 q (un y % 256)) 0 (q + 1) (un y / 256 % 256))) := by
  unfold f_K_setPart
  simp only [il]
  rw [shr2 (by omega), if_neg (nI_lt0 (by omega)), if_neg (by rw [nLe (by omega) (by omega)]; omega), ld_nI (by omega) (by omega), Option.bind_some, ka_0 _ (by omega), nAnd3, shl3 (by omega), st_nI (by omega) (by omega), Option.bind_some]
  have e := set16 h.b (q / 4) (q % 4) (by omega) y
  rw [show 4 * (q / 4) + q % 4 = q by omega] at e
  have e3 : ((nI (wo (c 0) (q / 4)) &&& (nI 65535 <<< (nI (8 * (q % 4)) &&& nI 31) ^^^ -nI 1)) ||| ((y &&& nI 65535) <<< (nI (8 * (q % 4)) &&& nI 31))) = nI (wo (un1 (un1 (c 0) q (un y % 256)) (q + 1) (un y / 256 % 256)) (q / 4)) := e
  rw [e3, ka_wr c (un1 (un1 (c 0) q (un y % 256)) (q + 1) (un y / 256 % 256)) (q / 4) (by omega) (fun v hv => by rw [wo_un1 _ (by omega), wo_un1 _ hv])]
  unfold up
  rw [va_up_s]
  congr 3
  funext j
  unfold va_up
  by_cases hj : j = 0 <;> simp [hj]
/-- the four bytes of a number -/
def s4 (B : Nat → Nat) (q n : Nat) : Nat → Nat := fun p => if p = q then n % 256 else if p = q + 1 then n / 256 % 256 else if p = q + 2 then n / 65536 % 256 else if p = q + 3 then n / 16777216 % 256 else B p
theorem wo_s4 (B : Nat → Nat) (w n : Nat) : wo (s4 B (4 * w) n) w = n % 4294967296 := by
  unfold wo s4
  rw [if_pos rfl, if_neg (by omega), if_pos rfl, if_neg (by omega), if_neg (by omega), if_pos rfl, if_neg (by omega), if_neg (by omega), if_neg (by omega), if_pos rfl]
  omega
theorem wo_s4n (B : Nat → Nat) {w n v : Nat} (h : v ≠ w) : wo (s4 B (4 * w) n) v = wo B v := by
  have e : ∀ p, (p < 4 * w ∨ 4 * w + 4 ≤ p) → s4 B (4 * w) n p = B p := by
    intro p hp
    unfold s4
    rw [if_neg (by omega), if_neg (by omega), if_neg (by omega), if_neg (by omega)]
  unfold wo
  rw [e _ (by omega), e _ (by omega), e _ (by omega), e _ (by omega)]
theorem cw_s4 {c : fb_N} (h : cw c) (q n : Nat) : cw (va_up c 0 (s4 (c 0) q n)) := by
  intro k p h1 h2
  by_cases hk : k = 0
  · subst hk
    rw [va_up_s]
    unfold s4
    have := h.b p
    split <;> (try split) <;> (try split) <;> (try split) <;> omega
  · rw [va_up_n _ _ _ hk]
    exact h k p h1 h2
theorem kSetN (c : fb_N) {w : Nat} (hw : w < 131072) (n : Nat) : f_K_setNumber (nI (4 * w)) (nI n) (ka c) = some (0, ka (va_up c 0 (s4 (c 0) (4 * w) n))) := by
  unfold f_K_setNumber
  simp only [il]
  rw [shr2 (by omega), if_neg (nI_lt0 (by omega)), if_neg (by rw [nLe (by omega) (by omega)]; omega), show 4 * w / 4 = w by omega, st_nI (by omega) (by omega), Option.bind_some]
  have e : nI n = nI (wo (s4 (c 0) (4 * w) n) w) := by rw [wo_s4, nI_mod]
  rw [e, ka_wr c (s4 (c 0) (4 * w) n) w hw (fun v hv => wo_s4n _ hv)]

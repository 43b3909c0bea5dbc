/-! how many blocks are free: bits counted in words -/
def vD (B : Nat) (f : Nat → Nat) : Nat → Nat
  | 0 => 0
  | n + 1 => f 0 + B * vD B (fun i => f (i + 1)) n
theorem vD_cg {B : Nat} {f g : Nat → Nat} (n : Nat) (h : ∀ i, i < n → f i = g i) : vD B f n = vD B g n := by
  induction n generalizing f g with
  | zero => rfl
  | succ n ih =>
    show f 0 + B * vD B (fun i => f (i + 1)) n = g 0 + B * vD B (fun i => g (i + 1)) n
    rw [h 0 (by omega), ih (f := fun i => f (i + 1)) (g := fun i => g (i + 1)) (fun i hi => h (i + 1) (by omega))]
theorem and_sp (n : Nat) {a c : Nat} (b d : Nat) (ha : a < 2 ^ n) (hc : c < 2 ^ n) : (a + 2 ^ n * b) &&& (c + 2 ^ n * d) = (a &&& c) + 2 ^ n * (b &&& d) := by
  have hac : a &&& c < 2 ^ n := Nat.lt_of_le_of_lt Nat.and_le_left ha
  apply Nat.eq_of_testBit_eq
  intro i
  rw [Nat.testBit_and, Nat.add_comm a, Nat.add_comm c, Nat.add_comm (a &&& c), Nat.testBit_two_pow_mul_add _ ha, Nat.testBit_two_pow_mul_add _ hc, Nat.testBit_two_pow_mul_add _ hac]
  split
  · rw [Nat.testBit_and]
  · rw [Nat.testBit_and]
theorem vD_and (s : Nat) (m : Nat) (hm : m < 2 ^ s) : ∀ (n : Nat) (f : Nat → Nat), (∀ i, f i < 2 ^ s) → vD (2 ^ s) f n &&& vD (2 ^ s) (fun _ => m) n = vD (2 ^ s) (fun i => f i &&& m) n := by
  intro n
  induction n with
  | zero => intro f _; exact Nat.zero_and 0
  | succ n ih =>
    intro f hf
    show (f 0 + 2 ^ s * vD (2 ^ s) (fun i => f (i + 1)) n) &&& (m + 2 ^ s * vD (2 ^ s) (fun _ => m) n) = (f 0 &&& m) + 2 ^ s * vD (2 ^ s) (fun i => f (i + 1) &&& m) n
    rw [and_sp s _ _ (hf 0) hm, ih _ (fun i => hf (i + 1))]
theorem vD_two (B : Nat) : ∀ (n : Nat) (f : Nat → Nat), vD B f (2 * n) = vD (B * B) (fun k => f (2 * k) + B * f (2 * k + 1)) n := by
  intro n
  induction n with
  | zero => intro f; rfl
  | succ n ih =>
    intro f
    rw [show 2 * (n + 1) = 2 * n + 1 + 1 by omega]
    show f 0 + B * (f 1 + B * vD B (fun i => f (i + 1 + 1)) (2 * n)) = (f 0 + B * f 1) + B * B * vD (B * B) (fun k => f (2 * (k + 1)) + B * f (2 * (k + 1) + 1)) n
    rw [ih (fun i => f (i + 1 + 1)), Nat.mul_add, Nat.mul_assoc, Nat.add_assoc]
    rfl
theorem vD_sub (B : Nat) : ∀ (n : Nat) (f g : Nat → Nat), (∀ i, g i ≤ f i) → vD B g n ≤ vD B f n ∧ vD B f n - vD B g n = vD B (fun i => f i - g i) n := by
  intro n
  induction n with
  | zero => intro f g _; exact ⟨Nat.le_refl _, rfl⟩
  | succ n ih =>
    intro f g h
    obtain ⟨h1, h2⟩ := ih (fun i => f (i + 1)) (fun i => g (i + 1)) (fun i => h (i + 1))
    have h0 := h 0
    have h3 : B * vD B (fun i => g (i + 1)) n ≤ B * vD B (fun i => f (i + 1)) n := Nat.mul_le_mul_left B h1
    have h4 : B * vD B (fun i => f (i + 1) - g (i + 1)) n = B * vD B (fun i => f (i + 1)) n - B * vD B (fun i => g (i + 1)) n := by rw [← h2, Nat.mul_sub]
    constructor
    · show g 0 + B * vD B (fun i => g (i + 1)) n ≤ f 0 + B * vD B (fun i => f (i + 1)) n
      omega
    · show f 0 + B * vD B (fun i => f (i + 1)) n - (g 0 + B * vD B (fun i => g (i + 1)) n) = (f 0 - g 0) + B * vD B (fun i => f (i + 1) - g (i + 1)) n
      rw [h4]
      omega
theorem vD_add (B : Nat) : ∀ (n : Nat) (f g : Nat → Nat), vD B f n + vD B g n = vD B (fun i => f i + g i) n := by
  intro n
  induction n with
  | zero => intro f g; rfl
  | succ n ih =>
    intro f g
    show f 0 + B * vD B (fun i => f (i + 1)) n + (g 0 + B * vD B (fun i => g (i + 1)) n) = (f 0 + g 0) + B * vD B (fun i => f (i + 1) + g (i + 1)) n
    rw [← ih, Nat.mul_add]
    omega
theorem vD_div {B : Nat} (hB : 0 < B) (n : Nat) (f : Nat → Nat) (h0 : f 0 < B) (hn : f (n + 1) = 0) : vD B f (n + 1) / B = vD B (fun i => f (i + 1)) (n + 1) := by
  have e : ∀ (m : Nat) (g : Nat → Nat), g m = 0 → vD B g (m + 1) = vD B g m := by
    intro m
    induction m with
    | zero => intro g hg; show g 0 + B * 0 = 0; rw [hg]; rfl
    | succ m ih =>
      intro g hg
      show g 0 + B * vD B (fun i => g (i + 1)) (m + 1) = g 0 + B * vD B (fun i => g (i + 1)) m
      rw [ih (fun i => g (i + 1)) hg]
  rw [e n (fun i => f (i + 1)) hn]
  show (f 0 + B * vD B (fun i => f (i + 1)) n) / B = _
  rw [Nat.add_mul_div_left _ _ hB, Nat.div_eq_of_lt h0, Nat.zero_add]
theorem and1m (n : Nat) : n &&& 1 = n % 2 := Nat.and_one_is_mod n
theorem and3m (n : Nat) : n &&& 3 = n % 4 := Nat.and_two_pow_sub_one_eq_mod n 2
theorem and15m (n : Nat) : n &&& 15 = n % 16 := Nat.and_two_pow_sub_one_eq_mod n 4
theorem and63m (n : Nat) : n &&& 63 = n % 64 := Nat.and_two_pow_sub_one_eq_mod n 6
theorem vD_lt (B : Nat) (hB : 0 < B) : ∀ (n : Nat) (f : Nat → Nat), (∀ i, f i < B) → vD B f n < B ^ n := by
  intro n
  induction n with
  | zero => intro f _; exact Nat.one_pos
  | succ n ih =>
    intro f hf
    have h1 := ih (fun i => f (i + 1)) (fun i => hf (i + 1))
    have h0 := hf 0
    show f 0 + B * vD B (fun i => f (i + 1)) n < B ^ (n + 1)
    have h2 : B * (vD B (fun i => f (i + 1)) n + 1) ≤ B * B ^ n := Nat.mul_le_mul_left B h1
    rw [Nat.mul_add, Nat.mul_one] at h2
    rw [Nat.pow_succ, Nat.mul_comm (B ^ n) B]
    omega
theorem bitS (st : fb_S) {x m1 y1 a b y2 y3 : Nat} (hx : x < 4294967296) (h1 : x / 2 &&& 1431655765 = m1) (h1' : m1 ≤ x) (hy1 : x - m1 = y1) (hl1 : y1 < 4294967296) (h2 : y1 &&& 858993459 = a) (h3 : y1 / 4 &&& 858993459 = b) (hy2 : a + b = y2) (hl2 : y2 < 4294967296) (h4 : (y2 + y2 / 16) &&& 252645135 = y3) (hl3 : y3 < 2147483648) : f_J_bitCount (nI x) st = some (nI ((y3 + y3 / 256 + (y3 + y3 / 256) / 65536) % 64), st) := by
  unfold f_J_bitCount
  simp only [il]
  rw [us_nI hx (by omega), nx_and, show x / 2 ^ 1 = x / 2 by rfl, h1, nSub h1', hy1, us_nI hl1 (by omega), nx_and, nx_and, show y1 / 2 ^ 2 = y1 / 4 by rfl, h2, h3, nI_add, hy2, us_nI hl2 (by omega), nI_add, nx_and, show y2 / 2 ^ 4 = y2 / 16 by rfl, h4, us_nI (by omega) (by omega), nI_add, show y3 / 2 ^ 8 = y3 / 256 by rfl, us_nI (by omega) (by omega), nI_add, nx_and, and63m]
theorem vD_div2 {B : Nat} (hB : 0 < B) (n : Nat) (f : Nat → Nat) (h0 : f 0 < B) (hn : f n = 0) (hp : 0 < n) : vD B f n / B = vD B (fun i => f (i + 1)) n := by
  obtain ⟨m, rfl⟩ : ∃ m, n = m + 1 := ⟨n - 1, by omega⟩
  exact vD_div hB m f h0 hn
theorem st_1 (n : Nat) (hp : 0 < n) (b : Nat → Nat) (hb : ∀ i, b i ≤ 1) (h0 : b (2 * n) = 0) : vD 2 b (2 * n) / 2 &&& vD (2 ^ 2) (fun _ => 1) n = vD 4 (fun k => b (2 * k + 1)) n := by
  rw [vD_div2 (by omega) (2 * n) b (by have := hb 0; omega) h0 (by omega), vD_two 2 n, show 2 * 2 = 2 ^ 2 by decide, vD_and 2 1 (by decide) n]
  · apply vD_cg
    intro i _
    rw [and1m]
    have h1 := hb (2 * i + 1)
    omega
  · intro i
    have h1 := hb (2 * i + 1)
    have h2 := hb (2 * i + 1 + 1)
    rw [show (2 ^ 2 : Nat) = 4 by decide]
    omega
theorem st_2 (n : Nat) (b : Nat → Nat) : vD 4 (fun k => b (2 * k + 1)) n ≤ vD 2 b (2 * n) ∧ vD 2 b (2 * n) - vD 4 (fun k => b (2 * k + 1)) n = vD 4 (fun k => b (2 * k) + b (2 * k + 1)) n := by
  obtain ⟨e3, e4⟩ := vD_sub 4 n (fun k => b (2 * k) + 2 * b (2 * k + 1)) (fun k => b (2 * k + 1)) (fun i => by omega)
  rw [vD_two 2 n b, show 2 * 2 = 4 by decide]
  refine ⟨e3, ?_⟩
  rw [e4]
  apply vD_cg
  intro i _
  omega
theorem st_3 (n : Nat) (d : Nat → Nat) (hd : ∀ i, d i ≤ 2) : vD 4 d (2 * n) &&& vD (2 ^ 4) (fun _ => 3) n = vD 16 (fun k => d (2 * k)) n := by
  rw [vD_two 4 n, show 4 * 4 = 2 ^ 4 by decide, vD_and 4 3 (by decide) n]
  · rw [show (2 ^ 4 : Nat) = 16 by decide]
    apply vD_cg
    intro i _
    rw [and3m]
    have h1 := hd (2 * i)
    omega
  · intro i
    have h1 := hd (2 * i)
    have h2 := hd (2 * i + 1)
    rw [show (2 ^ 4 : Nat) = 16 by decide]
    omega
theorem st_4 (n : Nat) (hp : 0 < n) (d : Nat → Nat) (hd : ∀ i, d i ≤ 2) (h0 : d (2 * n) = 0) : vD 4 d (2 * n) / 4 &&& vD (2 ^ 4) (fun _ => 3) n = vD 16 (fun k => d (2 * k + 1)) n := by
  rw [vD_div2 (by omega) (2 * n) d (by have := hd 0; omega) h0 (by omega)]
  exact st_3 n (fun i => d (i + 1)) (fun i => hd (i + 1))
theorem st_5 (n : Nat) (hp : 0 < n) (e : Nat → Nat) (he : ∀ i, e i ≤ 4) (h0 : e (2 * n) = 0) : (vD 16 e (2 * n) + vD 16 e (2 * n) / 16) &&& vD (2 ^ 8) (fun _ => 15) n = vD 256 (fun k => e (2 * k) + e (2 * k + 1)) n := by
  rw [vD_div2 (by omega) (2 * n) e (by have := he 0; omega) h0 (by omega), vD_add, vD_two 16 n, show 16 * 16 = 2 ^ 8 by decide, vD_and 8 15 (by decide) n]
  · rw [show (2 ^ 8 : Nat) = 256 by decide]
    apply vD_cg
    intro i _
    rw [and15m]
    have h1 := he (2 * i)
    have h2 := he (2 * i + 1)
    omega
  · intro i
    have h1 := he (2 * i)
    have h2 := he (2 * i + 1)
    have h3 := he (2 * i + 1 + 1)
    rw [show (2 ^ 8 : Nat) = 256 by decide]
    omega
theorem mk_1 : vD (2 ^ 2) (fun _ => 1) 16 = 1431655765 := by decide +kernel
theorem mk_2 : vD (2 ^ 4) (fun _ => 3) 8 = 858993459 := by decide +kernel
theorem mk_3 : vD (2 ^ 8) (fun _ => 15) 4 = 252645135 := by decide +kernel
theorem vD_l32 (B n : Nat) (f : Nat → Nat) (hB : 0 < B) (hf : ∀ i, f i < B) (hn : B ^ n = 4294967296) : vD B f n < 4294967296 := by
  have := vD_lt B hB n f hf
  rw [hn] at this
  exact this
theorem v_4 (e : Nat → Nat) : vD 256 (fun k => e (2 * k) + e (2 * k + 1)) 4 = (e 0 + e 1) + 256 * ((e 2 + e 3) + 256 * ((e 4 + e 5) + 256 * (e 6 + e 7))) := by
  simp only [vD, Nat.reduceMul, Nat.reduceAdd, Nat.mul_zero, Nat.add_zero]
theorem s_32 (b : Nat → Nat) : sg b 32 = b 0 + b 1 + b 2 + b 3 + b 4 + b 5 + b 6 + b 7 + b 8 + b 9 + b 10 + b 11 + b 12 + b 13 + b 14 + b 15 + b 16 + b 17 + b 18 + b 19 + b 20 + b 21 + b 22 + b 23 + b 24 + b 25 + b 26 + b 27 + b 28 + b 29 + b 30 + b 31 := by
  simp only [sg, Nat.zero_add]
theorem fin4 {h0 h1 h2 h3 y : Nat} (l0 : h0 ≤ 8) (l1 : h1 ≤ 8) (l2 : h2 ≤ 8) (l3 : h3 ≤ 8) (hy : y = h0 + 256 * (h1 + 256 * (h2 + 256 * h3))) : (y + y / 256 + (y + y / 256) / 65536) % 64 = h0 + h1 + h2 + h3 := by
  have a : y / 256 = h1 + 256 * h2 + 65536 * h3 := by omega
  have b : (y + y / 256) / 65536 = h2 + h3 + 256 * h3 := by rw [a]; omega
  rw [b, a]
  omega
/-- bits of a word, and none beyond -/
theorem bitC (st : fb_S) (b : Nat → Nat) (hb : ∀ i, b i ≤ 1) (h0 : ∀ i, 32 ≤ i → b i = 0) : f_J_bitCount (nI (vD 2 b (2 * 16))) st = some (nI (sg b 32), st) := by
  have hd2 : ∀ i, b (2 * i) + b (2 * i + 1) ≤ 2 := fun i => by have h1 := hb (2 * i); have h2 := hb (2 * i + 1); omega
  have hd0 : ∀ i, 16 ≤ i → b (2 * i) + b (2 * i + 1) = 0 := fun i hi => by rw [h0 _ (by omega), h0 _ (by omega)]
  have e1 := st_1 16 (by omega) b hb (h0 _ (by omega))
  have e2 := st_2 16 b
  rw [mk_1] at e1
  obtain ⟨d, hd⟩ : ∃ d : Nat → Nat, d = fun k => b (2 * k) + b (2 * k + 1) := ⟨_, rfl⟩
  have hdk : ∀ k, d k = b (2 * k) + b (2 * k + 1) := fun k => by rw [hd]
  rw [← hd] at e2
  have hdd : ∀ i, d i ≤ 2 := fun i => by rw [hdk]; exact hd2 i
  have f1 := st_3 8 d hdd
  have f2 := st_4 8 (by omega) d hdd (by rw [hdk]; exact hd0 _ (by omega))
  rw [mk_2] at f1 f2
  have f3 := vD_add 16 8 (fun k => d (2 * k)) (fun k => d (2 * k + 1))
  obtain ⟨e, he⟩ : ∃ e : Nat → Nat, e = fun k => d (2 * k) + d (2 * k + 1) := ⟨_, rfl⟩
  have hek : ∀ k, e k = d (2 * k) + d (2 * k + 1) := fun k => by rw [he]
  have f3' : vD 16 (fun k => d (2 * k)) 8 + vD 16 (fun k => d (2 * k + 1)) 8 = vD 16 e (2 * 4) := by rw [he]; exact f3
  have hee : ∀ i, e i ≤ 4 := fun i => by rw [hek]; have h1 := hdd (2 * i); have h2 := hdd (2 * i + 1); omega
  have g1 := st_5 4 (by omega) e hee (by rw [hek, hdk, hdk, hd0 _ (by omega), hd0 _ (by omega)])
  rw [mk_3] at g1
  have k0 := hee 0
  have k1 := hee 1
  have k2 := hee 2
  have k3 := hee 3
  have k4 := hee 4
  have k5 := hee 5
  have k6 := hee 6
  have k7 := hee 7
  have v4 := v_4 e
  have hx := vD_l32 2 (2 * 16) b (by omega) (fun i => by have := hb i; omega) (by decide)
  have l1 := vD_l32 4 16 d (by omega) (fun i => by have := hdd i; omega) (by decide)
  have l2 := vD_l32 16 (2 * 4) e (by omega) (fun i => by have := hee i; omega) (by decide)
  have key := bitS st hx e1 e2.1 e2.2 l1 f1 f2 f3' l2 g1 (by rw [v4]; omega)
  rw [key]
  have hs : sg b 32 = e 0 + e 1 + e 2 + e 3 + e 4 + e 5 + e 6 + e 7 := by
    rw [s_32]
    simp only [hek, hdk, Nat.reduceMul, Nat.reduceAdd]
    omega
  have fin : (vD 256 (fun k => e (2 * k) + e (2 * k + 1)) 4 + vD 256 (fun k => e (2 * k) + e (2 * k + 1)) 4 / 256 + (vD 256 (fun k => e (2 * k) + e (2 * k + 1)) 4 + vD 256 (fun k => e (2 * k) + e (2 * k + 1)) 4 / 256) / 65536) % 64 = sg b 32 := by
    rw [hs, fin4 (h0 := e 0 + e 1) (h1 := e 2 + e 3) (h2 := e 4 + e 5) (h3 := e 6 + e 7) (by omega) (by omega) (by omega) (by omega) v4]
    omega
  rw [fin]
/-! the map's words -/
theorem mw_eq {c A : fb_N} (h : RC c A) {j : Nat} (hj : j < 16) : wo (c 0) (9472 + j) = vD 2 (fun i => if i < 32 then A 3 (32 * j + i) else 0) (2 * 16) := by
  have e : ∀ r, r < 4 → c 0 (4 * (9472 + j) + r) = mbx A (4 * j + r) := by
    intro r hr
    rw [show 4 * (9472 + j) + r = 37888 + (4 * j + r) by omega, h.m (by omega)]
  unfold wo
  have e0 := e 0 (by omega)
  rw [Nat.add_zero] at e0
  rw [e0, e 1 (by omega), e 2 (by omega), e 3 (by omega)]
  unfold mbx
  simp only [vD, Nat.reduceMul, Nat.reduceAdd, Nat.reduceLT, if_true, Nat.mul_zero, Nat.add_zero, Nat.zero_add]
  rw [show 8 * (4 * j) = 32 * j by omega, show 8 * (4 * j + 1) = 32 * j + 8 by omega, show 8 * (4 * j + 2) = 32 * j + 16 by omega, show 8 * (4 * j + 3) = 32 * j + 24 by omega]
  simp only [Nat.add_assoc, Nat.reduceAdd]
  omega
theorem sg_add (f : Nat → Nat) (n : Nat) : ∀ m, sg f (n + m) = sg f n + sg (fun i => f (n + i)) m := by
  intro m
  induction m with
  | zero => rfl
  | succ m ih =>
    show sg f (n + m) + f (n + m) = sg f n + (sg (fun i => f (n + i)) m + f (n + m))
    rw [ih]
    omega
theorem sg_cg {f g : Nat → Nat} (n : Nat) (h : ∀ i, i < n → f i = g i) : sg f n = sg g n := by
  induction n with
  | zero => rfl
  | succ n ih =>
    show sg f n + f n = sg g n + g n
    rw [ih (fun i hi => h i (by omega)), h n (by omega)]
theorem sg_le {f : Nat → Nat} (n : Nat) (h : ∀ i, i < n → f i ≤ 1) : sg f n ≤ n := by
  induction n with
  | zero => exact Nat.le_refl 0
  | succ n ih =>
    have h1 := ih (fun i hi => h i (by omega))
    have h2 := h n (by omega)
    show sg f n + f n ≤ n + 1
    omega
/-- how many blocks are free -/
def lf (A : fb_N) : Nat := 512 - sg (A 3) 512
theorem kFreeL {c A : fb_N} (h : RC c A) (o : oA A) : ∀ n j, j ≤ 16 → 16 - j < n → l_K_freeBlocks_4 n (nI (sg (A 3) (32 * j))) (nI (32 * j)) (ka c) = some (nI (lf A), ka c) := by
  intro n
  induction n with
  | zero => intro j _ h; omega
  | succ n ih =>
    intro j hj hn
    show b_K_freeBlocks_4 (l_K_freeBlocks_4 n) (nI (sg (A 3) (32 * j))) (nI (32 * j)) (ka c) = _
    unfold b_K_freeBlocks_4
    simp only [il]
    by_cases e : j = 16
    · subst e
      rw [if_pos (by rw [nLe (by omega) (by omega)]; omega), nSub (sg_le 512 (fun i _ => o.us i))]
      rfl
    · rw [if_neg (by rw [nLe (by omega) (by omega)]; omega), nDiv (by omega) (by omega) (by omega), nI_add, show 37888 + 32 * j / 8 = 4 * (9472 + j) by omega, kNum c (by omega), Option.bind_some, mw_eq h (by omega), bitC _ _ (fun i => by split; exact o.us _; omega) (fun i hi => if_neg (by omega)), Option.bind_some, nI_add, nI_add]
      have e1 : sg (A 3) (32 * j) + sg (fun i => if i < 32 then A 3 (32 * j + i) else 0) 32 = sg (A 3) (32 * (j + 1)) := by
        rw [show 32 * (j + 1) = 32 * j + 32 by omega, sg_add]
        have e0 : sg (fun i => if i < 32 then A 3 (32 * j + i) else 0) 32 = sg (fun i => A 3 (32 * j + i)) 32 := sg_cg 32 (fun i hi => if_pos hi)
        rw [e0]
      rw [e1, show 32 * j + 32 = 32 * (j + 1) by omega]
      exact ih (j + 1) (by omega) (by omega)
theorem kFree {c A : fb_N} (h : RC c A) (o : oA A) : f_K_freeBlocks (ka c) = some (nI (lf A), ka c) := kFreeL h o fb_n 0 (by omega) (by unfold fb_n; omega)
theorem mLeftL {A : fb_N} (o : oA A) : ∀ n b, 38 ≤ b → b ≤ 512 → 512 - b < n → l_M_left_5 n (nI (b - 38 - (sg (A 3) b - sg (A 3) 38))) (nI b) (mu A) = some (nI (512 - 38 - (sg (A 3) 512 - sg (A 3) 38)), mu A) := by
  intro n
  induction n with
  | zero => intro b _ _ h; omega
  | succ n ih =>
    intro b h38 hb hn
    show b_M_left_5 (l_M_left_5 n) _ (nI b) (mu A) = _
    unfold b_M_left_5 b_M_left_27
    simp only [il]
    by_cases e : b = 512
    · subst e
      rw [if_pos (by rw [nLe (by omega) (by omega)]; omega)]
    · have hu := o.us b
      have e2 : sg (A 3) (b + 1) = sg (A 3) b + A 3 b := rfl
      have e3 : sg (A 3) b = sg (A 3) 38 + sg (fun i => A 3 (38 + i)) (b - 38) := by
        rw [← sg_add, show 38 + (b - 38) = b by omega]
      have e4 : sg (fun i => A 3 (38 + i)) (b - 38) ≤ b - 38 := sg_le _ (fun i _ => o.us _)
      have h1 := ih (b + 1) (by omega) (by omega) (by omega)
      rw [if_neg (by rw [nLe (by omega) (by omega)]; omega), ld_nI (by omega) (by omega), Option.bind_some, mu_3, nI_add, nI_add, nI_add]
      rcases (show A 3 b = 0 ∨ A 3 b = 1 by omega) with z | z
      · rw [z, if_pos rfl]
        rw [show b + 1 - 38 - (sg (A 3) (b + 1) - sg (A 3) 38) = b - 38 - (sg (A 3) b - sg (A 3) 38) + 1 by omega] at h1
        exact h1
      · rw [z, if_neg (by rw [nEq (by omega) (by omega)]; omega)]
        rw [show b + 1 - 38 - (sg (A 3) (b + 1) - sg (A 3) 38) = b - 38 - (sg (A 3) b - sg (A 3) 38) + 0 by omega] at h1
        exact h1
theorem sg_38 {A : fb_N} (h : ∀ b, b < 38 → A 3 b = 1) : sg (A 3) 38 = 38 := by
  have h1 := sg_cg (f := A 3) (g := fun _ => 1) 38 (fun i hi => h i hi)
  rw [h1]
  decide
theorem mLeft {A : fb_N} (o : oA A) (h : ∀ b, b < 38 → A 3 b = 1) : f_M_left (mu A) = some (nI (lf A), mu A) := by
  have e := mLeftL o fb_n 38 (by omega) (by omega) (by unfold fb_n; omega)
  rw [show 38 - 38 - (sg (A 3) 38 - sg (A 3) 38) = 0 by omega] at e
  have e3 : sg (A 3) 512 = sg (A 3) 38 + sg (fun i => A 3 (38 + i)) 474 := sg_add (A 3) 38 474
  have e4 := sg_38 h
  have e5 : 512 - 38 - (sg (A 3) 512 - sg (A 3) 38) = lf A := by unfold lf; omega
  rw [e5] at e
  exact e
theorem s_free : sm_free sim := by
  intro j st mt hj hs
  obtain ⟨c, A, rfl, rfl, hR, hI⟩ := hs
  refine ⟨nI (lf A), ka c, mu A, ?_, ?_, c, A, rfl, rfl, hR, hI.next⟩
  · unfold f_T_free
    rw [kFree hR hI.1, Option.bind_some]
  · unfold f_M_free
    rw [mThr hI.1, Option.bind_some, mLeft hI.1 hI.2.1.2.2.2.1, Option.bind_some]

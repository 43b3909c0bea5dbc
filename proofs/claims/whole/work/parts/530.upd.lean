/-! one number changes on both sides -/
theorem up_c (A : fb_N) {k i v j : Nat} (h : j ≠ k) : up A k i v j = A j := by
  funext m
  exact up_n _ (Or.inl h)
theorem RCmk {c c' A A' : fb_N} (h : RC c A) (hI : ∀ i k, i < 64 → k < 64 → c' 0 (33792 + 64 * i + k) = ibx A' i k) (hM : ∀ k, k < 64 → c' 0 (37888 + k) = mbx A' k) (hD : ∀ q, 38912 ≤ q → q < 524288 → c' 0 q = A' 2 q) (hS : ∀ q, (q < 33792 ∨ (37952 ≤ q ∧ q < 38912)) → c' 0 q = c 0 q) (h12 : A' 12 = A 12) : ∀ q, q < 524288 → c' 0 q = db A' q := by
  intro q hq
  by_cases h1 : q < 33792
  · rw [hS q (Or.inl h1), h.d hq]
    unfold db
    rw [h12]
    by_cases z1 : q < 1024
    · rw [if_pos z1, if_pos z1]
    · by_cases z2 : q < 1056
      · rw [if_neg z1, if_neg z1, if_pos z2, if_pos z2]
      · rw [if_neg z1, if_neg z1, if_neg z2, if_neg z2, if_pos h1, if_pos h1]
  · by_cases h2 : q < 37888
    · have e : q = 33792 + 64 * ((q - 33792) / 64) + q % 64 := by omega
      rw [e, hI _ _ (by omega) (by omega), db_i _ (by omega) (by omega)]
    · by_cases h3 : q < 37952
      · have e : q = 37888 + (q - 37888) := by omega
        rw [e, hM _ (by omega), db_m _ (by omega)]
      · by_cases h4 : q < 38912
        · rw [hS q (Or.inr ⟨by omega, h4⟩), h.d hq]
          unfold db
          rw [if_neg (by omega), if_neg (by omega), if_neg (by omega), if_neg (by omega), if_neg (by omega), if_pos h4, if_neg (by omega), if_neg (by omega), if_neg (by omega), if_neg (by omega), if_neg (by omega), if_pos h4]
        · rw [hD q (by omega) hq, db_d _ (by omega)]
theorem RC.i {c A : fb_N} (h : RC c A) {i k : Nat} (hi : i < 64) (hk : k < 64) : c 0 (33792 + 64 * i + k) = ibx A i k := by rw [h.d (by omega), db_i A hi hk]
theorem RC.m {c A : fb_N} (h : RC c A) {k : Nat} (hk : k < 64) : c 0 (37888 + k) = mbx A k := by rw [h.d (by omega), db_m A hk]
theorem RC.x {c A : fb_N} (h : RC c A) {q : Nat} (h1 : 38912 ≤ q) (h2 : q < 524288) : c 0 q = A 2 q := by rw [h.d h2, db_d A h1]
/-- nothing that the disk shows has changed -/
theorem rcEq {c A A' : fb_N} (h : RC c A) (e0 : A' 0 = A 0) (e1 : A' 1 = A 1) (e2 : A' 2 = A 2) (e3 : A' 3 = A 3) (e9 : A' 9 = A 9) (e12 : A' 12 = A 12) (e15 : A' 15 = A 15) (hI : ∀ i k, i < 64 → k < 64 → ibx A' i k = ibx A i k) : RC c A' := by
  refine ⟨RCmk h (fun i k hi hk => by rw [h.i hi hk, hI i k hi hk]) (fun k hk => by rw [h.m hk]; unfold mbx; rw [e3]) (fun q h1 h2 => by rw [h.x h1 h2, e2]) (fun _ _ => rfl) e12, ?_, ?_, ?_, ?_, h.w⟩
  · rw [e9]; exact h.2.1
  · rw [e0]; exact h.2.2.1
  · rw [e1]; exact h.2.2.2.1
  · rw [e15]; exact h.2.2.2.2.1
theorem rcX {c A : fb_N} (h : RC c A) {k i v : Nat} (hk : k = 10 ∨ k = 13 ∨ k = 14 ∨ k = 16 ∨ k = 17) : RC c (up A k i v) := by
  refine rcEq h (up_c A (by omega)) (up_c A (by omega)) (up_c A (by omega)) (up_c A (by omega)) (up_c A (by omega)) (up_c A (by omega)) (up_c A (by omega)) (fun a b _ _ => ?_)
  unfold ibx
  rw [up_c A (show 4 ≠ k by omega), up_c A (show 5 ≠ k by omega), up_c A (show 6 ≠ k by omega), up_c A (show 7 ≠ k by omega), up_c A (show 8 ≠ k by omega), up_c A (show 11 ≠ k by omega)]
theorem rc11x {c A : fb_N} (h : RC c A) {i k v : Nat} (h1 : 12 ≤ k) (h2 : k < 268) : RC c (up A 11 (269 * i + k) v) := by
  refine rcEq h (up_c A (by omega)) (up_c A (by omega)) (up_c A (by omega)) (up_c A (by omega)) (up_c A (by omega)) (up_c A (by omega)) (up_c A (by omega)) (fun a b _ hb => ?_)
  unfold ibx
  rw [up_c A (show 4 ≠ 11 by omega), up_c A (show 5 ≠ 11 by omega), up_c A (show 6 ≠ 11 by omega), up_c A (show 7 ≠ 11 by omega), up_c A (show 8 ≠ 11 by omega)]
  have e : up A 11 (269 * i + k) v 11 (269 * a + (if b / 4 - 3 < 12 then b / 4 - 3 else 268)) = A 11 (269 * a + (if b / 4 - 3 < 12 then b / 4 - 3 else 268)) := by
    apply up_n
    right
    split <;> omega
  rw [e]
theorem rc9 {c A : fb_N} (h : RC c A) (i v : Nat) : RC (up c 1 i v) (up A 9 i v) := by
  have h0 : up c 1 i v 0 = c 0 := up_c c (by omega)
  refine ⟨?_, ?_, ?_, ?_, ?_, cw_up h.w 1 i v (by omega)⟩
  · have h2 : RC c (up A 9 i v) ∨ True := Or.inr trivial
    rw [h0]
    intro q hq
    rw [h.d hq]
    unfold db ibx mbx
    rw [up_c A (show 12 ≠ 9 by omega), up_c A (show 4 ≠ 9 by omega), up_c A (show 5 ≠ 9 by omega), up_c A (show 6 ≠ 9 by omega), up_c A (show 7 ≠ 9 by omega), up_c A (show 8 ≠ 9 by omega), up_c A (show 11 ≠ 9 by omega), up_c A (show 3 ≠ 9 by omega), up_c A (show 2 ≠ 9 by omega)]
  · unfold up
    rw [va_up_s, va_up_s, h.2.1]
  · rw [up_c c (by omega), up_c A (by omega)]; exact h.2.2.1
  · rw [up_c c (by omega), up_c A (by omega)]; exact h.2.2.2.1
  · rw [up_c c (by omega), up_c A (by omega)]; exact h.2.2.2.2.1
theorem db_c {A A' : fb_N} (e2 : A' 2 = A 2) (e3 : A' 3 = A 3) (e4 : A' 4 = A 4) (e5 : A' 5 = A 5) (e6 : A' 6 = A 6) (e7 : A' 7 = A 7) (e8 : A' 8 = A 8) (e11 : A' 11 = A 11) (e12 : A' 12 = A 12) : db A' = db A := by
  funext q
  unfold db ibx mbx
  rw [e2, e3, e4, e5, e6, e7, e8, e11, e12]
theorem rc0 {c A : fb_N} (h : RC c A) (i : Nat) {v : Nat} (hv : v < 256) : RC (up c 2 i v) (up A 0 i v) := by
  refine ⟨?_, ?_, ?_, ?_, ?_, cw_up h.w 2 i v (Or.inl hv)⟩
  · rw [up_c c (show 0 ≠ 2 by omega), db_c (A := A) (up_c A (by omega)) (up_c A (by omega)) (up_c A (by omega)) (up_c A (by omega)) (up_c A (by omega)) (up_c A (by omega)) (up_c A (by omega)) (up_c A (by omega)) (up_c A (by omega))]
    exact h.1
  · rw [up_c c (by omega), up_c A (by omega)]; exact h.2.1
  · unfold up
    rw [va_up_s, va_up_s, h.2.2.1]
  · rw [up_c c (by omega), up_c A (by omega)]; exact h.2.2.2.1
  · rw [up_c c (by omega), up_c A (by omega)]; exact h.2.2.2.2.1
theorem rc1 {c A : fb_N} (h : RC c A) (i : Nat) {v : Nat} (hv : v < 256) : RC (up c 5 i v) (up A 1 i v) := by
  refine ⟨?_, ?_, ?_, ?_, ?_, cw_up h.w 5 i v (Or.inl hv)⟩
  · rw [up_c c (show 0 ≠ 5 by omega), db_c (A := A) (up_c A (by omega)) (up_c A (by omega)) (up_c A (by omega)) (up_c A (by omega)) (up_c A (by omega)) (up_c A (by omega)) (up_c A (by omega)) (up_c A (by omega)) (up_c A (by omega))]
    exact h.1
  · rw [up_c c (by omega), up_c A (by omega)]; exact h.2.1
  · rw [up_c c (by omega), up_c A (by omega)]; exact h.2.2.1
  · unfold up
    rw [va_up_s, va_up_s, h.2.2.2.1]
  · rw [up_c c (by omega), up_c A (by omega)]; exact h.2.2.2.2.1
theorem rc15 {c A : fb_N} (h : RC c A) (v : Nat) : RC (up c 6 0 v) (up A 15 0 v) := by
  refine ⟨?_, ?_, ?_, ?_, ?_, cw_up h.w 6 0 v (by omega)⟩
  · rw [up_c c (show 0 ≠ 6 by omega), db_c (A := A) (up_c A (by omega)) (up_c A (by omega)) (up_c A (by omega)) (up_c A (by omega)) (up_c A (by omega)) (up_c A (by omega)) (up_c A (by omega)) (up_c A (by omega)) (up_c A (by omega))]
    exact h.1
  · rw [up_c c (by omega), up_c A (by omega)]; exact h.2.1
  · rw [up_c c (by omega), up_c A (by omega)]; exact h.2.2.1
  · rw [up_c c (by omega), up_c A (by omega)]; exact h.2.2.2.1
  · rw [up_s, up_s]
theorem rcS {c A : fb_N} (h : RC c A) {k i v : Nat} (hk : k = 3 ∨ k = 4) (hv : v < 256) : RC (up c k i v) A := by
  refine ⟨?_, ?_, ?_, ?_, ?_, cw_up h.w k i v (Or.inl hv)⟩
  · rw [up_c c (show 0 ≠ k by omega)]; exact h.1
  · rw [up_c c (by omega)]; exact h.2.1
  · rw [up_c c (by omega)]; exact h.2.2.1
  · rw [up_c c (by omega)]; exact h.2.2.2.1
  · rw [up_c c (by omega)]; exact h.2.2.2.2.1
/-- the disk alone changes -/
theorem rcD {c c' A A' : fb_N} (h : RC c A) (ec : ∀ k, k ≠ 0 → c' k = c k) (hb : ∀ q, c' 0 q < 256) (hI : ∀ i k, i < 64 → k < 64 → c' 0 (33792 + 64 * i + k) = ibx A' i k) (hM : ∀ k, k < 64 → c' 0 (37888 + k) = mbx A' k) (hD : ∀ q, 38912 ≤ q → q < 524288 → c' 0 q = A' 2 q) (hS : ∀ q, (q < 33792 ∨ (37952 ≤ q ∧ q < 38912)) → c' 0 q = c 0 q) (e0 : A' 0 = A 0) (e1 : A' 1 = A 1) (e9 : A' 9 = A 9) (e12 : A' 12 = A 12) (e15 : A' 15 = A 15) : RC c' A' := by
  refine ⟨RCmk h hI hM hD hS e12, ?_, ?_, ?_, ?_, ?_⟩
  · rw [ec 1 (by omega), e9]; exact h.2.1
  · rw [ec 2 (by omega), e0]; exact h.2.2.1
  · rw [ec 5 (by omega), e1]; exact h.2.2.2.1
  · rw [ec 6 (by omega), e15]; exact h.2.2.2.2.1
  · intro k q h1 h2
    by_cases hk : k = 0
    · subst hk; exact hb q
    · rw [ec k hk]; exact h.w k q h1 h2
theorem ibx_u (A : fb_N) {f i v : Nat} (hf : f = 4 ∨ f = 5 ∨ f = 6 ∨ f = 7) (a b : Nat) : ibx (up A f i v) a b = if a = i ∧ b / 2 = f - 4 then le v (b % 2) else ibx A a b := by
  unfold ibx
  rw [up_c A (show 8 ≠ f by omega), up_c A (show 11 ≠ f by omega)]
  have key : ∀ g, (g = 4 ∨ g = 5 ∨ g = 6 ∨ g = 7) → up A f i v g a = if a = i ∧ g = f then v else A g a := by
    intro g hg
    by_cases e : a = i ∧ g = f
    · obtain ⟨rfl, rfl⟩ := e
      rw [up_s, if_pos ⟨rfl, rfl⟩]
    · rw [up_n _ (by omega), if_neg e]
  rw [key 4 (by omega), key 5 (by omega), key 6 (by omega), key 7 (by omega)]
  by_cases e : a = i ∧ b / 2 = f - 4
  · rw [if_pos e]
    obtain ⟨rfl, e⟩ := e
    rcases hf with rfl | rfl | rfl | rfl
    · rw [if_pos (show b < 2 by omega), if_pos ⟨rfl, rfl⟩, show b % 2 = b by omega]
    · rw [if_neg (show ¬ b < 2 by omega), if_pos (show b < 4 by omega), if_pos ⟨rfl, rfl⟩, show b % 2 = b - 2 by omega]
    · rw [if_neg (show ¬ b < 2 by omega), if_neg (show ¬ b < 4 by omega), if_pos (show b < 6 by omega), if_pos ⟨rfl, rfl⟩, show b % 2 = b - 4 by omega]
    · rw [if_neg (show ¬ b < 2 by omega), if_neg (show ¬ b < 4 by omega), if_neg (show ¬ b < 6 by omega), if_pos (show b < 8 by omega), if_pos ⟨rfl, rfl⟩, show b % 2 = b - 6 by omega]
  · rw [if_neg e]
    by_cases h1 : b < 2
    · rw [if_pos h1, if_pos h1, if_neg (show ¬ (a = i ∧ 4 = f) by omega)]
    · rw [if_neg h1, if_neg h1]
      by_cases h2 : b < 4
      · rw [if_pos h2, if_pos h2, if_neg (show ¬ (a = i ∧ 5 = f) by omega)]
      · rw [if_neg h2, if_neg h2]
        by_cases h3 : b < 6
        · rw [if_pos h3, if_pos h3, if_neg (show ¬ (a = i ∧ 6 = f) by omega)]
        · rw [if_neg h3, if_neg h3]
          by_cases h4 : b < 8
          · rw [if_pos h4, if_pos h4, if_neg (show ¬ (a = i ∧ 7 = f) by omega)]
          · rw [if_neg h4, if_neg h4]
/-- kind, major, minor, links: two bytes -/
theorem rc2b {c A : fb_N} (h : RC c A) {f i : Nat} (hf : f = 4 ∨ f = 5 ∨ f = 6 ∨ f = 7) (hi : i < 64) (v : Nat) : RC (up (up c 0 (33792 + 64 * i + 2 * (f - 4)) (v % 256)) 0 (33792 + 64 * i + 2 * (f - 4) + 1) (v / 256 % 256)) (up A f i v) := by
  have hv : ∀ q, up (up c 0 (33792 + 64 * i + 2 * (f - 4)) (v % 256)) 0 (33792 + 64 * i + 2 * (f - 4) + 1) (v / 256 % 256) 0 q = if q = 33792 + 64 * i + 2 * (f - 4) + 1 then v / 256 % 256 else if q = 33792 + 64 * i + 2 * (f - 4) then v % 256 else c 0 q := by
    intro q
    by_cases e1 : q = 33792 + 64 * i + 2 * (f - 4) + 1
    · rw [if_pos e1, e1, up_s]
    · rw [if_neg e1, up_n _ (Or.inr e1)]
      by_cases e2 : q = 33792 + 64 * i + 2 * (f - 4)
      · rw [if_pos e2, e2, up_s]
      · rw [if_neg e2, up_n _ (Or.inr e2)]
  refine rcD h (fun k hk => by rw [up_c _ hk, up_c _ hk]) (fun q => by rw [hv]; have := h.w.b q; split <;> (try split) <;> omega) ?_ ?_ ?_ ?_ (up_c A (by omega)) (up_c A (by omega)) (up_c A (by omega)) (up_c A (by omega)) (up_c A (by omega))
  · intro a b ha hb
    rw [hv, ibx_u A hf]
    by_cases e : a = i ∧ b / 2 = f - 4
    · rw [if_pos e]
      rcases (show b % 2 = 0 ∨ b % 2 = 1 by omega) with e2 | e2
      · rw [if_neg (by omega), if_pos (by omega), e2, le0]
      · rw [if_pos (by omega), e2, le1]
    · rw [if_neg e, if_neg (by omega), if_neg (by omega), h.i ha hb]
  · intro k hk
    rw [hv, if_neg (by omega), if_neg (by omega), h.m hk]
    unfold mbx
    rw [up_c A (show 3 ≠ f by omega)]
  · intro q h1 h2
    rw [hv, if_neg (by omega), if_neg (by omega), h.x h1 h2, up_c A (show 2 ≠ f by omega)]
  · intro q hq
    rw [hv, if_neg (by omega), if_neg (by omega)]
theorem s4_in (B : Nat → Nat) (q n : Nat) {t : Nat} (ht : t < 4) : s4 B q n (q + t) = le n t := by
  unfold s4
  rcases (show t = 0 ∨ t = 1 ∨ t = 2 ∨ t = 3 by omega) with rfl | rfl | rfl | rfl
  · rw [if_pos (by omega), le0]
  · rw [if_neg (by omega), if_pos rfl, le1]
  · rw [if_neg (by omega), if_neg (by omega), if_pos rfl, le2]
  · rw [if_neg (by omega), if_neg (by omega), if_neg (by omega), if_pos rfl, le3]
theorem s4_out (B : Nat → Nat) {q n p : Nat} (h : p < q ∨ q + 4 ≤ p) : s4 B q n p = B p := by
  unfold s4
  rw [if_neg (by omega), if_neg (by omega), if_neg (by omega), if_neg (by omega)]
theorem s4_b {B : Nat → Nat} (hB : ∀ q, B q < 256) (q n p : Nat) : s4 B q n p < 256 := by
  unfold s4
  have := hB p
  split <;> (try split) <;> (try split) <;> (try split) <;> omega
/-- a number of four bytes in an inode: the size, or the number of a block -/
theorem rc4b {c A A' : fb_N} (h : RC c A) {i o v : Nat} (hi : i < 64) (ho : o < 61) (h4 : o % 4 = 0) (hx : ∀ a b, a < 64 → b < 64 → ibx A' a b = if a = i ∧ b / 4 = o / 4 then le v (b % 4) else ibx A a b) (e0 : A' 0 = A 0) (e1 : A' 1 = A 1) (e2 : A' 2 = A 2) (e3 : A' 3 = A 3) (e9 : A' 9 = A 9) (e12 : A' 12 = A 12) (e15 : A' 15 = A 15) : RC (va_up c 0 (s4 (c 0) (33792 + 64 * i + o) v)) A' := by
  refine rcD h (fun k hk => va_up_n _ _ _ hk) (fun q => by rw [va_up_s]; exact s4_b h.w.b _ _ q) ?_ ?_ ?_ ?_ e0 e1 e9 e12 e15
  · intro a b ha hb
    rw [va_up_s, hx a b ha hb]
    by_cases e : a = i ∧ b / 4 = o / 4
    · rw [if_pos e, show 33792 + 64 * a + b = 33792 + 64 * i + o + b % 4 by omega, s4_in _ _ _ (by omega)]
    · rw [if_neg e, s4_out _ (by omega), h.i ha hb]
  · intro k hk
    rw [va_up_s, s4_out _ (by omega), h.m hk]
    unfold mbx
    rw [e3]
  · intro q h1 h2
    rw [va_up_s, s4_out _ (by omega), h.x h1 h2, e2]
  · intro q hq
    rw [va_up_s, s4_out _ (by omega)]
theorem ibx_8 (A : fb_N) (i v a b : Nat) : ibx (up A 8 i v) a b = if a = i ∧ b / 4 = 8 / 4 then le v (b % 4) else ibx A a b := by
  unfold ibx
  rw [up_c A (show 4 ≠ 8 by omega), up_c A (show 5 ≠ 8 by omega), up_c A (show 6 ≠ 8 by omega), up_c A (show 7 ≠ 8 by omega), up_c A (show 11 ≠ 8 by omega)]
  by_cases h1 : b < 8
  · rw [if_neg (show ¬ (a = i ∧ b / 4 = 8 / 4) by omega)]
    by_cases z1 : b < 2
    · rw [if_pos z1, if_pos z1]
    · by_cases z2 : b < 4
      · rw [if_neg z1, if_neg z1, if_pos z2, if_pos z2]
      · by_cases z3 : b < 6
        · rw [if_neg z1, if_neg z1, if_neg z2, if_neg z2, if_pos z3, if_pos z3]
        · rw [if_neg z1, if_neg z1, if_neg z2, if_neg z2, if_neg z3, if_neg z3, if_pos h1, if_pos h1]
  · rw [if_neg (show ¬ b < 2 by omega), if_neg (show ¬ b < 4 by omega), if_neg (show ¬ b < 6 by omega), if_neg h1, if_neg (show ¬ b < 2 by omega), if_neg (show ¬ b < 4 by omega), if_neg (show ¬ b < 6 by omega), if_neg h1]
    by_cases h2 : b < 12
    · rw [if_pos h2, if_pos h2]
      by_cases ha : a = i
      · subst ha
        rw [if_pos (by omega), up_s, show b % 4 = b - 8 by omega]
      · rw [if_neg (by omega), up_n _ (Or.inr ha)]
    · rw [if_neg h2, if_neg h2, if_neg (show ¬ (a = i ∧ b / 4 = 8 / 4) by omega)]
theorem ibx_11 (A : fb_N) {i k v a b : Nat} (hk : k < 12 ∨ k = 268) (hb : b < 64) : ibx (up A 11 (269 * i + k) v) a b = if a = i ∧ b / 4 = (if k < 12 then 3 + k else 15) then le v (b % 4) else ibx A a b := by
  unfold ibx
  rw [up_c A (show 4 ≠ 11 by omega), up_c A (show 5 ≠ 11 by omega), up_c A (show 6 ≠ 11 by omega), up_c A (show 7 ≠ 11 by omega), up_c A (show 8 ≠ 11 by omega)]
  by_cases h1 : b < 12
  · have hn : ¬ (a = i ∧ b / 4 = (if k < 12 then 3 + k else 15)) := by split <;> omega
    rw [if_neg hn]
    by_cases z1 : b < 2
    · rw [if_pos z1, if_pos z1]
    · by_cases z2 : b < 4
      · rw [if_neg z1, if_neg z1, if_pos z2, if_pos z2]
      · by_cases z3 : b < 6
        · rw [if_neg z1, if_neg z1, if_neg z2, if_neg z2, if_pos z3, if_pos z3]
        · by_cases z4 : b < 8
          · rw [if_neg z1, if_neg z1, if_neg z2, if_neg z2, if_neg z3, if_neg z3, if_pos z4, if_pos z4]
          · rw [if_neg z1, if_neg z1, if_neg z2, if_neg z2, if_neg z3, if_neg z3, if_neg z4, if_neg z4, if_pos h1, if_pos h1]
  · rw [if_neg (show ¬ b < 2 by omega), if_neg (show ¬ b < 4 by omega), if_neg (show ¬ b < 6 by omega), if_neg (show ¬ b < 8 by omega), if_neg h1, if_neg (show ¬ b < 2 by omega), if_neg (show ¬ b < 4 by omega), if_neg (show ¬ b < 6 by omega), if_neg (show ¬ b < 8 by omega), if_neg h1]
    by_cases e : a = i ∧ b / 4 = (if k < 12 then 3 + k else 15)
    · rw [if_pos e]
      obtain ⟨rfl, e⟩ := e
      have e2 : (if b / 4 - 3 < 12 then b / 4 - 3 else 268) = k := by
        split at e <;> split <;> omega
      rw [e2, up_s]
    · rw [if_neg e, up_n]
      right
      split at e <;> split <;> omega
theorem rc8 {c A : fb_N} (h : RC c A) {i : Nat} (hi : i < 64) (v : Nat) : RC (va_up c 0 (s4 (c 0) (33792 + 64 * i + 8) v)) (up A 8 i v) :=
  rc4b h hi (by omega) (by omega) (fun a b _ _ => ibx_8 A i v a b) (up_c A (by omega)) (up_c A (by omega)) (up_c A (by omega)) (up_c A (by omega)) (up_c A (by omega)) (up_c A (by omega)) (up_c A (by omega))
theorem rc11 {c A : fb_N} (h : RC c A) {i k : Nat} (hi : i < 64) (hk : k < 12) (v : Nat) : RC (va_up c 0 (s4 (c 0) (33792 + 64 * i + (12 + 4 * k)) v)) (up A 11 (269 * i + k) v) :=
  rc4b h hi (by omega) (by omega) (fun a b _ hb => by rw [ibx_11 A (Or.inl hk) hb, if_pos hk, show (12 + 4 * k) / 4 = 3 + k by omega]) (up_c A (by omega)) (up_c A (by omega)) (up_c A (by omega)) (up_c A (by omega)) (up_c A (by omega)) (up_c A (by omega)) (up_c A (by omega))
theorem rc11n {c A : fb_N} (h : RC c A) {i : Nat} (hi : i < 64) (v : Nat) : RC (va_up c 0 (s4 (c 0) (33792 + 64 * i + 60) v)) (up A 11 (269 * i + 268) v) :=
  rc4b h hi (by omega) (by omega) (fun a b _ hb => by rw [ibx_11 A (Or.inr rfl) hb, if_neg (show ¬ (268 < 12) by omega)]) (up_c A (by omega)) (up_c A (by omega)) (up_c A (by omega)) (up_c A (by omega)) (up_c A (by omega)) (up_c A (by omega)) (up_c A (by omega))
/-- bytes of file blocks -/
theorem rcB {c A : fb_N} (h : RC c A) (f g : Nat → Nat) (hf : ∀ q, (q < 38912 → f q = c 0 q) ∧ (38912 ≤ q → q < 524288 → f q = g q)) (hb : ∀ q, f q < 256) : RC (va_up c 0 f) (va_up A 2 g) := by
  refine rcD h (fun k hk => va_up_n _ _ _ hk) (fun q => by rw [va_up_s]; exact hb q) ?_ ?_ ?_ ?_ (va_up_n _ _ _ (by omega)) (va_up_n _ _ _ (by omega)) (va_up_n _ _ _ (by omega)) (va_up_n _ _ _ (by omega)) (va_up_n _ _ _ (by omega))
  · intro a b ha hb
    rw [va_up_s, (hf _).1 (by omega), h.i ha hb]
    unfold ibx
    rw [va_up_n _ _ _ (show 4 ≠ 2 by omega), va_up_n _ _ _ (show 5 ≠ 2 by omega), va_up_n _ _ _ (show 6 ≠ 2 by omega), va_up_n _ _ _ (show 7 ≠ 2 by omega), va_up_n _ _ _ (show 8 ≠ 2 by omega), va_up_n _ _ _ (show 11 ≠ 2 by omega)]
  · intro k hk
    rw [va_up_s, (hf _).1 (by omega), h.m hk]
    unfold mbx
    rw [va_up_n _ _ _ (show 3 ≠ 2 by omega)]
  · intro q h1 h2
    rw [va_up_s, (hf _).2 h1 h2, va_up_s]
  · intro q hq
    rw [va_up_s, (hf _).1 (by omega)]
/-- one bit of the map -/
theorem rc3 {c A : fb_N} (h : RC c A) (o : oA A) {b v : Nat} (hb : b < 512) (hv : v ≤ 1) : RC (up c 0 (37888 + b / 8) (mbx (up A 3 b v) (b / 8))) (up A 3 b v) := by
  have hu : ∀ x, up A 3 b v 3 x ≤ 1 := by
    intro x
    by_cases e : x = b
    · rw [e, up_s]; exact hv
    · rw [up_n _ (Or.inr e)]; exact o.us x
  refine rcD h (fun k hk => up_c _ hk) ?_ ?_ ?_ ?_ ?_ (up_c A (by omega)) (up_c A (by omega)) (up_c A (by omega)) (up_c A (by omega)) (up_c A (by omega))
  · intro q
    by_cases e : q = 37888 + b / 8
    · rw [e, up_s]
      unfold mbx
      have h0 := hu (8 * (b / 8))
      have h1 := hu (8 * (b / 8) + 1)
      have h2 := hu (8 * (b / 8) + 2)
      have h3 := hu (8 * (b / 8) + 3)
      have h4 := hu (8 * (b / 8) + 4)
      have h5 := hu (8 * (b / 8) + 5)
      have h6 := hu (8 * (b / 8) + 6)
      have h7 := hu (8 * (b / 8) + 7)
      omega
    · rw [up_n _ (Or.inr e)]; exact h.w.b q
  · intro a k ha hk
    rw [up_n _ (Or.inr (by omega)), h.i ha hk]
    unfold ibx
    rw [up_c A (show 4 ≠ 3 by omega), up_c A (show 5 ≠ 3 by omega), up_c A (show 6 ≠ 3 by omega), up_c A (show 7 ≠ 3 by omega), up_c A (show 8 ≠ 3 by omega), up_c A (show 11 ≠ 3 by omega)]
  · intro k hk
    by_cases e : k = b / 8
    · rw [e, up_s]
    · rw [up_n _ (Or.inr (by omega)), h.m hk]
      unfold mbx
      rw [up_n A (show 3 ≠ 3 ∨ 8 * k ≠ b by omega), up_n A (show 3 ≠ 3 ∨ 8 * k + 1 ≠ b by omega), up_n A (show 3 ≠ 3 ∨ 8 * k + 2 ≠ b by omega), up_n A (show 3 ≠ 3 ∨ 8 * k + 3 ≠ b by omega), up_n A (show 3 ≠ 3 ∨ 8 * k + 4 ≠ b by omega), up_n A (show 3 ≠ 3 ∨ 8 * k + 5 ≠ b by omega), up_n A (show 3 ≠ 3 ∨ 8 * k + 6 ≠ b by omega), up_n A (show 3 ≠ 3 ∨ 8 * k + 7 ≠ b by omega)]
  · intro q h1 h2
    rw [up_n _ (Or.inr (by omega)), h.x h1 h2, up_c A (show 2 ≠ 3 by omega)]
  · intro q hq
    rw [up_n _ (Or.inr (by omega))]

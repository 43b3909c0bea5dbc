/-! what every state keeps -/
def vl (A : fb_N) (i k : Nat) : Prop := k < A 10 i ∨ (k = 268 ∧ 12 < A 10 i)
def pl (A : fb_N) (d p : Nat) : Nat := 1024 * A 11 (269 * d + p / 1024) + p % 1024
def nu (A : fb_N) (d p : Nat) : Nat := A 2 (pl A d p) + 256 * A 2 (pl A d p + 1)
def ne (A : fb_N) (d p k : Nat) : Nat := A 2 (pl A d p + 2 + k)
def dt (A : fb_N) (d p : Nat) : Prop := ne A d p 0 = 46 ∧ (ne A d p 1 = 0 ∨ (ne A d p 1 = 46 ∧ ne A d p 2 = 0))
def BK (A : fb_N) : Prop :=
  (∀ i k, i < 64 → vl A i k → 38 ≤ A 11 (269 * i + k) ∧ A 3 (A 11 (269 * i + k)) = 1) ∧
  (∀ i k, i < 64 → k < 269 → ¬ vl A i k → A 11 (269 * i + k) = 0) ∧
  (∀ i k i2 k2, i < 64 → i2 < 64 → vl A i k → vl A i2 k2 → A 11 (269 * i + k) = A 11 (269 * i2 + k2) → i = i2 ∧ k = k2) ∧
  (∀ b, b < 38 → A 3 b = 1) ∧
  (∀ i k t, i < 64 → 12 < A 10 i → 12 ≤ k → k < 268 → t < 4 → A 2 (1024 * A 11 (269 * i + 268) + 4 * (k - 12) + t) = le (A 11 (269 * i + k)) t) ∧
  (∀ q, q < 38912 → A 2 q = 0)
def DI (A : fb_N) : Prop :=
  (∀ i, i < 64 → A 4 i = 0 → A 5 i = 0 ∧ A 6 i = 0 ∧ A 7 i = 0 ∧ A 8 i = 0 ∧ A 9 i = 0) ∧ A 4 0 = 0 ∧ (∀ i, i < 64 → A 10 i = (A 8 i + 1023) / 1024) ∧ (∀ i, i < 64 → A 4 i = 1 → A 8 i % 16 = 0 ∧ 32 ≤ A 8 i)
/-- an entry in use -/
def en (A : fb_N) (d s : Nat) : Prop := d < 64 ∧ A 4 d = 1 ∧ 16 * s < A 8 d
def EN (A : fb_N) : Prop := ∀ d s, en A d s → nu A d (16 * s) < 64 ∧ (nu A d (16 * s) = d ∨ nu A d (16 * s) = 1 → dt A d (16 * s)) ∧ (nu A d (16 * s) ≠ 0 → nu A d (16 * s) ≠ d → A 4 (nu A d (16 * s)) = 1 → ¬ dt A d (16 * s) → nu A (nu A d (16 * s)) 16 = d ∧ ∀ s2, en A d s2 → nu A d (16 * s2) = nu A d (16 * s) → ¬ dt A d (16 * s2) → s2 = s)
/-- sums -/
def sg (f : Nat → Nat) : Nat → Nat
  | 0 => 0
  | n + 1 => sg f n + f n
noncomputable def cn1 (A : fb_N) (i d s : Nat) : Nat := by classical exact if en A d s ∧ d ≠ i ∧ nu A d (16 * s) = i then 1 else 0
noncomputable def cn (A : fb_N) (i : Nat) : Nat := sg (fun d => sg (fun s => cn1 A i d s) 17152) 64
def LK (A : fb_N) : Prop := ∀ i, i < 64 → 0 < i → cn A i + (if i = 1 then 1 else 0) ≤ A 7 i
def BD (j : Nat) (A : fb_N) : Prop := ∀ i, A 7 i ≤ j + 2 ∧ A 9 i ≤ j
def IV (j : Nat) (A : fb_N) : Prop := oA A ∧ BK A ∧ DI A ∧ EN A ∧ LK A ∧ BD j A
def sim (j : Nat) (st mt : fb_S) : Prop := ∃ c A : fb_N, st = ka c ∧ mt = mu A ∧ RC c A ∧ IV j A
theorem BK.cg {A B : fb_N} (h : BK A) (e2 : B 2 = A 2) (e3 : B 3 = A 3) (e10 : B 10 = A 10) (e11 : B 11 = A 11) : BK B := by
  unfold BK vl at *
  rw [e2, e3, e10, e11]
  exact h
theorem EN.cg {A B : fb_N} (h : EN A) (e2 : B 2 = A 2) (e4 : B 4 = A 4) (e8 : B 8 = A 8) (e11 : B 11 = A 11) : EN B := by
  unfold EN en dt nu ne pl at *
  rw [e2, e4, e8, e11]
  exact h
theorem cn_cg {A B : fb_N} (e2 : B 2 = A 2) (e4 : B 4 = A 4) (e8 : B 8 = A 8) (e11 : B 11 = A 11) (i : Nat) : cn B i = cn A i := by
  unfold cn cn1 en nu pl
  rw [e2, e4, e8, e11]
theorem LK.cg {A B : fb_N} (h : LK A) (e2 : B 2 = A 2) (e4 : B 4 = A 4) (e7 : B 7 = A 7) (e8 : B 8 = A 8) (e11 : B 11 = A 11) : LK B := by
  intro i h1 h2
  rw [cn_cg e2 e4 e8 e11, e7]
  exact h i h1 h2
theorem DI.cg {A B : fb_N} (h : DI A) (e4 : B 4 = A 4) (e5 : B 5 = A 5) (e6 : B 6 = A 6) (e7 : B 7 = A 7) (e8 : B 8 = A 8) (e9 : B 9 = A 9) (e10 : B 10 = A 10) : DI B := by
  unfold DI at *
  rw [e4, e5, e6, e7, e8, e9, e10]
  exact h
theorem BD.mono {j : Nat} {A : fb_N} (h : BD j A) : BD (j + 1) A := fun i => ⟨by have := (h i).1; omega, by have := (h i).2; omega⟩
theorem IV.next {j : Nat} {A : fb_N} (h : IV j A) : IV (j + 1) A := ⟨h.1, h.2.1, h.2.2.1, h.2.2.2.1, h.2.2.2.2.1, h.2.2.2.2.2.mono⟩
/-- text, buffer, name, thrown, typed, p, end: no matter -/
theorem IV.off {j : Nat} {A : fb_N} (h : IV j A) {k i v : Nat} (hk : k = 0 ∨ k = 1 ∨ k = 13 ∨ k = 15 ∨ k = 16 ∨ k = 17) (hv : (k = 0 ∨ k = 1 ∨ k = 13) → v < 256) (h15 : k = 15 → v ≤ 260) : IV j (up A k i v) := by
  have u : ∀ j, j ≠ k → up A k i v j = A j := fun j hj => up_c A hj
  refine ⟨?_, h.2.1.cg (u 2 (by omega)) (u 3 (by omega)) (u 10 (by omega)) (u 11 (by omega)), h.2.2.1.cg (u 4 (by omega)) (u 5 (by omega)) (u 6 (by omega)) (u 7 (by omega)) (u 8 (by omega)) (u 9 (by omega)) (u 10 (by omega)), h.2.2.2.1.cg (u 2 (by omega)) (u 4 (by omega)) (u 8 (by omega)) (u 11 (by omega)), h.2.2.2.2.1.cg (u 2 (by omega)) (u 4 (by omega)) (u 7 (by omega)) (u 8 (by omega)) (u 11 (by omega)), fun i2 => by rw [u 7 (by omega), u 9 (by omega)]; exact h.2.2.2.2.2 i2⟩
  obtain ⟨g1, g2, g3, g4, g5, g6, g7, g8, g9, g10, g11, g12, g13⟩ := h.1
  refine ⟨?_, by rw [u 4 (by omega)]; exact g2, by rw [u 5 (by omega)]; exact g3, by rw [u 6 (by omega)]; exact g4, by rw [u 7 (by omega)]; exact g5, by rw [u 8 (by omega)]; exact g6, by rw [u 9 (by omega)]; exact g7, by rw [u 10 (by omega)]; exact g8, by rw [u 11 (by omega)]; exact g9, by rw [u 3 (by omega)]; exact g10, by rw [u 14 (by omega)]; exact g11, ?_, by rw [u 12 (by omega)]; exact g13⟩
  · intro k2 q hk2
    by_cases e : k2 = k ∧ q = i
    · obtain ⟨rfl, rfl⟩ := e
      rw [up_s]
      exact hv (by omega)
    · rw [up_n _ (by omega)]
      exact g1 k2 q hk2
  · by_cases e : k = 15 ∧ i = 0
    · obtain ⟨rfl, rfl⟩ := e
      rw [up_s]
      exact h15 rfl
    · rw [up_n _ (by omega)]
      exact g12

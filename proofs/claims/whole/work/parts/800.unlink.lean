/-! what erased entries change -/
def isE (A Z : fb_N) (E : Nat → Nat → Prop) : Prop := (∀ k, k ≠ 2 → k ≠ 7 → Z k = A k) ∧ (∀ x s, en A x s → E x s → nu Z x (16 * s) = 0) ∧ (∀ x s r, en A x s → ¬ E x s → r < 16 → Z 2 (pl A x (16 * s) + r) = A 2 (pl A x (16 * s) + r))
theorem E_en {A Z : fb_N} {E : Nat → Nat → Prop} (h : isE A Z E) {x s : Nat} : en Z x s ↔ en A x s := by
  unfold en
  rw [h.1 4 (by omega) (by omega), h.1 8 (by omega) (by omega)]
theorem E_pl {A Z : fb_N} {E : Nat → Nat → Prop} (h : isE A Z E) (x p : Nat) : pl Z x p = pl A x p := by
  unfold pl
  rw [h.1 11 (by omega) (by omega)]
theorem E_nu {A Z : fb_N} {E : Nat → Nat → Prop} (h : isE A Z E) {x s : Nat} (he : en A x s) (hn : ¬ E x s) : nu Z x (16 * s) = nu A x (16 * s) := by
  unfold nu
  have h0 := h.2.2 x s 0 he hn (by omega)
  rw [Nat.add_zero] at h0
  rw [E_pl h, h0, h.2.2 x s 1 he hn (by omega)]
theorem E_ne {A Z : fb_N} {E : Nat → Nat → Prop} (h : isE A Z E) {x s : Nat} (he : en A x s) (hn : ¬ E x s) {k : Nat} (hk : k < 14) : ne Z x (16 * s) k = ne A x (16 * s) k := by
  unfold ne
  rw [E_pl h, Nat.add_assoc, h.2.2 x s (2 + k) he hn (by omega)]
theorem E_dt {A Z : fb_N} {E : Nat → Nat → Prop} (h : isE A Z E) {x s : Nat} (he : en A x s) (hn : ¬ E x s) : dt Z x (16 * s) ↔ dt A x (16 * s) := by
  unfold dt
  rw [E_ne h he hn (by omega), E_ne h he hn (by omega), E_ne h he hn (by omega)]
theorem EN.era {A Z : fb_N} {E : Nat → Nat → Prop} (hE : EN A) (h : isE A Z E) (hS : dS A) (h0 : A 4 0 = 0) (hc : ∀ x s, en A x s → ¬ E x s → nu A x (16 * s) ≠ 0 → nu A x (16 * s) ≠ x → A 4 (nu A x (16 * s)) = 1 → ¬ dt A x (16 * s) → ¬ E (nu A x (16 * s)) 1) : EN Z := by
  have e4 : Z 4 = A 4 := h.1 4 (by omega) (by omega)
  intro x s he
  have he2 := (E_en h).mp he
  by_cases q : E x s
  · have hz := h.2.1 x s he2 q
    rw [hz]
    refine ⟨by omega, fun w => ?_, fun w => absurd rfl w⟩
    exfalso
    rcases w with w | w
    · have := he2.2.1
      rw [← w, h0] at this
      omega
    · omega
  · obtain ⟨q1, q2, q3⟩ := hE x s he2
    rw [E_nu h he2 q, E_dt h he2 q, e4]
    refine ⟨q1, q2, fun a1 a2 a3 a4 => ?_⟩
    obtain ⟨w1, w2⟩ := q3 a1 a2 a3 a4
    have hz : en A (nu A x (16 * s)) 1 := ⟨q1, a3, by have := (hS _ q1 a3).2; omega⟩
    refine ⟨?_, fun s2 g1 g2 g3 => ?_⟩
    · have := E_nu h hz (hc x s he2 q a1 a2 a3 a4)
      rw [Nat.mul_one] at this
      rw [this]
      exact w1
    · have g1 := (E_en h).mp g1
      by_cases z : E x s2
      · rw [h.2.1 x s2 g1 z] at g2
        exact absurd g2.symm a1
      · rw [E_nu h g1 z] at g2
        rw [E_dt h g1 z] at g3
        exact w2 s2 g1 g2 g3
theorem cn1_E {A Z : fb_N} {E : Nat → Nat → Prop} (h : isE A Z E) {x : Nat} (hx : 0 < x) (y s : Nat) : cn1 Z x y s ≤ cn1 A x y s ∧ (E y s → cn1 Z x y s = 0) := by
  unfold cn1
  by_cases hc : en Z y s ∧ y ≠ x ∧ nu Z y (16 * s) = x
  · obtain ⟨c1, c2, c3⟩ := hc
    have he := (E_en h).mp c1
    by_cases q : E y s
    · rw [h.2.1 y s he q] at c3
      omega
    · rw [E_nu h he q] at c3
      rw [if_pos ⟨c1, c2, by rw [E_nu h he q]; exact c3⟩, if_pos ⟨he, c2, c3⟩]
      exact ⟨Nat.le_refl _, fun w => absurd w q⟩
  · rw [if_neg hc]
    exact ⟨Nat.zero_le _, fun _ => rfl⟩
theorem cn_E {A Z : fb_N} {E : Nat → Nat → Prop} (h : isE A Z E) {x : Nat} (hx : 0 < x) : cn Z x ≤ cn A x := by
  unfold cn
  exact sg_mono _ (fun y _ => sg_mono _ (fun s _ => (cn1_E h hx y s).1))
theorem sg_dec {f g : Nat → Nat} (t a : Nat) : ∀ n, (∀ x, x < n → g x + (if x = t then a else 0) ≤ f x) → t < n → sg g n + a ≤ sg f n := by
  intro n
  induction n with
  | zero => intro _ h; omega
  | succ n ih =>
    intro h ht
    show sg g n + g n + a ≤ sg f n + f n
    have h2 := h n (by omega)
    by_cases e : n = t
    · rw [if_pos e] at h2
      have h1 := sg_mono (f := g) (g := f) n (fun x hx => by
        have := h x (by omega)
        omega)
      omega
    · rw [if_neg e] at h2
      have h1 := ih (fun x hx => h x (by omega)) (by omega)
      omega
theorem cn_Es {A Z : fb_N} {E : Nat → Nat → Prop} (o : oA A) (h : isE A Z E) {x d t : Nat} (hx : 0 < x) (he : en A d t) (hE : E d t) (hd : d ≠ x) (hn : nu A d (16 * t) = x) : cn Z x + 1 ≤ cn A x := by
  have h8 := o.sz d
  have hs := he.2.2
  unfold cn
  refine sg_dec d 1 64 (fun y _ => ?_) he.1
  by_cases q : y = d
  · rw [if_pos q]
    subst q
    refine sg_dec t 1 17152 (fun s _ => ?_) (by omega)
    by_cases w : s = t
    · rw [if_pos w]
      subst w
      rw [(cn1_E h hx y s).2 hE]
      unfold cn1
      rw [if_pos ⟨he, hd, hn⟩]
      exact Nat.le_refl _
    · rw [if_neg w]
      exact (cn1_E h hx y s).1
  · rw [if_neg q, Nat.add_zero]
    exact sg_mono 17152 (fun s _ => (cn1_E h hx y s).1)
theorem IV.era {j : Nat} {A Z : fb_N} {E : Nat → Nat → Prop} (hI : IV j A) (h : isE A Z E) (hB : BK Z) (hb : ∀ q, Z 2 q < 256) (h7 : ∀ x, Z 7 x ≤ A 7 x ∧ (Z 7 x ≠ A 7 x → A 4 x ≠ 0)) (hc : ∀ x s, en A x s → ¬ E x s → nu A x (16 * s) ≠ 0 → nu A x (16 * s) ≠ x → A 4 (nu A x (16 * s)) = 1 → ¬ dt A x (16 * s) → ¬ E (nu A x (16 * s)) 1) (hL : LK Z) : IV j Z := by
  obtain ⟨o, -, hD, hE, -, hJ⟩ := hI
  have u : ∀ k, k ≠ 2 → k ≠ 7 → Z k = A k := h.1
  refine ⟨?_, hB, ?_, hE.era h hD.dS hD.2.1 hc, hL, ?_⟩
  · obtain ⟨g1, g2, g3, g4, g5, g6, g7, g8, g9, g10, g11, g12, g13⟩ := o
    refine ⟨fun k q hk => ?_, by rw [u 4 (by omega) (by omega)]; exact g2, by rw [u 5 (by omega) (by omega)]; exact g3, by rw [u 6 (by omega) (by omega)]; exact g4, fun x => by have := (h7 x).1; have := g5 x; omega, by rw [u 8 (by omega) (by omega)]; exact g6, by rw [u 9 (by omega) (by omega)]; exact g7, by rw [u 10 (by omega) (by omega)]; exact g8, by rw [u 11 (by omega) (by omega)]; exact g9, by rw [u 3 (by omega) (by omega)]; exact g10, by rw [u 14 (by omega) (by omega)]; exact g11, by rw [u 15 (by omega) (by omega)]; exact g12, by rw [u 12 (by omega) (by omega)]; exact g13⟩
    rcases hk with rfl | rfl | rfl | rfl
    · rw [u 0 (by omega) (by omega)]; exact g1 0 q (by omega)
    · rw [u 1 (by omega) (by omega)]; exact g1 1 q (by omega)
    · exact hb q
    · rw [u 13 (by omega) (by omega)]; exact g1 13 q (by omega)
  · obtain ⟨d1, d2, d3, d4⟩ := hD
    refine ⟨fun x hx hz => ?_, by rw [u 4 (by omega) (by omega)]; exact d2, by rw [u 10 (by omega) (by omega), u 8 (by omega) (by omega)]; exact d3, by rw [u 4 (by omega) (by omega), u 8 (by omega) (by omega)]; exact d4⟩
    rw [u 4 (by omega) (by omega)] at hz
    rw [u 5 (by omega) (by omega), u 6 (by omega) (by omega), u 8 (by omega) (by omega), u 9 (by omega) (by omega)]
    obtain ⟨p1, p2, p3, p4, p5⟩ := d1 x hx hz
    refine ⟨p1, p2, ?_, p4, p5⟩
    have := (h7 x).1
    omega
  · intro x
    rw [u 9 (by omega) (by omega)]
    have := (h7 x).1
    exact ⟨by have := (hJ x).1; omega, (hJ x).2⟩
/-- an entry's bytes behind an erasure -/
theorem er_e {A X : fb_N} (hB : BK A) (hD : DI A) {d t x s r : Nat} (hd : en A d t) (hx : en A x s) (hr : r < 16) : er X (pl A d (16 * t)) 2 (pl A x (16 * s) + r) = if x = d ∧ s = t then 0 else X 2 (pl A x (16 * s) + r) := by
  have hm := (hD.dS x hx.1 hx.2.1).1
  have h1 := pl_div A d (16 * t)
  have h2 := pl_mod A d (16 * t)
  have h3 := pl_div A x (16 * s)
  have h4 := pl_mod A x (16 * s)
  rw [er_2]
  by_cases q : x = d ∧ s = t
  · rw [if_pos q, q.1, q.2, if_pos (by omega)]
  · rw [if_neg q, if_neg]
    intro z
    have hb3 := hB.2.2.1 x (16 * s / 1024) d (16 * t / 1024) hx.1 hd.1 (vl_in hD hx.1 hx.2.2) (vl_in hD hd.1 hd.2.2) (by rw [← h1, ← h3]; omega)
    exact q ⟨hb3.1, by have := hb3.2; omega⟩
theorem en_v {A : fb_N} (hD : DI A) {d t : Nat} (h : en A d t) : 16 * t / 1024 < A 10 d := by
  have := hD.2.2.1 d h.1
  have := h.2.2
  omega

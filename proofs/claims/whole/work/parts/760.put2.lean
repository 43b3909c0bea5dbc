/-! what an entry that is put changes -/
def isP (A F : fb_N) (d t i : Nat) (nm : Nat → Nat) (w : Nat) : Prop :=
  (∀ k, k ≠ 2 → k ≠ 3 → k ≠ 8 → k ≠ 10 → k ≠ 11 → F k = A k) ∧ (∀ x, F 8 x = if x = d then max (A 8 d) (16 * t + 16) else A 8 x) ∧ oA F ∧ BK F ∧ DM F ∧ (∀ x p, x < 64 → p < A 8 x → ¬ (x = d ∧ p / 16 = t) → F 2 (pl F x p) = A 2 (pl A x p)) ∧ (nu F d (16 * t) = i ∧ ∀ k, k < 14 → ne F d (16 * t) k = nm k) ∧ lf F + w = lf A ∧ 16 * t ≤ A 8 d
theorem BK.ws {A : fb_N} (hB : BK A) (hm : ∀ d, A 10 d ≤ 268) {i k : Nat} {f : Nat → Nat} (hi : i < 64) (hk : k < A 10 i) (hf : ∀ q, q / 1024 ≠ A 11 (269 * i + k) → f q = A 2 q) : BK (va_up A 2 f) := by
  obtain ⟨B1, B2, B3, B4, B5, B6⟩ := hB
  have h38 := (B1 i k hi (Or.inl hk)).1
  have u : ∀ j, j ≠ 2 → va_up A 2 f j = A j := fun j hj => va_up_n _ _ _ hj
  unfold BK vl
  rw [u 3 (by omega), u 10 (by omega), u 11 (by omega), va_up_s]
  refine ⟨B1, B2, B3, B4, ?_, ?_⟩
  · intro d x t hd h12 hx1 hx2 ht
    rw [hf _ ?_]
    · exact B5 d x t hd h12 hx1 hx2 ht
    · intro e
      have h1 := B3 d 268 i k hd hi (Or.inr ⟨rfl, h12⟩) (Or.inl hk) (by omega)
      have := hm i
      omega
  · intro x hx
    rw [hf _ (by omega)]
    exact B6 x hx
theorem pl_div (A : fb_N) (x p : Nat) : pl A x p / 1024 = A 11 (269 * x + p / 1024) := by
  unfold pl
  omega
theorem pl_mod (A : fb_N) (x p : Nat) : pl A x p % 1024 = p % 1024 := by
  unfold pl
  omega
theorem ePt_c (G : fb_N) (d t i : Nat) (nm : Nat → Nat) (v : Nat) {j : Nat} (h2 : j ≠ 2) (h8 : j ≠ 8) : ePt G d t i nm v j = G j := by
  unfold ePt
  rw [up_c _ h8, va_up_n _ _ _ h2]
theorem ePt_2 (G : fb_N) (d t i : Nat) (nm : Nat → Nat) (v : Nat) : ePt G d t i nm v 2 = LB (G 2) (pl G d (16 * t)) i nm 14 := by
  unfold ePt
  rw [up_c _ (by omega), va_up_s]
theorem ePt_8 (G : fb_N) (d t i : Nat) (nm : Nat → Nat) (v x : Nat) : ePt G d t i nm v 8 x = if x = d then v else G 8 x := by
  unfold ePt
  by_cases e : x = d
  · rw [if_pos e, e, up_s]
  · rw [if_neg e, up_n _ (Or.inr e), va_up_n _ _ _ (by omega)]
theorem ePt_pl (G : fb_N) (d t i : Nat) (nm : Nat → Nat) (v x p : Nat) : pl (ePt G d t i nm v) x p = pl G x p := by
  unfold pl
  rw [ePt_c G d t i nm v (by omega) (by omega)]
theorem ePt_P {A G : fb_N} (hM : DM A) {d t i v w : Nat} {nm : Nat → Nat} (hd : d < 64) (hi : i < 65536) (hnb : ∀ k, k < 14 → nm k < 256) (hg : ∀ k, k ≠ 2 → k ≠ 3 → k ≠ 10 → k ≠ 11 → G k = A k) (oG : oA G) (hBG : BK G) (hpl : ∀ x p, x < 64 → p / 1024 < A 10 x → pl G x p = pl A x p ∧ G 2 (pl A x p) = A 2 (pl A x p)) (h10 : ∀ x, x ≠ d → G 10 x = A 10 x) (h10d : G 10 d = (v + 1023) / 1024) (hle : A 10 d ≤ G 10 d) (ht : 16 * t ≤ A 8 d) (hv : v = max (A 8 d) (16 * t + 16)) (hv2 : v ≤ 274432) (hl : lf G + w = lf A) : isP A (ePt G d t i nm v) d t i nm w := by
  have e8 : G 8 = A 8 := hg 8 (by omega) (by omega) (by omega) (by omega)
  have hvt : 16 * t / 1024 < G 10 d := by rw [h10d, hv]; omega
  have hmG := oG.mn
  obtain ⟨p1, p2, p3⟩ := pl_v oG hBG (d := d) (s := t) hd hvt
  have hblk : ∀ q, q / 1024 ≠ G 11 (269 * d + 16 * t / 1024) → LB (G 2) (pl G d (16 * t)) i nm 14 q = G 2 q := by
    intro q hq
    refine LB_out ?_
    have h1 := pl_div G d (16 * t)
    have h2 := pl_mod G d (16 * t)
    rcases Nat.lt_or_ge q (pl G d (16 * t)) with z | z
    · exact Or.inl z
    · rcases Nat.lt_or_ge q (pl G d (16 * t) + 2 + 14) with z2 | z2
      · exfalso
        apply hq
        rw [← h1]
        omega
      · exact Or.inr z2
  have hb : ∀ q, LB (G 2) (pl G d (16 * t)) i nm 14 q < 256 := LB_lt oG.dk hnb
  refine ⟨?_, ?_, ?_, ?_, ?_, ?_, ?_, ?_, ht⟩
  · intro k h2 h3 h8 h10' h11
    rw [ePt_c G d t i nm v h2 h8, hg k h2 h3 h10' h11]
  · intro x
    rw [ePt_8, hv, e8]
  · have o2 := oA_2 oG _ hb
    obtain ⟨g1, g2, g3, g4, g5, g6, g7, g8, g9, g10, g11, g12, g13⟩ := o2
    unfold ePt
    have u : ∀ j, j ≠ 8 → up (va_up G 2 (LB (G 2) (pl G d (16 * t)) i nm 14)) 8 d v j = va_up G 2 (LB (G 2) (pl G d (16 * t)) i nm 14) j := fun j hj => up_c _ hj
    refine ⟨fun k q hk => by rw [u k (by omega)]; exact g1 k q hk, by rw [u 4 (by omega)]; exact g2, by rw [u 5 (by omega)]; exact g3, by rw [u 6 (by omega)]; exact g4, by rw [u 7 (by omega)]; exact g5, fun x => ?_, by rw [u 9 (by omega)]; exact g7, by rw [u 10 (by omega)]; exact g8, by rw [u 11 (by omega)]; exact g9, by rw [u 3 (by omega)]; exact g10, by rw [u 14 (by omega)]; exact g11, by rw [u 15 (by omega)]; exact g12, by rw [u 12 (by omega)]; exact g13⟩
    by_cases e : x = d
    · rw [e, up_s]; exact hv2
    · rw [up_n _ (Or.inr e)]; exact g6 x
  · have hb2 := hBG.ws hmG hd hvt hblk
    exact hb2.cg (up_c _ (by omega)) (up_c _ (by omega)) (up_c _ (by omega)) (up_c _ (by omega))
  · intro x hx
    rw [ePt_c G d t i nm v (by omega) (by omega), ePt_8, e8]
    by_cases e : x = d
    · rw [if_pos e, e]; exact h10d
    · rw [if_neg e, h10 x e]; exact hM x hx
  · intro x p hx hp hne
    have hpa : p / 1024 < A 10 x := by rw [hM x hx]; omega
    have hpg : p / 1024 < G 10 x := by
      by_cases e : x = d
      · rw [e] at hpa ⊢; omega
      · rw [h10 x e]; exact hpa
    obtain ⟨q1, q2⟩ := hpl x p hx hpa
    rw [ePt_pl, ePt_2, ← q2, ← q1]
    refine LB_out ?_
    have h1 := pl_div G d (16 * t)
    have h2 := pl_mod G d (16 * t)
    have h3 := pl_div G x p
    have h4 := pl_mod G x p
    rcases Nat.lt_or_ge (pl G x p) (pl G d (16 * t)) with z | z
    · exact Or.inl z
    · rcases Nat.lt_or_ge (pl G x p) (pl G d (16 * t) + 2 + 14) with z2 | z2
      · exfalso
        have hb3 := hBG.2.2.1 x (p / 1024) d (16 * t / 1024) hx hd (Or.inl hpg) (Or.inl hvt) (by rw [← h1, ← h3]; omega)
        exact hne ⟨hb3.1, by have := hb3.2; omega⟩
      · exact Or.inr z2
  · constructor
    · unfold nu
      rw [ePt_pl, ePt_2]
      unfold LB
      rw [if_pos rfl, if_neg (by omega), if_pos rfl]
      omega
    · intro k hk
      unfold ne
      rw [ePt_pl, ePt_2]
      unfold LB
      rw [if_neg (by omega), if_neg (by omega), if_pos (by omega), show pl G d (16 * t) + 2 + k - pl G d (16 * t) - 2 = k by omega]
  · have : lf (ePt G d t i nm v) = lf G := by
      unfold lf
      rw [ePt_c G d t i nm v (by omega) (by omega)]
    rw [this]
    exact hl
/-! what entries see -/
theorem P_en {A F : fb_N} {d t i w : Nat} {nm : Nat → Nat} (h : isP A F d t i nm w) (hd : d < 64) (hk : A 4 d = 1) {x s : Nat} : en F x s ↔ (en A x s ∨ (x = d ∧ s = t)) := by
  obtain ⟨h1, h2, -, -, -, -, -, -, h9⟩ := h
  unfold en
  rw [h1 4 (by omega) (by omega) (by omega) (by omega) (by omega), h2]
  constructor
  · rintro ⟨a, b, e⟩
    by_cases q : x = d
    · rw [if_pos q] at e
      subst q
      rcases Nat.lt_or_ge (16 * s) (A 8 x) with z | z
      · exact Or.inl ⟨a, b, z⟩
      · exact Or.inr ⟨rfl, by omega⟩
    · rw [if_neg q] at e
      exact Or.inl ⟨a, b, e⟩
  · rintro (⟨a, b, e⟩ | ⟨q, z⟩)
    · refine ⟨a, b, ?_⟩
      by_cases q : x = d
      · rw [if_pos q]; subst q; omega
      · rw [if_neg q]; exact e
    · subst q
      subst z
      exact ⟨hd, hk, by rw [if_pos rfl]; omega⟩
theorem P_b {A F : fb_N} {d t i w : Nat} {nm : Nat → Nat} (h : isP A F d t i nm w) (hS : dS A) {x s : Nat} (he : en A x s) (hne : ¬ (x = d ∧ s = t)) {r : Nat} (hr : r < 16) : F 2 (pl F x (16 * s) + r) = A 2 (pl A x (16 * s) + r) := by
  obtain ⟨h1, h2, h3⟩ := he
  have hs := (hS x h1 h2).1
  rw [pl_16 _ _ _ _ hr, pl_16 _ _ _ _ hr]
  exact h.2.2.2.2.2.1 x (16 * s + r) h1 (by omega) (fun q => hne ⟨q.1, by have := q.2; omega⟩)
theorem P_nu {A F : fb_N} {d t i w : Nat} {nm : Nat → Nat} (h : isP A F d t i nm w) (hS : dS A) {x s : Nat} (he : en A x s) (hne : ¬ (x = d ∧ s = t)) : nu F x (16 * s) = nu A x (16 * s) := by
  unfold nu
  have h0 := P_b h hS he hne (r := 0) (by omega)
  rw [Nat.add_zero, Nat.add_zero] at h0
  rw [h0, P_b h hS he hne (by omega)]
theorem P_ne {A F : fb_N} {d t i w : Nat} {nm : Nat → Nat} (h : isP A F d t i nm w) (hS : dS A) {x s : Nat} (he : en A x s) (hne : ¬ (x = d ∧ s = t)) {k : Nat} (hk : k < 14) : ne F x (16 * s) k = ne A x (16 * s) k := by
  unfold ne
  rw [Nat.add_assoc, Nat.add_assoc, P_b h hS he hne (by omega)]
theorem P_dt {A F : fb_N} {d t i w : Nat} {nm : Nat → Nat} (h : isP A F d t i nm w) (hS : dS A) {x s : Nat} (he : en A x s) (hne : ¬ (x = d ∧ s = t)) : dt F x (16 * s) ↔ dt A x (16 * s) := by
  unfold dt
  rw [P_ne h hS he hne (by omega), P_ne h hS he hne (by omega), P_ne h hS he hne (by omega)]
def dtn (nm : Nat → Nat) : Prop := nm 0 = 46 ∧ (nm 1 = 0 ∨ (nm 1 = 46 ∧ nm 2 = 0))
theorem P_dtn {A F : fb_N} {d t i w : Nat} {nm : Nat → Nat} (h : isP A F d t i nm w) : dt F d (16 * t) ↔ dtn nm := by
  unfold dt dtn
  obtain ⟨-, g⟩ := h.2.2.2.2.2.2.1
  rw [g 0 (by omega), g 1 (by omega), g 2 (by omega)]
theorem EN.put {A F : fb_N} {d t i w : Nat} {nm : Nat → Nat} (hE : EN A) (h : isP A F d t i nm w) (hS : dS A) (h0 : A 4 0 = 0) (hd : d < 64) (hk : A 4 d = 1) (hi : i < 64) (hvac : nu A d (16 * t) = 0 ∨ 16 * t = A 8 d) (c1 : i = d ∨ i = 1 → dtn nm) (c2 : i ≠ 0 → i ≠ d → A 4 i = 1 → ¬ dtn nm → nu A i 16 = d ∧ ∀ s2, en A d s2 → nu A d (16 * s2) = i → dt A d (16 * s2)) : EN F := by
  have e4 : F 4 = A 4 := h.1 4 (by omega) (by omega) (by omega) (by omega) (by omega)
  have hnt := h.2.2.2.2.2.2.1.1
  intro x s he
  have he2 := (P_en h hd hk).mp he
  by_cases q : x = d ∧ s = t
  · obtain ⟨rfl, rfl⟩ := q
    rw [hnt, P_dtn h, e4]
    refine ⟨hi, c1, fun a1 a2 a3 a4 => ?_⟩
    obtain ⟨b1, b2⟩ := c2 a1 a2 a3 a4
    have hz : en A i 1 := ⟨hi, a3, by have := (hS i hi a3).2; omega⟩
    refine ⟨?_, fun s2 g1 g2 g3 => ?_⟩
    · have := P_nu h hS hz (fun q => a2 q.1)
      rw [Nat.mul_one] at this
      rw [this]
      exact b1
    · rcases (P_en h hd hk).mp g1 with w1 | w1
      · by_cases w2 : s2 = s
        · exact w2
        · exfalso
          have hn : ¬ (x = x ∧ s2 = s) := fun q => w2 q.2
          rw [P_nu h hS w1 hn] at g2
          rw [P_dt h hS w1 hn] at g3
          exact g3 (b2 s2 w1 g2)
      · exact w1.2
  · have he3 : en A x s := by
      rcases he2 with w | w
      · exact w
      · exact absurd w q
    obtain ⟨q1, q2, q3⟩ := hE x s he3
    rw [P_nu h hS he3 q, P_dt h hS he3 q, e4]
    refine ⟨q1, q2, fun a1 a2 a3 a4 => ?_⟩
    obtain ⟨w1, w2⟩ := q3 a1 a2 a3 a4
    have hz : en A (nu A x (16 * s)) 1 := ⟨q1, a3, by have := (hS _ q1 a3).2; omega⟩
    refine ⟨?_, fun s2 g1 g2 g3 => ?_⟩
    · by_cases z : nu A x (16 * s) = d ∧ 1 = t
      · exfalso
        obtain ⟨z1, z2⟩ := z
        rw [z1] at w1
        have := he3.2.1
        rcases hvac with v | v
        · rw [← z2, Nat.mul_one, w1] at v
          rw [v] at this
          omega
        · have := (hS d hd hk).2
          omega
      · have := P_nu h hS hz z
        rw [Nat.mul_one] at this
        rw [this]
        exact w1
    · rcases (P_en h hd hk).mp g1 with v1 | v1
      · by_cases z : x = d ∧ s2 = t
        · exfalso
          obtain ⟨z1, z2⟩ := z
          subst z1
          subst z2
          rw [hnt] at g2
          rw [P_dtn h] at g3
          have := (c2 (by omega) (by omega) (by rw [g2]; exact a3) g3).2 s he3 g2.symm
          exact a4 this
        · rw [P_nu h hS v1 z] at g2
          rw [P_dt h hS v1 z] at g3
          exact w2 s2 v1 g2 g3
      · exfalso
        obtain ⟨z1, z2⟩ := v1
        subst z1
        subst z2
        rw [hnt] at g2
        rw [P_dtn h] at g3
        have := (c2 (by omega) (by omega) (by rw [g2]; exact a3) g3).2 s he3 g2.symm
        exact a4 this
theorem sg_ind {f g : Nat → Nat} (t a : Nat) : ∀ n, (∀ x, x < n → g x ≤ f x + (if x = t then a else 0)) → sg g n ≤ sg f n + (if t < n then a else 0) := by
  intro n
  induction n with
  | zero => intro _; show 0 ≤ 0 + _; omega
  | succ n ih =>
    intro h
    show sg g n + g n ≤ sg f n + f n + _
    have h1 := ih (fun x hx => h x (by omega))
    have h2 := h n (by omega)
    by_cases e : n = t
    · rw [if_pos e] at h2
      rw [if_neg (by omega)] at h1
      rw [if_pos (by omega)]
      omega
    · rw [if_neg e] at h2
      by_cases e2 : t < n
      · rw [if_pos e2] at h1
        rw [if_pos (by omega)]
        omega
      · rw [if_neg e2] at h1
        rw [if_neg (by omega)]
        omega
theorem cn_put {A F : fb_N} {d t i w : Nat} {nm : Nat → Nat} (h : isP A F d t i nm w) (hS : dS A) (hd : d < 64) (hk : A 4 d = 1) (x : Nat) : cn F x ≤ cn A x + (if x = i then 1 else 0) := by
  unfold cn
  have key : sg (fun d => sg (fun s => cn1 F x d s) 17152) 64 ≤ sg (fun d => sg (fun s => cn1 A x d s) 17152) 64 + (if d < 64 then (if x = i then 1 else 0) else 0) := by
    apply sg_ind d
    intro y _
    have : sg (fun s => cn1 F x y s) 17152 ≤ sg (fun s => cn1 A x y s) 17152 + (if t < 17152 then (if y = d then (if x = i then 1 else 0) else 0) else 0) := by
      apply sg_ind t
      intro s _
      unfold cn1
      by_cases hc : en F y s ∧ y ≠ x ∧ nu F y (16 * s) = x
      · obtain ⟨c1, c2, c3⟩ := hc
        rw [if_pos ⟨c1, c2, c3⟩]
        by_cases q : y = d ∧ s = t
        · obtain ⟨rfl, rfl⟩ := q
          rw [h.2.2.2.2.2.2.1.1] at c3
          rw [if_pos rfl, if_pos rfl, if_pos c3.symm]
          omega
        · have he : en A y s := by
            rcases (P_en h hd hk).mp c1 with w | w
            · exact w
            · exact absurd w q
          rw [P_nu h hS he q] at c3
          rw [if_pos ⟨he, c2, c3⟩]
          omega
      · rw [if_neg hc]
        omega
    have h2 : (if t < 17152 then (if y = d then (if x = i then 1 else 0) else 0) else 0) ≤ (if y = d then (if x = i then 1 else 0) else 0 : Nat) := by
      split <;> omega
    omega
  rw [if_pos hd] at key
  exact key
theorem DI.put {A F : fb_N} {d t i w : Nat} {nm : Nat → Nat} (hD : DI A) (h : isP A F d t i nm w) (hd : d < 64) (hk : A 4 d = 1) : DI F := by
  obtain ⟨d1, d2, d3, d4⟩ := hD
  obtain ⟨h1, h2, -, -, h5, -, -, -, h9⟩ := h
  have u : ∀ k, (k = 4 ∨ k = 5 ∨ k = 6 ∨ k = 7 ∨ k = 9) → F k = A k := fun k hk => h1 k (by omega) (by omega) (by omega) (by omega) (by omega)
  refine ⟨?_, by rw [u 4 (by omega)]; exact d2, h5, ?_⟩
  · intro x hx hz
    rw [u 4 (by omega)] at hz
    rw [u 5 (by omega), u 6 (by omega), u 7 (by omega), u 9 (by omega), h2, if_neg (fun q => by rw [q] at hz; omega)]
    exact d1 x hx hz
  · intro x hx hz
    rw [u 4 (by omega)] at hz
    have := d4 x hx hz
    rw [h2]
    by_cases q : x = d
    · rw [if_pos q]; subst q; omega
    · rw [if_neg q]; exact this

/-! growing, packed; what entries see -/
theorem sg_up (f : Nat → Nat) (b v : Nat) : ∀ n, b < n → sg (un1 f b v) n + f b = sg f n + v := by
  intro n
  induction n with
  | zero => intro h; omega
  | succ n ih =>
    intro h
    show sg (un1 f b v) n + un1 f b v n + f b = sg f n + f n + v
    by_cases e : b = n
    · subst e
      rw [un1_s, sg_cg b (g := f) (fun i hi => un1_n f v (by omega))]
      omega
    · rw [un1_n f v (by omega)]
      have := ih (by omega)
      omega
theorem lf_tk {A : fb_N} (o : oA A) {b : Nat} (hb : isL A b) : lf (tk A b) + 1 = lf A := by
  have e : tk A b 3 = un1 (A 3) b 1 := by
    funext x
    rw [tk_3]
    rfl
  have h1 := sg_up (A 3) b 1 512 hb.2.1
  have h2 := hb.2.2.1
  have h3 : sg (tk A b 3) 512 ≤ 512 := sg_le 512 (fun i _ => (oA_tk o b).us i)
  unfold lf
  rw [e] at h3 ⊢
  omega
theorem grow_ok {c A : fb_N} (h : RC c A) (o : oA A) (hB : BK A) {i : Nat} (hi : i < 64) (hk : A 10 i < 268) (hf : (if A 10 i = 12 then 2 else 1) ≤ lf A) : ∃ (c2 F : fb_N) (b1 b2 : Nat), f_I_addBlock (nI i) (nI (A 10 i)) (ka c) = some (1, ka c2) ∧ f_M_grow (nI i) (mu A) = some (0, mu F) ∧ RC c2 F ∧ oA F ∧ isG A F i (A 10 i) b1 b2 ∧ frG A i (A 10 i) b1 b2 := by
  by_cases h12 : A 10 i = 12
  · rw [if_pos h12] at hf
    obtain ⟨b1, hb1⟩ := isL_ex o hB.2.2.2.1 (by omega)
    have o2 : oA (hA A i b1) := oA_11 (oA_tk o b1) hb1.2.1
    have hlf : lf (hA A i b1) = lf (tk A b1) := by
      unfold lf hA
      rw [up_c _ (by omega)]
    have e1 := lf_tk o hb1
    have h38 : ∀ b, b < 38 → hA A i b1 3 b = 1 := by
      intro b hb
      unfold hA
      rw [up_n _ (by omega), tk_3, hB.2.2.2.1 b hb]
      split <;> rfl
    obtain ⟨b2, hb2⟩ := isL_ex o2 h38 (by omega)
    obtain ⟨c2, hc2, hR2⟩ := kAdd12 h o hi hb1 h12 hb2 hf
    have hne : b1 ≠ b2 := by
      intro q
      have h3 := hb2.2.2.1
      unfold hA at h3
      rw [up_n _ (by omega), tk_3, if_pos q.symm] at h3
      omega
    have h32 : A 3 b2 = 0 := by
      have h3 := hb2.2.2.1
      unfold hA at h3
      rw [up_n _ (by omega), tk_3, if_neg (fun q => hne q.symm)] at h3
      exact h3
    rw [h12]
    refine ⟨c2, _, b1, b2, hc2, mGrow12 o hi hb1 h12 hb2, hR2, oA_gA o2 hb2.2.1 ?_, gA_G12 h12, h12, by omega, hb2.1, hb2.2.1, h32, fun _ => ⟨hb1.1, hb1.2.1, hb1.2.2.1, hne⟩, fun q => absurd rfl q⟩
    unfold hA
    rw [up_c _ (by omega), tk_c _ _ (by omega) (by omega), h12]
    omega
  · rw [if_neg h12] at hf
    obtain ⟨b, hb⟩ := isL_ex o hB.2.2.2.1 (by omega)
    obtain ⟨c2, hc2, hR2⟩ := kAdd h o hi hb hk h12 hf (fun q => (hB.1 i 268 hi (Or.inr ⟨rfl, by omega⟩)).1)
    exact ⟨c2, _, _, b, hc2, mGrow o hi hb hk h12, hR2, oA_gA o hb.2.1 hk, gA_G h12, rfl, hk, hb.1, hb.2.1, hb.2.2.1, fun q => absurd q h12, fun _ => rfl⟩
/-- directories have room for their two entries, and whole entries -/
def dS (A : fb_N) : Prop := ∀ d, d < 64 → A 4 d = 1 → A 8 d % 16 = 0 ∧ 32 ≤ A 8 d
/-- the directories' bytes are the same -/
def sD (A B : fb_N) : Prop := B 4 = A 4 ∧ (∀ d, d < 64 → A 4 d = 1 → B 8 d = A 8 d) ∧ ∀ d p, d < 64 → A 4 d = 1 → p < A 8 d → pl B d p = pl A d p ∧ B 2 (pl A d p) = A 2 (pl A d p)
theorem pl_16 (A : fb_N) (d s r : Nat) (hr : r < 16) : pl A d (16 * s) + r = pl A d (16 * s + r) := by
  unfold pl
  rw [show (16 * s + r) / 1024 = 16 * s / 1024 by omega]
  omega
theorem sD_b {A B : fb_N} (hS : dS A) (h : sD A B) {d s : Nat} (he : en A d s) {r : Nat} (hr : r < 16) : B 2 (pl B d (16 * s) + r) = A 2 (pl A d (16 * s) + r) := by
  obtain ⟨h1, h2, h3⟩ := he
  obtain ⟨g4, g8, g⟩ := h
  have hs := (hS d h1 h2).1
  rw [pl_16 _ _ _ _ hr, pl_16 _ _ _ _ hr]
  obtain ⟨e1, e2⟩ := g d (16 * s + r) h1 h2 (by omega)
  rw [e1, e2]
theorem sD_nu {A B : fb_N} (hS : dS A) (h : sD A B) {d s : Nat} (he : en A d s) : nu B d (16 * s) = nu A d (16 * s) := by
  unfold nu
  have h0 := sD_b hS h he (r := 0) (by omega)
  rw [Nat.add_zero, Nat.add_zero] at h0
  rw [h0, sD_b hS h he (by omega)]
theorem sD_ne {A B : fb_N} (hS : dS A) (h : sD A B) {d s : Nat} (he : en A d s) {k : Nat} (hk : k < 14) : ne B d (16 * s) k = ne A d (16 * s) k := by
  unfold ne
  rw [Nat.add_assoc, Nat.add_assoc, sD_b hS h he (by omega)]
theorem sD_dt {A B : fb_N} (hS : dS A) (h : sD A B) {d s : Nat} (he : en A d s) : dt B d (16 * s) ↔ dt A d (16 * s) := by
  unfold dt
  rw [sD_ne hS h he (by omega), sD_ne hS h he (by omega), sD_ne hS h he (by omega)]
theorem sD_en {A B : fb_N} (h : sD A B) {d s : Nat} : en B d s ↔ en A d s := by
  unfold en
  rw [h.1]
  constructor
  · intro q
    rw [h.2.1 d q.1 q.2.1] at q
    exact q
  · intro q
    rw [h.2.1 d q.1 q.2.1]
    exact q
theorem EN.dat {A B : fb_N} (hE : EN A) (hS : dS A) (h : sD A B) : EN B := by
  intro d s he
  have he := (sD_en h).mp he
  obtain ⟨q1, q2, q3⟩ := hE d s he
  rw [sD_nu hS h he, sD_dt hS h he]
  refine ⟨q1, q2, fun a1 a2 a3 a4 => ?_⟩
  rw [h.1] at a3
  obtain ⟨w1, w2⟩ := q3 a1 a2 a3 a4
  have hz : en A (nu A d (16 * s)) 1 := ⟨q1, a3, by have := (hS _ q1 a3).2; omega⟩
  refine ⟨?_, fun s2 g1 g2 g3 => ?_⟩
  · have := sD_nu hS h hz
    rw [Nat.mul_one] at this
    rw [this]
    exact w1
  · have g1 := (sD_en h).mp g1
    rw [sD_nu hS h g1] at g2
    rw [sD_dt hS h g1] at g3
    exact w2 s2 g1 g2 g3
theorem cn_dat {A B : fb_N} (hS : dS A) (h : sD A B) (i : Nat) : cn B i = cn A i := by
  unfold cn
  apply sg_cg
  intro d _
  apply sg_cg
  intro s _
  unfold cn1
  by_cases he : en A d s
  · rw [sD_nu hS h he]
    have he2 : en B d s := (sD_en h).mpr he
    by_cases z : d ≠ i ∧ nu A d (16 * s) = i
    · rw [if_pos ⟨he2, z⟩, if_pos ⟨he, z⟩]
    · rw [if_neg (fun q => z q.2), if_neg (fun q => z q.2)]
  · have he2 : ¬ en B d s := fun q => he ((sD_en h).mp q)
    rw [if_neg (fun q => he2 q.1), if_neg (fun q => he q.1)]
theorem LK.dat {A B : fb_N} (hL : LK A) (hS : dS A) (h : sD A B) (e7 : B 7 = A 7) : LK B := by
  intro i h1 h2
  rw [cn_dat hS h, e7]
  exact hL i h1 h2
theorem sD_tr {A B C : fb_N} (h1 : sD A B) (h2 : sD B C) : sD A C := by
  obtain ⟨a1, a2, a3⟩ := h1
  obtain ⟨b1, b2, b3⟩ := h2
  refine ⟨b1.trans a1, fun d g1 g2 => (b2 d g1 (by rw [a1]; exact g2)).trans (a2 d g1 g2), fun d p g1 g2 g3 => ?_⟩
  obtain ⟨e1, e2⟩ := a3 d p g1 g2 g3
  obtain ⟨f1, f2⟩ := b3 d p g1 (by rw [a1]; exact g2) (by rw [a2 d g1 g2]; exact g3)
  rw [e1] at f1 f2
  exact ⟨f1, f2.trans e2⟩
/-- growing leaves directories' bytes -/
theorem sD_G {A F : fb_N} {i k b1 b2 : Nat} (hB : BK A) (hm : ∀ d, A 10 d ≤ 268) (hG : isG A F i k b1 b2) (hf : frG A i k b1 b2) (hi : i < 64) (hv : ∀ d p, d < 64 → A 4 d = 1 → p < A 8 d → p / 1024 < A 10 d) : sD A F := by
  refine ⟨hG.2.2.2.2 4 (by omega) (by omega) (by omega) (by omega), fun d _ _ => by rw [hG.2.2.2.2 8 (by omega) (by omega) (by omega) (by omega)], fun d p g1 g2 g3 => ?_⟩
  have hv1 : vl A d (p / 1024) := Or.inl (hv d p g1 g2 g3)
  have hx : p / 1024 < 268 := by
    have := hm d
    have := hv d p g1 g2 g3
    omega
  obtain ⟨-, o2, -, -⟩ := bk_old hB hG hf hi g1 hv1 (by omega)
  refine ⟨by unfold pl; rw [o2], ?_⟩
  refine bk_data hB hG hf hi g1 hv1 (by omega) (by omega) ?_
  unfold pl
  omega
/-- a byte of a file -/
theorem rcW {c A : fb_N} (h : RC c A) {q v : Nat} (h1 : 38912 ≤ q) (hv : v < 256) : RC (up c 0 q v) (up A 2 q v) := by
  unfold up
  refine rcB h _ _ (fun x => ⟨fun hx => un1_n _ _ (by omega), fun h3 h4 => ?_⟩) (fun x => ?_)
  · unfold un1
    by_cases e : x = q
    · rw [if_pos e, if_pos e]
    · rw [if_neg e, if_neg e, h.x h3 h4]
  · unfold un1
    have := h.w.b x
    split <;> omega
theorem BK.w {A : fb_N} (hB : BK A) (hm : ∀ d, A 10 d ≤ 268) {i k q v : Nat} (hi : i < 64) (hk : k < A 10 i) (hq : q / 1024 = A 11 (269 * i + k)) : BK (up A 2 q v) := by
  obtain ⟨B1, B2, B3, B4, B5, B6⟩ := hB
  have h38 := (B1 i k hi (Or.inl hk)).1
  have u : ∀ j, j ≠ 2 → up A 2 q v j = A j := fun j hj => up_c A hj
  have e10 := u 10 (by omega)
  unfold BK vl
  rw [u 3 (by omega), e10, u 11 (by omega)]
  refine ⟨B1, B2, B3, B4, ?_, ?_⟩
  · intro d x t hd h12 hx1 hx2 ht
    rw [up_n _ (Or.inr ?_)]
    · exact B5 d x t hd h12 hx1 hx2 ht
    · intro e
      have h1 := B3 d 268 i k hd hi (Or.inr ⟨rfl, h12⟩) (Or.inl hk) (by omega)
      have := hm i
      omega
  · intro x hx
    rw [up_n _ (Or.inr (by omega))]
    exact B6 x hx
theorem sD_w {A : fb_N} (hB : BK A) {i k q v : Nat} (hi : i < 64) (hk : k < A 10 i) (hq : q / 1024 = A 11 (269 * i + k)) (h1 : A 4 i ≠ 1) (hv : ∀ d p, d < 64 → A 4 d = 1 → p < A 8 d → p / 1024 < A 10 d) : sD A (up A 2 q v) := by
  refine ⟨up_c A (by omega), fun d _ _ => by rw [up_c A (by omega)], fun d p g1 g2 g3 => ⟨by unfold pl; rw [up_c A (by omega)], ?_⟩⟩
  rw [up_n _ (Or.inr ?_)]
  intro e
  have h3 := hB.2.2.1 d (p / 1024) i k g1 hi (Or.inl (hv d p g1 g2 g3)) (Or.inl hk) (by rw [← hq, ← e]; unfold pl; omega)
  have : d = i := h3.1
  subst this
  exact h1 g2

/-! directories may go: what entries see then -/
def sW (A B : fb_N) : Prop := ∀ d, d < 64 → B 4 d = 1 → A 4 d = 1 ∧ B 8 d = A 8 d ∧ ∀ p, p < A 8 d → pl B d p = pl A d p ∧ B 2 (pl A d p) = A 2 (pl A d p)
theorem sW_en {A B : fb_N} (h : sW A B) {d s : Nat} (he : en B d s) : en A d s := by
  obtain ⟨h1, h2, h3⟩ := he
  obtain ⟨g1, g2, -⟩ := h d h1 h2
  exact ⟨h1, g1, by rw [← g2]; exact h3⟩
theorem sW_b {A B : fb_N} (hS : dS A) (h : sW A B) {d s : Nat} (he : en B d s) {r : Nat} (hr : r < 16) : B 2 (pl B d (16 * s) + r) = A 2 (pl A d (16 * s) + r) := by
  obtain ⟨h1, h2, h3⟩ := he
  obtain ⟨g1, g2, g⟩ := h d h1 h2
  have hs := (hS d h1 g1).1
  rw [pl_16 _ _ _ _ hr, pl_16 _ _ _ _ hr]
  obtain ⟨e1, e2⟩ := g (16 * s + r) (by omega)
  rw [e1, e2]
theorem sW_nu {A B : fb_N} (hS : dS A) (h : sW A B) {d s : Nat} (he : en B d s) : nu B d (16 * s) = nu A d (16 * s) := by
  unfold nu
  have h0 := sW_b hS h he (r := 0) (by omega)
  rw [Nat.add_zero, Nat.add_zero] at h0
  rw [h0, sW_b hS h he (by omega)]
theorem sW_ne {A B : fb_N} (hS : dS A) (h : sW A B) {d s : Nat} (he : en B d s) {k : Nat} (hk : k < 14) : ne B d (16 * s) k = ne A d (16 * s) k := by
  unfold ne
  rw [Nat.add_assoc, Nat.add_assoc, sW_b hS h he (by omega)]
theorem sW_dt {A B : fb_N} (hS : dS A) (h : sW A B) {d s : Nat} (he : en B d s) : dt B d (16 * s) ↔ dt A d (16 * s) := by
  unfold dt
  rw [sW_ne hS h he (by omega), sW_ne hS h he (by omega), sW_ne hS h he (by omega)]
theorem EN.wk {A B : fb_N} (hE : EN A) (hS : dS A) (h : sW A B) : EN B := by
  intro d s he
  have he2 := sW_en h he
  obtain ⟨q1, q2, q3⟩ := hE d s he2
  rw [sW_nu hS h he, sW_dt hS h he]
  refine ⟨q1, q2, fun a1 a2 a3 a4 => ?_⟩
  obtain ⟨b1, b2, -⟩ := h _ q1 a3
  obtain ⟨w1, w2⟩ := q3 a1 a2 b1 a4
  have hz : en B (nu A d (16 * s)) 1 := ⟨q1, a3, by have := (hS _ q1 b1).2; omega⟩
  refine ⟨?_, fun s2 g1 g2 g3 => ?_⟩
  · have := sW_nu hS h hz
    rw [Nat.mul_one] at this
    rw [this]
    exact w1
  · rw [sW_nu hS h g1] at g2
    rw [sW_dt hS h g1] at g3
    exact w2 s2 (sW_en h g1) g2 g3
theorem sg_mono {f g : Nat → Nat} : ∀ n, (∀ i, i < n → f i ≤ g i) → sg f n ≤ sg g n := by
  intro n
  induction n with
  | zero => intro _; exact Nat.le_refl _
  | succ n ih =>
    intro h
    show sg f n + f n ≤ sg g n + g n
    have h1 := ih (fun i hi => h i (by omega))
    have h2 := h n (by omega)
    omega
theorem cn_wk {A B : fb_N} (hS : dS A) (h : sW A B) (i : Nat) : cn B i ≤ cn A i := by
  unfold cn
  apply sg_mono
  intro d _
  apply sg_mono
  intro s _
  unfold cn1
  by_cases he : en B d s
  · rw [sW_nu hS h he]
    by_cases z : d ≠ i ∧ nu A d (16 * s) = i
    · rw [if_pos ⟨he, z⟩, if_pos ⟨sW_en h he, z⟩]
      exact Nat.le_refl _
    · rw [if_neg (fun q => z q.2)]
      omega
  · rw [if_neg (fun q => he q.1)]
    omega
theorem LK.wk {A B : fb_N} (hL : LK A) (hS : dS A) (h : sW A B) (h7 : ∀ i, i < 64 → 0 < i → A 7 i ≤ B 7 i) : LK B := by
  intro i h1 h2
  have := cn_wk hS h i
  have := hL i h1 h2
  have := h7 i h1 h2
  omega
theorem DI.dS {A : fb_N} (h : DI A) : dS A := h.2.2.2
/-! an empty file -/
theorem eB_n (A : fb_N) {i d k : Nat} (h : d ≠ i) (hk : k < 269) : eB A i 269 (269 * d + k) = A 11 (269 * d + k) := by
  unfold eB
  rw [if_neg (by omega)]
theorem eB_i (A : fb_N) {i k : Nat} (hk : k < 269) : eB A i 269 (269 * i + k) = 0 := by
  unfold eB
  rw [if_pos (by omega)]
theorem EE_c (A : fb_N) (i : Nat) {j : Nat} (h : j ≠ 3) (h2 : j ≠ 11) (h3 : j ≠ 10) (h4 : j ≠ 8) : EE A i j = A j := by
  unfold EE E0
  rw [up_c _ h4, up_c _ h3, va_up_n _ _ _ h2, va_up_n _ _ _ h]
theorem EE_3 (A : fb_N) (i : Nat) : EE A i 3 = eV A i 269 := by
  unfold EE E0
  rw [up_c _ (by omega), up_c _ (by omega), va_up_n _ _ _ (by omega), va_up_s]
theorem EE_11 (A : fb_N) (i : Nat) : EE A i 11 = eB A i 269 := by
  unfold EE E0
  rw [up_c _ (by omega), up_c _ (by omega), va_up_s]
theorem EE_10 (A : fb_N) (i d : Nat) : EE A i 10 d = if d = i then 0 else A 10 d := by
  unfold EE E0
  rw [up_c _ (by omega)]
  by_cases e : d = i
  · rw [if_pos e, e, up_s]
  · rw [if_neg e, up_n _ (Or.inr e), va_up_n _ _ _ (by omega), va_up_n _ _ _ (by omega)]
theorem EE_8 (A : fb_N) (i d : Nat) : EE A i 8 d = if d = i then 0 else A 8 d := by
  unfold EE E0
  by_cases e : d = i
  · rw [if_pos e, e, up_s]
  · rw [if_neg e, up_n _ (Or.inr e), up_c _ (by omega), va_up_n _ _ _ (by omega), va_up_n _ _ _ (by omega)]
theorem oA_EE {A : fb_N} (o : oA A) (i : Nat) : oA (EE A i) := by
  have o2 := oA_eV o i 269
  obtain ⟨g1, g2, g3, g4, g5, g6, g7, g8, g9, g10, g11, g12, g13⟩ := o
  have u : ∀ j, j ≠ 3 → j ≠ 11 → j ≠ 10 → j ≠ 8 → EE A i j = A j := fun j => EE_c A i
  refine ⟨fun k q hk => by rw [u k (by omega) (by omega) (by omega) (by omega)]; exact g1 k q hk, by rw [u 4 (by omega) (by omega) (by omega) (by omega)]; exact g2, by rw [u 5 (by omega) (by omega) (by omega) (by omega)]; exact g3, by rw [u 6 (by omega) (by omega) (by omega) (by omega)]; exact g4, by rw [u 7 (by omega) (by omega) (by omega) (by omega)]; exact g5, fun d => ?_, by rw [u 9 (by omega) (by omega) (by omega) (by omega)]; exact g7, fun d => ?_, fun q => ?_, fun b => ?_, by rw [u 14 (by omega) (by omega) (by omega) (by omega)]; exact g11, by rw [u 15 (by omega) (by omega) (by omega) (by omega)]; exact g12, by rw [u 12 (by omega) (by omega) (by omega) (by omega)]; exact g13⟩
  · rw [EE_8]
    have := g6 d
    split <;> omega
  · rw [EE_10]
    have := g8 d
    split <;> omega
  · rw [EE_11]
    unfold eB
    have := g9 q
    split <;> omega
  · rw [EE_3]
    have := o2.us b
    rw [va_up_s] at this
    exact this
theorem vl_lt {A : fb_N} (o : oA A) {i k : Nat} (h : vl A i k) : k < 269 := by
  have := o.mn i
  unfold vl at h
  omega
theorem EE_BK {A : fb_N} (o : oA A) (hB : BK A) {i : Nat} (hi : i < 64) : BK (EE A i) := by
  obtain ⟨B1, B2, B3, B4, B5, B6⟩ := hB
  have v : ∀ d k, vl (EE A i) d k → d ≠ i ∧ vl A d k := by
    intro d k h
    unfold vl at h ⊢
    rw [EE_10] at h
    by_cases e : d = i
    · rw [if_pos e] at h; omega
    · rw [if_neg e] at h; exact ⟨e, h⟩
  have vv : ∀ y, y < 269 → A 11 (269 * i + y) ≠ 0 → vl A i y := by
    intro y hy h
    rcases Classical.em (vl A i y) with q | q
    · exact q
    · exact absurd (B2 i y hi hy q) h
  have e2 : EE A i 2 = A 2 := EE_c A i (by omega) (by omega) (by omega) (by omega)
  have n11 : ∀ d k, d ≠ i → k < 269 → EE A i 11 (269 * d + k) = A 11 (269 * d + k) := fun d k h1 h2 => by rw [EE_11, eB_n A h1 h2]
  refine ⟨?_, ?_, ?_, ?_, ?_, ?_⟩
  · intro d k hd hv
    obtain ⟨h1, h2⟩ := v d k hv
    obtain ⟨p1, p2⟩ := B1 d k hd h2
    rw [n11 d k h1 (vl_lt o h2)]
    refine ⟨p1, ?_⟩
    rw [EE_3, eV_n i 269 _ (fun y hy hn q => ?_)]
    · exact p2
    · exact h1 (B3 i y d k hi hd (vv y hy hn) h2 q).1.symm
  · intro d k hd hk hv
    by_cases e : d = i
    · rw [e, EE_11, eB_i A hk]
    · rw [n11 d k e hk]
      refine B2 d k hd hk (fun q => hv ?_)
      unfold vl at q ⊢
      rw [EE_10, if_neg e]
      exact q
  · intro d k d2 k2 hd hd2 hv hv2
    obtain ⟨h1, h2⟩ := v d k hv
    obtain ⟨h3, h4⟩ := v d2 k2 hv2
    rw [n11 d k h1 (vl_lt o h2), n11 d2 k2 h3 (vl_lt o h4)]
    exact B3 d k d2 k2 hd hd2 h2 h4
  · intro b hb
    rw [EE_3, eV_n i 269 _ (fun y hy hn q => ?_)]
    · exact B4 b hb
    · have := (B1 i y hi (vv y hy hn)).1
      omega
  · intro d k t hd h12 hk1 hk2 ht
    rw [EE_10] at h12
    by_cases e : d = i
    · rw [if_pos e] at h12; omega
    · rw [if_neg e] at h12
      rw [e2, n11 d _ e (by omega), n11 d _ e (by omega)]
      exact B5 d k t hd h12 hk1 hk2 ht
  · rw [e2]; exact B6
theorem EE_pl (A : fb_N) {i d p : Nat} (h : d ≠ i) (hp : p / 1024 < 269) : pl (EE A i) d p = pl A d p := by
  unfold pl
  rw [EE_11, eB_n A h hp]
theorem sW_EE {A B : fb_N} (o : oA A) {i : Nat} (h4 : ∀ d, d < 64 → B 4 d = 1 → d ≠ i ∧ A 4 d = 1) (e2 : B 2 = EE A i 2) (e8 : B 8 = EE A i 8) (e11 : B 11 = EE A i 11) : sW A B := by
  intro d hd hk
  obtain ⟨h1, h2⟩ := h4 d hd hk
  refine ⟨h2, by rw [e8, EE_8, if_neg h1], fun p hp => ?_⟩
  have := o.sz d
  refine ⟨?_, by rw [e2, EE_c A i (by omega) (by omega) (by omega) (by omega)]⟩
  rw [← EE_pl A h1 (p := p) (by omega)]
  unfold pl
  rw [e11]
theorem s_clear : sm_clear sim := by
  intro j st mt x hj hs
  obtain ⟨c, A, rfl, rfl, hR, hI⟩ := hs
  have no : ∀ x : Int32, (x < 0 ∨ nI 64 ≤ x) → f_T_clear x (ka c) = some (0, ka c) ∧ f_M_clear x (mu A) = some (0, mu A) := by
    intro x hx
    constructor
    · unfold f_T_clear
      rw [iKindN c hx, Option.bind_some, if_neg (show ¬ (0 : Int32) = 2 by decide), rz0]
    · unfold f_M_clear
      rw [mThr hI.1, Option.bind_some, mThN A hx, Option.bind_some, if_pos rfl, rz0]
  rcases ix x (n := 64) (by decide) with hx | ⟨_, hx⟩ | ⟨i, hi, rfl⟩
  · exact ⟨0, ka c, mu A, (no x (Or.inl hx)).1, (no x (Or.inl hx)).2, c, A, rfl, rfl, hR, hI.next⟩
  · exact ⟨0, ka c, mu A, (no x (Or.inr hx)).1, (no x (Or.inr hx)).2, c, A, rfl, rfl, hR, hI.next⟩
  · obtain ⟨o, hB, hD, hE, hL, hJ⟩ := hI
    have hk3 := o.ki i
    by_cases hk : A 4 i = 2
    · obtain ⟨c2, h1, h2⟩ := kDrop hR o hB hi
      have h3 := rc8 h2 hi 0
      have h4 : f_T_clear (nI i) (ka c) = some (1, ka (va_up c2 0 (s4 (c2 0) (33792 + 64 * i + 8) 0))) := by
        unfold f_T_clear
        rw [iKind hR o hi, Option.bind_some, hk, if_pos (show nI 2 = (2 : Int32) from rfl), h1, Option.bind_some]
        unfold f_I_setSize
        rw [iIs _ hi, Option.bind_some, if_neg n01, iPl, Option.bind_some]
        show ((f_K_setNumber (nI (33792 + 64 * i) + nI 8) (nI 0) (ka c2)).bind _).bind _ = _
        rw [nI_add, show 33792 + 64 * i + 8 = 4 * ((33792 + 64 * i + 8) / 4) by omega, kSetN c2 (by omega) 0, Option.bind_some, Option.bind_some, rz1]
      have h5 : f_M_clear (nI i) (mu A) = some (1, mu (EE A i)) := by
        unfold f_M_clear
        rw [mThr o, Option.bind_some, mTh A o hi, Option.bind_some, if_neg (show ¬ A 4 i = 0 by omega), if_neg n01, ld_nI hi (by decide), Option.bind_some]
        rw [if_pos (show mu A 4 i = (2 : Int32) from by rw [mu_4, hk]; rfl), mEmpty o hB hi, Option.bind_some, rz1]
      have hW : sW A (EE A i) := sW_EE o (fun d _ hd => by
        rw [EE_c A i (by omega) (by omega) (by omega) (by omega)] at hd
        refine ⟨fun q => ?_, hd⟩
        rw [q] at hd
        omega) rfl rfl rfl
      have e4 : EE A i 4 = A 4 := EE_c A i (by omega) (by omega) (by omega) (by omega)
      have e5 : EE A i 5 = A 5 := EE_c A i (by omega) (by omega) (by omega) (by omega)
      have e6 : EE A i 6 = A 6 := EE_c A i (by omega) (by omega) (by omega) (by omega)
      have e7 : EE A i 7 = A 7 := EE_c A i (by omega) (by omega) (by omega) (by omega)
      have e9 : EE A i 9 = A 9 := EE_c A i (by omega) (by omega) (by omega) (by omega)
      refine ⟨1, _, _, h4, h5, _, _, rfl, rfl, ?_, oA_EE o i, EE_BK o hB hi, ?_, hE.wk hD.dS hW, hL.wk hD.dS hW (fun i _ _ => by rw [e7]; exact Nat.le_refl _), ?_⟩
      · have h6 := rcX h3 (k := 10) (i := i) (v := 0) (by omega)
        have e : up (up (E0 A i) 8 i 0) 10 i 0 = EE A i := by
          unfold EE
          funext a b
          by_cases ha : a = 10
          · subst ha
            rw [up_c (up (E0 A i) 10 i 0) (show 10 ≠ 8 by omega)]
            unfold up
            rw [va_up_s, va_up_s, va_up_n _ _ _ (by omega)]
          · rw [up_c _ ha]
            by_cases hb : a = 8
            · subst hb
              unfold up
              rw [va_up_s, va_up_s, va_up_n _ _ _ (by omega)]
            · rw [up_c _ hb, up_c _ hb, up_c _ ha]
        rw [e] at h6
        exact h6
      · obtain ⟨d1, d2, d3, d4⟩ := hD
        refine ⟨fun d hd hz => ?_, by rw [e4]; exact d2, fun d hd => ?_, fun d hd hz => ?_⟩
        · rw [e4] at hz
          rw [e5, e6, e7, e9, EE_8]
          obtain ⟨p1, p2, p3, p4, p5⟩ := d1 d hd hz
          exact ⟨p1, p2, p3, by split <;> omega, p5⟩
        · rw [EE_10, EE_8]
          split
          · rfl
          · exact d3 d hd
        · rw [e4] at hz
          rw [EE_8, if_neg (fun q => by rw [q] at hz; omega)]
          exact d4 d hd hz
      · intro d
        rw [e7, e9]
        exact hJ.mono d
    · refine ⟨0, ka c, mu A, ?_, ?_, c, A, rfl, rfl, hR, (show IV j A from ⟨o, hB, hD, hE, hL, hJ⟩).next⟩
      · unfold f_T_clear
        rw [iKind hR o hi, Option.bind_some, if_neg (show ¬ nI (A 4 i) = (2 : Int32) from fun q => hk ((nEq (b := 2) (by omega) (by omega)).mp q)), rz0]
      · unfold f_M_clear
        rw [mThr o, Option.bind_some, mTh A o hi, Option.bind_some]
        by_cases h0 : A 4 i = 0
        · rw [if_pos h0, if_pos rfl, rz0]
        · rw [if_neg h0, if_neg n01, ld_nI hi (by decide), Option.bind_some]
          rw [if_neg (show ¬ mu A 4 i = (2 : Int32) from fun q => hk ((nEq (b := 2) (by omega) (by omega)).mp q)), rz0]

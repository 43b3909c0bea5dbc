/-! entries are erased -/
def er (A : fb_N) (q : Nat) : fb_N := va_up A 2 (zr (A 2) q 16)
theorem er_c (A : fb_N) (q : Nat) {j : Nat} (h : j ≠ 2) : er A q j = A j := va_up_n _ _ _ h
theorem er_2 (A : fb_N) (q x : Nat) : er A q 2 x = if q ≤ x ∧ x < q + 16 then 0 else A 2 x := by
  unfold er
  rw [va_up_s]
  rfl
theorem oA_er {A : fb_N} (o : oA A) (q : Nat) : oA (er A q) := oA_2 o _ (zr_b o.dk _ _)
theorem rcEr {c A : fb_N} (h : RC c A) {q : Nat} (h1 : 38912 ≤ q) : RC (va_up c 0 (zr (c 0) q 16)) (er A q) := by
  unfold er
  refine rcB h _ _ (fun x => ⟨fun hx => ?_, fun h3 h4 => ?_⟩) (fun x => zr_b h.w.b _ _ x)
  · unfold zr
    rw [if_neg (by omega)]
  · unfold zr
    rw [h.x h3 h4]
theorem kEr {c A : fb_N} (h : RC c A) {q : Nat} (h1 : 38912 ≤ q) (h2 : q + 16 ≤ 524288) (h4 : q % 16 = 0) : ∃ c2, f_D_wipeEntry (nI q) (ka c) = some (0, ka c2) ∧ RC c2 (er A q) := by
  refine ⟨_, ?_, rcEr h h1⟩
  unfold f_D_wipeEntry
  show (f_K_wipe (nI q) (nI 16) (ka c)).bind _ = _
  rw [kWipe c (by omega) (by omega) (by omega), Option.bind_some]
theorem mErL (A : fb_N) {q : Nat} (hq : q + 16 ≤ 524288) : ∀ n t, t ≤ 16 → 16 - t < n → l_M_erase_10 n (nI q) (nI t) (mu (va_up A 2 (zr (A 2) q t))) = some (0, mu (er A q)) := by
  intro n
  induction n with
  | zero => intro t _ h; omega
  | succ n ih =>
    intro t ht hn
    show b_M_erase_10 (l_M_erase_10 n) (nI q) (nI t) _ = _
    unfold b_M_erase_10
    simp only [il]
    by_cases e : t = 16
    · subst e
      rw [if_pos (by decide)]
      rfl
    · rw [if_neg (nLe' (a := 16) (by omega) (by omega)), nI_add, st_nI (by omega) (by omega), Option.bind_some, show fb_b (nI 0) = bs 0 from rfl, mu_b _ 2 _ _ (by omega), va_up_tw, nI_add]
      have : un1 (zr (A 2) q t) (q + t) 0 = zr (A 2) q (t + 1) := by
        funext x
        unfold un1 zr
        by_cases w : x = q + t
        · rw [if_pos w, if_pos (by omega)]
        · rw [if_neg w]
          by_cases w2 : q ≤ x ∧ x < q + t
          · rw [if_pos w2, if_pos (by omega)]
          · rw [if_neg w2, if_neg (by omega)]
      rw [this]
      exact ih (t + 1) (by omega) (by omega)
theorem mEr {A : fb_N} (o : oA A) {d p : Nat} (hd : d < 64) (hp : p < 275456) (hq : pl A d p + 16 ≤ 524288) : f_M_erase (nI d) (nI p) (mu A) = some (0, mu (er A (pl A d p))) := by
  unfold f_M_erase
  rw [mPlace o hd hp, Option.bind_some]
  have h := mErL A hq fb_n 0 (by omega) (by unfold fb_n; omega)
  have e : va_up A 2 (zr (A 2) (pl A d p) 0) = A := by
    have : zr (A 2) (pl A d p) 0 = A 2 := by
      funext x
      unfold zr
      rw [if_neg (by omega)]
    rw [this, va_up_id]
  rw [e] at h
  exact h
theorem BK_er {A : fb_N} (o : oA A) (hB : BK A) {d s : Nat} (hd : d < 64) (hv : 16 * s / 1024 < A 10 d) : BK (er A (pl A d (16 * s))) := by
  refine hB.ws o.mn hd hv (fun q hq => ?_)
  unfold zr
  rw [if_neg]
  intro z
  apply hq
  have h1 := pl_div A d (16 * s)
  have h2 := pl_mod A d (16 * s)
  rw [← h1]
  omega
/-! whether a directory has only its two entries -/
theorem kTwoL {c A : fb_N} (h : RC c A) (o : oA A) (hB : BK A) (hM : DM A) {d m : Nat} (hd : d < 64) (hm : A 8 d = 16 * m) : ∀ n s, s ≤ m → m - s < n → ((∀ t, s ≤ t → t < m → nu A d (16 * t) = 0) ∧ l_D_hasOnlyItsTwo_9 n (nI d) (nI (A 8 d)) (nI (16 * s)) (ka c) = some (1, ka c)) ∨ ((¬ ∀ t, s ≤ t → t < m → nu A d (16 * t) = 0) ∧ l_D_hasOnlyItsTwo_9 n (nI d) (nI (A 8 d)) (nI (16 * s)) (ka c) = some (0, ka c)) := by
  have h8 := o.sz d
  have h10 := hM d hd
  intro n
  induction n with
  | zero => intro s _ h; omega
  | succ n ih =>
    intro s hs hk
    have e0 : l_D_hasOnlyItsTwo_9 (n + 1) (nI d) (nI (A 8 d)) (nI (16 * s)) (ka c) = b_D_hasOnlyItsTwo_9 (l_D_hasOnlyItsTwo_9 n) (nI d) (nI (A 8 d)) (nI (16 * s)) (ka c) := rfl
    rw [e0]
    unfold b_D_hasOnlyItsTwo_9
    by_cases e : s = m
    · rw [if_pos (by rw [nLe (by omega) (by omega)]; omega), rz1]
      exact Or.inl ⟨fun t _ _ => by omega, rfl⟩
    · have hu := nu_lt o d (16 * s)
      rw [if_neg (by rw [nLe (by omega) (by omega)]; omega), kPlV h o hB hd (by omega), Option.bind_some, kNumV h o hB hd (by omega), Option.bind_some]
      by_cases z : nu A d (16 * s) = 0
      · rw [if_pos (show nI (nu A d (16 * s)) = (0 : Int32) from by rw [z]; rfl)]
        have g := ih (s + 1) (by omega) (by omega)
        rw [show 16 * (s + 1) = 16 * s + 16 by omega, ← nI_add (16 * s) 16] at g
        rcases g with ⟨g1, g2⟩ | ⟨g1, g2⟩
        · refine Or.inl ⟨fun t t1 t2 => ?_, g2⟩
          by_cases w : t = s
          · rw [w]; exact z
          · exact g1 t (by omega) t2
        · exact Or.inr ⟨fun w => g1 (fun t t1 t2 => w t (by omega) t2), g2⟩
      · rw [if_neg (show ¬ nI (nu A d (16 * s)) = (0 : Int32) from fun q => z ((nEq (b := 0) (by omega) (by omega)).mp q)), rz0]
        exact Or.inr ⟨fun w => z (w s (Nat.le_refl _) (by omega)), rfl⟩
theorem mBare0 {A : fb_N} (o : oA A) {d m : Nat} (hd : d < 64) (hm : A 8 d = 16 * m) : ∀ n s, s ≤ m → m - s < n → l_M_isBare_5 n (nI d) 0 (nI (16 * s)) (mu A) = some (0, mu A) := by
  have h8 := o.sz d
  intro n
  induction n with
  | zero => intro s _ h; omega
  | succ n ih =>
    intro s hs hk
    show b_M_isBare_5 (l_M_isBare_5 n) (nI d) 0 (nI (16 * s)) (mu A) = _
    unfold b_M_isBare_5
    rw [ld_nI hd (by omega), Option.bind_some, mu_8]
    by_cases e : s = m
    · rw [if_pos (by rw [nLe (by omega) (by omega)]; omega), rz0]
    · rw [if_neg (by rw [nLe (by omega) (by omega)]; omega), if_pos rfl]
      unfold b_M_isBare_32 b_M_isBare_33
      show l_M_isBare_5 n (nI d) 0 (nI (16 * s) + nI 16) (mu A) = _
      rw [nI_add, show 16 * s + 16 = 16 * (s + 1) by omega]
      exact ih (s + 1) (by omega) (by omega)
theorem mBareL {A : fb_N} (o : oA A) (hB : BK A) (hM : DM A) {d m : Nat} (hd : d < 64) (hm : A 8 d = 16 * m) : ∀ n s, s ≤ m → m - s < n → ((∀ t, s ≤ t → t < m → nu A d (16 * t) = 0) ∧ l_M_isBare_5 n (nI d) 1 (nI (16 * s)) (mu A) = some (1, mu A)) ∨ ((¬ ∀ t, s ≤ t → t < m → nu A d (16 * t) = 0) ∧ l_M_isBare_5 n (nI d) 1 (nI (16 * s)) (mu A) = some (0, mu A)) := by
  have h8 := o.sz d
  have h10 := hM d hd
  intro n
  induction n with
  | zero => intro s _ h; omega
  | succ n ih =>
    intro s hs hk
    have e0 : l_M_isBare_5 (n + 1) (nI d) 1 (nI (16 * s)) (mu A) = b_M_isBare_5 (l_M_isBare_5 n) (nI d) 1 (nI (16 * s)) (mu A) := rfl
    rw [e0]
    unfold b_M_isBare_5
    rw [ld_nI hd (by omega), Option.bind_some, mu_8]
    by_cases e : s = m
    · rw [if_pos (by rw [nLe (by omega) (by omega)]; omega), rz1]
      exact Or.inl ⟨fun t _ _ => by omega, rfl⟩
    · have hu := nu_lt o d (16 * s)
      obtain ⟨p1, p2, p3⟩ := pl_v o hB (d := d) (s := s) hd (by omega)
      rw [if_neg (by rw [nLe (by omega) (by omega)]; omega), if_neg n01, mNum o hd (by omega) (by omega), Option.bind_some]
      unfold b_M_isBare_32 b_M_isBare_33
      by_cases z : nu A d (16 * s) = 0
      · rw [if_pos (show nI (nu A d (16 * s)) = (0 : Int32) from by rw [z]; rfl)]
        have g := ih (s + 1) (by omega) (by omega)
        rw [show 16 * (s + 1) = 16 * s + 16 by omega, ← nI_add (16 * s) 16] at g
        rcases g with ⟨g1, g2⟩ | ⟨g1, g2⟩
        · refine Or.inl ⟨fun t t1 t2 => ?_, g2⟩
          by_cases w : t = s
          · rw [w]; exact z
          · exact g1 t (by omega) t2
        · exact Or.inr ⟨fun w => g1 (fun t t1 t2 => w t (by omega) t2), g2⟩
      · rw [if_neg (show ¬ nI (nu A d (16 * s)) = (0 : Int32) from fun q => z ((nEq (b := 0) (by omega) (by omega)).mp q))]
        refine Or.inr ⟨fun w => z (w s (Nat.le_refl _) (by omega)), ?_⟩
        show l_M_isBare_5 n (nI d) 0 (nI (16 * s) + nI 16) (mu A) = _
        rw [nI_add, show 16 * s + 16 = 16 * (s + 1) by omega]
        exact mBare0 o hd hm n (s + 1) (by omega) (by omega)
theorem bareBoth {c A : fb_N} (h : RC c A) (o : oA A) (hB : BK A) (hD : DI A) {d : Nat} (hd : d < 64) (hk : A 4 d = 1) : ((∀ t, 2 ≤ t → t < A 8 d / 16 → nu A d (16 * t) = 0) ∧ f_D_hasOnlyItsTwo (nI d) (ka c) = some (1, ka c) ∧ f_M_isBare (nI d) (mu A) = some (1, mu A)) ∨ (f_D_hasOnlyItsTwo (nI d) (ka c) = some (0, ka c) ∧ f_M_isBare (nI d) (mu A) = some (0, mu A)) := by
  have hs := hD.dS d hd hk
  have h8 := o.sz d
  have e1 : f_D_hasOnlyItsTwo (nI d) (ka c) = l_D_hasOnlyItsTwo_9 fb_n (nI d) (nI (A 8 d)) (nI (16 * 2)) (ka c) := by
    unfold f_D_hasOnlyItsTwo
    rw [kDSize h o hd, Option.bind_some, if_pos hk]
    rfl
  have e2 : f_M_isBare (nI d) (mu A) = l_M_isBare_5 fb_n (nI d) 1 (nI (16 * 2)) (mu A) := rfl
  rw [e1, e2]
  rcases kTwoL h o hB hD.dm hd (m := A 8 d / 16) (by omega) fb_n 2 (by omega) (by unfold fb_n; omega) with ⟨g1, g2⟩ | ⟨g1, g2⟩
  · rcases mBareL o hB hD.dm hd (m := A 8 d / 16) (by omega) fb_n 2 (by omega) (by unfold fb_n; omega) with ⟨k1, k2⟩ | ⟨k1, k2⟩
    · exact Or.inl ⟨g1, g2, k2⟩
    · exact absurd g1 k1
  · rcases mBareL o hB hD.dm hd (m := A 8 d / 16) (by omega) fb_n 2 (by omega) (by unfold fb_n; omega) with ⟨k1, k2⟩ | ⟨k1, k2⟩
    · exact absurd k1 g1
    · exact Or.inr ⟨g2, k2⟩
/-! dots -/
theorem kDots {c : fb_N} (h : cw c) : (dtn (c 4) ∧ f_X_lastIsDots (ka c) = some (1, ka c)) ∨ (¬ dtn (c 4) ∧ f_X_lastIsDots (ka c) = some (0, ka c)) := by
  have b : ∀ k, c 4 k < 256 := fun k => h 4 k (by decide) (by decide)
  unfold f_X_lastIsDots b_X_lastIsDots_40 dtn
  simp only [il]
  rw [ld_nI (by omega) (by omega), Option.bind_some, ld_nI (by omega) (by omega), Option.bind_some, Option.bind_some, ld_nI (by omega) (by omega), Option.bind_some, ka_4, ka_4, ka_4]
  by_cases h0 : c 4 0 = 46
  · rw [if_pos (show bs (c 4 0) = nI 46 from (bs_eqI (b 0) (by omega)).mpr h0)]
    by_cases h1 : c 4 1 = 0
    · rw [if_pos (show bs (c 4 1) = nI 0 from (bs_eqI (b 1) (by omega)).mpr h1)]
      exact Or.inl ⟨⟨h0, Or.inl h1⟩, rfl⟩
    · rw [if_neg (show ¬ bs (c 4 1) = nI 0 from fun q => h1 ((bs_eqI (b 1) (by omega)).mp q))]
      by_cases h2 : c 4 1 = 46
      · rw [if_pos (show bs (c 4 1) = nI 46 from (bs_eqI (b 1) (by omega)).mpr h2)]
        by_cases h3 : c 4 2 = 0
        · rw [if_pos (show bs (c 4 2) = nI 0 from (bs_eqI (b 2) (by omega)).mpr h3)]
          exact Or.inl ⟨⟨h0, Or.inr ⟨h2, h3⟩⟩, rfl⟩
        · rw [if_neg (show ¬ bs (c 4 2) = nI 0 from fun q => h3 ((bs_eqI (b 2) (by omega)).mp q))]
          exact Or.inr ⟨fun q => by rcases q.2 with q | q; exact h1 q; exact h3 q.2, rfl⟩
      · rw [if_neg (show ¬ bs (c 4 1) = nI 46 from fun q => h2 ((bs_eqI (b 1) (by omega)).mp q))]
        exact Or.inr ⟨fun q => by rcases q.2 with q | q; exact h1 q; exact h2 q.1, rfl⟩
  · rw [if_neg (show ¬ bs (c 4 0) = nI 46 from fun q => h0 ((bs_eqI (b 0) (by omega)).mp q))]
    exact Or.inr ⟨fun q => h0 q.1, rfl⟩
theorem mDots {A : fb_N} (o : oA A) : (dtn (A 13) ∧ f_M_isDots (mu A) = some (1, mu A)) ∨ (¬ dtn (A 13) ∧ f_M_isDots (mu A) = some (0, mu A)) := by
  have b : ∀ k, A 13 k < 256 := o.nm
  unfold f_M_isDots b_M_isDots_40 dtn
  simp only [il]
  rw [ld_nI (by omega) (by omega), Option.bind_some, ld_nI (by omega) (by omega), Option.bind_some, Option.bind_some, ld_nI (by omega) (by omega), Option.bind_some, mu_13, mu_13, mu_13]
  by_cases h0 : A 13 0 = 46
  · rw [if_pos (show bs (A 13 0) = nI 46 from (bs_eqI (b 0) (by omega)).mpr h0)]
    by_cases h1 : A 13 1 = 0
    · rw [if_pos (show bs (A 13 1) = nI 0 from (bs_eqI (b 1) (by omega)).mpr h1)]
      exact Or.inl ⟨⟨h0, Or.inl h1⟩, rfl⟩
    · rw [if_neg (show ¬ bs (A 13 1) = nI 0 from fun q => h1 ((bs_eqI (b 1) (by omega)).mp q))]
      by_cases h2 : A 13 1 = 46
      · rw [if_pos (show bs (A 13 1) = nI 46 from (bs_eqI (b 1) (by omega)).mpr h2)]
        by_cases h3 : A 13 2 = 0
        · rw [if_pos (show bs (A 13 2) = nI 0 from (bs_eqI (b 2) (by omega)).mpr h3)]
          exact Or.inl ⟨⟨h0, Or.inr ⟨h2, h3⟩⟩, rfl⟩
        · rw [if_neg (show ¬ bs (A 13 2) = nI 0 from fun q => h3 ((bs_eqI (b 2) (by omega)).mp q))]
          exact Or.inr ⟨fun q => by rcases q.2 with q | q; exact h1 q; exact h3 q.2, rfl⟩
      · rw [if_neg (show ¬ bs (A 13 1) = nI 46 from fun q => h2 ((bs_eqI (b 1) (by omega)).mp q))]
        exact Or.inr ⟨fun q => by rcases q.2 with q | q; exact h1 q; exact h2 q.1, rfl⟩
  · rw [if_neg (show ¬ bs (A 13 0) = nI 46 from fun q => h0 ((bs_eqI (b 0) (by omega)).mp q))]
    exact Or.inr ⟨fun q => h0 q.1, rfl⟩

/-! at, hold, about, fill -/
theorem ix (x : Int32) {n : Nat} (hn : n < 2147483648) : x < 0 ∨ (¬ x < 0 ∧ nI n ≤ x) ∨ ∃ j : Nat, j < n ∧ x = nI j := by
  by_cases h : x < 0
  · exact Or.inl h
  · rcases pk_ix x (n := n) (by omega) with h1 | h1 | h1
    · exact Or.inl h1
    · exact Or.inr (Or.inl ⟨h, h1⟩)
    · exact Or.inr (Or.inr h1)
theorem nn0 {n : Nat} (h : n < 2147483648) : ¬ nI n < 0 := nI_lt0 h
theorem nLe' {a b : Nat} (h : b < a) (ha : a < 2147483648) : ¬ nI a ≤ nI b := by rw [nLe ha (by omega)]; omega
theorem fb_un (x : Int32) : fb_b x = bs (un x % 256) := by
  have h := bs_m (un x)
  rw [nI_un] at h
  exact h
theorem s_at : sm_at sim := by
  intro j st mt x hj hs
  obtain ⟨c, A, rfl, rfl, hR, hI⟩ := hs
  rcases ix x (n := 3072) (by decide) with hx | ⟨h0, hx⟩ | ⟨i, hi, rfl⟩
  · refine ⟨-1, ka c, mu A, ?_, ?_, c, A, rfl, rfl, hR, hI.next⟩
    · unfold f_T_at
      rw [if_pos hx]
    · unfold f_M_at
      rw [mThr hI.1, Option.bind_some, if_pos hx]
  · refine ⟨-1, ka c, mu A, ?_, ?_, c, A, rfl, rfl, hR, hI.next⟩
    · unfold f_T_at
      rw [if_neg h0, if_pos (show (3072 : Int32) ≤ x from hx)]
    · unfold f_M_at
      rw [mThr hI.1, Option.bind_some, if_neg h0, if_pos (show (3072 : Int32) ≤ x from hx)]
  · refine ⟨nI (A 1 i), ka c, mu A, ?_, ?_, c, A, rfl, rfl, hR, hI.next⟩
    · unfold f_T_at
      rw [if_neg (nn0 (by omega)), if_neg (show ¬ (3072 : Int32) ≤ nI i from nLe' (a := 3072) hi (by omega)), ld_nI hi (by decide), Option.bind_some, ka_5, hR.2.2.2.1]
      show some (bs (A 1 i) &&& nI 255, ka c) = _
      rw [bs_k _ (hI.1.bu i)]
    · unfold f_M_at
      rw [mThr hI.1, Option.bind_some, if_neg (nn0 (by omega)), if_neg (show ¬ (3072 : Int32) ≤ nI i from nLe' (a := 3072) hi (by omega)), ld_nI hi (by decide), Option.bind_some, mu_1]
      show some (bs (A 1 i) &&& nI 255, mu A) = _
      rw [bs_k _ (hI.1.bu i)]
theorem mIs (st : fb_S) {i : Nat} (hi : i < 64) : f_M_isInode (nI i) st = some (1, st) := by
  unfold f_M_isInode
  rw [if_neg (show ¬ nI i < 0 from nn0 (by omega)), if_neg (show ¬ 64 ≤ nI i from nLe' (a := 64) hi (by omega)), rz1]
theorem mIsN (st : fb_S) {x : Int32} (hx : x < 0 ∨ nI 64 ≤ x) : f_M_isInode x st = some (0, st) := by
  unfold f_M_isInode
  rcases hx with h | h
  · rw [if_pos h, rz0]
  · by_cases h2 : x < 0
    · rw [if_pos h2, rz0]
    · rw [if_neg h2, if_pos (show 64 ≤ x from h), rz0]
theorem mTh (A : fb_N) (o : oA A) {i : Nat} (hi : i < 64) : f_M_there (nI i) (mu A) = some (if A 4 i = 0 then 0 else 1, mu A) := by
  unfold f_M_there
  rw [mIs _ hi, Option.bind_some, if_neg n01, ld_nI hi (by decide), Option.bind_some]
  show (if mu A 4 i ≤ nI 0 then fb_rz 0 (mu A) else fb_rz 1 (mu A)) = _
  rw [mu_4]
  have := o.ki i
  by_cases h : A 4 i = 0
  · rw [if_pos h, h, if_pos (by rw [nLe (by omega) (by omega)]; omega), rz0]
  · rw [if_neg h, if_neg (by rw [nLe (by omega) (by omega)]; omega), rz1]
theorem mThN (A : fb_N) {x : Int32} (hx : x < 0 ∨ nI 64 ≤ x) : f_M_there x (mu A) = some (0, mu A) := by
  unfold f_M_there
  rw [mIsN _ hx, Option.bind_some, if_pos rfl, rz0]
theorem iUse {c A : fb_N} (h : RC c A) (o : oA A) {i : Nat} (hi : i < 64) : f_I_inUse (nI i) (ka c) = some (if A 4 i = 0 then 0 else 1, ka c) := by
  unfold f_I_inUse
  rw [iKind h o hi, Option.bind_some]
  have := o.ki i
  show (if nI (A 4 i) = nI 0 then fb_rz 0 (ka c) else fb_rz 1 (ka c)) = _
  by_cases h : A 4 i = 0
  · rw [if_pos h, if_pos (by rw [h]), rz0]
  · rw [if_neg h, if_neg (by rw [nEq (by omega) (by omega)]; exact h), rz1]
theorem iUseN (c : fb_N) {x : Int32} (hx : x < 0 ∨ nI 64 ≤ x) : f_I_inUse x (ka c) = some (0, ka c) := by
  unfold f_I_inUse
  rw [iKindN c hx, Option.bind_some, if_pos rfl, rz0]
/-- held changes alone -/
theorem IV.he {j : Nat} {A : fb_N} (h : IV j A) {i v : Nat} (hk : i < 64 → A 4 i ≠ 0 ∨ v = 0) {j2 : Nat} (hj : j ≤ j2) (hv : v ≤ j2) (hj2 : j2 < 65536) : IV j2 (up A 9 i v) := by
  have u : ∀ j, j ≠ 9 → up A 9 i v j = A j := fun j hj => up_c A hj
  refine ⟨?_, h.2.1.cg (u 2 (by omega)) (u 3 (by omega)) (u 10 (by omega)) (u 11 (by omega)), ?_, h.2.2.2.1.cg (u 2 (by omega)) (u 4 (by omega)) (u 8 (by omega)) (u 11 (by omega)), h.2.2.2.2.1.cg (u 2 (by omega)) (u 4 (by omega)) (u 7 (by omega)) (u 8 (by omega)) (u 11 (by omega)), fun i2 => ?_⟩
  · obtain ⟨g1, g2, g3, g4, g5, g6, g7, g8, g9, g10, g11, g12, g13⟩ := h.1
    refine ⟨?_, by rw [u 4 (by omega)]; exact g2, by rw [u 5 (by omega)]; exact g3, by rw [u 6 (by omega)]; exact g4, by rw [u 7 (by omega)]; exact g5, by rw [u 8 (by omega)]; exact g6, ?_, by rw [u 10 (by omega)]; exact g8, by rw [u 11 (by omega)]; exact g9, by rw [u 3 (by omega)]; exact g10, by rw [u 14 (by omega)]; exact g11, by rw [u 15 (by omega)]; exact g12, by rw [u 12 (by omega)]; exact g13⟩
    · intro k q hk
      rw [u k (by omega)]
      exact g1 k q hk
    · intro i2
      by_cases e : i2 = i
      · rw [e, up_s]; omega
      · rw [up_n _ (Or.inr e)]; exact g7 i2
  · obtain ⟨g1, g2, g3, g4⟩ := h.2.2.1
    refine ⟨?_, by rw [u 4 (by omega)]; exact g2, by rw [u 10 (by omega), u 8 (by omega)]; exact g3, by rw [u 4 (by omega), u 8 (by omega)]; exact g4⟩
    rw [u 4 (by omega), u 5 (by omega), u 6 (by omega), u 7 (by omega), u 8 (by omega)]
    intro i2 h1 h2
    obtain ⟨q1, q2, q3, q4, q5⟩ := g1 i2 h1 h2
    refine ⟨q1, q2, q3, q4, ?_⟩
    by_cases e : i2 = i
    · subst e
      rw [up_s]
      rcases hk h1 with z | z
      · exact absurd h2 z
      · exact z
    · rw [up_n _ (Or.inr e)]; exact q5
  · rw [u 7 (by omega)]
    refine ⟨by have := (h.2.2.2.2.2 i2).1; omega, ?_⟩
    by_cases e : i2 = i
    · rw [e, up_s]; exact hv
    · rw [up_n _ (Or.inr e)]
      have := (h.2.2.2.2.2 i2).2
      omega
theorem s_hold : sm_hold sim := by
  intro j st mt x hj hs
  obtain ⟨c, A, rfl, rfl, hR, hI⟩ := hs
  have no : ∀ x : Int32, (x < 0 ∨ nI 64 ≤ x) → f_T_hold x (ka c) = some (0, ka c) ∧ f_M_hold x (mu A) = some (0, mu A) := by
    intro x hx
    constructor
    · unfold f_T_hold
      rw [iUseN c hx, Option.bind_some, if_pos rfl, rz0]
    · unfold f_M_hold
      rw [mThr hI.1, Option.bind_some, mThN A hx, Option.bind_some, if_pos rfl, rz0]
  rcases ix x (n := 64) (by decide) with hx | ⟨_, hx⟩ | ⟨i, hi, rfl⟩
  · exact ⟨0, ka c, mu A, (no x (Or.inl hx)).1, (no x (Or.inl hx)).2, c, A, rfl, rfl, hR, hI.next⟩
  · exact ⟨0, ka c, mu A, (no x (Or.inr hx)).1, (no x (Or.inr hx)).2, c, A, rfl, rfl, hR, hI.next⟩
  · by_cases hk : A 4 i = 0
    · refine ⟨0, ka c, mu A, ?_, ?_, c, A, rfl, rfl, hR, hI.next⟩
      · unfold f_T_hold
        rw [iUse hR hI.1 hi, Option.bind_some, if_pos hk, if_pos rfl, rz0]
      · unfold f_M_hold
        rw [mThr hI.1, Option.bind_some, mTh A hI.1 hi, Option.bind_some, if_pos hk, if_pos rfl, rz0]
    · have hb := (hI.2.2.2.2.2 i).2
      refine ⟨1, ka (up c 1 i (A 9 i + 1)), mu (up A 9 i (A 9 i + 1)), ?_, ?_, _, _, rfl, rfl, rc9 hR i _, hI.he (fun _ => Or.inl hk) (by omega) (by omega) (by omega)⟩
      · unfold f_T_hold
        rw [iUse hR hI.1 hi, Option.bind_some, if_neg hk, if_neg n01]
        unfold f_I_addHeld
        rw [iIs _ hi, Option.bind_some, if_neg n01, ld_nI hi (by decide), Option.bind_some, st_nI hi (by decide), Option.bind_some, Option.bind_some]
        show fb_rz 1 (va_up (ka c) 1 (upd (ka c 1) i (ka c 1 i + nI 1))) = _
        rw [ka_1, hR.2.1, nI_add, ka_i c 1 i _ (by omega), rz1]
      · unfold f_M_hold
        rw [mThr hI.1, Option.bind_some, mTh A hI.1 hi, Option.bind_some, if_neg hk, if_neg n01, ld_nI hi (by decide), Option.bind_some, st_nI hi (by decide), Option.bind_some]
        show fb_rz 1 (va_up (mu A) 9 (upd (mu A 9) i (mu A 9 i + nI 1))) = _
        rw [mu_9, nI_add, mu_i A 9 i _ (by decide), rz1]
theorem s_about : sm_about sim := by
  intro j st mt x y hj hs
  obtain ⟨c, A, rfl, rfl, hR, hI⟩ := hs
  have no : ∀ x : Int32, (x < 0 ∨ nI 64 ≤ x) → f_T_about x y (ka c) = some (-1, ka c) ∧ f_M_about x y (mu A) = some (-1, mu A) := by
    intro x hx
    constructor
    · unfold f_T_about
      rw [iIsN _ hx, Option.bind_some, if_pos rfl]
    · unfold f_M_about
      rw [mThr hI.1, Option.bind_some, mIsN _ hx, Option.bind_some, if_pos rfl]
  rcases ix x (n := 64) (by decide) with hx | ⟨_, hx⟩ | ⟨i, hi, rfl⟩
  · exact ⟨-1, ka c, mu A, (no x (Or.inl hx)).1, (no x (Or.inl hx)).2, c, A, rfl, rfl, hR, hI.next⟩
  · exact ⟨-1, ka c, mu A, (no x (Or.inr hx)).1, (no x (Or.inr hx)).2, c, A, rfl, rfl, hR, hI.next⟩
  · have key : ∃ r, f_T_about (nI i) y (ka c) = some (r, ka c) ∧ f_M_about (nI i) y (mu A) = some (r, mu A) := by
      unfold f_T_about f_M_about
      rw [iIs _ hi, mThr hI.1, Option.bind_some, Option.bind_some, mIs _ hi, Option.bind_some, if_neg n01, if_neg n01]
      simp only []
      rw [iKind hR hI.1 hi, iMajor hR hI.1 hi, iMinor hR hI.1 hi, iLinks hR hI.1 hi, iSize hR hI.1 hi, iHeld hR hi, ld_nI hi (by decide), ld_nI hi (by decide), ld_nI hi (by decide), ld_nI hi (by decide), ld_nI hi (by decide), ld_nI hi (by decide)]
      simp only [Option.bind_some]
      by_cases h0 : y = 0
      · rw [if_pos h0, if_pos h0]; exact ⟨_, rfl, rfl⟩
      · rw [if_neg h0, if_neg h0]
        by_cases h1 : y = 1
        · rw [if_pos h1, if_pos h1]; exact ⟨_, rfl, rfl⟩
        · rw [if_neg h1, if_neg h1]
          by_cases h2 : y = 2
          · rw [if_pos h2, if_pos h2]; exact ⟨_, rfl, rfl⟩
          · rw [if_neg h2, if_neg h2]
            by_cases h3 : y = 3
            · rw [if_pos h3, if_pos h3]; exact ⟨_, rfl, rfl⟩
            · rw [if_neg h3, if_neg h3]
              by_cases h4 : y = 4
              · rw [if_pos h4, if_pos h4]; exact ⟨_, rfl, rfl⟩
              · rw [if_neg h4, if_neg h4]
                by_cases h5 : y = 5
                · rw [if_pos h5, if_pos h5]; exact ⟨_, rfl, rfl⟩
                · rw [if_neg h5, if_neg h5]; exact ⟨_, rfl, rfl⟩
    obtain ⟨r, h1, h2⟩ := key
    exact ⟨r, ka c, mu A, h1, h2, c, A, rfl, rfl, hR, hI.next⟩
theorem fill_lp {a m : Nat} (b : Int32) (ham : a + m ≤ 3072) : ∀ (n t j : Nat) (c A : fb_N), RC c A → IV j A → t ≤ m → m - t < n → ∃ c2 A2, l_T_fill_29 n (nI a) (nI m) b (nI t) (ka c) = some (1, ka c2) ∧ l_M_fill_27 n (nI a) (nI m) b (nI t) (mu A) = some (1, mu A2) ∧ RC c2 A2 ∧ IV j A2 := by
  intro n
  induction n with
  | zero => intro t j c A _ _ _ h; omega
  | succ n ih =>
    intro t j c A hR hI ht hn
    show ∃ c2 A2, b_T_fill_29 (l_T_fill_29 n) (nI a) (nI m) b (nI t) (ka c) = some (1, ka c2) ∧ b_M_fill_27 (l_M_fill_27 n) (nI a) (nI m) b (nI t) (mu A) = some (1, mu A2) ∧ RC c2 A2 ∧ IV j A2
    unfold b_T_fill_29 b_M_fill_27
    by_cases e : m ≤ t
    · rw [if_pos (by rw [nLe (by omega) (by omega)]; exact e), if_pos (by rw [nLe (by omega) (by omega)]; exact e)]
      exact ⟨c, A, rz1 _, rz1 _, hR, hI⟩
    · rw [if_neg (by rw [nLe (by omega) (by omega)]; exact e), if_neg (by rw [nLe (by omega) (by omega)]; exact e), nI_add, st_nI (by omega) (by decide), st_nI (by omega) (by decide), Option.bind_some, Option.bind_some, fb_bb, fb_un, ka_b c 5 _ _ (by omega), mu_b A 1 _ _ (by omega)]
      have hb : un (b + nI t) % 256 < 256 := by omega
      have := ih (t + 1) j _ _ (rc1 hR (a + t) hb) (hI.off (k := 1) (i := a + t) (by omega) (fun _ => hb) (by omega)) (by omega) (by omega)
      rw [← nI_add t 1] at this
      exact this
theorem s_fill : sm_fill sim := by
  intro j st mt x y b hj hs
  obtain ⟨c, A, rfl, rfl, hR, hI⟩ := hs
  have fin : ∀ r : Int32, f_T_fill x y b (ka c) = some (r, ka c) → f_M_fill x y b (mu A) = some (r, mu A) → ∃ (r : Int32) (st1 mt1 : fb_S), f_T_fill x y b (ka c) = some (r, st1) ∧ f_M_fill x y b (mu A) = some (r, mt1) ∧ sim (j + 1) st1 mt1 := fun r h1 h2 => ⟨r, ka c, mu A, h1, h2, c, A, rfl, rfl, hR, hI.next⟩
  have eT : f_M_fill x y b (mu A) = (if y < (0 : Int32) then fb_rz (0 : Int32) (mu A) else (if x < (0 : Int32) then fb_rz (0 : Int32) (mu A) else (if x ≤ ((3072 : Int32) - y) then l_M_fill_27 fb_n x y b (0 : Int32) (mu A) else fb_rz (0 : Int32) (mu A)))) := by
    unfold f_M_fill
    rw [mThr hI.1, Option.bind_some]
  by_cases hy : y < 0
  · refine fin 0 ?_ ?_
    · unfold f_T_fill
      by_cases h1 : x < 0
      · rw [if_pos h1, rz0]
      · by_cases h2 : (3072 : Int32) < x
        · rw [if_neg h1, if_pos h2, rz0]
        · rw [if_neg h1, if_neg h2, if_pos hy, rz0]
    · rw [eT, if_pos hy, rz0]
  · obtain ⟨m, hm, rfl⟩ := nI_of hy
    rcases ix x (n := 3073) (by decide) with hx | ⟨h0, hx⟩ | ⟨a, ha, rfl⟩
    · refine fin 0 ?_ ?_
      · unfold f_T_fill
        rw [if_pos hx, rz0]
      · rw [eT, if_neg hy, if_pos hx, rz0]
    · obtain ⟨a, ha, rfl⟩ := nI_of h0
      have ha2 : 3073 ≤ a := by rwa [nLe (by omega) (by omega)] at hx
      refine fin 0 ?_ ?_
      · unfold f_T_fill
        rw [if_neg h0, if_pos (show (3072 : Int32) < nI a from (nLt (a := 3072) (by omega) (by omega)).mpr (by omega)), rz0]
      · rw [eT, if_neg hy, if_neg h0, if_neg, rz0]
        intro q
        have q2 := Int32.le_iff_toInt_le.mp q
        rw [nI_toInt (by omega)] at q2
        by_cases h3 : m ≤ 3072
        · rw [show ((3072 : Int32) - nI m) = nI (3072 - m) from nSub (a := 3072) h3, nI_toInt (by omega)] at q2
          omega
        · have h4 : ((3072 : Int32) - nI m).toInt = 3072 - (m : Int) := by
            rw [Int32.toInt_sub, nI_toInt (by omega), show (3072 : Int32).toInt = 3072 by decide]
            exact Int.bmod_eq_of_le (by omega) (by omega)
          rw [h4] at q2
          omega
    · have e1 : f_T_fill (nI a) (nI m) b (ka c) = if m ≤ 3072 - a then l_T_fill_29 fb_n (nI a) (nI m) b (nI 0) (ka c) else some (0, ka c) := by
        unfold f_T_fill
        rw [if_neg (nn0 (by omega)), if_neg (show ¬ (3072 : Int32) < nI a from fun q => by have := (nLt (a := 3072) (by omega) (by omega)).mp q; omega), if_neg hy]
        show (if nI m ≤ nI 3072 - nI a then _ else _) = _
        rw [nSub (by omega)]
        by_cases h3 : m ≤ 3072 - a
        · rw [if_pos h3, if_pos (by rw [nLe (by omega) (by omega)]; exact h3)]
          rfl
        · rw [if_neg h3, if_neg (by rw [nLe (by omega) (by omega)]; exact h3), rz0]
      have e2 : f_M_fill (nI a) (nI m) b (mu A) = if m ≤ 3072 - a then l_M_fill_27 fb_n (nI a) (nI m) b (nI 0) (mu A) else some (0, mu A) := by
        rw [eT, if_neg hy, if_neg (nn0 (by omega))]
        by_cases h3 : m ≤ 3072 - a
        · rw [if_pos h3, if_pos (show nI a ≤ (3072 : Int32) - nI m from (by rw [nSub (by omega), nLe (by omega) (by omega)]; omega : nI a ≤ nI 3072 - nI m))]
          rfl
        · rw [if_neg h3, if_neg, rz0]
          intro q
          have q2 := Int32.le_iff_toInt_le.mp q
          rw [nI_toInt (by omega)] at q2
          by_cases h5 : m ≤ 3072
          · rw [show ((3072 : Int32) - nI m) = nI (3072 - m) from nSub (a := 3072) h5, nI_toInt (by omega)] at q2
            omega
          · have h4 : ((3072 : Int32) - nI m).toInt = 3072 - (m : Int) := by
              rw [Int32.toInt_sub, nI_toInt (by omega), show (3072 : Int32).toInt = 3072 by decide]
              exact Int.bmod_eq_of_le (by omega) (by omega)
            rw [h4] at q2
            omega
      by_cases h3 : m ≤ 3072 - a
      · obtain ⟨c2, A2, g1, g2, g3, g4⟩ := fill_lp b (show a + m ≤ 3072 by omega) fb_n 0 j c A hR hI (by omega) (by unfold fb_n; omega)
        exact ⟨1, ka c2, mu A2, by rw [e1, if_pos h3, g1], by rw [e2, if_pos h3, g2], c2, A2, rfl, rfl, g3, g4.next⟩
      · exact fin 0 (by rw [e1, if_neg h3]) (by rw [e2, if_neg h3])

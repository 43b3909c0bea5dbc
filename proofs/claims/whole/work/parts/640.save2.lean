theorem mNext {A : fb_N} (o : oA A) {i : Nat} (hi : i < 64) : f_M_next (nI i) (mu A) = some (nI (if A 10 i = 12 then 2 else 1), mu A) := by
  have := o.mn i
  unfold f_M_next
  rw [ld_nI hi (by omega), Option.bind_some, mu_10]
  by_cases h : A 10 i = 12
  · rw [if_pos h, if_pos (show nI (A 10 i) = 12 by rw [h]; rfl)]
    rfl
  · rw [if_neg h, if_neg (show ¬ nI (A 10 i) = 12 from fun q => h ((nEq (b := 12) (by omega) (by omega)).mp q))]
    rfl
/-- the reference at a byte whose block isn't there -/
theorem mEdge {A : fb_N} (o : oA A) (hB : BK A) {i a m t : Nat} (hi : i < 64) (ht : t < m) (hm : m ≤ 3072) (ha : a + m ≤ 274432) (hk : (a + t) / 1024 = A 10 i) (n : Nat) : (lf A < (if A 10 i = 12 then 2 else 1) → l_M_save_64 (n + 2) (nI i) (nI a) (nI m) (nI t) (nI 1) (mu A) = b_M_save_153 (nI i) (nI a) (nI t) (mu A)) ∧ ((if A 10 i = 12 then 2 else 1) ≤ lf A → ∀ F, f_M_grow (nI i) (mu A) = some (0, mu F) → oA F → F 10 i = A 10 i + 1 → l_M_save_64 (n + 1) (nI i) (nI a) (nI m) (nI t) (nI 1) (mu A) = l_M_save_64 (n + 1) (nI i) (nI a) (nI m) (nI t) (nI 1) (mu F)) := by
  have h268 := o.mn i
  have hlf := lf_le (A := A)
  have e64 : ∀ n, l_M_save_64 (n + 1) (nI i) (nI a) (nI m) (nI t) (nI 1) (mu A) = if nI (lf A) < nI (if A 10 i = 12 then 2 else 1) then b_M_save_109 (l_M_save_64 n) (nI i) (nI a) (nI m) (nI t) (0 : Int32) (mu A) else b_M_save_109 (l_M_save_64 n) (nI i) (nI a) (nI m) (nI t) (1 : Int32) (mu A) := by
    intro n
    show b_M_save_64 (l_M_save_64 n) (nI i) (nI a) (nI m) (nI t) (nI 1) (mu A) = _
    unfold b_M_save_64
    rw [if_neg (by rw [nLe (by omega) (by omega)]; omega), if_neg (show ¬ nI 1 = 0 from n01), ld_nI hi (by omega), Option.bind_some, mu_10, nI_add, show nI (a + t) / (1024 : Int32) = nI ((a + t) / 1024) from nDiv (d := 1024) (by omega) (by omega) (by omega), if_pos (by rw [hk]), mLeft o hB.2.2.2.1, Option.bind_some, mNext o hi, Option.bind_some]
  constructor
  · intro hf
    rw [show n + 2 = (n + 1) + 1 by omega, e64, if_pos (by rw [nLt (by omega) (by split <;> omega)]; exact hf)]
    unfold b_M_save_109 b_M_save_121
    rw [if_pos rfl, if_pos rfl]
    show b_M_save_64 (l_M_save_64 n) (nI i) (nI a) (nI m) (nI t) 0 (mu A) = _
    unfold b_M_save_64
    rw [if_neg (by rw [nLe (by omega) (by omega)]; omega), if_pos rfl]
  · intro hf F hg oF hF
    have h268F := oF.mn i
    rw [e64, if_neg (by rw [nLt (by omega) (by split <;> omega)]; omega)]
    unfold b_M_save_109
    rw [if_neg n01, hg, Option.bind_some]
    show _ = b_M_save_64 (l_M_save_64 n) (nI i) (nI a) (nI m) (nI t) (nI 1) (mu F)
    unfold b_M_save_64
    rw [if_neg (by rw [nLe (by omega) (by omega)]; omega), if_neg (show ¬ nI 1 = 0 from n01), ld_nI hi (by omega), Option.bind_some, mu_10, nI_add, show nI (a + t) / (1024 : Int32) = nI ((a + t) / 1024) from nDiv (d := 1024) (by omega) (by omega) (by omega), if_neg (by rw [hF, nEq (by omega) (by omega)]; omega)]
    rfl
theorem mEnd {A : fb_N} (o : oA A) {i a m : Nat} (hi : i < 64) (hm : m ≤ 3072) (ha : a + m ≤ 274432) (n : Nat) : l_M_save_64 (n + 1) (nI i) (nI a) (nI m) (nI m) (nI 1) (mu A) = some (nI m, mu (up A 8 i (max (a + m) (A 8 i)))) := by
  show b_M_save_64 (l_M_save_64 n) (nI i) (nI a) (nI m) (nI m) (nI 1) (mu A) = _
  unfold b_M_save_64
  rw [if_pos (by rw [nLe (by omega) (by omega)]; omega), mFin o hi ha]
theorem sv_out {j i a m : Nat} (hi : i < 64) (hm : m ≤ 3072) (he : a + m ≤ 274432) : ∀ (n k D : Nat) (c A : fb_N), RC c A → SV j i D A → a ≤ D → D ≤ a + m → (D / 1024 = k ∨ (D = a + m ∧ a + m ≤ 1024 * k)) → k ≤ 269 → 270 - k < n → ∃ (r : Nat) (c2 A2 : fb_N), l_I_put_buffer_21 n (nI i) (nI a) (nI (a + m)) (nI D) (nI k) (ka c) = some (nI r, ka c2) ∧ (∀ n2, l_M_save_64 (n2 + (a + m - D) + 2) (nI i) (nI a) (nI m) (nI (D - a)) (nI 1) (mu A) = some (nI r, mu A2)) ∧ RC c2 A2 ∧ IV j A2 := by
  intro n
  induction n with
  | zero => intro k D c A _ _ _ _ _ _ h; omega
  | succ n ih =>
    intro k D c A hR hV haD hD hk hk2 hn
    have o := hV.1
    have hB := hV.2.1
    have hmi := hV.mi hi
    have hsz := o.sz i
    have h268 := o.mn i
    have e21 : l_I_put_buffer_21 (n + 1) (nI i) (nI a) (nI (a + m)) (nI D) (nI k) (ka c) = b_I_put_buffer_21 (l_I_put_buffer_21 n) (nI i) (nI a) (nI (a + m)) (nI D) (nI k) (ka c) := rfl
    rw [e21]
    unfold b_I_put_buffer_21
    rw [show nI k * (1024 : Int32) = nI (k * 1024) from pk_mul k 1024]
    have finish : ∃ (r : Nat) (c2 A2 : fb_N), b_I_put_buffer_132 (nI i) (nI a) (nI D) (ka c) = some (nI r, ka c2) ∧ (D = a + m → ∀ n2, l_M_save_64 (n2 + (a + m - D) + 2) (nI i) (nI a) (nI m) (nI (D - a)) (nI 1) (mu A) = some (nI r, mu A2)) ∧ b_M_save_153 (nI i) (nI a) (nI (D - a)) (mu A) = some (nI r, mu A2) ∧ RC c2 A2 ∧ IV j A2 := by
      have h1 := kFin hR o (i := i) (a := a) (D := D) hi haD (by omega)
      have h2 := mFin o (i := i) (a := a) (t := D - a) hi (by omega)
      rw [show a + (D - a) = D by omega] at h2
      refine ⟨D - a, _, _, h1, fun q n2 => ?_, h2, rc8 hR hi _, svE hV hi (by omega)⟩
      have h3 := mEnd o (i := i) (a := a) (m := m) hi hm he (n2 + 1)
      rw [show n2 + (a + m - D) + 2 = n2 + 1 + 1 by omega, show D - a = m by omega, h3, q]
    by_cases z : a + m ≤ k * 1024
    · rw [if_pos (by rw [nLe (by omega) (by omega)]; exact z)]
      obtain ⟨r, c2, A2, g1, g2, g3, g4, g5⟩ := finish
      exact ⟨r, c2, A2, g1, g2 (by omega), g4, g5⟩
    · have hDk : D / 1024 = k := by omega
      rw [if_neg (by rw [nLe (by omega) (by omega)]; exact z), kPlace hR o hB hi (by omega), Option.bind_some]
      have e56 : ∀ (c1 A1 : fb_N), RC c1 A1 → SV j i (if D < min (a + m) (1024 * (k + 1)) then D + 1 else D) A1 → k < A1 10 i → ∃ (r : Nat) (c2 A2 : fb_N), b_I_put_buffer_56 (l_I_put_buffer_21 n) (nI i) (nI a) (nI (a + m)) (nI D) (nI k) (ka c1) = some (nI r, ka c2) ∧ (∀ n2, l_M_save_64 (n2 + (a + m - D) + 2) (nI i) (nI a) (nI m) (nI (D - a)) (nI 1) (mu A1) = some (nI r, mu A2)) ∧ RC c2 A2 ∧ IV j A2 := by
        intro c1 A1 hR1 hV1 hk1
        have o1 := hV1.1
        have hB1 := hV1.2.1
        have h38 := (hB1.1 i k hi (Or.inl hk1)).1
        unfold b_I_put_buffer_56
        rw [kPlace hR1 o1 hB1 hi (by omega), Option.bind_some, hDk, if_neg (by omega), show (nI k + (1 : Int32)) * (1024 : Int32) = nI ((k + 1) * 1024) from by
          show (nI k + nI 1) * nI 1024 = _
          rw [nI_add, pk_mul], min_nI (by omega) (by omega)]
        rw [show 1024 * (k + 1) = (k + 1) * 1024 by omega] at hV1
        obtain ⟨c2, A2, g1, g2, g3, g4⟩ := sv_blk (j := j) (i := i) (a := a) (m := m) (D := D) (k := k) (l := min (a + m) ((k + 1) * 1024)) hi hm he haD (by omega) hDk (by omega) (min (a + m) ((k + 1) * 1024) - D) D c1 A1 rfl (by omega) (by omega) hR1 hV1 hk1
        have h1 := g1 fb_n (l_I_put_buffer_21 n) (by unfold fb_n; omega)
        obtain ⟨r, c3, A3, w1, w2, w3, w4⟩ := ih (k + 1) (min (a + m) ((k + 1) * 1024)) c2 A2 g3 g4 (by omega) (by omega) (by omega) (by omega) (by omega)
        refine ⟨r, c3, A3, ?_, fun n2 => ?_, w3, w4⟩
        · rw [h1]
          exact w1
        · have h2 := g2 (n2 + (a + m - min (a + m) ((k + 1) * 1024)) + 2)
          rw [show n2 + (a + m - min (a + m) ((k + 1) * 1024)) + 2 + (min (a + m) ((k + 1) * 1024) - D) = n2 + (a + m - D) + 2 by omega] at h2
          rw [h2]
          exact w2 n2
      by_cases hb : k < A 10 i
      · have h38 := (hB.1 i k hi (Or.inl hb)).1
        rw [hDk, if_neg (show ¬ A 11 (269 * i + k) = 0 by omega), if_neg (show ¬ nI (pl A i D) = -1 from nI_m1 (by have := (pl_ge o hB hi (p := D) (Or.inl (by omega))).2; omega))]
        refine e56 c A hR ?_ hb
        by_cases w : D < min (a + m) (1024 * (k + 1))
        · rw [if_pos w]
          exact svN hV hi (by omega)
        · rw [if_neg w]
          exact hV
      · have hDe : D = 1024 * k := by omega
        have hk0 : A 10 i = k := by omega
        rw [hDk, hB.2.1 i k hi (by omega) (by unfold vl; omega), if_pos rfl, if_pos rfl]
        by_cases hf : lf A < (if A 10 i = 12 then 2 else 1)
        · rw [hk0] at hf
          rw [kAddNo hR o (by omega) hf, Option.bind_some, if_pos rfl]
          obtain ⟨r, c2, A2, g1, g2, g3, g4, g5⟩ := finish
          refine ⟨r, c2, A2, g1, fun n2 => ?_, g4, g5⟩
          have h1 := (mEdge o hB (i := i) (a := a) (m := m) (t := D - a) hi (by omega) hm he (by rw [show a + (D - a) = D by omega]; omega) (n2 + (a + m - D))).1 (by rw [hk0]; exact hf)
          rw [h1, g3]
        · obtain ⟨c1, F, b1, b2, q1, q2, q3, q4, q5, q6⟩ := grow_ok hR o hB hi (by omega) (by omega)
          have hF : F 10 i = A 10 i + 1 := by rw [q5.2.1, if_pos rfl]
          rw [← hk0, q1, Option.bind_some, if_neg n01, hk0]
          have hVF := svG hV hi (by omega) q4 q5 q6
          obtain ⟨r, c2, A2, w1, w2, w3, w4⟩ := e56 c1 F q3 (by rw [if_pos (by omega)]; exact hVF) (by omega)
          refine ⟨r, c2, A2, w1, fun n2 => ?_, w3, w4⟩
          have h1 := (mEdge o hB (i := i) (a := a) (m := m) (t := D - a) hi (by omega) hm he (by rw [show a + (D - a) = D by omega]; omega) (n2 + (a + m - D) + 1)).2 (by omega) F q2 q4 hF
          rw [h1]
          exact w2 n2
theorem s_save : sm_save sim := by
  intro j st mt x y w hj hs
  obtain ⟨c, A, rfl, rfl, hR, hI⟩ := hs
  have fin : ∀ r : Int32, f_T_save x y w (ka c) = some (r, ka c) → f_M_save x y w (mu A) = some (r, mu A) → ∃ (r : Int32) (st1 mt1 : fb_S), f_T_save x y w (ka c) = some (r, st1) ∧ f_M_save x y w (mu A) = some (r, mt1) ∧ sim (j + 1) st1 mt1 := fun r h1 h2 => ⟨r, ka c, mu A, h1, h2, c, A, rfl, rfl, hR, hI.next⟩
  have no : (x < 0 ∨ nI 64 ≤ x) → f_T_save x y w (ka c) = some (-1, ka c) ∧ f_M_save x y w (mu A) = some (-1, mu A) := by
    intro hx
    constructor
    · unfold f_T_save
      rw [iKindN c hx, Option.bind_some, if_neg (show ¬ (0 : Int32) = 2 by decide)]
    · unfold f_M_save
      rw [mThr hI.1, Option.bind_some, mThN A hx, Option.bind_some, if_pos rfl]
  rcases ix x (n := 64) (by decide) with hx | ⟨_, hx⟩ | ⟨i, hi, rfl⟩
  · exact fin (-1) (no (Or.inl hx)).1 (no (Or.inl hx)).2
  · exact fin (-1) (no (Or.inr hx)).1 (no (Or.inr hx)).2
  · clear no
    have ok := hI.1.ki i
    have hsz := hI.1.sz i
    have eC : f_T_save (nI i) y w (ka c) = (if A 4 i = 2 then (if w < (0 : Int32) then some (-1, ka c) else (if w ≤ (3072 : Int32) then (if y < (0 : Int32) then some (-1, ka c) else (if nI (A 8 i) < y then some (-1, ka c) else (if (y + w) ≤ (274432 : Int32) then (f_I_put_buffer (nI i) y w (ka c)).bind fun r9 => some (r9.1, r9.2) else some (-1, ka c)))) else some (-1, ka c))) else some (-1, ka c)) := by
      unfold f_T_save
      rw [iKind hR hI.1 hi, Option.bind_some, iSize hR hI.1 hi]
      simp only [Option.bind_some]
      by_cases h2 : A 4 i = 2
      · rw [if_pos h2, if_pos (show nI (A 4 i) = 2 by rw [h2]; rfl)]
      · rw [if_neg h2, if_neg (show ¬ nI (A 4 i) = 2 from fun q => h2 ((nEq (b := 2) (by omega) (by omega)).mp q))]
    have eM : f_M_save (nI i) y w (mu A) = (if A 4 i = 2 then (if y < (0 : Int32) then some (-1, mu A) else (if nI (A 8 i) < y then some (-1, mu A) else (if w < (0 : Int32) then some (-1, mu A) else (if (3072 : Int32) < w then some (-1, mu A) else (if (y + w) ≤ (274432 : Int32) then l_M_save_64 fb_n (nI i) y w (0 : Int32) (1 : Int32) (mu A) else some (-1, mu A)))))) else some (-1, mu A)) := by
      unfold f_M_save
      rw [mThr hI.1, Option.bind_some, mTh A hI.1 hi, Option.bind_some]
      by_cases h0 : A 4 i = 0
      · rw [if_pos h0, if_pos rfl, if_neg (by omega)]
      · rw [if_neg h0, if_neg n01, ld_nI hi (by decide), Option.bind_some]
        show (if mu A 4 i = 2 then _ else _) = _
        rw [mu_4]
        by_cases h2 : A 4 i = 2
        · rw [if_pos h2, if_pos (show nI (A 4 i) = 2 by rw [h2]; rfl)]
          show (if y < (0 : Int32) then some (-1, mu A) else (fb_ld (mu A 8) 64 (nI i)).bind _) = _
          rw [ld_nI hi (by decide), Option.bind_some, mu_8]
        · rw [if_neg h2, if_neg (show ¬ nI (A 4 i) = 2 from fun q => h2 ((nEq (b := 2) (by omega) (by omega)).mp q))]
    by_cases h2 : A 4 i = 2
    · rw [if_pos h2] at eC eM
      by_cases hy : y < 0
      · refine fin (-1) ?_ (by rw [eM, if_pos hy])
        rw [eC]
        split
        · rfl
        · split
          · first | rfl | rw [if_pos hy]
          · rfl
      · rw [if_neg hy] at eC eM
        by_cases hs : nI (A 8 i) < y
        · refine fin (-1) ?_ (by rw [eM, if_pos hs])
          rw [eC]
          split
          · rfl
          · split
            · first | rfl | rw [if_pos hs]
            · rfl
        · rw [if_neg hs] at eC eM
          by_cases hw : w < 0
          · exact fin (-1) (by rw [eC, if_pos hw]) (by rw [eM, if_pos hw])
          · rw [if_neg hw] at eC eM
            obtain ⟨a, ha, rfl⟩ := nI_of hy
            obtain ⟨m, hm, rfl⟩ := nI_of hw
            have has : a ≤ A 8 i := by
              rcases Nat.lt_or_ge (A 8 i) a with q | q
              · exact absurd ((nLt (by omega) (by omega)).mpr q) hs
              · exact q
            by_cases hm2 : m ≤ 3072
            · rw [if_pos (show nI m ≤ (3072 : Int32) from (nLe (b := 3072) (by omega) (by omega)).mpr hm2)] at eC
              rw [if_neg (show ¬ (3072 : Int32) < nI m from fun q => by have := (nLt (a := 3072) (by omega) (by omega)).mp q; omega)] at eM
              rw [nI_add] at eC eM
              by_cases he : a + m ≤ 274432
              · rw [if_pos (show nI (a + m) ≤ (274432 : Int32) from (nLe (b := 274432) (by omega) (by omega)).mpr he)] at eC eM
                obtain ⟨r, c2, A2, g1, g2, g3, g4⟩ := sv_out (j := j) (i := i) (a := a) (m := m) hi hm2 he fb_n (a / 1024) a c A hR (hI.sv h2 has) (by omega) (by omega) (Or.inl rfl) (by omega) (by unfold fb_n; omega)
                refine ⟨nI r, ka c2, mu A2, ?_, ?_, c2, A2, rfl, rfl, g3, g4.next⟩
                · rw [eC]
                  unfold f_I_put_buffer
                  rw [show fb_min (nI m) (3072 : Int32) = nI m from by
                    show fb_min (nI m) (nI 3072) = _
                    rw [min_nI (by omega) (by omega), show min m 3072 = m by omega], nI_add, show nI a / (1024 : Int32) = nI (a / 1024) from nDiv (d := 1024) (by omega) (by omega) (by omega), g1, Option.bind_some]
                · rw [eM]
                  have h5 := g2 (fb_n - m - 2)
                  rw [show fb_n - m - 2 + (a + m - a) + 2 = fb_n by unfold fb_n; omega, show a - a = 0 by omega] at h5
                  exact h5
              · rw [if_neg (show ¬ nI (a + m) ≤ (274432 : Int32) from fun q => by have := (nLe (b := 274432) (by omega) (by omega)).mp q; omega)] at eC eM
                exact fin (-1) eC eM
            · rw [if_neg (show ¬ nI m ≤ (3072 : Int32) from fun q => by have := (nLe (b := 3072) (by omega) (by omega)).mp q; omega)] at eC
              rw [if_pos (show (3072 : Int32) < nI m from (nLt (a := 3072) (by omega) (by omega)).mpr (by omega))] at eM
              exact fin (-1) eC eM
    · rw [if_neg h2] at eC eM
      exact fin (-1) eC eM

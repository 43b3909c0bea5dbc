theorem rb_lt {A : fb_N} (o : oA A) (i a m t : Nat) : rb A i a m t < 256 := by
  unfold rb
  have g1 := o.dk (pl A i (a + t))
  have g2 := o.bu t
  split <;> omega
theorem rcR {c A : fb_N} (h : RC c A) (f : Nat → Nat) (hf : ∀ t, f t < 256) : RC (va_up c 5 f) (va_up A 1 f) := by
  refine ⟨?_, ?_, ?_, ?_, ?_, ?_⟩
  · rw [va_up_n _ _ _ (by omega), db_c (A := A) (va_up_n _ _ _ (by omega)) (va_up_n _ _ _ (by omega)) (va_up_n _ _ _ (by omega)) (va_up_n _ _ _ (by omega)) (va_up_n _ _ _ (by omega)) (va_up_n _ _ _ (by omega)) (va_up_n _ _ _ (by omega)) (va_up_n _ _ _ (by omega)) (va_up_n _ _ _ (by omega))]
    exact h.1
  · rw [va_up_n _ _ _ (by omega), va_up_n _ _ _ (by omega)]; exact h.2.1
  · rw [va_up_n _ _ _ (by omega), va_up_n _ _ _ (by omega)]; exact h.2.2.1
  · rw [va_up_s, va_up_s]
  · rw [va_up_n _ _ _ (by omega), va_up_n _ _ _ (by omega)]; exact h.2.2.2.2.1
  · intro k2 q h1 h2
    by_cases e5 : k2 = 5
    · subst e5
      rw [va_up_s]
      exact hf q
    · rw [va_up_n _ _ _ e5]; exact h.w k2 q h1 h2
theorem IV.bu {j : Nat} {A : fb_N} (h : IV j A) (f : Nat → Nat) (hf : ∀ t, f t < 256) : IV j (va_up A 1 f) := by
  have u : ∀ j, j ≠ 1 → va_up A 1 f j = A j := fun j hj => va_up_n _ _ _ hj
  refine ⟨?_, h.2.1.cg (u 2 (by omega)) (u 3 (by omega)) (u 10 (by omega)) (u 11 (by omega)), h.2.2.1.cg (u 4 (by omega)) (u 5 (by omega)) (u 6 (by omega)) (u 7 (by omega)) (u 8 (by omega)) (u 9 (by omega)) (u 10 (by omega)), h.2.2.2.1.cg (u 2 (by omega)) (u 4 (by omega)) (u 8 (by omega)) (u 11 (by omega)), h.2.2.2.2.1.cg (u 2 (by omega)) (u 4 (by omega)) (u 7 (by omega)) (u 8 (by omega)) (u 11 (by omega)), fun i2 => by rw [u 7 (by omega), u 9 (by omega)]; exact h.2.2.2.2.2 i2⟩
  obtain ⟨g1, g2, g3, g4, g5, g6, g7, g8, g9, g10, g11, g12, g13⟩ := h.1
  refine ⟨fun k2 q hk2 => ?_, by rw [u 4 (by omega)]; exact g2, by rw [u 5 (by omega)]; exact g3, by rw [u 6 (by omega)]; exact g4, by rw [u 7 (by omega)]; exact g5, by rw [u 8 (by omega)]; exact g6, by rw [u 9 (by omega)]; exact g7, by rw [u 10 (by omega)]; exact g8, by rw [u 11 (by omega)]; exact g9, by rw [u 3 (by omega)]; exact g10, by rw [u 14 (by omega)]; exact g11, by rw [u 15 (by omega)]; exact g12, by rw [u 12 (by omega)]; exact g13⟩
  by_cases e1 : k2 = 1
  · subst e1
    rw [va_up_s]
    exact hf q
  · rw [u k2 e1]; exact g1 k2 q hk2
theorem rb_0 (A : fb_N) (i a : Nat) : rb A i a 0 = A 1 := by
  funext t
  unfold rb
  rw [if_neg (by omega)]
theorem va_up_id (A : fb_N) (k : Nat) : va_up A k (A k) = A := by
  funext j
  unfold va_up
  by_cases h : j = k
  · rw [if_pos h, h]
  · rw [if_neg h]
theorem kBring {c A : fb_N} (h : RC c A) (o : oA A) (hB : BK A) (hD : DI A) {i a m : Nat} (hi : i < 64) (ha : a < A 8 i) (hm : m ≤ 3072) (hm2 : m ≤ A 8 i - a) : f_I_bring_buffer (nI i) (nI a) (nI m) (ka c) = some (nI m, ka (va_up c 5 (rb A i a m))) := by
  have hsz := o.sz i
  unfold f_I_bring_buffer
  simp only [il]
  rw [min_nI (by omega) (by omega), show min m 3072 = m by omega, nI_add, nDiv (by omega) (by omega) (by omega)]
  have h1 := br_out h o hB hD (e := a + m) hi ha (by omega) (by omega) (by omega) fb_n (a / 1024) (by omega) (by omega) (by unfold fb_n; omega)
  rw [show min (a + m) (max a (1024 * (a / 1024))) - a = 0 by omega, show a + m - a = m by omega, rb_0, ← h.2.2.2.1, va_up_id] at h1
  exact h1
theorem s_read : sm_read sim := by
  intro j st mt x y w hj hs
  obtain ⟨c, A, rfl, rfl, hR, hI⟩ := hs
  have fin : ∀ r : Int32, f_T_read x y w (ka c) = some (r, ka c) → f_M_read x y w (mu A) = some (r, mu A) → ∃ (r : Int32) (st1 mt1 : fb_S), f_T_read x y w (ka c) = some (r, st1) ∧ f_M_read x y w (mu A) = some (r, mt1) ∧ sim (j + 1) st1 mt1 := fun r h1 h2 => ⟨r, ka c, mu A, h1, h2, c, A, rfl, rfl, hR, hI.next⟩
  have no : (x < 0 ∨ nI 64 ≤ x) → f_T_read x y w (ka c) = some (-1, ka c) ∧ f_M_read x y w (mu A) = some (-1, mu A) := by
    intro hx
    constructor
    · unfold f_T_read
      rw [iKindN c hx, Option.bind_some, if_pos rfl]
    · unfold f_M_read
      rw [mThr hI.1, Option.bind_some, mThN A hx, Option.bind_some, if_pos rfl]
  rcases ix x (n := 64) (by decide) with hx | ⟨_, hx⟩ | ⟨i, hi, rfl⟩
  · exact fin (-1) (no (Or.inl hx)).1 (no (Or.inl hx)).2
  · exact fin (-1) (no (Or.inr hx)).1 (no (Or.inr hx)).2
  · clear no
    have ok := hI.1.ki i
    have hsz := hI.1.sz i
    have eC : f_T_read (nI i) y w (ka c) = (if A 4 i = 0 then some (-1, ka c) else if A 4 i = 3 then some (-1, ka c) else (if y < (0 : Int32) then some (-1, ka c) else (if w < (0 : Int32) then some (-1, ka c) else (if w ≤ (3072 : Int32) then (if y < nI (A 8 i) then (f_I_bring_buffer (nI i) y (fb_min w (nI (A 8 i) - y)) (ka c)).bind fun r9 => some (r9.1, r9.2) else some ((0 : Int32), ka c)) else some (-1, ka c))))) := by
      unfold f_T_read
      rw [iKind hR hI.1 hi, Option.bind_some, iSize hR hI.1 hi]
      simp only [Option.bind_some]
      by_cases h0 : A 4 i = 0
      · rw [if_pos h0, if_pos (show nI (A 4 i) = 0 by rw [h0]; rfl)]
      · rw [if_neg h0, if_neg (show ¬ nI (A 4 i) = 0 from fun q => h0 ((nEq (b := 0) (by omega) (by omega)).mp q))]
        by_cases h3 : A 4 i = 3
        · rw [if_pos h3, if_pos (show nI (A 4 i) = 3 by rw [h3]; rfl)]
        · rw [if_neg h3, if_neg (show ¬ nI (A 4 i) = 3 from fun q => h3 ((nEq (b := 3) (by omega) (by omega)).mp q))]
    have eM : f_M_read (nI i) y w (mu A) = (if A 4 i = 0 then some (-1, mu A) else if A 4 i = 3 then some (-1, mu A) else (if y < (0 : Int32) then some (-1, mu A) else (if w < (0 : Int32) then some (-1, mu A) else (if w ≤ (3072 : Int32) then l_M_read_43 fb_n (nI i) y w (0 : Int32) (mu A) else some (-1, mu A))))) := by
      unfold f_M_read
      rw [mThr hI.1, Option.bind_some, mTh A hI.1 hi, Option.bind_some]
      by_cases h0 : A 4 i = 0
      · rw [if_pos h0, if_pos h0, if_pos rfl]
      · rw [if_neg h0, if_neg h0, if_neg n01, ld_nI hi (by decide), Option.bind_some]
        show (if mu A 4 i = 3 then _ else _) = _
        rw [mu_4]
        by_cases h3 : A 4 i = 3
        · rw [if_pos h3, if_pos (show nI (A 4 i) = 3 by rw [h3]; rfl)]
        · rw [if_neg h3, if_neg (show ¬ nI (A 4 i) = 3 from fun q => h3 ((nEq (b := 3) (by omega) (by omega)).mp q))]
    by_cases h0 : A 4 i = 0
    · exact fin (-1) (by rw [eC, if_pos h0]) (by rw [eM, if_pos h0])
    · by_cases h3 : A 4 i = 3
      · exact fin (-1) (by rw [eC, if_neg h0, if_pos h3]) (by rw [eM, if_neg h0, if_pos h3])
      · rw [if_neg h0, if_neg h3] at eC eM
        by_cases hy : y < 0
        · exact fin (-1) (by rw [eC, if_pos hy]) (by rw [eM, if_pos hy])
        · by_cases hw : w < 0
          · exact fin (-1) (by rw [eC, if_neg hy, if_pos hw]) (by rw [eM, if_neg hy, if_pos hw])
          · by_cases hw2 : w ≤ (3072 : Int32)
            · rw [if_neg hy, if_neg hw, if_pos hw2] at eC eM
              obtain ⟨a, ha, rfl⟩ := nI_of hy
              obtain ⟨m, hm, rfl⟩ := nI_of hw
              have hm2 : m ≤ 3072 := (nLe (b := 3072) (by omega) (by omega)).mp hw2
              have h1 := mRead hI.1 hI.2.1 hI.2.2.1 (i := i) (a := a) (m := m) hi (by omega) hm2 fb_n 0 (by omega) (by unfold fb_n; omega)
              rw [rb_0, va_up_id] at h1
              have hf := rb_lt hI.1 i a (min m (A 8 i - a))
              refine ⟨nI (min m (A 8 i - a)), ka (va_up c 5 (rb A i a (min m (A 8 i - a)))), mu (va_up A 1 (rb A i a (min m (A 8 i - a)))), ?_, by rw [eM]; exact h1, _, _, rfl, rfl, rcR hR _ hf, (hI.bu _ hf).next⟩
              rw [eC]
              by_cases hs : a < A 8 i
              · rw [if_pos (by rw [nLt (by omega) (by omega)]; exact hs), nSub (by omega), min_nI (by omega) (by omega), kBring hR hI.1 hI.2.1 hI.2.2.1 hi hs (by omega) (by omega), Option.bind_some]
              · rw [if_neg (by rw [nLt (by omega) (by omega)]; exact hs), show min m (A 8 i - a) = 0 by omega, rb_0, ← hR.2.2.2.1, va_up_id]
                rfl
            · exact fin (-1) (by rw [eC, if_neg hy, if_neg hw, if_neg hw2]) (by rw [eM, if_neg hy, if_neg hw, if_neg hw2])

/-! an inode becomes free -/
def ED (A : fb_N) (i : Nat) : fb_N := up (up (up (EE A i) 4 i 0) 5 i 0) 6 i 0
theorem ED_c (A : fb_N) (i : Nat) {j : Nat} (h : j ≠ 4) (h2 : j ≠ 5) (h3 : j ≠ 6) : ED A i j = EE A i j := by
  unfold ED
  rw [up_c _ h3, up_c _ h2, up_c _ h]
theorem ED_f (A : fb_N) (i d : Nat) {f : Nat} (hf : f = 4 ∨ f = 5 ∨ f = 6) : ED A i f d = if d = i then 0 else A f d := by
  have e : EE A i f = A f := EE_c A i (by omega) (by omega) (by omega) (by omega)
  unfold ED
  by_cases h : d = i
  · subst h
    rw [if_pos rfl]
    rcases hf with rfl | rfl | rfl
    · rw [up_c _ (by omega), up_c _ (by omega), up_s]
    · rw [up_c _ (by omega), up_s]
    · rw [up_s]
  · rw [if_neg h, up_n _ (Or.inr h), up_n _ (Or.inr h), up_n _ (Or.inr h), e]
theorem rcED {c A : fb_N} {i : Nat} (hi : i < 64) (h : RC c (E0 A i)) (h7 : A 7 i = 0) : RC (va_up c 0 (zr (c 0) (33792 + 64 * i) 64)) (ED A i) := by
  have u : ∀ j, j ≠ 4 → j ≠ 5 → j ≠ 6 → j ≠ 10 → j ≠ 8 → ED A i j = E0 A i j := by
    intro j h4 h5 h6 h10 h8
    rw [ED_c A i h4 h5 h6]
    unfold EE
    rw [up_c _ h8, up_c _ h10]
  have w : ∀ j, j ≠ 3 → j ≠ 11 → E0 A i j = A j := by
    intro j h3 h11
    unfold E0
    rw [va_up_n _ _ _ h11, va_up_n _ _ _ h3]
  have e11 : E0 A i 11 = eB A i 269 := by
    unfold E0
    rw [va_up_s]
  refine rcD h (fun k hk => va_up_n _ _ _ hk) (fun q => by rw [va_up_s]; exact zr_b h.w.b _ _ q) ?_ ?_ ?_ ?_ (u 0 (by omega) (by omega) (by omega) (by omega) (by omega)) (u 1 (by omega) (by omega) (by omega) (by omega) (by omega)) (u 9 (by omega) (by omega) (by omega) (by omega) (by omega)) (u 12 (by omega) (by omega) (by omega) (by omega) (by omega)) (u 15 (by omega) (by omega) (by omega) (by omega) (by omega))
  · intro x k hx hk
    rw [va_up_s]
    have e8 : ED A i 8 x = if x = i then 0 else A 8 x := by
      rw [ED_c A i (by omega) (by omega) (by omega), EE_8]
    have e7 : ED A i 7 = A 7 := by rw [u 7 (by omega) (by omega) (by omega) (by omega) (by omega), w 7 (by omega) (by omega)]
    have e11b : ED A i 11 = eB A i 269 := by rw [u 11 (by omega) (by omega) (by omega) (by omega) (by omega), e11]
    unfold zr
    by_cases e : x = i
    · subst e
      rw [if_pos (by omega)]
      unfold ibx
      rw [ED_f A x x (by omega), ED_f A x x (by omega), ED_f A x x (by omega), e7, h7, e8, if_pos rfl, e11b]
      have e0 : eB A x 269 (269 * x + (if k / 4 - 3 < 12 then k / 4 - 3 else 268)) = 0 := eB_i A (by split <;> omega)
      rw [e0]
      simp only [le_0, if_pos]
      simp
    · rw [if_neg (by omega), h.i hx hk]
      unfold ibx
      rw [ED_f A i x (by omega), ED_f A i x (by omega), ED_f A i x (by omega), e7, e8, if_neg e, if_neg e, if_neg e, if_neg e, e11b, w 4 (by omega) (by omega), w 5 (by omega) (by omega), w 6 (by omega) (by omega), w 7 (by omega) (by omega), w 8 (by omega) (by omega), e11]
  · intro k hk
    rw [va_up_s]
    unfold zr
    rw [if_neg (by omega), h.m hk]
    unfold mbx
    rw [u 3 (by omega) (by omega) (by omega) (by omega) (by omega)]
  · intro q h1 h2
    rw [va_up_s]
    unfold zr
    rw [if_neg (by omega), h.x h1 h2, u 2 (by omega) (by omega) (by omega) (by omega) (by omega)]
  · intro q hq
    rw [va_up_s]
    unfold zr
    rw [if_neg (by omega)]
theorem ED_IV {j : Nat} {A : fb_N} (hI : IV j A) {i : Nat} (hi : i < 64) (h7 : A 7 i = 0) (h9 : A 9 i = 0) : IV j (ED A i) := by
  obtain ⟨o, hB, hD, hE, hL, hJ⟩ := hI
  have e : ∀ j, j ≠ 4 → j ≠ 5 → j ≠ 6 → ED A i j = EE A i j := fun j => ED_c A i
  have e7 : ED A i 7 = A 7 := by rw [e 7 (by omega) (by omega) (by omega), EE_c A i (by omega) (by omega) (by omega) (by omega)]
  have e9 : ED A i 9 = A 9 := by rw [e 9 (by omega) (by omega) (by omega), EE_c A i (by omega) (by omega) (by omega) (by omega)]
  have hW : sW A (ED A i) := sW_EE o (fun d _ hd => by
    rw [ED_f A i d (by omega)] at hd
    by_cases q : d = i
    · rw [if_pos q] at hd; omega
    · rw [if_neg q] at hd; exact ⟨q, hd⟩) (e 2 (by omega) (by omega) (by omega)) (e 8 (by omega) (by omega) (by omega)) (e 11 (by omega) (by omega) (by omega))
  refine ⟨?_, (EE_BK o hB hi).cg (e 2 (by omega) (by omega) (by omega)) (e 3 (by omega) (by omega) (by omega)) (e 10 (by omega) (by omega) (by omega)) (e 11 (by omega) (by omega) (by omega)), ?_, hE.wk hD.dS hW, hL.wk hD.dS hW (fun i _ _ => by rw [e7]; exact Nat.le_refl _), ?_⟩
  · obtain ⟨g1, g2, g3, g4, g5, g6, g7, g8, g9, g10, g11, g12, g13⟩ := oA_EE o i
    have k2 := o.ki
    have k5 := o.ma
    have k6 := o.mi
    refine ⟨fun k q hk => by rw [e k (by omega) (by omega) (by omega)]; exact g1 k q hk, fun d => ?_, fun d => ?_, fun d => ?_, by rw [e 7 (by omega) (by omega) (by omega)]; exact g5, by rw [e 8 (by omega) (by omega) (by omega)]; exact g6, by rw [e 9 (by omega) (by omega) (by omega)]; exact g7, by rw [e 10 (by omega) (by omega) (by omega)]; exact g8, by rw [e 11 (by omega) (by omega) (by omega)]; exact g9, by rw [e 3 (by omega) (by omega) (by omega)]; exact g10, by rw [e 14 (by omega) (by omega) (by omega)]; exact g11, by rw [e 15 (by omega) (by omega) (by omega)]; exact g12, by rw [e 12 (by omega) (by omega) (by omega)]; exact g13⟩
    · have hi1 : i ≠ 1 := by
        intro q
        have := hL 1 (by omega) (by omega)
        rw [if_pos rfl, ← q] at this
        omega
      rw [ED_f A i d (by omega)]
      by_cases q : d = i
      · rw [if_pos q]; exact ⟨by omega, fun z => by omega⟩
      · rw [if_neg q]; exact ⟨k2 d, fun z => by rw [z]; exact o.rt⟩
    · rw [ED_f A i d (by omega)]; have := k5 d; split <;> omega
    · rw [ED_f A i d (by omega)]; have := k6 d; split <;> omega
  · obtain ⟨d1, d2, d3, d4⟩ := hD
    have e8 : ∀ d, ED A i 8 d = if d = i then 0 else A 8 d := fun d => by rw [e 8 (by omega) (by omega) (by omega), EE_8]
    refine ⟨fun d hd hz => ?_, ?_, fun d hd => ?_, fun d hd hz => ?_⟩
    · rw [ED_f A i d (by omega)] at hz
      rw [ED_f A i d (by omega), ED_f A i d (by omega), e7, e8, e9]
      by_cases q : d = i
      · subst q
        rw [if_pos rfl, if_pos rfl, if_pos rfl]
        exact ⟨rfl, rfl, h7, rfl, h9⟩
      · rw [if_neg q] at hz
        rw [if_neg q, if_neg q, if_neg q]
        exact d1 d hd hz
    · rw [ED_f A i 0 (by omega), d2]; split <;> rfl
    · rw [e8, e 10 (by omega) (by omega) (by omega), EE_10]
      split
      · rfl
      · exact d3 d hd
    · rw [ED_f A i d (by omega)] at hz
      by_cases q : d = i
      · rw [if_pos q] at hz; omega
      · rw [if_neg q] at hz
        rw [e8, if_neg q]
        exact d4 d hd hz
  · intro d
    rw [e7, e9]
    exact hJ d
theorem freeOne {j : Nat} {c A : fb_N} (hR : RC c A) (hI : IV j A) {i : Nat} (hi : i < 64) : ∃ (c2 A2 : fb_N) (r : Int32), f_I_freeIfLeft (nI i) (ka c) = some (r, ka c2) ∧ f_M_ends (nI i) (mu A) = some (r, mu A2) ∧ RC c2 A2 ∧ IV j A2 ∧ (r = 0 ∨ r = 1) := by
  have o := hI.1
  have h4 := o.ki i
  have h7 := o.li i
  have h9 := o.he i
  unfold f_I_freeIfLeft f_M_ends
  simp only [il]
  rw [iUse hR o hi, Option.bind_some, ld_nI hi (by decide), Option.bind_some, mu_4]
  by_cases z4 : A 4 i = 0
  · refine ⟨c, A, 0, ?_, ?_, hR, hI, Or.inl rfl⟩
    · rw [if_pos z4, if_pos (show (0 : Int32) = nI 0 from rfl)]
      rfl
    · rw [if_pos (by rw [z4])]
      rfl
  · rw [if_neg z4, if_neg (show ¬ (1 : Int32) = nI 0 from n01), if_neg (show ¬ nI (A 4 i) = nI 0 by rw [nEq (by omega) (by omega)]; exact z4)]
    dsimp only
    rw [iLinks hR o hi, Option.bind_some, ld_nI hi (by decide), Option.bind_some, mu_7]
    by_cases z7 : A 7 i = 0
    · rw [if_pos (by rw [z7]), if_neg (by rw [z7, nLt (by omega) (by omega)]; omega), iHeld hR hi, Option.bind_some, ld_nI hi (by decide), Option.bind_some, mu_9]
      by_cases z9 : A 9 i = 0
      · rw [if_pos (by rw [z9]), if_pos (by rw [z9, nLe (by omega) (by omega)]; omega)]
        obtain ⟨c2, k1, k2⟩ := kDrop hR o hI.2.1 hi
        refine ⟨_, ED A i, 1, ?_, ?_, rcED hi k2 z7, ED_IV hI hi z7 z9, Or.inr rfl⟩
        · rw [k1, Option.bind_some, iPl, Option.bind_some, kWipe c2 (by omega) (by omega) (by omega), Option.bind_some]
          rfl
        · rw [mEmpty o hI.2.1 hi, Option.bind_some, st_nI hi (by decide), Option.bind_some, mu_i _ 4 _ _ (by decide), st_nI hi (by decide), Option.bind_some, mu_i _ 5 _ _ (by decide), st_nI hi (by decide), Option.bind_some, mu_i _ 6 _ _ (by decide)]
          rfl
      · rw [if_neg (show ¬ nI (A 9 i) = nI 0 by rw [nEq (by omega) (by omega)]; exact z9), if_neg (show ¬ nI (A 9 i) ≤ nI 0 by rw [nLe (by omega) (by omega)]; omega)]
        exact ⟨c, A, 0, rfl, rfl, hR, hI, Or.inl rfl⟩
    · rw [if_neg (show ¬ nI (A 7 i) = nI 0 by rw [nEq (by omega) (by omega)]; exact z7), if_pos (by rw [nLt (by omega) (by omega)]; omega)]
      exact ⟨c, A, 0, rfl, rfl, hR, hI, Or.inl rfl⟩
theorem s_leave : sm_leave sim := by
  intro j st mt x hj hs
  obtain ⟨c, A, rfl, rfl, hR, hI⟩ := hs
  have no : ∀ x : Int32, (x < 0 ∨ nI 64 ≤ x) → f_T_leave x (ka c) = some (0, ka c) ∧ f_M_leave x (mu A) = some (0, mu A) := by
    intro x hx
    constructor
    · unfold f_T_leave
      rw [iHeldN c hx, Option.bind_some, if_neg (show ¬ (0 : Int32) < 0 by decide), rz0]
    · unfold f_M_leave
      rw [mThr hI.1, Option.bind_some, mThN A hx, Option.bind_some, if_pos rfl, rz0]
  rcases ix x (n := 64) (by decide) with hx | ⟨_, hx⟩ | ⟨i, hi, rfl⟩
  · exact ⟨0, ka c, mu A, (no x (Or.inl hx)).1, (no x (Or.inl hx)).2, c, A, rfl, rfl, hR, hI.next⟩
  · exact ⟨0, ka c, mu A, (no x (Or.inr hx)).1, (no x (Or.inr hx)).2, c, A, rfl, rfl, hR, hI.next⟩
  · have o := hI.1
    have hz := hI.2.2.1.1 i hi
    have h9 := o.he i
    have hj9 := (hI.2.2.2.2.2 i).2
    by_cases h0 : A 9 i = 0
    · refine ⟨0, ka c, mu A, ?_, ?_, c, A, rfl, rfl, hR, hI.next⟩
      · unfold f_T_leave
        rw [iHeld hR hi, Option.bind_some, if_neg (show ¬ (0 : Int32) < nI (A 9 i) from by rw [h0]; decide), rz0]
      · unfold f_M_leave
        rw [mThr o, Option.bind_some, mTh A o hi, Option.bind_some]
        by_cases h4 : A 4 i = 0
        · rw [if_pos h4, if_pos rfl, rz0]
        · rw [if_neg h4, if_neg n01, ld_nI hi (by decide), Option.bind_some, if_pos (show mu A 9 i = 0 from by rw [mu_9, h0]; rfl), rz0]
    · have h4 : A 4 i ≠ 0 := fun q => h0 (hz q).2.2.2.2
      have hI2 : IV j (up A 9 i (A 9 i - 1)) := hI.he (fun _ => Or.inl h4) (by omega) (by omega) (by omega)
      obtain ⟨c2, A2, r, k1, k2, k3, k4, k5⟩ := freeOne (rc9 hR i (A 9 i - 1)) hI2 hi
      refine ⟨1, ka c2, mu A2, ?_, ?_, c2, A2, rfl, rfl, k3, k4.next⟩
      · unfold f_T_leave
        rw [iHeld hR hi, Option.bind_some, if_pos (show (0 : Int32) < nI (A 9 i) from (nLt (a := 0) (by omega) (by omega)).mpr (by omega))]
        unfold f_I_addHeld
        rw [iIs _ hi, Option.bind_some, if_neg n01, ld_nI hi (by decide), Option.bind_some, st_nI hi (by decide), Option.bind_some, Option.bind_some]
        show (f_I_freeIfLeft (nI i) (va_up (ka c) 1 (upd (ka c 1) i (ka c 1 i + -1)))).bind _ = _
        have e : ka c 1 i + -1 = nI (A 9 i - 1) := by
          rw [ka_1, hR.2.1, ← nSub (a := A 9 i) (b := 1) (by omega)]
          exact (Int32.sub_eq_add_neg _ _).symm
        rw [e, ka_i c 1 i _ (by omega), k1, Option.bind_some, rz1]
      · unfold f_M_leave
        rw [mThr o, Option.bind_some, mTh A o hi, Option.bind_some, if_neg h4, if_neg n01, ld_nI hi (by decide), Option.bind_some, if_neg (show ¬ mu A 9 i = 0 from by rw [mu_9]; exact fun q => h0 ((nEq (b := 0) (by omega) (by omega)).mp q)), Option.bind_some, st_nI hi (by decide), Option.bind_some]
        show (f_M_ends (nI i) (va_up (mu A) 9 (upd (mu A 9) i (mu A 9 i - nI 1)))).bind _ = _
        rw [mu_9, nSub (by omega), mu_i A 9 i _ (by decide), k2, Option.bind_some, rz1]
theorem forgetL : ∀ (n j : Nat) (c A : fb_N) (t : Nat) (x : Int32), RC c A → IV j A → j < 65536 → t ≤ 64 → 64 - t < n → ∃ (c2 A2 : fb_N) (r : Int32), l_T_forget_4 n x (nI t) (ka c) = some (r, ka c2) ∧ l_M_forget_9 n x (nI t) (mu A) = some (r, mu A2) ∧ RC c2 A2 ∧ IV j A2 := by
  intro n
  induction n with
  | zero => intro j c A t x _ _ _ _ h; omega
  | succ n ih =>
    intro j c A i x hR hI hj ht hn
    show ∃ (c2 A2 : fb_N) (r : Int32), b_T_forget_4 (l_T_forget_4 n) x (nI i) (ka c) = some (r, ka c2) ∧ b_M_forget_9 (l_M_forget_9 n) x (nI i) (mu A) = some (r, mu A2) ∧ RC c2 A2 ∧ IV j A2
    unfold b_T_forget_4 b_M_forget_9
    by_cases e : i = 64
    · subst e
      rw [if_pos (show (64 : Int32) ≤ nI 64 by decide), if_pos (show (64 : Int32) ≤ nI 64 by decide)]
      exact ⟨c, A, x, rfl, rfl, hR, hI⟩
    · have hi : i < 64 := by omega
      have h9 := hI.1.he i
      rw [if_neg (show ¬ (64 : Int32) ≤ nI i from nLe' (a := 64) hi (by omega)), if_neg (show ¬ (64 : Int32) ≤ nI i from nLe' (a := 64) hi (by omega))]
      have hI2 : IV j (up A 9 i 0) := hI.he (fun _ => Or.inr rfl) (by omega) (by omega) (by omega)
      obtain ⟨c2, A2, r, k1, k2, k3, k4, k5⟩ := freeOne (rc9 hR i 0) hI2 hi
      have m1 : ((fb_st (mu A) 9 64 (nI i) (0 : Int32)).bind fun s2 => f_M_ends (nI i) s2) = some (r, mu A2) := by
        rw [st_nI hi (by decide), Option.bind_some]
        show f_M_ends (nI i) (va_up (mu A) 9 (upd (mu A 9) i (nI 0))) = _
        rw [mu_i A 9 i _ (by decide), k2]
      have m2 : ((f_I_heldOf (nI i) (ka c)).bind fun r2 => (f_I_addHeld (nI i) (-r2.1) r2.2).bind fun r3 => f_I_freeIfLeft (nI i) r3.2) = some (r, ka c2) := by
        rw [iHeld hR hi, Option.bind_some]
        unfold f_I_addHeld
        rw [iIs _ hi, Option.bind_some, if_neg n01, ld_nI hi (by decide), Option.bind_some, st_nI hi (by decide), Option.bind_some, Option.bind_some]
        show f_I_freeIfLeft (nI i) (va_up (ka c) 1 (upd (ka c 1) i (ka c 1 i + -nI (A 9 i)))) = _
        have e : ka c 1 i + -nI (A 9 i) = nI 0 := by
          rw [ka_1, hR.2.1, ← Int32.sub_eq_add_neg, nSub (Nat.le_refl _), Nat.sub_self]
        rw [e, ka_i c 1 i _ (by omega), k1]
      have g : ∀ y : Int32, ∃ (c3 A3 : fb_N) (r : Int32), l_T_forget_4 n y (nI i + 1) (ka c2) = some (r, ka c3) ∧ l_M_forget_9 n y (nI i + 1) (mu A2) = some (r, mu A3) ∧ RC c3 A3 ∧ IV j A3 := by
        intro y
        have := ih j c2 A2 (i + 1) y k3 k4 hj (by omega) (by omega)
        rw [← nI_add i 1] at this
        exact this
      rw [st_nI hi (by decide), Option.bind_some] at m1
      rw [iHeld hR hi, Option.bind_some] at m2 ⊢
      cases ha : f_I_addHeld (nI i) (-(nI (A 9 i), ka c).1) (nI (A 9 i), ka c).2 with
      | none => rw [ha] at m2; cases m2
      | some q =>
        rw [ha, Option.bind_some] at m2
        rw [Option.bind_some, m2, Option.bind_some, st_nI hi (by decide), Option.bind_some, m1, Option.bind_some]
        unfold b_T_forget_41 b_M_forget_36
        rcases k5 with rfl | rfl
        · rw [if_pos rfl, if_pos rfl, show x + 0 = x from Int32.add_zero x]
          exact g x
        · rw [if_neg n01, if_neg n01]
          exact g (x + 1)
theorem s_forget : sm_forget sim := by
  intro j st mt hj hs
  obtain ⟨c, A, rfl, rfl, hR, hI⟩ := hs
  obtain ⟨c2, A2, r, k1, k2, k3, k4⟩ := forgetL fb_n j c A 0 (0 : Int32) hR hI (by omega) (by omega) (by unfold fb_n; omega)
  refine ⟨r, ka c2, mu A2, k1, ?_, c2, A2, rfl, rfl, k3, k4.next⟩
  unfold f_M_forget
  rw [mThr hI.1, Option.bind_some]
  exact k2

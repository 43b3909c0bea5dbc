/-! unlink -/
theorem nSub1 {n : Nat} (h : 1 ≤ n) : nI n + (-1 : Int32) = nI (n - 1) := nM (b := 1) h
theorem unF {j : Nat} {c A : fb_N} (hR : RC c A) (hI : IV j A) {d t i : Nat} (he : en A d t) (hi : nu A d (16 * t) = i) (h0 : i ≠ 0) (hk : A 4 i ≠ 1) (hdt : ¬ dt A d (16 * t)) : ∃ (c2 A2 : fb_N), b_T_unlink_118 (nI (pl A d (16 * t))) (nI i) (ka c) = some (nI i, ka c2) ∧ b_M_unlink_80 (nI d) (nI (16 * t)) (nI i) (mu A) = some (nI i, mu A2) ∧ RC c2 A2 ∧ IV j A2 := by
  have hI0 := hI
  obtain ⟨o, hB, hD, hE, hL, hJ⟩ := hI
  have h8 := o.sz d
  have hs := he.2.2
  obtain ⟨q1, q2, q3⟩ := hE d t he
  rw [hi] at q1 q2 q3
  have hid : d ≠ i := fun q => hdt (q2 (Or.inl q.symm))
  obtain ⟨p1, p2, p3⟩ := pl_e o hB hD he.1 hs
  have hcn := cn_ge o he (by rw [hi]; exact hid)
  rw [hi] at hcn
  have hLi := hL i q1 (by omega)
  have hu : A 4 i ≠ 0 := by
    have := nu_use hI0 he (by rw [hi]; exact h0)
    rw [hi] at this
    exact this
  have h7i : 1 ≤ A 7 i := by omega
  have h7l := o.li i
  obtain ⟨c1, k1, k2⟩ := kEr hR p1 p2 p3
  have oe := oA_er o (pl A d (16 * t))
  have e7 : er A (pl A d (16 * t)) 7 = A 7 := er_c A _ (by omega)
  obtain ⟨c2, k3, k4, -⟩ := kLinks k2 oe (v := A 7 i - 1) q1 (-1 : Int32) (by rw [e7]; exact nSub1 h7i) (by omega)
  have u : ∀ k, k ≠ 2 → k ≠ 7 → up (er A (pl A d (16 * t))) 7 i (A 7 i - 1) k = A k := fun k h2 h7 => by rw [up_c _ h7, er_c A _ h2]
  have u2 : up (er A (pl A d (16 * t))) 7 i (A 7 i - 1) 2 = er A (pl A d (16 * t)) 2 := up_c _ (by omega)
  have u7 : ∀ x, up (er A (pl A d (16 * t))) 7 i (A 7 i - 1) 7 x = if x = i then A 7 i - 1 else A 7 x := by
    intro x
    by_cases e : x = i
    · rw [if_pos e, e, up_s]
    · rw [if_neg e, up_n _ (Or.inr e), e7]
  have hEE : isE A (up (er A (pl A d (16 * t))) 7 i (A 7 i - 1)) (fun x s => x = d ∧ s = t) := by
    refine ⟨u, fun x s hx hq => ?_, fun x s r hx hq hr => ?_⟩
    · unfold nu
      have epl : pl (up (er A (pl A d (16 * t))) 7 i (A 7 i - 1)) x (16 * s) = pl A x (16 * s) := by
        show 1024 * up (er A (pl A d (16 * t))) 7 i (A 7 i - 1) 11 (269 * x + 16 * s / 1024) + 16 * s % 1024 = _
        rw [u 11 (by omega) (by omega)]
        rfl
      have g0 := er_e (X := A) hB hD he hx (r := 0) (by omega)
      have g1 := er_e (X := A) hB hD he hx (r := 1) (by omega)
      rw [if_pos hq] at g0 g1
      rw [Nat.add_zero] at g0
      rw [epl, u2, g0, g1]
    · rw [u2, er_e (X := A) hB hD he hx hr, if_neg hq]
  have hIZ : IV j (up (er A (pl A d (16 * t))) 7 i (A 7 i - 1)) := by
    refine hI0.era hEE ?_ ?_ ?_ ?_ ?_
    · exact (BK_er o hB he.1 (en_v hD he)).cg (up_c _ (by omega)) (up_c _ (by omega)) (up_c _ (by omega)) (up_c _ (by omega))
    · rw [u2]
      exact oe.dk
    · intro x
      rw [u7]
      by_cases e : x = i
      · rw [if_pos e, e]; exact ⟨by omega, fun _ => hu⟩
      · rw [if_neg e]; exact ⟨Nat.le_refl _, fun q => absurd rfl q⟩
    · intro x s hx hq a1 a2 a3 a4 w
      obtain ⟨w1, w2⟩ := w
      have := ((hE x s hx).2.2 a1 a2 a3 a4).1
      rw [w1] at this
      rw [← w2, Nat.mul_one] at hi
      rw [this] at hi
      rw [← hi] at hk
      exact hk hx.2.1
    · intro x hx hx0
      rw [u7]
      have g := hL x hx hx0
      by_cases e : x = i
      · have := cn_Es o hEE hx0 he ⟨rfl, rfl⟩ (by rw [e]; exact hid) (by rw [e]; exact hi)
        rw [if_pos e]
        rw [e] at this g ⊢
        omega
      · have := cn_E hEE hx0
        rw [if_neg e]
        omega
  obtain ⟨c3, A3, r, g1, g2, g3, g4, -⟩ := freeOne k4 hIZ q1
  refine ⟨c3, A3, ?_, ?_, g3, g4⟩
  · unfold b_T_unlink_118
    rw [k1, Option.bind_some, k3, Option.bind_some, g1, Option.bind_some]
  · unfold b_M_unlink_80
    rw [mEr o he.1 (by omega) p2, Option.bind_some, ld_nI q1 (by decide), Option.bind_some]
    show (fb_st (mu (er A (pl A d (16 * t)))) 7 64 (nI i) (mu (er A (pl A d (16 * t))) 7 i - nI 1)).bind _ = _
    rw [mu_7, e7, nSub h7i, st_nI q1 (by decide), Option.bind_some, mu_i _ 7 _ _ (by decide), ld_nI q1 (by decide), Option.bind_some, mu_4, u 4 (by omega) (by omega), if_neg (show ¬ nI (A 4 i) = (1 : Int32) from fun q => hk ((nEq (b := 1) (by have := o.ki i; omega) (by omega)).mp q))]
    unfold b_M_unlink_133
    rw [g2, Option.bind_some]
theorem unD {j : Nat} {c A : fb_N} (hR : RC c A) (hI : IV j A) {d t i : Nat} (he : en A d t) (hi : nu A d (16 * t) = i) (h0 : i ≠ 0) (hk : A 4 i = 1) (hdt : ¬ dt A d (16 * t)) (hbare : ∀ s, 2 ≤ s → s < A 8 i / 16 → nu A i (16 * s) = 0) : ∃ (c2 A2 : fb_N), ((f_D_end (nI i) (nI d) (ka c)).bind fun r14 => b_T_unlink_118 (nI (pl A d (16 * t))) (nI i) r14.2) = some (nI i, ka c2) ∧ b_M_unlink_80 (nI d) (nI (16 * t)) (nI i) (mu A) = some (nI i, mu A2) ∧ RC c2 A2 ∧ IV j A2 := by
  have hI0 := hI
  obtain ⟨o, hB, hD, hE, hL, hJ⟩ := hI
  have h8 := o.sz d
  have hs := he.2.2
  obtain ⟨q1, q2, q3⟩ := hE d t he
  rw [hi] at q1 q2 q3
  have hid : d ≠ i := fun q => hdt (q2 (Or.inl q.symm))
  have hdi : i ≠ d := fun q => hid q.symm
  obtain ⟨q4, q5⟩ := q3 h0 hdi hk hdt
  have hsz := (hD.dS i q1 hk).2
  have hsz2 := (hD.dS i q1 hk).1
  have h10 := hD.2.2.1 i q1
  have he0 : en A i 0 := ⟨q1, hk, by omega⟩
  have he1 : en A i 1 := ⟨q1, hk, by omega⟩
  obtain ⟨p1, p2, p3⟩ := pl_e o hB hD he.1 hs
  obtain ⟨r1, r2, r3⟩ := pl_e o hB hD q1 he0.2.2
  obtain ⟨s1, s2, s3⟩ := pl_e o hB hD q1 he1.2.2
  have hcn := cn_ge o he (by rw [hi]; exact hid)
  rw [hi] at hcn
  have hcd := cn_ge o he1 (by rw [Nat.mul_one, q4]; exact hdi)
  rw [Nat.mul_one, q4] at hcd
  have hLi := hL i q1 (by omega)
  have hd0 : 0 < d := by
    rcases Nat.eq_zero_or_pos d with w | w
    · have := he.2.1
      rw [w, hD.2.1] at this
      omega
    · exact w
  have hLd := hL d he.1 hd0
  have h7i : 1 ≤ A 7 i := by omega
  have h7d : 1 ≤ A 7 d := by omega
  have h7l := o.li i
  have h7m := o.li d
  -- the class
  obtain ⟨c1, k1, k2⟩ := kEr hR r1 r2 r3
  have o1 := oA_er o (pl A i (16 * 0))
  have B1 := BK_er o hB (d := i) (s := 0) q1 (en_v hD he0)
  have pe1 : ∀ x p, pl (er A (pl A i (16 * 0))) x p = pl A x p := fun x p => by unfold pl; rw [er_c A _ (by omega)]
  obtain ⟨c2, k3, k4⟩ := kEr k2 s1 s2 s3
  have o2 := oA_er o1 (pl A i (16 * 1))
  have e7a : er (er A (pl A i (16 * 0))) (pl A i (16 * 1)) 7 = A 7 := by rw [er_c _ _ (by omega), er_c _ _ (by omega)]
  obtain ⟨c3, k5, k6, -⟩ := kLinks k4 o2 (v := A 7 d - 1) he.1 (-1 : Int32) (by rw [e7a]; exact nSub1 h7d) (by omega)
  obtain ⟨c4, k7, k8⟩ := kEr k6 p1 p2 p3
  have o4 := oA_er (oA_7 o2 (i := d) (v := A 7 d - 1) (by omega)) (pl A d (16 * t))
  have e7b : er (up (er (er A (pl A i (16 * 0))) (pl A i (16 * 1))) 7 d (A 7 d - 1)) (pl A d (16 * t)) 7 i = A 7 i := by
    rw [er_c _ _ (by omega), up_n _ (Or.inr hdi), e7a]
  obtain ⟨c5, k9, k10, -⟩ := kLinks k8 o4 (v := A 7 i - 1) q1 (-1 : Int32) (by rw [e7b]; exact nSub1 h7i) (by omega)
  -- the reference
  have oe := oA_er o (pl A d (16 * t))
  have f7 : er A (pl A d (16 * t)) 7 = A 7 := er_c A _ (by omega)
  have ox2 := oA_7 oe (i := i) (v := A 7 i - 1) (by omega)
  have pe2 : ∀ x p, pl (up (er A (pl A d (16 * t))) 7 i (A 7 i - 1)) x p = pl A x p := fun x p => by unfold pl; rw [up_c _ (by omega), er_c A _ (by omega)]
  have ox3 := oA_er ox2 (pl A i (16 * 0))
  have pe3 : ∀ x p, pl (er (up (er A (pl A d (16 * t))) 7 i (A 7 i - 1)) (pl A i (16 * 0))) x p = pl A x p := fun x p => by unfold pl; rw [er_c _ _ (by omega), up_c _ (by omega), er_c A _ (by omega)]
  have hZeq : up (er (er (up (er A (pl A d (16 * t))) 7 i (A 7 i - 1)) (pl A i (16 * 0))) (pl A i (16 * 1))) 7 d (A 7 d - 1) = up (er (up (er (er A (pl A i (16 * 0))) (pl A i (16 * 1))) 7 d (A 7 d - 1)) (pl A d (16 * t))) 7 i (A 7 i - 1) := by
    funext a b
    by_cases h7 : a = 7
    · subst h7
      by_cases e1 : b = d
      · subst e1
        rw [up_s, up_n _ (Or.inr hid), er_c _ _ (by omega), up_s]
      · rw [up_n _ (Or.inr e1), er_c _ _ (by omega), er_c _ _ (by omega)]
        by_cases e2 : b = i
        · subst e2
          rw [up_s, up_s]
        · rw [up_n _ (Or.inr e2), up_n _ (Or.inr e2), er_c _ _ (by omega), er_c _ _ (by omega), up_n _ (Or.inr e1), e7a]
    · rw [up_c _ h7, up_c _ h7]
      by_cases h2 : a = 2
      · subst h2
        rw [er_2, er_2, up_c _ (by omega), er_2, er_2, up_c _ (by omega), er_2, er_2]
        by_cases z1 : pl A i (16 * 1) ≤ b ∧ b < pl A i (16 * 1) + 16
        · rw [if_pos z1, if_pos z1]
          split <;> rfl
        · rw [if_neg z1, if_neg z1]
          by_cases z2 : pl A i (16 * 0) ≤ b ∧ b < pl A i (16 * 0) + 16
          · rw [if_pos z2, if_pos z2]
            split <;> rfl
          · rw [if_neg z2, if_neg z2]
      · rw [er_c _ _ h2, er_c _ _ h2, up_c _ h7, er_c _ _ h2, er_c _ _ h2, up_c _ h7, er_c _ _ h2, er_c _ _ h2]
  generalize hZ : up (er (up (er (er A (pl A i (16 * 0))) (pl A i (16 * 1))) 7 d (A 7 d - 1)) (pl A d (16 * t))) 7 i (A 7 i - 1) = Z at hZeq k10
  have u : ∀ k, k ≠ 2 → k ≠ 7 → Z k = A k := fun k h2 h7 => by rw [← hZ, up_c _ h7, er_c _ _ h2, up_c _ h7, er_c _ _ h2, er_c _ _ h2]
  have u2 : Z 2 = er (up (er (er A (pl A i (16 * 0))) (pl A i (16 * 1))) 7 d (A 7 d - 1)) (pl A d (16 * t)) 2 := by rw [← hZ]; exact up_c _ (by omega)
  have u7 : ∀ x, Z 7 x = if x = i then A 7 i - 1 else if x = d then A 7 d - 1 else A 7 x := by
    intro x
    rw [← hZ]
    by_cases e : x = i
    · rw [if_pos e, e, up_s]
    · rw [if_neg e, up_n _ (Or.inr e), er_c _ _ (by omega)]
      by_cases e2 : x = d
      · rw [if_pos e2, e2, up_s]
      · rw [if_neg e2, up_n _ (Or.inr e2), e7a]
  have hby : ∀ x s r, en A x s → r < 16 → Z 2 (pl A x (16 * s) + r) = if x = d ∧ s = t then 0 else if x = i ∧ s = 1 then 0 else if x = i ∧ s = 0 then 0 else A 2 (pl A x (16 * s) + r) := by
    intro x s r hx hr
    rw [u2, er_e hB hD he hx hr, up_c _ (by omega), er_e hB hD he1 hx hr, er_e hB hD he0 hx hr]
  have hEE : isE A Z (fun x s => (x = d ∧ s = t) ∨ (x = i ∧ s = 1) ∨ (x = i ∧ s = 0)) := by
    refine ⟨u, fun x s hx hq => ?_, fun x s r hx hq hr => ?_⟩
    · have key : ∀ r, r < 16 → Z 2 (pl A x (16 * s) + r) = 0 := by
        intro r hr
        rw [hby x s r hx hr]
        rcases hq with w | w | w
        · rw [if_pos w]
        · rw [if_pos w]; split <;> rfl
        · rw [if_pos w]; split <;> (try split) <;> rfl
      have epl : pl Z x (16 * s) = pl A x (16 * s) := by
        unfold pl
        rw [u 11 (by omega) (by omega)]
      unfold nu
      have g0 := key 0 (by omega)
      rw [Nat.add_zero] at g0
      rw [epl, g0, key 1 (by omega)]
    · rw [hby x s r hx hr, if_neg (fun w => hq (Or.inl w)), if_neg (fun w => hq (Or.inr (Or.inl w))), if_neg (fun w => hq (Or.inr (Or.inr w)))]
  have hIZ : IV j Z := by
    refine hI0.era hEE ?_ ?_ ?_ ?_ ?_
    · have b2 := BK_er o1 B1 (d := i) (s := 1) q1 (by rw [er_c A _ (by omega)]; exact en_v hD he1)
      rw [pe1] at b2
      have b3 : BK (up (er (er A (pl A i (16 * 0))) (pl A i (16 * 1))) 7 d (A 7 d - 1)) := b2.cg (up_c _ (by omega)) (up_c _ (by omega)) (up_c _ (by omega)) (up_c _ (by omega))
      have b4 := BK_er (oA_7 o2 (i := d) (v := A 7 d - 1) (by omega)) b3 (d := d) (s := t) he.1 (by rw [up_c _ (by omega), er_c _ _ (by omega), er_c _ _ (by omega)]; exact en_v hD he)
      have pe4 : pl (up (er (er A (pl A i (16 * 0))) (pl A i (16 * 1))) 7 d (A 7 d - 1)) d (16 * t) = pl A d (16 * t) := by
        unfold pl
        rw [up_c _ (by omega), er_c _ _ (by omega), er_c _ _ (by omega)]
      rw [pe4] at b4
      rw [← hZ]
      exact b4.cg (up_c _ (by omega)) (up_c _ (by omega)) (up_c _ (by omega)) (up_c _ (by omega))
    · rw [u2]
      exact o4.dk
    · intro x
      rw [u7]
      by_cases e : x = i
      · rw [if_pos e, e]; exact ⟨by omega, fun _ => by omega⟩
      · rw [if_neg e]
        by_cases e2 : x = d
        · rw [if_pos e2, e2]; exact ⟨by omega, fun _ => by have := he.2.1; omega⟩
        · rw [if_neg e2]; exact ⟨Nat.le_refl _, fun q => absurd rfl q⟩
    · intro x s hx hq a1 a2 a3 a4 w
      obtain ⟨w1, w2⟩ := (hE x s hx).2.2 a1 a2 a3 a4
      rcases w with ⟨v1, v2⟩ | ⟨v1, -⟩ | ⟨v1, v2⟩
      · rw [v1] at w1
        have hxi : x = i := by
          rw [← v2, Nat.mul_one, w1] at hi
          exact hi
        rw [hxi] at hq a1 hx
        have hs01 : s ≠ 0 ∧ s ≠ 1 := ⟨fun q => hq (Or.inr (Or.inr ⟨rfl, q⟩)), fun q => hq (Or.inr (Or.inl ⟨rfl, q⟩))⟩
        exact a1 (hbare s (by omega) (by have := hx.2.2; omega))
      · rw [v1, q4] at w1
        subst w1
        have := q5 s hx v1 a4
        exact hq (Or.inl ⟨rfl, this⟩)
      · omega
    · intro x hx hx0
      rw [u7]
      have g := hL x hx hx0
      by_cases e : x = i
      · have := cn_Es o hEE hx0 he (Or.inl ⟨rfl, rfl⟩) (by rw [e]; exact hid) (by rw [e]; exact hi)
        rw [if_pos e]
        rw [e] at this g ⊢
        omega
      · rw [if_neg e]
        by_cases e2 : x = d
        · have := cn_Es o hEE hx0 he1 (Or.inr (Or.inl ⟨rfl, rfl⟩)) (by rw [e2]; exact hdi) (by rw [e2, Nat.mul_one]; exact q4)
          rw [if_pos e2]
          rw [e2] at this g ⊢
          omega
        · have := cn_E hEE hx0
          rw [if_neg e2]
          omega
  obtain ⟨c6, A6, r, g1, g2, g3, g4, -⟩ := freeOne k10 hIZ q1
  refine ⟨c6, A6, ?_, ?_, g3, g4⟩
  · unfold f_D_end
    have z0 : f_I_placeOfByte (nI i) (0 : Int32) (ka c) = some (nI (pl A i (16 * 0)), ka c) := kPlV hR o hB (p := 16 * 0) q1 (en_v hD he0)
    have z1 : f_I_placeOfByte (nI i) (16 : Int32) (ka c1) = some (nI (pl A i (16 * 1)), ka c1) := by
      have := kPlV k2 o1 B1 (d := i) (p := 16 * 1) q1 (by rw [er_c A _ (by omega)]; exact en_v hD he1)
      rw [pe1] at this
      exact this
    rw [z0, Option.bind_some, k1, Option.bind_some, z1, Option.bind_some, k3, Option.bind_some, k5, Option.bind_some, Option.bind_some]
    unfold b_T_unlink_118
    rw [k7, Option.bind_some, k9, Option.bind_some, g1, Option.bind_some]
  · unfold b_M_unlink_80
    rw [mEr o he.1 (by omega) p2, Option.bind_some, ld_nI q1 (by decide), Option.bind_some]
    show (fb_st (mu (er A (pl A d (16 * t)))) 7 64 (nI i) (mu (er A (pl A d (16 * t))) 7 i - nI 1)).bind _ = _
    rw [mu_7, f7, nSub h7i, st_nI q1 (by decide), Option.bind_some, mu_i _ 7 _ _ (by decide), ld_nI q1 (by decide), Option.bind_some, mu_4, up_c _ (show 4 ≠ 7 by omega), er_c A _ (show 4 ≠ 2 by omega), if_pos (show nI (A 4 i) = (1 : Int32) from by rw [hk]; rfl)]
    have m0 : f_M_erase (nI i) (0 : Int32) (mu (up (er A (pl A d (16 * t))) 7 i (A 7 i - 1))) = some (0, mu (er (up (er A (pl A d (16 * t))) 7 i (A 7 i - 1)) (pl A i (16 * 0)))) := by
      have := mEr ox2 (d := i) (p := 16 * 0) q1 (by omega) (by rw [pe2]; exact r2)
      rw [pe2] at this
      exact this
    have m1 : f_M_erase (nI i) (16 : Int32) (mu (er (up (er A (pl A d (16 * t))) 7 i (A 7 i - 1)) (pl A i (16 * 0)))) = some (0, mu (er (er (up (er A (pl A d (16 * t))) 7 i (A 7 i - 1)) (pl A i (16 * 0))) (pl A i (16 * 1)))) := by
      have := mEr ox3 (d := i) (p := 16 * 1) q1 (by omega) (by rw [pe3]; exact s2)
      rw [pe3] at this
      exact this
    rw [m0, Option.bind_some, m1, Option.bind_some, ld_nI he.1 (by decide), Option.bind_some]
    have h77 : er (er (up (er A (pl A d (16 * t))) 7 i (A 7 i - 1)) (pl A i (16 * 0))) (pl A i (16 * 1)) 7 d = A 7 d := by
      rw [er_c _ _ (by omega), er_c _ _ (by omega), up_n _ (Or.inr hid), f7]
    show (fb_st (mu (er (er (up (er A (pl A d (16 * t))) 7 i (A 7 i - 1)) (pl A i (16 * 0))) (pl A i (16 * 1)))) 7 64 (nI d) (mu (er (er (up (er A (pl A d (16 * t))) 7 i (A 7 i - 1)) (pl A i (16 * 0))) (pl A i (16 * 1))) 7 d - nI 1)).bind _ = _
    rw [mu_7, h77, nSub h7d, st_nI he.1 (by decide), Option.bind_some, mu_i _ 7 _ _ (by decide), hZeq]
    unfold b_M_unlink_133
    rw [g2, Option.bind_some]
theorem s_unlink : sm_unlink sim := by
  intro j st mt x hj hs
  obtain ⟨c, A, rfl, rfl, hR, hI⟩ := hs
  have hty := hI.1.ty
  have h6 : c 6 0 = A 15 0 := hR.2.2.2.2.1
  have u15 : ∀ k, k ≠ 15 → up A 15 0 0 k = A k := fun k hk => up_c A hk
  obtain ⟨c2, B2, v, v1, v2, v3, v4, v5, v6, v7, v8⟩ := beforeAll hR hI (ofA_15 A 0) hI.ty0 x (s := 0) (e := A 15 0) (by omega) hty
  obtain ⟨r3, w1, w2⟩ := fb_ob v2
  have hR3 : RC (up c2 6 0 0) B2 := rcOf v4 v7
  have f4 : B2 4 = A 4 := by rw [v7 4 (by omega) (by omega) (by omega), u15 4 (by omega)]
  have hT : f_T_unlink x (ka c) = (if yv v = (-1 : Int32) then some ((-1 : Int32), ka (up c2 6 0 0)) else (f_X_lastIsDots (ka (up c2 6 0 0))).bind fun r5 => (if r5.1 = (0 : Int32) then (f_D_entryNamed_last (yv v) r5.2).bind fun r7 => (if r7.1 = (-1 : Int32) then some ((-1 : Int32), r7.2) else (f_K_partAt r7.1 (65535 : Int32) r7.2).bind fun r9 => (f_I_kindOf r9.1 r9.2).bind fun r10 => (if r10.1 = (1 : Int32) then (f_D_hasOnlyItsTwo r9.1 r10.2).bind fun r12 => (if r12.1 = (0 : Int32) then some ((-1 : Int32), r12.2) else (f_D_end r9.1 (yv v) r12.2).bind fun r14 => b_T_unlink_118 r7.1 r9.1 r14.2) else b_T_unlink_118 r7.1 r9.1 r10.2)) else some ((-1 : Int32), r5.2))) := by
    unfold f_T_unlink
    have w1 : f_X_cutLastName (0 : Int32) (ka c 6 0) (ka c) = some r3 := by
      rw [ka_6, h6]
      exact w1
    have w2 : f_T_lead x (0 : Int32) r3.1 r3.2 = some (yv v, ka c2) := w2
    rw [w1, Option.bind_some, w2, Option.bind_some, kEmpty, Option.bind_some]
  have hM : f_M_unlink x (mu A) = if A 4 v = 1 then (f_M_isDots (mu B2)).bind fun r5 => (if r5.1 = (0 : Int32) then (f_M_entry (nI v) r5.2).bind fun r7 => b_M_unlink_36 (nI v) r7.1 r7.2 else b_M_unlink_27 (nI v) r5.2) else some (-1, mu B2) := by
    unfold f_M_unlink
    rw [mThr hI.1, Option.bind_some, mTaken, Option.bind_some]
    show (f_M_before x (nI 0) (nI (A 15 0)) (mu (up A 15 0 0))).bind _ = _
    rw [v3, Option.bind_some]
    by_cases z : A 4 v = 1
    · have hv0 : v ≠ 0 := fun q => by rw [q, hI.2.2.1.2.1] at z; omega
      rw [if_pos z, if_pos z, if_neg (show ¬ nI v = (0 : Int32) from fun q => hv0 ((nEq (b := 0) (by omega) (by omega)).mp q))]
    · rw [if_neg z, if_neg z, if_pos (show nI 0 = (0 : Int32) from rfl)]
      unfold b_M_unlink_27 b_M_unlink_36 b_M_unlink_51
      rw [if_neg (show ¬ (0 : Int32) ≤ -1 by decide), if_pos rfl]
  have fin : ∀ (P Q : Option (Int32 × fb_S)), P = some (-1, ka (up c2 6 0 0)) → Q = some (-1, mu B2) → ∃ (r : Int32) (st1 mt1 : fb_S), P = some (r, st1) ∧ Q = some (r, mt1) ∧ sim (j + 1) st1 mt1 := fun P Q hP hQ => ⟨-1, _, _, hP, hQ, _, B2, rfl, rfl, hR3, v6.next⟩
  have m27 : ∀ y, b_M_unlink_27 y (mu B2) = some (-1, mu B2) := by
    intro y
    unfold b_M_unlink_27 b_M_unlink_36 b_M_unlink_51
    rw [if_neg (show ¬ (0 : Int32) ≤ -1 by decide), if_pos rfl]
  rw [hT, hM]
  by_cases zv : v = 0
  · have : ¬ A 4 v = 1 := by rw [zv, hI.2.2.1.2.1]; omega
    rw [if_neg this, zv, if_pos yv0]
    exact fin _ _ rfl rfl
  · have hyv2 : ¬ yv v = -1 := by rw [yvn zv]; exact nI_m1 (by omega)
    obtain ⟨i1, i2, -⟩ := v8 zv
    have hn4 : ∀ k, k < 14 → up c2 6 0 0 4 k = B2 13 k := fun k hk => by rw [up_n _ (by omega)]; exact i2 k hk
    have hdd : dtn (up c2 6 0 0 4) ↔ dtn (B2 13) := by
      unfold dtn
      rw [hn4 0 (by omega), hn4 1 (by omega), hn4 2 (by omega)]
    have hent := kEntry_last hR3 v6.1 v6.2.1 v6.2.2.1 (B2 13) hn4 v1
    rw [if_neg hyv2, yvn zv]
    by_cases zk : A 4 v = 1
    · have zk2 : B2 4 v = 1 := by rw [f4]; exact zk
      rw [if_pos zk]
      rcases kDots hR3.w with ⟨d1, d2⟩ | ⟨d1, d2⟩
      · rcases mDots v6.1 with ⟨d3, d4⟩ | ⟨d3, d4⟩
        · rw [d2, Option.bind_some, if_neg n01, d4, Option.bind_some, if_neg n01]
          exact fin _ _ rfl (m27 _)
        · exact absurd (hdd.mp d1) d3
      · rcases mDots v6.1 with ⟨d3, d4⟩ | ⟨d3, d4⟩
        · exact absurd (hdd.mpr d3) d1
        · rw [d2, Option.bind_some, if_pos rfl, d4, Option.bind_some, if_pos rfl, hent, Option.bind_some, mEntry v6.1 v6.2.1 v6.2.2.1 v1 zk2, Option.bind_some]
          cases hfd : fd B2 (B2 13) v with
          | none =>
            rw [if_pos (show an (fun t => pl B2 v (16 * t)) none = -1 from rfl)]
            exact fin _ _ rfl (m27 _)
          | some s =>
            obtain ⟨hen, hmt⟩ := fd_some v6.2.2.1 v1 hfd
            obtain ⟨p1, p2, p3⟩ := pl_e v6.1 v6.2.1 v6.2.2.1 v1 hen.2.2
            have h8 := v6.1.sz v
            have hs8 := hen.2.2
            have hnu := (v6.2.2.2.1 v s hen).1
            have hndt : ¬ dt B2 v (16 * s) := by
              intro q
              apply d3
              unfold dt at q
              unfold dtn
              rw [hmt.2 0 (by omega), hmt.2 1 (by omega), hmt.2 2 (by omega)] at q
              exact q
            have hk4 := v6.1.ki (nu B2 v (16 * s))
            rw [if_neg (show ¬ an (fun t => pl B2 v (16 * t)) (some s) = -1 from nI_m1 (n := pl B2 v (16 * s)) (by omega))]
            have mE : b_M_unlink_36 (nI v) (an (fun t => 16 * t) (some s)) (mu B2) = (if B2 4 (nu B2 v (16 * s)) = 1 then (f_M_isBare (nI (nu B2 v (16 * s))) (mu B2)).bind fun r4 => (if r4.1 = (0 : Int32) then some ((-1 : Int32), r4.2) else b_M_unlink_80 (nI v) (nI (16 * s)) (nI (nu B2 v (16 * s))) r4.2) else b_M_unlink_80 (nI v) (nI (16 * s)) (nI (nu B2 v (16 * s))) (mu B2)) := by
              show b_M_unlink_36 (nI v) (nI (16 * s)) (mu B2) = _
              unfold b_M_unlink_36
              rw [if_pos (show (0 : Int32) ≤ nI (16 * s) from (nLe (a := 0) (by omega) (by omega)).mpr (by omega)), mNum v6.1 v1 (by omega) (by omega), Option.bind_some]
              unfold b_M_unlink_51
              rw [if_neg (show ¬ nI (nu B2 v (16 * s)) = (0 : Int32) from fun q => hmt.1 ((nEq (b := 0) (by omega) (by omega)).mp q)), ld_nI hnu (by decide), Option.bind_some]
              by_cases z : B2 4 (nu B2 v (16 * s)) = 1
              · rw [if_pos z, if_pos (show mu B2 4 (nu B2 v (16 * s)) = (1 : Int32) from by rw [mu_4, z]; rfl)]
              · rw [if_neg z, if_neg (show ¬ mu B2 4 (nu B2 v (16 * s)) = (1 : Int32) from fun q => z ((nEq (b := 1) (by omega) (by omega)).mp q))]
            have cE : ∀ K : Int32 × fb_S → Option (Int32 × fb_S), ((f_K_partAt (an (fun t => pl B2 v (16 * t)) (some s)) (65535 : Int32) (ka (up c2 6 0 0))).bind K) = K (nI (nu B2 v (16 * s)), ka (up c2 6 0 0)) := by
              intro K
              show ((f_K_partAt (nI (pl B2 v (16 * s))) (65535 : Int32) (ka (up c2 6 0 0))).bind K) = _
              rw [kNumE hR3 v6.1 v6.2.1 v6.2.2.1 v1 hen.2.2, Option.bind_some]
            rw [cE, iKind hR3 v6.1 hnu, Option.bind_some]
            have mE : b_M_unlink_36 (nI v) (an (fun t => 16 * t) (some s), mu B2).1 (an (fun t => 16 * t) (some s), mu B2).2 = _ := mE
            rw [mE]
            by_cases z : B2 4 (nu B2 v (16 * s)) = 1
            · rw [if_pos z, if_pos (show nI (B2 4 (nu B2 v (16 * s))) = (1 : Int32) from by rw [z]; rfl)]
              rcases bareBoth hR3 v6.1 v6.2.1 v6.2.2.1 hnu z with ⟨g1, g2, g3⟩ | ⟨g2, g3⟩
              · obtain ⟨c5, A5, k1, k2, k3, k4⟩ := unD hR3 v6 hen rfl hmt.1 z hndt g1
                rw [g2, Option.bind_some, if_neg n01, g3, Option.bind_some, if_neg n01]
                exact ⟨_, _, _, k1, k2, c5, A5, rfl, rfl, k3, k4.next⟩
              · rw [g2, Option.bind_some, if_pos rfl, g3, Option.bind_some, if_pos rfl]
                exact fin _ _ rfl rfl
            · rw [if_neg z, if_neg (show ¬ nI (B2 4 (nu B2 v (16 * s))) = (1 : Int32) from fun q => z ((nEq (b := 1) (by omega) (by omega)).mp q))]
              obtain ⟨c5, A5, k1, k2, k3, k4⟩ := unF hR3 v6 hen rfl hmt.1 z hndt
              exact ⟨_, _, _, k1, k2, c5, A5, rfl, rfl, k3, k4.next⟩
    · rw [if_neg zk]
      have hfd : fd B2 (B2 13) v = none := by
        unfold fd
        rw [f4, if_neg zk]
      refine fin _ _ ?_ rfl
      rcases kDots hR3.w with ⟨d1, d2⟩ | ⟨d1, d2⟩
      · rw [d2, Option.bind_some, if_neg n01]
      · rw [d2, Option.bind_some, if_pos rfl, hent, Option.bind_some, hfd, if_pos (show an (fun t => pl B2 v (16 * t)) none = -1 from rfl)]

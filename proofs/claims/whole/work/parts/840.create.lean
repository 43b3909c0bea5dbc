/-! create -/
theorem crGo {j : Nat} {c A X : fb_N} (hR : RC c A) (hI : IV j A) {d i e k b : Nat} (hd : d < 64) (hk4 : A 4 d = 1) (hi : i < 64) (hi0 : 0 < i) (h0 : A 4 i = 0) (he : e ≤ 260) (hX : X 0 = A 0) (hinf : inf X A c 0 e) (hj : j < 512) (hk1 : 1 ≤ k) (hk3 : k ≤ 3) (hb : b = if k = 1 then 1 else 0) (x3 x4 : Int32) : ∃ r c2 F, b_T_create_129 (nI k) x3 x4 (nI d) (nI i) (nI b) (ka c) = some (r, ka c2) ∧ b_M_create_129 (nI k) x3 x4 (nI d) (nI i) (nI b) (nI (wt A d)) (mu A) = some (r, mu F) ∧ RC c2 F ∧ IV (j + 1) F := by
  have hm := (hI.2.2.1.dS d hd hk4).1
  have hl := lf_le (A := A)
  have hb1 : b ≤ 1 := by rw [hb]; split <;> omega
  have hwt : wt A d ≤ 1000 := by
    unfold wt
    split
    · omega
    · split
      · omega
      · split
        · omega
        · split
          · split <;> omega
          · omega
  unfold b_T_create_129 b_M_create_129
  rw [if_neg (nI_m1 (by omega)), kRoom hR hI.1 hI.2.1 hI.2.2.1.dm hd hk4 hm hb1, Option.bind_some, mLeft hI.1 hI.2.1.2.2.2.1, Option.bind_some, nI_add]
  by_cases zw : wt A d + b ≤ lf A
  · rw [if_pos zw, if_neg n01, if_pos (show nI (wt A d + b) ≤ nI (lf A) by rw [nLe (by omega) (by omega)]; exact zw), and16, and16, st_nI hi (by decide), Option.bind_some, mu_i _ 4 _ _ (by decide), st_nI hi (by decide), Option.bind_some, mu_i _ 5 _ _ (by decide), st_nI hi (by decide), Option.bind_some, mu_i _ 6 _ _ (by decide)]
    have e1 : fb_st (mu (up (up (up A 4 i k) 5 i (un x3 % 65536)) 6 i (un x4 % 65536))) 7 64 (nI i) (1 : Int32) = some (mu (MK A i k (un x3 % 65536) (un x4 % 65536))) := by
      show fb_st (mu (up (up (up A 4 i k) 5 i (un x3 % 65536)) 6 i (un x4 % 65536))) 7 64 (nI i) (nI 1) = _
      rw [st_nI hi (by decide), mu_i _ 7 _ _ (by decide)]
      rfl
    rw [e1, Option.bind_some]
    by_cases z1 : k = 1
    · subst z1
      rw [if_pos rfl] at hb
      subst hb
      obtain ⟨c2, F, g1, g2, g3, g4⟩ := crD hR hI hd hk4 hi hi0 h0 he hX hinf zw hj x3 x4
      refine ⟨nI i, c2, F, ?_, ?_, g3, g4⟩
      · simp only [show nI 1 = (1 : Int32) from rfl, if_true]
        exact g1
      · rw [if_pos (show nI 1 = (1 : Int32) from rfl)]
        exact g2
    · have hn : ¬ nI k = (1 : Int32) := fun q => z1 ((nEq (b := 1) (by omega) (by omega)).mp q)
      obtain ⟨c2, F, g1, g2, g3, g4⟩ := crF hR hI hd hk4 hi hi0 h0 (k := k) (by omega) hinf.2.1 (by omega) x3 x4
      refine ⟨nI i, c2, F, ?_, ?_, g3, g4.next⟩
      · simp only [hn, if_false]
        exact g1
      · rw [if_neg hn]
        exact g2
  · rw [if_neg zw, if_pos rfl, if_neg (show ¬ nI (wt A d + b) ≤ nI (lf A) by rw [nLe (by omega) (by omega)]; exact zw)]
    exact ⟨-1, c, A, rfl, rfl, hR, hI.next⟩
theorem s_create : sm_create sim := by
  intro j st mt x x2 x3 x4 hj hs
  obtain ⟨c, A, rfl, rfl, hR, hI⟩ := hs
  have hty := hI.1.ty
  have h6 : c 6 0 = A 15 0 := hR.2.2.2.2.1
  have u15 : ∀ k, k ≠ 15 → up A 15 0 0 k = A k := fun k hk => up_c A hk
  obtain ⟨c2, B2, v, v1, v2, v3, v4, v5, v6, v7, v8⟩ := beforeAll hR hI (ofA_15 A 0) hI.ty0 x (s := 0) (e := A 15 0) (by omega) hty
  obtain ⟨r3, w1, w2⟩ := fb_ob v2
  have hR3 : RC (up c2 6 0 0) B2 := rcOf v4 v7
  have f4 : B2 4 = A 4 := by rw [v7 4 (by omega) (by omega) (by omega), u15 4 (by omega)]
  have f0 : B2 0 = A 0 := by rw [v7 0 (by omega) (by omega) (by omega), u15 0 (by omega)]
  have hT : f_T_create x x2 x3 x4 (ka c) = (if yv v = (-1 : Int32) then some ((-1 : Int32), ka (up c2 6 0 0)) else (if x2 < (1 : Int32) then some ((-1 : Int32), ka (up c2 6 0 0)) else (if x2 ≤ (3 : Int32) then (f_D_entryNamed_last (yv v) (ka (up c2 6 0 0))).bind fun r7 => (if r7.1 = (-1 : Int32) then (f_I_leastFree r7.2).bind fun r9 => (if x2 = (1 : Int32) then b_T_create_129 x2 x3 x4 (yv v) r9.1 (1 : Int32) r9.2 else b_T_create_129 x2 x3 x4 (yv v) r9.1 (0 : Int32) r9.2) else (f_K_partAt r7.1 (65535 : Int32) r7.2).bind fun r11 => (if x2 = (2 : Int32) then (f_I_kindOf r11.1 r11.2).bind fun r13 => (if r13.1 = (1 : Int32) then some ((-1 : Int32), r13.2) else some (r11.1, r13.2)) else some ((-1 : Int32), r11.2))) else some ((-1 : Int32), ka (up c2 6 0 0))))) := by
    unfold f_T_create
    have w1 : f_X_cutLastName (0 : Int32) (ka c 6 0) (ka c) = some r3 := by
      rw [ka_6, h6]
      exact w1
    have w2 : f_T_lead x (0 : Int32) r3.1 r3.2 = some (yv v, ka c2) := w2
    rw [w1, Option.bind_some, w2, Option.bind_some, kEmpty, Option.bind_some]
  have hM : f_M_create x x2 x3 x4 (mu A) = if A 4 v = 1 then (if x2 < (1 : Int32) then some ((-1 : Int32), mu B2) else (if x2 ≤ (3 : Int32) then (f_M_entry (nI v) (mu B2)).bind fun r7 => (if r7.1 < (0 : Int32) then l_M_create_83 fb_n x2 x3 x4 (nI v) (1 : Int32) r7.2 else (f_M_numberAt (nI v) r7.1 r7.2).bind fun r9 => (if x2 = (2 : Int32) then (fb_ld (r9.2 4) 64 r9.1).bind fun v11 => (if v11 ≤ (1 : Int32) then some ((-1 : Int32), r9.2) else some (r9.1, r9.2)) else some ((-1 : Int32), r9.2))) else some ((-1 : Int32), mu B2))) else some (-1, mu B2) := by
    unfold f_M_create
    rw [mThr hI.1, Option.bind_some, mTaken, Option.bind_some]
    show (f_M_before x (nI 0) (nI (A 15 0)) (mu (up A 15 0 0))).bind _ = _
    rw [v3, Option.bind_some]
    by_cases z : A 4 v = 1
    · have hv0 : v ≠ 0 := fun q => by rw [q, hI.2.2.1.2.1] at z; omega
      rw [if_pos z, if_pos z, if_neg (show ¬ nI v = (0 : Int32) from fun q => hv0 ((nEq (b := 0) (by omega) (by omega)).mp q))]
    · rw [if_neg z, if_neg z, if_pos (show nI 0 = (0 : Int32) from rfl)]
  have fin : ∀ (P Q : Option (Int32 × fb_S)), P = some (-1, ka (up c2 6 0 0)) → Q = some (-1, mu B2) → ∃ (r : Int32) (st1 mt1 : fb_S), P = some (r, st1) ∧ Q = some (r, mt1) ∧ sim (j + 1) st1 mt1 := fun P Q hP hQ => ⟨-1, _, _, hP, hQ, _, B2, rfl, rfl, hR3, v6.next⟩
  rw [hT, hM]
  by_cases zv : v = 0
  · have : ¬ A 4 v = 1 := by rw [zv, hI.2.2.1.2.1]; omega
    rw [if_neg this, zv, if_pos yv0]
    exact fin _ _ rfl rfl
  · have hyv2 : ¬ yv v = -1 := by rw [yvn zv]; exact nI_m1 (by omega)
    have hinf := v8 zv
    obtain ⟨i1, i2, i3⟩ := id hinf
    have hn4 : ∀ k, k < 14 → up c2 6 0 0 4 k = B2 13 k := fun k hk => by rw [up_n _ (by omega)]; exact i2 k hk
    have hinf3 : inf A B2 (up c2 6 0 0) 0 (A 15 0) := ⟨i1, hn4, i3⟩
    have hent := kEntry_last hR3 v6.1 v6.2.1 v6.2.2.1 (B2 13) hn4 v1
    rw [if_neg hyv2, yvn zv]
    by_cases z1 : x2 < (1 : Int32)
    · rw [if_pos z1, if_pos z1]
      exact fin _ _ rfl (by split <;> rfl)
    · rw [if_neg z1, if_neg z1]
      by_cases z3 : x2 ≤ (3 : Int32)
      · rw [if_pos z3, if_pos z3]
        obtain ⟨k, hk1, hk3, rfl⟩ : ∃ k : Nat, 1 ≤ k ∧ k ≤ 3 ∧ x2 = nI k := by
          rcases ix x2 (n := 4) (by omega) with w | w | ⟨k, w, rfl⟩
          · exact absurd (Int32.lt_trans w (by decide)) z1
          · exact absurd (Int32.le_trans w.2 z3) (by decide)
          · refine ⟨k, ?_, by omega, rfl⟩
            rcases Nat.eq_zero_or_pos k with q | q
            · rw [q] at z1
              exact absurd (by decide) z1
            · exact q
        obtain ⟨u, u1, u2, u3, u4, u5⟩ := leastBoth hR3 v6.1 (nI k) x3 x4 (nI v) fb_n 1 (by omega) (by unfold fb_n; omega)
        have u4 : f_I_leastFree (ka (up c2 6 0 0)) = some (if u = 64 then -1 else nI u, ka (up c2 6 0 0)) := u4
        have u5 : l_M_create_83 fb_n (nI k) x3 x4 (nI v) (1 : Int32) (mu B2) = b_M_create_106 (nI k) x3 x4 (nI v) (nI u) (mu B2) := u5
        rw [hent, Option.bind_some]
        have ek : ∀ {a : Nat}, a < 4 → (nI k = nI a ↔ k = a) := fun {a} ha => nEq (by omega) (by omega)
        by_cases zk : A 4 v = 1
        · have zk2 : B2 4 v = 1 := by rw [f4]; exact zk
          rw [if_pos zk, mEntry v6.1 v6.2.1 v6.2.2.1 v1 zk2, Option.bind_some]
          cases hfd : fd B2 (B2 13) v with
          | some s =>
            obtain ⟨hen, hmt⟩ := fd_some v6.2.2.1 v1 hfd
            obtain ⟨p1, p2, p3⟩ := pl_e v6.1 v6.2.1 v6.2.2.1 v1 hen.2.2
            have h8 := v6.1.sz v
            have hs8 := hen.2.2
            have hnu := (v6.2.2.2.1 v s hen).1
            have hus := nu_use v6 hen hmt.1
            have hk4 := v6.1.ki (nu B2 v (16 * s))
            rw [if_neg (show ¬ an (fun t => pl B2 v (16 * t)) (some s) = -1 from nI_m1 (n := pl B2 v (16 * s)) (by omega)), if_neg (show ¬ an (fun t => 16 * t) (some s) < (0 : Int32) from nn0 (n := 16 * s) (by omega))]
            have cE : ∀ K : Int32 × fb_S → Option (Int32 × fb_S), ((f_K_partAt (an (fun t => pl B2 v (16 * t)) (some s)) (65535 : Int32) (ka (up c2 6 0 0))).bind K) = K (nI (nu B2 v (16 * s)), ka (up c2 6 0 0)) := by
              intro K
              show ((f_K_partAt (nI (pl B2 v (16 * s))) (65535 : Int32) (ka (up c2 6 0 0))).bind K) = _
              rw [kNumE hR3 v6.1 v6.2.1 v6.2.2.1 v1 hen.2.2, Option.bind_some]
            have mE : ∀ K : Int32 × fb_S → Option (Int32 × fb_S), ((f_M_numberAt (nI v) (an (fun t => 16 * t) (some s)) (mu B2)).bind K) = K (nI (nu B2 v (16 * s)), mu B2) := by
              intro K
              show ((f_M_numberAt (nI v) (nI (16 * s)) (mu B2)).bind K) = _
              rw [mNum v6.1 v1 (by omega) (by omega), Option.bind_some]
            rw [cE, mE]
            by_cases z2 : k = 2
            · have e2 : nI k = (2 : Int32) := by rw [z2]; rfl
              rw [if_pos e2, if_pos e2, iKind hR3 v6.1 hnu, Option.bind_some, ld_nI hnu (by decide), Option.bind_some]
              by_cases z : B2 4 (nu B2 v (16 * s)) = 1
              · rw [if_pos (show nI (B2 4 (nu B2 v (16 * s))) = (1 : Int32) from by rw [z]; rfl), if_pos (show mu B2 4 (nu B2 v (16 * s)) ≤ (1 : Int32) from by rw [mu_4, z]; decide)]
                exact fin _ _ rfl rfl
              · rw [if_neg (show ¬ nI (B2 4 (nu B2 v (16 * s))) = (1 : Int32) from fun q => z ((nEq (b := 1) (by omega) (by omega)).mp q)), if_neg (show ¬ mu B2 4 (nu B2 v (16 * s)) ≤ (1 : Int32) from by rw [mu_4]; exact fun q => by have := (nLe (b := 1) (by omega) (by omega)).mp q; omega)]
                exact ⟨_, _, _, rfl, rfl, _, B2, rfl, rfl, hR3, v6.next⟩
            · have e2 : ¬ nI k = (2 : Int32) := fun q => z2 ((ek (a := 2) (by omega)).mp q)
              rw [if_neg e2, if_neg e2]
              exact fin _ _ rfl rfl
          | none =>
            rw [if_pos (show an (fun t => pl B2 v (16 * t)) none = -1 from rfl), if_pos (show an (fun t => 16 * t) none < (0 : Int32) from by decide)]
            show ∃ (r : Int32) (st1 mt1 : fb_S), ((f_I_leastFree (ka (up c2 6 0 0))).bind fun r9 => (if nI k = (1 : Int32) then b_T_create_129 (nI k) x3 x4 (nI v) r9.1 (1 : Int32) r9.2 else b_T_create_129 (nI k) x3 x4 (nI v) r9.1 (0 : Int32) r9.2)) = some (r, st1) ∧ l_M_create_83 fb_n (nI k) x3 x4 (nI v) (1 : Int32) (mu B2) = some (r, mt1) ∧ sim (j + 1) st1 mt1
            rw [u4, Option.bind_some, u5]
            unfold b_M_create_106
            by_cases z64 : u = 64
            · rw [if_pos z64, if_pos (show nI u = (64 : Int32) from by rw [z64]; rfl)]
              refine fin _ _ ?_ rfl
              have : ∀ y, b_T_create_129 (nI k) x3 x4 (nI v) (-1 : Int32) y (ka (up c2 6 0 0)) = some (-1, ka (up c2 6 0 0)) := by
                intro y
                unfold b_T_create_129
                rw [if_pos rfl]
              rw [this, this]
              split <;> rfl
            · have hm := (v6.2.2.1.dS v v1 zk2).1
              rw [if_neg z64, if_neg (show ¬ nI u = (64 : Int32) from fun q => z64 ((nEq (b := 64) (by omega) (by omega)).mp q)), mWants v6.1 v6.2.1 v6.2.2.1.dm v1 hm, Option.bind_some]
              have hgo : ∀ b, b = (if k = 1 then 1 else 0) → ∃ r c5 F, b_T_create_129 (nI k) x3 x4 (nI v) (nI u) (nI b) (ka (up c2 6 0 0)) = some (r, ka c5) ∧ b_M_create_129 (nI k) x3 x4 (nI v) (nI u) (nI b) (nI (wt B2 v)) (mu B2) = some (r, mu F) ∧ RC c5 F ∧ IV (j + 1) F := fun b hb => crGo hR3 v6 v1 zk2 (by omega) (by omega) (u3 (by omega)) hty f0.symm hinf3 hj hk1 hk3 hb x3 x4
              by_cases zk1 : k = 1
              · have e2 : nI k = (1 : Int32) := by rw [zk1]; rfl
                rw [if_pos e2, if_pos e2]
                obtain ⟨r, c5, F, g1, g2, g3, g4⟩ := hgo 1 (by rw [if_pos zk1])
                exact ⟨r, _, _, g1, g2, c5, F, rfl, rfl, g3, g4⟩
              · have e2 : ¬ nI k = (1 : Int32) := fun q => zk1 ((ek (a := 1) (by omega)).mp q)
                rw [if_neg e2, if_neg e2]
                obtain ⟨r, c5, F, g1, g2, g3, g4⟩ := hgo 0 (by rw [if_neg zk1])
                exact ⟨r, _, _, g1, g2, c5, F, rfl, rfl, g3, g4⟩
        · rw [if_neg zk]
          have hfd : fd B2 (B2 13) v = none := by
            unfold fd
            rw [f4, if_neg zk]
          refine fin _ _ ?_ rfl
          rw [hfd, if_pos (show an (fun t => pl B2 v (16 * t)) none = -1 from rfl)]
          show ((f_I_leastFree (ka (up c2 6 0 0))).bind fun r9 => (if nI k = (1 : Int32) then b_T_create_129 (nI k) x3 x4 (nI v) r9.1 (1 : Int32) r9.2 else b_T_create_129 (nI k) x3 x4 (nI v) r9.1 (0 : Int32) r9.2)) = _
          rw [u4, Option.bind_some]
          have : ∀ z y, b_T_create_129 (nI k) x3 x4 (nI v) z y (ka (up c2 6 0 0)) = some (-1, ka (up c2 6 0 0)) := by
            intro z y
            unfold b_T_create_129
            rw [kRoomN hR3 v6.1 v1 (by rw [f4]; exact zk), Option.bind_some, if_pos rfl]
            split <;> rfl
          rw [this, this]
          split <;> rfl
      · rw [if_neg z3, if_neg z3]
        exact fin _ _ rfl (by split <;> rfl)

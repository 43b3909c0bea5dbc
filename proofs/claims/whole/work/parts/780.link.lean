/-! link -/
theorem kBlankL {c : fb_N} (h : cw c) {e : Nat} (he : e ≤ 260) (h6 : c 6 0 = e) : ∀ n k, k ≤ e → e - k < n → (∃ b, k ≤ b ∧ b < e ∧ c 2 b = 32 ∧ (∀ z, k ≤ z → z < b → c 2 z ≠ 32) ∧ l_X_firstBlank_2 n (nI k) (ka c) = some (nI b, ka c)) ∨ ((∀ z, k ≤ z → z < e → c 2 z ≠ 32) ∧ l_X_firstBlank_2 n (nI k) (ka c) = some (-1, ka c)) := by
  intro n
  induction n with
  | zero => intro k _ h; omega
  | succ n ih =>
    intro k hk hn
    have e0 : l_X_firstBlank_2 (n + 1) (nI k) (ka c) = b_X_firstBlank_2 (l_X_firstBlank_2 n) (nI k) (ka c) := rfl
    rw [e0]
    unfold b_X_firstBlank_2
    rw [ka_6, h6]
    by_cases z : e ≤ k
    · rw [if_pos (by rw [nLe (by omega) (by omega)]; exact z)]
      exact Or.inr ⟨fun z _ _ => by omega, rfl⟩
    · have b1 := h 2 k (by decide) (by decide)
      rw [if_neg (by rw [nLe (by omega) (by omega)]; exact z), kByte h (by omega), Option.bind_some]
      by_cases z2 : c 2 k = 32
      · rw [if_pos (show nI (c 2 k) = (32 : Int32) from by rw [z2]; rfl)]
        exact Or.inl ⟨k, Nat.le_refl _, by omega, z2, fun z _ _ => by omega, rfl⟩
      · rw [if_neg (show ¬ nI (c 2 k) = (32 : Int32) from fun q => z2 ((nEq (b := 32) (by omega) (by omega)).mp q))]
        have g := ih (k + 1) (by omega) (by omega)
        rw [← nI_add k 1] at g
        rcases g with ⟨b, g1, g2, g3, g4, g5⟩ | ⟨g1, g2⟩
        · refine Or.inl ⟨b, by omega, g2, g3, fun q q1 q2 => ?_, g5⟩
          by_cases w : q = k
          · rw [w]; exact z2
          · exact g4 q (by omega) q2
        · refine Or.inr ⟨fun q q1 q2 => ?_, g2⟩
          by_cases w : q = k
          · rw [w]; exact z2
          · exact g1 q (by omega) q2
theorem mLinkL {B : fb_N} (o : oA B) (x : Int32) {e b : Nat} (he : e ≤ 260) (hbe : b ≤ e) (hb : b = e ∨ B 0 b = 32) (hn : ∀ z, z < b → B 0 z ≠ 32) : ∀ n k, k ≤ b → e - k < n → l_M_link_12 n x (nI e) (nI k) (mu B) = b_M_link_34 x (nI e) (nI b) (mu B) := by
  intro n
  induction n with
  | zero => intro k _ h; omega
  | succ n ih =>
    intro k hk hk2
    show b_M_link_12 (l_M_link_12 n) x (nI e) (nI k) (mu B) = _
    unfold b_M_link_12
    by_cases z : e ≤ k
    · rw [if_pos (by rw [nLe (by omega) (by omega)]; exact z), show k = b by omega]
    · rw [if_neg (by rw [nLe (by omega) (by omega)]; exact z), ld_nI (by omega) (by omega), Option.bind_some, mu_0]
      by_cases z2 : k = b
      · have : B 0 k = 32 := by
          rcases hb with w | w
          · omega
          · rw [z2]; exact w
        rw [if_pos (show bs (B 0 k) = (32 : Int32) from (bs_eqI (b := 32) (o.tx k) (by omega)).mpr this), z2]
      · rw [if_neg (show ¬ bs (B 0 k) = (32 : Int32) from fun q => hn k (by omega) ((bs_eqI (b := 32) (o.tx k) (by omega)).mp q))]
        show l_M_link_12 n x (nI e) (nI k + nI 1) (mu B) = _
        rw [nI_add]
        exact ih (k + 1) (by omega) (by omega)
theorem yv0 : yv 0 = -1 := rfl
theorem yvn {y : Nat} (h : y ≠ 0) : yv y = nI y := by unfold yv; rw [if_neg h]
theorem s_link : sm_link sim := by
  intro j st mt x hj hs
  obtain ⟨c, A, rfl, rfl, hR, hI⟩ := hs
  have hty := hI.1.ty
  have h6 : c 6 0 = A 15 0 := hR.2.2.2.2.1
  have eC : c 2 = A 0 := hR.2.2.1
  have u15 : ∀ k, k ≠ 15 → up A 15 0 0 k = A k := fun k hk => up_c A hk
  have hm0 : f_M_link x (mu A) = l_M_link_12 fb_n x (nI (A 15 0)) (nI 0) (mu (up A 15 0 0)) := by
    unfold f_M_link
    rw [mThr hI.1, Option.bind_some, mTaken, Option.bind_some]
    rfl
  rcases kBlankL hR.w hty h6 fb_n 0 (by omega) (by unfold fb_n; omega) with ⟨b, -, b2, b3, b4, b5⟩ | ⟨b1, b2⟩
  · have b5 : f_X_firstBlank (ka c) = some (nI b, ka c) := b5
    have hm1 := mLinkL hI.ty0.1 x (e := A 15 0) (b := b) hty (by omega) (Or.inr (by rw [u15 0 (by omega), ← eC]; exact b3)) (fun z hz => by rw [u15 0 (by omega), ← eC]; exact b4 z (by omega) hz) fb_n 0 (by omega) (by unfold fb_n; omega)
    obtain ⟨c1, B1, y, y1, y2, y3, y4, y5, y6, y7, y8⟩ := leadAll hR hI (ofA_15 A 0) hI.ty0 x (s := 0) (e := b) (by omega) (by omega)
    have hm2 : f_M_link x (mu A) = b_M_link_50 x (nI (A 15 0)) (nI b) (nI y) (mu B1) := by
      rw [hm0, hm1]
      unfold b_M_link_34
      rw [if_neg (by rw [nLe (by omega) (by omega)]; omega)]
      show (f_M_leads x (nI 0) (nI b) (mu (up A 15 0 0))).bind _ = _
      rw [y3, Option.bind_some]
    have hA1 : ofA A B1 := (ofA_15 A 0).tr y7
    obtain ⟨c2, B2, v, v1, v2, v3, v4, v5, v6, v7, v8⟩ := beforeAll y4 hI hA1 y6 x (s := b + 1) (e := A 15 0) (by omega) hty
    obtain ⟨r3, w1, w2⟩ := fb_ob v2
    have hO2 : of3 (up A 15 0 0) B2 := y7.tr v7
    have hR3 : RC (up c2 6 0 0) B2 := rcOf v4 hO2
    have hR31 : RC (up c2 6 0 0) B1 := rcOf v4 y7
    have e4 : B1 4 = A 4 := by rw [y7 4 (by omega) (by omega) (by omega), u15 4 (by omega)]
    have e7 : B1 7 = A 7 := by rw [y7 7 (by omega) (by omega) (by omega), u15 7 (by omega)]
    have f4 : B2 4 = A 4 := by rw [v7 4 (by omega) (by omega) (by omega), e4]
    have f7 : B2 7 = A 7 := by rw [v7 7 (by omega) (by omega) (by omega), e7]
    have hk4 := hI.1.ki y
    have hl7 := (hI.2.2.2.2.2 y).1
    have hT : f_T_link x (ka c) = (if yv y = (-1 : Int32) then some ((-1 : Int32), ka (up c2 6 0 0)) else (if yv v = (-1 : Int32) then some ((-1 : Int32), ka (up c2 6 0 0)) else (f_I_kindOf (yv y) (ka (up c2 6 0 0))).bind fun r8 => (if r8.1 = (1 : Int32) then some ((-1 : Int32), r8.2) else (f_I_linksOf (yv y) r8.2).bind fun r10 => (if r10.1 < (32767 : Int32) then (f_D_entryNamed_last (yv v) r10.2).bind fun r12 => (if r12.1 = (-1 : Int32) then (f_D_hasRoom (yv v) (0 : Int32) r12.2).bind fun r14 => (if r14.1 = (0 : Int32) then some ((-1 : Int32), r14.2) else (f_D_addEntry_last (yv v) (yv y) r14.2).bind fun r16 => (f_I_addLinks (yv y) (1 : Int32) r16.2).bind fun r17 => some (yv y, r17.2)) else some ((-1 : Int32), r12.2)) else some ((-1 : Int32), r10.2))))) := by
      unfold f_T_link
      rw [b5, Option.bind_some]
      have y2 : f_T_lead x (0 : Int32) (nI b) (ka c) = some (yv y, ka c1) := y2
      rw [y2, Option.bind_some]
      have c16 : ka c1 6 0 = nI (A 15 0) := by rw [ka_6, y5 6 (by omega), h6]
      have w1 : f_X_cutLastName (nI b + (1 : Int32)) (ka c1 6 0) (ka c1) = some r3 := by
        rw [c16]
        show f_X_cutLastName (nI b + nI 1) (nI (A 15 0)) (ka c1) = _
        rw [nI_add]
        exact w1
      have w2 : f_T_lead x (nI b + (1 : Int32)) r3.1 r3.2 = some (yv v, ka c2) := by
        show f_T_lead x (nI b + nI 1) r3.1 r3.2 = _
        rw [nI_add]
        exact w2
      rw [w1, Option.bind_some, w2, Option.bind_some, kEmpty, Option.bind_some]
    rw [hT, hm2]
    have fin1 : ∀ (r : Int32) (P : Option (Int32 × fb_S)), P = some (-1, mu B1) → ∃ (r : Int32) (st1 mt1 : fb_S), (some ((-1 : Int32), ka (up c2 6 0 0)) : Option (Int32 × fb_S)) = some (r, st1) ∧ P = some (r, mt1) ∧ sim (j + 1) st1 mt1 := fun r P hP => ⟨-1, _, _, rfl, hP, _, B1, rfl, rfl, hR31, y6.next⟩
    have fin2 : ∀ (P Q : Option (Int32 × fb_S)), P = some (-1, ka (up c2 6 0 0)) → Q = some (-1, mu B2) → ∃ (r : Int32) (st1 mt1 : fb_S), P = some (r, st1) ∧ Q = some (r, mt1) ∧ sim (j + 1) st1 mt1 := fun P Q hP hQ => ⟨-1, _, _, hP, hQ, _, B2, rfl, rfl, hR3, v6.next⟩
    by_cases zy : y = 0
    · rw [zy, if_pos yv0]
      refine fin1 0 _ ?_
      unfold b_M_link_50
      rw [if_pos (show nI 0 = (0 : Int32) from rfl)]
    · have hyv : ¬ yv y = -1 := by rw [yvn zy]; exact nI_m1 (by omega)
      rw [if_neg hyv]
      have hm3 : b_M_link_50 x (nI (A 15 0)) (nI b) (nI y) (mu B1) = if A 4 y = 1 then some (-1, mu B1) else (f_M_before x (nI (b + 1)) (nI (A 15 0)) (mu B1)).bind fun r6 => (if r6.1 = (0 : Int32) then some ((-1 : Int32), r6.2) else (f_M_entry r6.1 r6.2).bind fun r8 => (if (0 : Int32) ≤ r8.1 then some ((-1 : Int32), r8.2) else (f_M_wants r6.1 r8.2).bind fun r10 => (f_M_left r10.2).bind fun r11 => (if r10.1 ≤ r11.1 then (f_M_enter r6.1 (nI y) r11.2).bind fun r13 => (fb_ld (r13.2 7) 64 (nI y)).bind fun v14 => (fb_st r13.2 7 64 (nI y) (v14 + (1 : Int32))).bind fun s15 => some (nI y, s15) else some ((-1 : Int32), r11.2)))) := by
        unfold b_M_link_50
        rw [if_neg (show ¬ nI y = (0 : Int32) from fun q => zy ((nEq (b := 0) (by omega) (by omega)).mp q)), ld_nI y1 (by decide), Option.bind_some, mu_4, e4]
        by_cases z1 : A 4 y = 1
        · rw [if_pos z1, if_pos (show nI (A 4 y) = (1 : Int32) from by rw [z1]; rfl)]
        · rw [if_neg z1, if_neg (show ¬ nI (A 4 y) = (1 : Int32) from fun q => z1 ((nEq (b := 1) (by omega) (by omega)).mp q)), ld_nI y1 (by decide), Option.bind_some, mu_7, e7, if_neg (show ¬ nI (A 7 y) = (32767 : Int32) from fun q => by have := (nEq (b := 32767) (by omega) (by omega)).mp q; omega)]
          show (f_M_before x (nI b + nI 1) (nI (A 15 0)) (mu B1)).bind _ = _
          rw [nI_add]
      rw [hm3]
      have hkk : f_I_kindOf (yv y) (ka (up c2 6 0 0)) = some (nI (A 4 y), ka (up c2 6 0 0)) := by rw [yvn zy, iKind hR3 v6.1 y1, f4]
      by_cases z1 : A 4 y = 1
      · rw [if_pos z1]
        have : (if yv v = (-1 : Int32) then some ((-1 : Int32), ka (up c2 6 0 0)) else (f_I_kindOf (yv y) (ka (up c2 6 0 0))).bind fun r8 => (if r8.1 = (1 : Int32) then some ((-1 : Int32), r8.2) else (f_I_linksOf (yv y) r8.2).bind fun r10 => (if r10.1 < (32767 : Int32) then (f_D_entryNamed_last (yv v) r10.2).bind fun r12 => (if r12.1 = (-1 : Int32) then (f_D_hasRoom (yv v) (0 : Int32) r12.2).bind fun r14 => (if r14.1 = (0 : Int32) then some ((-1 : Int32), r14.2) else (f_D_addEntry_last (yv v) (yv y) r14.2).bind fun r16 => (f_I_addLinks (yv y) (1 : Int32) r16.2).bind fun r17 => some (yv y, r17.2)) else some ((-1 : Int32), r12.2)) else some ((-1 : Int32), r10.2)))) = some ((-1 : Int32), ka (up c2 6 0 0)) := by
          rw [hkk, Option.bind_some, if_pos (show nI (A 4 y) = (1 : Int32) from by rw [z1]; rfl)]
          split <;> rfl
        rw [this]
        exact fin1 0 _ rfl
      · rw [if_neg z1, v3, Option.bind_some]
        by_cases zv : v = 0
        · rw [zv, if_pos yv0]
          refine fin2 _ _ rfl ?_
          rw [if_pos (show nI (if A 4 0 = 1 then 0 else 0) = (0 : Int32) from by split <;> rfl)]
        · have hyv2 : ¬ yv v = -1 := by rw [yvn zv]; exact nI_m1 (by omega)
          have hll : f_I_linksOf (yv y) (ka (up c2 6 0 0)) = some (nI (A 7 y), ka (up c2 6 0 0)) := by rw [yvn zy, iLinks hR3 v6.1 y1, f7]
          rw [if_neg hyv2, hkk, Option.bind_some, if_neg (show ¬ nI (A 4 y) = (1 : Int32) from fun q => z1 ((nEq (b := 1) (by omega) (by omega)).mp q)), hll, Option.bind_some, if_pos (show nI (A 7 y) < (32767 : Int32) from (nLt (b := 32767) (by omega) (by omega)).mpr (by omega)), yvn zv, yvn zy]
          obtain ⟨i1, i2, -⟩ := v8 zv
          have hn4 : ∀ k, k < 14 → up c2 6 0 0 4 k = B2 13 k := fun k hk => by rw [up_n _ (by omega)]; exact i2 k hk
          have hent := kEntry_last hR3 v6.1 v6.2.1 v6.2.2.1 (B2 13) hn4 v1
          rw [hent, Option.bind_some]
          by_cases zk : A 4 v = 1
          · rw [if_pos zk, if_neg (show ¬ nI v = (0 : Int32) from fun q => zv ((nEq (b := 0) (by omega) (by omega)).mp q)), mEntry v6.1 v6.2.1 v6.2.2.1 v1 (by rw [f4]; exact zk), Option.bind_some]
            cases hfd : fd B2 (B2 13) v with
            | some s =>
              have hen := (fd_some v6.2.2.1 v1 hfd).1
              obtain ⟨p1, p2, p3⟩ := pl_e v6.1 v6.2.1 v6.2.2.1 v1 hen.2.2
              have h8 := v6.1.sz v
              have := hen.2.2
              rw [if_neg (show ¬ an (fun t => pl B2 v (16 * t)) (some s) = -1 from nI_m1 (n := pl B2 v (16 * s)) (by omega)), if_pos (show (0 : Int32) ≤ an (fun t => 16 * t) (some s) from (nLe (a := 0) (b := 16 * s) (by omega) (by omega)).mpr (by omega))]
              exact fin2 _ _ rfl rfl
            | none =>
              have hm := (v6.2.2.1.dS v v1 (by rw [f4]; exact zk)).1
              have hroom := kRoom hR3 v6.1 v6.2.1 v6.2.2.1.dm (b := 0) v1 (by rw [f4]; exact zk) hm (by omega)
              have hroom : f_D_hasRoom (nI v) (0 : Int32) (ka (up c2 6 0 0)) = some (if wt B2 v + 0 ≤ lf B2 then 1 else 0, ka (up c2 6 0 0)) := hroom
              have hl := lf_le (A := B2)
              have hwt : wt B2 v ≤ 1000 := by
                unfold wt
                split
                · omega
                · split
                  · omega
                  · split
                    · omega
                    · split
                      · split <;> omega
                      · omega
              rw [if_pos (show an (fun t => pl B2 v (16 * t)) none = -1 from rfl), hroom, Option.bind_some, if_neg (show ¬ (0 : Int32) ≤ an (fun t => 16 * t) none from by decide), mWants v6.1 v6.2.1 v6.2.2.1.dm v1 hm, Option.bind_some, mLeft v6.1 v6.2.1.2.2.2.1, Option.bind_some]
              by_cases zw : wt B2 v + 0 ≤ lf B2
              · rw [if_pos zw, if_neg n01, if_pos (show nI (wt B2 v) ≤ nI (lf B2) by rw [nLe (by omega) (by omega)]; omega)]
                obtain ⟨c4, F, g1, g2, g3, g4, g5⟩ := putLast hR3 v6.1 v6.2.1 v6.2.2.1 v1 (by rw [f4]; exact zk) y1 hn4 (by omega)
                have F7 : F 7 = A 7 := by rw [g4.1 7 (by omega) (by omega) (by omega) (by omega) (by omega), f7]
                obtain ⟨c5, k1, k2, -⟩ := kLinks g3 g4.2.2.1 (v := F 7 y + 1) y1 (1 : Int32) (nI_add (F 7 y) 1) (by rw [F7]; omega)
                have hki : B2 4 y ≠ 0 := by
                  rw [f4]
                  exact y8 zy
                refine ⟨nI y, ka c5, mu (up F 7 y (F 7 y + 1)), ?_, ?_, c5, _, rfl, rfl, k2, ?_⟩
                · rw [g1, Option.bind_some, k1, Option.bind_some]
                · rw [g2, Option.bind_some, ld_nI y1 (by decide), Option.bind_some]
                  show (fb_st (mu F) 7 64 (nI y) (mu F 7 y + nI 1)).bind _ = _
                  rw [mu_7, nI_add, st_nI y1 (by decide), Option.bind_some, mu_i _ 7 _ _ (by decide)]
                · have hEN := v6.2.2.2.1.put g4 v6.2.2.1.dS v6.2.2.1.2.1 v1 (by rw [f4]; exact zk) y1 g5 (fun q => (by rcases q with q | q; exact absurd (by rw [q]; exact zk) z1; exact absurd (by rw [q]; exact hI.1.rt) z1)) (fun _ _ q => absurd (by rw [f4] at q; exact q) z1)
                  have := v6.link g4 v1 (by rw [f4]; exact zk) y1 hki hEN hj
                  rw [show F 7 y = B2 7 y by rw [F7, f7]]
                  exact this
              · rw [if_neg zw, if_pos rfl, if_neg (show ¬ nI (wt B2 v) ≤ nI (lf B2) by rw [nLe (by omega) (by omega)]; omega)]
                exact fin2 _ _ rfl rfl
          · have hfd : fd B2 (B2 13) v = none := by
              unfold fd
              rw [f4, if_neg zk]
            rw [hfd, if_pos (show an (fun t => pl B2 v (16 * t)) none = -1 from rfl), kRoomN hR3 v6.1 v1 (by rw [f4]; exact zk), Option.bind_some, if_pos rfl, if_neg zk, if_pos (show nI 0 = (0 : Int32) from rfl)]
            exact fin2 _ _ rfl rfl
  · have b2 : f_X_firstBlank (ka c) = some (-1, ka c) := b2
    have hm1 := mLinkL hI.ty0.1 x (e := A 15 0) (b := A 15 0) hty (by omega) (Or.inl rfl) (fun z hz => by rw [u15 0 (by omega), ← eC]; exact b1 z (by omega) hz) fb_n 0 (by omega) (by unfold fb_n; omega)
    obtain ⟨c2, B2, v, v1, v2, v3, v4, v5, v6, v7, v8⟩ := beforeAll hR hI (ofA_15 A 0) hI.ty0 x (s := 0) (e := A 15 0) (by omega) hty
    obtain ⟨r3, w1, w2⟩ := fb_ob v2
    refine ⟨-1, ka (up c2 6 0 0), mu (up A 15 0 0), ?_, ?_, _, _, rfl, rfl, rc15 v4 0, hI.ty0.next⟩
    · unfold f_T_link
      rw [b2, Option.bind_some]
      have hl := kLeadN hR hI.1 x (s := 0) (by omega)
      have hl : f_T_lead x (0 : Int32) (-1) (ka c) = some (-1, ka c) := hl
      have w1 : f_X_cutLastName ((-1 : Int32) + (1 : Int32)) (ka c 6 0) (ka c) = some r3 := by
        rw [ka_6, h6]
        exact w1
      have w2 : f_T_lead x ((-1 : Int32) + (1 : Int32)) r3.1 r3.2 = some (yv v, ka c2) := w2
      rw [hl, Option.bind_some, w1, Option.bind_some, w2, Option.bind_some, kEmpty, Option.bind_some, if_pos rfl]
    · rw [hm0, hm1]
      unfold b_M_link_34 b_M_link_50
      rw [if_pos (by rw [nLe (by omega) (by omega)]; omega), if_pos rfl]

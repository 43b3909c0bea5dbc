/-- what is known of a last name that was read -/
def inf (A B c : fb_N) (s e : Nat) : Prop := B 17 0 = e ∧ (∀ i, i < 14 → c 4 i = B 13 i) ∧ pth (A 0) s e ∧ ∃ k r, s ≤ k ∧ k < e ∧ bg (A 0) s k ∧ isNd (A 0) e k r ∧ (∀ z, r ≤ z → z < e → A 0 z = 47) ∧ ∀ i, i < 14 → B 13 i = if i < r - k then A 0 (k + i) else 0
theorem mB76 {A : fb_N} (o : oA A) (hD : DI A) {y : Nat} (hy : y < 64) : b_M_before_76 (nI y) (mu A) = some (nI (if A 4 y = 1 then y else 0), mu A) := by
  have h4 := o.ki y
  unfold b_M_before_76
  by_cases z : y = 0
  · subst z
    rw [if_pos (show nI 0 ≤ (0 : Int32) by decide), if_neg (show ¬ A 4 0 = 1 by rw [hD.2.1]; omega)]
    rfl
  · rw [if_neg (show ¬ nI y ≤ (0 : Int32) from fun q => by have := (nLe (b := 0) (by omega) (by omega)).mp q; omega), ld_nI hy (by decide), Option.bind_some, mu_4]
    by_cases hk : A 4 y = 1
    · rw [if_pos hk, if_pos (show nI (A 4 y) = (1 : Int32) from by rw [hk]; rfl)]
    · rw [if_neg hk, if_neg (show ¬ nI (A 4 y) = (1 : Int32) from fun q => hk ((nEq (b := 1) (by omega) (by omega)).mp q))]
      rfl
theorem beforeAll {j : Nat} {c A B : fb_N} (hR : RC c A) (hI : IV j A) (hA : ofA A B) (hIB : IV j B) (x : Int32) {s e : Nat} (hs : s ≤ e) (he : e ≤ 260) : ∃ (c2 B2 : fb_N) (y : Nat), y < 64 ∧ ((f_X_cutLastName (nI s) (nI e) (ka c)).bind fun r => f_T_lead x (nI s) r.1 r.2) = some (yv y, ka c2) ∧ f_M_before x (nI s) (nI e) (mu B) = some (nI (if A 4 y = 1 then y else 0), mu B2) ∧ RC c2 A ∧ (∀ k, k ≠ 3 → k ≠ 4 → c2 k = c k) ∧ IV j B2 ∧ of3 B B2 ∧ (y ≠ 0 → inf A B2 c2 s e) := by
  have e0 : B 0 = A 0 := hA 0 (by omega) (by omega) (by omega) (by omega)
  have e4 : B 4 = A 4 := hA 4 (by omega) (by omega) (by omega) (by omega)
  have eC : c 2 = A 0 := hR.2.2.1
  have h40 : ¬ A 4 0 = 1 := by rw [hI.2.2.1.2.1]; omega
  have hz : ∀ B2 : fb_N, (some ((0 : Int32), mu B2) : Option (Int32 × fb_S)) = some (nI (if A 4 0 = 1 then 0 else 0), mu B2) := fun B2 => by rw [if_neg h40]; rfl
  have hcut := kCut hR.w hs he
  rw [eC] at hcut
  unfold f_M_before
  rcases mBegin hIB.1 x hs he with ⟨i, hi, rfl, hk, hp, g⟩ | ⟨hn, g⟩
  · rw [e0] at hp
    rw [e4] at hk
    have hi0 : 0 < i := by
      rcases Nat.eq_zero_or_pos i with w | w
      · subst w
        exact absurd hI.2.2.1.2.1 hk
      · exact w
    have hx : 0 < (if s < e ∧ B 0 s = 47 then 1 else i) ∧ (if s < e ∧ B 0 s = 47 then 1 else i) < 64 := by split <;> omega
    have hIG := hIB.bg3 s e
    have eG : BG B s e 0 = A 0 := by rw [BG_c B s e (by omega) (by omega), e0]
    obtain ⟨q, hq⟩ := sk_get (A 0) hs
    obtain ⟨r, hr⟩ := nd_get (A 0) hq.2.1
    have hnm := mNamed (q := q) (r := r) hIG.1 (BG_17 B s e) he (BG_16 B s e) (by rw [eG]; exact hq) (by rw [eG]; exact hr)
    have hON : of3 B (NR (BG B s e) q (r - q)) := (of3_BG B s e).tr (of3_nr _ _ _)
    have hIN := hIG.nrr q (r - q)
    rw [g, Option.bind_some, if_neg (show ¬ nI (if s < e ∧ B 0 s = 47 then 1 else i) ≤ (0 : Int32) from fun q => by have := (nLe (b := 0) (by omega) (by omega)).mp q; omega), hnm, Option.bind_some]
    by_cases z : q < e
    · have hTq : A 0 q ≠ 47 := by
        rcases hq.2.2.2 with w | w
        · omega
        · exact w
      have hbq : bg (A 0) s q := by
        refine ⟨hTq, ?_⟩
        by_cases w : q = s
        · exact Or.inl w
        · exact Or.inr (hq.2.2.1 (q - 1) (by have := hq.1; omega) (by have := hq.1; omega))
      rcases hcut with ⟨w, -⟩ | ⟨-, w, -⟩ | ⟨k, rk, -, k1, k2, k3, k4, k5, k6⟩
      · exact absurd hp w
      · exact absurd hbq (w q hq.1 z)
      · have hqk : q ≤ k := by
          rcases Nat.lt_or_ge k q with w | w
          · exact absurd (hq.2.2.1 k k1 w) k3.1
          · exact w
        have hR4 : RC (va_up c 4 (nc c 4 k (rk - k) 14)) A := rcRow hR (by omega) _ (fun q => nc_lt hR.w (by omega) (by omega) _ _ _ _)
        rw [k6, Option.bind_some]
        rcases kLead hR4 hI.1 (nI i) (s := s) (e := k) k1 (by omega) with ⟨i2, hi2, h2, -, -, g2⟩ | ⟨hno, -⟩
        · have := (nEq (by omega) (by omega)).mp h2
          subst this
          rw [if_pos z, if_neg n01]
          unfold b_M_before_26
          rw [if_neg n01]
          obtain ⟨p, hpp⟩ := sk_get (A 0) hr.2.1
          have hsl := mSlashes hIN.1 (by rw [NR_c _ _ _ (by omega) (by omega)]; exact BG_17 B s e) he (NR_16 _ _ _) (e := e) (q := p) (by rw [NR_c _ _ _ (by omega) (by omega), eG, show q + (r - q) = r by have := hr.1; omega]; exact hpp)
          rw [hsl, Option.bind_some]
          have hO2 : of3 B (up (NR (BG B s e) q (r - q)) 16 0 p) := hON.tr (fun k _ h1 _ => up_c _ h1)
          have hI2 : IV j (up (NR (BG B s e) q (r - q)) 16 0 p) := hIN.off (k := 16) (by omega) (fun q => by omega) (fun q => by omega)
          have hwx : (if s < k ∧ A 0 s = 47 then 1 else i) = (if s < e ∧ B 0 s = 47 then 1 else i) := by
            rw [e0]
            by_cases w : A 0 s = 47
            · have : k ≠ s := fun q => by rw [q] at k3; exact k3.1 w
              rw [if_pos ⟨by omega, w⟩, if_pos ⟨by omega, w⟩]
            · rw [if_neg (fun q => w q.2), if_neg (fun q => w q.2)]
          have g2 : f_T_lead (nI i) (nI s) (nI k) (ka (va_up c 4 (nc c 4 k (rk - k) 14))) = l_T_lead_53 fb_n (nI s) (nI k) (nI (if s < k ∧ A 0 s = 47 then 1 else i)) (nI s) (ka (va_up c 4 (nc c 4 k (rk - k) 14))) := g2
          rw [hwx] at g2
          have eC4 : va_up c 4 (nc c 4 k (rk - k) 14) 2 = A 0 := by rw [va_up_n _ _ _ (by decide), eC]
          have hsk := kSkip hR4.w (s := s) (e := k) (by omega) hx.2 (q - s) (fb_n - (q - s)) s (Nat.le_refl _) (fun z g1 g2 => ⟨by omega, fun w => by rw [eC4] at w; exact w.1 (hq.2.2.1 z g1 (by omega))⟩)
          rw [show fb_n - (q - s) + (q - s) = fb_n by unfold fb_n; omega, show s + (q - s) = q by have := hq.1; omega] at hsk
          rw [hsk] at g2
          obtain ⟨c2, B2, y, y1, y2, y3, y4, y5, y6, y7, y8⟩ := beforeSim (s := s) hI he k2 k3 k4 (e - q) q (fb_n - (q - s)) fb_n _ r p (va_up c 4 (nc c 4 k (rk - k) 14)) (up (NR (BG B s e) q (r - q)) 16 0 p) (Nat.le_refl _) hq.1 z hbq hr hpp (by unfold fb_n; omega) (by unfold fb_n; omega) hx.1 hx.2 hR4 (hA.tr hO2) hI2 (up_s _ _ _ _) (by rw [up_n _ (by omega), NR_c _ _ _ (by omega) (by omega)]; exact BG_17 B s e) (fun i hi => by
            rw [up_n _ (by omega), NR_13]
            unfold nr
            rw [if_pos hi, eG])
          refine ⟨c2, B2, y, y1, ?_, ?_, y4, fun a h3 h4 => (y5 a h3).trans (va_up_n _ _ _ h4), y6, hO2.tr y7, fun hy => ?_⟩
          · show f_T_lead (nI i) (nI s) (nI k) (ka (va_up c 4 (nc c 4 k (rk - k) 14))) = _
            rw [g2, y2]
          · show l_M_before_39 fb_n (nI (if s < e ∧ B 0 s = 47 then 1 else i)) (mu (up (NR (BG B s e) q (r - q)) 16 0 p)) = _
            have e4b : B2 4 = A 4 := by rw [y7 4 (by omega) (by omega) (by omega), hO2 4 (by omega) (by omega) (by omega), e4]
            rw [y3, mB76 y6.1 y6.2.2.1 y1, e4b]
          · obtain ⟨w1, r2, w2, w3⟩ := y8 hy
            have er : r2 = rk := by
              obtain ⟨a1, a2, a3, a4⟩ := w2
              obtain ⟨b1, b2, b3, b4⟩ := k5
              rcases Nat.lt_trichotomy r2 rk with w | w | w
              · exfalso
                rcases a4 with a4 | a4
                · omega
                · exact b3 r2 a1 w a4
              · exact w
              · exfalso
                rcases b4 with b4 | b4
                · omega
                · exact a3 rk b1 w b4
            refine ⟨w1, fun i hi => ?_, hp, k, r2, k1, k2, k3, w2, tailS k1 w2 k4 k3.1, w3⟩
            rw [y5 4 (by omega), va_up_s, w3 i hi, er]
            unfold nc
            rw [if_pos hi, eC]
        · exfalso
          exact hno ⟨⟨i, hi, rfl, hk⟩, ⟨by have := hp.1; omega, fun z g1 g2 => hp.2 z g1 (by omega)⟩⟩
    · rw [if_neg z, if_pos rfl]
      unfold b_M_before_25 b_M_before_26
      rw [if_pos rfl]
      have hno : nB (A 0) s s e := by
        intro w w1 w2 w3
        exact w3.1 (hq.2.2.1 w w1 (by omega))
      rcases hcut with ⟨w, -⟩ | ⟨-, -, w⟩ | ⟨k, rk, -, k1, k2, k3, -⟩
      · exact absurd hp w
      · rw [w, Option.bind_some]
        exact ⟨c, _, 0, by omega, kLeadN hR hI.1 (nI i) (by omega), hz _, hR, fun _ _ _ => rfl, hIN, hON, fun q => absurd rfl q⟩
      · exact absurd k3 (hno k k1 k2)
  · rw [g, Option.bind_some, if_pos (show (0 : Int32) ≤ 0 by decide)]
    unfold b_M_before_25 b_M_before_26
    rw [if_pos rfl]
    have hn2 : ¬ ok A x s e := by
      intro q
      apply hn
      unfold ok at q ⊢
      rw [e0, e4]
      exact q
    rcases hcut with ⟨-, w⟩ | ⟨-, -, w⟩ | ⟨k, rk, k0, k1, k2, k3, k4, k5, k6⟩
    · rw [w, Option.bind_some]
      exact ⟨c, _, 0, by omega, kLeadN hR hI.1 x (by omega), hz _, hR, fun _ _ _ => rfl, hIB.bg3 s e, of3_BG B s e, fun q => absurd rfl q⟩
    · rw [w, Option.bind_some]
      exact ⟨c, _, 0, by omega, kLeadN hR hI.1 x (by omega), hz _, hR, fun _ _ _ => rfl, hIB.bg3 s e, of3_BG B s e, fun q => absurd rfl q⟩
    · have hR4 : RC (va_up c 4 (nc c 4 k (rk - k) 14)) A := rcRow hR (by omega) _ (fun q => nc_lt hR.w (by omega) (by omega) _ _ _ _)
      rw [k6, Option.bind_some]
      rcases kLead hR4 hI.1 x (s := s) (e := k) k1 (by omega) with ⟨i2, hi2, h2, h3, -, -⟩ | ⟨-, g2⟩
      · exact absurd ⟨⟨i2, hi2, h2, h3⟩, k0⟩ hn2
      · exact ⟨_, _, 0, by omega, g2, hz _, hR4, fun a _ h4 => va_up_n _ _ _ h4, hIB.bg3 s e, of3_BG B s e, fun q => absurd rfl q⟩

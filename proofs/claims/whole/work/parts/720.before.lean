/-! the path before its last name -/
def nB (T : Nat → Nat) (s a e : Nat) : Prop := ∀ z, a ≤ z → z < e → ¬ bg T s z
theorem kCutL {c : fb_N} (h : cw c) {s e : Nat} (he : e ≤ 260) : ∀ n k (w : Option Nat), s ≤ k → k ≤ e → e - k < n → ∃ w2 : Option Nat, l_X_cutLastName_14 n (nI s) (nI e) (an id w) (nI k) (ka c) = b_X_cutLastName_43 (nI e) (an id w2) (ka c) ∧ ((w2 = w ∧ nB (c 2) s k e) ∨ ∃ z, w2 = some z ∧ k ≤ z ∧ z < e ∧ bg (c 2) s z ∧ nB (c 2) s (z + 1) e) := by
  intro n
  induction n with
  | zero => intro k w _ _ h; omega
  | succ n ih =>
    intro k w hs hk hn
    have e0 : l_X_cutLastName_14 (n + 1) (nI s) (nI e) (an id w) (nI k) (ka c) = b_X_cutLastName_14 (l_X_cutLastName_14 n) (nI s) (nI e) (an id w) (nI k) (ka c) := rfl
    rw [e0]
    unfold b_X_cutLastName_14
    by_cases z : e ≤ k
    · rw [if_pos (by rw [nLe (by omega) (by omega)]; exact z)]
      exact ⟨w, rfl, Or.inl ⟨rfl, fun q _ _ => by omega⟩⟩
    · rw [if_neg (by rw [nLe (by omega) (by omega)]; exact z)]
      unfold b_X_cutLastName_36
      by_cases hb : bg (c 2) s k
      · rw [kBg1 h hs (by omega) hb, Option.bind_some, if_neg n01]
        obtain ⟨w2, g1, g2⟩ := ih (k + 1) (some k) (by omega) (by omega) (by omega)
        rw [← nI_add k 1] at g1
        refine ⟨w2, g1, Or.inr ?_⟩
        rcases g2 with ⟨g2, g3⟩ | ⟨q, g2, g3, g4, g5, g6⟩
        · exact ⟨k, g2, Nat.le_refl _, by omega, hb, g3⟩
        · exact ⟨q, g2, by omega, g4, g5, g6⟩
      · rw [kBg0 h hs (by omega) hb, Option.bind_some, if_pos rfl]
        obtain ⟨w2, g1, g2⟩ := ih (k + 1) w (by omega) (by omega) (by omega)
        rw [← nI_add k 1] at g1
        refine ⟨w2, g1, ?_⟩
        rcases g2 with ⟨g2, g3⟩ | ⟨q, g2, g3, g4, g5, g6⟩
        · refine Or.inl ⟨g2, fun q q1 q2 => ?_⟩
          by_cases e2 : q = k
          · rw [e2]; exact hb
          · exact g3 q (by omega) q2
        · exact Or.inr ⟨q, g2, by omega, g4, g5, g6⟩
theorem kCut {c : fb_N} (h : cw c) {s e : Nat} (hs : s ≤ e) (he : e ≤ 260) : (¬ pth (c 2) s e ∧ f_X_cutLastName (nI s) (nI e) (ka c) = some (-1, ka c)) ∨ (pth (c 2) s e ∧ nB (c 2) s s e ∧ f_X_cutLastName (nI s) (nI e) (ka c) = some (-1, ka c)) ∨ ∃ k r, pth (c 2) s e ∧ s ≤ k ∧ k < e ∧ bg (c 2) s k ∧ nB (c 2) s (k + 1) e ∧ isNd (c 2) e k r ∧ f_X_cutLastName (nI s) (nI e) (ka c) = some (nI k, ka (va_up c 4 (nc c 4 k (r - k) 14))) := by
  unfold f_X_cutLastName
  rcases kPath h hs he with ⟨p1, p2⟩ | ⟨p1, p2⟩
  · rw [p2, Option.bind_some, if_neg n01]
    obtain ⟨w2, g1, g2⟩ := kCutL h he fb_n s none (Nat.le_refl _) hs (by unfold fb_n; omega)
    have g1 : l_X_cutLastName_14 fb_n (nI s) (nI e) (-1) (nI s) (ka c) = b_X_cutLastName_43 (nI e) (an id w2) (ka c) := g1
    rw [g1]
    unfold b_X_cutLastName_43
    rcases g2 with ⟨g2, g3⟩ | ⟨k, g2, g3, g4, g5, g6⟩
    · rw [g2, if_pos (show an id none = -1 from rfl)]
      exact Or.inr (Or.inl ⟨p1, g3, rfl⟩)
    · obtain ⟨r, hr⟩ := nd_get (c 2) (show k ≤ e by omega)
      rw [g2, if_neg (show ¬ an id (some k) = -1 from nI_m1 (n := k) (by omega))]
      refine Or.inr (Or.inr ⟨k, r, p1, g3, g4, g5, g6, hr, ?_⟩)
      show ((f_X_copyName_last (nI k) (nI e) (ka c)).bind fun r2 => some (nI k, r2.2)) = _
      rw [kCopy_last h he hr, Option.bind_some]
  · rw [p2, Option.bind_some, if_pos rfl]
    unfold b_X_cutLastName_43
    rw [if_pos rfl]
    exact Or.inl ⟨p1, rfl⟩
theorem kLeadN {c A : fb_N} (h : RC c A) (o : oA A) (x : Int32) {s : Nat} (hs : s < 2147483648) : f_T_lead x (nI s) (-1) (ka c) = some (-1, ka c) := by
  unfold f_T_lead
  rcases kUse h o x with ⟨i, hi, rfl, hk, g⟩ | ⟨g1, g⟩
  · rw [g, Option.bind_some, if_neg n01, kPathN _ hs, Option.bind_some, if_pos rfl]
  · rw [g, Option.bind_some, if_pos rfl]
/-- behind the last name there are slashes -/
theorem tailS {T : Nat → Nat} {s e k r : Nat} (hsk : s ≤ k) (hr : isNd T e k r) (hn : nB T s (k + 1) e) (hT : T k ≠ 47) : ∀ z, r ≤ z → z < e → T z = 47 := by
  obtain ⟨r1, r2, r3, r4⟩ := hr
  obtain ⟨p, p1, p2, p3, p4⟩ := sk_get T r2
  by_cases hp : p = e
  · intro z h1 h2
    exact p3 z h1 (by omega)
  · exfalso
    have h1 : T p ≠ 47 := by
      rcases p4 with w | w
      · exact absurd w hp
      · exact w
    have h2 : T r = 47 := by
      rcases r4 with w | w
      · omega
      · exact w
    have h3 : p ≠ r := fun q => by rw [q] at h1; exact h1 h2
    have h4 : k ≠ r := fun q => by rw [q] at hT; exact hT h2
    exact hn p (by omega) (by omega) ⟨h1, Or.inr (p3 (p - 1) (by omega) (by omega))⟩
theorem beforeSim {j s e cut : Nat} {A : fb_N} (hI : IV j A) (he : e ≤ 260) (hc1 : cut < e) (hc2 : bg (A 0) s cut) (hc3 : nB (A 0) s (cut + 1) e) : ∀ f k n m x r p (c B : fb_N), e - k ≤ f → s ≤ k → k < e → bg (A 0) s k → isNd (A 0) e k r → isSk (A 0) e r p → e - k < n → e - k < m → 0 < x → x < 64 → RC c A → ofA A B → IV j B → B 16 0 = p → B 17 0 = e → (∀ i, i < 14 → B 13 i = if i < r - k then A 0 (k + i) else 0) → ∃ (c2 B2 : fb_N) (y : Nat), y < 64 ∧ l_T_lead_53 n (nI s) (nI cut) (nI x) (nI k) (ka c) = some (yv y, ka c2) ∧ l_M_before_39 m (nI x) (mu B) = b_M_before_76 (nI y) (mu B2) ∧ RC c2 A ∧ (∀ k, k ≠ 3 → c2 k = c k) ∧ IV j B2 ∧ of3 B B2 ∧ (y ≠ 0 → B2 17 0 = e ∧ ∃ r2, isNd (A 0) e cut r2 ∧ ∀ i, i < 14 → B2 13 i = if i < r2 - cut then A 0 (cut + i) else 0) := by
  intro f
  induction f with
  | zero => intro k n m x r p c B hf hs hk; omega
  | succ f ih =>
    intro k n m x r p c B hf hs hk hbg hr hp hn hm h0 hx hR hA hIB b16 b17 hb13
    have hr' := hr
    have hp' := hp
    obtain ⟨r1, r2, r3, r4⟩ := hr
    obtain ⟨p1, p2, p3, p4⟩ := hp
    have eC : c 2 = A 0 := hR.2.2.1
    have eT : B 0 = A 0 := hA 0 (by omega) (by omega) (by omega) (by omega)
    obtain ⟨n, rfl⟩ : ∃ n', n = n' + 1 := ⟨n - 1, by omega⟩
    obtain ⟨m, rfl⟩ : ∃ n', m = n' + 1 := ⟨m - 1, by omega⟩
    have hkr : k < r := by
      rcases Nat.lt_or_ge k r with w | w
      · exact w
      · exfalso
        rcases r4 with w2 | w2
        · omega
        · rw [show r = k by omega] at w2; exact hbg.1 w2
    have mid : ∀ z, k < z → z < p → ¬ bg (A 0) s z := by
      intro z z1 z2 w
      rcases Nat.lt_or_ge z r with w1 | w1
      · rcases w.2 with w2 | w2
        · omega
        · exact r3 (z - 1) (by omega) (by omega) w2
      · exact w.1 (p3 z w1 z2)
    have em : l_M_before_39 (m + 1) (nI x) (mu B) = if e ≤ p then b_M_before_76 (nI x) (mu B) else (f_M_step (nI x) (mu B)).bind fun r3 => (f_M_named r3.2).bind fun r4 => (f_M_slashes r4.2).bind fun r5 => l_M_before_39 m r3.1 r5.2 := by
      show b_M_before_39 (l_M_before_39 m) (nI x) (mu B) = _
      unfold b_M_before_39
      rw [mu_17, mu_16, b16, b17]
      by_cases z : e ≤ p
      · rw [if_pos z, if_pos (by rw [nLe (by omega) (by omega)]; exact z)]
      · rw [if_neg z, if_neg (by rw [nLe (by omega) (by omega)]; exact z), if_neg (show ¬ nI x ≤ (0 : Int32) from fun q => by have := (nLe (b := 0) (by omega) (by omega)).mp q; omega)]
    rw [em]
    by_cases z : e ≤ p
    · have hkc : k = cut := by
        rcases Nat.lt_trichotomy k cut with w | w | w
        · exact absurd hc2 (mid cut w (by omega))
        · exact w
        · exact absurd hbg (hc3 k (by omega) hk)
      rw [if_pos z]
      refine ⟨c, B, x, hx, ?_, rfl, hR, fun _ _ => rfl, hIB, fun _ _ _ _ => rfl, fun _ => ⟨b17, r, by rw [← hkc]; exact hr', by rw [← hkc]; exact hb13⟩⟩
      show b_T_lead_53 (l_T_lead_53 n) (nI s) (nI cut) (nI x) (nI k) (ka c) = _
      unfold b_T_lead_53
      rw [if_pos (by rw [nLe (by omega) (by omega)]; omega)]
      unfold yv
      rw [if_neg (by omega)]
    · rw [if_neg z]
      have hTp : A 0 p ≠ 47 := by
        rcases p4 with w | w
        · omega
        · exact w
      have hTr : A 0 r = 47 := by
        rcases r4 with w | w
        · omega
        · exact w
      have hrp : r < p := by
        rcases Nat.lt_or_ge r p with w | w
        · exact w
        · rw [show p = r by omega] at hTp; exact absurd hTr hTp
      have hbp : bg (A 0) s p := ⟨hTp, Or.inr (p3 (p - 1) (by omega) (by omega))⟩
      have hpc : p ≤ cut := by
        rcases Nat.lt_or_ge cut p with w | w
        · exact absurd hbp (hc3 p (by omega) (by omega))
        · exact w
      obtain ⟨r', hr2⟩ := nd_get (A 0) (show p ≤ e by omega)
      obtain ⟨p', hp2⟩ := sk_get (A 0) hr2.2.1
      have hIN := hIB.nrr p (r' - p)
      have hAN : ofA A (NR B p (r' - p)) := hA.tr (of3_nr _ _ _)
      have skp : isSk (B 0) e p p := ⟨Nat.le_refl _, by omega, fun x _ _ => by omega, Or.inr (by rw [eT]; exact hTp)⟩
      have hnm := mNamed (q := p) (r := r') hIB.1 b17 he b16 skp (by rw [eT]; exact hr2)
      have n16 : NR B p (r' - p) 16 0 = r' := by rw [NR_16]; have := hr2.1; omega
      have n17 : NR B p (r' - p) 17 0 = e := by rw [NR_c B p _ (by omega) (by omega)]; exact b17
      have n0 : NR B p (r' - p) 0 = A 0 := by rw [NR_c B p _ (by omega) (by omega)]; exact eT
      have hsl := mSlashes hIN.1 n17 he n16 (by rw [n0]; exact hp2)
      have hst := mStep hIB.1 hIB.2.1 hIB.2.2.1 hx
      rw [hst, Option.bind_some, hnm, Option.bind_some, hsl, Option.bind_some]
      have hIB2 : IV j (up (NR B p (r' - p)) 16 0 p') := hIN.off (k := 16) (by omega) (fun q => by omega) (fun q => by omega)
      have hO2 : of3 B (up (NR B p (r' - p)) 16 0 p') := (of3_nr B p (r' - p)).tr (fun k _ h1 _ => up_c _ h1)
      have hnd : isNd (c 2) cut k r := by rw [eC]; exact ⟨r1, by omega, r3, Or.inr hTr⟩
      have hcl : l_T_lead_53 (n + 1) (nI s) (nI cut) (nI x) (nI k) (ka c) = (f_D_entryNamed_name (nI x) (ka (va_up c 3 (nc c 3 k (r - k) 14)))).bind fun r6 => (if r6.1 = (-1 : Int32) then b_T_lead_134 (l_T_lead_53 n) (nI s) (nI cut) (nI k) (-1 : Int32) r6.2 else (f_K_partAt r6.1 (65535 : Int32) r6.2).bind fun r8 => b_T_lead_134 (l_T_lead_53 n) (nI s) (nI cut) (nI k) r8.1 r8.2) := by
        show b_T_lead_53 (l_T_lead_53 n) (nI s) (nI cut) (nI x) (nI k) (ka c) = _
        unfold b_T_lead_53
        rw [if_neg (show ¬ nI cut ≤ nI k by rw [nLe (by omega) (by omega)]; omega), if_neg (nI_m1 (by omega)), kBg1 hR.w (by omega) (by omega) (by rw [eC]; exact hbg), Option.bind_some, if_neg n01, kCopy_name hR.w (by omega) hnd, Option.bind_some]
      have hR1 : RC (va_up c 3 (nc c 3 k (r - k) 14)) A := rcRow hR (by omega) _ (fun q => nc_lt hR.w (by omega) (by omega) _ _ _ _)
      have hnn : ∀ i, i < 14 → va_up c 3 (nc c 3 k (r - k) 14) 3 i = B 13 i := by
        intro i hi
        rw [va_up_s, hb13 i hi]
        unfold nc
        rw [if_pos hi, eC]
      have hent := kEntry_name hR1 hI.1 hI.2.1 hI.2.2.1 (B 13) hnn hx
      have hfd : fd B (B 13) x = fd A (B 13) x := fd_cg (hA 2 (by omega) (by omega) (by omega) (by omega)) (hA 4 (by omega) (by omega) (by omega) (by omega)) (hA 8 (by omega) (by omega) (by omega) (by omega)) (hA 11 (by omega) (by omega) (by omega) (by omega)) (fun _ _ => rfl)
      rw [hcl, hent, Option.bind_some]
      unfold go
      rw [hfd]
      cases hc : fd A (B 13) x with
      | none =>
        obtain ⟨n3, hn3⟩ : ∃ n', n = n' + 1 := ⟨n - 1, by omega⟩
        obtain ⟨m3, hm3⟩ : ∃ n', m = n' + 1 := ⟨m - 1, by omega⟩
        refine ⟨_, _, 0, by omega, ?_, ?_, hR1, fun k hk => va_up_n _ _ _ hk, hIB2, hO2, fun q => absurd rfl q⟩
        · rw [if_pos (show an (fun t => pl A x (16 * t)) none = -1 from rfl)]
          unfold b_T_lead_134 b_T_lead_136
          rw [hn3]
          show b_T_lead_53 (l_T_lead_53 n3) (nI s) (nI cut) (-1) (nI k + nI 1) _ = _
          unfold b_T_lead_53
          rw [if_pos (show (-1 : Int32) = -1 from rfl)]
          split <;> rfl
        · rw [hm3]
          show b_M_before_39 (l_M_before_39 m3) (nI 0) (mu (up (NR B p (r' - p)) 16 0 p')) = _
          unfold b_M_before_39
          rw [if_pos (show nI 0 ≤ (0 : Int32) by decide)]
          split <;> rfl
      | some t =>
        obtain ⟨hen, hmt⟩ := fd_some hI.2.2.1 hx hc
        obtain ⟨p1, p2, p3⟩ := pl_e hI.1 hI.2.1 hI.2.2.1 hx hen.2.2
        have hnu := (hI.2.2.2.1 x t hen).1
        have hnu0 := hmt.1
        have enu : nu B x (16 * t) = nu A x (16 * t) := by
          unfold nu pl
          rw [hA 2 (by omega) (by omega) (by omega) (by omega), hA 11 (by omega) (by omega) (by omega) (by omega)]
        rw [if_neg (show ¬ an (fun t => pl A x (16 * t)) (some t) = -1 from nI_m1 (n := pl A x (16 * t)) (by omega))]
        show ∃ (c2 B2 : fb_N) (y : Nat), y < 64 ∧ ((f_K_partAt (nI (pl A x (16 * t))) (65535 : Int32) (ka (va_up c 3 (nc c 3 k (r - k) 14)))).bind fun r8 => b_T_lead_134 (l_T_lead_53 n) (nI s) (nI cut) (nI k) r8.1 r8.2) = _ ∧ l_M_before_39 m (nI (nu B x (16 * t))) _ = _ ∧ _
        rw [kNumE hR1 hI.1 hI.2.1 hI.2.2.1 hx hen.2.2, Option.bind_some, enu]
        unfold b_T_lead_134 b_T_lead_136
        show ∃ (c2 B2 : fb_N) (y : Nat), y < 64 ∧ l_T_lead_53 n (nI s) (nI cut) (nI (nu A x (16 * t))) (nI k + nI 1) (ka (va_up c 3 (nc c 3 k (r - k) 14))) = _ ∧ l_M_before_39 m (nI (nu A x (16 * t))) _ = _ ∧ _
        have eC1 : va_up c 3 (nc c 3 k (r - k) 14) 2 = A 0 := by rw [va_up_n _ _ _ (by decide), eC]
        have hsk2 := kSkip hR1.w (s := s) (e := cut) (by omega) hnu (p - (k + 1)) (n - (p - (k + 1))) (k + 1) (by omega) (fun z g1 g2 => ⟨by omega, by
          rw [eC1]
          exact mid z (by omega) (by omega)⟩)
        rw [show n - (p - (k + 1)) + (p - (k + 1)) = n by omega, show k + 1 + (p - (k + 1)) = p by omega] at hsk2
        rw [nI_add, hsk2]
        have hb2 : ∀ i, i < 14 → up (NR B p (r' - p)) 16 0 p' 13 i = if i < r' - p then A 0 (p + i) else 0 := by
          intro i hi
          rw [up_n _ (by omega), NR_13]
          unfold nr
          rw [if_pos hi, eT]
        obtain ⟨c2, B2, y, y1, y2, y3, y4, y5, y6, y7, y8⟩ := ih p (n - (p - (k + 1))) m (nu A x (16 * t)) r' p' (va_up c 3 (nc c 3 k (r - k) 14)) (up (NR B p (r' - p)) 16 0 p') (by omega) (by omega) (by omega) hbp hr2 hp2 (by omega) (by omega) (by omega) hnu hR1 (hA.tr hO2) hIB2 (up_s _ _ _ _) (by rw [up_n _ (by omega)]; exact n17) hb2
        exact ⟨c2, B2, y, y1, y2, y3, y4, fun k hk => (y5 k hk).trans (va_up_n _ _ _ hk), y6, hO2.tr y7, y8⟩

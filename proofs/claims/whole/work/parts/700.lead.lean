/-! where a path leads -/
def ofA (A B : fb_N) : Prop := ∀ k, k ≠ 13 → k ≠ 15 → k ≠ 16 → k ≠ 17 → B k = A k
def of3 (A B : fb_N) : Prop := ∀ k, k ≠ 13 → k ≠ 16 → k ≠ 17 → B k = A k
theorem of3.tr {A B C : fb_N} (h1 : of3 A B) (h2 : of3 B C) : of3 A C := fun k a b d => (h2 k a b d).trans (h1 k a b d)
theorem ofA.tr {A B C : fb_N} (h1 : ofA A B) (h2 : of3 B C) : ofA A C := fun k a b d e => (h2 k a d e).trans (h1 k a b d e)
theorem IV.ofs {j : Nat} {A B : fb_N} (h : IV j A) (hAB : ofA A B) (h13 : ∀ q, B 13 q < 256) (h15 : B 15 0 ≤ 260) : IV j B := by
  have u : ∀ k, k ≠ 13 → k ≠ 15 → k ≠ 16 → k ≠ 17 → B k = A k := hAB
  have e : ∀ k, k < 13 → B k = A k := fun k hk => u k (by omega) (by omega) (by omega) (by omega)
  refine ⟨?_, h.2.1.cg (e 2 (by omega)) (e 3 (by omega)) (e 10 (by omega)) (e 11 (by omega)), h.2.2.1.cg (e 4 (by omega)) (e 5 (by omega)) (e 6 (by omega)) (e 7 (by omega)) (e 8 (by omega)) (e 9 (by omega)) (e 10 (by omega)), h.2.2.2.1.cg (e 2 (by omega)) (e 4 (by omega)) (e 8 (by omega)) (e 11 (by omega)), h.2.2.2.2.1.cg (e 2 (by omega)) (e 4 (by omega)) (e 7 (by omega)) (e 8 (by omega)) (e 11 (by omega)), fun i2 => by rw [e 7 (by omega), e 9 (by omega)]; exact h.2.2.2.2.2 i2⟩
  obtain ⟨g1, g2, g3, g4, g5, g6, g7, g8, g9, g10, g11, g12, g13⟩ := h.1
  refine ⟨fun k q hk => ?_, by rw [e 4 (by omega)]; exact g2, by rw [e 5 (by omega)]; exact g3, by rw [e 6 (by omega)]; exact g4, by rw [e 7 (by omega)]; exact g5, by rw [e 8 (by omega)]; exact g6, by rw [e 9 (by omega)]; exact g7, by rw [e 10 (by omega)]; exact g8, by rw [e 11 (by omega)]; exact g9, by rw [e 3 (by omega)]; exact g10, by rw [u 14 (by omega) (by omega) (by omega) (by omega)]; exact g11, h15, by rw [e 12 (by omega)]; exact g13⟩
  rcases hk with rfl | rfl | rfl | rfl
  · rw [e 0 (by omega)]; exact g1 0 q (by omega)
  · rw [e 1 (by omega)]; exact g1 1 q (by omega)
  · rw [e 2 (by omega)]; exact g1 2 q (by omega)
  · exact h13 q
theorem IV.nrr {j : Nat} {A : fb_N} (h : IV j A) (q m : Nat) : IV j (NR A q m) := by
  refine h.ofs (fun k a b d e => NR_c A q m a d) (fun x => ?_) (by rw [NR_c A q m (by omega) (by omega)]; exact h.1.ty)
  rw [NR_13]
  unfold nr
  have h1 := h.1.tx (q + x)
  have h2 := h.1.nm x
  split
  · split <;> omega
  · omega
theorem of3_nr (A : fb_N) (q m : Nat) : of3 A (NR A q m) := fun _ a b _ => NR_c A q m a b
theorem rcRow {c A : fb_N} (h : RC c A) {k : Nat} (hk : k = 3 ∨ k = 4) (f : Nat → Nat) (hf : ∀ q, f q < 256) : RC (va_up c k f) A := by
  have u : ∀ j, j ≠ k → va_up c k f j = c j := fun j hj => va_up_n _ _ _ hj
  refine ⟨?_, ?_, ?_, ?_, ?_, ?_⟩
  · rw [u 0 (by omega)]; exact h.1
  · rw [u 1 (by omega)]; exact h.2.1
  · rw [u 2 (by omega)]; exact h.2.2.1
  · rw [u 5 (by omega)]; exact h.2.2.2.1
  · rw [u 6 (by omega)]; exact h.2.2.2.2.1
  · intro j q h1 h2
    by_cases e : j = k
    · rw [e, va_up_s]; exact hf q
    · rw [u j e]; exact h.w j q h1 h2
theorem nc_lt {c : fb_N} (h : cw c) {R : Nat} (hR : R ≠ 1) (hR6 : R ≠ 6) (k m t q : Nat) : nc c R k m t q < 256 := by
  unfold nc
  have h1 := h 2 (k + q) (by decide) (by decide)
  have h2 := h R q hR hR6
  split
  · split <;> omega
  · omega
noncomputable def go (A : fb_N) (nm : Nat → Nat) (d : Nat) : Nat := match fd A nm d with
  | none => 0
  | some s => nu A d (16 * s)
theorem mStep {A : fb_N} (o : oA A) (hB : BK A) (hD : DI A) {d : Nat} (hd : d < 64) : f_M_step (nI d) (mu A) = some (nI (go A (A 13) d), mu A) := by
  have h4 := o.ki d
  unfold f_M_step go
  rw [ld_nI hd (by decide), Option.bind_some, mu_4]
  by_cases hk : A 4 d = 1
  · rw [if_pos (show nI (A 4 d) = (1 : Int32) from by rw [hk]; rfl), mEntry o hB hD hd hk, Option.bind_some]
    cases hf : fd A (A 13) d with
    | none =>
      unfold b_M_step_19
      rw [if_neg (show ¬ (0 : Int32) ≤ an (fun t => 16 * t) none by decide)]
      rfl
    | some s =>
      have he := (fd_some hD hd hf).1
      have h8 := o.sz d
      have hs := he.2.2
      obtain ⟨p1, p2, p3⟩ := pl_e o hB hD hd hs
      unfold b_M_step_19
      show (if (0 : Int32) ≤ nI (16 * s) then (f_M_numberAt (nI d) (nI (16 * s)) (mu A)).bind _ else _) = _
      rw [if_pos (show (0 : Int32) ≤ nI (16 * s) from (nLe (a := 0) (by omega) (by omega)).mpr (by omega)), mNum o hd (by omega) (by omega), Option.bind_some]
  · rw [if_neg (show ¬ nI (A 4 d) = (1 : Int32) from fun q => hk ((nEq (b := 1) (by omega) (by omega)).mp q))]
    have : fd A (A 13) d = none := by unfold fd; rw [if_neg hk]
    rw [this]
    unfold b_M_step_19
    rw [if_neg (show ¬ (0 : Int32) ≤ -1 by decide)]
    rfl
theorem kSkip {c : fb_N} (h : cw c) {s e x : Nat} (he : e ≤ 260) (hx : x < 64) : ∀ t n k, s ≤ k → (∀ z, k ≤ z → z < k + t → z < e ∧ ¬ bg (c 2) s z) → l_T_lead_53 (n + t) (nI s) (nI e) (nI x) (nI k) (ka c) = l_T_lead_53 n (nI s) (nI e) (nI x) (nI (k + t)) (ka c) := by
  intro t
  induction t with
  | zero => intro n k _ _; rfl
  | succ t ih =>
    intro n k hs hz
    obtain ⟨z1, z2⟩ := hz k (Nat.le_refl _) (by omega)
    show b_T_lead_53 (l_T_lead_53 (n + t)) (nI s) (nI e) (nI x) (nI k) (ka c) = _
    unfold b_T_lead_53
    rw [if_neg (by rw [nLe (by omega) (by omega)]; omega), if_neg (nI_m1 (by omega)), kBg0 h hs (by omega) z2, Option.bind_some, if_pos rfl]
    unfold b_T_lead_136
    have := ih n (k + 1) (by omega) (fun z g1 g2 => hz z (by omega) (by omega))
    rw [← nI_add k 1, show k + 1 + t = k + (t + 1) by omega] at this
    exact this
theorem sg_ge (f : Nat → Nat) {t : Nat} : ∀ n, t < n → f t ≤ sg f n := by
  intro n
  induction n with
  | zero => intro h; omega
  | succ n ih =>
    intro h
    show f t ≤ sg f n + f n
    by_cases e : t = n
    · rw [e]; omega
    · have := ih (by omega)
      omega
theorem cn_ge {A : fb_N} (o : oA A) {d s : Nat} (he : en A d s) (hne : d ≠ nu A d (16 * s)) : 1 ≤ cn A (nu A d (16 * s)) := by
  have h8 := o.sz d
  have hs := he.2.2
  unfold cn
  have h1 := sg_ge (fun d2 => sg (fun s2 => cn1 A (nu A d (16 * s)) d2 s2) 17152) 64 he.1
  have h2 := sg_ge (fun s2 => cn1 A (nu A d (16 * s)) d s2) (t := s) 17152 (by omega)
  have h3 : cn1 A (nu A d (16 * s)) d s = 1 := by
    unfold cn1
    rw [if_pos ⟨he, hne, rfl⟩]
  have h2 : cn1 A (nu A d (16 * s)) d s ≤ sg (fun s2 => cn1 A (nu A d (16 * s)) d s2) 17152 := h2
  have h1 : sg (fun s2 => cn1 A (nu A d (16 * s)) d s2) 17152 ≤ sg (fun d2 => sg (fun s2 => cn1 A (nu A d (16 * s)) d2 s2) 17152) 64 := h1
  rw [h3] at h2
  exact Nat.le_trans h2 h1
theorem nu_use {j : Nat} {A : fb_N} (hI : IV j A) {d s : Nat} (he : en A d s) (hn : nu A d (16 * s) ≠ 0) : A 4 (nu A d (16 * s)) ≠ 0 := by
  obtain ⟨o, hB, hD, hE, hL, hJ⟩ := hI
  have h64 := (hE d s he).1
  by_cases e : d = nu A d (16 * s)
  · rw [← e, he.2.1]; omega
  · intro q
    have h1 := cn_ge o he e
    have h2 := hL _ h64 (by omega)
    have h3 := (hD.1 _ h64 q).2.2.1
    omega
def yv (y : Nat) : Int32 := if y = 0 then -1 else nI y
theorem leadSim {j s e : Nat} {A : fb_N} (hI : IV j A) (he : e ≤ 260) : ∀ f k n m x (c B : fb_N), e - k ≤ f → s ≤ k → k ≤ e → e - k < n → e - k < m → 0 < x → x < 64 → A 4 x ≠ 0 → RC c A → ofA A B → IV j B → B 16 0 = k → B 17 0 = e → (k = s ∨ A 0 (k - 1) = 47 ∨ k = e ∨ A 0 k = 47) → ∃ (c2 B2 : fb_N) (y : Nat), y < 64 ∧ l_T_lead_53 n (nI s) (nI e) (nI x) (nI k) (ka c) = some (yv y, ka c2) ∧ l_M_leads_9 m (nI x) (mu B) = some (nI y, mu B2) ∧ RC c2 A ∧ (∀ k, k ≠ 3 → c2 k = c k) ∧ IV j B2 ∧ of3 B B2 ∧ (y ≠ 0 → A 4 y ≠ 0) := by
  intro f
  induction f with
  | zero =>
    intro k n m x c B hf hs hk hn hm h0 hx hu hR hA hIB b16 b17 hb
    have hke : k = e := by omega
    subst hke
    obtain ⟨n, rfl⟩ : ∃ n', n = n' + 1 := ⟨n - 1, by omega⟩
    obtain ⟨m, rfl⟩ : ∃ n', m = n' + 1 := ⟨m - 1, by omega⟩
    have sk : isSk (B 0) k k k := ⟨Nat.le_refl _, Nat.le_refl _, fun x _ _ => by omega, Or.inl rfl⟩
    have nd : isNd (B 0) k k k := ⟨Nat.le_refl _, Nat.le_refl _, fun x _ _ => by omega, Or.inl rfl⟩
    refine ⟨c, NR B k (k - k), x, hx, ?_, ?_, hR, fun _ _ => rfl, hIB.nrr _ _, of3_nr _ _ _, fun _ => hu⟩
    · show b_T_lead_53 (l_T_lead_53 n) (nI s) (nI k) (nI x) (nI k) (ka c) = _
      unfold b_T_lead_53
      rw [if_pos (by rw [nLe (by omega) (by omega)]; omega)]
      unfold yv
      rw [if_neg (by omega)]
    · show b_M_leads_9 (l_M_leads_9 m) (nI x) (mu B) = _
      unfold b_M_leads_9
      rw [if_neg (show ¬ nI x ≤ (0 : Int32) from fun q => by have := (nLe (b := 0) (by omega) (by omega)).mp q; omega), mNamed hIB.1 b17 he b16 sk nd, Option.bind_some, if_neg (show ¬ k < k by omega), if_pos rfl]
  | succ f ih =>
    intro k n m x c B hf hs hk hn hm h0 hx hu hR hA hIB b16 b17 hb
    have eT : B 0 = A 0 := hA 0 (by omega) (by omega) (by omega) (by omega)
    have eC : c 2 = A 0 := hR.2.2.1
    obtain ⟨q, hq⟩ := sk_get (A 0) hk
    obtain ⟨r, hr⟩ := nd_get (A 0) hq.2.1
    obtain ⟨q1, q2, q3, q4⟩ := hq
    obtain ⟨r1, r2, r3, r4⟩ := hr
    obtain ⟨m, rfl⟩ : ∃ n', m = n' + 1 := ⟨m - 1, by omega⟩
    have hnm := mNamed (q := q) (r := r) hIB.1 b17 he b16 (by rw [eT]; exact ⟨q1, q2, q3, q4⟩) (by rw [eT]; exact ⟨r1, r2, r3, r4⟩)
    have hsk := kSkip hR.w (s := s) he hx (q - k) (n - (q - k)) k hs (fun z g1 g2 => ⟨by omega, fun w => by rw [eC] at w; exact w.1 (q3 z g1 (by omega))⟩)
    rw [show n - (q - k) + (q - k) = n by omega, show k + (q - k) = q by omega] at hsk
    rw [hsk]
    obtain ⟨n2, hn2⟩ : ∃ n', n - (q - k) = n' + 1 := ⟨n - (q - k) - 1, by omega⟩
    rw [hn2]
    have em : l_M_leads_9 (m + 1) (nI x) (mu B) = if q < e then (f_M_step (nI x) (mu (NR B q (r - q)))).bind (fun r4 => l_M_leads_9 m r4.1 r4.2) else some (nI x, mu (NR B q (r - q))) := by
      show b_M_leads_9 (l_M_leads_9 m) (nI x) (mu B) = _
      unfold b_M_leads_9
      rw [if_neg (show ¬ nI x ≤ (0 : Int32) from fun q => by have := (nLe (b := 0) (by omega) (by omega)).mp q; omega), hnm, Option.bind_some]
      by_cases z : q < e
      · rw [if_pos z, if_pos z, if_neg n01]
      · rw [if_neg z, if_neg z, if_pos rfl]
    rw [em]
    by_cases z : q < e
    · rw [if_pos z]
      have hT : A 0 q ≠ 47 := by
        rcases q4 with w | w
        · omega
        · exact w
      have hrq : q < r := by
        rcases Nat.lt_or_ge q r with w | w
        · exact w
        · exfalso
          rcases r4 with w2 | w2
          · omega
          · rw [show r = q by omega] at w2; exact hT w2
      have hbg : bg (c 2) s q := by
        rw [eC]
        refine ⟨hT, ?_⟩
        by_cases e1 : k = q
        · rcases hb with w | w | w | w
          · left; omega
          · right; rw [← e1]; exact w
          · omega
          · exfalso; rw [e1] at w; exact hT w
        · right
          exact q3 (q - 1) (by omega) (by omega)
      have hIN := hIB.nrr q (r - q)
      have hAN : ofA A (NR B q (r - q)) := hA.tr (of3_nr _ _ _)
      have hnd : isNd (c 2) e q r := by rw [eC]; exact ⟨r1, r2, r3, r4⟩
      have hcl : l_T_lead_53 (n2 + 1) (nI s) (nI e) (nI x) (nI q) (ka c) = (f_D_entryNamed_name (nI x) (ka (va_up c 3 (nc c 3 q (r - q) 14)))).bind fun r6 => (if r6.1 = (-1 : Int32) then b_T_lead_134 (l_T_lead_53 n2) (nI s) (nI e) (nI q) (-1 : Int32) r6.2 else (f_K_partAt r6.1 (65535 : Int32) r6.2).bind fun r8 => b_T_lead_134 (l_T_lead_53 n2) (nI s) (nI e) (nI q) r8.1 r8.2) := by
        show b_T_lead_53 (l_T_lead_53 n2) (nI s) (nI e) (nI x) (nI q) (ka c) = _
        unfold b_T_lead_53
        rw [if_neg (show ¬ nI e ≤ nI q by rw [nLe (by omega) (by omega)]; omega), if_neg (nI_m1 (by omega)), kBg1 hR.w (by omega) (by omega) hbg, Option.bind_some, if_neg n01, kCopy_name hR.w he hnd, Option.bind_some]
      have hR1 : RC (va_up c 3 (nc c 3 q (r - q) 14)) A := rcRow hR (by omega) _ (fun q => nc_lt hR.w (by omega) (by omega) _ _ _ _)
      have hnn : ∀ i, i < 14 → va_up c 3 (nc c 3 q (r - q) 14) 3 i = NR B q (r - q) 13 i := by
        intro i hi
        rw [va_up_s, NR_13]
        unfold nc nr
        rw [if_pos hi, if_pos hi, eC, eT]
      have hent := kEntry_name hR1 hI.1 hI.2.1 hI.2.2.1 (NR B q (r - q) 13) hnn hx
      have hst := mStep hIN.1 hIN.2.1 hIN.2.2.1 hx
      have hfd : fd (NR B q (r - q)) (NR B q (r - q) 13) x = fd A (NR B q (r - q) 13) x := fd_cg (hAN 2 (by omega) (by omega) (by omega) (by omega)) (hAN 4 (by omega) (by omega) (by omega) (by omega)) (hAN 8 (by omega) (by omega) (by omega) (by omega)) (hAN 11 (by omega) (by omega) (by omega) (by omega)) (fun _ _ => rfl)
      rw [hcl, hent, Option.bind_some, hst, Option.bind_some]
      unfold go
      rw [hfd]
      cases hc : fd A (NR B q (r - q) 13) x with
      | none =>
        obtain ⟨n3, hn3⟩ : ∃ n', n2 = n' + 1 := ⟨n2 - 1, by omega⟩
        obtain ⟨m3, hm3⟩ : ∃ n', m = n' + 1 := ⟨m - 1, by omega⟩
        refine ⟨_, NR B q (r - q), 0, by omega, ?_, ?_, hR1, fun k hk => va_up_n _ _ _ hk, hIN, of3_nr _ _ _, fun q => absurd rfl q⟩
        · rw [if_pos (show an (fun t => pl A x (16 * t)) none = -1 from rfl)]
          unfold b_T_lead_134 b_T_lead_136
          rw [hn3]
          show b_T_lead_53 (l_T_lead_53 n3) (nI s) (nI e) (-1) (nI q + nI 1) _ = _
          unfold b_T_lead_53
          rw [if_pos (show (-1 : Int32) = -1 from rfl)]
          split <;> rfl
        · rw [hm3]
          show b_M_leads_9 (l_M_leads_9 m3) (nI 0) (mu (NR B q (r - q))) = _
          unfold b_M_leads_9
          rw [if_pos (show nI 0 ≤ (0 : Int32) by decide)]
      | some t =>
        obtain ⟨hen, hmt⟩ := fd_some hI.2.2.1 hx hc
        obtain ⟨p1, p2, p3⟩ := pl_e hI.1 hI.2.1 hI.2.2.1 hx hen.2.2
        have hnu := (hI.2.2.2.1 x t hen).1
        have hnu0 := hmt.1
        have enu : nu (NR B q (r - q)) x (16 * t) = nu A x (16 * t) := by
          unfold nu pl
          rw [hAN 2 (by omega) (by omega) (by omega) (by omega), hAN 11 (by omega) (by omega) (by omega) (by omega)]
        rw [if_neg (show ¬ an (fun t => pl A x (16 * t)) (some t) = -1 from nI_m1 (n := pl A x (16 * t)) (by omega))]
        show ∃ (c2 B2 : fb_N) (y : Nat), y < 64 ∧ ((f_K_partAt (nI (pl A x (16 * t))) (65535 : Int32) (ka (va_up c 3 (nc c 3 q (r - q) 14)))).bind fun r8 => b_T_lead_134 (l_T_lead_53 n2) (nI s) (nI e) (nI q) r8.1 r8.2) = _ ∧ l_M_leads_9 m (nI (nu (NR B q (r - q)) x (16 * t))) _ = _ ∧ _
        rw [kNumE hR1 hI.1 hI.2.1 hI.2.2.1 hx hen.2.2, Option.bind_some, enu]
        unfold b_T_lead_134 b_T_lead_136
        show ∃ (c2 B2 : fb_N) (y : Nat), y < 64 ∧ l_T_lead_53 n2 (nI s) (nI e) (nI (nu A x (16 * t))) (nI q + nI 1) (ka (va_up c 3 (nc c 3 q (r - q) 14))) = _ ∧ l_M_leads_9 m (nI (nu A x (16 * t))) _ = _ ∧ _
        have eC1 : va_up c 3 (nc c 3 q (r - q) 14) 2 = A 0 := by rw [va_up_n _ _ _ (by decide), eC]
        have hsk2 := kSkip hR1.w (s := s) he hnu (r - (q + 1)) (n2 - (r - (q + 1))) (q + 1) (by omega) (fun z g1 g2 => ⟨by omega, fun w => by
          rw [eC1] at w
          rcases w.2 with w2 | w2
          · omega
          · exact r3 (z - 1) (by omega) (by omega) w2⟩)
        rw [show n2 - (r - (q + 1)) + (r - (q + 1)) = n2 by omega, show q + 1 + (r - (q + 1)) = r by omega] at hsk2
        rw [nI_add, hsk2]
        obtain ⟨c2, B2, y, y1, y2, y3, y4, y5, y6, y7, y8⟩ := ih r (n2 - (r - (q + 1))) m (nu A x (16 * t)) (va_up c 3 (nc c 3 q (r - q) 14)) (NR B q (r - q)) (by omega) (by omega) r2 (by omega) (by omega) (by omega) hnu (nu_use hI hen hnu0) hR1 hAN hIN (by rw [NR_16]; omega) (by rw [NR_c B q _ (by omega) (by omega)]; exact b17) (by
          rcases r4 with w | w
          · exact Or.inr (Or.inr (Or.inl w))
          · exact Or.inr (Or.inr (Or.inr w)))
        exact ⟨c2, B2, y, y1, y2, y3, y4, fun k hk => (y5 k hk).trans (va_up_n _ _ _ hk), y6, (of3_nr _ _ _).tr y7, y8⟩
    · rw [if_neg z]
      refine ⟨c, NR B q (r - q), x, hx, ?_, rfl, hR, fun _ _ => rfl, hIB.nrr _ _, of3_nr _ _ _, fun _ => hu⟩
      show b_T_lead_53 (l_T_lead_53 n2) (nI s) (nI e) (nI x) (nI q) (ka c) = _
      unfold b_T_lead_53
      rw [if_pos (by rw [nLe (by omega) (by omega)]; omega)]
      unfold yv
      rw [if_neg (by omega)]

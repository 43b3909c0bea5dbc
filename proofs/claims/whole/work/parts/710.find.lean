/-! the beginning of a path; find -/
def BG (B : fb_N) (a b : Nat) : fb_N := up (up B 16 0 a) 17 0 b
theorem BG_c (B : fb_N) (a b : Nat) {j : Nat} (h : j ≠ 16) (h2 : j ≠ 17) : BG B a b j = B j := by
  unfold BG
  rw [up_c _ h2, up_c _ h]
theorem BG_17 (B : fb_N) (a b : Nat) : BG B a b 17 0 = b := up_s _ _ _ _
theorem BG_16 (B : fb_N) (a b : Nat) : BG B a b 16 0 = a := by
  unfold BG
  rw [up_n _ (by omega), up_s]
theorem of3_BG (B : fb_N) (a b : Nat) : of3 B (BG B a b) := fun _ _ h1 h2 => BG_c B a b h1 h2
theorem IV.bg3 {j : Nat} {B : fb_N} (h : IV j B) (a b : Nat) : IV j (BG B a b) :=
  h.ofs (fun k _ _ d e => BG_c B a b d e) (fun q => by rw [BG_c B a b (by omega) (by omega)]; exact h.1.nm q) (by rw [BG_c B a b (by omega) (by omega)]; exact h.1.ty)
theorem mBg0 (B : fb_N) (x : Int32) {a b : Nat} (hb : b ≤ 260) : ∀ n k, k ≤ b → b - k < n → l_M_begin_37 n x (nI a) (nI b) 0 (nI k) (mu B) = some (0, mu B) := by
  intro n
  induction n with
  | zero => intro k _ h; omega
  | succ n ih =>
    intro k hk hn
    show b_M_begin_37 (l_M_begin_37 n) x (nI a) (nI b) 0 (nI k) (mu B) = _
    unfold b_M_begin_37
    by_cases z : b ≤ k
    · rw [if_pos (by rw [nLe (by omega) (by omega)]; exact z), if_pos rfl]
    · rw [if_neg (by rw [nLe (by omega) (by omega)]; exact z), if_pos rfl]
      unfold b_M_begin_64 b_M_begin_65
      show l_M_begin_37 n x (nI a) (nI b) 0 (nI k + nI 1) (mu B) = _
      rw [nI_add]
      exact ih (k + 1) (by omega) (by omega)
theorem mBg1 {B : fb_N} (o : oA B) (x : Nat) {a b : Nat} (hab : a ≤ b) (hb : b ≤ 260) : ∀ n k, k ≤ b → b - k < n → ((∀ q, k ≤ q → q < b → B 0 q ≠ 32) ∧ l_M_begin_37 n (nI x) (nI a) (nI b) 1 (nI k) (mu B) = some (nI (if a < b ∧ B 0 a = 47 then 1 else x), mu B)) ∨ ((¬ ∀ q, k ≤ q → q < b → B 0 q ≠ 32) ∧ l_M_begin_37 n (nI x) (nI a) (nI b) 1 (nI k) (mu B) = some (0, mu B)) := by
  intro n
  induction n with
  | zero => intro k _ h; omega
  | succ n ih =>
    intro k hk hn
    have e0 : l_M_begin_37 (n + 1) (nI x) (nI a) (nI b) 1 (nI k) (mu B) = b_M_begin_37 (l_M_begin_37 n) (nI x) (nI a) (nI b) 1 (nI k) (mu B) := rfl
    rw [e0]
    unfold b_M_begin_37
    by_cases z : b ≤ k
    · rw [if_pos (by rw [nLe (by omega) (by omega)]; exact z), if_neg n01]
      refine Or.inl ⟨fun q _ _ => by omega, ?_⟩
      by_cases z1 : b ≤ a
      · rw [if_pos (by rw [nLe (by omega) (by omega)]; exact z1), if_neg (show ¬ (a < b ∧ B 0 a = 47) by omega)]
      · rw [if_neg (by rw [nLe (by omega) (by omega)]; exact z1), ld_nI (by omega) (by omega), Option.bind_some, mu_0]
        by_cases z2 : B 0 a = 47
        · rw [if_pos (show bs (B 0 a) = (47 : Int32) from (bs_eqI (b := 47) (o.tx a) (by omega)).mpr z2), if_pos ⟨by omega, z2⟩]
          rfl
        · rw [if_neg (show ¬ bs (B 0 a) = (47 : Int32) from fun q => z2 ((bs_eqI (b := 47) (o.tx a) (by omega)).mp q)), if_neg (fun q => z2 q.2)]
    · rw [if_neg (by rw [nLe (by omega) (by omega)]; exact z), if_neg n01, ld_nI (by omega) (by omega), Option.bind_some, mu_0]
      unfold b_M_begin_64 b_M_begin_65
      by_cases z2 : B 0 k = 32
      · rw [if_pos (show bs (B 0 k) = (32 : Int32) from (bs_eqI (b := 32) (o.tx k) (by omega)).mpr z2)]
        refine Or.inr ⟨fun w => w k (Nat.le_refl _) (by omega) z2, ?_⟩
        show l_M_begin_37 n (nI x) (nI a) (nI b) 0 (nI k + nI 1) (mu B) = _
        rw [nI_add]
        exact mBg0 B (nI x) hb n (k + 1) (by omega) (by omega)
      · rw [if_neg (show ¬ bs (B 0 k) = (32 : Int32) from fun q => z2 ((bs_eqI (b := 32) (o.tx k) (by omega)).mp q))]
        have g := ih (k + 1) (by omega) (by omega)
        rw [← nI_add k 1] at g
        rcases g with ⟨g1, g2⟩ | ⟨g1, g2⟩
        · refine Or.inl ⟨fun q w1 w2 => ?_, g2⟩
          by_cases e2 : q = k
          · rw [e2]; exact z2
          · exact g1 q (by omega) w2
        · exact Or.inr ⟨fun w => g1 (fun q w1 w2 => w q (by omega) w2), g2⟩
/-- whether a path from x may be walked -/
def ok (A : fb_N) (x : Int32) (s e : Nat) : Prop := (∃ i, i < 64 ∧ x = nI i ∧ A 4 i ≠ 0) ∧ pth (A 0) s e
theorem mBegin {B : fb_N} (o : oA B) (x : Int32) {a b : Nat} (hab : a ≤ b) (hb : b ≤ 260) : (∃ i, i < 64 ∧ x = nI i ∧ B 4 i ≠ 0 ∧ pth (B 0) a b ∧ f_M_begin x (nI a) (nI b) (mu B) = some (nI (if a < b ∧ B 0 a = 47 then 1 else i), mu (BG B a b))) ∨ (¬ ok B x a b ∧ f_M_begin x (nI a) (nI b) (mu B) = some (0, mu (BG B a b))) := by
  have o2 : oA (BG B a b) := by
    obtain ⟨g1, g2, g3, g4, g5, g6, g7, g8, g9, g10, g11, g12, g13⟩ := o
    exact ⟨fun j x hj => by rw [BG_c B a b (by omega) (by omega)]; exact g1 j x hj, g2, g3, g4, g5, g6, g7, g8, g9, g10, g11, g12, g13⟩
  have e4 : BG B a b 4 = B 4 := BG_c B a b (by omega) (by omega)
  have e0 : BG B a b 0 = B 0 := BG_c B a b (by omega) (by omega)
  have e1 : f_M_begin x (nI a) (nI b) (mu B) = if 128 < b - a then b_M_begin_31 x (nI a) (nI b) (mu (BG B a b)) else (f_M_there x (mu (BG B a b))).bind fun r4 => (if r4.1 = (0 : Int32) then b_M_begin_31 x (nI a) (nI b) r4.2 else b_M_begin_32 x (nI a) (nI b) (1 : Int32) r4.2) := by
    unfold f_M_begin
    rw [mPf B 16 a (by decide), Option.bind_some, mPf _ 17 b (by decide), Option.bind_some, nSub hab]
    by_cases z : 128 < b - a
    · rw [if_pos z, if_pos (show (128 : Int32) < nI (b - a) from (nLt (a := 128) (by omega) (by omega)).mpr z)]
      rfl
    · rw [if_neg z, if_neg (show ¬ (128 : Int32) < nI (b - a) from fun q => z ((nLt (a := 128) (by omega) (by omega)).mp q))]
      rfl
  have e31 : b_M_begin_31 x (nI a) (nI b) (mu (BG B a b)) = some (0, mu (BG B a b)) := by
    unfold b_M_begin_31 b_M_begin_32
    exact mBg0 _ x hb fb_n a hab (by unfold fb_n; omega)
  rw [e1]
  by_cases z : 128 < b - a
  · rw [if_pos z, e31]
    exact Or.inr ⟨fun q => by have := q.2.1; omega, rfl⟩
  · rw [if_neg z]
    rcases ix x (n := 64) (by decide) with hx | ⟨_, hx⟩ | ⟨i, hi, rfl⟩
    · rw [mThN _ (Or.inl hx), Option.bind_some, if_pos rfl, e31]
      refine Or.inr ⟨fun q => ?_, rfl⟩
      obtain ⟨⟨i, h1, h2, -⟩, -⟩ := q
      rw [h2] at hx
      exact nn0 (by omega) hx
    · rw [mThN _ (Or.inr hx), Option.bind_some, if_pos rfl, e31]
      refine Or.inr ⟨fun q => ?_, rfl⟩
      obtain ⟨⟨i, h1, h2, -⟩, -⟩ := q
      rw [h2] at hx
      exact nLe' h1 (by omega) hx
    · rw [mTh _ o2 hi, Option.bind_some, e4]
      by_cases hk : B 4 i = 0
      · rw [if_pos hk, if_pos rfl, e31]
        refine Or.inr ⟨fun q => ?_, rfl⟩
        obtain ⟨⟨i2, h1, h2, h3⟩, -⟩ := q
        have := (nEq (by omega) (by omega)).mp h2
        subst this
        exact h3 hk
      · rw [if_neg hk, if_neg n01]
        unfold b_M_begin_32
        rcases mBg1 o2 i hab hb fb_n a hab (by unfold fb_n; omega) with ⟨g1, g2⟩ | ⟨g1, g2⟩
        · rw [e0] at g1 g2
          exact Or.inl ⟨i, hi, rfl, hk, ⟨by omega, g1⟩, g2⟩
        · rw [e0] at g1
          exact Or.inr ⟨fun q => g1 q.2.2, g2⟩
theorem kUse {c A : fb_N} (h : RC c A) (o : oA A) (x : Int32) : (∃ i, i < 64 ∧ x = nI i ∧ A 4 i ≠ 0 ∧ f_I_inUse x (ka c) = some (1, ka c)) ∨ ((¬ ∃ i, i < 64 ∧ x = nI i ∧ A 4 i ≠ 0) ∧ f_I_inUse x (ka c) = some (0, ka c)) := by
  rcases ix x (n := 64) (by decide) with hx | ⟨_, hx⟩ | ⟨i, hi, rfl⟩
  · refine Or.inr ⟨fun q => ?_, iUseN c (Or.inl hx)⟩
    obtain ⟨i, h1, h2, -⟩ := q
    rw [h2] at hx
    exact nn0 (by omega) hx
  · refine Or.inr ⟨fun q => ?_, iUseN c (Or.inr hx)⟩
    obtain ⟨i, h1, h2, -⟩ := q
    rw [h2] at hx
    exact nLe' h1 (by omega) hx
  · rw [iUse h o hi]
    by_cases hk : A 4 i = 0
    · rw [if_pos hk]
      refine Or.inr ⟨fun q => ?_, rfl⟩
      obtain ⟨i2, h1, h2, h3⟩ := q
      have := (nEq (by omega) (by omega)).mp h2
      subst this
      exact h3 hk
    · rw [if_neg hk]
      exact Or.inl ⟨i, hi, rfl, hk, rfl⟩
/-- the class's beginning -/
theorem kLead {c A : fb_N} (h : RC c A) (o : oA A) (x : Int32) {s e : Nat} (hs : s ≤ e) (he : e ≤ 260) : (∃ i, i < 64 ∧ x = nI i ∧ A 4 i ≠ 0 ∧ pth (A 0) s e ∧ f_T_lead x (nI s) (nI e) (ka c) = l_T_lead_53 fb_n (nI s) (nI e) (nI (if s < e ∧ A 0 s = 47 then 1 else i)) (nI s) (ka c)) ∨ (¬ ok A x s e ∧ f_T_lead x (nI s) (nI e) (ka c) = some (-1, ka c)) := by
  have eC : c 2 = A 0 := h.2.2.1
  unfold f_T_lead
  rcases kUse h o x with ⟨i, hi, rfl, hk, g⟩ | ⟨g1, g⟩
  · rw [g, Option.bind_some, if_neg n01]
    rcases kPath h.w hs he with ⟨p1, p2⟩ | ⟨p1, p2⟩
    · rw [eC] at p1
      rw [p2, Option.bind_some, if_neg n01]
      refine Or.inl ⟨i, hi, rfl, hk, p1, ?_⟩
      unfold b_T_lead_47 b_T_lead_48
      by_cases z : e ≤ s
      · rw [if_pos (by rw [nLe (by omega) (by omega)]; exact z), if_neg (show ¬ (s < e ∧ A 0 s = 47) by omega)]
      · have hb := h.w 2 s (by decide) (by decide)
        rw [if_neg (by rw [nLe (by omega) (by omega)]; exact z), kByte h.w (by omega), Option.bind_some]
        by_cases z2 : A 0 s = 47
        · rw [if_pos (show nI (c 2 s) = (47 : Int32) from by rw [eC, z2]; rfl), if_pos ⟨by omega, z2⟩]
          rfl
        · rw [if_neg (show ¬ nI (c 2 s) = (47 : Int32) from fun q => z2 (by rw [← eC]; exact (nEq (b := 47) (by omega) (by omega)).mp q)), if_neg (fun q => z2 q.2)]
    · rw [eC] at p1
      rw [p2, Option.bind_some, if_pos rfl]
      exact Or.inr ⟨fun q => p1 q.2, rfl⟩
  · rw [g, Option.bind_some, if_pos rfl]
    exact Or.inr ⟨fun q => g1 q.1, rfl⟩
theorem leadAll {j : Nat} {c A B : fb_N} (hR : RC c A) (hI : IV j A) (hA : ofA A B) (hIB : IV j B) (x : Int32) {s e : Nat} (hs : s ≤ e) (he : e ≤ 260) : ∃ (c2 B2 : fb_N) (y : Nat), y < 64 ∧ f_T_lead x (nI s) (nI e) (ka c) = some (yv y, ka c2) ∧ f_M_leads x (nI s) (nI e) (mu B) = some (nI y, mu B2) ∧ RC c2 A ∧ (∀ k, k ≠ 3 → c2 k = c k) ∧ IV j B2 ∧ of3 B B2 ∧ (y ≠ 0 → A 4 y ≠ 0) := by
  have e0 : B 0 = A 0 := hA 0 (by omega) (by omega) (by omega) (by omega)
  have e4 : B 4 = A 4 := hA 4 (by omega) (by omega) (by omega) (by omega)
  unfold f_M_leads
  rcases mBegin hIB.1 x hs he with ⟨i, hi, rfl, hk, hp, g⟩ | ⟨hn, g⟩
  · rw [g, Option.bind_some]
    rw [e0] at hp
    rw [e4] at hk
    rcases kLead hR hI.1 (nI i) hs he with ⟨i2, hi2, h2, -, -, g2⟩ | ⟨hn, -⟩
    · have := (nEq (by omega) (by omega)).mp h2
      subst this
      rw [g2, e0]
      have hi0 : 0 < i := by
        rcases Nat.eq_zero_or_pos i with w | w
        · subst w
          exact absurd hI.2.2.1.2.1 hk
        · exact w
      have hx : 0 < (if s < e ∧ A 0 s = 47 then 1 else i) ∧ (if s < e ∧ A 0 s = 47 then 1 else i) < 64 := by split <;> omega
      have hu : A 4 (if s < e ∧ A 0 s = 47 then 1 else i) ≠ 0 := by
        split
        · rw [hI.1.rt]; omega
        · exact hk
      obtain ⟨c2, B2, y, y1, y2, y3, y4, y5, y6, y7, y8⟩ := leadSim (s := s) hI he (e - s) s fb_n fb_n _ c (BG B s e) (Nat.le_refl _) (Nat.le_refl _) hs (by unfold fb_n; omega) (by unfold fb_n; omega) hx.1 hx.2 hu hR (hA.tr (of3_BG B s e)) (hIB.bg3 s e) (BG_16 B s e) (BG_17 B s e) (Or.inl rfl)
      exact ⟨c2, B2, y, y1, y2, y3, y4, y5, y6, (of3_BG B s e).tr y7, y8⟩
    · exact absurd ⟨⟨i, hi, rfl, hk⟩, hp⟩ hn
  · rw [g, Option.bind_some]
    have hn2 : ¬ ok A x s e := by
      intro q
      apply hn
      unfold ok at q ⊢
      rw [e0, e4]
      exact q
    rcases kLead hR hI.1 x hs he with ⟨i2, hi2, h2, h3, h4, -⟩ | ⟨-, g2⟩
    · exact absurd ⟨⟨i2, hi2, h2, h3⟩, h4⟩ hn2
    · refine ⟨c, BG B s e, 0, by omega, g2, ?_, hR, fun _ _ => rfl, hIB.bg3 s e, of3_BG B s e, fun q => absurd rfl q⟩
      show b_M_leads_9 (l_M_leads_9 (fb_n - 1)) (nI 0) (mu (BG B s e)) = _
      unfold b_M_leads_9
      rw [if_pos (by decide)]
theorem ofA_15 (A : fb_N) (v : Nat) : ofA A (up A 15 0 v) := fun k _ h _ _ => up_c A h
theorem IV.ty0 {j : Nat} {A : fb_N} (h : IV j A) : IV j (up A 15 0 0) := h.off (k := 15) (by omega) (fun q => by omega) (fun _ => by omega)
theorem mTaken (A : fb_N) : f_M_taken (mu A) = some (nI (A 15 0), mu (up A 15 0 0)) := by
  unfold f_M_taken
  show (fb_pf (mu A) 15 (nI 0)).bind _ = _
  rw [mPf A 15 0 (by decide), Option.bind_some, mu_15]
theorem kEmpty (c : fb_N) : f_X_empty (ka c) = some (0, ka (up c 6 0 0)) := by
  unfold f_X_empty fb_pf
  rw [Option.bind_some]
  show some (0, va_up (ka c) 6 (upd (ka c 6) 0 (nI 0))) = _
  rw [ka_i c 6 0 0 (by omega)]
theorem rcOf {c A B : fb_N} (h : RC c A) (hB : of3 (up A 15 0 0) B) : RC (up c 6 0 0) B := by
  have h1 := rc15 h 0
  have e : ∀ k, k < 13 → B k = up A 15 0 0 k := fun k hk => hB k (by omega) (by omega) (by omega)
  refine rcEq h1 (e 0 (by omega)) (e 1 (by omega)) (e 2 (by omega)) (e 3 (by omega)) (e 9 (by omega)) (e 12 (by omega)) (hB 15 (by omega) (by omega) (by omega)) (fun i k _ _ => ?_)
  unfold ibx
  rw [e 4 (by omega), e 5 (by omega), e 6 (by omega), e 7 (by omega), e 8 (by omega), e 11 (by omega)]
theorem s_find : sm_find sim := by
  intro j st mt x hj hs
  obtain ⟨c, A, rfl, rfl, hR, hI⟩ := hs
  have hty := hI.1.ty
  obtain ⟨c2, B2, y, y1, y2, y3, y4, y5, y6, y7, -⟩ := leadAll hR hI (ofA_15 A 0) hI.ty0 x (s := 0) (e := A 15 0) (by omega) hty
  refine ⟨yv y, ka (up c2 6 0 0), mu B2, ?_, ?_, _, B2, rfl, rfl, rcOf y4 y7, y6.next⟩
  · unfold f_T_find
    rw [ka_6, hR.2.2.2.2.1]
    show (f_T_lead x (nI 0) (nI (A 15 0)) (ka c)).bind _ = _
    rw [y2, Option.bind_some, kEmpty, Option.bind_some]
  · unfold f_M_find
    rw [mThr hI.1, Option.bind_some, mTaken, Option.bind_some]
    show (f_M_leads x (nI 0) (nI (A 15 0)) (mu (up A 15 0 0))).bind _ = _
    rw [y3, Option.bind_some]
    unfold yv
    by_cases z : y = 0
    · rw [if_pos z, if_pos (show nI y ≤ (0 : Int32) from by rw [z]; decide)]
    · rw [if_neg z, if_neg (show ¬ nI y ≤ (0 : Int32) from fun q => by have := (nLe (b := 0) (by omega) (by omega)).mp q; omega)]

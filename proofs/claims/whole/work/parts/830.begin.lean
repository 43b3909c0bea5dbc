/-! a directory begins -/
def dk (t : Nat) : Nat → Nat := fun k => if k < t then 46 else 0
theorem dk_lt (t k : Nat) : dk t k < 256 := by unfold dk; split <;> omega
def dr (f : Nat → Nat) (t n : Nat) : Nat → Nat := fun x => if x < n then dk t x else f x
theorem dr_lt {f : Nat → Nat} (hf : ∀ x, f x < 256) (t n x : Nat) : dr f t n x < 256 := by
  unfold dr
  split
  · exact dk_lt t x
  · exact hf x
theorem dr_e (f : Nat → Nat) (t : Nat) {k : Nat} (hk : k < 14) : dr f t 14 k = dk t k := by
  unfold dr
  rw [if_pos hk]
noncomputable def Bg1 (G : fb_N) (i : Nat) : fb_N := ePt G i 0 i (dk 1) 16
noncomputable def Bg2 (G : fb_N) (i d : Nat) : fb_N := ePt (Bg1 G i) i 1 d (dk 2) 32
noncomputable def Bg3 (G : fb_N) (i d : Nat) : fb_N := up (Bg2 G i d) 7 d (G 7 d + 1)
theorem mDtL (A : fb_N) {m : Nat} (hm : m ≤ 2) : ∀ n t, t ≤ 14 → 14 - t < n → l_M_dots_2 n (nI m) (nI t) (mu (va_up A 13 (dr (A 13) m t))) = some (0, mu (va_up A 13 (dr (A 13) m 14))) := by
  intro n
  induction n with
  | zero => intro t _ h; omega
  | succ n ih =>
    intro t ht hn
    show b_M_dots_2 (l_M_dots_2 n) (nI m) (nI t) _ = _
    unfold b_M_dots_2
    by_cases e : t = 14
    · subst e
      rw [if_pos (show (14 : Int32) ≤ nI 14 by decide)]
    · have key : ∀ y v, fb_b y = bs v → v = dk m t → b_M_dots_24 (l_M_dots_2 n) (nI m) (nI t) y (nI t) (mu (va_up A 13 (dr (A 13) m t))) = some (0, mu (va_up A 13 (dr (A 13) m 14))) := by
        intro y v hy hv
        unfold b_M_dots_24
        rw [st_nI (by omega) (by decide), Option.bind_some, hy, mu_b _ 13 _ _ (by omega), va_up_tw]
        have : un1 (dr (A 13) m t) t v = dr (A 13) m (t + 1) := by
          funext x
          unfold un1 dr
          by_cases w : x = t
          · rw [if_pos w, if_pos (by omega), hv, w]
          · rw [if_neg w]
            by_cases w2 : x < t
            · rw [if_pos w2, if_pos (by omega)]
            · rw [if_neg w2, if_neg (by omega)]
        rw [this]
        show l_M_dots_2 n (nI m) (nI t + nI 1) _ = _
        rw [nI_add]
        exact ih (t + 1) (by omega) (by omega)
      rw [if_neg (show ¬ (14 : Int32) ≤ nI t from nLe' (a := 14) (by omega) (by omega))]
      by_cases w : m ≤ t
      · rw [if_pos (by rw [nLe (by omega) (by omega)]; exact w)]
        exact key 0 0 (by decide) (by unfold dk; rw [if_neg (by omega)])
      · rw [if_neg (by rw [nLe (by omega) (by omega)]; exact w)]
        exact key 46 46 (by decide) (by unfold dk; rw [if_pos (by omega)])
theorem mDt (A : fb_N) {m : Nat} (hm : m ≤ 2) : f_M_dots (nI m) (mu A) = some (0, mu (va_up A 13 (dr (A 13) m 14))) := by
  have h := mDtL A hm fb_n 0 (by omega) (by unfold fb_n; omega)
  have e : dr (A 13) m 0 = A 13 := by
    funext x
    unfold dr
    rw [if_neg (by omega)]
  rw [e, va_up_id] at h
  exact h
theorem oA_13 {A : fb_N} (o : oA A) (f : Nat → Nat) (hf : ∀ q, f q < 256) : oA (va_up A 13 f) := by
  obtain ⟨g1, g2, g3, g4, g5, g6, g7, g8, g9, g10, g11, g12, g13⟩ := o
  have u : ∀ j, j ≠ 13 → va_up A 13 f j = A j := fun j hj => va_up_n _ _ _ hj
  refine ⟨fun k q hk => ?_, by rw [u 4 (by omega)]; exact g2, by rw [u 5 (by omega)]; exact g3, by rw [u 6 (by omega)]; exact g4, by rw [u 7 (by omega)]; exact g5, by rw [u 8 (by omega)]; exact g6, by rw [u 9 (by omega)]; exact g7, by rw [u 10 (by omega)]; exact g8, by rw [u 11 (by omega)]; exact g9, by rw [u 3 (by omega)]; exact g10, by rw [u 14 (by omega)]; exact g11, by rw [u 15 (by omega)]; exact g12, by rw [u 12 (by omega)]; exact g13⟩
  by_cases e : k = 13
  · rw [e, va_up_s]; exact hf q
  · rw [u k e]; exact g1 k q hk
theorem oA_16 {A : fb_N} (o : oA A) (k : Nat) : oA (up A 16 0 k) := by
  have u : ∀ j, j ≠ 16 → up A 16 0 k j = A j := fun j hj => up_c A hj
  obtain ⟨g1, g2, g3, g4, g5, g6, g7, g8, g9, g10, g11, g12, g13⟩ := o
  exact ⟨fun j x hj => by rw [u j (by omega)]; exact g1 j x hj, g2, g3, g4, g5, g6, g7, g8, g9, g10, g11, g12, g13⟩
theorem up_up (A : fb_N) (k i v w : Nat) : up (up A k i v) k i w = up A k i w := by
  funext a b
  by_cases e : a = k ∧ b = i
  · obtain ⟨rfl, rfl⟩ := e
    rw [up_s, up_s]
  · rw [up_n _ (by omega), up_n _ (by omega), up_n _ (by omega)]
theorem kBegin {c c1 M G : fb_N} (h : RC c M) (o : oA M) (hB : BK M) (hM : DM M) {i d w : Nat} (hi : i < 64) (hd : d < 64) (hi0 : i ≠ 0) (hk : M 4 i = 1) (h8 : M 8 i = 0) (ha : f_I_addBlock (nI i) (nI (M 10 i)) (ka c) = some (1, ka c1)) (hR : RC c1 G) (oG : oA G) (hG : BK G) (h10 : G 10 i = M 10 i + 1) (p1 : isP M (Bg1 G i) i 0 i (dk 1) w) (p2 : isP (Bg1 G i) (Bg2 G i d) i 1 d (dk 2) 0) (h7 : G 7 d + 1 < 65536) : ∃ c2, f_D_begin (nI i) (nI d) (ka c) = some (0, ka c2) ∧ RC c2 (Bg3 G i d) ∧ ∀ k, k ≠ 0 → c2 k = c1 k := by
  have hf1 : ff M i = none := by
    unfold ff
    rw [h8]
    rfl
  obtain ⟨c2, a1, a2, a3⟩ := kPutC_z1 h o hB hM hi hk (by omega) hi (dk 1) (fun k _ => dk_lt 1 k) (fun k _ => rfl) hf1 (by omega) ha hR oG hG h10
  rw [h8] at a2
  have a2 : RC c2 (Bg1 G i) := a2
  have k1 : Bg1 G i 4 i = 1 := by rw [p1.1 4 (by omega) (by omega) (by omega) (by omega) (by omega)]; exact hk
  have s1 : Bg1 G i 8 i = 16 := by
    rw [p1.2.1, if_pos rfl]
    omega
  have hf2 : ff (Bg1 G i) i = none := by
    unfold ff
    rw [s1]
    show fe (fun s => nu (Bg1 G i) i (16 * s) = 0) 0 (0 + 1) = none
    rw [fe_n 0 (fun q => hi0 (by rw [← p1.2.2.2.2.2.2.1.1]; exact q))]
    rfl
  obtain ⟨c3, b1, b2, b3⟩ := kPutB_z2 a2 p1.2.2.1 p1.2.2.2.1 p1.2.2.2.2.1 hi k1 (by omega) hd (dk 2) (fun k _ => dk_lt 2 k) (fun k _ => rfl) hf2 (by omega)
  rw [s1] at b2
  have b2 : RC c3 (Bg2 G i d) := b2
  have e7 : Bg2 G i d 7 = G 7 := by
    unfold Bg2 Bg1
    rw [ePt_c _ _ _ _ _ _ (by omega) (by omega), ePt_c _ _ _ _ _ _ (by omega) (by omega)]
  obtain ⟨c4, d1, d2, d3⟩ := kLinks b2 p2.2.2.1 (v := G 7 d + 1) hd (1 : Int32) (by rw [e7]; exact nI_add (G 7 d) 1) h7
  refine ⟨c4, ?_, d2, fun k hk => by rw [d3 k hk, b3 k hk, a3 k hk]⟩
  unfold f_D_begin
  rw [a1, Option.bind_some, b1, Option.bind_some, d1, Option.bind_some]
theorem mBegins {M G : fb_N} (oG : oA G) {i d : Nat} (hi : i < 64) (hd : d < 64) (hg : f_M_grow (nI i) (mu M) = some (0, mu G)) (q0 : pl G i 0 + 16 ≤ 524288) (q1 : pl G i 16 + 16 ≤ 524288) : f_M_begins (nI i) (nI d) (mu M) = some (0, mu (va_up (Bg3 G i d) 13 (dr (dr (G 13) 1 14) 2 14))) := by
  have l1 : ∀ q, dr (G 13) 1 14 q < 256 := dr_lt oG.nm 1 14
  have l2 : ∀ q, dr (dr (G 13) 1 14) 2 14 q < 256 := dr_lt l1 2 14
  have s1 : f_M_dots (1 : Int32) (mu G) = some (0, mu (va_up G 13 (dr (G 13) 1 14))) := mDt G (m := 1) (by omega)
  have o1 := oA_13 oG _ l1
  have hb1 : ∀ x, LB (G 2) (pl G i 0) i (dr (G 13) 1 14) 14 x < 256 := LB_lt oG.dk (fun k _ => l1 k)
  have p1 : pl (va_up G 13 (dr (G 13) 1 14)) i 0 = pl G i 0 := by
    unfold pl
    rw [va_up_n _ _ _ (by omega)]
  have s2 : f_M_lay (nI i) (0 : Int32) (nI i) (mu (va_up G 13 (dr (G 13) 1 14))) = some (0, mu (va_up (va_up G 13 (dr (G 13) 1 14)) 2 (LB (G 2) (pl G i 0) i (dr (G 13) 1 14) 14))) := by
    have := mLay o1 (d := i) (p := 0) (i := i) hi (by omega) (by rw [p1]; exact q0) hi
    rw [p1, va_up_n _ _ _ (show 2 ≠ 13 by omega), va_up_s] at this
    exact this
  have o2 := oA_2 o1 _ hb1
  have s3 : f_M_dots (2 : Int32) (mu (va_up (va_up G 13 (dr (G 13) 1 14)) 2 (LB (G 2) (pl G i 0) i (dr (G 13) 1 14) 14))) = some (0, mu (va_up (va_up (va_up G 13 (dr (G 13) 1 14)) 2 (LB (G 2) (pl G i 0) i (dr (G 13) 1 14) 14)) 13 (dr (dr (G 13) 1 14) 2 14))) := by
    have := mDt (va_up (va_up G 13 (dr (G 13) 1 14)) 2 (LB (G 2) (pl G i 0) i (dr (G 13) 1 14) 14)) (m := 2) (by omega)
    rw [va_up_n _ _ _ (show 13 ≠ 2 by omega), va_up_s] at this
    exact this
  have o3 := oA_13 o2 _ l2
  obtain ⟨Y3, hY3⟩ : ∃ Y, Y = va_up (va_up (va_up G 13 (dr (G 13) 1 14)) 2 (LB (G 2) (pl G i 0) i (dr (G 13) 1 14) 14)) 13 (dr (dr (G 13) 1 14) 2 14) := ⟨_, rfl⟩
  rw [← hY3] at s3 o3
  have y2 : Y3 2 = LB (G 2) (pl G i 0) i (dr (G 13) 1 14) 14 := by rw [hY3, va_up_n _ _ _ (by omega), va_up_s]
  have y13 : Y3 13 = dr (dr (G 13) 1 14) 2 14 := by rw [hY3, va_up_s]
  have yc : ∀ k, k ≠ 2 → k ≠ 13 → Y3 k = G k := fun k h2 h13 => by rw [hY3, va_up_n _ _ _ h13, va_up_n _ _ _ h2, va_up_n _ _ _ h13]
  have yp : pl Y3 i 16 = pl G i 16 := by
    unfold pl
    rw [yc 11 (by omega) (by omega)]
  have s4 : f_M_lay (nI i) (16 : Int32) (nI d) (mu Y3) = some (0, mu (va_up Y3 2 (LB (LB (G 2) (pl G i 0) i (dr (G 13) 1 14) 14) (pl G i 16) d (dr (dr (G 13) 1 14) 2 14) 14))) := by
    have := mLay o3 (d := i) (p := 16) (i := d) hi (by omega) (by rw [yp]; exact q1) hd
    rw [yp, y2, y13] at this
    exact this
  obtain ⟨Y4, hY4⟩ : ∃ Y, Y = va_up Y3 2 (LB (LB (G 2) (pl G i 0) i (dr (G 13) 1 14) 14) (pl G i 16) d (dr (dr (G 13) 1 14) 2 14) 14) := ⟨_, rfl⟩
  rw [← hY4] at s4
  have z2 : Y4 2 = LB (LB (G 2) (pl G i 0) i (dr (G 13) 1 14) 14) (pl G i 16) d (dr (dr (G 13) 1 14) 2 14) 14 := by rw [hY4, va_up_s]
  have z13 : Y4 13 = dr (dr (G 13) 1 14) 2 14 := by rw [hY4, va_up_n _ _ _ (by omega), y13]
  have zc : ∀ k, k ≠ 2 → k ≠ 13 → Y4 k = G k := fun k h2 h13 => by rw [hY4, va_up_n _ _ _ h2, yc k h2 h13]
  have hfin : up (up Y4 8 i 32) 7 d (G 7 d + 1) = va_up (Bg3 G i d) 13 (dr (dr (G 13) 1 14) 2 14) := by
    funext a b
    by_cases h13 : a = 13
    · subst h13
      rw [va_up_s, up_c _ (by omega), up_c _ (by omega), z13]
    · rw [va_up_n _ _ _ h13]
      unfold Bg3
      by_cases h7 : a = 7
      · subst h7
        by_cases e : b = d
        · rw [e, up_s, up_s]
        · rw [up_n _ (Or.inr e), up_n _ (Or.inr e), up_c _ (by omega), zc 7 (by omega) (by omega)]
          unfold Bg2 Bg1
          rw [ePt_c _ _ _ _ _ _ (by omega) (by omega), ePt_c _ _ _ _ _ _ (by omega) (by omega)]
      · rw [up_c _ h7, up_c _ h7]
        unfold Bg2
        by_cases h8 : a = 8
        · subst h8
          rw [ePt_8]
          by_cases e : b = i
          · rw [e, up_s, if_pos rfl]
          · rw [up_n _ (Or.inr e), if_neg e, zc 8 (by omega) (by omega)]
            unfold Bg1
            rw [ePt_8, if_neg e]
        · rw [up_c _ h8]
          by_cases h2 : a = 2
          · subst h2
            have E1 : LB (G 2) (pl G i 0) i (dr (G 13) 1 14) 14 = LB (G 2) (pl G i 0) i (dk 1) 14 := LB_cg _ _ _ _ (fun k hk => dr_e _ 1 hk)
            have E2 : ∀ X, LB X (pl G i 16) d (dr (dr (G 13) 1 14) 2 14) 14 = LB X (pl G i 16) d (dk 2) 14 := fun X => LB_cg _ _ _ _ (fun k hk => dr_e _ 2 hk)
            rw [ePt_2, z2, E1, E2]
            unfold Bg1
            rw [ePt_2, ePt_pl]
          · rw [ePt_c _ _ _ _ _ _ h2 h8, zc a h2 h13]
            unfold Bg1
            rw [ePt_c _ _ _ _ _ _ h2 h8]
  unfold f_M_begins
  rw [hg, Option.bind_some, s1, Option.bind_some, s2, Option.bind_some, s3, Option.bind_some, s4, Option.bind_some]
  show (fb_st (mu Y4) 8 64 (nI i) (nI 32)).bind _ = _
  rw [st_nI hi (by decide), Option.bind_some, mu_i _ 8 _ _ (by decide), ld_nI hd (by decide), Option.bind_some]
  show (fb_st (mu (up Y4 8 i 32)) 7 64 (nI d) (mu (up Y4 8 i 32) 7 d + nI 1)).bind _ = _
  rw [mu_7, up_c _ (show 7 ≠ 8 by omega), zc 7 (by omega) (by omega), nI_add, st_nI hd (by decide), Option.bind_some, mu_i _ 7 _ _ (by decide), hfin]
/-! the name is read again -/
theorem mAg29 {B : fb_N} (o : oA B) {k : Nat} (hk : k = 0 ∨ B 0 (k - 1) = 47) : ∀ n p, k ≤ p → p - k < n → p ≤ 260 → (∀ z, k ≤ z → z < p → B 0 z ≠ 47 ∧ B 0 z ≠ 32) → l_M_again_29 n (mu (up B 16 0 p)) = b_M_again_81 (mu (up B 16 0 k)) := by
  intro n
  induction n with
  | zero => intro p _ h; omega
  | succ n ih =>
    intro p hp hn h260 hz
    show b_M_again_29 (l_M_again_29 n) (mu (up B 16 0 p)) = _
    have c16 : mu (up B 16 0 p) 16 0 = nI p := by rw [mu_16, up_s]
    have c0 : ∀ q, mu (up B 16 0 p) 0 q = bs (B 0 q) := fun q => by rw [mu_0, up_c _ (by omega)]
    unfold b_M_again_29
    rw [c16]
    by_cases e : p = k
    · subst e
      by_cases z : p = 0
      · rw [if_pos (show nI p ≤ (0 : Int32) from by rw [z]; decide)]
      · have h47 : B 0 (p - 1) = 47 := hk.resolve_left z
        have hs : nI p - (1 : Int32) = nI (p - 1) := nSub (a := p) (b := 1) (by omega)
        rw [if_neg (show ¬ nI p ≤ (0 : Int32) from nLe' (a := p) (b := 0) (by omega) (by omega)), hs, ld_nI (by omega) (by decide), Option.bind_some, c0, if_pos (show bs (B 0 (p - 1)) = (47 : Int32) from (bs_eqI (b := 47) (o.tx _) (by omega)).mpr h47)]
    · have h1 := hz (p - 1) (by omega) (by omega)
      have hs : nI p - (1 : Int32) = nI (p - 1) := nSub (a := p) (b := 1) (by omega)
      rw [if_neg (show ¬ nI p ≤ (0 : Int32) from nLe' (a := p) (b := 0) (by omega) (by omega)), hs, ld_nI (by omega) (by decide), Option.bind_some, c0, if_neg (show ¬ bs (B 0 (p - 1)) = (47 : Int32) from fun q => h1.1 ((bs_eqI (b := 47) (o.tx _) (by omega)).mp q)), Option.bind_some, if_neg (show ¬ bs (B 0 (p - 1)) = (32 : Int32) from fun q => h1.2 ((bs_eqI (b := 32) (o.tx _) (by omega)).mp q)), mPf _ 16 _ (by decide), Option.bind_some, up_up]
      exact ih (p - 1) (by omega) (by omega) (by omega) (fun z g1 g2 => hz z g1 (by omega))
theorem mAg5 {B : fb_N} (o : oA B) {r : Nat} (hr : 0 < r) (hT : B 0 (r - 1) ≠ 47) : ∀ n x, r ≤ x → x - r < n → x ≤ 260 → (∀ z, r ≤ z → z < x → B 0 z = 47) → l_M_again_5 n (nI x) (mu B) = l_M_again_29 fb_n (mu (up B 16 0 r)) := by
  intro n
  induction n with
  | zero => intro x _ h; omega
  | succ n ih =>
    intro x hx hn h260 hz
    show b_M_again_5 (l_M_again_5 n) (nI x) (mu B) = _
    have hs : nI x - (1 : Int32) = nI (x - 1) := nSub (a := x) (b := 1) (by omega)
    unfold b_M_again_5
    rw [hs, ld_nI (by omega) (by decide), Option.bind_some, mu_0]
    by_cases e : x = r
    · subst e
      rw [if_neg (show ¬ bs (B 0 (x - 1)) = (47 : Int32) from fun q => hT ((bs_eqI (b := 47) (o.tx _) (by omega)).mp q)), mPf _ 16 _ (by decide), Option.bind_some]
    · rw [if_pos (show bs (B 0 (x - 1)) = (47 : Int32) from (bs_eqI (b := 47) (o.tx _) (by omega)).mpr (hz (x - 1) (by omega) (by omega))), nSub1 (by omega)]
      exact ih (x - 1) (by omega) (by omega) (by omega) (fun z g1 g2 => hz z g1 (by omega))
theorem mAgain {B : fb_N} (o : oA B) {e k r : Nat} (he : B 17 0 = e) (h260 : e ≤ 260) (hke : k < e) (hbg : bg (B 0) 0 k) (hr : isNd (B 0) e k r) (ht : ∀ z, r ≤ z → z < e → B 0 z = 47) (hp : pth (B 0) 0 e) : f_M_again (mu B) = some (0, mu (NR (up B 16 0 k) k (r - k))) := by
  have u : ∀ j, j ≠ 16 → up B 16 0 k j = B j := fun j hj => up_c B hj
  obtain ⟨r1, r2, r3, r4⟩ := id hr
  have hkr : k < r := by
    rcases Nat.lt_or_ge k r with w | w
    · exact w
    · exfalso
      rcases r4 with w2 | w2
      · omega
      · rw [show r = k by omega] at w2; exact hbg.1 w2
  have h1 := mAg5 o (r := r) (by omega) (r3 (r - 1) (by omega) (by omega)) fb_n e r2 (by unfold fb_n; omega) h260 ht
  have h2 := mAg29 o (k := k) hbg.2 fb_n r (by omega) (by unfold fb_n; omega) (by omega) (fun z g1 g2 => ⟨r3 z g1 g2, hp.2 z (by omega) (by omega)⟩)
  unfold f_M_again
  rw [mu_17, he, h1, h2]
  unfold b_M_again_81
  rw [mNamed (oA_16 o k) (e := e) (k := k) (q := k) (r := r) (by rw [u 17 (by omega)]; exact he) h260 (up_s _ _ _ _) (by rw [u 0 (by omega)]; exact ⟨Nat.le_refl _, by omega, fun x _ _ => by omega, Or.inr hbg.1⟩) (by rw [u 0 (by omega)]; exact hr), Option.bind_some]
theorem rc_o3 {c A B : fb_N} (h : RC c A) (hB : of3 A B) : RC c B := by
  have e : ∀ k, k < 13 → B k = A k := fun k hk => hB k (by omega) (by omega) (by omega)
  refine rcEq h (e 0 (by omega)) (e 1 (by omega)) (e 2 (by omega)) (e 3 (by omega)) (e 9 (by omega)) (e 12 (by omega)) (hB 15 (by omega) (by omega) (by omega)) (fun i k _ _ => ?_)
  unfold ibx
  rw [e 4 (by omega), e 5 (by omega), e 6 (by omega), e 7 (by omega), e 8 (by omega), e 11 (by omega)]

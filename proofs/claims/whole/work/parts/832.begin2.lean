/-! the invariant with a new directory -/
theorem Bg_rows {A G : fb_N} {i d a b : Nat} (hi : i < 64) (h8i : A 8 i = 0) (p1 : isP (MK A i 1 a b) (Bg1 G i) i 0 i (dk 1) 1) (p2 : isP (Bg1 G i) (Bg2 G i d) i 1 d (dk 2) 0) (h7G : G 7 = MK A i 1 a b 7) : (∀ k, k ≠ 2 → k ≠ 3 → k ≠ 7 → k ≠ 8 → k ≠ 10 → k ≠ 11 → Bg3 G i d k = MK A i 1 a b k) ∧ (d ≠ i → ∀ x, Bg3 G i d 7 x = if x = d then A 7 d + 1 else if x = i then 1 else A 7 x) ∧ (∀ x, Bg3 G i d 8 x = if x = i then 32 else A 8 x) ∧ (∀ x p, x < 64 → x ≠ i → p < A 8 x → Bg3 G i d 2 (pl (Bg3 G i d) x p) = A 2 (pl A x p)) ∧ (nu (Bg3 G i d) i (16 * 0) = i ∧ dt (Bg3 G i d) i (16 * 0)) ∧ (nu (Bg3 G i d) i (16 * 1) = d ∧ dt (Bg3 G i d) i (16 * 1)) ∧ lf (Bg3 G i d) + 1 = lf A := by
  have b2 : Bg3 G i d 2 = Bg2 G i d 2 := up_c _ (by omega)
  have bp : ∀ x p, pl (Bg3 G i d) x p = pl (Bg2 G i d) x p := by
    intro x p
    have e : Bg3 G i d 11 = Bg2 G i d 11 := up_c _ (by omega)
    unfold pl
    rw [e]
  have s1 : ∀ x, Bg1 G i 8 x = if x = i then 16 else A 8 x := by
    intro x
    rw [p1.2.1, MK_c _ _ _ _ _ (show 8 < 4 ∨ 7 < 8 by omega)]
    by_cases e : x = i
    · rw [if_pos e, if_pos e]; omega
    · rw [if_neg e, if_neg e]
  refine ⟨?_, ?_, ?_, ?_, ?_, ?_, ?_⟩
  · intro k h2 h3 h7 h8 h10 h11
    unfold Bg3
    rw [up_c _ h7, p2.1 k h2 h3 h8 h10 h11, p1.1 k h2 h3 h8 h10 h11]
  · intro hid x
    have e7 : Bg2 G i d 7 = MK A i 1 a b 7 := by rw [p2.1 7 (by omega) (by omega) (by omega) (by omega) (by omega), p1.1 7 (by omega) (by omega) (by omega) (by omega) (by omega)]
    unfold Bg3
    by_cases e : x = d
    · rw [if_pos e, e, up_s, h7G, MK_f _ _ _ _ _ _ (by omega), if_neg hid]
    · rw [if_neg e, up_n _ (Or.inr e), e7, MK_f _ _ _ _ _ _ (by omega)]
      by_cases e2 : x = i
      · rw [if_pos e2, if_pos e2]; rfl
      · rw [if_neg e2, if_neg e2]
  · intro x
    unfold Bg3
    rw [up_c _ (by omega), p2.2.1]
    by_cases e : x = i
    · rw [if_pos e, if_pos e, s1, if_pos rfl]; rfl
    · rw [if_neg e, if_neg e, s1, if_neg e]
  · intro x p hx hxi hp
    rw [b2, bp, p2.2.2.2.2.2.1 x p hx (by rw [s1, if_neg hxi]; exact hp) (fun q => hxi q.1), p1.2.2.2.2.2.1 x p hx (by rw [MK_c _ _ _ _ _ (by omega)]; exact hp) (fun q => hxi q.1), MK_c _ _ _ _ _ (show 2 < 4 ∨ 7 < 2 by omega)]
    unfold pl
    rw [MK_c _ _ _ _ _ (by omega)]
  · have key : ∀ r, r < 16 → Bg3 G i d 2 (pl (Bg3 G i d) i (16 * 0) + r) = Bg1 G i 2 (pl (Bg1 G i) i (16 * 0) + r) := by
      intro r hr
      rw [pl_16 _ _ _ _ hr, pl_16 _ _ _ _ hr, b2, bp]
      exact p2.2.2.2.2.2.1 i _ hi (by rw [s1, if_pos rfl]; omega) (fun q => by have := q.2; omega)
    have k0 := key 0 (by omega)
    rw [Nat.add_zero, Nat.add_zero] at k0
    have kn : ∀ k, k < 14 → ne (Bg3 G i d) i (16 * 0) k = dk 1 k := by
      intro k hk
      unfold ne
      rw [Nat.add_assoc, key (2 + k) (by omega), ← Nat.add_assoc]
      exact p1.2.2.2.2.2.2.1.2 k hk
    refine ⟨?_, by rw [kn 0 (by omega)]; rfl, Or.inl (by rw [kn 1 (by omega)]; rfl)⟩
    unfold nu
    rw [k0, key 1 (by omega)]
    exact p1.2.2.2.2.2.2.1.1
  · have kn : ∀ k, k < 14 → ne (Bg3 G i d) i (16 * 1) k = dk 2 k := by
      intro k hk
      unfold ne
      rw [b2, bp]
      exact p2.2.2.2.2.2.2.1.2 k hk
    refine ⟨?_, by rw [kn 0 (by omega)]; rfl, Or.inr ⟨by rw [kn 1 (by omega)]; rfl, by rw [kn 2 (by omega)]; rfl⟩⟩
    unfold nu
    rw [b2, bp]
    exact p2.2.2.2.2.2.2.1.1
  · have e3 : lf (Bg3 G i d) = lf (Bg2 G i d) := by
      have e : Bg3 G i d 3 = Bg2 G i d 3 := up_c _ (by omega)
      unfold lf
      rw [e]
    have h1 := p1.2.2.2.2.2.2.2.1
    have h2 := p2.2.2.2.2.2.2.2.1
    rw [MK_lf] at h1
    omega
theorem Bg_IV {j : Nat} {A P : fb_N} {i d a b : Nat} (hI : IV j A) (hd : d < 64) (hk4 : A 4 d = 1) (hi : i < 64) (hi0 : 0 < i) (h0 : A 4 i = 0) (oP : oA P) (hBP : BK P) (hMP : DM P) (u : ∀ k, k ≠ 2 → k ≠ 3 → k ≠ 7 → k ≠ 8 → k ≠ 10 → k ≠ 11 → P k = MK A i 1 a b k) (r7 : ∀ x, P 7 x = if x = d then A 7 d + 1 else if x = i then 1 else A 7 x) (r8 : ∀ x, P 8 x = if x = i then 32 else A 8 x) (hby : ∀ x p, x < 64 → x ≠ i → p < A 8 x → P 2 (pl P x p) = A 2 (pl A x p)) (e0 : nu P i (16 * 0) = i ∧ dt P i (16 * 0)) (e1 : nu P i (16 * 1) = d ∧ dt P i (16 * 1)) : IV (j + 1) P ∧ cn P i = 0 ∧ (∀ s, en A d s → nu P d (16 * s) = nu A d (16 * s)) ∧ ∀ s, en P d s → nu P d (16 * s) ≠ i := by
  have hid : d ≠ i := fun q => by rw [q] at hk4; omega
  have hnu := fun {x s : Nat} (he : en A x s) => nu_use hI he
  obtain ⟨o, hB, hD, hE, hL, hJ⟩ := hI
  have hz := hD.1 i hi h0
  have r4 : ∀ x, P 4 x = if x = i then 1 else A 4 x := by
    intro x
    rw [u 4 (by omega) (by omega) (by omega) (by omega) (by omega) (by omega), MK_f _ _ _ _ _ _ (by omega)]
    rfl
  have enE : ∀ {x s}, x ≠ i → (en P x s ↔ en A x s) := by
    intro x s hx
    unfold en
    rw [r4, r8, if_neg hx, if_neg hx]
  have bE : ∀ {x s r}, en A x s → x ≠ i → r < 16 → P 2 (pl P x (16 * s) + r) = A 2 (pl A x (16 * s) + r) := by
    intro x s r he hx hr
    obtain ⟨h1, h2, h3⟩ := he
    have hs := (hD.dS x h1 h2).1
    rw [pl_16 _ _ _ _ hr, pl_16 _ _ _ _ hr]
    exact hby x _ h1 hx (by omega)
  have nuE : ∀ {x s}, en A x s → x ≠ i → nu P x (16 * s) = nu A x (16 * s) := by
    intro x s he hx
    have g0 := bE he hx (r := 0) (by omega)
    rw [Nat.add_zero, Nat.add_zero] at g0
    unfold nu
    rw [g0, bE he hx (by omega)]
  have neE : ∀ {x s k}, en A x s → x ≠ i → k < 14 → ne P x (16 * s) k = ne A x (16 * s) k := by
    intro x s k he hx hk
    unfold ne
    rw [Nat.add_assoc, Nat.add_assoc, bE he hx (by omega)]
  have dtE : ∀ {x s}, en A x s → x ≠ i → (dt P x (16 * s) ↔ dt A x (16 * s)) := by
    intro x s he hx
    unfold dt
    rw [neE he hx (by omega), neE he hx (by omega), neE he hx (by omega)]
  have noi : ∀ {x s}, en A x s → nu A x (16 * s) ≠ i := by
    intro x s he q
    have := hnu he (by omega)
    rw [q] at this
    exact this h0
  have enI : ∀ {s}, en P i s → s = 0 ∨ s = 1 := by
    intro s he
    have := he.2.2
    rw [r8, if_pos rfl] at this
    omega
  have hcn : ∀ x, cn P x ≤ cn A x + (if x = d then 1 else 0) := by
    intro x
    unfold cn
    have key : sg (fun y => sg (fun s => cn1 P x y s) 17152) 64 ≤ sg (fun y => sg (fun s => cn1 A x y s) 17152) 64 + (if i < 64 then (if x = d then 1 else 0) else 0) := by
      apply sg_ind i
      intro y _
      have : sg (fun s => cn1 P x y s) 17152 ≤ sg (fun s => cn1 A x y s) 17152 + (if 1 < 17152 then (if y = i then (if x = d then 1 else 0) else 0) else 0) := by
        apply sg_ind 1
        intro s _
        unfold cn1
        by_cases hc : en P y s ∧ y ≠ x ∧ nu P y (16 * s) = x
        · obtain ⟨c1, c2, c3⟩ := hc
          rw [if_pos ⟨c1, c2, c3⟩]
          by_cases q : y = i
          · rw [q] at c1 c2 c3
            rcases enI c1 with w | w
            · exfalso
              rw [w, e0.1] at c3
              exact c2 c3
            · rw [w, e1.1] at c3
              rw [if_pos w, if_pos q, if_pos c3.symm]
              omega
          · have he := (enE q).mp c1
            rw [nuE he q] at c3
            rw [if_pos ⟨he, c2, c3⟩]
            omega
        · rw [if_neg hc]
          omega
      rw [if_pos (by omega)] at this
      exact this
    rw [if_pos hi] at key
    exact key
  have hcn0 : cn P i = 0 := by
    have h1 := hcn i
    have h2 := hL i hi hi0
    rw [if_neg (fun q => hid q.symm)] at h1
    omega
  refine ⟨⟨oP, hBP, ?_, ?_, ?_, ?_⟩, hcn0, fun s he => nuE he hid, fun s he q => ?_⟩
  · obtain ⟨d1, d2, d3, d4⟩ := hD
    refine ⟨fun x hx hq => ?_, ?_, hMP, fun x hx hq => ?_⟩
    · rw [r4] at hq
      by_cases e : x = i
      · rw [if_pos e] at hq; omega
      · rw [if_neg e] at hq
        have hxd : x ≠ d := fun w => by rw [w] at hq; omega
        rw [u 5 (by omega) (by omega) (by omega) (by omega) (by omega) (by omega), u 6 (by omega) (by omega) (by omega) (by omega) (by omega) (by omega), u 9 (by omega) (by omega) (by omega) (by omega) (by omega) (by omega), r7, r8, MK_f _ _ _ _ _ _ (by omega), MK_f _ _ _ _ _ _ (by omega), MK_c _ _ _ _ _ (by omega), if_neg e, if_neg e, if_neg e, if_neg hxd, if_neg e]
        exact d1 x hx hq
    · rw [r4, if_neg (by omega)]; exact d2
    · rw [r4] at hq
      rw [r8]
      by_cases e : x = i
      · rw [if_pos e]; omega
      · rw [if_neg e] at hq ⊢
        exact d4 x hx hq
  · intro x s he
    by_cases e : x = i
    · subst e
      rcases enI he with w | w
      · rw [w, e0.1]
        exact ⟨hi, fun _ => e0.2, fun _ q => absurd rfl q⟩
      · rw [w, e1.1]
        exact ⟨hd, fun _ => e1.2, fun _ _ _ q => absurd e1.2 q⟩
    · have he2 := (enE e).mp he
      obtain ⟨q1, q2, q3⟩ := hE x s he2
      rw [nuE he2 e, dtE he2 e]
      refine ⟨q1, q2, fun a1 a2 a3 a4 => ?_⟩
      have hni := noi he2
      rw [r4, if_neg hni] at a3
      obtain ⟨w1, w2⟩ := q3 a1 a2 a3 a4
      have hz1 : en A (nu A x (16 * s)) 1 := ⟨q1, a3, by have := (hD.dS _ q1 a3).2; omega⟩
      refine ⟨?_, fun s2 g1 g2 g3 => ?_⟩
      · have := nuE hz1 hni
        rw [Nat.mul_one] at this
        rw [this]
        exact w1
      · have g4 := (enE e).mp g1
        rw [nuE g4 e] at g2
        rw [dtE g4 e] at g3
        exact w2 s2 g4 g2 g3
  · intro x hx hx0
    have h1 := hcn x
    have h2 := hL x hx hx0
    rw [r7]
    by_cases e : x = d
    · rw [if_pos e] at h1 ⊢
      rw [e] at h1 h2 ⊢
      omega
    · rw [if_neg e] at h1 ⊢
      by_cases e2 : x = i
      · rw [if_pos e2]
        rw [e2] at h1 h2 ⊢
        rw [hcn0]
        split <;> omega
      · rw [if_neg e2]
        omega
  · intro x
    have h1 := hJ x
    have h2 := (hJ d).1
    rw [r7, u 9 (by omega) (by omega) (by omega) (by omega) (by omega) (by omega), MK_c _ _ _ _ _ (by omega)]
    refine ⟨?_, by omega⟩
    by_cases e : x = d
    · rw [if_pos e]; omega
    · rw [if_neg e]
      by_cases e2 : x = i
      · rw [if_pos e2]; omega
      · rw [if_neg e2]; omega
  · have he2 := (enE hid).mp he
    rw [nuE he2 hid] at q
    exact noi he2 q
theorem crD {j : Nat} {c A X : fb_N} (hR : RC c A) (hI : IV j A) {d i e : Nat} (hd : d < 64) (hk4 : A 4 d = 1) (hi : i < 64) (hi0 : 0 < i) (h0 : A 4 i = 0) (he : e ≤ 260) (hX : X 0 = A 0) (hinf : inf X A c 0 e) (hw : wt A d + 1 ≤ lf A) (hj : j < 512) (x3 x4 : Int32) : ∃ c2 F, ((f_I_make (nI i) (1 : Int32) x3 x4 (ka c)).bind fun r4 => (f_D_begin (nI i) (nI d) r4.2).bind fun r6 => b_T_create_182 (nI d) (nI i) r6.2) = some (nI i, ka c2) ∧ ((f_M_begins (nI i) (nI d) (mu (MK A i 1 (un x3 % 65536) (un x4 % 65536)))).bind fun r8 => (f_M_again r8.2).bind fun r9 => b_M_create_195 (nI d) (nI i) r9.2) = some (nI i, mu F) ∧ RC c2 F ∧ IV (j + 1) F := by
  obtain ⟨n1, n2, n3, k, r, -, n4, n5, n6, n7, n8⟩ := hinf
  rw [hX] at n3 n5 n6 n7 n8
  have hid : d ≠ i := fun q => by rw [q] at hk4; omega
  have hi1 : i ≠ 1 := fun q => by have := hI.1.rt; rw [← q] at this; omega
  obtain ⟨c1, a1, a2, a3⟩ := kMake hR hi (1 : Int32) x3 x4
  have a2 : RC c1 (MK A i 1 (un x3 % 65536) (un x4 % 65536)) := a2
  have hax : un x3 % 65536 < 65536 := by omega
  have hbx : un x4 % 65536 < 65536 := by omega
  generalize un x3 % 65536 = a at *
  generalize un x4 % 65536 = b at *
  have oM := oA_MK hI.1 (k := 1) hi1 (by omega) hax hbx
  have mc : ∀ k, (k < 4 ∨ 7 < k) → MK A i 1 a b k = A k := fun k hk => MK_c A i 1 a b hk
  have BM : BK (MK A i 1 a b) := hI.2.1.cg (mc 2 (by omega)) (mc 3 (by omega)) (mc 10 (by omega)) (mc 11 (by omega))
  have DMM : DM (MK A i 1 a b) := fun x hx => by rw [mc 10 (by omega), mc 8 (by omega)]; exact hI.2.2.1.2.2.1 x hx
  have h8i : A 8 i = 0 := (hI.2.2.1.1 i hi h0).2.2.2.1
  have m8 : MK A i 1 a b 8 i = 0 := by rw [mc 8 (by omega)]; exact h8i
  have m10 : MK A i 1 a b 10 i = 0 := by rw [DMM i hi, m8]
  have m4 : MK A i 1 a b 4 i = 1 := by rw [MK_f _ _ _ _ _ _ (by omega), if_pos rfl]; rfl
  obtain ⟨c2, G, b1, b2, g1, g2, g3, g4, g5, g6⟩ := grow_ok a2 oM BM hi (by omega) (by rw [m10, MK_lf, if_neg (by omega)]; omega)
  have hBG := gBK BM oM.mn g5 g6 hi
  have hG10 : G 10 i = MK A i 1 a b 10 i + 1 := by rw [g5.2.1, if_pos rfl]
  have u : ∀ k, k ≠ 2 → k ≠ 3 → k ≠ 10 → k ≠ 11 → G k = MK A i 1 a b k := g5.2.2.2.2
  have hlG := lf_G g4 g5 g6
  rw [m10, if_neg (by omega)] at hlG
  have p1 : isP (MK A i 1 a b) (Bg1 G i) i 0 i (dk 1) 1 := ePt_P DMM hi (by omega) (fun k _ => dk_lt 1 k) u g4 hBG (G_pl oM BM g5 g6 hi) (fun x hx => by rw [g5.2.1, if_neg hx]) (by omega) (by omega) (by omega) (by omega) (by omega) hlG
  have s1 : Bg1 G i 8 i = 16 := by
    rw [p1.2.1, if_pos rfl]
    omega
  have t1 := p1.2.2.2.2.1 i hi
  have p2 : isP (Bg1 G i) (Bg2 G i d) i 1 d (dk 2) 0 := ePt_P p1.2.2.2.2.1 hi (by omega) (fun k _ => dk_lt 2 k) (fun _ _ _ _ _ => rfl) p1.2.2.1 p1.2.2.2.1 (fun _ _ _ _ => ⟨rfl, rfl⟩) (fun _ _ => rfl) (by omega) (Nat.le_refl _) (by omega) (by omega) (by omega) rfl
  have h7G : G 7 = MK A i 1 a b 7 := u 7 (by omega) (by omega) (by omega) (by omega)
  have h7d : G 7 d = A 7 d := by rw [h7G, MK_f _ _ _ _ _ _ (by omega), if_neg hid]
  have hJd := (hI.2.2.2.2.2 d).1
  obtain ⟨c3, k1, k2, k3⟩ := kBegin a2 oM BM DMM hi hd (by omega) m4 m8 g1 g3 g4 hBG hG10 p1 p2 (by omega)
  obtain ⟨w1, w2, w3, w4, w5, w6, w7⟩ := Bg_rows hi h8i p1 p2 h7G
  have w2 := w2 hid
  have pv0 := pl_v g4 hBG (d := i) (s := 0) hi (by omega)
  have pv1 := pl_v g4 hBG (d := i) (s := 1) hi (by omega)
  have hmb := mBegins g4 hi hd g2 pv0.2.1 pv1.2.1
  have oP : oA (Bg3 G i d) := oA_7 p2.2.2.1 (by omega)
  have BP : BK (Bg3 G i d) := p2.2.2.2.1.cg (up_c _ (by omega)) (up_c _ (by omega)) (up_c _ (by omega)) (up_c _ (by omega))
  have MP : DM (Bg3 G i d) := by
    intro x hx
    have e10 : Bg3 G i d 10 = Bg2 G i d 10 := up_c _ (by omega)
    have e8 : Bg3 G i d 8 = Bg2 G i d 8 := up_c _ (by omega)
    rw [e10, e8]
    exact p2.2.2.2.2.1 x hx
  obtain ⟨v1, v2, v3, v4⟩ := Bg_IV hI hd hk4 hi hi0 h0 oP BP MP w1 w2 w3 w4 w5 w6
  have l2 : ∀ q, dr (dr (G 13) 1 14) 2 14 q < 256 := dr_lt (dr_lt g4.nm 1 14) 2 14
  generalize dr (dr (G 13) 1 14) 2 14 = rw2 at hmb l2
  generalize hP : Bg3 G i d = P at *
  have o3 := oA_13 oP _ l2
  have eu : ∀ k, k ≠ 13 → va_up P 13 rw2 k = P k := fun k hk => va_up_n _ _ _ hk
  have eA : ∀ k, (k = 0 ∨ 12 ≤ k) → P k = A k := fun k hk => by rw [w1 k (by omega) (by omega) (by omega) (by omega) (by omega) (by omega), mc k (by omega)]
  have hag := mAgain o3 (e := e) (k := k) (r := r) (by rw [eu 17 (by omega), eA 17 (by omega)]; exact n1) he n4 (by rw [eu 0 (by omega), eA 0 (by omega)]; exact n5) (by rw [eu 0 (by omega), eA 0 (by omega)]; exact n6) (by rw [eu 0 (by omega), eA 0 (by omega)]; exact n7) (by rw [eu 0 (by omega), eA 0 (by omega)]; exact n3)
  have oX : of3 P (NR (up (va_up P 13 rw2) 16 0 k) k (r - k)) := fun q h13 h16 h17 => by rw [NR_c _ _ _ h13 h16, up_c _ h16, eu q h13]
  have hI5 : IV (j + 1) (up (va_up P 13 rw2) 16 0 k) := v1.ofs (fun q h13 h15 h16 h17 => by rw [up_c _ h16, eu q h13]) (fun q => by rw [up_c _ (by omega), va_up_s]; exact l2 q) (by rw [up_c _ (by omega), eu 15 (by omega)]; exact oP.ty)
  have hI6 := hI5.nrr k (r - k)
  have n13 : ∀ q, q < 14 → NR (up (va_up P 13 rw2) 16 0 k) k (r - k) 13 q = A 13 q := by
    intro q hq
    rw [NR_13, n8 q hq]
    unfold nr
    rw [if_pos hq, up_c _ (by omega), eu 0 (by omega), eA 0 (by omega)]
  generalize hQ : NR (up (va_up P 13 rw2) 16 0 k) k (r - k) = Q at *
  have qe : ∀ q, q < 13 → Q q = P q := fun q hq => oX q (by omega) (by omega) (by omega)
  have Q7d : Q 7 d = A 7 d + 1 := by rw [qe 7 (by omega), w2, if_pos rfl]
  have Q7i : Q 7 i = 1 := by rw [qe 7 (by omega), w2, if_neg (fun q => hid q.symm), if_pos rfl]
  have Q4d : Q 4 d = 1 := by rw [qe 4 (by omega), w1 4 (by omega) (by omega) (by omega) (by omega) (by omega) (by omega), MK_f _ _ _ _ _ _ (by omega), if_neg hid]; exact hk4
  have Q8d : Q 8 d = A 8 d := by rw [qe 8 (by omega), w3, if_neg hid]
  have Q10d : Q 10 d = A 10 d := by rw [hI6.2.2.1.2.2.1 d hd, Q8d, hI.2.2.1.2.2.1 d hd]
  have Qnu : ∀ x p, nu Q x p = nu P x p := fun x p => by
    unfold nu pl
    rw [qe 2 (by omega), qe 11 (by omega)]
  have Qcn : cn Q i = 0 := by rw [cn_cg (qe 2 (by omega)) (qe 4 (by omega)) (qe 8 (by omega)) (qe 11 (by omega))]; exact v2
  have Qlf : lf Q + 1 = lf A := by
    have : lf Q = lf P := by
      unfold lf
      rw [qe 3 (by omega)]
    omega
  have hll := lf_le (A := A)
  have h7n : A 7 d ≠ 0 := fun q => by
    have : wt A d = 1000 := by
      unfold wt
      rw [if_pos q]
    omega
  have Qwt : wt Q d = wt A d := wt_cg (by rw [Q7d]; omega) Q8d Q10d (fun s hs => by rw [Qnu]; exact v3 s ⟨hd, hk4, hs⟩)
  have hRQ : RC c3 Q := rc_o3 k2 oX
  have hn4 : ∀ q, q < 14 → c3 4 q = Q 13 q := by
    intro q hq
    rw [k3 4 (by omega), fr_4 (fr_addBlock _ _ _) g1 a2.w g3.w, a3 4 (by omega), n2 q hq, n13 q hq]
  obtain ⟨c4, F, f1, f2, f3, f4, f5⟩ := putLast hRQ hI6.1 hI6.2.1 hI6.2.2.1 hd Q4d hi hn4 (by omega)
  refine ⟨c4, F, ?_, ?_, f3, ?_⟩
  · rw [a1, Option.bind_some, k1, Option.bind_some]
    unfold b_T_create_182
    rw [f1, Option.bind_some]
  · rw [hmb, Option.bind_some, hag, Option.bind_some]
    unfold b_M_create_195
    rw [f2, Option.bind_some]
  · refine hI6.put0 f4 hd Q4d ?_ (by rw [Qcn, Q7i]; exact Nat.le_refl _) hi1
    refine hI6.2.2.2.1.put f4 hI6.2.2.1.dS hI6.2.2.1.2.1 hd Q4d hi f5 (fun q => by rcases q with q | q; exact absurd q.symm hid; exact absurd q hi1) (fun _ _ _ _ => ⟨?_, fun s2 h1 h2 => ?_⟩)
    · rw [Qnu]
      exact w6.1
    · exfalso
      rw [Qnu] at h2
      refine v4 s2 ?_ h2
      obtain ⟨z1, z2, z3⟩ := h1
      exact ⟨z1, by rw [← qe 4 (by omega)]; exact z2, by rw [← qe 8 (by omega)]; exact z3⟩

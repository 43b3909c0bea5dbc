/-! a new inode -/
theorem leastBoth {c A : fb_N} (h : RC c A) (o : oA A) (x2 x3 x4 x5 : Int32) : ∀ n t, t ≤ 64 → 64 - t < n → ∃ u, t ≤ u ∧ u ≤ 64 ∧ (u < 64 → A 4 u = 0) ∧ l_I_leastFree_2 n (nI t) (ka c) = some (if u = 64 then -1 else nI u, ka c) ∧ l_M_create_83 n x2 x3 x4 x5 (nI t) (mu A) = b_M_create_106 x2 x3 x4 x5 (nI u) (mu A) := by
  intro n
  induction n with
  | zero => intro t _ h; omega
  | succ n ih =>
    intro t ht hn
    have e0 : l_I_leastFree_2 (n + 1) (nI t) (ka c) = b_I_leastFree_2 (l_I_leastFree_2 n) (nI t) (ka c) := rfl
    have e1 : l_M_create_83 (n + 1) x2 x3 x4 x5 (nI t) (mu A) = b_M_create_83 (l_M_create_83 n) x2 x3 x4 x5 (nI t) (mu A) := rfl
    rw [e0, e1]
    unfold b_I_leastFree_2 b_M_create_83
    by_cases z : t = 64
    · subst z
      rw [if_pos (show (64 : Int32) ≤ nI 64 by decide), if_pos (show (64 : Int32) ≤ nI 64 by decide)]
      exact ⟨64, by omega, by omega, fun q => by omega, by rw [if_pos rfl], rfl⟩
    · have h4 := o.ki t
      rw [if_neg (show ¬ (64 : Int32) ≤ nI t from nLe' (a := 64) (by omega) (by omega)), if_neg (show ¬ (64 : Int32) ≤ nI t from nLe' (a := 64) (by omega) (by omega)), iUse h o (by omega), Option.bind_some, ld_nI (by omega) (by omega), Option.bind_some, mu_4]
      by_cases z4 : A 4 t = 0
      · rw [if_pos z4, if_pos rfl, if_pos (show nI (A 4 t) ≤ (0 : Int32) from by rw [z4]; decide)]
        exact ⟨t, by omega, by omega, fun _ => z4, by rw [if_neg z], rfl⟩
      · rw [if_neg z4, if_neg n01, if_neg (show ¬ nI (A 4 t) ≤ (0 : Int32) from fun q => by have := (nLe (b := 0) (by omega) (by omega)).mp q; omega)]
        obtain ⟨u, g1, g2, g3, g4, g5⟩ := ih (t + 1) (by omega) (by omega)
        rw [← nI_add t 1] at g4 g5
        exact ⟨u, by omega, g2, g3, g4, g5⟩
def MK (A : fb_N) (i k a b : Nat) : fb_N := up (up (up (up A 4 i k) 5 i a) 6 i b) 7 i 1
theorem MK_c (A : fb_N) (i k a b : Nat) {j : Nat} (h : j < 4 ∨ 7 < j) : MK A i k a b j = A j := by
  unfold MK
  rw [up_c _ (by omega), up_c _ (by omega), up_c _ (by omega), up_c _ (by omega)]
theorem MK_f (A : fb_N) (i k a b x : Nat) {f : Nat} (hf : f = 4 ∨ f = 5 ∨ f = 6 ∨ f = 7) : MK A i k a b f x = if x = i then (if f = 4 then k else if f = 5 then a else if f = 6 then b else 1) else A f x := by
  unfold MK
  by_cases e : x = i
  · subst e
    rw [if_pos rfl]
    rcases hf with rfl | rfl | rfl | rfl
    · rw [up_n _ (by omega), up_n _ (by omega), up_n _ (by omega), up_s]
      rfl
    · rw [up_n _ (by omega), up_n _ (by omega), up_s]
      rfl
    · rw [up_n _ (by omega), up_s]
      rfl
    · rw [up_s]
      rfl
  · rw [if_neg e, up_n _ (Or.inr e), up_n _ (Or.inr e), up_n _ (Or.inr e), up_n _ (Or.inr e)]
theorem kSetF {c A : fb_N} (h : RC c A) {f i : Nat} (hf : f = 4 ∨ f = 5 ∨ f = 6 ∨ f = 7) (hi : i < 64) (y : Int32) : ∃ c2, f_K_setPart (nI (33792 + 64 * i) + nI (2 * (f - 4))) (65535 : Int32) y (ka c) = some (0, ka c2) ∧ RC c2 (up A f i (un y % 65536)) ∧ ∀ k, k ≠ 0 → c2 k = c k := by
  refine ⟨_, ?_, rc2b h hf hi (un y % 65536), fun k hk => by rw [up_c _ hk, up_c _ hk]⟩
  rw [nI_add, kSet16 h.w (by omega) (by omega), show un y % 65536 % 256 = un y % 256 by omega, show un y % 65536 / 256 % 256 = un y / 256 % 256 by omega]
theorem kMake {c A : fb_N} (h : RC c A) {i : Nat} (hi : i < 64) (x2 x3 x4 : Int32) : ∃ c2, f_I_make (nI i) x2 x3 x4 (ka c) = some (0, ka c2) ∧ RC c2 (MK A i (un x2 % 65536) (un x3 % 65536) (un x4 % 65536)) ∧ ∀ k, k ≠ 0 → c2 k = c k := by
  obtain ⟨c1, a1, a2, a3⟩ := kSetF h (f := 4) (by omega) hi x2
  obtain ⟨c2, b1, b2, b3⟩ := kSetF a2 (f := 5) (by omega) hi x3
  obtain ⟨c3, d1, d2, d3⟩ := kSetF b2 (f := 6) (by omega) hi x4
  obtain ⟨c4, e1, e2, e3⟩ := kSetF d2 (f := 7) (by omega) hi (1 : Int32)
  have a1 : f_K_setPart (nI (33792 + 64 * i) + (0 : Int32)) (65535 : Int32) x2 (ka c) = some (0, ka c1) := a1
  have b1 : f_K_setPart (nI (33792 + 64 * i) + (2 : Int32)) (65535 : Int32) x3 (ka c1) = some (0, ka c2) := b1
  have d1 : f_K_setPart (nI (33792 + 64 * i) + (4 : Int32)) (65535 : Int32) x4 (ka c2) = some (0, ka c3) := d1
  have e1 : f_K_setPart (nI (33792 + 64 * i) + (6 : Int32)) (65535 : Int32) (1 : Int32) (ka c3) = some (0, ka c4) := e1
  refine ⟨c4, ?_, e2, fun k hk => by rw [e3 k hk, d3 k hk, b3 k hk, a3 k hk]⟩
  unfold f_I_make
  rw [iIs _ hi, Option.bind_some, if_neg n01, iPl, Option.bind_some, a1, Option.bind_some, b1, Option.bind_some, d1, Option.bind_some, e1, Option.bind_some]
theorem and16 (x : Int32) : x &&& (65535 : Int32) = nI (un x % 65536) := by
  have h := nAnd16 (un x)
  rw [nI_un] at h
  exact h
theorem oA_MK {A : fb_N} (o : oA A) {i k a b : Nat} (hi : i ≠ 1) (hk : k ≤ 3) (ha : a < 65536) (hb : b < 65536) : oA (MK A i k a b) := by
  have k2 := o.ki
  have k5 := o.ma
  have k6 := o.mi
  have k7 := o.li
  have krt := o.rt
  obtain ⟨g1, g2, g3, g4, g5, g6, g7, g8, g9, g10, g11, g12, g13⟩ := o
  have u : ∀ j, (j < 4 ∨ 7 < j) → MK A i k a b j = A j := fun j hj => MK_c A i k a b hj
  refine ⟨fun j q hj => by rw [u j (by omega)]; exact g1 j q hj, fun x => ?_, fun x => ?_, fun x => ?_, fun x => ?_, by rw [u 8 (by omega)]; exact g6, by rw [u 9 (by omega)]; exact g7, by rw [u 10 (by omega)]; exact g8, by rw [u 11 (by omega)]; exact g9, by rw [u 3 (by omega)]; exact g10, by rw [u 14 (by omega)]; exact g11, by rw [u 15 (by omega)]; exact g12, by rw [u 12 (by omega)]; exact g13⟩
  · rw [MK_f A i k a b x (by omega)]
    by_cases e : x = i
    · rw [if_pos e, if_pos rfl]; exact ⟨hk, fun q => by omega⟩
    · rw [if_neg e]; exact ⟨k2 x, fun q => by rw [q]; exact krt⟩
  · rw [MK_f A i k a b x (by omega)]
    by_cases e : x = i
    · rw [if_pos e, if_neg (by omega), if_pos rfl]; exact ha
    · rw [if_neg e]; exact k5 x
  · rw [MK_f A i k a b x (by omega)]
    by_cases e : x = i
    · rw [if_pos e, if_neg (by omega), if_neg (by omega), if_pos rfl]; exact hb
    · rw [if_neg e]; exact k6 x
  · rw [MK_f A i k a b x (by omega)]
    by_cases e : x = i
    · rw [if_pos e, if_neg (by omega), if_neg (by omega), if_neg (by omega)]; omega
    · rw [if_neg e]; exact k7 x
theorem ff_cg {A B : fb_N} {d : Nat} (e8 : B 8 d = A 8 d) (hn : ∀ s, 16 * s < A 8 d → nu B d (16 * s) = nu A d (16 * s)) : ff B d = ff A d := by
  unfold ff
  rw [e8]
  apply fe_cg
  intro t _ ht
  rw [hn t (by omega)]
theorem wt_cg {A B : fb_N} {d : Nat} (e7 : B 7 d = 0 ↔ A 7 d = 0) (e8 : B 8 d = A 8 d) (e10 : B 10 d = A 10 d) (hn : ∀ s, 16 * s < A 8 d → nu B d (16 * s) = nu A d (16 * s)) : wt B d = wt A d := by
  unfold wt
  rw [ff_cg e8 hn, e8, e10]
  by_cases z : A 7 d = 0
  · rw [if_pos z, if_pos (e7.mpr z)]
  · rw [if_neg z, if_neg (fun q => z (e7.mp q))]
theorem IV.put0 {j : Nat} {A F : fb_N} {d t i w : Nat} {nm : Nat → Nat} (hI : IV j A) (h : isP A F d t i nm w) (hd : d < 64) (hk : A 4 d = 1) (hEN : EN F) (hcn : cn A i + 1 ≤ A 7 i) (hi1 : i ≠ 1) : IV j F := by
  obtain ⟨o, hB, hD, hE, hL, hJ⟩ := hI
  have e7 : F 7 = A 7 := h.1 7 (by omega) (by omega) (by omega) (by omega) (by omega)
  have e9 : F 9 = A 9 := h.1 9 (by omega) (by omega) (by omega) (by omega) (by omega)
  refine ⟨h.2.2.1, h.2.2.2.1, hD.put h hd hk, hEN, ?_, ?_⟩
  · intro x hx h0
    have g1 := cn_put h hD.dS hd hk x
    have g2 := hL x hx h0
    rw [e7]
    by_cases e : x = i
    · rw [if_pos e] at g1
      rw [e] at g1 ⊢
      rw [if_neg hi1]
      omega
    · rw [if_neg e] at g1
      omega
  · intro x
    rw [e7, e9]
    exact hJ x
theorem MK_IV {j : Nat} {A : fb_N} (hI : IV j A) {i k a b : Nat} (hi : i < 64) (h0 : A 4 i = 0) (hi0 : 0 < i) (hk : k = 2 ∨ k = 3) (ha : a < 65536) (hb : b < 65536) : IV j (MK A i k a b) ∧ cn (MK A i k a b) i = 0 := by
  have hi1 : i ≠ 1 := fun q => by have := hI.1.rt; rw [← q] at this; omega
  obtain ⟨o, hB, hD, hE, hL, hJ⟩ := hI
  have u : ∀ j, (j < 4 ∨ 7 < j) → MK A i k a b j = A j := fun j hj => MK_c A i k a b hj
  have hz := hD.1 i hi h0
  have hW : sW A (MK A i k a b) := by
    intro d hd h4
    rw [MK_f A i k a b d (by omega)] at h4
    by_cases e : d = i
    · rw [if_pos e, if_pos rfl] at h4; omega
    · rw [if_neg e] at h4
      refine ⟨h4, by rw [u 8 (by omega)], fun p _ => ⟨?_, by rw [u 2 (by omega)]⟩⟩
      unfold pl
      rw [u 11 (by omega)]
  have hc := cn_wk hD.dS hW i
  have hLi := hL i hi hi0
  refine ⟨⟨oA_MK o hi1 (by omega) ha hb, hB.cg (u 2 (by omega)) (u 3 (by omega)) (u 10 (by omega)) (u 11 (by omega)), ?_, hE.wk hD.dS hW, hL.wk hD.dS hW (fun x _ _ => ?_), ?_⟩, by omega⟩
  · obtain ⟨d1, d2, d3, d4⟩ := hD
    refine ⟨fun x hx hq => ?_, ?_, by rw [u 10 (by omega), u 8 (by omega)]; exact d3, fun x hx hq => ?_⟩
    · rw [MK_f A i k a b x (by omega)] at hq
      by_cases e : x = i
      · rw [if_pos e, if_pos rfl] at hq; omega
      · rw [if_neg e] at hq
        rw [MK_f A i k a b x (by omega), MK_f A i k a b x (by omega), MK_f A i k a b x (by omega), if_neg e, if_neg e, if_neg e, u 8 (by omega), u 9 (by omega)]
        exact d1 x hx hq
    · rw [MK_f A i k a b 0 (by omega), if_neg (by omega)]; exact d2
    · rw [MK_f A i k a b x (by omega)] at hq
      by_cases e : x = i
      · rw [if_pos e, if_pos rfl] at hq; omega
      · rw [if_neg e] at hq
        rw [u 8 (by omega)]
        exact d4 x hx hq
  · rw [MK_f A i k a b x (by omega)]
    by_cases e : x = i
    · rw [if_pos e, e, hz.2.2.1]; omega
    · rw [if_neg e]; exact Nat.le_refl _
  · intro x
    rw [u 9 (by omega), MK_f A i k a b x (by omega)]
    have := hJ x
    by_cases e : x = i
    · rw [if_pos e, if_neg (by omega), if_neg (by omega), if_neg (by omega)]; exact ⟨by omega, this.2⟩
    · rw [if_neg e]; exact this
theorem MK_nu (A : fb_N) (i k a b d p : Nat) : nu (MK A i k a b) d p = nu A d p := by
  unfold nu pl
  rw [MK_c A i k a b (by omega), MK_c A i k a b (by omega)]
theorem MK_lf (A : fb_N) (i k a b : Nat) : lf (MK A i k a b) = lf A := by
  unfold lf
  rw [MK_c A i k a b (by omega)]
theorem crF {j : Nat} {c A : fb_N} (hR : RC c A) (hI : IV j A) {d i k : Nat} (hd : d < 64) (hk4 : A 4 d = 1) (hi : i < 64) (hi0 : 0 < i) (h0 : A 4 i = 0) (hk : k = 2 ∨ k = 3) (hn : ∀ k, k < 14 → c 4 k = A 13 k) (hw : wt A d ≤ lf A) (x3 x4 : Int32) : ∃ c2 F, ((f_I_make (nI i) (nI k) x3 x4 (ka c)).bind fun r4 => b_T_create_182 (nI d) (nI i) r4.2) = some (nI i, ka c2) ∧ b_M_create_195 (nI d) (nI i) (mu (MK A i k (un x3 % 65536) (un x4 % 65536))) = some (nI i, mu F) ∧ RC c2 F ∧ IV j F := by
  obtain ⟨c1, a1, a2, a3⟩ := kMake hR hi (nI k) x3 x4
  have ek : un (nI k) % 65536 = k := by rw [un_nI]; omega
  rw [ek] at a2
  obtain ⟨hM, hc⟩ := MK_IV hI (a := un x3 % 65536) (b := un x4 % 65536) hi h0 hi0 hk (by omega) (by omega)
  have hid : d ≠ i := fun q => by rw [q] at hk4; omega
  have hi1 : i ≠ 1 := fun q => by have := hI.1.rt; rw [← q] at this; omega
  have f7 : MK A i k (un x3 % 65536) (un x4 % 65536) 7 d = A 7 d := by rw [MK_f _ _ _ _ _ _ (by omega), if_neg hid]
  have f7i : MK A i k (un x3 % 65536) (un x4 % 65536) 7 i = 1 := by rw [MK_f _ _ _ _ _ _ (by omega), if_pos rfl]; rfl
  have f4 : MK A i k (un x3 % 65536) (un x4 % 65536) 4 d = 1 := by rw [MK_f _ _ _ _ _ _ (by omega), if_neg hid]; exact hk4
  have f4i : MK A i k (un x3 % 65536) (un x4 % 65536) 4 i = k := by rw [MK_f _ _ _ _ _ _ (by omega), if_pos rfl]; rfl
  have hwt : wt (MK A i k (un x3 % 65536) (un x4 % 65536)) d = wt A d := wt_cg (by rw [f7]) (by rw [MK_c _ _ _ _ _ (by omega)]) (by rw [MK_c _ _ _ _ _ (by omega)]) (fun s _ => MK_nu _ _ _ _ _ _ _)
  obtain ⟨c2, F, g1, g2, g3, g4, g5⟩ := putLast a2 hM.1 hM.2.1 hM.2.2.1 hd f4 hi (fun k hk => by rw [a3 4 (by omega), MK_c _ _ _ _ _ (by omega)]; exact hn k hk) (by rw [hwt, MK_lf]; exact hw)
  refine ⟨c2, F, ?_, ?_, g3, ?_⟩
  · rw [a1, Option.bind_some]
    unfold b_T_create_182
    rw [g1, Option.bind_some]
  · unfold b_M_create_195
    rw [g2, Option.bind_some]
  · refine hM.put0 g4 hd f4 ?_ (by rw [hc, f7i]; exact Nat.le_refl _) hi1
    exact hM.2.2.2.1.put g4 hM.2.2.1.dS hM.2.2.1.2.1 hd f4 hi g5 (fun q => by rcases q with q | q; exact absurd q.symm hid; exact absurd q hi1) (fun _ _ q => by rw [f4i] at q; omega)

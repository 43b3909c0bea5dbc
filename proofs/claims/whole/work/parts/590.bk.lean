/-! the blocks' rows hold behind a grow -/
/-- a state in which i has got block k (b2), and before it, if k is 12, the block of numbers b1 -/
def isG (A F : fb_N) (i k b1 b2 : Nat) : Prop :=
  (∀ x, F 3 x = if x = b2 ∨ (k = 12 ∧ x = b1) then 1 else A 3 x) ∧ (∀ x, F 10 x = if x = i then k + 1 else A 10 x) ∧ (∀ q, F 11 q = if q = 269 * i + k then b2 else if k = 12 ∧ q = 269 * i + 268 then b1 else A 11 q) ∧
  (∀ q, F 2 q = if 12 ≤ k ∧ 1024 * b1 + 4 * (k - 12) ≤ q ∧ q < 1024 * b1 + 4 * (k - 12) + 4 then le b2 (q - (1024 * b1 + 4 * (k - 12))) else if (1024 * b2 ≤ q ∧ q < 1024 * b2 + 1024) ∨ (k = 12 ∧ 1024 * b1 ≤ q ∧ q < 1024 * b1 + 1024) then 0 else A 2 q) ∧
  (∀ j, j ≠ 2 → j ≠ 3 → j ≠ 10 → j ≠ 11 → F j = A j)
theorem tk_2 (A : fb_N) (b q : Nat) : tk A b 2 q = if 1024 * b ≤ q ∧ q < 1024 * b + 1024 then 0 else A 2 q := by
  unfold tk
  rw [va_up_s]
  rfl
theorem tk_3 (A : fb_N) (b x : Nat) : tk A b 3 x = if x = b then 1 else A 3 x := by
  unfold tk
  rw [va_up_n _ _ _ (by omega)]
  by_cases e : x = b
  · rw [if_pos e, e, up_s]
  · rw [if_neg e, up_n _ (Or.inr e)]
theorem gA_G {A : fb_N} {i b : Nat} (h12 : A 10 i ≠ 12) : isG A (gA A i b) i (A 10 i) (A 11 (269 * i + 268)) b := by
  unfold gA
  by_cases hk : A 10 i < 12
  · rw [if_pos hk]
    refine ⟨fun x => ?_, fun x => ?_, fun q => ?_, fun q => ?_, fun j h1 h2 h3 h4 => ?_⟩
    · rw [up_n _ (by omega), up_n _ (by omega), tk_3]
      by_cases e : x = b
      · rw [if_pos e, if_pos (Or.inl e)]
      · rw [if_neg e, if_neg (by omega)]
    · by_cases e : x = i
      · rw [if_pos e, e, up_s]
      · rw [if_neg e, up_n _ (Or.inr e), up_n _ (by omega), tk_c _ _ (by omega) (by omega)]
    · rw [up_n _ (by omega)]
      by_cases e : q = 269 * i + A 10 i
      · rw [if_pos e, e, up_s]
      · rw [if_neg e, up_n _ (Or.inr e), if_neg (by omega), tk_c _ _ (by omega) (by omega)]
    · rw [up_n _ (by omega), up_n _ (by omega), tk_2, if_neg (show ¬ (12 ≤ A 10 i ∧ _) by omega)]
      by_cases e : 1024 * b ≤ q ∧ q < 1024 * b + 1024
      · rw [if_pos e, if_pos (Or.inl e)]
      · rw [if_neg e, if_neg (by omega)]
    · rw [up_c _ h3, up_c _ h4, tk_c _ _ h1 h2]
  · rw [if_neg hk]
    refine ⟨fun x => ?_, fun x => ?_, fun q => ?_, fun q => ?_, fun j h1 h2 h3 h4 => ?_⟩
    · rw [up_n _ (by omega), va_up_n _ _ _ (by omega), up_n _ (by omega), tk_3]
      by_cases e : x = b
      · rw [if_pos e, if_pos (Or.inl e)]
      · rw [if_neg e, if_neg (by omega)]
    · by_cases e : x = i
      · rw [if_pos e, e, up_s]
      · rw [if_neg e, up_n _ (Or.inr e), va_up_n _ _ _ (by omega), up_n _ (by omega), tk_c _ _ (by omega) (by omega)]
    · rw [up_n _ (by omega), va_up_n _ _ _ (by omega)]
      by_cases e : q = 269 * i + A 10 i
      · rw [if_pos e, e, up_s]
      · rw [if_neg e, up_n _ (Or.inr e), if_neg (by omega), tk_c _ _ (by omega) (by omega)]
    · rw [up_n _ (by omega), va_up_s]
      unfold pn
      by_cases z : 1024 * A 11 (269 * i + 268) + 4 * (A 10 i - 12) ≤ q ∧ q < 1024 * A 11 (269 * i + 268) + 4 * (A 10 i - 12) + 4
      · rw [if_pos z, if_pos ⟨by omega, z⟩]
      · rw [if_neg z, if_neg (fun w => z w.2), tk_2]
        by_cases e : 1024 * b ≤ q ∧ q < 1024 * b + 1024
        · rw [if_pos e, if_pos (Or.inl e)]
        · rw [if_neg e, if_neg (by omega)]
    · rw [up_c _ h3, va_up_n _ _ _ h1, up_c _ h4, tk_c _ _ h1 h2]
theorem gA_G12 {A : fb_N} {i b1 b2 : Nat} (h12 : A 10 i = 12) : isG A (gA (hA A i b1) i b2) i 12 b1 b2 := by
  have e10 : hA A i b1 10 i = 12 := by unfold hA; rw [up_c _ (by omega), tk_c _ _ (by omega) (by omega), h12]
  have e268 : hA A i b1 11 (269 * i + 268) = b1 := by unfold hA; rw [up_s]
  unfold gA
  rw [e10, if_neg (by omega), e268]
  refine ⟨fun x => ?_, fun x => ?_, fun q => ?_, fun q => ?_, fun j h1 h2 h3 h4 => ?_⟩
  · rw [up_n _ (by omega), va_up_n _ _ _ (by omega), up_n _ (by omega), tk_3]
    by_cases e : x = b2
    · rw [if_pos e, if_pos (Or.inl e)]
    · rw [if_neg e]
      unfold hA
      rw [up_n _ (by omega), tk_3]
      by_cases e1 : x = b1
      · rw [if_pos e1, if_pos (Or.inr ⟨rfl, e1⟩)]
      · rw [if_neg e1, if_neg (by omega)]
  · by_cases e : x = i
    · rw [if_pos e, e, up_s]
    · rw [if_neg e, up_n _ (Or.inr e), va_up_n _ _ _ (by omega), up_n _ (by omega), tk_c _ _ (by omega) (by omega)]
      unfold hA
      rw [up_n _ (by omega), tk_c _ _ (by omega) (by omega)]
  · rw [up_n _ (by omega), va_up_n _ _ _ (by omega)]
    by_cases e : q = 269 * i + 12
    · rw [if_pos e, e, up_s]
    · rw [if_neg e, up_n _ (Or.inr e), tk_c _ _ (by omega) (by omega)]
      unfold hA
      by_cases e1 : q = 269 * i + 268
      · rw [if_pos ⟨rfl, e1⟩, e1, up_s]
      · rw [if_neg (by omega), up_n _ (Or.inr e1), tk_c _ _ (by omega) (by omega)]
  · rw [up_n _ (by omega), va_up_s]
    unfold pn
    by_cases z : 1024 * b1 + 4 * (12 - 12) ≤ q ∧ q < 1024 * b1 + 4 * (12 - 12) + 4
    · rw [if_pos z, if_pos ⟨by omega, z⟩]
    · rw [if_neg z, if_neg (fun w => z w.2), tk_2]
      by_cases e : 1024 * b2 ≤ q ∧ q < 1024 * b2 + 1024
      · rw [if_pos e, if_pos (Or.inl e)]
      · rw [if_neg e]
        unfold hA
        rw [up_n _ (by omega), tk_2]
        by_cases e1 : 1024 * b1 ≤ q ∧ q < 1024 * b1 + 1024
        · rw [if_pos e1, if_pos (Or.inr ⟨rfl, e1⟩)]
        · rw [if_neg e1, if_neg (by omega)]
  · rw [up_c _ h3, va_up_n _ _ _ h1, up_c _ h4, tk_c _ _ h1 h2]
    unfold hA
    rw [up_c _ h4, tk_c _ _ h1 h2]
/-- the blocks that may be taken for it -/
def frG (A : fb_N) (i k b1 b2 : Nat) : Prop := A 10 i = k ∧ k < 268 ∧ 38 ≤ b2 ∧ b2 < 512 ∧ A 3 b2 = 0 ∧ (k = 12 → 38 ≤ b1 ∧ b1 < 512 ∧ A 3 b1 = 0 ∧ b1 ≠ b2) ∧ (k ≠ 12 → b1 = A 11 (269 * i + 268))
theorem bk_old {A F : fb_N} {i k b1 b2 d x : Nat} (hB : BK A) (hG : isG A F i k b1 b2) (hf : frG A i k b1 b2) (hi : i < 64) (hd : d < 64) (hv : vl A d x) (hx : x < 269) : vl F d x ∧ F 11 (269 * d + x) = A 11 (269 * d + x) ∧ A 11 (269 * d + x) ≠ b2 ∧ (k = 12 → A 11 (269 * d + x) ≠ b1) := by
  obtain ⟨hG3, hG10, hG11, hG2, hGo⟩ := hG
  obtain ⟨f1, f2, f3, f4, f5, f6, f7⟩ := hf
  obtain ⟨B1, B2, B3, B4, B5, B6⟩ := hB
  have h1 := B1 d x hd hv
  have hv2 := hv
  unfold vl at hv2 ⊢
  refine ⟨?_, ?_, ?_, ?_⟩
  · rw [hG10]
    split
    · rename_i e
      subst e
      omega
    · omega
  · rw [hG11, if_neg, if_neg]
    · intro q
      obtain ⟨q1, q2⟩ := q
      have : d = i := by omega
      subst this
      omega
    · intro q
      have : d = i := by omega
      subst this
      omega
  · intro q
    rw [q] at h1
    omega
  · intro q1 q
    have := f6 q1
    rw [q] at h1
    omega
theorem bk_new {A F : fb_N} {i k b1 b2 d x : Nat} (hG : isG A F i k b1 b2) (hf : frG A i k b1 b2) (hi : i < 64) (hd : d < 64) (hx : x < 269) (hv : vl F d x) (hn : ¬ vl A d x) : d = i ∧ ((x = k ∧ F 11 (269 * d + x) = b2) ∨ (k = 12 ∧ x = 268 ∧ F 11 (269 * d + x) = b1)) := by
  obtain ⟨hG3, hG10, hG11, hG2, hGo⟩ := hG
  obtain ⟨f1, f2, f3, f4, f5, f6, f7⟩ := hf
  unfold vl at hv hn
  rw [hG10] at hv
  by_cases e : d = i
  · rw [if_pos e] at hv
    subst e
    refine ⟨rfl, ?_⟩
    rcases (show x = k ∨ (k = 12 ∧ x = 268) by omega) with z | z
    · left
      exact ⟨z, by rw [hG11, if_pos (by omega)]⟩
    · right
      exact ⟨z.1, z.2, by rw [hG11, if_neg (by omega), if_pos (by omega)]⟩
  · rw [if_neg e] at hv
    exact absurd hv hn
/-- what stands in the blocks of files stays, but for the numbers -/
theorem bk_data {A F : fb_N} {i k b1 b2 d x q : Nat} (hB : BK A) (hG : isG A F i k b1 b2) (hf : frG A i k b1 b2) (hi : i < 64) (hd : d < 64) (hv : vl A d x) (hx : x < 269) (hni : ¬ (d = i ∧ x = 268)) (hq : q / 1024 = A 11 (269 * d + x)) : F 2 q = A 2 q := by
  obtain ⟨o1, o2, o3, o4⟩ := bk_old hB hG hf hi hd hv hx
  obtain ⟨hG3, hG10, hG11, hG2, hGo⟩ := hG
  obtain ⟨f1, f2, f3, f4, f5, f6, f7⟩ := hf
  rw [hG2, if_neg, if_neg]
  · intro z
    rcases z with z | z
    · omega
    · have := o4 z.1
      omega
  · intro z
    by_cases e : k = 12
    · have := o4 e
      omega
    · have hb1 := f7 e
      have hvi : vl A i 268 := Or.inr ⟨rfl, by omega⟩
      have h3 := hB.2.2.1 d x i 268 hd hi hv hvi (by omega)
      exact hni h3
theorem le_0 (t : Nat) : le 0 t = 0 := by unfold le; simp
theorem gBK {A F : fb_N} {i k b1 b2 : Nat} (hB : BK A) (hm : ∀ d, A 10 d ≤ 268) (hG : isG A F i k b1 b2) (hf : frG A i k b1 b2) (hi : i < 64) : BK F := by
  have hold := fun d x hd hv hx => bk_old (d := d) (x := x) hB hG hf hi hd hv hx
  have hnew := fun d x hd hx hv hn => bk_new (d := d) (x := x) hG hf hi hd hx hv hn
  have hdat := fun d x q hd hv hx hn hq => bk_data (d := d) (x := x) (q := q) hB hG hf hi hd hv hx hn hq
  obtain ⟨hG3, hG10, hG11, hG2, hGo⟩ := id hG
  obtain ⟨f1, f2, f3, f4, f5, f6, f7⟩ := id hf
  obtain ⟨B1, B2, B3, B4, B5, B6⟩ := id hB
  have hlt : ∀ d x, vl F d x → x < 269 := by
    intro d x hv
    unfold vl at hv
    rw [hG10] at hv
    have := hm d
    split at hv <;> omega
  have hb1 : 12 ≤ k → 38 ≤ b1 ∧ b1 ≠ b2 := by
    intro h
    by_cases e : k = 12
    · exact ⟨(f6 e).1, (f6 e).2.2.2⟩
    · have h1 := B1 i 268 hi (Or.inr ⟨rfl, by omega⟩)
      rw [← f7 e] at h1
      refine ⟨h1.1, fun q => ?_⟩
      rw [q] at h1
      omega
  refine ⟨?_, ?_, ?_, ?_, ?_, ?_⟩
  · intro d x hd hv
    by_cases hA : vl A d x
    · obtain ⟨-, o2, -, -⟩ := hold d x hd hA (hlt d x hv)
      have h1 := B1 d x hd hA
      rw [o2]
      refine ⟨h1.1, ?_⟩
      rw [hG3, h1.2]
      split <;> rfl
    · obtain ⟨-, z⟩ := hnew d x hd (hlt d x hv) hv hA
      rcases z with ⟨-, z⟩ | ⟨z1, -, z⟩
      · rw [z]
        exact ⟨f3, by rw [hG3, if_pos (Or.inl rfl)]⟩
      · rw [z]
        exact ⟨(f6 z1).1, by rw [hG3, if_pos (Or.inr ⟨z1, rfl⟩)]⟩
  · intro d x hd hx hn
    have hnA : ¬ vl A d x := fun hA => hn (hold d x hd hA hx).1
    unfold vl at hn
    rw [hG10] at hn
    rw [hG11, if_neg, if_neg, B2 d x hd hx hnA]
    · intro q
      have : d = i := by omega
      rw [if_pos this] at hn
      omega
    · intro q
      have : d = i := by omega
      rw [if_pos this] at hn
      omega
  · intro d x d2 x2 hd hd2 hv hv2 he
    have hx := hlt d x hv
    have hx2 := hlt d2 x2 hv2
    by_cases hA : vl A d x
    · obtain ⟨-, o2, o3, o4⟩ := hold d x hd hA hx
      by_cases hA2 : vl A d2 x2
      · obtain ⟨-, p2, p3, p4⟩ := hold d2 x2 hd2 hA2 hx2
        rw [o2, p2] at he
        exact B3 d x d2 x2 hd hd2 hA hA2 he
      · obtain ⟨-, z⟩ := hnew d2 x2 hd2 hx2 hv2 hA2
        exfalso
        rcases z with ⟨-, z⟩ | ⟨z1, -, z⟩
        · rw [o2, z] at he
          exact o3 he
        · rw [o2, z] at he
          exact o4 z1 he
    · obtain ⟨y1, y⟩ := hnew d x hd hx hv hA
      by_cases hA2 : vl A d2 x2
      · obtain ⟨-, p2, p3, p4⟩ := hold d2 x2 hd2 hA2 hx2
        exfalso
        rcases y with ⟨-, z⟩ | ⟨z1, -, z⟩
        · rw [p2, z] at he
          exact p3 he.symm
        · rw [p2, z] at he
          exact p4 z1 he.symm
      · obtain ⟨z1, z⟩ := hnew d2 x2 hd2 hx2 hv2 hA2
        refine ⟨by omega, ?_⟩
        rcases y with ⟨ya, yb⟩ | ⟨ya, yb, yc⟩
        · rcases z with ⟨za, zb⟩ | ⟨za, zb, zc⟩
          · omega
          · exfalso
            rw [yb, zc] at he
            exact (f6 za).2.2.2 he.symm
        · rcases z with ⟨za, zb⟩ | ⟨za, zb, zc⟩
          · exfalso
            rw [yc, zb] at he
            exact (f6 ya).2.2.2 he
          · omega
  · intro b hb
    rw [hG3, B4 b hb]
    split <;> rfl
  · intro d x t hd h12 hx1 hx2 ht
    rw [hG10] at h12
    by_cases e : d = i
    · subst e
      rw [if_pos rfl] at h12
      have hb := hb1 (by omega)
      have e268 : F 11 (269 * d + 268) = b1 := by
        rw [hG11, if_neg (by omega)]
        by_cases z : k = 12
        · rw [if_pos ⟨z, rfl⟩]
        · rw [if_neg (by omega), f7 z]
      rw [e268]
      by_cases ex : x = k
      · subst ex
        rw [hG2, if_pos (by omega), hG11, if_pos rfl, show 1024 * b1 + 4 * (x - 12) + t - (1024 * b1 + 4 * (x - 12)) = t by omega]
      · have eF : F 11 (269 * d + x) = A 11 (269 * d + x) := by rw [hG11, if_neg (by omega), if_neg (by omega)]
        rw [eF, hG2, if_neg (by omega)]
        by_cases z : k = 12
        · rw [if_pos (Or.inr ⟨z, by omega, by omega⟩), B2 d x hd (by omega) (by unfold vl; omega), le_0]
        · rw [if_neg (by omega), f7 z]
          exact B5 d x t hd (by omega) hx1 hx2 ht
    · rw [if_neg e] at h12
      have hv : vl A d 268 := Or.inr ⟨rfl, h12⟩
      obtain ⟨-, o2, -, -⟩ := hold d 268 hd hv (by omega)
      rw [o2, hdat d 268 _ hd hv (by omega) (by omega) (by omega), B5 d x t hd h12 hx1 hx2 ht, hG11, if_neg (by omega), if_neg (by omega)]
  · intro q hq
    rw [hG2, if_neg (fun z => by have := hb1 z.1; omega), B6 q hq]
    split <;> rfl

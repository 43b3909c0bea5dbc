/-! growing, as an entry sees it -/
theorem lf_G {A G : fb_N} {i k b1 b2 : Nat} (oG : oA G) (hG : isG A G i k b1 b2) (hf : frG A i k b1 b2) : lf G + (if k = 12 then 2 else 1) = lf A := by
  obtain ⟨-, -, f3, f4, f5, f6, -⟩ := hf
  have h3 : sg (G 3) 512 ≤ 512 := sg_le 512 (fun x _ => oG.us x)
  by_cases e : k = 12
  · rw [if_pos e]
    obtain ⟨g1, g2, g3, g4⟩ := f6 e
    have e1 : G 3 = un1 (un1 (A 3) b1 1) b2 1 := by
      funext x
      rw [hG.1 x]
      unfold un1
      by_cases q : x = b2
      · rw [if_pos (Or.inl q), if_pos q]
      · rw [if_neg q]
        by_cases q2 : x = b1
        · rw [if_pos (Or.inr ⟨e, q2⟩), if_pos q2]
        · rw [if_neg (fun z => by rcases z with z | z; exact q z; exact q2 z.2), if_neg q2]
    have a1 := sg_up (A 3) b1 1 512 g2
    have a2 := sg_up (un1 (A 3) b1 1) b2 1 512 f4
    rw [un1_n _ _ (fun q => g4 q.symm)] at a2
    unfold lf
    rw [e1] at h3 ⊢
    omega
  · rw [if_neg e]
    have e1 : G 3 = un1 (A 3) b2 1 := by
      funext x
      rw [hG.1 x]
      unfold un1
      by_cases q : x = b2
      · rw [if_pos (Or.inl q), if_pos q]
      · rw [if_neg q, if_neg (fun z => by rcases z with z | z; exact q z; exact e z.1)]
    have a1 := sg_up (A 3) b2 1 512 f4
    unfold lf
    rw [e1] at h3 ⊢
    omega
theorem G_pl {A G : fb_N} {i k b1 b2 : Nat} (o : oA A) (hB : BK A) (hG : isG A G i k b1 b2) (hf : frG A i k b1 b2) (hi : i < 64) : ∀ x p, x < 64 → p / 1024 < A 10 x → pl G x p = pl A x p ∧ G 2 (pl A x p) = A 2 (pl A x p) := by
  intro x p hx hp
  have hv : vl A x (p / 1024) := Or.inl hp
  have hm := o.mn x
  obtain ⟨-, o2, -, -⟩ := bk_old hB hG hf hi hx hv (by omega)
  refine ⟨by unfold pl; rw [o2], ?_⟩
  exact bk_data hB hG hf hi hx hv (by omega) (by omega) (pl_div A x p)
theorem putLast {c A : fb_N} (h : RC c A) (o : oA A) (hB : BK A) (hD : DI A) {d i : Nat} (hd : d < 64) (hk : A 4 d = 1) (hi : i < 64) (hn : ∀ k, k < 14 → c 4 k = A 13 k) (hw : wt A d ≤ lf A) : ∃ c2 F, f_D_addEntry_last (nI d) (nI i) (ka c) = some (0, ka c2) ∧ f_M_enter (nI d) (nI i) (mu A) = some (0, mu F) ∧ RC c2 F ∧ isP A F d (sl A d) i (A 13) (wt A d) ∧ (nu A d (16 * sl A d) = 0 ∨ 16 * sl A d = A 8 d) := by
  have hl := lf_le (A := A)
  have hm := (hD.dS d hd hk).1
  have h8 := o.sz d
  have hM := hD.dm
  have h10 := hM d hd
  have hnb : ∀ k, k < 14 → A 13 k < 256 := fun k _ => o.nm k
  unfold wt at hw ⊢
  by_cases z7 : A 7 d = 0
  · rw [if_pos z7] at hw; omega
  · rw [if_neg z7] at hw ⊢
    unfold sl
    cases hf : ff A d with
    | some t =>
      obtain ⟨f1, f2⟩ := ff_some hf
      obtain ⟨c2, g1, g2, -⟩ := kPutA_last h o hB hM hd hk hm hi (A 13) hnb hn hf
      refine ⟨c2, _, g1, mEnterA o hB hM hd hm hi hf, g2, ?_, Or.inl f2⟩
      exact ePt_P hM hd (by omega) hnb (fun _ _ _ _ _ => rfl) o hB (fun _ _ _ _ => ⟨rfl, rfl⟩) (fun _ _ => rfl) h10 (Nat.le_refl _) (by omega) (by omega) h8 rfl
    | none =>
      rw [hf] at hw
      have hw : (if A 8 d = 274432 then 1000 else if A 8 d % 1024 = 0 then (if A 10 d = 12 then 2 else 1) else 0) ≤ lf A := hw
      show ∃ c2 F, _ ∧ _ ∧ _ ∧ isP A F d (A 8 d / 16) i (A 13) (if A 8 d = 274432 then 1000 else if A 8 d % 1024 = 0 then (if A 10 d = 12 then 2 else 1) else 0) ∧ _
      by_cases z8 : A 8 d = 274432
      · rw [if_pos z8] at hw; omega
      · rw [if_neg z8] at hw ⊢
        by_cases zr : A 8 d % 1024 = 0
        · rw [if_pos zr] at hw ⊢
          obtain ⟨c1, G, b1, b2, g1, g2, g3, g4, g5, g6⟩ := grow_ok h o hB hd (by omega) hw
          have hBG := gBK hB o.mn g5 g6 hd
          have hG10 : G 10 d = A 10 d + 1 := by rw [g5.2.1, if_pos rfl]
          have u : ∀ k, k ≠ 2 → k ≠ 3 → k ≠ 10 → k ≠ 11 → G k = A k := g5.2.2.2.2
          have hn1 : ∀ k, k < 14 → c1 4 k = A 13 k := fun k hk => by rw [fr_4 (fr_addBlock _ _ _) g1 h.w g3.w]; exact hn k hk
          obtain ⟨c2, k1, k2, -⟩ := kPutC_last h o hB hM hd hk hm hi (A 13) hnb hn1 hf zr g1 g3 g4 hBG hG10
          refine ⟨c2, _, k1, mEnterC o hB hM hd hm hi hf zr g2 g4 hBG hG10 (u 8 (by omega) (by omega) (by omega) (by omega)) (u 13 (by omega) (by omega) (by omega) (by omega)), k2, ?_, Or.inr (show 16 * (A 8 d / 16) = A 8 d by omega)⟩
          exact ePt_P hM hd (by omega) hnb u g4 hBG (G_pl o hB g5 g6 hd) (fun x hx => by rw [g5.2.1, if_neg hx]) (by omega) (by omega) (by omega) (by omega) (by omega) (lf_G g4 g5 g6)
        · rw [if_neg zr] at hw ⊢
          obtain ⟨c2, g1, g2, -⟩ := kPutB_last h o hB hM hd hk hm hi (A 13) hnb hn hf zr
          refine ⟨c2, _, g1, mEnterB o hB hM hd hm hi hf zr, g2, ?_, Or.inr (show 16 * (A 8 d / 16) = A 8 d by omega)⟩
          exact ePt_P hM hd (by omega) hnb (fun _ _ _ _ _ => rfl) o hB (fun _ _ _ _ => ⟨rfl, rfl⟩) (fun _ _ => rfl) (by omega) (Nat.le_refl _) (by omega) (by omega) (by omega) rfl
/-! links -/
theorem kLinks {c A : fb_N} (h : RC c A) (o : oA A) {i v : Nat} (hi : i < 64) (y : Int32) (hy : nI (A 7 i) + y = nI v) (hv : v < 65536) : ∃ c2, f_I_addLinks (nI i) y (ka c) = some (0, ka c2) ∧ RC c2 (up A 7 i v) ∧ ∀ k, k ≠ 0 → c2 k = c k := by
  refine ⟨_, ?_, rc2b h (f := 7) (by omega) hi v, fun k hk => by rw [up_c _ hk, up_c _ hk]⟩
  unfold f_I_addLinks
  rw [iIs _ hi, Option.bind_some, if_neg n01, iPl, Option.bind_some, iLinks h o hi, Option.bind_some]
  show (f_K_setPart (nI (33792 + 64 * i) + nI 6) (65535 : Int32) (nI (A 7 i) + y) (ka c)).bind _ = _
  rw [nI_add, hy, kSet16 h.w (by omega) (by omega), Option.bind_some, un_nI, show v % 4294967296 = v by omega]
theorem oA_7 {A : fb_N} (o : oA A) {i v : Nat} (hv : v < 65536) : oA (up A 7 i v) := by
  obtain ⟨g1, g2, g3, g4, g5, g6, g7, g8, g9, g10, g11, g12, g13⟩ := o
  have u : ∀ j, j ≠ 7 → up A 7 i v j = A j := fun j hj => up_c A hj
  refine ⟨fun k q hk => by rw [u k (by omega)]; exact g1 k q hk, by rw [u 4 (by omega)]; exact g2, by rw [u 5 (by omega)]; exact g3, by rw [u 6 (by omega)]; exact g4, fun x => ?_, by rw [u 8 (by omega)]; exact g6, by rw [u 9 (by omega)]; exact g7, by rw [u 10 (by omega)]; exact g8, by rw [u 11 (by omega)]; exact g9, by rw [u 3 (by omega)]; exact g10, by rw [u 14 (by omega)]; exact g11, by rw [u 15 (by omega)]; exact g12, by rw [u 12 (by omega)]; exact g13⟩
  by_cases e : x = i
  · rw [e, up_s]; exact hv
  · rw [up_n _ (Or.inr e)]; exact g5 x
theorem DI_7 {A : fb_N} (hD : DI A) {i v : Nat} (hk : A 4 i ≠ 0) : DI (up A 7 i v) := by
  obtain ⟨d1, d2, d3, d4⟩ := hD
  have u : ∀ j, j ≠ 7 → up A 7 i v j = A j := fun j hj => up_c A hj
  refine ⟨fun x hx hz => ?_, by rw [u 4 (by omega)]; exact d2, by rw [u 10 (by omega), u 8 (by omega)]; exact d3, by rw [u 4 (by omega), u 8 (by omega)]; exact d4⟩
  rw [u 4 (by omega)] at hz
  rw [u 5 (by omega), u 6 (by omega), u 8 (by omega), u 9 (by omega), up_n _ (Or.inr (fun q => by rw [q] at hz; exact hk hz))]
  exact d1 x hx hz
/-- an entry was put, and its inode has a link more -/
theorem IV.link {j : Nat} {A F : fb_N} {d t i w : Nat} {nm : Nat → Nat} (hI : IV j A) (h : isP A F d t i nm w) (hd : d < 64) (hk : A 4 d = 1) (hi : i < 64) (hki : A 4 i ≠ 0) (hEN : EN F) (hj : j < 512) : IV (j + 1) (up F 7 i (A 7 i + 1)) := by
  obtain ⟨o, hB, hD, hE, hL, hJ⟩ := hI
  have b7 := (hJ i).1
  have e4 : F 4 = A 4 := h.1 4 (by omega) (by omega) (by omega) (by omega) (by omega)
  have e7 : F 7 = A 7 := h.1 7 (by omega) (by omega) (by omega) (by omega) (by omega)
  have e9 : F 9 = A 9 := h.1 9 (by omega) (by omega) (by omega) (by omega) (by omega)
  have hDF := hD.put h hd hk
  have u : ∀ j, j ≠ 7 → up F 7 i (A 7 i + 1) j = F j := fun j hj => up_c F hj
  refine ⟨oA_7 h.2.2.1 (by omega), h.2.2.2.1.cg (u 2 (by omega)) (u 3 (by omega)) (u 10 (by omega)) (u 11 (by omega)), DI_7 hDF (by rw [e4]; exact hki), hEN.cg (u 2 (by omega)) (u 4 (by omega)) (u 8 (by omega)) (u 11 (by omega)), ?_, ?_⟩
  · intro x hx h0
    rw [cn_cg (u 2 (by omega)) (u 4 (by omega)) (u 8 (by omega)) (u 11 (by omega))]
    have g1 := cn_put h hD.dS hd hk x
    have g2 := hL x hx h0
    by_cases e : x = i
    · rw [if_pos e] at g1
      rw [e, up_s]
      rw [e] at g1 g2
      omega
    · rw [if_neg e] at g1
      rw [up_n _ (Or.inr e), e7]
      omega
  · intro x
    rw [u 9 (by omega), e9]
    refine ⟨?_, by have := (hJ x).2; omega⟩
    by_cases e : x = i
    · rw [e, up_s]; omega
    · rw [up_n _ (Or.inr e), e7]
      have := (hJ x).1
      omega

/-! what the class's disk calls leave alone -/
def fr (o : Option (Int32 × fb_S)) (st : fb_S) : Prop := ∀ r, o = some r → ∀ k, k ≠ 0 → r.2 k = st k
theorem fr_s (x : Int32) (st : fb_S) : fr (some (x, st)) st := by
  intro r h k _
  cases h
  rfl
theorem fr_rz (x : Int32) (st : fb_S) : fr (fb_rz x st) st := by
  unfold fb_rz
  split
  · exact fr_s _ _
  · intro r h; cases h
theorem fr_b {o : Option (Int32 × fb_S)} {st : fb_S} {f : Int32 × fb_S → Option (Int32 × fb_S)} (h : fr o st) (hf : ∀ r, fr (f r) r.2) : fr (o.bind f) st := by
  intro r hr k hk
  obtain ⟨a, h1, h2⟩ := fb_ob hr
  rw [hf a r h2 k hk, h a h1 k hk]
theorem fr_l {g : Nat → Int32} {n : Nat} {i : Int32} {st : fb_S} {f : Int32 → Option (Int32 × fb_S)} (hf : ∀ v, fr (f v) st) : fr ((fb_ld g n i).bind f) st := by
  intro r hr k hk
  obtain ⟨a, h1, h2⟩ := fb_ob hr
  exact hf a r h2 k hk
theorem fr_t (st : fb_S) (n : Nat) (i x y : Int32) : fr ((fb_st st 0 n i x).bind fun s => some (y, s)) st := by
  intro r hr k hk
  obtain ⟨a, h1, h2⟩ := fb_ob hr
  cases h2
  unfold fb_st at h1
  split at h1
  · cases h1
  · cases h1
    exact va_up_ne _ _ hk
theorem fr_setPart (x y z : Int32) (st : fb_S) : fr (f_K_setPart x y z st) st := by
  unfold f_K_setPart
  split
  · exact fr_s _ _
  · split
    · exact fr_s _ _
    · exact fr_l (fun v => fr_t _ _ _ _ _)
theorem fr_setNumber (x y : Int32) (st : fb_S) : fr (f_K_setNumber x y st) st := by
  unfold f_K_setNumber
  split
  · exact fr_s _ _
  · split
    · exact fr_s _ _
    · exact fr_t _ _ _ _ _
theorem fr_partAt (x y : Int32) (st : fb_S) : fr (f_K_partAt x y st) st := by
  unfold f_K_partAt
  split
  · exact fr_s _ _
  · split
    · exact fr_s _ _
    · exact fr_l (fun v => fr_s _ _)
theorem fr_numberAt (x : Int32) (st : fb_S) : fr (f_K_numberAt x st) st := by
  unfold f_K_numberAt
  split
  · exact fr_s _ _
  · split
    · exact fr_s _ _
    · exact fr_l (fun v => fr_s _ _)
theorem fr_mark (x y : Int32) (st : fb_S) : fr (f_K_mark x y st) st := by
  unfold f_K_mark
  refine fr_b (fr_partAt _ _ _) (fun r => ?_)
  unfold b_K_mark_50
  split
  · exact fr_b (fr_setPart _ _ _ _) (fun r => fr_s _ _)
  · exact fr_b (fr_setPart _ _ _ _) (fun r => fr_s _ _)
theorem fr_wipeL : ∀ n (x y z : Int32) (st : fb_S), fr (l_K_wipe_2 n x y z st) st := by
  intro n
  induction n with
  | zero => intro x y z st r h; cases h
  | succ n ih =>
    intro x y z st
    show fr (b_K_wipe_2 (l_K_wipe_2 n) x y z st) st
    unfold b_K_wipe_2
    split
    · exact fr_s _ _
    · exact fr_b (fr_setNumber _ _ _) (fun r => ih _ _ _ _)
theorem fr_takeL : ∀ n (x : Int32) (st : fb_S), fr (l_K_takeBlock_3 n x st) st := by
  intro n
  induction n with
  | zero => intro x st r h; cases h
  | succ n ih =>
    intro x st
    show fr (b_K_takeBlock_3 (l_K_takeBlock_3 n) x st) st
    unfold b_K_takeBlock_3
    split
    · exact fr_s _ _
    · refine fr_b (fr_partAt _ _ _) (fun r => ?_)
      split
      · exact fr_b (fr_mark _ _ _) (fun r => fr_b (fr_wipeL _ _ _ _ _) (fun r => fr_s _ _))
      · exact ih _ _
theorem fr_freeL : ∀ n (x y : Int32) (st : fb_S), fr (l_K_freeBlocks_4 n x y st) st := by
  intro n
  induction n with
  | zero => intro x y st r h; cases h
  | succ n ih =>
    intro x y st
    show fr (b_K_freeBlocks_4 (l_K_freeBlocks_4 n) x y st) st
    unfold b_K_freeBlocks_4
    split
    · exact fr_s _ _
    · refine fr_b (fr_numberAt _ _) (fun r => ?_)
      unfold f_J_bitCount
      exact fr_b (fr_s _ _) (fun r => ih _ _ _)
theorem fr_slotOf (x y : Int32) (st : fb_S) : fr (f_I_slotOf x y st) st := by
  unfold f_I_slotOf f_I_isInode
  refine fr_b ?_ (fun r => ?_)
  · split
    · exact fr_rz _ _
    · split
      · exact fr_rz _ _
      · exact fr_rz _ _
  · split
    · exact fr_s _ _
    · split
      · exact fr_s _ _
      · split
        · split
          · unfold f_I_placeOf
            refine fr_b (fr_s _ _) (fun r => fr_b (fr_numberAt _ _) (fun r => ?_))
            split
            · exact fr_s _ _
            · exact fr_s _ _
          · unfold f_I_placeOf
            exact fr_b (fr_s _ _) (fun r => fr_s _ _)
        · exact fr_s _ _
theorem fr_52 (x y : Int32) (st : fb_S) : fr (b_I_addBlock_52 x y st) st := by
  unfold b_I_addBlock_52
  exact fr_b (fr_slotOf _ _ _) (fun r => fr_b (fr_takeL _ _ _) (fun r => fr_b (fr_setNumber _ _ _) (fun r => fr_rz _ _)))
theorem fr_addBlock (x y : Int32) (st : fb_S) : fr (f_I_addBlock x y st) st := by
  unfold f_I_addBlock
  split
  · exact fr_rz _ _
  · refine fr_b ?_ (fun r => fr_b (fr_freeL _ _ _ _) (fun r => ?_))
    · unfold f_I_blocksToAdd
      split
      · exact fr_s _ _
      · exact fr_s _ _
    · split
      · split
        · unfold f_I_placeOf
          exact fr_b (fr_s _ _) (fun r => fr_b (fr_takeL _ _ _) (fun r => fr_b (fr_setNumber _ _ _) (fun r => fr_52 _ _ _)))
        · exact fr_52 _ _ _
      · exact fr_rz _ _
theorem fr_4 {o : Option (Int32 × fb_S)} {c c2 : fb_N} {x : Int32} (h : fr o (ka c)) (e : o = some (x, ka c2)) (hc : cw c) (hc2 : cw c2) (q : Nat) : c2 4 q = c 4 q := by
  have h1 : ka c2 4 = ka c 4 := h _ e 4 (by decide)
  have h2 : ka c2 4 q = ka c 4 q := by rw [h1]
  rw [ka_4, ka_4] at h2
  exact bs_inj _ (hc2 4 q (by decide) (by decide)) _ (hc 4 q (by decide) (by decide)) h2
/-! an entry is put -/
noncomputable def ePt (G : fb_N) (d t i : Nat) (nm : Nat → Nat) (v : Nat) : fb_N := up (va_up G 2 (LB (G 2) (pl G d (16 * t)) i nm 14)) 8 d v
theorem rcLay {c G : fb_N} (h : RC c G) {q i : Nat} (nm : Nat → Nat) (hnb : ∀ k, k < 14 → nm k < 256) (h1 : 38912 ≤ q) (h2 : q + 16 ≤ 524288) : RC (va_up c 0 (LB (c 0) q i nm 14)) (va_up G 2 (LB (G 2) q i nm 14)) := by
  refine rcB h _ _ (fun x => ⟨fun hx => LB_out (by omega), fun h3 h4 => ?_⟩) (fun x => LB_lt h.w.b hnb x)
  unfold LB
  rw [h.x h3 h4]
theorem kSize {c A : fb_N} (h : RC c A) {d : Nat} (hd : d < 64) (v : Nat) : f_I_setSize (nI d) (nI v) (ka c) = some (0, ka (va_up c 0 (s4 (c 0) (33792 + 64 * d + 8) v))) := by
  unfold f_I_setSize
  rw [iIs _ hd, Option.bind_some, if_neg n01, iPl, Option.bind_some]
  show (f_K_setNumber (nI (33792 + 64 * d) + nI 8) (nI v) (ka c)).bind _ = _
  rw [nI_add, show 33792 + 64 * d + 8 = 4 * ((33792 + 64 * d + 8) / 4) by omega, kSetN c (by omega) v, Option.bind_some]
theorem kPutA_last {c A : fb_N} (h : RC c A) (o : oA A) (hB : BK A) (hM : DM A) {d i t : Nat} (hd : d < 64) (hk : A 4 d = 1) (hm : A 8 d % 16 = 0) (hi : i < 64) (nm : Nat → Nat) (hnb : ∀ k, k < 14 → nm k < 256) (hn : ∀ k, k < 14 → c 4 k = nm k) (hf : ff A d = some t) : ∃ c2, f_D_addEntry_last (nI d) (nI i) (ka c) = some (0, ka c2) ∧ RC c2 (ePt A d t i nm (A 8 d)) ∧ ∀ k, k ≠ 0 → c2 k = c k := by
  have h10 := hM d hd
  obtain ⟨f1, f2⟩ := ff_some hf
  obtain ⟨p1, p2, p3⟩ := pl_v o hB (d := d) (s := t) hd (by omega)
  refine ⟨va_up c 0 (LB (c 0) (pl A d (16 * t)) i nm 14), ?_, ?_, fun k hk => va_up_n _ _ _ hk⟩
  · unfold f_D_addEntry_last
    rw [kFe h o hB hM hd hk hm, Option.bind_some, hf, if_neg (show ¬ an (fun t => pl A d (16 * t)) (some t) = -1 from nI_m1 (n := pl A d (16 * t)) (by omega))]
    show b_D_addEntry_last_72 (nI i) (nI (pl A d (16 * t))) (ka c) = _
    exact kLay_last h.w nm hnb hn (by omega) (by omega) hi
  · unfold ePt
    rw [up_id _ (by rw [va_up_n _ _ _ (by omega)])]
    exact rcLay h nm hnb p1 p2
theorem kPut47_last {c G : fb_N} (h : RC c G) (o : oA G) (hB : BK G) {d i z : Nat} (hd : d < 64) (hm : z % 16 = 0) (hz : z / 1024 < G 10 d) (hi : i < 64) (nm : Nat → Nat) (hnb : ∀ k, k < 14 → nm k < 256) (hn : ∀ k, k < 14 → c 4 k = nm k) : ∃ c2, b_D_addEntry_last_47 (nI d) (nI i) (nI z) (ka c) = some (0, ka c2) ∧ RC c2 (ePt G d (z / 16) i nm (z + 16)) ∧ ∀ k, k ≠ 0 → c2 k = c k := by
  have ez : 16 * (z / 16) = z := by omega
  obtain ⟨p1, p2, p3⟩ := pl_v o hB (d := d) (s := z / 16) hd (by rw [ez]; exact hz)
  rw [ez] at p1 p2 p3
  have h3 := rc8 h hd (z + 16)
  have e2 : up G 8 d (z + 16) 2 = G 2 := up_c G (by omega)
  refine ⟨va_up (va_up c 0 (s4 (c 0) (33792 + 64 * d + 8) (z + 16))) 0 (LB (va_up c 0 (s4 (c 0) (33792 + 64 * d + 8) (z + 16)) 0) (pl G d z) i nm 14), ?_, ?_, fun k hk => ?_⟩
  · unfold b_D_addEntry_last_47
    rw [kPlV h o hB hd hz, Option.bind_some]
    show (f_I_setSize (nI d) (nI z + nI 16) (ka c)).bind _ = _
    rw [nI_add, kSize h hd, Option.bind_some]
    exact kLay_last h3.w nm hnb (fun k hk => by rw [va_up_n _ _ _ (by decide)]; exact hn k hk) (by omega) (by omega) hi
  · have h4 := rcLay h3 (q := pl G d z) (i := i) nm hnb p1 p2
    have e : va_up (up G 8 d (z + 16)) 2 (LB (up G 8 d (z + 16) 2) (pl G d z) i nm 14) = ePt G d (z / 16) i nm (z + 16) := by
      unfold ePt
      rw [e2, ez]
      funext a b
      by_cases h8 : a = 8
      · subst h8
        rw [va_up_n _ _ _ (by omega)]
        unfold up
        rw [va_up_s, va_up_s, va_up_n _ _ _ (by omega)]
      · rw [up_c _ h8]
        by_cases h2 : a = 2
        · subst h2
          rw [va_up_s, va_up_s]
        · rw [va_up_n _ _ _ h2, va_up_n _ _ _ h2, up_c _ h8]
    rw [e] at h4
    exact h4
  · rw [va_up_n _ _ _ hk, va_up_n _ _ _ hk]
theorem kPutB_last {c A : fb_N} (h : RC c A) (o : oA A) (hB : BK A) (hM : DM A) {d i : Nat} (hd : d < 64) (hk : A 4 d = 1) (hm : A 8 d % 16 = 0) (hi : i < 64) (nm : Nat → Nat) (hnb : ∀ k, k < 14 → nm k < 256) (hn : ∀ k, k < 14 → c 4 k = nm k) (hf : ff A d = none) (hz : A 8 d % 1024 ≠ 0) : ∃ c2, f_D_addEntry_last (nI d) (nI i) (ka c) = some (0, ka c2) ∧ RC c2 (ePt A d (A 8 d / 16) i nm (A 8 d + 16)) ∧ ∀ k, k ≠ 0 → c2 k = c k := by
  have h10 := hM d hd
  have h8 := o.sz d
  obtain ⟨c2, g1, g2, g3⟩ := kPut47_last h o hB (z := A 8 d) hd hm (by omega) hi nm hnb hn
  refine ⟨c2, ?_, g2, g3⟩
  unfold f_D_addEntry_last
  rw [kFe h o hB hM hd hk hm, Option.bind_some, hf, if_pos (show an (fun t => pl A d (16 * t)) none = -1 from rfl), kDSize h o hd, Option.bind_some, if_pos hk]
  simp only [il]
  rw [nRem (by omega) (by omega) (by omega), if_neg (by rw [nEq (by omega) (by omega)]; exact hz)]
  exact g1
theorem kPutC_last {c c1 A G : fb_N} (h : RC c A) (o : oA A) (hB : BK A) (hM : DM A) {d i : Nat} (hd : d < 64) (hk : A 4 d = 1) (hm : A 8 d % 16 = 0) (hi : i < 64) (nm : Nat → Nat) (hnb : ∀ k, k < 14 → nm k < 256) (hn : ∀ k, k < 14 → c1 4 k = nm k) (hf : ff A d = none) (hz : A 8 d % 1024 = 0) (ha : f_I_addBlock (nI d) (nI (A 10 d)) (ka c) = some (1, ka c1)) (hR : RC c1 G) (oG : oA G) (hG : BK G) (h10 : G 10 d = A 10 d + 1) : ∃ c2, f_D_addEntry_last (nI d) (nI i) (ka c) = some (0, ka c2) ∧ RC c2 (ePt G d (A 8 d / 16) i nm (A 8 d + 16)) ∧ ∀ k, k ≠ 0 → c2 k = c1 k := by
  have h10 := hM d hd
  have h8 := o.sz d
  obtain ⟨c2, g1, g2, g3⟩ := kPut47_last hR oG hG (z := A 8 d) hd hm (by omega) hi nm hnb hn
  refine ⟨c2, ?_, g2, g3⟩
  unfold f_D_addEntry_last
  rw [kFe h o hB hM hd hk hm, Option.bind_some, hf, if_pos (show an (fun t => pl A d (16 * t)) none = -1 from rfl), kDSize h o hd, Option.bind_some, if_pos hk]
  simp only [il]
  rw [nRem (by omega) (by omega) (by omega), if_pos (by rw [hz]), nDiv (by omega) (by omega) (by omega), show A 8 d / 1024 = A 10 d by omega, ha, Option.bind_some, if_neg (show ¬ (1 : Int32) = nI 0 from n01)]
  exact g1
theorem kPutA_z1 {c A : fb_N} (h : RC c A) (o : oA A) (hB : BK A) (hM : DM A) {d i t : Nat} (hd : d < 64) (hk : A 4 d = 1) (hm : A 8 d % 16 = 0) (hi : i < 64) (nm : Nat → Nat) (hnb : ∀ k, k < 14 → nm k < 256) (hn : ∀ k, k < 14 → (if k < 1 then 46 else 0) = nm k) (hf : ff A d = some t) : ∃ c2, f_D_addEntry_z1 (nI d) (nI i) (ka c) = some (0, ka c2) ∧ RC c2 (ePt A d t i nm (A 8 d)) ∧ ∀ k, k ≠ 0 → c2 k = c k := by
  have h10 := hM d hd
  obtain ⟨f1, f2⟩ := ff_some hf
  obtain ⟨p1, p2, p3⟩ := pl_v o hB (d := d) (s := t) hd (by omega)
  refine ⟨va_up c 0 (LB (c 0) (pl A d (16 * t)) i nm 14), ?_, ?_, fun k hk => va_up_n _ _ _ hk⟩
  · unfold f_D_addEntry_z1
    rw [kFe h o hB hM hd hk hm, Option.bind_some, hf, if_neg (show ¬ an (fun t => pl A d (16 * t)) (some t) = -1 from nI_m1 (n := pl A d (16 * t)) (by omega))]
    show b_D_addEntry_z1_72 (nI i) (nI (pl A d (16 * t))) (ka c) = _
    exact kLay_z1 h.w nm hnb hn (by omega) (by omega) hi
  · unfold ePt
    rw [up_id _ (by rw [va_up_n _ _ _ (by omega)])]
    exact rcLay h nm hnb p1 p2
theorem kPut47_z1 {c G : fb_N} (h : RC c G) (o : oA G) (hB : BK G) {d i z : Nat} (hd : d < 64) (hm : z % 16 = 0) (hz : z / 1024 < G 10 d) (hi : i < 64) (nm : Nat → Nat) (hnb : ∀ k, k < 14 → nm k < 256) (hn : ∀ k, k < 14 → (if k < 1 then 46 else 0) = nm k) : ∃ c2, b_D_addEntry_z1_47 (nI d) (nI i) (nI z) (ka c) = some (0, ka c2) ∧ RC c2 (ePt G d (z / 16) i nm (z + 16)) ∧ ∀ k, k ≠ 0 → c2 k = c k := by
  have ez : 16 * (z / 16) = z := by omega
  obtain ⟨p1, p2, p3⟩ := pl_v o hB (d := d) (s := z / 16) hd (by rw [ez]; exact hz)
  rw [ez] at p1 p2 p3
  have h3 := rc8 h hd (z + 16)
  have e2 : up G 8 d (z + 16) 2 = G 2 := up_c G (by omega)
  refine ⟨va_up (va_up c 0 (s4 (c 0) (33792 + 64 * d + 8) (z + 16))) 0 (LB (va_up c 0 (s4 (c 0) (33792 + 64 * d + 8) (z + 16)) 0) (pl G d z) i nm 14), ?_, ?_, fun k hk => ?_⟩
  · unfold b_D_addEntry_z1_47
    rw [kPlV h o hB hd hz, Option.bind_some]
    show (f_I_setSize (nI d) (nI z + nI 16) (ka c)).bind _ = _
    rw [nI_add, kSize h hd, Option.bind_some]
    exact kLay_z1 h3.w nm hnb hn (by omega) (by omega) hi
  · have h4 := rcLay h3 (q := pl G d z) (i := i) nm hnb p1 p2
    have e : va_up (up G 8 d (z + 16)) 2 (LB (up G 8 d (z + 16) 2) (pl G d z) i nm 14) = ePt G d (z / 16) i nm (z + 16) := by
      unfold ePt
      rw [e2, ez]
      funext a b
      by_cases h8 : a = 8
      · subst h8
        rw [va_up_n _ _ _ (by omega)]
        unfold up
        rw [va_up_s, va_up_s, va_up_n _ _ _ (by omega)]
      · rw [up_c _ h8]
        by_cases h2 : a = 2
        · subst h2
          rw [va_up_s, va_up_s]
        · rw [va_up_n _ _ _ h2, va_up_n _ _ _ h2, up_c _ h8]
    rw [e] at h4
    exact h4
  · rw [va_up_n _ _ _ hk, va_up_n _ _ _ hk]
theorem kPutB_z1 {c A : fb_N} (h : RC c A) (o : oA A) (hB : BK A) (hM : DM A) {d i : Nat} (hd : d < 64) (hk : A 4 d = 1) (hm : A 8 d % 16 = 0) (hi : i < 64) (nm : Nat → Nat) (hnb : ∀ k, k < 14 → nm k < 256) (hn : ∀ k, k < 14 → (if k < 1 then 46 else 0) = nm k) (hf : ff A d = none) (hz : A 8 d % 1024 ≠ 0) : ∃ c2, f_D_addEntry_z1 (nI d) (nI i) (ka c) = some (0, ka c2) ∧ RC c2 (ePt A d (A 8 d / 16) i nm (A 8 d + 16)) ∧ ∀ k, k ≠ 0 → c2 k = c k := by
  have h10 := hM d hd
  have h8 := o.sz d
  obtain ⟨c2, g1, g2, g3⟩ := kPut47_z1 h o hB (z := A 8 d) hd hm (by omega) hi nm hnb hn
  refine ⟨c2, ?_, g2, g3⟩
  unfold f_D_addEntry_z1
  rw [kFe h o hB hM hd hk hm, Option.bind_some, hf, if_pos (show an (fun t => pl A d (16 * t)) none = -1 from rfl), kDSize h o hd, Option.bind_some, if_pos hk]
  simp only [il]
  rw [nRem (by omega) (by omega) (by omega), if_neg (by rw [nEq (by omega) (by omega)]; exact hz)]
  exact g1
theorem kPutC_z1 {c c1 A G : fb_N} (h : RC c A) (o : oA A) (hB : BK A) (hM : DM A) {d i : Nat} (hd : d < 64) (hk : A 4 d = 1) (hm : A 8 d % 16 = 0) (hi : i < 64) (nm : Nat → Nat) (hnb : ∀ k, k < 14 → nm k < 256) (hn : ∀ k, k < 14 → (if k < 1 then 46 else 0) = nm k) (hf : ff A d = none) (hz : A 8 d % 1024 = 0) (ha : f_I_addBlock (nI d) (nI (A 10 d)) (ka c) = some (1, ka c1)) (hR : RC c1 G) (oG : oA G) (hG : BK G) (h10 : G 10 d = A 10 d + 1) : ∃ c2, f_D_addEntry_z1 (nI d) (nI i) (ka c) = some (0, ka c2) ∧ RC c2 (ePt G d (A 8 d / 16) i nm (A 8 d + 16)) ∧ ∀ k, k ≠ 0 → c2 k = c1 k := by
  have h10 := hM d hd
  have h8 := o.sz d
  obtain ⟨c2, g1, g2, g3⟩ := kPut47_z1 hR oG hG (z := A 8 d) hd hm (by omega) hi nm hnb hn
  refine ⟨c2, ?_, g2, g3⟩
  unfold f_D_addEntry_z1
  rw [kFe h o hB hM hd hk hm, Option.bind_some, hf, if_pos (show an (fun t => pl A d (16 * t)) none = -1 from rfl), kDSize h o hd, Option.bind_some, if_pos hk]
  simp only [il]
  rw [nRem (by omega) (by omega) (by omega), if_pos (by rw [hz]), nDiv (by omega) (by omega) (by omega), show A 8 d / 1024 = A 10 d by omega, ha, Option.bind_some, if_neg (show ¬ (1 : Int32) = nI 0 from n01)]
  exact g1
theorem kPutA_z2 {c A : fb_N} (h : RC c A) (o : oA A) (hB : BK A) (hM : DM A) {d i t : Nat} (hd : d < 64) (hk : A 4 d = 1) (hm : A 8 d % 16 = 0) (hi : i < 64) (nm : Nat → Nat) (hnb : ∀ k, k < 14 → nm k < 256) (hn : ∀ k, k < 14 → (if k < 2 then 46 else 0) = nm k) (hf : ff A d = some t) : ∃ c2, f_D_addEntry_z2 (nI d) (nI i) (ka c) = some (0, ka c2) ∧ RC c2 (ePt A d t i nm (A 8 d)) ∧ ∀ k, k ≠ 0 → c2 k = c k := by
  have h10 := hM d hd
  obtain ⟨f1, f2⟩ := ff_some hf
  obtain ⟨p1, p2, p3⟩ := pl_v o hB (d := d) (s := t) hd (by omega)
  refine ⟨va_up c 0 (LB (c 0) (pl A d (16 * t)) i nm 14), ?_, ?_, fun k hk => va_up_n _ _ _ hk⟩
  · unfold f_D_addEntry_z2
    rw [kFe h o hB hM hd hk hm, Option.bind_some, hf, if_neg (show ¬ an (fun t => pl A d (16 * t)) (some t) = -1 from nI_m1 (n := pl A d (16 * t)) (by omega))]
    show b_D_addEntry_z2_72 (nI i) (nI (pl A d (16 * t))) (ka c) = _
    exact kLay_z2 h.w nm hnb hn (by omega) (by omega) hi
  · unfold ePt
    rw [up_id _ (by rw [va_up_n _ _ _ (by omega)])]
    exact rcLay h nm hnb p1 p2
theorem kPut47_z2 {c G : fb_N} (h : RC c G) (o : oA G) (hB : BK G) {d i z : Nat} (hd : d < 64) (hm : z % 16 = 0) (hz : z / 1024 < G 10 d) (hi : i < 64) (nm : Nat → Nat) (hnb : ∀ k, k < 14 → nm k < 256) (hn : ∀ k, k < 14 → (if k < 2 then 46 else 0) = nm k) : ∃ c2, b_D_addEntry_z2_47 (nI d) (nI i) (nI z) (ka c) = some (0, ka c2) ∧ RC c2 (ePt G d (z / 16) i nm (z + 16)) ∧ ∀ k, k ≠ 0 → c2 k = c k := by
  have ez : 16 * (z / 16) = z := by omega
  obtain ⟨p1, p2, p3⟩ := pl_v o hB (d := d) (s := z / 16) hd (by rw [ez]; exact hz)
  rw [ez] at p1 p2 p3
  have h3 := rc8 h hd (z + 16)
  have e2 : up G 8 d (z + 16) 2 = G 2 := up_c G (by omega)
  refine ⟨va_up (va_up c 0 (s4 (c 0) (33792 + 64 * d + 8) (z + 16))) 0 (LB (va_up c 0 (s4 (c 0) (33792 + 64 * d + 8) (z + 16)) 0) (pl G d z) i nm 14), ?_, ?_, fun k hk => ?_⟩
  · unfold b_D_addEntry_z2_47
    rw [kPlV h o hB hd hz, Option.bind_some]
    show (f_I_setSize (nI d) (nI z + nI 16) (ka c)).bind _ = _
    rw [nI_add, kSize h hd, Option.bind_some]
    exact kLay_z2 h3.w nm hnb hn (by omega) (by omega) hi
  · have h4 := rcLay h3 (q := pl G d z) (i := i) nm hnb p1 p2
    have e : va_up (up G 8 d (z + 16)) 2 (LB (up G 8 d (z + 16) 2) (pl G d z) i nm 14) = ePt G d (z / 16) i nm (z + 16) := by
      unfold ePt
      rw [e2, ez]
      funext a b
      by_cases h8 : a = 8
      · subst h8
        rw [va_up_n _ _ _ (by omega)]
        unfold up
        rw [va_up_s, va_up_s, va_up_n _ _ _ (by omega)]
      · rw [up_c _ h8]
        by_cases h2 : a = 2
        · subst h2
          rw [va_up_s, va_up_s]
        · rw [va_up_n _ _ _ h2, va_up_n _ _ _ h2, up_c _ h8]
    rw [e] at h4
    exact h4
  · rw [va_up_n _ _ _ hk, va_up_n _ _ _ hk]
theorem kPutB_z2 {c A : fb_N} (h : RC c A) (o : oA A) (hB : BK A) (hM : DM A) {d i : Nat} (hd : d < 64) (hk : A 4 d = 1) (hm : A 8 d % 16 = 0) (hi : i < 64) (nm : Nat → Nat) (hnb : ∀ k, k < 14 → nm k < 256) (hn : ∀ k, k < 14 → (if k < 2 then 46 else 0) = nm k) (hf : ff A d = none) (hz : A 8 d % 1024 ≠ 0) : ∃ c2, f_D_addEntry_z2 (nI d) (nI i) (ka c) = some (0, ka c2) ∧ RC c2 (ePt A d (A 8 d / 16) i nm (A 8 d + 16)) ∧ ∀ k, k ≠ 0 → c2 k = c k := by
  have h10 := hM d hd
  have h8 := o.sz d
  obtain ⟨c2, g1, g2, g3⟩ := kPut47_z2 h o hB (z := A 8 d) hd hm (by omega) hi nm hnb hn
  refine ⟨c2, ?_, g2, g3⟩
  unfold f_D_addEntry_z2
  rw [kFe h o hB hM hd hk hm, Option.bind_some, hf, if_pos (show an (fun t => pl A d (16 * t)) none = -1 from rfl), kDSize h o hd, Option.bind_some, if_pos hk]
  simp only [il]
  rw [nRem (by omega) (by omega) (by omega), if_neg (by rw [nEq (by omega) (by omega)]; exact hz)]
  exact g1
theorem kPutC_z2 {c c1 A G : fb_N} (h : RC c A) (o : oA A) (hB : BK A) (hM : DM A) {d i : Nat} (hd : d < 64) (hk : A 4 d = 1) (hm : A 8 d % 16 = 0) (hi : i < 64) (nm : Nat → Nat) (hnb : ∀ k, k < 14 → nm k < 256) (hn : ∀ k, k < 14 → (if k < 2 then 46 else 0) = nm k) (hf : ff A d = none) (hz : A 8 d % 1024 = 0) (ha : f_I_addBlock (nI d) (nI (A 10 d)) (ka c) = some (1, ka c1)) (hR : RC c1 G) (oG : oA G) (hG : BK G) (h10 : G 10 d = A 10 d + 1) : ∃ c2, f_D_addEntry_z2 (nI d) (nI i) (ka c) = some (0, ka c2) ∧ RC c2 (ePt G d (A 8 d / 16) i nm (A 8 d + 16)) ∧ ∀ k, k ≠ 0 → c2 k = c1 k := by
  have h10 := hM d hd
  have h8 := o.sz d
  obtain ⟨c2, g1, g2, g3⟩ := kPut47_z2 hR oG hG (z := A 8 d) hd hm (by omega) hi nm hnb hn
  refine ⟨c2, ?_, g2, g3⟩
  unfold f_D_addEntry_z2
  rw [kFe h o hB hM hd hk hm, Option.bind_some, hf, if_pos (show an (fun t => pl A d (16 * t)) none = -1 from rfl), kDSize h o hd, Option.bind_some, if_pos hk]
  simp only [il]
  rw [nRem (by omega) (by omega) (by omega), if_pos (by rw [hz]), nDiv (by omega) (by omega) (by omega), show A 8 d / 1024 = A 10 d by omega, ha, Option.bind_some, if_neg (show ¬ (1 : Int32) = nI 0 from n01)]
  exact g1
/-! the reference enters -/
theorem mEnt29 {G : fb_N} (o : oA G) (hB : BK G) {d t i : Nat} (hd : d < 64) (hv : 16 * t / 1024 < G 10 d) (hi : i < 64) : b_M_enter_29 (nI d) (nI i) (nI (16 * t)) (mu G) = some (0, mu (ePt G d t i (G 13) (if 16 * t = G 8 d then 16 * t + 16 else G 8 d))) := by
  have h8 := o.sz d
  have h10 := o.mn d
  obtain ⟨p1, p2, p3⟩ := pl_v o hB hd hv
  unfold b_M_enter_29
  rw [mLay o hd (by omega) p2 hi, Option.bind_some, ld_nI hd (by decide), Option.bind_some]
  by_cases z : 16 * t = G 8 d
  · rw [if_pos z, if_pos (show nI (16 * t) = mu (va_up G 2 (LB (G 2) (pl G d (16 * t)) i (G 13) 14)) 8 d from by rw [mu_8, va_up_n _ _ _ (by omega), z])]
    show (fb_st (mu (va_up G 2 (LB (G 2) (pl G d (16 * t)) i (G 13) 14))) 8 64 (nI d) (nI (16 * t) + nI 16)).bind _ = _
    rw [nI_add, st_nI hd (by decide), Option.bind_some, mu_i _ 8 _ _ (by decide)]
    rfl
  · have e8 : mu (va_up G 2 (LB (G 2) (pl G d (16 * t)) i (G 13) 14)) 8 d = nI (G 8 d) := by rw [mu_8, va_up_n _ _ _ (by omega)]
    rw [if_neg z, if_neg (show ¬ nI (16 * t) = mu (va_up G 2 (LB (G 2) (pl G d (16 * t)) i (G 13) 14)) 8 d from by rw [e8, nEq (by omega) (by omega)]; exact z), Option.bind_some]
    show (fb_st (mu (va_up G 2 (LB (G 2) (pl G d (16 * t)) i (G 13) 14))) 8 64 (nI d) (mu (va_up G 2 (LB (G 2) (pl G d (16 * t)) i (G 13) 14)) 8 d)).bind _ = _
    rw [e8, st_nI hd (by decide), Option.bind_some, mu_i _ 8 _ _ (by decide)]
    rfl
theorem mEnterA {A : fb_N} (o : oA A) (hB : BK A) (hM : DM A) {d i t : Nat} (hd : d < 64) (hm : A 8 d % 16 = 0) (hi : i < 64) (hf : ff A d = some t) : f_M_enter (nI d) (nI i) (mu A) = some (0, mu (ePt A d t i (A 13) (A 8 d))) := by
  have h8 := o.sz d
  have h10 := hM d hd
  obtain ⟨f1, f2⟩ := ff_some hf
  unfold f_M_enter
  rw [mVac o hB hM hd hm, Option.bind_some, ld_nI hd (by decide), Option.bind_some]
  unfold sl
  rw [hf]
  rw [if_neg (show ¬ nI (16 * t) = mu A 8 d from by rw [mu_8, nEq (by omega) (by omega)]; omega)]
  have := mEnt29 o hB (d := d) (t := t) hd (by omega) hi
  rw [if_neg (by omega)] at this
  exact this
theorem mEnterB {A : fb_N} (o : oA A) (hB : BK A) (hM : DM A) {d i : Nat} (hd : d < 64) (hm : A 8 d % 16 = 0) (hi : i < 64) (hf : ff A d = none) (hz : A 8 d % 1024 ≠ 0) : f_M_enter (nI d) (nI i) (mu A) = some (0, mu (ePt A d (A 8 d / 16) i (A 13) (A 8 d + 16))) := by
  have h8 := o.sz d
  have h10 := hM d hd
  have ez : 16 * (A 8 d / 16) = A 8 d := by omega
  unfold f_M_enter
  rw [mVac o hB hM hd hm, Option.bind_some, ld_nI hd (by decide), Option.bind_some]
  unfold sl
  rw [hf]
  simp only [il]
  rw [if_pos (show nI (16 * (A 8 d / 16)) = mu A 8 d from by rw [mu_8, ez]), nRem (by omega) (by omega) (by omega), if_neg (by rw [ez, nEq (by omega) (by omega)]; exact hz)]
  have := mEnt29 o hB (d := d) (t := A 8 d / 16) hd (by omega) hi
  rw [if_pos ez, ez] at this
  rw [ez]
  exact this
theorem mEnterC {A G : fb_N} (o : oA A) (hB : BK A) (hM : DM A) {d i : Nat} (hd : d < 64) (hm : A 8 d % 16 = 0) (hi : i < 64) (hf : ff A d = none) (hz : A 8 d % 1024 = 0) (hg : f_M_grow (nI d) (mu A) = some (0, mu G)) (oG : oA G) (hG : BK G) (h10G : G 10 d = A 10 d + 1) (h8G : G 8 = A 8) (h13 : G 13 = A 13) : f_M_enter (nI d) (nI i) (mu A) = some (0, mu (ePt G d (A 8 d / 16) i (A 13) (A 8 d + 16))) := by
  have h8 := o.sz d
  have h10 := hM d hd
  have ez : 16 * (A 8 d / 16) = A 8 d := by omega
  unfold f_M_enter
  rw [mVac o hB hM hd hm, Option.bind_some, ld_nI hd (by decide), Option.bind_some]
  unfold sl
  rw [hf]
  simp only [il]
  rw [if_pos (show nI (16 * (A 8 d / 16)) = mu A 8 d from by rw [mu_8, ez]), nRem (by omega) (by omega) (by omega), if_pos (by rw [ez, hz]), hg, Option.bind_some]
  have := mEnt29 oG hG (d := d) (t := A 8 d / 16) hd (by omega) hi
  rw [h8G, if_pos ez, ez, h13] at this
  rw [ez]
  exact this

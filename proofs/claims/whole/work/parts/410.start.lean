theorem lg_apart {A : Nat → Prop} {w1 w2 : va_W} (h : va_D A (w1 ++ w2)) : ∀ x ∈ w1.map (fun q => q.1), x ∉ w2.map (fun q => q.1) := by
  intro x h1 h2
  obtain ⟨p, hp, rfl⟩ := List.mem_map.mp h1
  obtain ⟨q, hq, e⟩ := List.mem_map.mp h2
  obtain ⟨i, hi⟩ := List.getElem?_of_mem hp
  obtain ⟨j, hj⟩ := List.getElem?_of_mem hq
  have hil : i < w1.length := (List.getElem?_eq_some_iff.mp hi).1
  have h3 := h.1 i (w1.length + j) p q (by rw [List.getElem?_append_left hil]; exact hi) (by rw [List.getElem?_append_right (Nat.le_add_right _ _), Nat.add_sub_cancel_left]; exact hj) e.symm
  omega
theorem cpT_blind {D : va_G} {z : Nat → Nat} {ws : va_W} {sz : Nat} {av : List Value} : FrameBlind (va_Pc av (fun U => cp D ws sz nwT U ∧ zX z (va_A ws sz) U U.heap)) := by
  intro a U g mk q
  obtain ⟨q0, ⟨q1, qP, qK, qD, qN⟩, qZ⟩ := q
  exact ⟨q0, ⟨q1, qP, va_K.moved (u := U) (U := U.calling g mk a) (Vm.Alike.refl U.vm) qK, qD, nwT_s U (U.calling g mk a) (State.WarmedH.refl U) qN⟩, zX_mv _ _ U (U.calling g mk a) U.heap U.heap (State.WarmedH.refl U) (fun _ _ _ => rfl) (fun _ h => h) qZ⟩
theorem cpT_pre {D : va_G} {z : Nat → Nat} {ws : va_W} {av : List Value} {s : State} {H : Heap} {locs : List Loc} (hn : nwT s) (hP : va_P D vcl ws H) (hK : va_K D vcl [] s) (hD : va_D (aX s) ws) (hS : va_S (aX s) s.heap H locs) (hF : ∀ q, va_A ws H.size q → aX s q) (hZ : zX z (aX s) s s.heap) : ∀ U : State, U.heap = H → s.WarmedH U.vm → va_Pc av (fun U => cp D ws H.size nwT U ∧ zX z (va_A ws H.size) U U.heap) av.toArray U := by
  intro U hU hW
  exact ⟨rfl, ⟨by rw [hU], by rw [hU]; exact hP, va_K.moved hW.alike hK, hD.weaken (fun _ _ _ _ => trivial), nwT_s s U hW hn⟩, zX_mv _ _ s U s.heap U.heap hW (fun a h1 h2 => by rw [hU]; exact hS.2.1 a h1 h2) hF hZ⟩
theorem st_zX {b : Nat} {s : State} (hts : ∀ w ∈ lw_tbl, w.before #[Value.ref b] s = true) (hgv : (Jvm.Cond.and given_1 narrow_1).before #[Value.ref b] s = true) : ∃ z : Nat → Nat, zX z (aX s) s s.heap := by
  have hs := flat_of_before _ hgv
  have hA : ∀ a : Nat, a < s.heap.size → ¬ aX s a := fun a h => Nat.not_le.mpr h
  have hini : (Cond.initialized "FileTree").before #[Value.ref b] s = true := hts _ (lw_gt q_1)
  obtain ⟨t0, e0, T0⟩ := va_Tof (tm := .static "FileTree" "SUPERBLOCK" "[I") (ty := .int) (N := 8) (f := fun j => .int (zf_0 j)) (A := aX s) (by decide) (hs _ (by decide +kernel)) (va_eqt (z := 8) (hs _ (by decide +kernel))) (fun j hj => match j, hj with
    | 0, _ => va_eqt (z := 270544960) (hs _ (by decide +kernel))
    | 1, _ => va_eqt (z := 512) (hs _ (by decide +kernel))
    | 2, _ => va_eqt (z := 474) (hs _ (by decide +kernel))
    | 3, _ => va_eqt (z := 64) (hs _ (by decide +kernel))
    | 4, _ => va_eqt (z := 31) (hs _ (by decide +kernel))
    | 5, _ => va_eqt (z := 2) (hs _ (by decide +kernel))
    | 6, _ => va_eqt (z := 33) (hs _ (by decide +kernel))
    | 7, _ => va_eqt (z := 37) (hs _ (by decide +kernel))
    | j + 8, h => absurd h (by omega)) hA
  obtain ⟨t1, e1, T1⟩ := va_Tof (tm := .static "FileTree" "ITSELF" "[B") (ty := .byte) (N := 1) (f := fun j => .int (zf_1 j)) (A := aX s) (by decide) (hs _ (by decide +kernel)) (va_eqt (z := 1) (hs _ (by decide +kernel))) (fun j hj => match j, hj with
    | 0, _ => va_eqt (z := 46) (hs _ (by decide +kernel))
    | j + 1, h => absurd h (by omega)) hA
  obtain ⟨t2, e2, T2⟩ := va_Tof (tm := .static "FileTree" "ABOVE" "[B") (ty := .byte) (N := 2) (f := fun j => .int (zf_2 j)) (A := aX s) (by decide) (hs _ (by decide +kernel)) (va_eqt (z := 2) (hs _ (by decide +kernel))) (fun j hj => match j, hj with
    | 0, _ => va_eqt (z := 46) (hs _ (by decide +kernel))
    | 1, _ => va_eqt (z := 46) (hs _ (by decide +kernel))
    | j + 2, h => absurd h (by omega)) hA
  exact ⟨fun k => [t0, t1, t2].getD k 0, va_Zref (hts _ q_86) hini e0 hA, va_Zref (hts _ q_124) hini e1 hA, va_Zref (hts _ q_198) hini e2 hA, T0, T1, T2, va_Nw.of rfl (hts _ q_85), va_Nw.of rfl (hts _ q_123), va_Nw.of rfl (hts _ q_197)⟩
set_option maxHeartbeats 4000000 in
set_option maxRecDepth 100000 in
/-- the law from its entry, if each call keeps 'sim' and the two new objects begin in it -/
theorem whole_open {p : Program} {e : Env} {s : State} {m : MethodId} {below : List Frame} {meth : Method} {c : Code} (l : Launch) {b L : Nat} {xs : Nat → Int32} (hL : L ≤ 2560) (C0 : lw_At p s m meth c b L xs) {sim : Nat → fb_S → fb_S → Prop} (hsm : sm_all sim) {o o2 : Int32 × fb_S} (hF1 : b_T_init_57 stT_0 = some o) (hF2 : b_M_init_163 stM_0 = some o2) (h0 : sim 0 o.2 o2.2) : W p l e room_1 s m #[Value.ref b] below meth c s.heap [] 0 0 (lw_Z below #[Value.ref b] s) (entryFrame m ([Value.ref b] : List Value).toArray 4) := by
  obtain ⟨hx, hb, hr, hml, hown, hts0, hX, hbl, hlocks, hgv⟩ := id C0
  have hts : ∀ w ∈ lw_g, w.before #[Value.ref b] s = true := fun w h => hts0 w (lw_gt h)
  have hown : s.vm.findClass "FileTreeLaw" = some m.cls := hown
  have hA : ∀ q : Nat, s.heap.size ≤ q → aX s q := fun _ h => h
  have hbA : ¬ aX s b := Nat.not_le.mpr hbl
  obtain ⟨z, hZ⟩ := st_zX hts0 hgv
  have hnT : nwT s := ⟨va_Nw.of rfl (hts0 _ q_19), va_Nw.of rfl (hts0 _ q_60), va_Nw.of rfl (hts0 _ q_25), va_Nw.of rfl (hts0 _ q_31)⟩
  obtain ⟨c0, iS0, hKn0⟩ := u_known (C := "FileTree$Directories") (T := ft_D) (N := 2) (n := 2) hts fi_D (hts _ q_18)
  obtain ⟨c1, iS1, hKn1⟩ := u_known (C := "FileTree$Disk") (T := ft_K) (N := 1) (n := 1) hts fi_K (hts _ q_30)
  obtain ⟨c2, iS2, hKn2⟩ := u_known (C := "FileTree$Inodes") (T := ft_I) (N := 2) (n := 2) hts fi_I (hts _ q_24)
  obtain ⟨c3, iS3, hKn3⟩ := u_known (C := "FileTree$Text") (T := ft_X) (N := 4) (n := 4) hts fi_X (hts _ q_59)
  obtain ⟨c4, iS4, hKn4⟩ := u_known (C := "FileTree") (T := ft_T) (N := 5) (n := 5) hts fi_T (hts _ q_10)
  obtain ⟨c5, iS5, hKn5⟩ := u_known (C := "FileTreeModel") (T := ft_M) (N := 18) (n := 18) hts fi_M (hts _ q_434)
  obtain ⟨dC, dI, hKc⟩ : ∃ (dC : Nat → ClassId) (dI : Nat → Nat → Nat), ∀ (k : Nat) (q : vw_C), vcl[k]? = some q → u_Kn s q.1 q.2.1 q.2.2 (dC k) (dI k) := by
    refine ⟨fun k => [c0, c1, c2, c3, c4, c5].getD k 0, fun k => [iS0, iS1, iS2, iS3, iS4, iS5].getD k iS0, ?_⟩
    intro k q hq
    match k, hq with
    | 0, hq => cases hq; exact hKn0
    | 1, hq => cases hq; exact hKn1
    | 2, hq => cases hq; exact hKn2
    | 3, hq => cases hq; exact hKn3
    | 4, hq => cases hq; exact hKn4
    | 5, hq => cases hq; exact hKn5
    | k + 6, hq => simp [vcl] at hq
  have hS : va_S (aX s) s.heap s.heap [] := va_S.rf
  have hK : va_K (dC, dI) vcl [] s := ⟨hKc, fun k q h => by simp at h⟩
  have hP : va_P (dC, dI) vcl [] s.heap := fun k q h => by simp at h
  have hD : va_D (aX s) [] := ⟨fun i j p q h => by simp at h, fun k q h => by simp at h⟩
  have hl := lv_entry ([.ref b]) (n := 4) (Nat.le_of_ble_eq_true rfl)
  rw [lg_entry_eq]
  generalize (lg_sl ([.ref b]) ++ List.replicate (4 - (lg_sl ([.ref b])).length) Slot.unset).toArray = ls at hl ⊢
  have hl : lv_has ls 4 [(0, .ref b)] := hl
  refine va_new (ci := 4) (fs := [.null, .null, .null, .null, .null]) (C := "FileTree") (T := ft_T) (N := 5) hx hb hts fi_T fy_T fo_T hown (hts _ q_9) (hts _ q_10) (hts _ q_1) hK hP hD hS hA rfl (fun j hj => by rcases (show j = 0 ∨ j = 1 ∨ j = 2 ∨ j = 3 ∨ j = 4 by omega) with rfl | rfl | rfl | rfl | rfl <;> rfl) (Nat.le_of_ble_eq_true rfl) (Nat.le_of_ble_eq_true rfl) kd_L_law_0 (fun qT H hP hD hS => ?_)
  have hP : va_P (dC, dI) vcl (pT qT) H := hP
  have hD : va_D (aX s) (pT qT) := hD
  refine W.widen (k := 1) (n := 5) (by decide) (by decide) ?_
  refine lv_dup hx hb kd_L_law_3 rfl ?_
  have hFc := va_free (wc := pT qT) hD hS hA [0] rfl
  refine va_callv (va_runI (As := []) (rest := [.ref qT]) ⟨hx, hb, hml, hown, hts⟩ (c_T_init l dC dI z qT H.size o hF1) (cwI 0 hts (gd_C q_13) rfl rfl rfl (hts _ q_1) (hts _ q_11) (hts _ q_12) rfl (by decide +kernel) ⟨Nat.le_of_ble_eq_true rfl, Nat.le_of_ble_eq_true rfl⟩) ⟨cpT_blind, cpT_pre hnT hP hK hD hS hFc hZ⟩ rfl rfl hl.1 rfl (lv_room (Nat.le_of_ble_eq_true rfl)) kd_L_law_4 ⟨Nat.le_of_ble_eq_true rfl, Nat.le_of_ble_eq_true rfl⟩) hS (fun q _ h => hFc q h) hFc (fun u t H1 locs ht hvm hw hB hz1 hk1 hS => ?_)
  obtain ⟨dA, a⟩ := u
  obtain ⟨hP1, hK1, hD1⟩ := hB
  rw [ht] at hP1
  have hK1 : va_K (dC, dI) vcl (tX dA) s := va_K.moved hvm.symm hK1
  have hw : a 0 = qT := hw
  subst hw
  have hP : va_P (dC, dI) vcl (wX dA a o.2) H1 := hP1
  have hD : va_D (aX s) (wX dA a o.2) := hD1.weaken (fun _ _ _ h => hFc _ h)
  generalize H1 = H at hP hS ⊢
  refine W.widen (k := 11) (n := 134510) (by decide) (by decide) ?_
  refine lv_astore_n (lv' := [(1, .ref (a 0)), (0, .ref b)]) hx hb kd_L_law_7 rfl hl (by decide) rfl (fun ls hl => ?_)
  refine va_new (ci := 5) (fs := [.int 0, .int 0, .null, .null, .null, .null, .null, .null, .null, .null, .null, .null, .null, .null, .null, .int 0, .int 0, .null]) (C := "FileTreeModel") (T := ft_M) (N := 18) hx hb hts fi_M fy_M fo_M hown (hts _ q_433) (hts _ q_434) (hts _ q_7) hK1 hP hD hS hA rfl (fun j hj => by rcases (show j = 0 ∨ j = 1 ∨ j = 2 ∨ j = 3 ∨ j = 4 ∨ j = 5 ∨ j = 6 ∨ j = 7 ∨ j = 8 ∨ j = 9 ∨ j = 10 ∨ j = 11 ∨ j = 12 ∨ j = 13 ∨ j = 14 ∨ j = 15 ∨ j = 16 ∨ j = 17 by omega) with rfl | rfl | rfl | rfl | rfl | rfl | rfl | rfl | rfl | rfl | rfl | rfl | rfl | rfl | rfl | rfl | rfl | rfl <;> rfl) (Nat.le_of_ble_eq_true rfl) (Nat.le_of_ble_eq_true rfl) kd_L_law_8 (fun qM H hP hD hS => ?_)
  have hP : va_P (dC, dI) vcl (wX dA a o.2 ++ pM qM) H := hP
  have hD : va_D (aX s) (wX dA a o.2 ++ pM qM) := hD
  refine W.widen (k := 12) (n := 134528) (by decide) (by decide) ?_
  refine lv_dup hx hb kd_L_law_11 rfl ?_
  have hPc := hP.sub (ws' := pM qM) [11] rfl
  have hDc := hD.sub (ws' := pM qM) [11] (by decide) rfl
  have hFc := va_free (wc := pM qM) hD hS hA [11] rfl
  refine va_callv (va_runI (As := []) (rest := [.ref qM]) ⟨hx, hb, hml, hown, hts⟩ (c_M_init l dC dI qM H.size o2 hF2) (cwI 0 hts (gd_C q_437) rfl rfl rfl (hts _ q_7) (hts _ q_435) (hts _ q_436) rfl (by decide +kernel) ⟨Nat.le_of_ble_eq_true rfl, Nat.le_of_ble_eq_true rfl⟩) ⟨cp_blind nw0_s, cp_pre nw0_s trivial hPc hK hDc⟩ rfl rfl hl.1 rfl (lv_room (Nat.le_of_ble_eq_true rfl)) kd_L_law_12 ⟨Nat.le_of_ble_eq_true rfl, Nat.le_of_ble_eq_true rfl⟩) hS (fun q _ h => hFc q h) hFc (fun u t H1 locs ht hvm hw hB hz1 hk1 hS => ?_)
  obtain ⟨dB, a2⟩ := u
  obtain ⟨hP1, hK2, hD1⟩ := hB
  rw [ht] at hP1
  have hK2 : va_K (dC, dI) vcl (tM dB) s := va_K.moved hvm.symm hK2
  have hw : a2 0 = qM := hw
  subst hw
  obtain ⟨hP, hD⟩ := va_join (wr := wX dA a o.2) (w1 := wM dB a2 o2.2) hP hD [11] [0, 1, 2, 3, 4, 5, 6, 7, 8, 9, 10] rfl rfl (by decide) (by decide) hk1 hFc hP1 hD1
  generalize H1 = H at hP hS ⊢
  have hap : lg_ap a a2 := lg_apart hD
  refine W.widen (k := 26) (n := 680346) (by decide) (by decide) ?_
  refine lv_astore_n (lv' := [(2, .ref (a2 0)), (1, .ref (a 0)), (0, .ref b)]) hx hb kd_L_law_15 rfl hl (by decide) rfl (fun ls hl => ?_)
  refine lv_iconst (v := 0) hx hb kd_L_law_16 (by decide) ?_
  refine lv_istore_n (lv' := [(3, .int 0), (2, .ref (a2 0)), (1, .ref (a 0)), (0, .ref b)]) hx hb kd_L_law_17 rfl hl (by decide) rfl (fun ls hl => ?_)
  exact lg_loop (z := z) ⟨hx, hb, hr, hml, hown, hts, hX, hbl, hlocks, hK1, hK2, hZ, hap⟩ hL hsm (L + 1) 0 0 o.2 o2.2 (by omega) (by omega) nI_0.symm h0 H locs (hP.sub [0, 1, 2, 3, 4, 5, 6, 7, 8, 9, 10] rfl) (hP.sub [11, 12, 13, 14, 15, 16, 17, 18, 19, 20, 21, 22, 23, 24, 25] rfl) (hD.sub [0, 1, 2, 3, 4, 5, 6, 7, 8, 9, 10] (by decide) rfl) (hD.sub [11, 12, 13, 14, 15, 16, 17, 18, 19, 20, 21, 22, 23, 24, 25] (by decide) rfl) hS ls (lv_sub hl [3, 2, 1, 0] rfl)

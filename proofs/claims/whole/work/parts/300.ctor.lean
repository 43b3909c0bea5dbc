theorem fb_Kinj {D : va_G} {cl : List vw_C} {tys : fb_Y} {U : State} (ty : FieldType) (hty : ty = .int ∨ ty = .byte ∨ ty = .boolean) (h : va_K D cl tys U) (i j : Nat) {c1 c2 : ClassId} (h1 : tys[i]? = some (c1, ty)) (h2 : tys[j]? = some (c2, ty)) : c1 = c2 := by
  have e1 := (h.2 i _ h1).2
  have e2 := (h.2 j _ h2).2
  rcases hty with rfl | rfl | rfl <;> exact Option.some.inj ((show U.vm.findClass _ = some c1 from e1).symm.trans e2)
def cp (D : va_G) (ws : va_W) (sz : Nat) (nw : State → Prop) (U : State) : Prop := U.heap.size = sz ∧ va_P D vcl ws U.heap ∧ va_K D vcl [] U ∧ va_D (fun _ => True) ws ∧ nw U
def cst (nw : State → Prop) : Prop := ∀ (s U : State), s.WarmedH U.vm → nw s → nw U
theorem cp_blind {D : va_G} {ws : va_W} {sz : Nat} {nw : State → Prop} {av : List Value} (hn : cst nw) : FrameBlind (va_Pc av (cp D ws sz nw)) := by
  intro a U g mk q
  obtain ⟨q0, q1, qP, qK, qD, qN⟩ := q
  exact ⟨q0, q1, qP, va_K.moved (u := U) (U := U.calling g mk a) (Vm.Alike.refl U.vm) qK, qD, hn U (U.calling g mk a) (State.WarmedH.refl U) qN⟩
theorem cp_pre {D : va_G} {ws : va_W} {nw : State → Prop} {av : List Value} {s : State} {H : Heap} {A : Nat → Prop} (hn : cst nw) (hnw : nw s) (hP : va_P D vcl ws H) (hK : va_K D vcl [] s) (hD : va_D A ws) : ∀ U : State, U.heap = H → s.WarmedH U.vm → va_Pc av (cp D ws H.size nw) av.toArray U := by
  intro U hU hW
  exact ⟨rfl, by rw [hU], by rw [hU]; exact hP, va_K.moved hW.alike hK, hD.weaken (fun _ _ _ _ => trivial), hn s U hW hnw⟩
def nw0 : State → Prop := fun _ => True
theorem nw0_s : cst nw0 := fun _ _ _ _ => trivial
def nwI : State → Prop := va_Nw (.methodLinkNest "FileTree$Inodes" 13 ky_K_init "FileTree")
theorem nwI_s : cst nwI := fun _ _ hW h => va_Nw.warmM hW h
def nwD : State → Prop := fun U => va_Nw (.methodLinkNest "FileTree$Directories" 11 ky_I_init "FileTree") U ∧ nwI U
theorem nwD_s : cst nwD := fun s U hW h => ⟨va_Nw.warmM hW h.1, nwI_s s U hW h.2⟩
def nwT : State → Prop := fun U => va_Nw (.methodLinkNest "FileTree" 11 ky_D_init "FileTree") U ∧ va_Nw (.methodLinkNest "FileTree" 30 ky_X_init "FileTree") U ∧ nwD U
theorem nwT_s : cst nwT := fun s U hW h => ⟨va_Nw.warmM hW h.1, va_Nw.warmM hW h.2.1, nwD_s s U hW h.2.2⟩

def stT_0 : fb_S := fun _ _ => 0
def stM_0 : fb_S := fun k => if k = 12 then (upd (upd (upd (upd (upd (upd (upd (upd (fun _ => 0) 0 270544960) 1 512) 2 474) 3 64) 4 31) 5 2) 6 33) 7 37) else fun _ => 0
abbrev pK (h0 : Nat) : va_W := [(h0, .inr (1, [.null]))]
set_option maxHeartbeats 4000000 in
set_option maxRecDepth 100000 in
abbrev at_K (dC : Nat → ClassId) (dI : Nat → Nat → Nat) (A : Nat → Prop) (h0 : Nat) (u : Nat × ClassId) (t : State) : Prop := match u with | (n7, c7) => va_P (dC, dI) vcl [(h0, .inr (1, [.ref n7])), (n7, .inl (c7, 131072, .inl (fun _ => 0)))] t.heap ∧ va_K (dC, dI) vcl [(c7, .int)] t ∧ va_D A [(h0, .inr (1, [.ref n7])), (n7, .inl (c7, 131072, .inl (fun _ => 0)))]
theorem c_K_init (l : Launch) (dC : Nat → ClassId) (dI : Nat → Nat → Nat) (h0 sz : Nat) : Met l ky_K_init kw_K_init ({ frames := 1, cells := 1, slots := 131072, locals := 20 }) (va_Pc [.ref h0] (cp (dC, dI) (pK h0) sz nw0)) (va_Qv (fun (_ : Nat × ClassId) => True) (at_K dC dI (va_A (pK h0) sz) h0) (va_A (pK h0) sz)) 1 131072 (va_A (pK h0) sz) := by
  refine Met.ofW (cc := kc_K_init) (maxL := 1) (ret := none) (by decide) rfl ?_
  intro p e s m args below meth c s₁ B hml hv
  obtain ⟨rfl, hsz, hP, hK, hD0, hn⟩ := hv
  have hx := B.exec
  have hb := B.bytes
  have hr := B.returns
  have hts := fun w (h : w ∈ lw_g) => atoms_spec (ws := kw_K_init) B.pre w (List.mem_cons_of_mem _ h)
  have hown : s.vm.findClass "FileTree$Disk" = some m.cls := findClass_of_methodNamed B.named
  have hlocks := B.notSynchronized
  have hin : meth.name = "<init>" := (name_of_methodNamed B.named B.method).1
  subst hsz
  have hD := hD0.self (sz := s.heap.size)
  generalize hAe : va_A (pK h0) s.heap.size = A at hD ⊢
  have hA : ∀ q : Nat, s.heap.size ≤ q → A q := fun q h => by rw [← hAe]; exact Or.inr h
  have hS : va_S A s.heap s.heap [] := va_S.rf
  have hl := lv_entry ([.ref h0]) (n := 1) (Nat.le_of_ble_eq_true rfl)
  rw [lg_entry_eq]
  generalize (lg_sl ([.ref h0]) ++ List.replicate (1 - (lg_sl ([.ref h0])).length) Slot.unset).toArray = ls at hl ⊢
  have hl : lv_has ls 1 [(0, .ref h0)] := hl
  refine lv_aload_n hx hb kd_K_init_0 rfl (lv_at hl 0 rfl) ?_
  refine W.objInit hx hb hown (hts _ q_34) (hts _ q_15) (hts _ q_16) rfl (by rw [hml]; exact hl.1) rfl kd_K_init_1 (Nat.le_of_ble_eq_true rfl) (Nat.le_of_ble_eq_true rfl) ?_
  refine W.eq (g2 := F0 m 4 ls []) rfl ?_
  refine lv_aload_n hx hb kd_K_init_4 rfl (lv_at hl 0 rfl) ?_
  refine lv_ldc (v := 131072) hx hb hown (hts _ q_35) kd_K_init_5 ?_
  refine va_newa (atype := .int) (ty := .int) (N' := 131072) (a0 := (131072, .inl (fun _ => 0))) hx hb (hts _ q_40) rfl hK hP hD hS hA (fun _ => rfl) (by decide) (by decide) (by decide) (Nat.le_of_ble_eq_true rfl) (Nat.le_of_ble_eq_true rfl) kd_K_init_7 (fun n7 c7 H hK hP hD hS => ?_)
  have hP : va_P (dC, dI) vcl [(h0, .inr (1, [.null])), (n7, .inl (c7, 131072, .inl (fun _ => 0)))] H := hP
  have hD : va_D A [(h0, .inr (1, [.null])), (n7, .inl (c7, 131072, .inl (fun _ => 0)))] := hD
  have hK : va_K (dC, dI) vcl [(c7, .int)] s := hK
  refine W.widen (k := 1) (n := 131072) (by decide) (by decide) ?_
  refine va_putF (D := (dC, dI)) (ci := 1) (v := .ref n7) (ty := .array .int) (C := "FileTree$Disk") (T := ft_K) (N := 1) hx hb hts fi_K fy_K fo_K fn_K hown hK hP hD hS 0 rfl rfl 0 (by decide) (hts _ q_36) (fun _ h9 => h9) rfl hin rfl (by decide +kernel) rfl rfl (Nat.le_of_ble_eq_true rfl) kd_K_init_9 (fun H locs hP hD hS => ?_)
  have hP : va_P (dC, dI) vcl [(h0, .inr (1, [.ref n7])), (n7, .inl (c7, 131072, .inl (fun _ => 0)))] H := hP
  have hD : va_D A [(h0, .inr (1, [.ref n7])), (n7, .inl (c7, 131072, .inl (fun _ => 0)))] := hD
  have hK : va_K (dC, dI) vcl [(c7, .int)] s := hK
  exact W.vret hx hb hr (fun t ht hW => ⟨⟨(n7, c7), rfl, trivial, by rw [ht]; exact hP, va_K.moved hW.alike hK, hD⟩, hS.F ht⟩) hS.2.2 kd_K_init_12 hlocks
abbrev pI (h0 : Nat) : va_W := [(h0, .inr (2, [.null, .null]))]
set_option maxHeartbeats 4000000 in
set_option maxRecDepth 100000 in
abbrev at_I (dC : Nat → ClassId) (dI : Nat → Nat → Nat) (A : Nat → Prop) (h0 : Nat) (u : Nat × Nat × Nat × ClassId) (t : State) : Prop := match u with | (n5, n7_9, n18, c7_9) => va_P (dC, dI) vcl [(h0, .inr (2, [.ref n5, .ref n18])), (n5, .inr (1, [.ref n7_9])), (n7_9, .inl (c7_9, 131072, .inl (fun _ => 0))), (n18, .inl (c7_9, 64, .inl (fun _ => 0)))] t.heap ∧ va_K (dC, dI) vcl [(c7_9, .int)] t ∧ va_D A [(h0, .inr (2, [.ref n5, .ref n18])), (n5, .inr (1, [.ref n7_9])), (n7_9, .inl (c7_9, 131072, .inl (fun _ => 0))), (n18, .inl (c7_9, 64, .inl (fun _ => 0)))]
theorem c_I_init (l : Launch) (dC : Nat → ClassId) (dI : Nat → Nat → Nat) (h0 sz : Nat) : Met l ky_I_init kw_I_init ({ frames := 2, cells := 3, slots := 131137, locals := 40 }) (va_Pc [.ref h0] (cp (dC, dI) (pI h0) sz nwI)) (va_Qv (fun (_ : Nat × Nat × Nat × ClassId) => True) (at_I dC dI (va_A (pI h0) sz) h0) (va_A (pI h0) sz)) 3 131137 (va_A (pI h0) sz) := by
  refine Met.ofW (cc := kc_I_init) (maxL := 1) (ret := none) (by decide) rfl ?_
  intro p e s m args below meth c s₁ B hml hv
  obtain ⟨rfl, hsz, hP, hK, hD0, hn⟩ := hv
  have hx := B.exec
  have hb := B.bytes
  have hr := B.returns
  have hts := fun w (h : w ∈ lw_g) => atoms_spec (ws := kw_I_init) B.pre w (List.mem_cons_of_mem _ h)
  have hown : s.vm.findClass "FileTree$Inodes" = some m.cls := findClass_of_methodNamed B.named
  have hlocks := B.notSynchronized
  have hin : meth.name = "<init>" := (name_of_methodNamed B.named B.method).1
  subst hsz
  have hD := hD0.self (sz := s.heap.size)
  generalize hAe : va_A (pI h0) s.heap.size = A at hD ⊢
  have hA : ∀ q : Nat, s.heap.size ≤ q → A q := fun q h => by rw [← hAe]; exact Or.inr h
  have hS : va_S A s.heap s.heap [] := va_S.rf
  have hl := lv_entry ([.ref h0]) (n := 1) (Nat.le_of_ble_eq_true rfl)
  rw [lg_entry_eq]
  generalize (lg_sl ([.ref h0]) ++ List.replicate (1 - (lg_sl ([.ref h0])).length) Slot.unset).toArray = ls at hl ⊢
  have hl : lv_has ls 1 [(0, .ref h0)] := hl
  refine lv_aload_n hx hb kd_I_init_0 rfl (lv_at hl 0 rfl) ?_
  refine W.objInit hx hb hown (hts _ q_28) (hts _ q_15) (hts _ q_16) rfl (by rw [hml]; exact hl.1) rfl kd_I_init_1 (Nat.le_of_ble_eq_true rfl) (Nat.le_of_ble_eq_true rfl) ?_
  refine W.eq (g2 := F0 m 4 ls []) rfl ?_
  refine lv_aload_n hx hb kd_I_init_4 rfl (lv_at hl 0 rfl) ?_
  refine va_new (ci := 1) (fs := [.null]) (C := "FileTree$Disk") (T := ft_K) (N := 1) hx hb hts fi_K fy_K fo_K hown (hts _ q_29) (hts _ q_30) (hts _ q_4) hK hP hD hS hA rfl (fun j hj => by rcases (show j = 0 by omega) with rfl <;> rfl) (Nat.le_of_ble_eq_true rfl) (Nat.le_of_ble_eq_true rfl) kd_I_init_5 (fun n5 H hP hD hS => ?_)
  have hP : va_P (dC, dI) vcl [(h0, .inr (2, [.null, .null])), (n5, .inr (1, [.null]))] H := hP
  have hD : va_D A [(h0, .inr (2, [.null, .null])), (n5, .inr (1, [.null]))] := hD
  have hK : va_K (dC, dI) vcl [] s := hK
  refine W.widen (k := 1) (n := 1) (by decide) (by decide) ?_
  refine lv_dup hx hb kd_I_init_8 rfl ?_
  have hPc := hP.sub (ws' := [(n5, .inr (1, [.null]))]) [1] rfl
  have hDc := hD.sub (ws' := [(n5, .inr (1, [.null]))]) [1] (by decide) rfl
  have hKc := hK.sub (tys' := []) [] rfl
  have hFc := va_free (wc := [(n5, .inr (1, [.null]))]) hD hS hA [1] rfl
  refine va_callv (va_runIN (As := []) (rest := [.ref n5, .ref h0]) ⟨hx, hb, hml, hown, hts⟩ (c_K_init l dC dI n5 H.size) ⟨va_cnB 0 hts (gd_C q_33) rfl rfl rfl hn (hts _ q_4) (by decide +kernel) ⟨Nat.le_of_ble_eq_true rfl, Nat.le_of_ble_eq_true rfl⟩, rfl, hts _ q_32⟩ ⟨cp_blind nw0_s, cp_pre nw0_s trivial hPc hKc hDc⟩ rfl rfl hl.1 rfl (lv_room (Nat.le_of_ble_eq_true rfl)) kd_I_init_9 ⟨Nat.le_of_ble_eq_true rfl, Nat.le_of_ble_eq_true rfl⟩) hS (fun q _ h => hFc q h) hFc (fun u t H1 locs ht hvm hw hB hz1 hk1 hS => ?_)
  obtain ⟨n7_9, c7_9⟩ := u
  obtain ⟨hP1, hK1, hD1⟩ := hB
  rw [ht] at hP1
  have hK1 := va_K.moved hvm.symm hK1
  obtain ⟨hP, hD⟩ := va_join (wr := [(h0, .inr (2, [.null, .null]))]) (w1 := [(n5, .inr (1, [.ref n7_9])), (n7_9, .inl (c7_9, 131072, .inl (fun _ => 0)))]) hP hD [1] [0] rfl rfl (by decide) (by decide) hk1 hFc hP1 hD1
  have hK := hK.app hK1
  generalize H1 = H at hP hS ⊢
  have hP : va_P (dC, dI) vcl [(h0, .inr (2, [.null, .null])), (n5, .inr (1, [.ref n7_9])), (n7_9, .inl (c7_9, 131072, .inl (fun _ => 0)))] H := hP
  have hD : va_D A [(h0, .inr (2, [.null, .null])), (n5, .inr (1, [.ref n7_9])), (n7_9, .inl (c7_9, 131072, .inl (fun _ => 0)))] := hD
  have hK : va_K (dC, dI) vcl [(c7_9, .int)] s := hK
  refine W.widen (k := 2) (n := 131073) (by decide) (by decide) ?_
  refine va_putF (D := (dC, dI)) (ci := 2) (v := .ref n5) (ty := .object "FileTree$Disk") (C := "FileTree$Inodes") (T := ft_I) (N := 2) hx hb hts fi_I fy_I fo_I fn_I hown hK hP hD hS 0 rfl rfl 0 (by decide) (hts _ q_41) (fun _ h9 => h9) rfl hin rfl (by decide +kernel) rfl rfl (Nat.le_of_ble_eq_true rfl) kd_I_init_12 (fun H locs hP hD hS => ?_)
  have hP : va_P (dC, dI) vcl [(h0, .inr (2, [.ref n5, .null])), (n5, .inr (1, [.ref n7_9])), (n7_9, .inl (c7_9, 131072, .inl (fun _ => 0)))] H := hP
  have hD : va_D A [(h0, .inr (2, [.ref n5, .null])), (n5, .inr (1, [.ref n7_9])), (n7_9, .inl (c7_9, 131072, .inl (fun _ => 0)))] := hD
  have hK : va_K (dC, dI) vcl [(c7_9, .int)] s := hK
  refine lv_aload_n hx hb kd_I_init_15 rfl (lv_at hl 0 rfl) ?_
  refine lv_bipush (v := 64) hx hb kd_I_init_16 (by decide) ?_
  refine va_newa (atype := .int) (ty := .int) (N' := 64) (a0 := (64, .inl (fun _ => 0))) hx hb (hts _ q_40) rfl hK hP hD hS hA (fun _ => rfl) (by decide) (by decide) (by decide) (Nat.le_of_ble_eq_true rfl) (Nat.le_of_ble_eq_true rfl) kd_I_init_18 (fun n18 c18 H hK hP hD hS => ?_)
  have hP : va_P (dC, dI) vcl [(h0, .inr (2, [.ref n5, .null])), (n5, .inr (1, [.ref n7_9])), (n7_9, .inl (c7_9, 131072, .inl (fun _ => 0))), (n18, .inl (c18, 64, .inl (fun _ => 0)))] H := hP
  have hD : va_D A [(h0, .inr (2, [.ref n5, .null])), (n5, .inr (1, [.ref n7_9])), (n7_9, .inl (c7_9, 131072, .inl (fun _ => 0))), (n18, .inl (c18, 64, .inl (fun _ => 0)))] := hD
  have hK : va_K (dC, dI) vcl [(c7_9, .int), (c18, .int)] s := hK
  refine W.widen (k := 3) (n := 131137) (by decide) (by decide) ?_
  obtain rfl : c7_9 = c18 := fb_Kinj .int (by simp) hK 0 1 rfl rfl
  have hK := hK.sub (tys' := [(c7_9, .int)]) [0] rfl
  have hP : va_P (dC, dI) vcl [(h0, .inr (2, [.ref n5, .null])), (n5, .inr (1, [.ref n7_9])), (n7_9, .inl (c7_9, 131072, .inl (fun _ => 0))), (n18, .inl (c7_9, 64, .inl (fun _ => 0)))] H := hP
  have hD : va_D A [(h0, .inr (2, [.ref n5, .null])), (n5, .inr (1, [.ref n7_9])), (n7_9, .inl (c7_9, 131072, .inl (fun _ => 0))), (n18, .inl (c7_9, 64, .inl (fun _ => 0)))] := hD
  have hK : va_K (dC, dI) vcl [(c7_9, .int)] s := hK
  refine va_putF (D := (dC, dI)) (ci := 2) (v := .ref n18) (ty := .array .int) (C := "FileTree$Inodes") (T := ft_I) (N := 2) hx hb hts fi_I fy_I fo_I fn_I hown hK hP hD hS 0 rfl rfl 1 (by decide) (hts _ q_44) (fun _ h9 => h9) rfl hin rfl (by decide +kernel) rfl rfl (Nat.le_of_ble_eq_true rfl) kd_I_init_20 (fun H locs hP hD hS => ?_)
  have hP : va_P (dC, dI) vcl [(h0, .inr (2, [.ref n5, .ref n18])), (n5, .inr (1, [.ref n7_9])), (n7_9, .inl (c7_9, 131072, .inl (fun _ => 0))), (n18, .inl (c7_9, 64, .inl (fun _ => 0)))] H := hP
  have hD : va_D A [(h0, .inr (2, [.ref n5, .ref n18])), (n5, .inr (1, [.ref n7_9])), (n7_9, .inl (c7_9, 131072, .inl (fun _ => 0))), (n18, .inl (c7_9, 64, .inl (fun _ => 0)))] := hD
  have hK : va_K (dC, dI) vcl [(c7_9, .int)] s := hK
  exact W.vret hx hb hr (fun t ht hW => ⟨⟨(n5, n7_9, n18, c7_9), rfl, trivial, by rw [ht]; exact hP, va_K.moved hW.alike hK, hD⟩, hS.F ht⟩) hS.2.2 kd_I_init_23 hlocks
abbrev pD (h0 : Nat) : va_W := [(h0, .inr (0, [.null, .null]))]
set_option maxHeartbeats 4000000 in
set_option maxRecDepth 100000 in
abbrev at_D (dC : Nat → ClassId) (dI : Nat → Nat → Nat) (A : Nat → Prop) (h0 : Nat) (u : Nat × Nat × Nat × Nat × ClassId) (t : State) : Prop := match u with | (n5, n5_9, n7_9_9, n18_9, c7_9_9) => va_P (dC, dI) vcl [(h0, .inr (0, [.ref n5, .ref n5_9])), (n5, .inr (2, [.ref n5_9, .ref n18_9])), (n5_9, .inr (1, [.ref n7_9_9])), (n7_9_9, .inl (c7_9_9, 131072, .inl (fun _ => 0))), (n18_9, .inl (c7_9_9, 64, .inl (fun _ => 0)))] t.heap ∧ va_K (dC, dI) vcl [(c7_9_9, .int)] t ∧ va_D A [(h0, .inr (0, [.ref n5, .ref n5_9])), (n5, .inr (2, [.ref n5_9, .ref n18_9])), (n5_9, .inr (1, [.ref n7_9_9])), (n7_9_9, .inl (c7_9_9, 131072, .inl (fun _ => 0))), (n18_9, .inl (c7_9_9, 64, .inl (fun _ => 0)))]
theorem c_D_init (l : Launch) (dC : Nat → ClassId) (dI : Nat → Nat → Nat) (h0 sz : Nat) : Met l ky_D_init kw_D_init ({ frames := 3, cells := 4, slots := 131139, locals := 60 }) (va_Pc [.ref h0] (cp (dC, dI) (pD h0) sz nwD)) (va_Qv (fun (_ : Nat × Nat × Nat × Nat × ClassId) => True) (at_D dC dI (va_A (pD h0) sz) h0) (va_A (pD h0) sz)) 4 131139 (va_A (pD h0) sz) := by
  refine Met.ofW (cc := kc_D_init) (maxL := 1) (ret := none) (by decide) rfl ?_
  intro p e s m args below meth c s₁ B hml hv
  obtain ⟨rfl, hsz, hP, hK, hD0, hn⟩ := hv
  have hx := B.exec
  have hb := B.bytes
  have hr := B.returns
  have hts := fun w (h : w ∈ lw_g) => atoms_spec (ws := kw_D_init) B.pre w (List.mem_cons_of_mem _ h)
  have hown : s.vm.findClass "FileTree$Directories" = some m.cls := findClass_of_methodNamed B.named
  have hlocks := B.notSynchronized
  have hin : meth.name = "<init>" := (name_of_methodNamed B.named B.method).1
  subst hsz
  have hD := hD0.self (sz := s.heap.size)
  generalize hAe : va_A (pD h0) s.heap.size = A at hD ⊢
  have hA : ∀ q : Nat, s.heap.size ≤ q → A q := fun q h => by rw [← hAe]; exact Or.inr h
  have hS : va_S A s.heap s.heap [] := va_S.rf
  have hl := lv_entry ([.ref h0]) (n := 1) (Nat.le_of_ble_eq_true rfl)
  rw [lg_entry_eq]
  generalize (lg_sl ([.ref h0]) ++ List.replicate (1 - (lg_sl ([.ref h0])).length) Slot.unset).toArray = ls at hl ⊢
  have hl : lv_has ls 1 [(0, .ref h0)] := hl
  refine lv_aload_n hx hb kd_D_init_0 rfl (lv_at hl 0 rfl) ?_
  refine W.objInit hx hb hown (hts _ q_22) (hts _ q_15) (hts _ q_16) rfl (by rw [hml]; exact hl.1) rfl kd_D_init_1 (Nat.le_of_ble_eq_true rfl) (Nat.le_of_ble_eq_true rfl) ?_
  refine W.eq (g2 := F0 m 4 ls []) rfl ?_
  refine lv_aload_n hx hb kd_D_init_4 rfl (lv_at hl 0 rfl) ?_
  refine va_new (ci := 2) (fs := [.null, .null]) (C := "FileTree$Inodes") (T := ft_I) (N := 2) hx hb hts fi_I fy_I fo_I hown (hts _ q_23) (hts _ q_24) (hts _ q_3) hK hP hD hS hA rfl (fun j hj => by rcases (show j = 0 ∨ j = 1 by omega) with rfl | rfl <;> rfl) (Nat.le_of_ble_eq_true rfl) (Nat.le_of_ble_eq_true rfl) kd_D_init_5 (fun n5 H hP hD hS => ?_)
  have hP : va_P (dC, dI) vcl [(h0, .inr (0, [.null, .null])), (n5, .inr (2, [.null, .null]))] H := hP
  have hD : va_D A [(h0, .inr (0, [.null, .null])), (n5, .inr (2, [.null, .null]))] := hD
  have hK : va_K (dC, dI) vcl [] s := hK
  refine W.widen (k := 1) (n := 2) (by decide) (by decide) ?_
  refine lv_dup hx hb kd_D_init_8 rfl ?_
  have hPc := hP.sub (ws' := [(n5, .inr (2, [.null, .null]))]) [1] rfl
  have hDc := hD.sub (ws' := [(n5, .inr (2, [.null, .null]))]) [1] (by decide) rfl
  have hKc := hK.sub (tys' := []) [] rfl
  have hFc := va_free (wc := [(n5, .inr (2, [.null, .null]))]) hD hS hA [1] rfl
  refine va_callv (va_runIN (As := []) (rest := [.ref n5, .ref h0]) ⟨hx, hb, hml, hown, hts⟩ (c_I_init l dC dI n5 H.size) ⟨va_cnB 0 hts (gd_C q_27) rfl rfl rfl hn.1 (hts _ q_3) (by decide +kernel) ⟨Nat.le_of_ble_eq_true rfl, Nat.le_of_ble_eq_true rfl⟩, rfl, hts _ q_26⟩ ⟨cp_blind nwI_s, cp_pre nwI_s hn.2 hPc hKc hDc⟩ rfl rfl hl.1 rfl (lv_room (Nat.le_of_ble_eq_true rfl)) kd_D_init_9 ⟨Nat.le_of_ble_eq_true rfl, Nat.le_of_ble_eq_true rfl⟩) hS (fun q _ h => hFc q h) hFc (fun u t H1 locs ht hvm hw hB hz1 hk1 hS => ?_)
  obtain ⟨n5_9, n7_9_9, n18_9, c7_9_9⟩ := u
  obtain ⟨hP1, hK1, hD1⟩ := hB
  rw [ht] at hP1
  have hK1 := va_K.moved hvm.symm hK1
  obtain ⟨hP, hD⟩ := va_join (wr := [(h0, .inr (0, [.null, .null]))]) (w1 := [(n5, .inr (2, [.ref n5_9, .ref n18_9])), (n5_9, .inr (1, [.ref n7_9_9])), (n7_9_9, .inl (c7_9_9, 131072, .inl (fun _ => 0))), (n18_9, .inl (c7_9_9, 64, .inl (fun _ => 0)))]) hP hD [1] [0] rfl rfl (by decide) (by decide) hk1 hFc hP1 hD1
  have hK := hK.app hK1
  generalize H1 = H at hP hS ⊢
  have hP : va_P (dC, dI) vcl [(h0, .inr (0, [.null, .null])), (n5, .inr (2, [.ref n5_9, .ref n18_9])), (n5_9, .inr (1, [.ref n7_9_9])), (n7_9_9, .inl (c7_9_9, 131072, .inl (fun _ => 0))), (n18_9, .inl (c7_9_9, 64, .inl (fun _ => 0)))] H := hP
  have hD : va_D A [(h0, .inr (0, [.null, .null])), (n5, .inr (2, [.ref n5_9, .ref n18_9])), (n5_9, .inr (1, [.ref n7_9_9])), (n7_9_9, .inl (c7_9_9, 131072, .inl (fun _ => 0))), (n18_9, .inl (c7_9_9, 64, .inl (fun _ => 0)))] := hD
  have hK : va_K (dC, dI) vcl [(c7_9_9, .int)] s := hK
  refine W.widen (k := 4) (n := 131139) (by decide) (by decide) ?_
  refine va_putF (D := (dC, dI)) (ci := 0) (v := .ref n5) (ty := .object "FileTree$Inodes") (C := "FileTree$Directories") (T := ft_D) (N := 2) hx hb hts fi_D fy_D fo_D fn_D hown hK hP hD hS 0 rfl rfl 0 (by decide) (hts _ q_50) (fun _ h9 => h9) rfl hin rfl (by decide +kernel) rfl rfl (Nat.le_of_ble_eq_true rfl) kd_D_init_12 (fun H locs hP hD hS => ?_)
  have hP : va_P (dC, dI) vcl [(h0, .inr (0, [.ref n5, .null])), (n5, .inr (2, [.ref n5_9, .ref n18_9])), (n5_9, .inr (1, [.ref n7_9_9])), (n7_9_9, .inl (c7_9_9, 131072, .inl (fun _ => 0))), (n18_9, .inl (c7_9_9, 64, .inl (fun _ => 0)))] H := hP
  have hD : va_D A [(h0, .inr (0, [.ref n5, .null])), (n5, .inr (2, [.ref n5_9, .ref n18_9])), (n5_9, .inr (1, [.ref n7_9_9])), (n7_9_9, .inl (c7_9_9, 131072, .inl (fun _ => 0))), (n18_9, .inl (c7_9_9, 64, .inl (fun _ => 0)))] := hD
  have hK : va_K (dC, dI) vcl [(c7_9_9, .int)] s := hK
  refine lv_aload_n hx hb kd_D_init_15 rfl (lv_at hl 0 rfl) ?_
  refine lv_aload_n hx hb kd_D_init_16 rfl (lv_at hl 0 rfl) ?_
  refine va_get (D := (dC, dI)) (ci := 0) (v := .ref n5) (C := "FileTree$Directories") (T := ft_D) (N := 2) hx hb hts fi_D hown hK hP 0 rfl rfl 0 (by decide) (hts _ q_50) (fun _ h9 => h9) rfl kd_D_init_17 ?_
  refine va_get (D := (dC, dI)) (ci := 2) (v := .ref n5_9) (C := "FileTree$Inodes") (T := ft_I) (N := 2) hx hb hts fi_I hown hK hP 1 rfl rfl 0 (by decide) (hts _ q_42) (fun _ h9 => h9) rfl kd_D_init_20 ?_
  refine va_putF (D := (dC, dI)) (ci := 0) (v := .ref n5_9) (ty := .object "FileTree$Disk") (C := "FileTree$Directories") (T := ft_D) (N := 2) hx hb hts fi_D fy_D fo_D fn_D hown hK hP hD hS 0 rfl rfl 1 (by decide) (hts _ q_52) (fun _ h9 => h9) rfl hin rfl (by decide +kernel) rfl rfl (Nat.le_of_ble_eq_true rfl) kd_D_init_23 (fun H locs hP hD hS => ?_)
  have hP : va_P (dC, dI) vcl [(h0, .inr (0, [.ref n5, .ref n5_9])), (n5, .inr (2, [.ref n5_9, .ref n18_9])), (n5_9, .inr (1, [.ref n7_9_9])), (n7_9_9, .inl (c7_9_9, 131072, .inl (fun _ => 0))), (n18_9, .inl (c7_9_9, 64, .inl (fun _ => 0)))] H := hP
  have hD : va_D A [(h0, .inr (0, [.ref n5, .ref n5_9])), (n5, .inr (2, [.ref n5_9, .ref n18_9])), (n5_9, .inr (1, [.ref n7_9_9])), (n7_9_9, .inl (c7_9_9, 131072, .inl (fun _ => 0))), (n18_9, .inl (c7_9_9, 64, .inl (fun _ => 0)))] := hD
  have hK : va_K (dC, dI) vcl [(c7_9_9, .int)] s := hK
  exact W.vret hx hb hr (fun t ht hW => ⟨⟨(n5, n5_9, n7_9_9, n18_9, c7_9_9), rfl, trivial, by rw [ht]; exact hP, va_K.moved hW.alike hK, hD⟩, hS.F ht⟩) hS.2.2 kd_D_init_26 hlocks
abbrev pX (h0 : Nat) : va_W := [(h0, .inr (3, [.null, .null, .null, .int 0]))]
set_option maxHeartbeats 4000000 in
set_option maxRecDepth 100000 in
abbrev at_X (dC : Nat → ClassId) (dI : Nat → Nat → Nat) (A : Nat → Prop) (h0 : Nat) (u : Nat × Nat × Nat × ClassId) (t : State) : Prop := match u with | (n8, n16, n24, c8) => va_P (dC, dI) vcl [(h0, .inr (3, [.ref n8, .ref n16, .ref n24, .int 0])), (n8, .inl (c8, 260, .inl (fun _ => 0))), (n16, .inl (c8, 14, .inl (fun _ => 0))), (n24, .inl (c8, 14, .inl (fun _ => 0)))] t.heap ∧ va_K (dC, dI) vcl [(c8, .byte)] t ∧ va_D A [(h0, .inr (3, [.ref n8, .ref n16, .ref n24, .int 0])), (n8, .inl (c8, 260, .inl (fun _ => 0))), (n16, .inl (c8, 14, .inl (fun _ => 0))), (n24, .inl (c8, 14, .inl (fun _ => 0)))]
theorem c_X_init (l : Launch) (dC : Nat → ClassId) (dI : Nat → Nat → Nat) (h0 sz : Nat) : Met l ky_X_init kw_X_init ({ frames := 1, cells := 3, slots := 288, locals := 20 }) (va_Pc [.ref h0] (cp (dC, dI) (pX h0) sz nw0)) (va_Qv (fun (_ : Nat × Nat × Nat × ClassId) => True) (at_X dC dI (va_A (pX h0) sz) h0) (va_A (pX h0) sz)) 3 288 (va_A (pX h0) sz) := by
  refine Met.ofW (cc := kc_X_init) (maxL := 1) (ret := none) (by decide) rfl ?_
  intro p e s m args below meth c s₁ B hml hv
  obtain ⟨rfl, hsz, hP, hK, hD0, hn⟩ := hv
  have hx := B.exec
  have hb := B.bytes
  have hr := B.returns
  have hts := fun w (h : w ∈ lw_g) => atoms_spec (ws := kw_X_init) B.pre w (List.mem_cons_of_mem _ h)
  have hown : s.vm.findClass "FileTree$Text" = some m.cls := findClass_of_methodNamed B.named
  have hlocks := B.notSynchronized
  have hin : meth.name = "<init>" := (name_of_methodNamed B.named B.method).1
  subst hsz
  have hD := hD0.self (sz := s.heap.size)
  generalize hAe : va_A (pX h0) s.heap.size = A at hD ⊢
  have hA : ∀ q : Nat, s.heap.size ≤ q → A q := fun q h => by rw [← hAe]; exact Or.inr h
  have hS : va_S A s.heap s.heap [] := va_S.rf
  have hl := lv_entry ([.ref h0]) (n := 1) (Nat.le_of_ble_eq_true rfl)
  rw [lg_entry_eq]
  generalize (lg_sl ([.ref h0]) ++ List.replicate (1 - (lg_sl ([.ref h0])).length) Slot.unset).toArray = ls at hl ⊢
  have hl : lv_has ls 1 [(0, .ref h0)] := hl
  refine lv_aload_n hx hb kd_X_init_0 rfl (lv_at hl 0 rfl) ?_
  refine W.objInit hx hb hown (hts _ q_63) (hts _ q_15) (hts _ q_16) rfl (by rw [hml]; exact hl.1) rfl kd_X_init_1 (Nat.le_of_ble_eq_true rfl) (Nat.le_of_ble_eq_true rfl) ?_
  refine W.eq (g2 := F0 m 4 ls []) rfl ?_
  refine lv_aload_n hx hb kd_X_init_4 rfl (lv_at hl 0 rfl) ?_
  refine lv_sipush (v := 260) hx hb kd_X_init_5 (by decide) ?_
  refine va_newa (atype := .byte) (ty := .byte) (N' := 260) (a0 := (260, .inl (fun _ => 0))) hx hb (hts _ q_80) rfl hK hP hD hS hA (fun _ => rfl) (by decide) (by decide) (by decide) (Nat.le_of_ble_eq_true rfl) (Nat.le_of_ble_eq_true rfl) kd_X_init_8 (fun n8 c8 H hK hP hD hS => ?_)
  have hP : va_P (dC, dI) vcl [(h0, .inr (3, [.null, .null, .null, .int 0])), (n8, .inl (c8, 260, .inl (fun _ => 0)))] H := hP
  have hD : va_D A [(h0, .inr (3, [.null, .null, .null, .int 0])), (n8, .inl (c8, 260, .inl (fun _ => 0)))] := hD
  have hK : va_K (dC, dI) vcl [(c8, .byte)] s := hK
  refine W.widen (k := 1) (n := 260) (by decide) (by decide) ?_
  refine va_putF (D := (dC, dI)) (ci := 3) (v := .ref n8) (ty := .array .byte) (C := "FileTree$Text") (T := ft_X) (N := 4) hx hb hts fi_X fy_X fo_X fn_X hown hK hP hD hS 0 rfl rfl 0 (by decide) (hts _ q_64) (fun _ h9 => h9) rfl hin rfl (by decide +kernel) rfl rfl (Nat.le_of_ble_eq_true rfl) kd_X_init_10 (fun H locs hP hD hS => ?_)
  have hP : va_P (dC, dI) vcl [(h0, .inr (3, [.ref n8, .null, .null, .int 0])), (n8, .inl (c8, 260, .inl (fun _ => 0)))] H := hP
  have hD : va_D A [(h0, .inr (3, [.ref n8, .null, .null, .int 0])), (n8, .inl (c8, 260, .inl (fun _ => 0)))] := hD
  have hK : va_K (dC, dI) vcl [(c8, .byte)] s := hK
  refine lv_aload_n hx hb kd_X_init_13 rfl (lv_at hl 0 rfl) ?_
  refine lv_bipush (v := 14) hx hb kd_X_init_14 (by decide) ?_
  refine va_newa (atype := .byte) (ty := .byte) (N' := 14) (a0 := (14, .inl (fun _ => 0))) hx hb (hts _ q_80) rfl hK hP hD hS hA (fun _ => rfl) (by decide) (by decide) (by decide) (Nat.le_of_ble_eq_true rfl) (Nat.le_of_ble_eq_true rfl) kd_X_init_16 (fun n16 c16 H hK hP hD hS => ?_)
  have hP : va_P (dC, dI) vcl [(h0, .inr (3, [.ref n8, .null, .null, .int 0])), (n8, .inl (c8, 260, .inl (fun _ => 0))), (n16, .inl (c16, 14, .inl (fun _ => 0)))] H := hP
  have hD : va_D A [(h0, .inr (3, [.ref n8, .null, .null, .int 0])), (n8, .inl (c8, 260, .inl (fun _ => 0))), (n16, .inl (c16, 14, .inl (fun _ => 0)))] := hD
  have hK : va_K (dC, dI) vcl [(c8, .byte), (c16, .byte)] s := hK
  refine W.widen (k := 2) (n := 274) (by decide) (by decide) ?_
  obtain rfl : c8 = c16 := fb_Kinj .byte (by simp) hK 0 1 rfl rfl
  have hK := hK.sub (tys' := [(c8, .byte)]) [0] rfl
  have hP : va_P (dC, dI) vcl [(h0, .inr (3, [.ref n8, .null, .null, .int 0])), (n8, .inl (c8, 260, .inl (fun _ => 0))), (n16, .inl (c8, 14, .inl (fun _ => 0)))] H := hP
  have hD : va_D A [(h0, .inr (3, [.ref n8, .null, .null, .int 0])), (n8, .inl (c8, 260, .inl (fun _ => 0))), (n16, .inl (c8, 14, .inl (fun _ => 0)))] := hD
  have hK : va_K (dC, dI) vcl [(c8, .byte)] s := hK
  refine va_putF (D := (dC, dI)) (ci := 3) (v := .ref n16) (ty := .array .byte) (C := "FileTree$Text") (T := ft_X) (N := 4) hx hb hts fi_X fy_X fo_X fn_X hown hK hP hD hS 0 rfl rfl 1 (by decide) (hts _ q_65) (fun _ h9 => h9) rfl hin rfl (by decide +kernel) rfl rfl (Nat.le_of_ble_eq_true rfl) kd_X_init_18 (fun H locs hP hD hS => ?_)
  have hP : va_P (dC, dI) vcl [(h0, .inr (3, [.ref n8, .ref n16, .null, .int 0])), (n8, .inl (c8, 260, .inl (fun _ => 0))), (n16, .inl (c8, 14, .inl (fun _ => 0)))] H := hP
  have hD : va_D A [(h0, .inr (3, [.ref n8, .ref n16, .null, .int 0])), (n8, .inl (c8, 260, .inl (fun _ => 0))), (n16, .inl (c8, 14, .inl (fun _ => 0)))] := hD
  have hK : va_K (dC, dI) vcl [(c8, .byte)] s := hK
  refine lv_aload_n hx hb kd_X_init_21 rfl (lv_at hl 0 rfl) ?_
  refine lv_bipush (v := 14) hx hb kd_X_init_22 (by decide) ?_
  refine va_newa (atype := .byte) (ty := .byte) (N' := 14) (a0 := (14, .inl (fun _ => 0))) hx hb (hts _ q_80) rfl hK hP hD hS hA (fun _ => rfl) (by decide) (by decide) (by decide) (Nat.le_of_ble_eq_true rfl) (Nat.le_of_ble_eq_true rfl) kd_X_init_24 (fun n24 c24 H hK hP hD hS => ?_)
  have hP : va_P (dC, dI) vcl [(h0, .inr (3, [.ref n8, .ref n16, .null, .int 0])), (n8, .inl (c8, 260, .inl (fun _ => 0))), (n16, .inl (c8, 14, .inl (fun _ => 0))), (n24, .inl (c24, 14, .inl (fun _ => 0)))] H := hP
  have hD : va_D A [(h0, .inr (3, [.ref n8, .ref n16, .null, .int 0])), (n8, .inl (c8, 260, .inl (fun _ => 0))), (n16, .inl (c8, 14, .inl (fun _ => 0))), (n24, .inl (c24, 14, .inl (fun _ => 0)))] := hD
  have hK : va_K (dC, dI) vcl [(c8, .byte), (c24, .byte)] s := hK
  refine W.widen (k := 3) (n := 288) (by decide) (by decide) ?_
  obtain rfl : c8 = c24 := fb_Kinj .byte (by simp) hK 0 1 rfl rfl
  have hK := hK.sub (tys' := [(c8, .byte)]) [0] rfl
  have hP : va_P (dC, dI) vcl [(h0, .inr (3, [.ref n8, .ref n16, .null, .int 0])), (n8, .inl (c8, 260, .inl (fun _ => 0))), (n16, .inl (c8, 14, .inl (fun _ => 0))), (n24, .inl (c8, 14, .inl (fun _ => 0)))] H := hP
  have hD : va_D A [(h0, .inr (3, [.ref n8, .ref n16, .null, .int 0])), (n8, .inl (c8, 260, .inl (fun _ => 0))), (n16, .inl (c8, 14, .inl (fun _ => 0))), (n24, .inl (c8, 14, .inl (fun _ => 0)))] := hD
  have hK : va_K (dC, dI) vcl [(c8, .byte)] s := hK
  refine va_putF (D := (dC, dI)) (ci := 3) (v := .ref n24) (ty := .array .byte) (C := "FileTree$Text") (T := ft_X) (N := 4) hx hb hts fi_X fy_X fo_X fn_X hown hK hP hD hS 0 rfl rfl 2 (by decide) (hts _ q_67) (fun _ h9 => h9) rfl hin rfl (by decide +kernel) rfl rfl (Nat.le_of_ble_eq_true rfl) kd_X_init_26 (fun H locs hP hD hS => ?_)
  have hP : va_P (dC, dI) vcl [(h0, .inr (3, [.ref n8, .ref n16, .ref n24, .int 0])), (n8, .inl (c8, 260, .inl (fun _ => 0))), (n16, .inl (c8, 14, .inl (fun _ => 0))), (n24, .inl (c8, 14, .inl (fun _ => 0)))] H := hP
  have hD : va_D A [(h0, .inr (3, [.ref n8, .ref n16, .ref n24, .int 0])), (n8, .inl (c8, 260, .inl (fun _ => 0))), (n16, .inl (c8, 14, .inl (fun _ => 0))), (n24, .inl (c8, 14, .inl (fun _ => 0)))] := hD
  have hK : va_K (dC, dI) vcl [(c8, .byte)] s := hK
  exact W.vret hx hb hr (fun t ht hW => ⟨⟨(n8, n16, n24, c8), rfl, trivial, by rw [ht]; exact hP, va_K.moved hW.alike hK, hD⟩, hS.F ht⟩) hS.2.2 kd_X_init_29 hlocks
abbrev pT (h0 : Nat) : va_W := [(h0, .inr (4, [.null, .null, .null, .null, .null]))]
set_option maxHeartbeats 4000000 in
set_option maxRecDepth 100000 in
theorem c_T_init (l : Launch) (dC : Nat → ClassId) (dI : Nat → Nat → Nat) (z : Nat → Nat) (h0 sz : Nat) (o : Int32 × fb_S) (hF : b_T_init_57 stT_0 = some o) : Met l ky_T_init kw_T_init rm_T_init (va_Pc [.ref h0] (fun U => cp (dC, dI) (pT h0) sz nwT U ∧ zX z (va_A (pT h0) sz) U U.heap)) (va_Qv (fun u : (Nat → ClassId) × (Nat → Nat) => u.2 0 = h0) (fun u t => va_P (dC, dI) vcl (wX u.1 u.2 o.2) t.heap ∧ va_K (dC, dI) vcl (tX u.1) t ∧ va_D (va_A (pT h0) sz) (wX u.1 u.2 o.2)) (va_A (pT h0) sz)) 10 134505 (va_A (pT h0) sz) := by
  refine Met.ofW (cc := kc_T_init) (maxL := 1) (ret := none) (by decide) rfl ?_
  intro p e s m args below meth c s₁ B hml hv
  obtain ⟨rfl, ⟨hsz, hP, hK, hD0, hn⟩, hZ⟩ := hv
  have hx := B.exec
  have hb := B.bytes
  have hr := B.returns
  have hts := fun w (h : w ∈ lw_g) => atoms_spec (ws := kw_T_init) B.pre w (List.mem_cons_of_mem _ h)
  have hown : s.vm.findClass "FileTree" = some m.cls := findClass_of_methodNamed B.named
  have hlocks := B.notSynchronized
  have hin : meth.name = "<init>" := (name_of_methodNamed B.named B.method).1
  subst hsz
  have hD := hD0.self (sz := s.heap.size)
  generalize hAe : va_A (pT h0) s.heap.size = A at hD hZ ⊢
  have hA : ∀ q : Nat, s.heap.size ≤ q → A q := fun q h => by rw [← hAe]; exact Or.inr h
  have hS : va_S A s.heap s.heap [] := va_S.rf
  have hl := lv_entry ([.ref h0]) (n := 1) (Nat.le_of_ble_eq_true rfl)
  rw [lg_entry_eq]
  generalize (lg_sl ([.ref h0]) ++ List.replicate (1 - (lg_sl ([.ref h0])).length) Slot.unset).toArray = ls at hl ⊢
  have hl : lv_has ls 1 [(0, .ref h0)] := hl
  refine lv_aload_n hx hb kd_T_init_0 rfl (lv_at hl 0 rfl) ?_
  refine W.objInit hx hb hown (hts _ q_14) (hts _ q_15) (hts _ q_16) rfl (by rw [hml]; exact hl.1) rfl kd_T_init_1 (Nat.le_of_ble_eq_true rfl) (Nat.le_of_ble_eq_true rfl) ?_
  refine W.eq (g2 := F0 m 4 ls []) rfl ?_
  refine lv_aload_n hx hb kd_T_init_4 rfl (lv_at hl 0 rfl) ?_
  refine va_new (ci := 0) (fs := [.null, .null]) (C := "FileTree$Directories") (T := ft_D) (N := 2) hx hb hts fi_D fy_D fo_D hown (hts _ q_17) (hts _ q_18) (hts _ q_2) hK hP hD hS hA rfl (fun j hj => by rcases (show j = 0 ∨ j = 1 by omega) with rfl | rfl <;> rfl) (Nat.le_of_ble_eq_true rfl) (Nat.le_of_ble_eq_true rfl) kd_T_init_5 (fun n5 H hP hD hS => ?_)
  have hP : va_P (dC, dI) vcl [(h0, .inr (4, [.null, .null, .null, .null, .null])), (n5, .inr (0, [.null, .null]))] H := hP
  have hD : va_D A [(h0, .inr (4, [.null, .null, .null, .null, .null])), (n5, .inr (0, [.null, .null]))] := hD
  have hK : va_K (dC, dI) vcl [] s := hK
  refine W.widen (k := 1) (n := 2) (by decide) (by decide) ?_
  refine lv_dup hx hb kd_T_init_8 rfl ?_
  have hPc := hP.sub (ws' := [(n5, .inr (0, [.null, .null]))]) [1] rfl
  have hDc := hD.sub (ws' := [(n5, .inr (0, [.null, .null]))]) [1] (by decide) rfl
  have hKc := hK.sub (tys' := []) [] rfl
  have hFc := va_free (wc := [(n5, .inr (0, [.null, .null]))]) hD hS hA [1] rfl
  refine va_callv (va_runIN (As := []) (rest := [.ref n5, .ref h0]) ⟨hx, hb, hml, hown, hts⟩ (c_D_init l dC dI n5 H.size) ⟨va_cnB 0 hts (gd_C q_21) rfl rfl rfl hn.1 (hts _ q_2) (by decide +kernel) ⟨Nat.le_of_ble_eq_true rfl, Nat.le_of_ble_eq_true rfl⟩, rfl, hts _ q_20⟩ ⟨cp_blind nwD_s, cp_pre nwD_s hn.2.2 hPc hKc hDc⟩ rfl rfl hl.1 rfl (lv_room (Nat.le_of_ble_eq_true rfl)) kd_T_init_9 ⟨Nat.le_of_ble_eq_true rfl, Nat.le_of_ble_eq_true rfl⟩) hS (fun q _ h => hFc q h) hFc (fun u t H1 locs ht hvm hw hB hz1 hk1 hS => ?_)
  obtain ⟨n5_9, n5_9_9, n7_9_9_9, n18_9_9, c7_9_9_9⟩ := u
  obtain ⟨hP1, hK1, hD1⟩ := hB
  rw [ht] at hP1
  have hK1 := va_K.moved hvm.symm hK1
  obtain ⟨hP, hD⟩ := va_join (wr := [(h0, .inr (4, [.null, .null, .null, .null, .null]))]) (w1 := [(n5, .inr (0, [.ref n5_9, .ref n5_9_9])), (n5_9, .inr (2, [.ref n5_9_9, .ref n18_9_9])), (n5_9_9, .inr (1, [.ref n7_9_9_9])), (n7_9_9_9, .inl (c7_9_9_9, 131072, .inl (fun _ => 0))), (n18_9_9, .inl (c7_9_9_9, 64, .inl (fun _ => 0)))]) hP hD [1] [0] rfl rfl (by decide) (by decide) hk1 hFc hP1 hD1
  have hK := hK.app hK1
  generalize H1 = H at hP hS ⊢
  have hP : va_P (dC, dI) vcl [(h0, .inr (4, [.null, .null, .null, .null, .null])), (n5, .inr (0, [.ref n5_9, .ref n5_9_9])), (n5_9, .inr (2, [.ref n5_9_9, .ref n18_9_9])), (n5_9_9, .inr (1, [.ref n7_9_9_9])), (n7_9_9_9, .inl (c7_9_9_9, 131072, .inl (fun _ => 0))), (n18_9_9, .inl (c7_9_9_9, 64, .inl (fun _ => 0)))] H := hP
  have hD : va_D A [(h0, .inr (4, [.null, .null, .null, .null, .null])), (n5, .inr (0, [.ref n5_9, .ref n5_9_9])), (n5_9, .inr (2, [.ref n5_9_9, .ref n18_9_9])), (n5_9_9, .inr (1, [.ref n7_9_9_9])), (n7_9_9_9, .inl (c7_9_9_9, 131072, .inl (fun _ => 0))), (n18_9_9, .inl (c7_9_9_9, 64, .inl (fun _ => 0)))] := hD
  have hK : va_K (dC, dI) vcl [(c7_9_9_9, .int)] s := hK
  refine W.widen (k := 5) (n := 131141) (by decide) (by decide) ?_
  refine va_putF (D := (dC, dI)) (ci := 4) (v := .ref n5) (ty := .object "FileTree$Directories") (C := "FileTree") (T := ft_T) (N := 5) hx hb hts fi_T fy_T fo_T fn_T hown hK hP hD hS 0 rfl rfl 0 (by decide) (hts _ q_207) (fun _ h9 => h9) rfl hin rfl (by decide +kernel) rfl rfl (Nat.le_of_ble_eq_true rfl) kd_T_init_12 (fun H locs hP hD hS => ?_)
  have hP : va_P (dC, dI) vcl [(h0, .inr (4, [.ref n5, .null, .null, .null, .null])), (n5, .inr (0, [.ref n5_9, .ref n5_9_9])), (n5_9, .inr (2, [.ref n5_9_9, .ref n18_9_9])), (n5_9_9, .inr (1, [.ref n7_9_9_9])), (n7_9_9_9, .inl (c7_9_9_9, 131072, .inl (fun _ => 0))), (n18_9_9, .inl (c7_9_9_9, 64, .inl (fun _ => 0)))] H := hP
  have hD : va_D A [(h0, .inr (4, [.ref n5, .null, .null, .null, .null])), (n5, .inr (0, [.ref n5_9, .ref n5_9_9])), (n5_9, .inr (2, [.ref n5_9_9, .ref n18_9_9])), (n5_9_9, .inr (1, [.ref n7_9_9_9])), (n7_9_9_9, .inl (c7_9_9_9, 131072, .inl (fun _ => 0))), (n18_9_9, .inl (c7_9_9_9, 64, .inl (fun _ => 0)))] := hD
  have hK : va_K (dC, dI) vcl [(c7_9_9_9, .int)] s := hK
  refine lv_aload_n hx hb kd_T_init_15 rfl (lv_at hl 0 rfl) ?_
  refine lv_aload_n hx hb kd_T_init_16 rfl (lv_at hl 0 rfl) ?_
  refine va_get (D := (dC, dI)) (ci := 4) (v := .ref n5) (C := "FileTree") (T := ft_T) (N := 5) hx hb hts fi_T hown hK hP 0 rfl rfl 0 (by decide) (hts _ q_207) (fun _ h9 => h9) rfl kd_T_init_17 ?_
  refine va_get (D := (dC, dI)) (ci := 0) (v := .ref n5_9) (C := "FileTree$Directories") (T := ft_D) (N := 2) hx hb hts fi_D hown hK hP 1 rfl rfl 0 (by decide) (hts _ q_51) (fun _ h9 => h9) rfl kd_T_init_20 ?_
  refine va_putF (D := (dC, dI)) (ci := 4) (v := .ref n5_9) (ty := .object "FileTree$Inodes") (C := "FileTree") (T := ft_T) (N := 5) hx hb hts fi_T fy_T fo_T fn_T hown hK hP hD hS 0 rfl rfl 1 (by decide) (hts _ q_208) (fun _ h9 => h9) rfl hin rfl (by decide +kernel) rfl rfl (Nat.le_of_ble_eq_true rfl) kd_T_init_23 (fun H locs hP hD hS => ?_)
  have hP : va_P (dC, dI) vcl [(h0, .inr (4, [.ref n5, .ref n5_9, .null, .null, .null])), (n5, .inr (0, [.ref n5_9, .ref n5_9_9])), (n5_9, .inr (2, [.ref n5_9_9, .ref n18_9_9])), (n5_9_9, .inr (1, [.ref n7_9_9_9])), (n7_9_9_9, .inl (c7_9_9_9, 131072, .inl (fun _ => 0))), (n18_9_9, .inl (c7_9_9_9, 64, .inl (fun _ => 0)))] H := hP
  have hD : va_D A [(h0, .inr (4, [.ref n5, .ref n5_9, .null, .null, .null])), (n5, .inr (0, [.ref n5_9, .ref n5_9_9])), (n5_9, .inr (2, [.ref n5_9_9, .ref n18_9_9])), (n5_9_9, .inr (1, [.ref n7_9_9_9])), (n7_9_9_9, .inl (c7_9_9_9, 131072, .inl (fun _ => 0))), (n18_9_9, .inl (c7_9_9_9, 64, .inl (fun _ => 0)))] := hD
  have hK : va_K (dC, dI) vcl [(c7_9_9_9, .int)] s := hK
  refine lv_aload_n hx hb kd_T_init_26 rfl (lv_at hl 0 rfl) ?_
  refine lv_aload_n hx hb kd_T_init_27 rfl (lv_at hl 0 rfl) ?_
  refine va_get (D := (dC, dI)) (ci := 4) (v := .ref n5_9) (C := "FileTree") (T := ft_T) (N := 5) hx hb hts fi_T hown hK hP 0 rfl rfl 1 (by decide) (hts _ q_208) (fun _ h9 => h9) rfl kd_T_init_28 ?_
  refine va_get (D := (dC, dI)) (ci := 2) (v := .ref n5_9_9) (C := "FileTree$Inodes") (T := ft_I) (N := 2) hx hb hts fi_I hown hK hP 2 rfl rfl 0 (by decide) (hts _ q_43) (fun _ h9 => h9) rfl kd_T_init_31 ?_
  refine va_putF (D := (dC, dI)) (ci := 4) (v := .ref n5_9_9) (ty := .object "FileTree$Disk") (C := "FileTree") (T := ft_T) (N := 5) hx hb hts fi_T fy_T fo_T fn_T hown hK hP hD hS 0 rfl rfl 2 (by decide) (hts _ q_209) (fun _ h9 => h9) rfl hin rfl (by decide +kernel) rfl rfl (Nat.le_of_ble_eq_true rfl) kd_T_init_34 (fun H locs hP hD hS => ?_)
  have hP : va_P (dC, dI) vcl [(h0, .inr (4, [.ref n5, .ref n5_9, .ref n5_9_9, .null, .null])), (n5, .inr (0, [.ref n5_9, .ref n5_9_9])), (n5_9, .inr (2, [.ref n5_9_9, .ref n18_9_9])), (n5_9_9, .inr (1, [.ref n7_9_9_9])), (n7_9_9_9, .inl (c7_9_9_9, 131072, .inl (fun _ => 0))), (n18_9_9, .inl (c7_9_9_9, 64, .inl (fun _ => 0)))] H := hP
  have hD : va_D A [(h0, .inr (4, [.ref n5, .ref n5_9, .ref n5_9_9, .null, .null])), (n5, .inr (0, [.ref n5_9, .ref n5_9_9])), (n5_9, .inr (2, [.ref n5_9_9, .ref n18_9_9])), (n5_9_9, .inr (1, [.ref n7_9_9_9])), (n7_9_9_9, .inl (c7_9_9_9, 131072, .inl (fun _ => 0))), (n18_9_9, .inl (c7_9_9_9, 64, .inl (fun _ => 0)))] := hD
  have hK : va_K (dC, dI) vcl [(c7_9_9_9, .int)] s := hK
  refine lv_aload_n hx hb kd_T_init_37 rfl (lv_at hl 0 rfl) ?_
  refine va_new (ci := 3) (fs := [.null, .null, .null, .int 0]) (C := "FileTree$Text") (T := ft_X) (N := 4) hx hb hts fi_X fy_X fo_X hown (hts _ q_58) (hts _ q_59) (hts _ q_5) hK hP hD hS hA rfl (fun j hj => by rcases (show j = 0 ∨ j = 1 ∨ j = 2 ∨ j = 3 by omega) with rfl | rfl | rfl | rfl <;> rfl) (Nat.le_of_ble_eq_true rfl) (Nat.le_of_ble_eq_true rfl) kd_T_init_38 (fun n38 H hP hD hS => ?_)
  have hP : va_P (dC, dI) vcl [(h0, .inr (4, [.ref n5, .ref n5_9, .ref n5_9_9, .null, .null])), (n5, .inr (0, [.ref n5_9, .ref n5_9_9])), (n5_9, .inr (2, [.ref n5_9_9, .ref n18_9_9])), (n5_9_9, .inr (1, [.ref n7_9_9_9])), (n7_9_9_9, .inl (c7_9_9_9, 131072, .inl (fun _ => 0))), (n18_9_9, .inl (c7_9_9_9, 64, .inl (fun _ => 0))), (n38, .inr (3, [.null, .null, .null, .int 0]))] H := hP
  have hD : va_D A [(h0, .inr (4, [.ref n5, .ref n5_9, .ref n5_9_9, .null, .null])), (n5, .inr (0, [.ref n5_9, .ref n5_9_9])), (n5_9, .inr (2, [.ref n5_9_9, .ref n18_9_9])), (n5_9_9, .inr (1, [.ref n7_9_9_9])), (n7_9_9_9, .inl (c7_9_9_9, 131072, .inl (fun _ => 0))), (n18_9_9, .inl (c7_9_9_9, 64, .inl (fun _ => 0))), (n38, .inr (3, [.null, .null, .null, .int 0]))] := hD
  have hK : va_K (dC, dI) vcl [(c7_9_9_9, .int)] s := hK
  refine W.widen (k := 6) (n := 131145) (by decide) (by decide) ?_
  refine lv_dup hx hb kd_T_init_41 rfl ?_
  have hPc := hP.sub (ws' := [(n38, .inr (3, [.null, .null, .null, .int 0]))]) [6] rfl
  have hDc := hD.sub (ws' := [(n38, .inr (3, [.null, .null, .null, .int 0]))]) [6] (by decide) rfl
  have hKc := hK.sub (tys' := []) [] rfl
  have hFc := va_free (wc := [(n38, .inr (3, [.null, .null, .null, .int 0]))]) hD hS hA [6] rfl
  refine va_callv (va_runIN (As := []) (rest := [.ref n38, .ref h0]) ⟨hx, hb, hml, hown, hts⟩ (c_X_init l dC dI n38 H.size) ⟨va_cnB 0 hts (gd_C q_62) rfl rfl rfl hn.2.1 (hts _ q_5) (by decide +kernel) ⟨Nat.le_of_ble_eq_true rfl, Nat.le_of_ble_eq_true rfl⟩, rfl, hts _ q_61⟩ ⟨cp_blind nw0_s, cp_pre nw0_s trivial hPc hKc hDc⟩ rfl rfl hl.1 rfl (lv_room (Nat.le_of_ble_eq_true rfl)) kd_T_init_42 ⟨Nat.le_of_ble_eq_true rfl, Nat.le_of_ble_eq_true rfl⟩) hS (fun q _ h => hFc q h) hFc (fun u t H1 locs ht hvm hw hB hz1 hk1 hS => ?_)
  obtain ⟨n8_42, n16_42, n24_42, c8_42⟩ := u
  obtain ⟨hP1, hK1, hD1⟩ := hB
  rw [ht] at hP1
  have hK1 := va_K.moved hvm.symm hK1
  obtain ⟨hP, hD⟩ := va_join (wr := [(h0, .inr (4, [.ref n5, .ref n5_9, .ref n5_9_9, .null, .null])), (n5, .inr (0, [.ref n5_9, .ref n5_9_9])), (n5_9, .inr (2, [.ref n5_9_9, .ref n18_9_9])), (n5_9_9, .inr (1, [.ref n7_9_9_9])), (n7_9_9_9, .inl (c7_9_9_9, 131072, .inl (fun _ => 0))), (n18_9_9, .inl (c7_9_9_9, 64, .inl (fun _ => 0)))]) (w1 := [(n38, .inr (3, [.ref n8_42, .ref n16_42, .ref n24_42, .int 0])), (n8_42, .inl (c8_42, 260, .inl (fun _ => 0))), (n16_42, .inl (c8_42, 14, .inl (fun _ => 0))), (n24_42, .inl (c8_42, 14, .inl (fun _ => 0)))]) hP hD [6] [0, 1, 2, 3, 4, 5] rfl rfl (by decide) (by decide) hk1 hFc hP1 hD1
  have hK := hK.app hK1
  generalize H1 = H at hP hS ⊢
  have hP : va_P (dC, dI) vcl [(h0, .inr (4, [.ref n5, .ref n5_9, .ref n5_9_9, .null, .null])), (n5, .inr (0, [.ref n5_9, .ref n5_9_9])), (n5_9, .inr (2, [.ref n5_9_9, .ref n18_9_9])), (n5_9_9, .inr (1, [.ref n7_9_9_9])), (n7_9_9_9, .inl (c7_9_9_9, 131072, .inl (fun _ => 0))), (n18_9_9, .inl (c7_9_9_9, 64, .inl (fun _ => 0))), (n38, .inr (3, [.ref n8_42, .ref n16_42, .ref n24_42, .int 0])), (n8_42, .inl (c8_42, 260, .inl (fun _ => 0))), (n16_42, .inl (c8_42, 14, .inl (fun _ => 0))), (n24_42, .inl (c8_42, 14, .inl (fun _ => 0)))] H := hP
  have hD : va_D A [(h0, .inr (4, [.ref n5, .ref n5_9, .ref n5_9_9, .null, .null])), (n5, .inr (0, [.ref n5_9, .ref n5_9_9])), (n5_9, .inr (2, [.ref n5_9_9, .ref n18_9_9])), (n5_9_9, .inr (1, [.ref n7_9_9_9])), (n7_9_9_9, .inl (c7_9_9_9, 131072, .inl (fun _ => 0))), (n18_9_9, .inl (c7_9_9_9, 64, .inl (fun _ => 0))), (n38, .inr (3, [.ref n8_42, .ref n16_42, .ref n24_42, .int 0])), (n8_42, .inl (c8_42, 260, .inl (fun _ => 0))), (n16_42, .inl (c8_42, 14, .inl (fun _ => 0))), (n24_42, .inl (c8_42, 14, .inl (fun _ => 0)))] := hD
  have hK : va_K (dC, dI) vcl [(c7_9_9_9, .int), (c8_42, .byte)] s := hK
  refine W.widen (k := 9) (n := 131433) (by decide) (by decide) ?_
  refine va_putF (D := (dC, dI)) (ci := 4) (v := .ref n38) (ty := .object "FileTree$Text") (C := "FileTree") (T := ft_T) (N := 5) hx hb hts fi_T fy_T fo_T fn_T hown hK hP hD hS 0 rfl rfl 3 (by decide) (hts _ q_210) (fun _ h9 => h9) rfl hin rfl (by decide +kernel) rfl rfl (Nat.le_of_ble_eq_true rfl) kd_T_init_45 (fun H locs hP hD hS => ?_)
  have hP : va_P (dC, dI) vcl [(h0, .inr (4, [.ref n5, .ref n5_9, .ref n5_9_9, .ref n38, .null])), (n5, .inr (0, [.ref n5_9, .ref n5_9_9])), (n5_9, .inr (2, [.ref n5_9_9, .ref n18_9_9])), (n5_9_9, .inr (1, [.ref n7_9_9_9])), (n7_9_9_9, .inl (c7_9_9_9, 131072, .inl (fun _ => 0))), (n18_9_9, .inl (c7_9_9_9, 64, .inl (fun _ => 0))), (n38, .inr (3, [.ref n8_42, .ref n16_42, .ref n24_42, .int 0])), (n8_42, .inl (c8_42, 260, .inl (fun _ => 0))), (n16_42, .inl (c8_42, 14, .inl (fun _ => 0))), (n24_42, .inl (c8_42, 14, .inl (fun _ => 0)))] H := hP
  have hD : va_D A [(h0, .inr (4, [.ref n5, .ref n5_9, .ref n5_9_9, .ref n38, .null])), (n5, .inr (0, [.ref n5_9, .ref n5_9_9])), (n5_9, .inr (2, [.ref n5_9_9, .ref n18_9_9])), (n5_9_9, .inr (1, [.ref n7_9_9_9])), (n7_9_9_9, .inl (c7_9_9_9, 131072, .inl (fun _ => 0))), (n18_9_9, .inl (c7_9_9_9, 64, .inl (fun _ => 0))), (n38, .inr (3, [.ref n8_42, .ref n16_42, .ref n24_42, .int 0])), (n8_42, .inl (c8_42, 260, .inl (fun _ => 0))), (n16_42, .inl (c8_42, 14, .inl (fun _ => 0))), (n24_42, .inl (c8_42, 14, .inl (fun _ => 0)))] := hD
  have hK : va_K (dC, dI) vcl [(c7_9_9_9, .int), (c8_42, .byte)] s := hK
  refine lv_aload_n hx hb kd_T_init_48 rfl (lv_at hl 0 rfl) ?_
  refine lv_sipush (v := 3072) hx hb kd_T_init_49 (by decide) ?_
  refine va_newa (atype := .byte) (ty := .byte) (N' := 3072) (a0 := (3072, .inl (fun _ => 0))) hx hb (hts _ q_80) rfl hK hP hD hS hA (fun _ => rfl) (by decide) (by decide) (by decide) (Nat.le_of_ble_eq_true rfl) (Nat.le_of_ble_eq_true rfl) kd_T_init_52 (fun n52 c52 H hK hP hD hS => ?_)
  have hP : va_P (dC, dI) vcl [(h0, .inr (4, [.ref n5, .ref n5_9, .ref n5_9_9, .ref n38, .null])), (n5, .inr (0, [.ref n5_9, .ref n5_9_9])), (n5_9, .inr (2, [.ref n5_9_9, .ref n18_9_9])), (n5_9_9, .inr (1, [.ref n7_9_9_9])), (n7_9_9_9, .inl (c7_9_9_9, 131072, .inl (fun _ => 0))), (n18_9_9, .inl (c7_9_9_9, 64, .inl (fun _ => 0))), (n38, .inr (3, [.ref n8_42, .ref n16_42, .ref n24_42, .int 0])), (n8_42, .inl (c8_42, 260, .inl (fun _ => 0))), (n16_42, .inl (c8_42, 14, .inl (fun _ => 0))), (n24_42, .inl (c8_42, 14, .inl (fun _ => 0))), (n52, .inl (c52, 3072, .inl (fun _ => 0)))] H := hP
  have hD : va_D A [(h0, .inr (4, [.ref n5, .ref n5_9, .ref n5_9_9, .ref n38, .null])), (n5, .inr (0, [.ref n5_9, .ref n5_9_9])), (n5_9, .inr (2, [.ref n5_9_9, .ref n18_9_9])), (n5_9_9, .inr (1, [.ref n7_9_9_9])), (n7_9_9_9, .inl (c7_9_9_9, 131072, .inl (fun _ => 0))), (n18_9_9, .inl (c7_9_9_9, 64, .inl (fun _ => 0))), (n38, .inr (3, [.ref n8_42, .ref n16_42, .ref n24_42, .int 0])), (n8_42, .inl (c8_42, 260, .inl (fun _ => 0))), (n16_42, .inl (c8_42, 14, .inl (fun _ => 0))), (n24_42, .inl (c8_42, 14, .inl (fun _ => 0))), (n52, .inl (c52, 3072, .inl (fun _ => 0)))] := hD
  have hK : va_K (dC, dI) vcl [(c7_9_9_9, .int), (c8_42, .byte), (c52, .byte)] s := hK
  refine W.widen (k := 10) (n := 134505) (by decide) (by decide) ?_
  obtain rfl : c8_42 = c52 := fb_Kinj .byte (by simp) hK 1 2 rfl rfl
  have hK := hK.sub (tys' := [(c7_9_9_9, .int), (c8_42, .byte)]) [0, 1] rfl
  have hP : va_P (dC, dI) vcl [(h0, .inr (4, [.ref n5, .ref n5_9, .ref n5_9_9, .ref n38, .null])), (n5, .inr (0, [.ref n5_9, .ref n5_9_9])), (n5_9, .inr (2, [.ref n5_9_9, .ref n18_9_9])), (n5_9_9, .inr (1, [.ref n7_9_9_9])), (n7_9_9_9, .inl (c7_9_9_9, 131072, .inl (fun _ => 0))), (n18_9_9, .inl (c7_9_9_9, 64, .inl (fun _ => 0))), (n38, .inr (3, [.ref n8_42, .ref n16_42, .ref n24_42, .int 0])), (n8_42, .inl (c8_42, 260, .inl (fun _ => 0))), (n16_42, .inl (c8_42, 14, .inl (fun _ => 0))), (n24_42, .inl (c8_42, 14, .inl (fun _ => 0))), (n52, .inl (c8_42, 3072, .inl (fun _ => 0)))] H := hP
  have hD : va_D A [(h0, .inr (4, [.ref n5, .ref n5_9, .ref n5_9_9, .ref n38, .null])), (n5, .inr (0, [.ref n5_9, .ref n5_9_9])), (n5_9, .inr (2, [.ref n5_9_9, .ref n18_9_9])), (n5_9_9, .inr (1, [.ref n7_9_9_9])), (n7_9_9_9, .inl (c7_9_9_9, 131072, .inl (fun _ => 0))), (n18_9_9, .inl (c7_9_9_9, 64, .inl (fun _ => 0))), (n38, .inr (3, [.ref n8_42, .ref n16_42, .ref n24_42, .int 0])), (n8_42, .inl (c8_42, 260, .inl (fun _ => 0))), (n16_42, .inl (c8_42, 14, .inl (fun _ => 0))), (n24_42, .inl (c8_42, 14, .inl (fun _ => 0))), (n52, .inl (c8_42, 3072, .inl (fun _ => 0)))] := hD
  have hK : va_K (dC, dI) vcl [(c7_9_9_9, .int), (c8_42, .byte)] s := hK
  refine va_putF (D := (dC, dI)) (ci := 4) (v := .ref n52) (ty := .array .byte) (C := "FileTree") (T := ft_T) (N := 5) hx hb hts fi_T fy_T fo_T fn_T hown hK hP hD hS 0 rfl rfl 4 (by decide) (hts _ q_211) (fun _ h9 => h9) rfl hin rfl (by decide +kernel) rfl rfl (Nat.le_of_ble_eq_true rfl) kd_T_init_54 (fun H locs hP hD hS => ?_)
  have hP : va_P (dC, dI) vcl [(h0, .inr (4, [.ref n5, .ref n5_9, .ref n5_9_9, .ref n38, .ref n52])), (n5, .inr (0, [.ref n5_9, .ref n5_9_9])), (n5_9, .inr (2, [.ref n5_9_9, .ref n18_9_9])), (n5_9_9, .inr (1, [.ref n7_9_9_9])), (n7_9_9_9, .inl (c7_9_9_9, 131072, .inl (fun _ => 0))), (n18_9_9, .inl (c7_9_9_9, 64, .inl (fun _ => 0))), (n38, .inr (3, [.ref n8_42, .ref n16_42, .ref n24_42, .int 0])), (n8_42, .inl (c8_42, 260, .inl (fun _ => 0))), (n16_42, .inl (c8_42, 14, .inl (fun _ => 0))), (n24_42, .inl (c8_42, 14, .inl (fun _ => 0))), (n52, .inl (c8_42, 3072, .inl (fun _ => 0)))] H := hP
  have hD : va_D A [(h0, .inr (4, [.ref n5, .ref n5_9, .ref n5_9_9, .ref n38, .ref n52])), (n5, .inr (0, [.ref n5_9, .ref n5_9_9])), (n5_9, .inr (2, [.ref n5_9_9, .ref n18_9_9])), (n5_9_9, .inr (1, [.ref n7_9_9_9])), (n7_9_9_9, .inl (c7_9_9_9, 131072, .inl (fun _ => 0))), (n18_9_9, .inl (c7_9_9_9, 64, .inl (fun _ => 0))), (n38, .inr (3, [.ref n8_42, .ref n16_42, .ref n24_42, .int 0])), (n8_42, .inl (c8_42, 260, .inl (fun _ => 0))), (n16_42, .inl (c8_42, 14, .inl (fun _ => 0))), (n24_42, .inl (c8_42, 14, .inl (fun _ => 0))), (n52, .inl (c8_42, 3072, .inl (fun _ => 0)))] := hD
  have hK : va_K (dC, dI) vcl [(c7_9_9_9, .int), (c8_42, .byte)] s := hK
  obtain ⟨a, ea⟩ : ∃ a : Nat → Nat, a = fun k => [h0, n5, n5_9, n5_9_9, n38, n7_9_9_9, n18_9_9, n8_42, n16_42, n24_42, n52].getD k 0 := ⟨_, rfl⟩
  obtain ⟨dA, edA⟩ : ∃ d : Nat → ClassId, d = fun k => [c7_9_9_9, c8_42].getD k 0 := ⟨_, rfl⟩
  have ha0 : a 0 = h0 := by rw [ea]; rfl
  have hP : va_P (dC, dI) vcl (wX dA a stT_0) H := by rw [ea, edA]; exact hP.sub [0, 1, 2, 3, 6, 4, 5, 7, 8, 9, 10] rfl
  have hD : va_D A (wX dA a stT_0) := by rw [ea, edA]; exact hD.sub [0, 1, 2, 3, 6, 4, 5, 7, 8, 9, 10] (by decide) rfl
  have hK : va_K (dC, dI) vcl (tX dA) s := by rw [edA]; exact hK.sub [0, 1] rfl
  have hl : lv_has ls 1 [(0, .ref (a 0))] := by rw [ha0]; exact hl
  have key := w_T_init_57 (l := l) (e := e) (below := below) (dA := dA) (a := a) (dC := dC) (dI := dI) (A := A) (z := z) ⟨hx, hb, hr, hml, hown, hts, hK, hA, hlocks, hZ⟩ o stT_0 hF H _ hP hD hS ls hl
  refine W.post (fun t h => ?_) key
  obtain ⟨oc, g1, g2, ⟨⟨g3, g4, g5, g6⟩, g7⟩, g8⟩ := h
  exact ⟨oc, g1, g2, ⟨⟨(dA, a), g3, ha0, g4, g5, g6⟩, g7⟩, g8⟩
abbrev pM (h0 : Nat) : va_W := [(h0, .inr (5, [.int 0, .int 0, .null, .null, .null, .null, .null, .null, .null, .null, .null, .null, .null, .null, .null, .int 0, .int 0, .null]))]
set_option maxHeartbeats 4000000 in
set_option maxRecDepth 100000 in
theorem c_M_init (l : Launch) (dC : Nat → ClassId) (dI : Nat → Nat → Nat) (h0 sz : Nat) (o : Int32 × fb_S) (hF : b_M_init_163 stM_0 = some o) : Met l ky_M_init kw_M_init rm_M_init (va_Pc [.ref h0] (cp (dC, dI) (pM h0) sz nw0)) (va_Qv (fun u : (Nat → ClassId) × (Nat → Nat) => u.2 0 = h0) (fun u t => va_P (dC, dI) vcl (wM u.1 u.2 o.2) t.heap ∧ va_K (dC, dI) vcl (tM u.1) t ∧ va_D (va_A (pM h0) sz) (wM u.1 u.2 o.2)) (va_A (pM h0) sz)) 14 545818 (va_A (pM h0) sz) := by
  refine Met.ofW (cc := kc_M_init) (maxL := 2) (ret := none) (by decide) rfl ?_
  intro p e s m args below meth c s₁ B hml hv
  obtain ⟨rfl, hsz, hP, hK, hD0, hn⟩ := hv
  have hx := B.exec
  have hb := B.bytes
  have hr := B.returns
  have hts := fun w (h : w ∈ lw_g) => atoms_spec (ws := kw_M_init) B.pre w (List.mem_cons_of_mem _ h)
  have hown : s.vm.findClass "FileTreeModel" = some m.cls := findClass_of_methodNamed B.named
  have hlocks := B.notSynchronized
  have hin : meth.name = "<init>" := (name_of_methodNamed B.named B.method).1
  subst hsz
  have hD := hD0.self (sz := s.heap.size)
  generalize hAe : va_A (pM h0) s.heap.size = A at hD ⊢
  have hA : ∀ q : Nat, s.heap.size ≤ q → A q := fun q h => by rw [← hAe]; exact Or.inr h
  have hS : va_S A s.heap s.heap [] := va_S.rf
  have hl := lv_entry ([.ref h0]) (n := 2) (Nat.le_of_ble_eq_true rfl)
  rw [lg_entry_eq]
  generalize (lg_sl ([.ref h0]) ++ List.replicate (2 - (lg_sl ([.ref h0])).length) Slot.unset).toArray = ls at hl ⊢
  have hl : lv_has ls 2 [(0, .ref h0)] := hl
  refine lv_aload_n hx hb kd_M_init_0 rfl (lv_at hl 0 rfl) ?_
  refine W.objInit hx hb hown (hts _ q_438) (hts _ q_15) (hts _ q_16) rfl (by rw [hml]; exact hl.1) rfl kd_M_init_1 (Nat.le_of_ble_eq_true rfl) (Nat.le_of_ble_eq_true rfl) ?_
  refine W.eq (g2 := F0 m 4 ls []) rfl ?_
  refine lv_aload_n hx hb kd_M_init_4 rfl (lv_at hl 0 rfl) ?_
  refine lv_sipush (v := 260) hx hb kd_M_init_5 (by decide) ?_
  refine va_newa (atype := .byte) (ty := .byte) (N' := 260) (a0 := (260, .inl (fun _ => 0))) hx hb (hts _ q_80) rfl hK hP hD hS hA (fun _ => rfl) (by decide) (by decide) (by decide) (Nat.le_of_ble_eq_true rfl) (Nat.le_of_ble_eq_true rfl) kd_M_init_8 (fun n8 c8 H hK hP hD hS => ?_)
  have hP : va_P (dC, dI) vcl [(h0, .inr (5, [.int 0, .int 0, .null, .null, .null, .null, .null, .null, .null, .null, .null, .null, .null, .null, .null, .int 0, .int 0, .null])), (n8, .inl (c8, 260, .inl (fun _ => 0)))] H := hP
  have hD : va_D A [(h0, .inr (5, [.int 0, .int 0, .null, .null, .null, .null, .null, .null, .null, .null, .null, .null, .null, .null, .null, .int 0, .int 0, .null])), (n8, .inl (c8, 260, .inl (fun _ => 0)))] := hD
  have hK : va_K (dC, dI) vcl [(c8, .byte)] s := hK
  refine W.widen (k := 1) (n := 260) (by decide) (by decide) ?_
  refine va_putF (D := (dC, dI)) (ci := 5) (v := .ref n8) (ty := .array .byte) (C := "FileTreeModel") (T := ft_M) (N := 18) hx hb hts fi_M fy_M fo_M fn_M hown hK hP hD hS 0 rfl rfl 2 (by decide) (hts _ q_471) (fun _ h9 => h9) rfl hin rfl (by decide +kernel) rfl rfl (Nat.le_of_ble_eq_true rfl) kd_M_init_10 (fun H locs hP hD hS => ?_)
  have hP : va_P (dC, dI) vcl [(h0, .inr (5, [.int 0, .int 0, .ref n8, .null, .null, .null, .null, .null, .null, .null, .null, .null, .null, .null, .null, .int 0, .int 0, .null])), (n8, .inl (c8, 260, .inl (fun _ => 0)))] H := hP
  have hD : va_D A [(h0, .inr (5, [.int 0, .int 0, .ref n8, .null, .null, .null, .null, .null, .null, .null, .null, .null, .null, .null, .null, .int 0, .int 0, .null])), (n8, .inl (c8, 260, .inl (fun _ => 0)))] := hD
  have hK : va_K (dC, dI) vcl [(c8, .byte)] s := hK
  refine lv_aload_n hx hb kd_M_init_13 rfl (lv_at hl 0 rfl) ?_
  refine lv_sipush (v := 3072) hx hb kd_M_init_14 (by decide) ?_
  refine va_newa (atype := .byte) (ty := .byte) (N' := 3072) (a0 := (3072, .inl (fun _ => 0))) hx hb (hts _ q_80) rfl hK hP hD hS hA (fun _ => rfl) (by decide) (by decide) (by decide) (Nat.le_of_ble_eq_true rfl) (Nat.le_of_ble_eq_true rfl) kd_M_init_17 (fun n17 c17 H hK hP hD hS => ?_)
  have hP : va_P (dC, dI) vcl [(h0, .inr (5, [.int 0, .int 0, .ref n8, .null, .null, .null, .null, .null, .null, .null, .null, .null, .null, .null, .null, .int 0, .int 0, .null])), (n8, .inl (c8, 260, .inl (fun _ => 0))), (n17, .inl (c17, 3072, .inl (fun _ => 0)))] H := hP
  have hD : va_D A [(h0, .inr (5, [.int 0, .int 0, .ref n8, .null, .null, .null, .null, .null, .null, .null, .null, .null, .null, .null, .null, .int 0, .int 0, .null])), (n8, .inl (c8, 260, .inl (fun _ => 0))), (n17, .inl (c17, 3072, .inl (fun _ => 0)))] := hD
  have hK : va_K (dC, dI) vcl [(c8, .byte), (c17, .byte)] s := hK
  refine W.widen (k := 2) (n := 3332) (by decide) (by decide) ?_
  obtain rfl : c8 = c17 := fb_Kinj .byte (by simp) hK 0 1 rfl rfl
  have hK := hK.sub (tys' := [(c8, .byte)]) [0] rfl
  have hP : va_P (dC, dI) vcl [(h0, .inr (5, [.int 0, .int 0, .ref n8, .null, .null, .null, .null, .null, .null, .null, .null, .null, .null, .null, .null, .int 0, .int 0, .null])), (n8, .inl (c8, 260, .inl (fun _ => 0))), (n17, .inl (c8, 3072, .inl (fun _ => 0)))] H := hP
  have hD : va_D A [(h0, .inr (5, [.int 0, .int 0, .ref n8, .null, .null, .null, .null, .null, .null, .null, .null, .null, .null, .null, .null, .int 0, .int 0, .null])), (n8, .inl (c8, 260, .inl (fun _ => 0))), (n17, .inl (c8, 3072, .inl (fun _ => 0)))] := hD
  have hK : va_K (dC, dI) vcl [(c8, .byte)] s := hK
  refine va_putF (D := (dC, dI)) (ci := 5) (v := .ref n17) (ty := .array .byte) (C := "FileTreeModel") (T := ft_M) (N := 18) hx hb hts fi_M fy_M fo_M fn_M hown hK hP hD hS 0 rfl rfl 3 (by decide) (hts _ q_472) (fun _ h9 => h9) rfl hin rfl (by decide +kernel) rfl rfl (Nat.le_of_ble_eq_true rfl) kd_M_init_19 (fun H locs hP hD hS => ?_)
  have hP : va_P (dC, dI) vcl [(h0, .inr (5, [.int 0, .int 0, .ref n8, .ref n17, .null, .null, .null, .null, .null, .null, .null, .null, .null, .null, .null, .int 0, .int 0, .null])), (n8, .inl (c8, 260, .inl (fun _ => 0))), (n17, .inl (c8, 3072, .inl (fun _ => 0)))] H := hP
  have hD : va_D A [(h0, .inr (5, [.int 0, .int 0, .ref n8, .ref n17, .null, .null, .null, .null, .null, .null, .null, .null, .null, .null, .null, .int 0, .int 0, .null])), (n8, .inl (c8, 260, .inl (fun _ => 0))), (n17, .inl (c8, 3072, .inl (fun _ => 0)))] := hD
  have hK : va_K (dC, dI) vcl [(c8, .byte)] s := hK
  refine lv_aload_n hx hb kd_M_init_22 rfl (lv_at hl 0 rfl) ?_
  refine lv_ldc (v := 524288) hx hb hown (hts _ q_439) kd_M_init_23 ?_
  refine va_newa (atype := .byte) (ty := .byte) (N' := 524288) (a0 := (524288, .inl (fun _ => 0))) hx hb (hts _ q_80) rfl hK hP hD hS hA (fun _ => rfl) (by decide) (by decide) (by decide) (Nat.le_of_ble_eq_true rfl) (Nat.le_of_ble_eq_true rfl) kd_M_init_25 (fun n25 c25 H hK hP hD hS => ?_)
  have hP : va_P (dC, dI) vcl [(h0, .inr (5, [.int 0, .int 0, .ref n8, .ref n17, .null, .null, .null, .null, .null, .null, .null, .null, .null, .null, .null, .int 0, .int 0, .null])), (n8, .inl (c8, 260, .inl (fun _ => 0))), (n17, .inl (c8, 3072, .inl (fun _ => 0))), (n25, .inl (c25, 524288, .inl (fun _ => 0)))] H := hP
  have hD : va_D A [(h0, .inr (5, [.int 0, .int 0, .ref n8, .ref n17, .null, .null, .null, .null, .null, .null, .null, .null, .null, .null, .null, .int 0, .int 0, .null])), (n8, .inl (c8, 260, .inl (fun _ => 0))), (n17, .inl (c8, 3072, .inl (fun _ => 0))), (n25, .inl (c25, 524288, .inl (fun _ => 0)))] := hD
  have hK : va_K (dC, dI) vcl [(c8, .byte), (c25, .byte)] s := hK
  refine W.widen (k := 3) (n := 527620) (by decide) (by decide) ?_
  obtain rfl : c8 = c25 := fb_Kinj .byte (by simp) hK 0 1 rfl rfl
  have hK := hK.sub (tys' := [(c8, .byte)]) [0] rfl
  have hP : va_P (dC, dI) vcl [(h0, .inr (5, [.int 0, .int 0, .ref n8, .ref n17, .null, .null, .null, .null, .null, .null, .null, .null, .null, .null, .null, .int 0, .int 0, .null])), (n8, .inl (c8, 260, .inl (fun _ => 0))), (n17, .inl (c8, 3072, .inl (fun _ => 0))), (n25, .inl (c8, 524288, .inl (fun _ => 0)))] H := hP
  have hD : va_D A [(h0, .inr (5, [.int 0, .int 0, .ref n8, .ref n17, .null, .null, .null, .null, .null, .null, .null, .null, .null, .null, .null, .int 0, .int 0, .null])), (n8, .inl (c8, 260, .inl (fun _ => 0))), (n17, .inl (c8, 3072, .inl (fun _ => 0))), (n25, .inl (c8, 524288, .inl (fun _ => 0)))] := hD
  have hK : va_K (dC, dI) vcl [(c8, .byte)] s := hK
  refine va_putF (D := (dC, dI)) (ci := 5) (v := .ref n25) (ty := .array .byte) (C := "FileTreeModel") (T := ft_M) (N := 18) hx hb hts fi_M fy_M fo_M fn_M hown hK hP hD hS 0 rfl rfl 4 (by decide) (hts _ q_473) (fun _ h9 => h9) rfl hin rfl (by decide +kernel) rfl rfl (Nat.le_of_ble_eq_true rfl) kd_M_init_27 (fun H locs hP hD hS => ?_)
  have hP : va_P (dC, dI) vcl [(h0, .inr (5, [.int 0, .int 0, .ref n8, .ref n17, .ref n25, .null, .null, .null, .null, .null, .null, .null, .null, .null, .null, .int 0, .int 0, .null])), (n8, .inl (c8, 260, .inl (fun _ => 0))), (n17, .inl (c8, 3072, .inl (fun _ => 0))), (n25, .inl (c8, 524288, .inl (fun _ => 0)))] H := hP
  have hD : va_D A [(h0, .inr (5, [.int 0, .int 0, .ref n8, .ref n17, .ref n25, .null, .null, .null, .null, .null, .null, .null, .null, .null, .null, .int 0, .int 0, .null])), (n8, .inl (c8, 260, .inl (fun _ => 0))), (n17, .inl (c8, 3072, .inl (fun _ => 0))), (n25, .inl (c8, 524288, .inl (fun _ => 0)))] := hD
  have hK : va_K (dC, dI) vcl [(c8, .byte)] s := hK
  refine lv_aload_n hx hb kd_M_init_30 rfl (lv_at hl 0 rfl) ?_
  refine lv_sipush (v := 512) hx hb kd_M_init_31 (by decide) ?_
  refine va_newa (atype := .boolean) (ty := .boolean) (N' := 512) (a0 := (512, .inl (fun _ => 0))) hx hb (hts _ q_524) rfl hK hP hD hS hA (fun _ => rfl) (by decide) (by decide) (by decide) (Nat.le_of_ble_eq_true rfl) (Nat.le_of_ble_eq_true rfl) kd_M_init_34 (fun n34 c34 H hK hP hD hS => ?_)
  have hP : va_P (dC, dI) vcl [(h0, .inr (5, [.int 0, .int 0, .ref n8, .ref n17, .ref n25, .null, .null, .null, .null, .null, .null, .null, .null, .null, .null, .int 0, .int 0, .null])), (n8, .inl (c8, 260, .inl (fun _ => 0))), (n17, .inl (c8, 3072, .inl (fun _ => 0))), (n25, .inl (c8, 524288, .inl (fun _ => 0))), (n34, .inl (c34, 512, .inl (fun _ => 0)))] H := hP
  have hD : va_D A [(h0, .inr (5, [.int 0, .int 0, .ref n8, .ref n17, .ref n25, .null, .null, .null, .null, .null, .null, .null, .null, .null, .null, .int 0, .int 0, .null])), (n8, .inl (c8, 260, .inl (fun _ => 0))), (n17, .inl (c8, 3072, .inl (fun _ => 0))), (n25, .inl (c8, 524288, .inl (fun _ => 0))), (n34, .inl (c34, 512, .inl (fun _ => 0)))] := hD
  have hK : va_K (dC, dI) vcl [(c8, .byte), (c34, .boolean)] s := hK
  refine W.widen (k := 4) (n := 528132) (by decide) (by decide) ?_
  refine va_putF (D := (dC, dI)) (ci := 5) (v := .ref n34) (ty := .array .boolean) (C := "FileTreeModel") (T := ft_M) (N := 18) hx hb hts fi_M fy_M fo_M fn_M hown hK hP hD hS 0 rfl rfl 5 (by decide) (hts _ q_474) (fun _ h9 => h9) rfl hin rfl (by decide +kernel) rfl rfl (Nat.le_of_ble_eq_true rfl) kd_M_init_36 (fun H locs hP hD hS => ?_)
  have hP : va_P (dC, dI) vcl [(h0, .inr (5, [.int 0, .int 0, .ref n8, .ref n17, .ref n25, .ref n34, .null, .null, .null, .null, .null, .null, .null, .null, .null, .int 0, .int 0, .null])), (n8, .inl (c8, 260, .inl (fun _ => 0))), (n17, .inl (c8, 3072, .inl (fun _ => 0))), (n25, .inl (c8, 524288, .inl (fun _ => 0))), (n34, .inl (c34, 512, .inl (fun _ => 0)))] H := hP
  have hD : va_D A [(h0, .inr (5, [.int 0, .int 0, .ref n8, .ref n17, .ref n25, .ref n34, .null, .null, .null, .null, .null, .null, .null, .null, .null, .int 0, .int 0, .null])), (n8, .inl (c8, 260, .inl (fun _ => 0))), (n17, .inl (c8, 3072, .inl (fun _ => 0))), (n25, .inl (c8, 524288, .inl (fun _ => 0))), (n34, .inl (c34, 512, .inl (fun _ => 0)))] := hD
  have hK : va_K (dC, dI) vcl [(c8, .byte), (c34, .boolean)] s := hK
  refine lv_aload_n hx hb kd_M_init_39 rfl (lv_at hl 0 rfl) ?_
  refine lv_bipush (v := 64) hx hb kd_M_init_40 (by decide) ?_
  refine va_newa (atype := .int) (ty := .int) (N' := 64) (a0 := (64, .inl (fun _ => 0))) hx hb (hts _ q_40) rfl hK hP hD hS hA (fun _ => rfl) (by decide) (by decide) (by decide) (Nat.le_of_ble_eq_true rfl) (Nat.le_of_ble_eq_true rfl) kd_M_init_42 (fun n42 c42 H hK hP hD hS => ?_)
  have hP : va_P (dC, dI) vcl [(h0, .inr (5, [.int 0, .int 0, .ref n8, .ref n17, .ref n25, .ref n34, .null, .null, .null, .null, .null, .null, .null, .null, .null, .int 0, .int 0, .null])), (n8, .inl (c8, 260, .inl (fun _ => 0))), (n17, .inl (c8, 3072, .inl (fun _ => 0))), (n25, .inl (c8, 524288, .inl (fun _ => 0))), (n34, .inl (c34, 512, .inl (fun _ => 0))), (n42, .inl (c42, 64, .inl (fun _ => 0)))] H := hP
  have hD : va_D A [(h0, .inr (5, [.int 0, .int 0, .ref n8, .ref n17, .ref n25, .ref n34, .null, .null, .null, .null, .null, .null, .null, .null, .null, .int 0, .int 0, .null])), (n8, .inl (c8, 260, .inl (fun _ => 0))), (n17, .inl (c8, 3072, .inl (fun _ => 0))), (n25, .inl (c8, 524288, .inl (fun _ => 0))), (n34, .inl (c34, 512, .inl (fun _ => 0))), (n42, .inl (c42, 64, .inl (fun _ => 0)))] := hD
  have hK : va_K (dC, dI) vcl [(c8, .byte), (c34, .boolean), (c42, .int)] s := hK
  refine W.widen (k := 5) (n := 528196) (by decide) (by decide) ?_
  refine va_putF (D := (dC, dI)) (ci := 5) (v := .ref n42) (ty := .array .int) (C := "FileTreeModel") (T := ft_M) (N := 18) hx hb hts fi_M fy_M fo_M fn_M hown hK hP hD hS 0 rfl rfl 6 (by decide) (hts _ q_475) (fun _ h9 => h9) rfl hin rfl (by decide +kernel) rfl rfl (Nat.le_of_ble_eq_true rfl) kd_M_init_44 (fun H locs hP hD hS => ?_)
  have hP : va_P (dC, dI) vcl [(h0, .inr (5, [.int 0, .int 0, .ref n8, .ref n17, .ref n25, .ref n34, .ref n42, .null, .null, .null, .null, .null, .null, .null, .null, .int 0, .int 0, .null])), (n8, .inl (c8, 260, .inl (fun _ => 0))), (n17, .inl (c8, 3072, .inl (fun _ => 0))), (n25, .inl (c8, 524288, .inl (fun _ => 0))), (n34, .inl (c34, 512, .inl (fun _ => 0))), (n42, .inl (c42, 64, .inl (fun _ => 0)))] H := hP
  have hD : va_D A [(h0, .inr (5, [.int 0, .int 0, .ref n8, .ref n17, .ref n25, .ref n34, .ref n42, .null, .null, .null, .null, .null, .null, .null, .null, .int 0, .int 0, .null])), (n8, .inl (c8, 260, .inl (fun _ => 0))), (n17, .inl (c8, 3072, .inl (fun _ => 0))), (n25, .inl (c8, 524288, .inl (fun _ => 0))), (n34, .inl (c34, 512, .inl (fun _ => 0))), (n42, .inl (c42, 64, .inl (fun _ => 0)))] := hD
  have hK : va_K (dC, dI) vcl [(c8, .byte), (c34, .boolean), (c42, .int)] s := hK
  refine lv_aload_n hx hb kd_M_init_47 rfl (lv_at hl 0 rfl) ?_
  refine lv_bipush (v := 64) hx hb kd_M_init_48 (by decide) ?_
  refine va_newa (atype := .int) (ty := .int) (N' := 64) (a0 := (64, .inl (fun _ => 0))) hx hb (hts _ q_40) rfl hK hP hD hS hA (fun _ => rfl) (by decide) (by decide) (by decide) (Nat.le_of_ble_eq_true rfl) (Nat.le_of_ble_eq_true rfl) kd_M_init_50 (fun n50 c50 H hK hP hD hS => ?_)
  have hP : va_P (dC, dI) vcl [(h0, .inr (5, [.int 0, .int 0, .ref n8, .ref n17, .ref n25, .ref n34, .ref n42, .null, .null, .null, .null, .null, .null, .null, .null, .int 0, .int 0, .null])), (n8, .inl (c8, 260, .inl (fun _ => 0))), (n17, .inl (c8, 3072, .inl (fun _ => 0))), (n25, .inl (c8, 524288, .inl (fun _ => 0))), (n34, .inl (c34, 512, .inl (fun _ => 0))), (n42, .inl (c42, 64, .inl (fun _ => 0))), (n50, .inl (c50, 64, .inl (fun _ => 0)))] H := hP
  have hD : va_D A [(h0, .inr (5, [.int 0, .int 0, .ref n8, .ref n17, .ref n25, .ref n34, .ref n42, .null, .null, .null, .null, .null, .null, .null, .null, .int 0, .int 0, .null])), (n8, .inl (c8, 260, .inl (fun _ => 0))), (n17, .inl (c8, 3072, .inl (fun _ => 0))), (n25, .inl (c8, 524288, .inl (fun _ => 0))), (n34, .inl (c34, 512, .inl (fun _ => 0))), (n42, .inl (c42, 64, .inl (fun _ => 0))), (n50, .inl (c50, 64, .inl (fun _ => 0)))] := hD
  have hK : va_K (dC, dI) vcl [(c8, .byte), (c34, .boolean), (c42, .int), (c50, .int)] s := hK
  refine W.widen (k := 6) (n := 528260) (by decide) (by decide) ?_
  obtain rfl : c42 = c50 := fb_Kinj .int (by simp) hK 2 3 rfl rfl
  have hK := hK.sub (tys' := [(c8, .byte), (c34, .boolean), (c42, .int)]) [0, 1, 2] rfl
  have hP : va_P (dC, dI) vcl [(h0, .inr (5, [.int 0, .int 0, .ref n8, .ref n17, .ref n25, .ref n34, .ref n42, .null, .null, .null, .null, .null, .null, .null, .null, .int 0, .int 0, .null])), (n8, .inl (c8, 260, .inl (fun _ => 0))), (n17, .inl (c8, 3072, .inl (fun _ => 0))), (n25, .inl (c8, 524288, .inl (fun _ => 0))), (n34, .inl (c34, 512, .inl (fun _ => 0))), (n42, .inl (c42, 64, .inl (fun _ => 0))), (n50, .inl (c42, 64, .inl (fun _ => 0)))] H := hP
  have hD : va_D A [(h0, .inr (5, [.int 0, .int 0, .ref n8, .ref n17, .ref n25, .ref n34, .ref n42, .null, .null, .null, .null, .null, .null, .null, .null, .int 0, .int 0, .null])), (n8, .inl (c8, 260, .inl (fun _ => 0))), (n17, .inl (c8, 3072, .inl (fun _ => 0))), (n25, .inl (c8, 524288, .inl (fun _ => 0))), (n34, .inl (c34, 512, .inl (fun _ => 0))), (n42, .inl (c42, 64, .inl (fun _ => 0))), (n50, .inl (c42, 64, .inl (fun _ => 0)))] := hD
  have hK : va_K (dC, dI) vcl [(c8, .byte), (c34, .boolean), (c42, .int)] s := hK
  refine va_putF (D := (dC, dI)) (ci := 5) (v := .ref n50) (ty := .array .int) (C := "FileTreeModel") (T := ft_M) (N := 18) hx hb hts fi_M fy_M fo_M fn_M hown hK hP hD hS 0 rfl rfl 7 (by decide) (hts _ q_476) (fun _ h9 => h9) rfl hin rfl (by decide +kernel) rfl rfl (Nat.le_of_ble_eq_true rfl) kd_M_init_52 (fun H locs hP hD hS => ?_)
  have hP : va_P (dC, dI) vcl [(h0, .inr (5, [.int 0, .int 0, .ref n8, .ref n17, .ref n25, .ref n34, .ref n42, .ref n50, .null, .null, .null, .null, .null, .null, .null, .int 0, .int 0, .null])), (n8, .inl (c8, 260, .inl (fun _ => 0))), (n17, .inl (c8, 3072, .inl (fun _ => 0))), (n25, .inl (c8, 524288, .inl (fun _ => 0))), (n34, .inl (c34, 512, .inl (fun _ => 0))), (n42, .inl (c42, 64, .inl (fun _ => 0))), (n50, .inl (c42, 64, .inl (fun _ => 0)))] H := hP
  have hD : va_D A [(h0, .inr (5, [.int 0, .int 0, .ref n8, .ref n17, .ref n25, .ref n34, .ref n42, .ref n50, .null, .null, .null, .null, .null, .null, .null, .int 0, .int 0, .null])), (n8, .inl (c8, 260, .inl (fun _ => 0))), (n17, .inl (c8, 3072, .inl (fun _ => 0))), (n25, .inl (c8, 524288, .inl (fun _ => 0))), (n34, .inl (c34, 512, .inl (fun _ => 0))), (n42, .inl (c42, 64, .inl (fun _ => 0))), (n50, .inl (c42, 64, .inl (fun _ => 0)))] := hD
  have hK : va_K (dC, dI) vcl [(c8, .byte), (c34, .boolean), (c42, .int)] s := hK
  refine lv_aload_n hx hb kd_M_init_55 rfl (lv_at hl 0 rfl) ?_
  refine lv_bipush (v := 64) hx hb kd_M_init_56 (by decide) ?_
  refine va_newa (atype := .int) (ty := .int) (N' := 64) (a0 := (64, .inl (fun _ => 0))) hx hb (hts _ q_40) rfl hK hP hD hS hA (fun _ => rfl) (by decide) (by decide) (by decide) (Nat.le_of_ble_eq_true rfl) (Nat.le_of_ble_eq_true rfl) kd_M_init_58 (fun n58 c58 H hK hP hD hS => ?_)
  have hP : va_P (dC, dI) vcl [(h0, .inr (5, [.int 0, .int 0, .ref n8, .ref n17, .ref n25, .ref n34, .ref n42, .ref n50, .null, .null, .null, .null, .null, .null, .null, .int 0, .int 0, .null])), (n8, .inl (c8, 260, .inl (fun _ => 0))), (n17, .inl (c8, 3072, .inl (fun _ => 0))), (n25, .inl (c8, 524288, .inl (fun _ => 0))), (n34, .inl (c34, 512, .inl (fun _ => 0))), (n42, .inl (c42, 64, .inl (fun _ => 0))), (n50, .inl (c42, 64, .inl (fun _ => 0))), (n58, .inl (c58, 64, .inl (fun _ => 0)))] H := hP
  have hD : va_D A [(h0, .inr (5, [.int 0, .int 0, .ref n8, .ref n17, .ref n25, .ref n34, .ref n42, .ref n50, .null, .null, .null, .null, .null, .null, .null, .int 0, .int 0, .null])), (n8, .inl (c8, 260, .inl (fun _ => 0))), (n17, .inl (c8, 3072, .inl (fun _ => 0))), (n25, .inl (c8, 524288, .inl (fun _ => 0))), (n34, .inl (c34, 512, .inl (fun _ => 0))), (n42, .inl (c42, 64, .inl (fun _ => 0))), (n50, .inl (c42, 64, .inl (fun _ => 0))), (n58, .inl (c58, 64, .inl (fun _ => 0)))] := hD
  have hK : va_K (dC, dI) vcl [(c8, .byte), (c34, .boolean), (c42, .int), (c58, .int)] s := hK
  refine W.widen (k := 7) (n := 528324) (by decide) (by decide) ?_
  obtain rfl : c42 = c58 := fb_Kinj .int (by simp) hK 2 3 rfl rfl
  have hK := hK.sub (tys' := [(c8, .byte), (c34, .boolean), (c42, .int)]) [0, 1, 2] rfl
  have hP : va_P (dC, dI) vcl [(h0, .inr (5, [.int 0, .int 0, .ref n8, .ref n17, .ref n25, .ref n34, .ref n42, .ref n50, .null, .null, .null, .null, .null, .null, .null, .int 0, .int 0, .null])), (n8, .inl (c8, 260, .inl (fun _ => 0))), (n17, .inl (c8, 3072, .inl (fun _ => 0))), (n25, .inl (c8, 524288, .inl (fun _ => 0))), (n34, .inl (c34, 512, .inl (fun _ => 0))), (n42, .inl (c42, 64, .inl (fun _ => 0))), (n50, .inl (c42, 64, .inl (fun _ => 0))), (n58, .inl (c42, 64, .inl (fun _ => 0)))] H := hP
  have hD : va_D A [(h0, .inr (5, [.int 0, .int 0, .ref n8, .ref n17, .ref n25, .ref n34, .ref n42, .ref n50, .null, .null, .null, .null, .null, .null, .null, .int 0, .int 0, .null])), (n8, .inl (c8, 260, .inl (fun _ => 0))), (n17, .inl (c8, 3072, .inl (fun _ => 0))), (n25, .inl (c8, 524288, .inl (fun _ => 0))), (n34, .inl (c34, 512, .inl (fun _ => 0))), (n42, .inl (c42, 64, .inl (fun _ => 0))), (n50, .inl (c42, 64, .inl (fun _ => 0))), (n58, .inl (c42, 64, .inl (fun _ => 0)))] := hD
  have hK : va_K (dC, dI) vcl [(c8, .byte), (c34, .boolean), (c42, .int)] s := hK
  refine va_putF (D := (dC, dI)) (ci := 5) (v := .ref n58) (ty := .array .int) (C := "FileTreeModel") (T := ft_M) (N := 18) hx hb hts fi_M fy_M fo_M fn_M hown hK hP hD hS 0 rfl rfl 8 (by decide) (hts _ q_477) (fun _ h9 => h9) rfl hin rfl (by decide +kernel) rfl rfl (Nat.le_of_ble_eq_true rfl) kd_M_init_60 (fun H locs hP hD hS => ?_)
  have hP : va_P (dC, dI) vcl [(h0, .inr (5, [.int 0, .int 0, .ref n8, .ref n17, .ref n25, .ref n34, .ref n42, .ref n50, .ref n58, .null, .null, .null, .null, .null, .null, .int 0, .int 0, .null])), (n8, .inl (c8, 260, .inl (fun _ => 0))), (n17, .inl (c8, 3072, .inl (fun _ => 0))), (n25, .inl (c8, 524288, .inl (fun _ => 0))), (n34, .inl (c34, 512, .inl (fun _ => 0))), (n42, .inl (c42, 64, .inl (fun _ => 0))), (n50, .inl (c42, 64, .inl (fun _ => 0))), (n58, .inl (c42, 64, .inl (fun _ => 0)))] H := hP
  have hD : va_D A [(h0, .inr (5, [.int 0, .int 0, .ref n8, .ref n17, .ref n25, .ref n34, .ref n42, .ref n50, .ref n58, .null, .null, .null, .null, .null, .null, .int 0, .int 0, .null])), (n8, .inl (c8, 260, .inl (fun _ => 0))), (n17, .inl (c8, 3072, .inl (fun _ => 0))), (n25, .inl (c8, 524288, .inl (fun _ => 0))), (n34, .inl (c34, 512, .inl (fun _ => 0))), (n42, .inl (c42, 64, .inl (fun _ => 0))), (n50, .inl (c42, 64, .inl (fun _ => 0))), (n58, .inl (c42, 64, .inl (fun _ => 0)))] := hD
  have hK : va_K (dC, dI) vcl [(c8, .byte), (c34, .boolean), (c42, .int)] s := hK
  refine lv_aload_n hx hb kd_M_init_63 rfl (lv_at hl 0 rfl) ?_
  refine lv_bipush (v := 64) hx hb kd_M_init_64 (by decide) ?_
  refine va_newa (atype := .int) (ty := .int) (N' := 64) (a0 := (64, .inl (fun _ => 0))) hx hb (hts _ q_40) rfl hK hP hD hS hA (fun _ => rfl) (by decide) (by decide) (by decide) (Nat.le_of_ble_eq_true rfl) (Nat.le_of_ble_eq_true rfl) kd_M_init_66 (fun n66 c66 H hK hP hD hS => ?_)
  have hP : va_P (dC, dI) vcl [(h0, .inr (5, [.int 0, .int 0, .ref n8, .ref n17, .ref n25, .ref n34, .ref n42, .ref n50, .ref n58, .null, .null, .null, .null, .null, .null, .int 0, .int 0, .null])), (n8, .inl (c8, 260, .inl (fun _ => 0))), (n17, .inl (c8, 3072, .inl (fun _ => 0))), (n25, .inl (c8, 524288, .inl (fun _ => 0))), (n34, .inl (c34, 512, .inl (fun _ => 0))), (n42, .inl (c42, 64, .inl (fun _ => 0))), (n50, .inl (c42, 64, .inl (fun _ => 0))), (n58, .inl (c42, 64, .inl (fun _ => 0))), (n66, .inl (c66, 64, .inl (fun _ => 0)))] H := hP
  have hD : va_D A [(h0, .inr (5, [.int 0, .int 0, .ref n8, .ref n17, .ref n25, .ref n34, .ref n42, .ref n50, .ref n58, .null, .null, .null, .null, .null, .null, .int 0, .int 0, .null])), (n8, .inl (c8, 260, .inl (fun _ => 0))), (n17, .inl (c8, 3072, .inl (fun _ => 0))), (n25, .inl (c8, 524288, .inl (fun _ => 0))), (n34, .inl (c34, 512, .inl (fun _ => 0))), (n42, .inl (c42, 64, .inl (fun _ => 0))), (n50, .inl (c42, 64, .inl (fun _ => 0))), (n58, .inl (c42, 64, .inl (fun _ => 0))), (n66, .inl (c66, 64, .inl (fun _ => 0)))] := hD
  have hK : va_K (dC, dI) vcl [(c8, .byte), (c34, .boolean), (c42, .int), (c66, .int)] s := hK
  refine W.widen (k := 8) (n := 528388) (by decide) (by decide) ?_
  obtain rfl : c42 = c66 := fb_Kinj .int (by simp) hK 2 3 rfl rfl
  have hK := hK.sub (tys' := [(c8, .byte), (c34, .boolean), (c42, .int)]) [0, 1, 2] rfl
  have hP : va_P (dC, dI) vcl [(h0, .inr (5, [.int 0, .int 0, .ref n8, .ref n17, .ref n25, .ref n34, .ref n42, .ref n50, .ref n58, .null, .null, .null, .null, .null, .null, .int 0, .int 0, .null])), (n8, .inl (c8, 260, .inl (fun _ => 0))), (n17, .inl (c8, 3072, .inl (fun _ => 0))), (n25, .inl (c8, 524288, .inl (fun _ => 0))), (n34, .inl (c34, 512, .inl (fun _ => 0))), (n42, .inl (c42, 64, .inl (fun _ => 0))), (n50, .inl (c42, 64, .inl (fun _ => 0))), (n58, .inl (c42, 64, .inl (fun _ => 0))), (n66, .inl (c42, 64, .inl (fun _ => 0)))] H := hP
  have hD : va_D A [(h0, .inr (5, [.int 0, .int 0, .ref n8, .ref n17, .ref n25, .ref n34, .ref n42, .ref n50, .ref n58, .null, .null, .null, .null, .null, .null, .int 0, .int 0, .null])), (n8, .inl (c8, 260, .inl (fun _ => 0))), (n17, .inl (c8, 3072, .inl (fun _ => 0))), (n25, .inl (c8, 524288, .inl (fun _ => 0))), (n34, .inl (c34, 512, .inl (fun _ => 0))), (n42, .inl (c42, 64, .inl (fun _ => 0))), (n50, .inl (c42, 64, .inl (fun _ => 0))), (n58, .inl (c42, 64, .inl (fun _ => 0))), (n66, .inl (c42, 64, .inl (fun _ => 0)))] := hD
  have hK : va_K (dC, dI) vcl [(c8, .byte), (c34, .boolean), (c42, .int)] s := hK
  refine va_putF (D := (dC, dI)) (ci := 5) (v := .ref n66) (ty := .array .int) (C := "FileTreeModel") (T := ft_M) (N := 18) hx hb hts fi_M fy_M fo_M fn_M hown hK hP hD hS 0 rfl rfl 9 (by decide) (hts _ q_478) (fun _ h9 => h9) rfl hin rfl (by decide +kernel) rfl rfl (Nat.le_of_ble_eq_true rfl) kd_M_init_68 (fun H locs hP hD hS => ?_)
  have hP : va_P (dC, dI) vcl [(h0, .inr (5, [.int 0, .int 0, .ref n8, .ref n17, .ref n25, .ref n34, .ref n42, .ref n50, .ref n58, .ref n66, .null, .null, .null, .null, .null, .int 0, .int 0, .null])), (n8, .inl (c8, 260, .inl (fun _ => 0))), (n17, .inl (c8, 3072, .inl (fun _ => 0))), (n25, .inl (c8, 524288, .inl (fun _ => 0))), (n34, .inl (c34, 512, .inl (fun _ => 0))), (n42, .inl (c42, 64, .inl (fun _ => 0))), (n50, .inl (c42, 64, .inl (fun _ => 0))), (n58, .inl (c42, 64, .inl (fun _ => 0))), (n66, .inl (c42, 64, .inl (fun _ => 0)))] H := hP
  have hD : va_D A [(h0, .inr (5, [.int 0, .int 0, .ref n8, .ref n17, .ref n25, .ref n34, .ref n42, .ref n50, .ref n58, .ref n66, .null, .null, .null, .null, .null, .int 0, .int 0, .null])), (n8, .inl (c8, 260, .inl (fun _ => 0))), (n17, .inl (c8, 3072, .inl (fun _ => 0))), (n25, .inl (c8, 524288, .inl (fun _ => 0))), (n34, .inl (c34, 512, .inl (fun _ => 0))), (n42, .inl (c42, 64, .inl (fun _ => 0))), (n50, .inl (c42, 64, .inl (fun _ => 0))), (n58, .inl (c42, 64, .inl (fun _ => 0))), (n66, .inl (c42, 64, .inl (fun _ => 0)))] := hD
  have hK : va_K (dC, dI) vcl [(c8, .byte), (c34, .boolean), (c42, .int)] s := hK
  refine lv_aload_n hx hb kd_M_init_71 rfl (lv_at hl 0 rfl) ?_
  refine lv_bipush (v := 64) hx hb kd_M_init_72 (by decide) ?_
  refine va_newa (atype := .int) (ty := .int) (N' := 64) (a0 := (64, .inl (fun _ => 0))) hx hb (hts _ q_40) rfl hK hP hD hS hA (fun _ => rfl) (by decide) (by decide) (by decide) (Nat.le_of_ble_eq_true rfl) (Nat.le_of_ble_eq_true rfl) kd_M_init_74 (fun n74 c74 H hK hP hD hS => ?_)
  have hP : va_P (dC, dI) vcl [(h0, .inr (5, [.int 0, .int 0, .ref n8, .ref n17, .ref n25, .ref n34, .ref n42, .ref n50, .ref n58, .ref n66, .null, .null, .null, .null, .null, .int 0, .int 0, .null])), (n8, .inl (c8, 260, .inl (fun _ => 0))), (n17, .inl (c8, 3072, .inl (fun _ => 0))), (n25, .inl (c8, 524288, .inl (fun _ => 0))), (n34, .inl (c34, 512, .inl (fun _ => 0))), (n42, .inl (c42, 64, .inl (fun _ => 0))), (n50, .inl (c42, 64, .inl (fun _ => 0))), (n58, .inl (c42, 64, .inl (fun _ => 0))), (n66, .inl (c42, 64, .inl (fun _ => 0))), (n74, .inl (c74, 64, .inl (fun _ => 0)))] H := hP
  have hD : va_D A [(h0, .inr (5, [.int 0, .int 0, .ref n8, .ref n17, .ref n25, .ref n34, .ref n42, .ref n50, .ref n58, .ref n66, .null, .null, .null, .null, .null, .int 0, .int 0, .null])), (n8, .inl (c8, 260, .inl (fun _ => 0))), (n17, .inl (c8, 3072, .inl (fun _ => 0))), (n25, .inl (c8, 524288, .inl (fun _ => 0))), (n34, .inl (c34, 512, .inl (fun _ => 0))), (n42, .inl (c42, 64, .inl (fun _ => 0))), (n50, .inl (c42, 64, .inl (fun _ => 0))), (n58, .inl (c42, 64, .inl (fun _ => 0))), (n66, .inl (c42, 64, .inl (fun _ => 0))), (n74, .inl (c74, 64, .inl (fun _ => 0)))] := hD
  have hK : va_K (dC, dI) vcl [(c8, .byte), (c34, .boolean), (c42, .int), (c74, .int)] s := hK
  refine W.widen (k := 9) (n := 528452) (by decide) (by decide) ?_
  obtain rfl : c42 = c74 := fb_Kinj .int (by simp) hK 2 3 rfl rfl
  have hK := hK.sub (tys' := [(c8, .byte), (c34, .boolean), (c42, .int)]) [0, 1, 2] rfl
  have hP : va_P (dC, dI) vcl [(h0, .inr (5, [.int 0, .int 0, .ref n8, .ref n17, .ref n25, .ref n34, .ref n42, .ref n50, .ref n58, .ref n66, .null, .null, .null, .null, .null, .int 0, .int 0, .null])), (n8, .inl (c8, 260, .inl (fun _ => 0))), (n17, .inl (c8, 3072, .inl (fun _ => 0))), (n25, .inl (c8, 524288, .inl (fun _ => 0))), (n34, .inl (c34, 512, .inl (fun _ => 0))), (n42, .inl (c42, 64, .inl (fun _ => 0))), (n50, .inl (c42, 64, .inl (fun _ => 0))), (n58, .inl (c42, 64, .inl (fun _ => 0))), (n66, .inl (c42, 64, .inl (fun _ => 0))), (n74, .inl (c42, 64, .inl (fun _ => 0)))] H := hP
  have hD : va_D A [(h0, .inr (5, [.int 0, .int 0, .ref n8, .ref n17, .ref n25, .ref n34, .ref n42, .ref n50, .ref n58, .ref n66, .null, .null, .null, .null, .null, .int 0, .int 0, .null])), (n8, .inl (c8, 260, .inl (fun _ => 0))), (n17, .inl (c8, 3072, .inl (fun _ => 0))), (n25, .inl (c8, 524288, .inl (fun _ => 0))), (n34, .inl (c34, 512, .inl (fun _ => 0))), (n42, .inl (c42, 64, .inl (fun _ => 0))), (n50, .inl (c42, 64, .inl (fun _ => 0))), (n58, .inl (c42, 64, .inl (fun _ => 0))), (n66, .inl (c42, 64, .inl (fun _ => 0))), (n74, .inl (c42, 64, .inl (fun _ => 0)))] := hD
  have hK : va_K (dC, dI) vcl [(c8, .byte), (c34, .boolean), (c42, .int)] s := hK
  refine va_putF (D := (dC, dI)) (ci := 5) (v := .ref n74) (ty := .array .int) (C := "FileTreeModel") (T := ft_M) (N := 18) hx hb hts fi_M fy_M fo_M fn_M hown hK hP hD hS 0 rfl rfl 10 (by decide) (hts _ q_479) (fun _ h9 => h9) rfl hin rfl (by decide +kernel) rfl rfl (Nat.le_of_ble_eq_true rfl) kd_M_init_76 (fun H locs hP hD hS => ?_)
  have hP : va_P (dC, dI) vcl [(h0, .inr (5, [.int 0, .int 0, .ref n8, .ref n17, .ref n25, .ref n34, .ref n42, .ref n50, .ref n58, .ref n66, .ref n74, .null, .null, .null, .null, .int 0, .int 0, .null])), (n8, .inl (c8, 260, .inl (fun _ => 0))), (n17, .inl (c8, 3072, .inl (fun _ => 0))), (n25, .inl (c8, 524288, .inl (fun _ => 0))), (n34, .inl (c34, 512, .inl (fun _ => 0))), (n42, .inl (c42, 64, .inl (fun _ => 0))), (n50, .inl (c42, 64, .inl (fun _ => 0))), (n58, .inl (c42, 64, .inl (fun _ => 0))), (n66, .inl (c42, 64, .inl (fun _ => 0))), (n74, .inl (c42, 64, .inl (fun _ => 0)))] H := hP
  have hD : va_D A [(h0, .inr (5, [.int 0, .int 0, .ref n8, .ref n17, .ref n25, .ref n34, .ref n42, .ref n50, .ref n58, .ref n66, .ref n74, .null, .null, .null, .null, .int 0, .int 0, .null])), (n8, .inl (c8, 260, .inl (fun _ => 0))), (n17, .inl (c8, 3072, .inl (fun _ => 0))), (n25, .inl (c8, 524288, .inl (fun _ => 0))), (n34, .inl (c34, 512, .inl (fun _ => 0))), (n42, .inl (c42, 64, .inl (fun _ => 0))), (n50, .inl (c42, 64, .inl (fun _ => 0))), (n58, .inl (c42, 64, .inl (fun _ => 0))), (n66, .inl (c42, 64, .inl (fun _ => 0))), (n74, .inl (c42, 64, .inl (fun _ => 0)))] := hD
  have hK : va_K (dC, dI) vcl [(c8, .byte), (c34, .boolean), (c42, .int)] s := hK
  refine lv_aload_n hx hb kd_M_init_79 rfl (lv_at hl 0 rfl) ?_
  refine lv_bipush (v := 64) hx hb kd_M_init_80 (by decide) ?_
  refine va_newa (atype := .int) (ty := .int) (N' := 64) (a0 := (64, .inl (fun _ => 0))) hx hb (hts _ q_40) rfl hK hP hD hS hA (fun _ => rfl) (by decide) (by decide) (by decide) (Nat.le_of_ble_eq_true rfl) (Nat.le_of_ble_eq_true rfl) kd_M_init_82 (fun n82 c82 H hK hP hD hS => ?_)
  have hP : va_P (dC, dI) vcl [(h0, .inr (5, [.int 0, .int 0, .ref n8, .ref n17, .ref n25, .ref n34, .ref n42, .ref n50, .ref n58, .ref n66, .ref n74, .null, .null, .null, .null, .int 0, .int 0, .null])), (n8, .inl (c8, 260, .inl (fun _ => 0))), (n17, .inl (c8, 3072, .inl (fun _ => 0))), (n25, .inl (c8, 524288, .inl (fun _ => 0))), (n34, .inl (c34, 512, .inl (fun _ => 0))), (n42, .inl (c42, 64, .inl (fun _ => 0))), (n50, .inl (c42, 64, .inl (fun _ => 0))), (n58, .inl (c42, 64, .inl (fun _ => 0))), (n66, .inl (c42, 64, .inl (fun _ => 0))), (n74, .inl (c42, 64, .inl (fun _ => 0))), (n82, .inl (c82, 64, .inl (fun _ => 0)))] H := hP
  have hD : va_D A [(h0, .inr (5, [.int 0, .int 0, .ref n8, .ref n17, .ref n25, .ref n34, .ref n42, .ref n50, .ref n58, .ref n66, .ref n74, .null, .null, .null, .null, .int 0, .int 0, .null])), (n8, .inl (c8, 260, .inl (fun _ => 0))), (n17, .inl (c8, 3072, .inl (fun _ => 0))), (n25, .inl (c8, 524288, .inl (fun _ => 0))), (n34, .inl (c34, 512, .inl (fun _ => 0))), (n42, .inl (c42, 64, .inl (fun _ => 0))), (n50, .inl (c42, 64, .inl (fun _ => 0))), (n58, .inl (c42, 64, .inl (fun _ => 0))), (n66, .inl (c42, 64, .inl (fun _ => 0))), (n74, .inl (c42, 64, .inl (fun _ => 0))), (n82, .inl (c82, 64, .inl (fun _ => 0)))] := hD
  have hK : va_K (dC, dI) vcl [(c8, .byte), (c34, .boolean), (c42, .int), (c82, .int)] s := hK
  refine W.widen (k := 10) (n := 528516) (by decide) (by decide) ?_
  obtain rfl : c42 = c82 := fb_Kinj .int (by simp) hK 2 3 rfl rfl
  have hK := hK.sub (tys' := [(c8, .byte), (c34, .boolean), (c42, .int)]) [0, 1, 2] rfl
  have hP : va_P (dC, dI) vcl [(h0, .inr (5, [.int 0, .int 0, .ref n8, .ref n17, .ref n25, .ref n34, .ref n42, .ref n50, .ref n58, .ref n66, .ref n74, .null, .null, .null, .null, .int 0, .int 0, .null])), (n8, .inl (c8, 260, .inl (fun _ => 0))), (n17, .inl (c8, 3072, .inl (fun _ => 0))), (n25, .inl (c8, 524288, .inl (fun _ => 0))), (n34, .inl (c34, 512, .inl (fun _ => 0))), (n42, .inl (c42, 64, .inl (fun _ => 0))), (n50, .inl (c42, 64, .inl (fun _ => 0))), (n58, .inl (c42, 64, .inl (fun _ => 0))), (n66, .inl (c42, 64, .inl (fun _ => 0))), (n74, .inl (c42, 64, .inl (fun _ => 0))), (n82, .inl (c42, 64, .inl (fun _ => 0)))] H := hP
  have hD : va_D A [(h0, .inr (5, [.int 0, .int 0, .ref n8, .ref n17, .ref n25, .ref n34, .ref n42, .ref n50, .ref n58, .ref n66, .ref n74, .null, .null, .null, .null, .int 0, .int 0, .null])), (n8, .inl (c8, 260, .inl (fun _ => 0))), (n17, .inl (c8, 3072, .inl (fun _ => 0))), (n25, .inl (c8, 524288, .inl (fun _ => 0))), (n34, .inl (c34, 512, .inl (fun _ => 0))), (n42, .inl (c42, 64, .inl (fun _ => 0))), (n50, .inl (c42, 64, .inl (fun _ => 0))), (n58, .inl (c42, 64, .inl (fun _ => 0))), (n66, .inl (c42, 64, .inl (fun _ => 0))), (n74, .inl (c42, 64, .inl (fun _ => 0))), (n82, .inl (c42, 64, .inl (fun _ => 0)))] := hD
  have hK : va_K (dC, dI) vcl [(c8, .byte), (c34, .boolean), (c42, .int)] s := hK
  refine va_putF (D := (dC, dI)) (ci := 5) (v := .ref n82) (ty := .array .int) (C := "FileTreeModel") (T := ft_M) (N := 18) hx hb hts fi_M fy_M fo_M fn_M hown hK hP hD hS 0 rfl rfl 11 (by decide) (hts _ q_480) (fun _ h9 => h9) rfl hin rfl (by decide +kernel) rfl rfl (Nat.le_of_ble_eq_true rfl) kd_M_init_84 (fun H locs hP hD hS => ?_)
  have hP : va_P (dC, dI) vcl [(h0, .inr (5, [.int 0, .int 0, .ref n8, .ref n17, .ref n25, .ref n34, .ref n42, .ref n50, .ref n58, .ref n66, .ref n74, .ref n82, .null, .null, .null, .int 0, .int 0, .null])), (n8, .inl (c8, 260, .inl (fun _ => 0))), (n17, .inl (c8, 3072, .inl (fun _ => 0))), (n25, .inl (c8, 524288, .inl (fun _ => 0))), (n34, .inl (c34, 512, .inl (fun _ => 0))), (n42, .inl (c42, 64, .inl (fun _ => 0))), (n50, .inl (c42, 64, .inl (fun _ => 0))), (n58, .inl (c42, 64, .inl (fun _ => 0))), (n66, .inl (c42, 64, .inl (fun _ => 0))), (n74, .inl (c42, 64, .inl (fun _ => 0))), (n82, .inl (c42, 64, .inl (fun _ => 0)))] H := hP
  have hD : va_D A [(h0, .inr (5, [.int 0, .int 0, .ref n8, .ref n17, .ref n25, .ref n34, .ref n42, .ref n50, .ref n58, .ref n66, .ref n74, .ref n82, .null, .null, .null, .int 0, .int 0, .null])), (n8, .inl (c8, 260, .inl (fun _ => 0))), (n17, .inl (c8, 3072, .inl (fun _ => 0))), (n25, .inl (c8, 524288, .inl (fun _ => 0))), (n34, .inl (c34, 512, .inl (fun _ => 0))), (n42, .inl (c42, 64, .inl (fun _ => 0))), (n50, .inl (c42, 64, .inl (fun _ => 0))), (n58, .inl (c42, 64, .inl (fun _ => 0))), (n66, .inl (c42, 64, .inl (fun _ => 0))), (n74, .inl (c42, 64, .inl (fun _ => 0))), (n82, .inl (c42, 64, .inl (fun _ => 0)))] := hD
  have hK : va_K (dC, dI) vcl [(c8, .byte), (c34, .boolean), (c42, .int)] s := hK
  refine lv_aload_n hx hb kd_M_init_87 rfl (lv_at hl 0 rfl) ?_
  refine lv_bipush (v := 64) hx hb kd_M_init_88 (by decide) ?_
  refine va_newa (atype := .int) (ty := .int) (N' := 64) (a0 := (64, .inl (fun _ => 0))) hx hb (hts _ q_40) rfl hK hP hD hS hA (fun _ => rfl) (by decide) (by decide) (by decide) (Nat.le_of_ble_eq_true rfl) (Nat.le_of_ble_eq_true rfl) kd_M_init_90 (fun n90 c90 H hK hP hD hS => ?_)
  have hP : va_P (dC, dI) vcl [(h0, .inr (5, [.int 0, .int 0, .ref n8, .ref n17, .ref n25, .ref n34, .ref n42, .ref n50, .ref n58, .ref n66, .ref n74, .ref n82, .null, .null, .null, .int 0, .int 0, .null])), (n8, .inl (c8, 260, .inl (fun _ => 0))), (n17, .inl (c8, 3072, .inl (fun _ => 0))), (n25, .inl (c8, 524288, .inl (fun _ => 0))), (n34, .inl (c34, 512, .inl (fun _ => 0))), (n42, .inl (c42, 64, .inl (fun _ => 0))), (n50, .inl (c42, 64, .inl (fun _ => 0))), (n58, .inl (c42, 64, .inl (fun _ => 0))), (n66, .inl (c42, 64, .inl (fun _ => 0))), (n74, .inl (c42, 64, .inl (fun _ => 0))), (n82, .inl (c42, 64, .inl (fun _ => 0))), (n90, .inl (c90, 64, .inl (fun _ => 0)))] H := hP
  have hD : va_D A [(h0, .inr (5, [.int 0, .int 0, .ref n8, .ref n17, .ref n25, .ref n34, .ref n42, .ref n50, .ref n58, .ref n66, .ref n74, .ref n82, .null, .null, .null, .int 0, .int 0, .null])), (n8, .inl (c8, 260, .inl (fun _ => 0))), (n17, .inl (c8, 3072, .inl (fun _ => 0))), (n25, .inl (c8, 524288, .inl (fun _ => 0))), (n34, .inl (c34, 512, .inl (fun _ => 0))), (n42, .inl (c42, 64, .inl (fun _ => 0))), (n50, .inl (c42, 64, .inl (fun _ => 0))), (n58, .inl (c42, 64, .inl (fun _ => 0))), (n66, .inl (c42, 64, .inl (fun _ => 0))), (n74, .inl (c42, 64, .inl (fun _ => 0))), (n82, .inl (c42, 64, .inl (fun _ => 0))), (n90, .inl (c90, 64, .inl (fun _ => 0)))] := hD
  have hK : va_K (dC, dI) vcl [(c8, .byte), (c34, .boolean), (c42, .int), (c90, .int)] s := hK
  refine W.widen (k := 11) (n := 528580) (by decide) (by decide) ?_
  obtain rfl : c42 = c90 := fb_Kinj .int (by simp) hK 2 3 rfl rfl
  have hK := hK.sub (tys' := [(c8, .byte), (c34, .boolean), (c42, .int)]) [0, 1, 2] rfl
  have hP : va_P (dC, dI) vcl [(h0, .inr (5, [.int 0, .int 0, .ref n8, .ref n17, .ref n25, .ref n34, .ref n42, .ref n50, .ref n58, .ref n66, .ref n74, .ref n82, .null, .null, .null, .int 0, .int 0, .null])), (n8, .inl (c8, 260, .inl (fun _ => 0))), (n17, .inl (c8, 3072, .inl (fun _ => 0))), (n25, .inl (c8, 524288, .inl (fun _ => 0))), (n34, .inl (c34, 512, .inl (fun _ => 0))), (n42, .inl (c42, 64, .inl (fun _ => 0))), (n50, .inl (c42, 64, .inl (fun _ => 0))), (n58, .inl (c42, 64, .inl (fun _ => 0))), (n66, .inl (c42, 64, .inl (fun _ => 0))), (n74, .inl (c42, 64, .inl (fun _ => 0))), (n82, .inl (c42, 64, .inl (fun _ => 0))), (n90, .inl (c42, 64, .inl (fun _ => 0)))] H := hP
  have hD : va_D A [(h0, .inr (5, [.int 0, .int 0, .ref n8, .ref n17, .ref n25, .ref n34, .ref n42, .ref n50, .ref n58, .ref n66, .ref n74, .ref n82, .null, .null, .null, .int 0, .int 0, .null])), (n8, .inl (c8, 260, .inl (fun _ => 0))), (n17, .inl (c8, 3072, .inl (fun _ => 0))), (n25, .inl (c8, 524288, .inl (fun _ => 0))), (n34, .inl (c34, 512, .inl (fun _ => 0))), (n42, .inl (c42, 64, .inl (fun _ => 0))), (n50, .inl (c42, 64, .inl (fun _ => 0))), (n58, .inl (c42, 64, .inl (fun _ => 0))), (n66, .inl (c42, 64, .inl (fun _ => 0))), (n74, .inl (c42, 64, .inl (fun _ => 0))), (n82, .inl (c42, 64, .inl (fun _ => 0))), (n90, .inl (c42, 64, .inl (fun _ => 0)))] := hD
  have hK : va_K (dC, dI) vcl [(c8, .byte), (c34, .boolean), (c42, .int)] s := hK
  refine va_putF (D := (dC, dI)) (ci := 5) (v := .ref n90) (ty := .array .int) (C := "FileTreeModel") (T := ft_M) (N := 18) hx hb hts fi_M fy_M fo_M fn_M hown hK hP hD hS 0 rfl rfl 12 (by decide) (hts _ q_481) (fun _ h9 => h9) rfl hin rfl (by decide +kernel) rfl rfl (Nat.le_of_ble_eq_true rfl) kd_M_init_92 (fun H locs hP hD hS => ?_)
  have hP : va_P (dC, dI) vcl [(h0, .inr (5, [.int 0, .int 0, .ref n8, .ref n17, .ref n25, .ref n34, .ref n42, .ref n50, .ref n58, .ref n66, .ref n74, .ref n82, .ref n90, .null, .null, .int 0, .int 0, .null])), (n8, .inl (c8, 260, .inl (fun _ => 0))), (n17, .inl (c8, 3072, .inl (fun _ => 0))), (n25, .inl (c8, 524288, .inl (fun _ => 0))), (n34, .inl (c34, 512, .inl (fun _ => 0))), (n42, .inl (c42, 64, .inl (fun _ => 0))), (n50, .inl (c42, 64, .inl (fun _ => 0))), (n58, .inl (c42, 64, .inl (fun _ => 0))), (n66, .inl (c42, 64, .inl (fun _ => 0))), (n74, .inl (c42, 64, .inl (fun _ => 0))), (n82, .inl (c42, 64, .inl (fun _ => 0))), (n90, .inl (c42, 64, .inl (fun _ => 0)))] H := hP
  have hD : va_D A [(h0, .inr (5, [.int 0, .int 0, .ref n8, .ref n17, .ref n25, .ref n34, .ref n42, .ref n50, .ref n58, .ref n66, .ref n74, .ref n82, .ref n90, .null, .null, .int 0, .int 0, .null])), (n8, .inl (c8, 260, .inl (fun _ => 0))), (n17, .inl (c8, 3072, .inl (fun _ => 0))), (n25, .inl (c8, 524288, .inl (fun _ => 0))), (n34, .inl (c34, 512, .inl (fun _ => 0))), (n42, .inl (c42, 64, .inl (fun _ => 0))), (n50, .inl (c42, 64, .inl (fun _ => 0))), (n58, .inl (c42, 64, .inl (fun _ => 0))), (n66, .inl (c42, 64, .inl (fun _ => 0))), (n74, .inl (c42, 64, .inl (fun _ => 0))), (n82, .inl (c42, 64, .inl (fun _ => 0))), (n90, .inl (c42, 64, .inl (fun _ => 0)))] := hD
  have hK : va_K (dC, dI) vcl [(c8, .byte), (c34, .boolean), (c42, .int)] s := hK
  refine lv_aload_n hx hb kd_M_init_95 rfl (lv_at hl 0 rfl) ?_
  refine lv_sipush (v := 17216) hx hb kd_M_init_96 (by decide) ?_
  refine va_newa (atype := .int) (ty := .int) (N' := 17216) (a0 := (17216, .inl (fun _ => 0))) hx hb (hts _ q_40) rfl hK hP hD hS hA (fun _ => rfl) (by decide) (by decide) (by decide) (Nat.le_of_ble_eq_true rfl) (Nat.le_of_ble_eq_true rfl) kd_M_init_99 (fun n99 c99 H hK hP hD hS => ?_)
  have hP : va_P (dC, dI) vcl [(h0, .inr (5, [.int 0, .int 0, .ref n8, .ref n17, .ref n25, .ref n34, .ref n42, .ref n50, .ref n58, .ref n66, .ref n74, .ref n82, .ref n90, .null, .null, .int 0, .int 0, .null])), (n8, .inl (c8, 260, .inl (fun _ => 0))), (n17, .inl (c8, 3072, .inl (fun _ => 0))), (n25, .inl (c8, 524288, .inl (fun _ => 0))), (n34, .inl (c34, 512, .inl (fun _ => 0))), (n42, .inl (c42, 64, .inl (fun _ => 0))), (n50, .inl (c42, 64, .inl (fun _ => 0))), (n58, .inl (c42, 64, .inl (fun _ => 0))), (n66, .inl (c42, 64, .inl (fun _ => 0))), (n74, .inl (c42, 64, .inl (fun _ => 0))), (n82, .inl (c42, 64, .inl (fun _ => 0))), (n90, .inl (c42, 64, .inl (fun _ => 0))), (n99, .inl (c99, 17216, .inl (fun _ => 0)))] H := hP
  have hD : va_D A [(h0, .inr (5, [.int 0, .int 0, .ref n8, .ref n17, .ref n25, .ref n34, .ref n42, .ref n50, .ref n58, .ref n66, .ref n74, .ref n82, .ref n90, .null, .null, .int 0, .int 0, .null])), (n8, .inl (c8, 260, .inl (fun _ => 0))), (n17, .inl (c8, 3072, .inl (fun _ => 0))), (n25, .inl (c8, 524288, .inl (fun _ => 0))), (n34, .inl (c34, 512, .inl (fun _ => 0))), (n42, .inl (c42, 64, .inl (fun _ => 0))), (n50, .inl (c42, 64, .inl (fun _ => 0))), (n58, .inl (c42, 64, .inl (fun _ => 0))), (n66, .inl (c42, 64, .inl (fun _ => 0))), (n74, .inl (c42, 64, .inl (fun _ => 0))), (n82, .inl (c42, 64, .inl (fun _ => 0))), (n90, .inl (c42, 64, .inl (fun _ => 0))), (n99, .inl (c99, 17216, .inl (fun _ => 0)))] := hD
  have hK : va_K (dC, dI) vcl [(c8, .byte), (c34, .boolean), (c42, .int), (c99, .int)] s := hK
  refine W.widen (k := 12) (n := 545796) (by decide) (by decide) ?_
  obtain rfl : c42 = c99 := fb_Kinj .int (by simp) hK 2 3 rfl rfl
  have hK := hK.sub (tys' := [(c8, .byte), (c34, .boolean), (c42, .int)]) [0, 1, 2] rfl
  have hP : va_P (dC, dI) vcl [(h0, .inr (5, [.int 0, .int 0, .ref n8, .ref n17, .ref n25, .ref n34, .ref n42, .ref n50, .ref n58, .ref n66, .ref n74, .ref n82, .ref n90, .null, .null, .int 0, .int 0, .null])), (n8, .inl (c8, 260, .inl (fun _ => 0))), (n17, .inl (c8, 3072, .inl (fun _ => 0))), (n25, .inl (c8, 524288, .inl (fun _ => 0))), (n34, .inl (c34, 512, .inl (fun _ => 0))), (n42, .inl (c42, 64, .inl (fun _ => 0))), (n50, .inl (c42, 64, .inl (fun _ => 0))), (n58, .inl (c42, 64, .inl (fun _ => 0))), (n66, .inl (c42, 64, .inl (fun _ => 0))), (n74, .inl (c42, 64, .inl (fun _ => 0))), (n82, .inl (c42, 64, .inl (fun _ => 0))), (n90, .inl (c42, 64, .inl (fun _ => 0))), (n99, .inl (c42, 17216, .inl (fun _ => 0)))] H := hP
  have hD : va_D A [(h0, .inr (5, [.int 0, .int 0, .ref n8, .ref n17, .ref n25, .ref n34, .ref n42, .ref n50, .ref n58, .ref n66, .ref n74, .ref n82, .ref n90, .null, .null, .int 0, .int 0, .null])), (n8, .inl (c8, 260, .inl (fun _ => 0))), (n17, .inl (c8, 3072, .inl (fun _ => 0))), (n25, .inl (c8, 524288, .inl (fun _ => 0))), (n34, .inl (c34, 512, .inl (fun _ => 0))), (n42, .inl (c42, 64, .inl (fun _ => 0))), (n50, .inl (c42, 64, .inl (fun _ => 0))), (n58, .inl (c42, 64, .inl (fun _ => 0))), (n66, .inl (c42, 64, .inl (fun _ => 0))), (n74, .inl (c42, 64, .inl (fun _ => 0))), (n82, .inl (c42, 64, .inl (fun _ => 0))), (n90, .inl (c42, 64, .inl (fun _ => 0))), (n99, .inl (c42, 17216, .inl (fun _ => 0)))] := hD
  have hK : va_K (dC, dI) vcl [(c8, .byte), (c34, .boolean), (c42, .int)] s := hK
  refine va_putF (D := (dC, dI)) (ci := 5) (v := .ref n99) (ty := .array .int) (C := "FileTreeModel") (T := ft_M) (N := 18) hx hb hts fi_M fy_M fo_M fn_M hown hK hP hD hS 0 rfl rfl 13 (by decide) (hts _ q_482) (fun _ h9 => h9) rfl hin rfl (by decide +kernel) rfl rfl (Nat.le_of_ble_eq_true rfl) kd_M_init_101 (fun H locs hP hD hS => ?_)
  have hP : va_P (dC, dI) vcl [(h0, .inr (5, [.int 0, .int 0, .ref n8, .ref n17, .ref n25, .ref n34, .ref n42, .ref n50, .ref n58, .ref n66, .ref n74, .ref n82, .ref n90, .ref n99, .null, .int 0, .int 0, .null])), (n8, .inl (c8, 260, .inl (fun _ => 0))), (n17, .inl (c8, 3072, .inl (fun _ => 0))), (n25, .inl (c8, 524288, .inl (fun _ => 0))), (n34, .inl (c34, 512, .inl (fun _ => 0))), (n42, .inl (c42, 64, .inl (fun _ => 0))), (n50, .inl (c42, 64, .inl (fun _ => 0))), (n58, .inl (c42, 64, .inl (fun _ => 0))), (n66, .inl (c42, 64, .inl (fun _ => 0))), (n74, .inl (c42, 64, .inl (fun _ => 0))), (n82, .inl (c42, 64, .inl (fun _ => 0))), (n90, .inl (c42, 64, .inl (fun _ => 0))), (n99, .inl (c42, 17216, .inl (fun _ => 0)))] H := hP
  have hD : va_D A [(h0, .inr (5, [.int 0, .int 0, .ref n8, .ref n17, .ref n25, .ref n34, .ref n42, .ref n50, .ref n58, .ref n66, .ref n74, .ref n82, .ref n90, .ref n99, .null, .int 0, .int 0, .null])), (n8, .inl (c8, 260, .inl (fun _ => 0))), (n17, .inl (c8, 3072, .inl (fun _ => 0))), (n25, .inl (c8, 524288, .inl (fun _ => 0))), (n34, .inl (c34, 512, .inl (fun _ => 0))), (n42, .inl (c42, 64, .inl (fun _ => 0))), (n50, .inl (c42, 64, .inl (fun _ => 0))), (n58, .inl (c42, 64, .inl (fun _ => 0))), (n66, .inl (c42, 64, .inl (fun _ => 0))), (n74, .inl (c42, 64, .inl (fun _ => 0))), (n82, .inl (c42, 64, .inl (fun _ => 0))), (n90, .inl (c42, 64, .inl (fun _ => 0))), (n99, .inl (c42, 17216, .inl (fun _ => 0)))] := hD
  have hK : va_K (dC, dI) vcl [(c8, .byte), (c34, .boolean), (c42, .int)] s := hK
  refine lv_aload_n hx hb kd_M_init_104 rfl (lv_at hl 0 rfl) ?_
  refine lv_bipush (v := 8) hx hb kd_M_init_105 (by decide) ?_
  refine va_newa (atype := .int) (ty := .int) (N' := 8) (a0 := (8, .inl (fun _ => 0))) hx hb (hts _ q_40) rfl hK hP hD hS hA (fun _ => rfl) (by decide) (by decide) (by decide) (Nat.le_of_ble_eq_true rfl) (Nat.le_of_ble_eq_true rfl) kd_M_init_107 (fun n107 c107 H hK hP hD hS => ?_)
  have hP : va_P (dC, dI) vcl [(h0, .inr (5, [.int 0, .int 0, .ref n8, .ref n17, .ref n25, .ref n34, .ref n42, .ref n50, .ref n58, .ref n66, .ref n74, .ref n82, .ref n90, .ref n99, .null, .int 0, .int 0, .null])), (n8, .inl (c8, 260, .inl (fun _ => 0))), (n17, .inl (c8, 3072, .inl (fun _ => 0))), (n25, .inl (c8, 524288, .inl (fun _ => 0))), (n34, .inl (c34, 512, .inl (fun _ => 0))), (n42, .inl (c42, 64, .inl (fun _ => 0))), (n50, .inl (c42, 64, .inl (fun _ => 0))), (n58, .inl (c42, 64, .inl (fun _ => 0))), (n66, .inl (c42, 64, .inl (fun _ => 0))), (n74, .inl (c42, 64, .inl (fun _ => 0))), (n82, .inl (c42, 64, .inl (fun _ => 0))), (n90, .inl (c42, 64, .inl (fun _ => 0))), (n99, .inl (c42, 17216, .inl (fun _ => 0))), (n107, .inl (c107, 8, .inl (fun _ => 0)))] H := hP
  have hD : va_D A [(h0, .inr (5, [.int 0, .int 0, .ref n8, .ref n17, .ref n25, .ref n34, .ref n42, .ref n50, .ref n58, .ref n66, .ref n74, .ref n82, .ref n90, .ref n99, .null, .int 0, .int 0, .null])), (n8, .inl (c8, 260, .inl (fun _ => 0))), (n17, .inl (c8, 3072, .inl (fun _ => 0))), (n25, .inl (c8, 524288, .inl (fun _ => 0))), (n34, .inl (c34, 512, .inl (fun _ => 0))), (n42, .inl (c42, 64, .inl (fun _ => 0))), (n50, .inl (c42, 64, .inl (fun _ => 0))), (n58, .inl (c42, 64, .inl (fun _ => 0))), (n66, .inl (c42, 64, .inl (fun _ => 0))), (n74, .inl (c42, 64, .inl (fun _ => 0))), (n82, .inl (c42, 64, .inl (fun _ => 0))), (n90, .inl (c42, 64, .inl (fun _ => 0))), (n99, .inl (c42, 17216, .inl (fun _ => 0))), (n107, .inl (c107, 8, .inl (fun _ => 0)))] := hD
  have hK : va_K (dC, dI) vcl [(c8, .byte), (c34, .boolean), (c42, .int), (c107, .int)] s := hK
  refine W.widen (k := 13) (n := 545804) (by decide) (by decide) ?_
  obtain rfl : c42 = c107 := fb_Kinj .int (by simp) hK 2 3 rfl rfl
  have hK := hK.sub (tys' := [(c8, .byte), (c34, .boolean), (c42, .int)]) [0, 1, 2] rfl
  have hP : va_P (dC, dI) vcl [(h0, .inr (5, [.int 0, .int 0, .ref n8, .ref n17, .ref n25, .ref n34, .ref n42, .ref n50, .ref n58, .ref n66, .ref n74, .ref n82, .ref n90, .ref n99, .null, .int 0, .int 0, .null])), (n8, .inl (c8, 260, .inl (fun _ => 0))), (n17, .inl (c8, 3072, .inl (fun _ => 0))), (n25, .inl (c8, 524288, .inl (fun _ => 0))), (n34, .inl (c34, 512, .inl (fun _ => 0))), (n42, .inl (c42, 64, .inl (fun _ => 0))), (n50, .inl (c42, 64, .inl (fun _ => 0))), (n58, .inl (c42, 64, .inl (fun _ => 0))), (n66, .inl (c42, 64, .inl (fun _ => 0))), (n74, .inl (c42, 64, .inl (fun _ => 0))), (n82, .inl (c42, 64, .inl (fun _ => 0))), (n90, .inl (c42, 64, .inl (fun _ => 0))), (n99, .inl (c42, 17216, .inl (fun _ => 0))), (n107, .inl (c42, 8, .inl (fun _ => 0)))] H := hP
  have hD : va_D A [(h0, .inr (5, [.int 0, .int 0, .ref n8, .ref n17, .ref n25, .ref n34, .ref n42, .ref n50, .ref n58, .ref n66, .ref n74, .ref n82, .ref n90, .ref n99, .null, .int 0, .int 0, .null])), (n8, .inl (c8, 260, .inl (fun _ => 0))), (n17, .inl (c8, 3072, .inl (fun _ => 0))), (n25, .inl (c8, 524288, .inl (fun _ => 0))), (n34, .inl (c34, 512, .inl (fun _ => 0))), (n42, .inl (c42, 64, .inl (fun _ => 0))), (n50, .inl (c42, 64, .inl (fun _ => 0))), (n58, .inl (c42, 64, .inl (fun _ => 0))), (n66, .inl (c42, 64, .inl (fun _ => 0))), (n74, .inl (c42, 64, .inl (fun _ => 0))), (n82, .inl (c42, 64, .inl (fun _ => 0))), (n90, .inl (c42, 64, .inl (fun _ => 0))), (n99, .inl (c42, 17216, .inl (fun _ => 0))), (n107, .inl (c42, 8, .inl (fun _ => 0)))] := hD
  have hK : va_K (dC, dI) vcl [(c8, .byte), (c34, .boolean), (c42, .int)] s := hK
  refine lv_dup hx hb kd_M_init_109 rfl ?_
  refine lv_iconst (v := 0) hx hb kd_M_init_110 (by decide) ?_
  refine lv_ldc (v := 270544960) hx hb hown (hts _ q_440) kd_M_init_111 ?_
  refine va_iast hx hb hK hP hD hS 13 2 rfl rfl (i := 0) (x := 270544960) (by unfold vp_in; decide) kd_M_init_113 (fun H locs hP hD hS => ?_)
  have hP : va_P (dC, dI) vcl [(h0, .inr (5, [.int 0, .int 0, .ref n8, .ref n17, .ref n25, .ref n34, .ref n42, .ref n50, .ref n58, .ref n66, .ref n74, .ref n82, .ref n90, .ref n99, .null, .int 0, .int 0, .null])), (n8, .inl (c8, 260, .inl (fun _ => 0))), (n17, .inl (c8, 3072, .inl (fun _ => 0))), (n25, .inl (c8, 524288, .inl (fun _ => 0))), (n34, .inl (c34, 512, .inl (fun _ => 0))), (n42, .inl (c42, 64, .inl (fun _ => 0))), (n50, .inl (c42, 64, .inl (fun _ => 0))), (n58, .inl (c42, 64, .inl (fun _ => 0))), (n66, .inl (c42, 64, .inl (fun _ => 0))), (n74, .inl (c42, 64, .inl (fun _ => 0))), (n82, .inl (c42, 64, .inl (fun _ => 0))), (n90, .inl (c42, 64, .inl (fun _ => 0))), (n99, .inl (c42, 17216, .inl (fun _ => 0))), (n107, .inl (c42, 8, .inl (upd (fun _ => 0) 0 270544960)))] H := hP
  have hD : va_D A [(h0, .inr (5, [.int 0, .int 0, .ref n8, .ref n17, .ref n25, .ref n34, .ref n42, .ref n50, .ref n58, .ref n66, .ref n74, .ref n82, .ref n90, .ref n99, .null, .int 0, .int 0, .null])), (n8, .inl (c8, 260, .inl (fun _ => 0))), (n17, .inl (c8, 3072, .inl (fun _ => 0))), (n25, .inl (c8, 524288, .inl (fun _ => 0))), (n34, .inl (c34, 512, .inl (fun _ => 0))), (n42, .inl (c42, 64, .inl (fun _ => 0))), (n50, .inl (c42, 64, .inl (fun _ => 0))), (n58, .inl (c42, 64, .inl (fun _ => 0))), (n66, .inl (c42, 64, .inl (fun _ => 0))), (n74, .inl (c42, 64, .inl (fun _ => 0))), (n82, .inl (c42, 64, .inl (fun _ => 0))), (n90, .inl (c42, 64, .inl (fun _ => 0))), (n99, .inl (c42, 17216, .inl (fun _ => 0))), (n107, .inl (c42, 8, .inl (upd (fun _ => 0) 0 270544960)))] := hD
  have hK : va_K (dC, dI) vcl [(c8, .byte), (c34, .boolean), (c42, .int)] s := hK
  refine lv_dup hx hb kd_M_init_114 rfl ?_
  refine lv_iconst (v := 1) hx hb kd_M_init_115 (by decide) ?_
  refine lv_sipush (v := 512) hx hb kd_M_init_116 (by decide) ?_
  refine va_iast hx hb hK hP hD hS 13 2 rfl rfl (i := 1) (x := 512) (by unfold vp_in; decide) kd_M_init_119 (fun H locs hP hD hS => ?_)
  have hP : va_P (dC, dI) vcl [(h0, .inr (5, [.int 0, .int 0, .ref n8, .ref n17, .ref n25, .ref n34, .ref n42, .ref n50, .ref n58, .ref n66, .ref n74, .ref n82, .ref n90, .ref n99, .null, .int 0, .int 0, .null])), (n8, .inl (c8, 260, .inl (fun _ => 0))), (n17, .inl (c8, 3072, .inl (fun _ => 0))), (n25, .inl (c8, 524288, .inl (fun _ => 0))), (n34, .inl (c34, 512, .inl (fun _ => 0))), (n42, .inl (c42, 64, .inl (fun _ => 0))), (n50, .inl (c42, 64, .inl (fun _ => 0))), (n58, .inl (c42, 64, .inl (fun _ => 0))), (n66, .inl (c42, 64, .inl (fun _ => 0))), (n74, .inl (c42, 64, .inl (fun _ => 0))), (n82, .inl (c42, 64, .inl (fun _ => 0))), (n90, .inl (c42, 64, .inl (fun _ => 0))), (n99, .inl (c42, 17216, .inl (fun _ => 0))), (n107, .inl (c42, 8, .inl (upd (upd (fun _ => 0) 0 270544960) 1 512)))] H := hP
  have hD : va_D A [(h0, .inr (5, [.int 0, .int 0, .ref n8, .ref n17, .ref n25, .ref n34, .ref n42, .ref n50, .ref n58, .ref n66, .ref n74, .ref n82, .ref n90, .ref n99, .null, .int 0, .int 0, .null])), (n8, .inl (c8, 260, .inl (fun _ => 0))), (n17, .inl (c8, 3072, .inl (fun _ => 0))), (n25, .inl (c8, 524288, .inl (fun _ => 0))), (n34, .inl (c34, 512, .inl (fun _ => 0))), (n42, .inl (c42, 64, .inl (fun _ => 0))), (n50, .inl (c42, 64, .inl (fun _ => 0))), (n58, .inl (c42, 64, .inl (fun _ => 0))), (n66, .inl (c42, 64, .inl (fun _ => 0))), (n74, .inl (c42, 64, .inl (fun _ => 0))), (n82, .inl (c42, 64, .inl (fun _ => 0))), (n90, .inl (c42, 64, .inl (fun _ => 0))), (n99, .inl (c42, 17216, .inl (fun _ => 0))), (n107, .inl (c42, 8, .inl (upd (upd (fun _ => 0) 0 270544960) 1 512)))] := hD
  have hK : va_K (dC, dI) vcl [(c8, .byte), (c34, .boolean), (c42, .int)] s := hK
  refine lv_dup hx hb kd_M_init_120 rfl ?_
  refine lv_iconst (v := 2) hx hb kd_M_init_121 (by decide) ?_
  refine lv_sipush (v := 474) hx hb kd_M_init_122 (by decide) ?_
  refine va_iast hx hb hK hP hD hS 13 2 rfl rfl (i := 2) (x := 474) (by unfold vp_in; decide) kd_M_init_125 (fun H locs hP hD hS => ?_)
  have hP : va_P (dC, dI) vcl [(h0, .inr (5, [.int 0, .int 0, .ref n8, .ref n17, .ref n25, .ref n34, .ref n42, .ref n50, .ref n58, .ref n66, .ref n74, .ref n82, .ref n90, .ref n99, .null, .int 0, .int 0, .null])), (n8, .inl (c8, 260, .inl (fun _ => 0))), (n17, .inl (c8, 3072, .inl (fun _ => 0))), (n25, .inl (c8, 524288, .inl (fun _ => 0))), (n34, .inl (c34, 512, .inl (fun _ => 0))), (n42, .inl (c42, 64, .inl (fun _ => 0))), (n50, .inl (c42, 64, .inl (fun _ => 0))), (n58, .inl (c42, 64, .inl (fun _ => 0))), (n66, .inl (c42, 64, .inl (fun _ => 0))), (n74, .inl (c42, 64, .inl (fun _ => 0))), (n82, .inl (c42, 64, .inl (fun _ => 0))), (n90, .inl (c42, 64, .inl (fun _ => 0))), (n99, .inl (c42, 17216, .inl (fun _ => 0))), (n107, .inl (c42, 8, .inl (upd (upd (upd (fun _ => 0) 0 270544960) 1 512) 2 474)))] H := hP
  have hD : va_D A [(h0, .inr (5, [.int 0, .int 0, .ref n8, .ref n17, .ref n25, .ref n34, .ref n42, .ref n50, .ref n58, .ref n66, .ref n74, .ref n82, .ref n90, .ref n99, .null, .int 0, .int 0, .null])), (n8, .inl (c8, 260, .inl (fun _ => 0))), (n17, .inl (c8, 3072, .inl (fun _ => 0))), (n25, .inl (c8, 524288, .inl (fun _ => 0))), (n34, .inl (c34, 512, .inl (fun _ => 0))), (n42, .inl (c42, 64, .inl (fun _ => 0))), (n50, .inl (c42, 64, .inl (fun _ => 0))), (n58, .inl (c42, 64, .inl (fun _ => 0))), (n66, .inl (c42, 64, .inl (fun _ => 0))), (n74, .inl (c42, 64, .inl (fun _ => 0))), (n82, .inl (c42, 64, .inl (fun _ => 0))), (n90, .inl (c42, 64, .inl (fun _ => 0))), (n99, .inl (c42, 17216, .inl (fun _ => 0))), (n107, .inl (c42, 8, .inl (upd (upd (upd (fun _ => 0) 0 270544960) 1 512) 2 474)))] := hD
  have hK : va_K (dC, dI) vcl [(c8, .byte), (c34, .boolean), (c42, .int)] s := hK
  refine lv_dup hx hb kd_M_init_126 rfl ?_
  refine lv_iconst (v := 3) hx hb kd_M_init_127 (by decide) ?_
  refine lv_bipush (v := 64) hx hb kd_M_init_128 (by decide) ?_
  refine va_iast hx hb hK hP hD hS 13 2 rfl rfl (i := 3) (x := 64) (by unfold vp_in; decide) kd_M_init_130 (fun H locs hP hD hS => ?_)
  have hP : va_P (dC, dI) vcl [(h0, .inr (5, [.int 0, .int 0, .ref n8, .ref n17, .ref n25, .ref n34, .ref n42, .ref n50, .ref n58, .ref n66, .ref n74, .ref n82, .ref n90, .ref n99, .null, .int 0, .int 0, .null])), (n8, .inl (c8, 260, .inl (fun _ => 0))), (n17, .inl (c8, 3072, .inl (fun _ => 0))), (n25, .inl (c8, 524288, .inl (fun _ => 0))), (n34, .inl (c34, 512, .inl (fun _ => 0))), (n42, .inl (c42, 64, .inl (fun _ => 0))), (n50, .inl (c42, 64, .inl (fun _ => 0))), (n58, .inl (c42, 64, .inl (fun _ => 0))), (n66, .inl (c42, 64, .inl (fun _ => 0))), (n74, .inl (c42, 64, .inl (fun _ => 0))), (n82, .inl (c42, 64, .inl (fun _ => 0))), (n90, .inl (c42, 64, .inl (fun _ => 0))), (n99, .inl (c42, 17216, .inl (fun _ => 0))), (n107, .inl (c42, 8, .inl (upd (upd (upd (upd (fun _ => 0) 0 270544960) 1 512) 2 474) 3 64)))] H := hP
  have hD : va_D A [(h0, .inr (5, [.int 0, .int 0, .ref n8, .ref n17, .ref n25, .ref n34, .ref n42, .ref n50, .ref n58, .ref n66, .ref n74, .ref n82, .ref n90, .ref n99, .null, .int 0, .int 0, .null])), (n8, .inl (c8, 260, .inl (fun _ => 0))), (n17, .inl (c8, 3072, .inl (fun _ => 0))), (n25, .inl (c8, 524288, .inl (fun _ => 0))), (n34, .inl (c34, 512, .inl (fun _ => 0))), (n42, .inl (c42, 64, .inl (fun _ => 0))), (n50, .inl (c42, 64, .inl (fun _ => 0))), (n58, .inl (c42, 64, .inl (fun _ => 0))), (n66, .inl (c42, 64, .inl (fun _ => 0))), (n74, .inl (c42, 64, .inl (fun _ => 0))), (n82, .inl (c42, 64, .inl (fun _ => 0))), (n90, .inl (c42, 64, .inl (fun _ => 0))), (n99, .inl (c42, 17216, .inl (fun _ => 0))), (n107, .inl (c42, 8, .inl (upd (upd (upd (upd (fun _ => 0) 0 270544960) 1 512) 2 474) 3 64)))] := hD
  have hK : va_K (dC, dI) vcl [(c8, .byte), (c34, .boolean), (c42, .int)] s := hK
  refine lv_dup hx hb kd_M_init_131 rfl ?_
  refine lv_iconst (v := 4) hx hb kd_M_init_132 (by decide) ?_
  refine lv_bipush (v := 31) hx hb kd_M_init_133 (by decide) ?_
  refine va_iast hx hb hK hP hD hS 13 2 rfl rfl (i := 4) (x := 31) (by unfold vp_in; decide) kd_M_init_135 (fun H locs hP hD hS => ?_)
  have hP : va_P (dC, dI) vcl [(h0, .inr (5, [.int 0, .int 0, .ref n8, .ref n17, .ref n25, .ref n34, .ref n42, .ref n50, .ref n58, .ref n66, .ref n74, .ref n82, .ref n90, .ref n99, .null, .int 0, .int 0, .null])), (n8, .inl (c8, 260, .inl (fun _ => 0))), (n17, .inl (c8, 3072, .inl (fun _ => 0))), (n25, .inl (c8, 524288, .inl (fun _ => 0))), (n34, .inl (c34, 512, .inl (fun _ => 0))), (n42, .inl (c42, 64, .inl (fun _ => 0))), (n50, .inl (c42, 64, .inl (fun _ => 0))), (n58, .inl (c42, 64, .inl (fun _ => 0))), (n66, .inl (c42, 64, .inl (fun _ => 0))), (n74, .inl (c42, 64, .inl (fun _ => 0))), (n82, .inl (c42, 64, .inl (fun _ => 0))), (n90, .inl (c42, 64, .inl (fun _ => 0))), (n99, .inl (c42, 17216, .inl (fun _ => 0))), (n107, .inl (c42, 8, .inl (upd (upd (upd (upd (upd (fun _ => 0) 0 270544960) 1 512) 2 474) 3 64) 4 31)))] H := hP
  have hD : va_D A [(h0, .inr (5, [.int 0, .int 0, .ref n8, .ref n17, .ref n25, .ref n34, .ref n42, .ref n50, .ref n58, .ref n66, .ref n74, .ref n82, .ref n90, .ref n99, .null, .int 0, .int 0, .null])), (n8, .inl (c8, 260, .inl (fun _ => 0))), (n17, .inl (c8, 3072, .inl (fun _ => 0))), (n25, .inl (c8, 524288, .inl (fun _ => 0))), (n34, .inl (c34, 512, .inl (fun _ => 0))), (n42, .inl (c42, 64, .inl (fun _ => 0))), (n50, .inl (c42, 64, .inl (fun _ => 0))), (n58, .inl (c42, 64, .inl (fun _ => 0))), (n66, .inl (c42, 64, .inl (fun _ => 0))), (n74, .inl (c42, 64, .inl (fun _ => 0))), (n82, .inl (c42, 64, .inl (fun _ => 0))), (n90, .inl (c42, 64, .inl (fun _ => 0))), (n99, .inl (c42, 17216, .inl (fun _ => 0))), (n107, .inl (c42, 8, .inl (upd (upd (upd (upd (upd (fun _ => 0) 0 270544960) 1 512) 2 474) 3 64) 4 31)))] := hD
  have hK : va_K (dC, dI) vcl [(c8, .byte), (c34, .boolean), (c42, .int)] s := hK
  refine lv_dup hx hb kd_M_init_136 rfl ?_
  refine lv_iconst (v := 5) hx hb kd_M_init_137 (by decide) ?_
  refine lv_iconst (v := 2) hx hb kd_M_init_138 (by decide) ?_
  refine va_iast hx hb hK hP hD hS 13 2 rfl rfl (i := 5) (x := 2) (by unfold vp_in; decide) kd_M_init_139 (fun H locs hP hD hS => ?_)
  have hP : va_P (dC, dI) vcl [(h0, .inr (5, [.int 0, .int 0, .ref n8, .ref n17, .ref n25, .ref n34, .ref n42, .ref n50, .ref n58, .ref n66, .ref n74, .ref n82, .ref n90, .ref n99, .null, .int 0, .int 0, .null])), (n8, .inl (c8, 260, .inl (fun _ => 0))), (n17, .inl (c8, 3072, .inl (fun _ => 0))), (n25, .inl (c8, 524288, .inl (fun _ => 0))), (n34, .inl (c34, 512, .inl (fun _ => 0))), (n42, .inl (c42, 64, .inl (fun _ => 0))), (n50, .inl (c42, 64, .inl (fun _ => 0))), (n58, .inl (c42, 64, .inl (fun _ => 0))), (n66, .inl (c42, 64, .inl (fun _ => 0))), (n74, .inl (c42, 64, .inl (fun _ => 0))), (n82, .inl (c42, 64, .inl (fun _ => 0))), (n90, .inl (c42, 64, .inl (fun _ => 0))), (n99, .inl (c42, 17216, .inl (fun _ => 0))), (n107, .inl (c42, 8, .inl (upd (upd (upd (upd (upd (upd (fun _ => 0) 0 270544960) 1 512) 2 474) 3 64) 4 31) 5 2)))] H := hP
  have hD : va_D A [(h0, .inr (5, [.int 0, .int 0, .ref n8, .ref n17, .ref n25, .ref n34, .ref n42, .ref n50, .ref n58, .ref n66, .ref n74, .ref n82, .ref n90, .ref n99, .null, .int 0, .int 0, .null])), (n8, .inl (c8, 260, .inl (fun _ => 0))), (n17, .inl (c8, 3072, .inl (fun _ => 0))), (n25, .inl (c8, 524288, .inl (fun _ => 0))), (n34, .inl (c34, 512, .inl (fun _ => 0))), (n42, .inl (c42, 64, .inl (fun _ => 0))), (n50, .inl (c42, 64, .inl (fun _ => 0))), (n58, .inl (c42, 64, .inl (fun _ => 0))), (n66, .inl (c42, 64, .inl (fun _ => 0))), (n74, .inl (c42, 64, .inl (fun _ => 0))), (n82, .inl (c42, 64, .inl (fun _ => 0))), (n90, .inl (c42, 64, .inl (fun _ => 0))), (n99, .inl (c42, 17216, .inl (fun _ => 0))), (n107, .inl (c42, 8, .inl (upd (upd (upd (upd (upd (upd (fun _ => 0) 0 270544960) 1 512) 2 474) 3 64) 4 31) 5 2)))] := hD
  have hK : va_K (dC, dI) vcl [(c8, .byte), (c34, .boolean), (c42, .int)] s := hK
  refine lv_dup hx hb kd_M_init_140 rfl ?_
  refine lv_bipush (v := 6) hx hb kd_M_init_141 (by decide) ?_
  refine lv_bipush (v := 33) hx hb kd_M_init_143 (by decide) ?_
  refine va_iast hx hb hK hP hD hS 13 2 rfl rfl (i := 6) (x := 33) (by unfold vp_in; decide) kd_M_init_145 (fun H locs hP hD hS => ?_)
  have hP : va_P (dC, dI) vcl [(h0, .inr (5, [.int 0, .int 0, .ref n8, .ref n17, .ref n25, .ref n34, .ref n42, .ref n50, .ref n58, .ref n66, .ref n74, .ref n82, .ref n90, .ref n99, .null, .int 0, .int 0, .null])), (n8, .inl (c8, 260, .inl (fun _ => 0))), (n17, .inl (c8, 3072, .inl (fun _ => 0))), (n25, .inl (c8, 524288, .inl (fun _ => 0))), (n34, .inl (c34, 512, .inl (fun _ => 0))), (n42, .inl (c42, 64, .inl (fun _ => 0))), (n50, .inl (c42, 64, .inl (fun _ => 0))), (n58, .inl (c42, 64, .inl (fun _ => 0))), (n66, .inl (c42, 64, .inl (fun _ => 0))), (n74, .inl (c42, 64, .inl (fun _ => 0))), (n82, .inl (c42, 64, .inl (fun _ => 0))), (n90, .inl (c42, 64, .inl (fun _ => 0))), (n99, .inl (c42, 17216, .inl (fun _ => 0))), (n107, .inl (c42, 8, .inl (upd (upd (upd (upd (upd (upd (upd (fun _ => 0) 0 270544960) 1 512) 2 474) 3 64) 4 31) 5 2) 6 33)))] H := hP
  have hD : va_D A [(h0, .inr (5, [.int 0, .int 0, .ref n8, .ref n17, .ref n25, .ref n34, .ref n42, .ref n50, .ref n58, .ref n66, .ref n74, .ref n82, .ref n90, .ref n99, .null, .int 0, .int 0, .null])), (n8, .inl (c8, 260, .inl (fun _ => 0))), (n17, .inl (c8, 3072, .inl (fun _ => 0))), (n25, .inl (c8, 524288, .inl (fun _ => 0))), (n34, .inl (c34, 512, .inl (fun _ => 0))), (n42, .inl (c42, 64, .inl (fun _ => 0))), (n50, .inl (c42, 64, .inl (fun _ => 0))), (n58, .inl (c42, 64, .inl (fun _ => 0))), (n66, .inl (c42, 64, .inl (fun _ => 0))), (n74, .inl (c42, 64, .inl (fun _ => 0))), (n82, .inl (c42, 64, .inl (fun _ => 0))), (n90, .inl (c42, 64, .inl (fun _ => 0))), (n99, .inl (c42, 17216, .inl (fun _ => 0))), (n107, .inl (c42, 8, .inl (upd (upd (upd (upd (upd (upd (upd (fun _ => 0) 0 270544960) 1 512) 2 474) 3 64) 4 31) 5 2) 6 33)))] := hD
  have hK : va_K (dC, dI) vcl [(c8, .byte), (c34, .boolean), (c42, .int)] s := hK
  refine lv_dup hx hb kd_M_init_146 rfl ?_
  refine lv_bipush (v := 7) hx hb kd_M_init_147 (by decide) ?_
  refine lv_bipush (v := 37) hx hb kd_M_init_149 (by decide) ?_
  refine va_iast hx hb hK hP hD hS 13 2 rfl rfl (i := 7) (x := 37) (by unfold vp_in; decide) kd_M_init_151 (fun H locs hP hD hS => ?_)
  have hP : va_P (dC, dI) vcl [(h0, .inr (5, [.int 0, .int 0, .ref n8, .ref n17, .ref n25, .ref n34, .ref n42, .ref n50, .ref n58, .ref n66, .ref n74, .ref n82, .ref n90, .ref n99, .null, .int 0, .int 0, .null])), (n8, .inl (c8, 260, .inl (fun _ => 0))), (n17, .inl (c8, 3072, .inl (fun _ => 0))), (n25, .inl (c8, 524288, .inl (fun _ => 0))), (n34, .inl (c34, 512, .inl (fun _ => 0))), (n42, .inl (c42, 64, .inl (fun _ => 0))), (n50, .inl (c42, 64, .inl (fun _ => 0))), (n58, .inl (c42, 64, .inl (fun _ => 0))), (n66, .inl (c42, 64, .inl (fun _ => 0))), (n74, .inl (c42, 64, .inl (fun _ => 0))), (n82, .inl (c42, 64, .inl (fun _ => 0))), (n90, .inl (c42, 64, .inl (fun _ => 0))), (n99, .inl (c42, 17216, .inl (fun _ => 0))), (n107, .inl (c42, 8, .inl (upd (upd (upd (upd (upd (upd (upd (upd (fun _ => 0) 0 270544960) 1 512) 2 474) 3 64) 4 31) 5 2) 6 33) 7 37)))] H := hP
  have hD : va_D A [(h0, .inr (5, [.int 0, .int 0, .ref n8, .ref n17, .ref n25, .ref n34, .ref n42, .ref n50, .ref n58, .ref n66, .ref n74, .ref n82, .ref n90, .ref n99, .null, .int 0, .int 0, .null])), (n8, .inl (c8, 260, .inl (fun _ => 0))), (n17, .inl (c8, 3072, .inl (fun _ => 0))), (n25, .inl (c8, 524288, .inl (fun _ => 0))), (n34, .inl (c34, 512, .inl (fun _ => 0))), (n42, .inl (c42, 64, .inl (fun _ => 0))), (n50, .inl (c42, 64, .inl (fun _ => 0))), (n58, .inl (c42, 64, .inl (fun _ => 0))), (n66, .inl (c42, 64, .inl (fun _ => 0))), (n74, .inl (c42, 64, .inl (fun _ => 0))), (n82, .inl (c42, 64, .inl (fun _ => 0))), (n90, .inl (c42, 64, .inl (fun _ => 0))), (n99, .inl (c42, 17216, .inl (fun _ => 0))), (n107, .inl (c42, 8, .inl (upd (upd (upd (upd (upd (upd (upd (upd (fun _ => 0) 0 270544960) 1 512) 2 474) 3 64) 4 31) 5 2) 6 33) 7 37)))] := hD
  have hK : va_K (dC, dI) vcl [(c8, .byte), (c34, .boolean), (c42, .int)] s := hK
  refine va_putF (D := (dC, dI)) (ci := 5) (v := .ref n107) (ty := .array .int) (C := "FileTreeModel") (T := ft_M) (N := 18) hx hb hts fi_M fy_M fo_M fn_M hown hK hP hD hS 0 rfl rfl 14 (by decide) (hts _ q_483) (fun _ h9 => h9) rfl hin rfl (by decide +kernel) rfl rfl (Nat.le_of_ble_eq_true rfl) kd_M_init_152 (fun H locs hP hD hS => ?_)
  have hP : va_P (dC, dI) vcl [(h0, .inr (5, [.int 0, .int 0, .ref n8, .ref n17, .ref n25, .ref n34, .ref n42, .ref n50, .ref n58, .ref n66, .ref n74, .ref n82, .ref n90, .ref n99, .ref n107, .int 0, .int 0, .null])), (n8, .inl (c8, 260, .inl (fun _ => 0))), (n17, .inl (c8, 3072, .inl (fun _ => 0))), (n25, .inl (c8, 524288, .inl (fun _ => 0))), (n34, .inl (c34, 512, .inl (fun _ => 0))), (n42, .inl (c42, 64, .inl (fun _ => 0))), (n50, .inl (c42, 64, .inl (fun _ => 0))), (n58, .inl (c42, 64, .inl (fun _ => 0))), (n66, .inl (c42, 64, .inl (fun _ => 0))), (n74, .inl (c42, 64, .inl (fun _ => 0))), (n82, .inl (c42, 64, .inl (fun _ => 0))), (n90, .inl (c42, 64, .inl (fun _ => 0))), (n99, .inl (c42, 17216, .inl (fun _ => 0))), (n107, .inl (c42, 8, .inl (upd (upd (upd (upd (upd (upd (upd (upd (fun _ => 0) 0 270544960) 1 512) 2 474) 3 64) 4 31) 5 2) 6 33) 7 37)))] H := hP
  have hD : va_D A [(h0, .inr (5, [.int 0, .int 0, .ref n8, .ref n17, .ref n25, .ref n34, .ref n42, .ref n50, .ref n58, .ref n66, .ref n74, .ref n82, .ref n90, .ref n99, .ref n107, .int 0, .int 0, .null])), (n8, .inl (c8, 260, .inl (fun _ => 0))), (n17, .inl (c8, 3072, .inl (fun _ => 0))), (n25, .inl (c8, 524288, .inl (fun _ => 0))), (n34, .inl (c34, 512, .inl (fun _ => 0))), (n42, .inl (c42, 64, .inl (fun _ => 0))), (n50, .inl (c42, 64, .inl (fun _ => 0))), (n58, .inl (c42, 64, .inl (fun _ => 0))), (n66, .inl (c42, 64, .inl (fun _ => 0))), (n74, .inl (c42, 64, .inl (fun _ => 0))), (n82, .inl (c42, 64, .inl (fun _ => 0))), (n90, .inl (c42, 64, .inl (fun _ => 0))), (n99, .inl (c42, 17216, .inl (fun _ => 0))), (n107, .inl (c42, 8, .inl (upd (upd (upd (upd (upd (upd (upd (upd (fun _ => 0) 0 270544960) 1 512) 2 474) 3 64) 4 31) 5 2) 6 33) 7 37)))] := hD
  have hK : va_K (dC, dI) vcl [(c8, .byte), (c34, .boolean), (c42, .int)] s := hK
  refine lv_aload_n hx hb kd_M_init_155 rfl (lv_at hl 0 rfl) ?_
  refine lv_bipush (v := 14) hx hb kd_M_init_156 (by decide) ?_
  refine va_newa (atype := .byte) (ty := .byte) (N' := 14) (a0 := (14, .inl (fun _ => 0))) hx hb (hts _ q_80) rfl hK hP hD hS hA (fun _ => rfl) (by decide) (by decide) (by decide) (Nat.le_of_ble_eq_true rfl) (Nat.le_of_ble_eq_true rfl) kd_M_init_158 (fun n158 c158 H hK hP hD hS => ?_)
  have hP : va_P (dC, dI) vcl [(h0, .inr (5, [.int 0, .int 0, .ref n8, .ref n17, .ref n25, .ref n34, .ref n42, .ref n50, .ref n58, .ref n66, .ref n74, .ref n82, .ref n90, .ref n99, .ref n107, .int 0, .int 0, .null])), (n8, .inl (c8, 260, .inl (fun _ => 0))), (n17, .inl (c8, 3072, .inl (fun _ => 0))), (n25, .inl (c8, 524288, .inl (fun _ => 0))), (n34, .inl (c34, 512, .inl (fun _ => 0))), (n42, .inl (c42, 64, .inl (fun _ => 0))), (n50, .inl (c42, 64, .inl (fun _ => 0))), (n58, .inl (c42, 64, .inl (fun _ => 0))), (n66, .inl (c42, 64, .inl (fun _ => 0))), (n74, .inl (c42, 64, .inl (fun _ => 0))), (n82, .inl (c42, 64, .inl (fun _ => 0))), (n90, .inl (c42, 64, .inl (fun _ => 0))), (n99, .inl (c42, 17216, .inl (fun _ => 0))), (n107, .inl (c42, 8, .inl (upd (upd (upd (upd (upd (upd (upd (upd (fun _ => 0) 0 270544960) 1 512) 2 474) 3 64) 4 31) 5 2) 6 33) 7 37))), (n158, .inl (c158, 14, .inl (fun _ => 0)))] H := hP
  have hD : va_D A [(h0, .inr (5, [.int 0, .int 0, .ref n8, .ref n17, .ref n25, .ref n34, .ref n42, .ref n50, .ref n58, .ref n66, .ref n74, .ref n82, .ref n90, .ref n99, .ref n107, .int 0, .int 0, .null])), (n8, .inl (c8, 260, .inl (fun _ => 0))), (n17, .inl (c8, 3072, .inl (fun _ => 0))), (n25, .inl (c8, 524288, .inl (fun _ => 0))), (n34, .inl (c34, 512, .inl (fun _ => 0))), (n42, .inl (c42, 64, .inl (fun _ => 0))), (n50, .inl (c42, 64, .inl (fun _ => 0))), (n58, .inl (c42, 64, .inl (fun _ => 0))), (n66, .inl (c42, 64, .inl (fun _ => 0))), (n74, .inl (c42, 64, .inl (fun _ => 0))), (n82, .inl (c42, 64, .inl (fun _ => 0))), (n90, .inl (c42, 64, .inl (fun _ => 0))), (n99, .inl (c42, 17216, .inl (fun _ => 0))), (n107, .inl (c42, 8, .inl (upd (upd (upd (upd (upd (upd (upd (upd (fun _ => 0) 0 270544960) 1 512) 2 474) 3 64) 4 31) 5 2) 6 33) 7 37))), (n158, .inl (c158, 14, .inl (fun _ => 0)))] := hD
  have hK : va_K (dC, dI) vcl [(c8, .byte), (c34, .boolean), (c42, .int), (c158, .byte)] s := hK
  refine W.widen (k := 14) (n := 545818) (by decide) (by decide) ?_
  obtain rfl : c8 = c158 := fb_Kinj .byte (by simp) hK 0 3 rfl rfl
  have hK := hK.sub (tys' := [(c8, .byte), (c34, .boolean), (c42, .int)]) [0, 1, 2] rfl
  have hP : va_P (dC, dI) vcl [(h0, .inr (5, [.int 0, .int 0, .ref n8, .ref n17, .ref n25, .ref n34, .ref n42, .ref n50, .ref n58, .ref n66, .ref n74, .ref n82, .ref n90, .ref n99, .ref n107, .int 0, .int 0, .null])), (n8, .inl (c8, 260, .inl (fun _ => 0))), (n17, .inl (c8, 3072, .inl (fun _ => 0))), (n25, .inl (c8, 524288, .inl (fun _ => 0))), (n34, .inl (c34, 512, .inl (fun _ => 0))), (n42, .inl (c42, 64, .inl (fun _ => 0))), (n50, .inl (c42, 64, .inl (fun _ => 0))), (n58, .inl (c42, 64, .inl (fun _ => 0))), (n66, .inl (c42, 64, .inl (fun _ => 0))), (n74, .inl (c42, 64, .inl (fun _ => 0))), (n82, .inl (c42, 64, .inl (fun _ => 0))), (n90, .inl (c42, 64, .inl (fun _ => 0))), (n99, .inl (c42, 17216, .inl (fun _ => 0))), (n107, .inl (c42, 8, .inl (upd (upd (upd (upd (upd (upd (upd (upd (fun _ => 0) 0 270544960) 1 512) 2 474) 3 64) 4 31) 5 2) 6 33) 7 37))), (n158, .inl (c8, 14, .inl (fun _ => 0)))] H := hP
  have hD : va_D A [(h0, .inr (5, [.int 0, .int 0, .ref n8, .ref n17, .ref n25, .ref n34, .ref n42, .ref n50, .ref n58, .ref n66, .ref n74, .ref n82, .ref n90, .ref n99, .ref n107, .int 0, .int 0, .null])), (n8, .inl (c8, 260, .inl (fun _ => 0))), (n17, .inl (c8, 3072, .inl (fun _ => 0))), (n25, .inl (c8, 524288, .inl (fun _ => 0))), (n34, .inl (c34, 512, .inl (fun _ => 0))), (n42, .inl (c42, 64, .inl (fun _ => 0))), (n50, .inl (c42, 64, .inl (fun _ => 0))), (n58, .inl (c42, 64, .inl (fun _ => 0))), (n66, .inl (c42, 64, .inl (fun _ => 0))), (n74, .inl (c42, 64, .inl (fun _ => 0))), (n82, .inl (c42, 64, .inl (fun _ => 0))), (n90, .inl (c42, 64, .inl (fun _ => 0))), (n99, .inl (c42, 17216, .inl (fun _ => 0))), (n107, .inl (c42, 8, .inl (upd (upd (upd (upd (upd (upd (upd (upd (fun _ => 0) 0 270544960) 1 512) 2 474) 3 64) 4 31) 5 2) 6 33) 7 37))), (n158, .inl (c8, 14, .inl (fun _ => 0)))] := hD
  have hK : va_K (dC, dI) vcl [(c8, .byte), (c34, .boolean), (c42, .int)] s := hK
  refine va_putF (D := (dC, dI)) (ci := 5) (v := .ref n158) (ty := .array .byte) (C := "FileTreeModel") (T := ft_M) (N := 18) hx hb hts fi_M fy_M fo_M fn_M hown hK hP hD hS 0 rfl rfl 17 (by decide) (hts _ q_486) (fun _ h9 => h9) rfl hin rfl (by decide +kernel) rfl rfl (Nat.le_of_ble_eq_true rfl) kd_M_init_160 (fun H locs hP hD hS => ?_)
  have hP : va_P (dC, dI) vcl [(h0, .inr (5, [.int 0, .int 0, .ref n8, .ref n17, .ref n25, .ref n34, .ref n42, .ref n50, .ref n58, .ref n66, .ref n74, .ref n82, .ref n90, .ref n99, .ref n107, .int 0, .int 0, .ref n158])), (n8, .inl (c8, 260, .inl (fun _ => 0))), (n17, .inl (c8, 3072, .inl (fun _ => 0))), (n25, .inl (c8, 524288, .inl (fun _ => 0))), (n34, .inl (c34, 512, .inl (fun _ => 0))), (n42, .inl (c42, 64, .inl (fun _ => 0))), (n50, .inl (c42, 64, .inl (fun _ => 0))), (n58, .inl (c42, 64, .inl (fun _ => 0))), (n66, .inl (c42, 64, .inl (fun _ => 0))), (n74, .inl (c42, 64, .inl (fun _ => 0))), (n82, .inl (c42, 64, .inl (fun _ => 0))), (n90, .inl (c42, 64, .inl (fun _ => 0))), (n99, .inl (c42, 17216, .inl (fun _ => 0))), (n107, .inl (c42, 8, .inl (upd (upd (upd (upd (upd (upd (upd (upd (fun _ => 0) 0 270544960) 1 512) 2 474) 3 64) 4 31) 5 2) 6 33) 7 37))), (n158, .inl (c8, 14, .inl (fun _ => 0)))] H := hP
  have hD : va_D A [(h0, .inr (5, [.int 0, .int 0, .ref n8, .ref n17, .ref n25, .ref n34, .ref n42, .ref n50, .ref n58, .ref n66, .ref n74, .ref n82, .ref n90, .ref n99, .ref n107, .int 0, .int 0, .ref n158])), (n8, .inl (c8, 260, .inl (fun _ => 0))), (n17, .inl (c8, 3072, .inl (fun _ => 0))), (n25, .inl (c8, 524288, .inl (fun _ => 0))), (n34, .inl (c34, 512, .inl (fun _ => 0))), (n42, .inl (c42, 64, .inl (fun _ => 0))), (n50, .inl (c42, 64, .inl (fun _ => 0))), (n58, .inl (c42, 64, .inl (fun _ => 0))), (n66, .inl (c42, 64, .inl (fun _ => 0))), (n74, .inl (c42, 64, .inl (fun _ => 0))), (n82, .inl (c42, 64, .inl (fun _ => 0))), (n90, .inl (c42, 64, .inl (fun _ => 0))), (n99, .inl (c42, 17216, .inl (fun _ => 0))), (n107, .inl (c42, 8, .inl (upd (upd (upd (upd (upd (upd (upd (upd (fun _ => 0) 0 270544960) 1 512) 2 474) 3 64) 4 31) 5 2) 6 33) 7 37))), (n158, .inl (c8, 14, .inl (fun _ => 0)))] := hD
  have hK : va_K (dC, dI) vcl [(c8, .byte), (c34, .boolean), (c42, .int)] s := hK
  obtain ⟨a, ea⟩ : ∃ a : Nat → Nat, a = fun k => [h0, n8, n17, n25, n34, n42, n50, n58, n66, n74, n82, n90, n99, n107, n158].getD k 0 := ⟨_, rfl⟩
  obtain ⟨dA, edA⟩ : ∃ d : Nat → ClassId, d = fun k => [c42, c8, c34].getD k 0 := ⟨_, rfl⟩
  have ha0 : a 0 = h0 := by rw [ea]; rfl
  have hP : va_P (dC, dI) vcl (wM dA a stM_0) H := by rw [ea, edA]; exact hP.sub [0, 1, 2, 3, 4, 5, 6, 7, 8, 9, 10, 11, 12, 13, 14] rfl
  have hD : va_D A (wM dA a stM_0) := by rw [ea, edA]; exact hD.sub [0, 1, 2, 3, 4, 5, 6, 7, 8, 9, 10, 11, 12, 13, 14] (by decide) rfl
  have hK : va_K (dC, dI) vcl (tM dA) s := by rw [edA]; exact hK.sub [2, 0, 1] rfl
  have hl : lv_has ls 2 [(0, .ref (a 0))] := by rw [ha0]; exact hl
  have key := w_M_init_163 (l := l) (e := e) (below := below) (dA := dA) (a := a) (dC := dC) (dI := dI) (A := A) ⟨hx, hb, hr, hml, hown, hts, hK, hA, hlocks, trivial⟩ o stM_0 hF H _ hP hD hS ls hl
  refine W.post (fun t h => ?_) key
  obtain ⟨oc, g1, g2, ⟨⟨g3, g4, g5, g6⟩, g7⟩, g8⟩ := h
  exact ⟨oc, g1, g2, ⟨⟨(dA, a), g3, ha0, g4, g5, g6⟩, g7⟩, g8⟩

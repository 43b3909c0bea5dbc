section FB3
variable {p : Program} {l : Launch} {e : Env} {R : Room} {s : State} {m : MethodId} {args : Array Value} {below : List Frame} {meth : Method} {c : Code} {H : Heap} {locs : List Loc} {cells slots : Nat} {Q : State → Prop}
variable {cc : ByteArray} {pc : Nat} {ls : Array Slot} {rest st0 : List Value} {D : va_G} {cl : List vw_C} {A : Nat → Prop} {tys : fb_Y} {wx : fb_S → va_W} {Z : fb_Z} {H0 : Heap} {st u : fb_S}
theorem fb_back2 {v : Option Value} {a : Array Value} {w2 : va_W} (hr : va_Run p l e R s m args below meth c H locs cells slots 0 0 (F0 m pc ls st0) rest (fb_Q D cl tys wx (va_A (wx st) H.size) v u a) (va_A (wx st) H.size)) (hD : va_D A (wx st)) (hS : va_S A H0 H locs) (hA : ∀ q, H0.size ≤ q → A q) (hP2 : va_P D cl w2 H) (hap : ∀ x ∈ (wx st).map (fun q => q.1), x ∉ w2.map (fun q => q.1))
    (kk : ∀ (H1 : Heap) (locs1 : List Loc), va_P D cl (wx u) H1 → va_D A (wx u) → va_S A H0 H1 locs1 → va_P D cl w2 H1 → W p l e R s m args below meth c H1 locs1 cells slots Q (F0 m (pc + 3) ls (v.toList ++ rest))) : W p l e R s m args below meth c H locs cells slots Q (F0 m pc ls st0) := by
  have hF := fb_free hD hS hA
  intro T hT X
  obtain ⟨v', st₀, t, T', L, h0, X', hL, e1, e2, ⟨⟨hv, hp, hk, hd⟩, hz, hkk⟩, st⟩ := hr T hT X
  cases hv
  rw [h0] at hz hkk
  obtain ⟨t2, a1, b1⟩ := kk T'.heap (locs ++ L) (by rw [e1]; exact hp) (hd.weaken (fun _ _ _ h => hF _ h))
    ⟨Nat.le_trans hS.1 (by rw [e1]; exact hz), fun q h1 h2 => by rw [e1, hkk q (Nat.lt_of_lt_of_le h1 hS.1) (fun z => h2 (hF q z))]; exact hS.2.1 q h1 h2, fun q hq => by
      rcases List.mem_append.mp hq with h | h
      · exact hS.2.2 q h
      · exact hF _ (hL q h)⟩
    (hP2.kept (fun k q hq => by
      rw [e1]
      have hlt := (hP2 k q hq).lt
      refine hkk q.1 hlt (fun h => ?_)
      rcases h with ⟨k2, e3, h⟩ | h
      · exact hap q.1 (List.mem_map.mpr ⟨_, List.mem_of_getElem? h, rfl⟩) (List.mem_map.mpr ⟨_, List.mem_of_getElem? hq, rfl⟩)
      · omega)) T' rfl X'
  exact ⟨t2, st t2 a1, b1⟩
variable {y : MethodName} {bytes : ByteArray} {maxL nL n index : Nat} {ret : Option FieldType} {ws ws' : List Cond} {rm : Room} {Ts : List Cond} {own C : String} {b : Nat} {As : List Value} {v : Option Value}
theorem fb_callV2 (S : CallFix p m c cc nL s args Ts own) (zm : fb_mv Z) (hZ : Z A s s.heap) (hK : va_K D cl tys s) (hP : va_P D cl (wx st) H) (hD : va_D A (wx st)) (hS : va_S A s.heap H locs) (hA : ∀ q, s.heap.size ≤ q → A q) {w2 : va_W} (hP2 : va_P D cl w2 H) (hap : ∀ x ∈ (wx st).map (fun q => q.1), x ∉ w2.map (fun q => q.1))
    (hM : fb_M l y ws rm D cl tys wx Z (.ref b :: As) v st u) (cw : CallW R s args own C index y bytes maxL ret ws rm 0 0 n) (ci q0 : Nat) {qc : vw_C} {fs : List Value} (hc : cl[ci]? = some qc) (hq : qc.1 = C) (he : (wx st)[q0]? = some (b, .inr (ci, fs)))
    (hn : As.length = n) (hl : ls.size = nL) (hstack : st0 = As.reverse ++ .ref b :: rest) (hW : (rest.map fun v => v.category).sum ≤ 8) (hdg : decode cc pc = .ok (.invokevirtual index, 3)) (hf : cells ≤ R.cells ∧ slots ≤ R.slots)
    (kk : ∀ (H1 : Heap) (locs1 : List Loc), va_P D cl (wx u) H1 → va_D A (wx u) → va_S A s.heap H1 locs1 → va_P D cl w2 H1 → W p l e R s m args below meth c H1 locs1 cells slots Q (F0 m (pc + 3) ls (v.toList ++ rest))) : W p l e R s m args below meth c H locs cells slots Q (F0 m pc ls st0) := by
  subst hq
  exact fb_back2 (va_runV S (hM H.size) cw ⟨fb_blind zm, va_recv hK hP hc he, fb_preU zm hZ hK hP hD hS hA⟩ rfl hn hl hstack (lv_room hW) hdg hf) hD hS hA hP2 hap kk
end FB3

abbrev aX (s : State) : Nat → Prop := fun q => s.heap.size ≤ q
def lg_ap (a a2 : Nat → Nat) : Prop := ∀ x ∈ [a 0, a 1, a 2, a 3, a 4, a 5, a 6, a 7, a 8, a 9, a 10], x ∉ [a2 0, a2 1, a2 2, a2 3, a2 4, a2 5, a2 6, a2 7, a2 8, a2 9, a2 10, a2 11, a2 12, a2 13, a2 14]
theorem lg_ap.sw {a a2 : Nat → Nat} (h : lg_ap a a2) : ∀ x ∈ [a2 0, a2 1, a2 2, a2 3, a2 4, a2 5, a2 6, a2 7, a2 8, a2 9, a2 10, a2 11, a2 12, a2 13, a2 14], x ∉ [a 0, a 1, a 2, a 3, a 4, a 5, a 6, a 7, a 8, a 9, a 10] := fun x h1 h2 => h x h2 h1
/-- at a place of the law with nothing on the stack, the two systems in their states: it comes to its end, true -/
def lg_G (p : Program) (l : Launch) (e : Env) (s : State) (m : MethodId) (below : List Frame) (meth : Method) (c : Code) (dC : Nat → ClassId) (dI : Nat → Nat → Nat) (dA dB : Nat → ClassId) (a a2 : Nat → Nat) (b : Nat) (pc : Nat) (x3 : Int32) (st mt : fb_S) : Prop := ∀ (H : Heap) (locs : List Loc), va_P (dC, dI) vcl (wX dA a st) H → va_P (dC, dI) vcl (wM dB a2 mt) H → va_D (aX s) (wX dA a st) → va_D (aX s) (wM dB a2 mt) → va_S (aX s) s.heap H locs → ∀ ls : Array Slot, lv_has ls 4 [(0, .ref b), (1, .ref (a 0)), (2, .ref (a2 0)), (3, .int x3)] → W p l e room_1 s m #[Value.ref b] below meth c H locs 26 680346 (lw_Z below #[Value.ref b] s) (F0 m pc ls [])
def lg_C (p : Program) (s : State) (m : MethodId) (meth : Method) (c : Code) (dC : Nat → ClassId) (dI : Nat → Nat → Nat) (dA dB : Nat → ClassId) (a a2 z : Nat → Nat) (b L : Nat) (xs : Nat → Int32) : Prop := p.tables.exec = Jvm.exec ∧ c.code = code ∧ meth.sig.returnType = ret ∧ c.maxLocals = 4 ∧ s.vm.findClass "FileTreeLaw" = some m.cls ∧ (∀ w ∈ lw_g, w.before #[Value.ref b] s = true) ∧ va_X b L xs s s.heap ∧ b < s.heap.size ∧ meth.locks = false ∧ va_K (dC, dI) vcl (tX dA) s ∧ va_K (dC, dI) vcl (tM dB) s ∧ zX z (aX s) s s.heap ∧ lg_ap a a2
def sm_write (sim : Nat → fb_S → fb_S → Prop) : Prop := ∀ (j : Nat) (st mt : fb_S) (y0 : Int64), j < 512 → sim j st mt → ∃ (r : Int32) (st1 mt1 : fb_S), f_T_write y0 st = some (r, st1) ∧ f_M_write y0 mt = some (r, mt1) ∧ sim (j + 1) st1 mt1
def sm_find (sim : Nat → fb_S → fb_S → Prop) : Prop := ∀ (j : Nat) (st mt : fb_S) (y0 : Int32), j < 512 → sim j st mt → ∃ (r : Int32) (st1 mt1 : fb_S), f_T_find y0 st = some (r, st1) ∧ f_M_find y0 mt = some (r, mt1) ∧ sim (j + 1) st1 mt1
def sm_create (sim : Nat → fb_S → fb_S → Prop) : Prop := ∀ (j : Nat) (st mt : fb_S) (y0 : Int32) (y1 : Int32) (y2 : Int32) (y3 : Int32), j < 512 → sim j st mt → ∃ (r : Int32) (st1 mt1 : fb_S), f_T_create y0 y1 y2 y3 st = some (r, st1) ∧ f_M_create y0 y1 y2 y3 mt = some (r, mt1) ∧ sim (j + 1) st1 mt1
def sm_link (sim : Nat → fb_S → fb_S → Prop) : Prop := ∀ (j : Nat) (st mt : fb_S) (y0 : Int32), j < 512 → sim j st mt → ∃ (r : Int32) (st1 mt1 : fb_S), f_T_link y0 st = some (r, st1) ∧ f_M_link y0 mt = some (r, mt1) ∧ sim (j + 1) st1 mt1
def sm_unlink (sim : Nat → fb_S → fb_S → Prop) : Prop := ∀ (j : Nat) (st mt : fb_S) (y0 : Int32), j < 512 → sim j st mt → ∃ (r : Int32) (st1 mt1 : fb_S), f_T_unlink y0 st = some (r, st1) ∧ f_M_unlink y0 mt = some (r, mt1) ∧ sim (j + 1) st1 mt1
def sm_hold (sim : Nat → fb_S → fb_S → Prop) : Prop := ∀ (j : Nat) (st mt : fb_S) (y0 : Int32), j < 512 → sim j st mt → ∃ (r : Int32) (st1 mt1 : fb_S), f_T_hold y0 st = some (r, st1) ∧ f_M_hold y0 mt = some (r, mt1) ∧ sim (j + 1) st1 mt1
def sm_leave (sim : Nat → fb_S → fb_S → Prop) : Prop := ∀ (j : Nat) (st mt : fb_S) (y0 : Int32), j < 512 → sim j st mt → ∃ (r : Int32) (st1 mt1 : fb_S), f_T_leave y0 st = some (r, st1) ∧ f_M_leave y0 mt = some (r, mt1) ∧ sim (j + 1) st1 mt1
def sm_read (sim : Nat → fb_S → fb_S → Prop) : Prop := ∀ (j : Nat) (st mt : fb_S) (y0 : Int32) (y1 : Int32) (y2 : Int32), j < 512 → sim j st mt → ∃ (r : Int32) (st1 mt1 : fb_S), f_T_read y0 y1 y2 st = some (r, st1) ∧ f_M_read y0 y1 y2 mt = some (r, mt1) ∧ sim (j + 1) st1 mt1
def sm_save (sim : Nat → fb_S → fb_S → Prop) : Prop := ∀ (j : Nat) (st mt : fb_S) (y0 : Int32) (y1 : Int32) (y2 : Int32), j < 512 → sim j st mt → ∃ (r : Int32) (st1 mt1 : fb_S), f_T_save y0 y1 y2 st = some (r, st1) ∧ f_M_save y0 y1 y2 mt = some (r, mt1) ∧ sim (j + 1) st1 mt1
def sm_clear (sim : Nat → fb_S → fb_S → Prop) : Prop := ∀ (j : Nat) (st mt : fb_S) (y0 : Int32), j < 512 → sim j st mt → ∃ (r : Int32) (st1 mt1 : fb_S), f_T_clear y0 st = some (r, st1) ∧ f_M_clear y0 mt = some (r, mt1) ∧ sim (j + 1) st1 mt1
def sm_about (sim : Nat → fb_S → fb_S → Prop) : Prop := ∀ (j : Nat) (st mt : fb_S) (y0 : Int32) (y1 : Int32), j < 512 → sim j st mt → ∃ (r : Int32) (st1 mt1 : fb_S), f_T_about y0 y1 st = some (r, st1) ∧ f_M_about y0 y1 mt = some (r, mt1) ∧ sim (j + 1) st1 mt1
def sm_free (sim : Nat → fb_S → fb_S → Prop) : Prop := ∀ (j : Nat) (st mt : fb_S) , j < 512 → sim j st mt → ∃ (r : Int32) (st1 mt1 : fb_S), f_T_free st = some (r, st1) ∧ f_M_free mt = some (r, mt1) ∧ sim (j + 1) st1 mt1
def sm_forget (sim : Nat → fb_S → fb_S → Prop) : Prop := ∀ (j : Nat) (st mt : fb_S) , j < 512 → sim j st mt → ∃ (r : Int32) (st1 mt1 : fb_S), f_T_forget st = some (r, st1) ∧ f_M_forget mt = some (r, mt1) ∧ sim (j + 1) st1 mt1
def sm_fill (sim : Nat → fb_S → fb_S → Prop) : Prop := ∀ (j : Nat) (st mt : fb_S) (y0 : Int32) (y1 : Int32) (y2 : Int32), j < 512 → sim j st mt → ∃ (r : Int32) (st1 mt1 : fb_S), f_T_fill y0 y1 y2 st = some (r, st1) ∧ f_M_fill y0 y1 y2 mt = some (r, mt1) ∧ sim (j + 1) st1 mt1
def sm_at (sim : Nat → fb_S → fb_S → Prop) : Prop := ∀ (j : Nat) (st mt : fb_S) (y0 : Int32), j < 512 → sim j st mt → ∃ (r : Int32) (st1 mt1 : fb_S), f_T_at y0 st = some (r, st1) ∧ f_M_at y0 mt = some (r, mt1) ∧ sim (j + 1) st1 mt1
def sm_peek (sim : Nat → fb_S → fb_S → Prop) : Prop := ∀ (j : Nat) (st mt : fb_S) (y0 : Int32) (y1 : Int32), j < 512 → sim j st mt → ∃ (r : Int32) (st1 mt1 : fb_S), f_T_peek y0 y1 st = some (r, st1) ∧ f_M_peek y0 y1 mt = some (r, mt1) ∧ sim (j + 1) st1 mt1
def sm_all (sim : Nat → fb_S → fb_S → Prop) : Prop := sm_write sim ∧ sm_find sim ∧ sm_create sim ∧ sm_link sim ∧ sm_unlink sim ∧ sm_hold sim ∧ sm_leave sim ∧ sm_read sim ∧ sm_save sim ∧ sm_clear sim ∧ sm_about sim ∧ sm_free sim ∧ sm_forget sim ∧ sm_fill sim ∧ sm_at sim ∧ sm_peek sim
set_option maxHeartbeats 4000000 in
set_option maxRecDepth 100000 in
theorem lc_write {p : Program} {l : Launch} {e : Env} {s : State} {m : MethodId} {below : List Frame} {meth : Method} {c : Code} {dC : Nat → ClassId} {dI : Nat → Nat → Nat} {dA dB : Nat → ClassId} {a a2 z : Nat → Nat} {b L : Nat} {xs : Nat → Int32} (CX : lg_C p s m meth c dC dI dA dB a a2 z b L xs) {sim : Nat → fb_S → fb_S → Prop} (hsm : sm_write sim) {j : Nat} (hj : j < 512) (x3 : Int32) (hi : ∀ k : Nat, k < 5 → vp_in (x3 + nI k) L) (st mt : fb_S) (hs : sim j st mt) (hk : ∀ st1 mt1 : fb_S, sim (j + 1) st1 mt1 → lg_G p l e s m below meth c dC dI dA dB a a2 b 600 x3 st1 mt1) : lg_G p l e s m below meth c dC dI dA dB a a2 b 112 x3 st mt := by
  obtain ⟨hx, hb, hr, hml, hown, hts, hX, hbl, hlocks, hK1, hK2, hZ, hap⟩ := id CX
  have hA : ∀ q : Nat, s.heap.size ≤ q → aX s q := fun _ h => h
  have hbA : ¬ aX s b := Nat.not_le.mpr hbl
  intro H locs hP1 hP2 hD1 hD2 hS ls hl
  obtain ⟨r, st1, mt1, e1, e2, hs1⟩ := hsm j st mt ((fb_lsl ((xs (x3 + (1 : Int32)).toNatClampNeg).toInt64) (32 : Int32)) ||| (((xs (x3 + (2 : Int32)).toNatClampNeg).toInt64) &&& (4294967295 : Int64))) hj hs
  refine lv_aload_n hx hb kd_L_law_112 rfl (lv_at hl 1 rfl) ?_
  refine lv_aload_n hx hb kd_L_law_113 rfl (lv_at hl 0 rfl) ?_
  refine lv_iload_n hx hb kd_L_law_114 rfl (lv_at hl 3 rfl) ?_
  refine lv_iconst (v := 1) hx hb kd_L_law_115 (by decide) ?_
  refine lv_iadd hx hb kd_L_law_116 ?_
  refine va_sld hx hb hX hbl hbA hS (hi 1 (by decide)) kd_L_law_117 ?_
  refine lv_i2l (v := (xs (x3 + (1 : Int32)).toNatClampNeg).toInt64) hx hb kd_L_law_118 rfl ?_
  refine lv_bipush (v := 32) hx hb kd_L_law_119 (by decide) ?_
  refine lv_lshl (v := fb_lsl ((xs (x3 + (1 : Int32)).toNatClampNeg).toInt64) (32 : Int32)) hx hb kd_L_law_121 rfl ?_
  refine lv_aload_n hx hb kd_L_law_122 rfl (lv_at hl 0 rfl) ?_
  refine lv_iload_n hx hb kd_L_law_123 rfl (lv_at hl 3 rfl) ?_
  refine lv_iconst (v := 2) hx hb kd_L_law_124 (by decide) ?_
  refine lv_iadd hx hb kd_L_law_125 ?_
  refine va_sld hx hb hX hbl hbA hS (hi 2 (by decide)) kd_L_law_126 ?_
  refine lv_i2l (v := (xs (x3 + (2 : Int32)).toNatClampNeg).toInt64) hx hb kd_L_law_127 rfl ?_
  refine lv_ldc2 (v := 4294967295) hx hb hown (hts _ q_694) kd_L_law_128 ?_
  refine lv_land hx hb kd_L_law_131 ?_
  refine lv_lor hx hb kd_L_law_132 ?_
  refine fb_callV2 (wx := wX dA a) (w2 := wM dB a2 mt) (As := [.long ((fb_lsl ((xs (x3 + (1 : Int32)).toNatClampNeg).toInt64) (32 : Int32)) ||| (((xs (x3 + (2 : Int32)).toNatClampNeg).toInt64) &&& (4294967295 : Int64)))]) (rest := []) ⟨hx, hb, hml, hown, hts⟩ zX_mv hZ hK1 hP1 hD1 hS hA hP2 hap (c_T_write l dC dI dA a z ((fb_lsl ((xs (x3 + (1 : Int32)).toNatClampNeg).toInt64) (32 : Int32)) ||| (((xs (x3 + (2 : Int32)).toNatClampNeg).toInt64) &&& (4294967295 : Int64))) st (r, st1) e1) (cwV 1 hts (gd_V q_223 ko_T_write) rfl rfl rfl kh_T_write ⟨Nat.le_of_ble_eq_true rfl, Nat.le_of_ble_eq_true rfl⟩) 4 0 rfl rfl rfl rfl hl.1 rfl (Nat.le_of_ble_eq_true rfl) kd_L_law_133 ⟨Nat.le_of_ble_eq_true rfl, Nat.le_of_ble_eq_true rfl⟩ (fun H locs hP1 hD1 hS hP2 => ?_)
  refine W.eq (g2 := F0 m 136 ls [.int r]) rfl ?_
  refine lv_aload_n hx hb kd_L_law_136 rfl (lv_at hl 2 rfl) ?_
  refine lv_aload_n hx hb kd_L_law_137 rfl (lv_at hl 0 rfl) ?_
  refine lv_iload_n hx hb kd_L_law_138 rfl (lv_at hl 3 rfl) ?_
  refine lv_iconst (v := 1) hx hb kd_L_law_139 (by decide) ?_
  refine lv_iadd hx hb kd_L_law_140 ?_
  refine va_sld hx hb hX hbl hbA hS (hi 1 (by decide)) kd_L_law_141 ?_
  refine lv_i2l (v := (xs (x3 + (1 : Int32)).toNatClampNeg).toInt64) hx hb kd_L_law_142 rfl ?_
  refine lv_bipush (v := 32) hx hb kd_L_law_143 (by decide) ?_
  refine lv_lshl (v := fb_lsl ((xs (x3 + (1 : Int32)).toNatClampNeg).toInt64) (32 : Int32)) hx hb kd_L_law_145 rfl ?_
  refine lv_aload_n hx hb kd_L_law_146 rfl (lv_at hl 0 rfl) ?_
  refine lv_iload_n hx hb kd_L_law_147 rfl (lv_at hl 3 rfl) ?_
  refine lv_iconst (v := 2) hx hb kd_L_law_148 (by decide) ?_
  refine lv_iadd hx hb kd_L_law_149 ?_
  refine va_sld hx hb hX hbl hbA hS (hi 2 (by decide)) kd_L_law_150 ?_
  refine lv_i2l (v := (xs (x3 + (2 : Int32)).toNatClampNeg).toInt64) hx hb kd_L_law_151 rfl ?_
  refine lv_ldc2 (v := 4294967295) hx hb hown (hts _ q_694) kd_L_law_152 ?_
  refine lv_land hx hb kd_L_law_155 ?_
  refine lv_lor hx hb kd_L_law_156 ?_
  refine fb_callV2 (wx := wM dB a2) (w2 := wX dA a st1) (As := [.long ((fb_lsl ((xs (x3 + (1 : Int32)).toNatClampNeg).toInt64) (32 : Int32)) ||| (((xs (x3 + (2 : Int32)).toNatClampNeg).toInt64) &&& (4294967295 : Int64)))]) (rest := [.int r]) ⟨hx, hb, hml, hown, hts⟩ zM_mv trivial hK2 hP2 hD2 hS hA hP1 hap.sw (c_M_write l dC dI dB a2 ((fb_lsl ((xs (x3 + (1 : Int32)).toNatClampNeg).toInt64) (32 : Int32)) ||| (((xs (x3 + (2 : Int32)).toNatClampNeg).toInt64) &&& (4294967295 : Int64))) mt (r, mt1) e2) (cwV 1 hts (gd_V q_525 ko_M_write) rfl rfl rfl kh_M_write ⟨Nat.le_of_ble_eq_true rfl, Nat.le_of_ble_eq_true rfl⟩) 5 0 rfl rfl rfl rfl hl.1 rfl (Nat.le_of_ble_eq_true rfl) kd_L_law_157 ⟨Nat.le_of_ble_eq_true rfl, Nat.le_of_ble_eq_true rfl⟩ (fun H locs hP2 hD2 hS hP1 => ?_)
  refine W.eq (g2 := F0 m 160 ls [.int r, .int r]) rfl ?_
  refine lv_icmp_eq (tgt := 600) hx hb kd_L_law_160 (by decide) (fun _ => ?_) (fun cc => absurd rfl cc)
  exact hk st1 mt1 hs1 H locs hP1 hP2 hD1 hD2 hS ls hl
set_option maxHeartbeats 4000000 in
set_option maxRecDepth 100000 in
theorem lc_find {p : Program} {l : Launch} {e : Env} {s : State} {m : MethodId} {below : List Frame} {meth : Method} {c : Code} {dC : Nat → ClassId} {dI : Nat → Nat → Nat} {dA dB : Nat → ClassId} {a a2 z : Nat → Nat} {b L : Nat} {xs : Nat → Int32} (CX : lg_C p s m meth c dC dI dA dB a a2 z b L xs) {sim : Nat → fb_S → fb_S → Prop} (hsm : sm_find sim) {j : Nat} (hj : j < 512) (x3 : Int32) (hi : ∀ k : Nat, k < 5 → vp_in (x3 + nI k) L) (st mt : fb_S) (hs : sim j st mt) (hk : ∀ st1 mt1 : fb_S, sim (j + 1) st1 mt1 → lg_G p l e s m below meth c dC dI dA dB a a2 b 600 x3 st1 mt1) : lg_G p l e s m below meth c dC dI dA dB a a2 b 165 x3 st mt := by
  obtain ⟨hx, hb, hr, hml, hown, hts, hX, hbl, hlocks, hK1, hK2, hZ, hap⟩ := id CX
  have hA : ∀ q : Nat, s.heap.size ≤ q → aX s q := fun _ h => h
  have hbA : ¬ aX s b := Nat.not_le.mpr hbl
  intro H locs hP1 hP2 hD1 hD2 hS ls hl
  obtain ⟨r, st1, mt1, e1, e2, hs1⟩ := hsm j st mt (xs (x3 + (1 : Int32)).toNatClampNeg) hj hs
  refine lv_aload_n hx hb kd_L_law_165 rfl (lv_at hl 1 rfl) ?_
  refine lv_aload_n hx hb kd_L_law_166 rfl (lv_at hl 0 rfl) ?_
  refine lv_iload_n hx hb kd_L_law_167 rfl (lv_at hl 3 rfl) ?_
  refine lv_iconst (v := 1) hx hb kd_L_law_168 (by decide) ?_
  refine lv_iadd hx hb kd_L_law_169 ?_
  refine va_sld hx hb hX hbl hbA hS (hi 1 (by decide)) kd_L_law_170 ?_
  refine fb_callV2 (wx := wX dA a) (w2 := wM dB a2 mt) (As := [.int (xs (x3 + (1 : Int32)).toNatClampNeg)]) (rest := []) ⟨hx, hb, hml, hown, hts⟩ zX_mv hZ hK1 hP1 hD1 hS hA hP2 hap (c_T_find l dC dI dA a z (xs (x3 + (1 : Int32)).toNatClampNeg) st (r, st1) e1) (cwV 1 hts (gd_V q_232 ko_T_find) rfl rfl rfl kh_T_find ⟨Nat.le_of_ble_eq_true rfl, Nat.le_of_ble_eq_true rfl⟩) 4 0 rfl rfl rfl rfl hl.1 rfl (Nat.le_of_ble_eq_true rfl) kd_L_law_171 ⟨Nat.le_of_ble_eq_true rfl, Nat.le_of_ble_eq_true rfl⟩ (fun H locs hP1 hD1 hS hP2 => ?_)
  refine W.eq (g2 := F0 m 174 ls [.int r]) rfl ?_
  refine lv_aload_n hx hb kd_L_law_174 rfl (lv_at hl 2 rfl) ?_
  refine lv_aload_n hx hb kd_L_law_175 rfl (lv_at hl 0 rfl) ?_
  refine lv_iload_n hx hb kd_L_law_176 rfl (lv_at hl 3 rfl) ?_
  refine lv_iconst (v := 1) hx hb kd_L_law_177 (by decide) ?_
  refine lv_iadd hx hb kd_L_law_178 ?_
  refine va_sld hx hb hX hbl hbA hS (hi 1 (by decide)) kd_L_law_179 ?_
  refine fb_callV2 (wx := wM dB a2) (w2 := wX dA a st1) (As := [.int (xs (x3 + (1 : Int32)).toNatClampNeg)]) (rest := [.int r]) ⟨hx, hb, hml, hown, hts⟩ zM_mv trivial hK2 hP2 hD2 hS hA hP1 hap.sw (c_M_find l dC dI dB a2 (xs (x3 + (1 : Int32)).toNatClampNeg) mt (r, mt1) e2) (cwV 1 hts (gd_V q_530 ko_M_find) rfl rfl rfl kh_M_find ⟨Nat.le_of_ble_eq_true rfl, Nat.le_of_ble_eq_true rfl⟩) 5 0 rfl rfl rfl rfl hl.1 rfl (Nat.le_of_ble_eq_true rfl) kd_L_law_180 ⟨Nat.le_of_ble_eq_true rfl, Nat.le_of_ble_eq_true rfl⟩ (fun H locs hP2 hD2 hS hP1 => ?_)
  refine W.eq (g2 := F0 m 183 ls [.int r, .int r]) rfl ?_
  refine lv_icmp_eq (tgt := 600) hx hb kd_L_law_183 (by decide) (fun _ => ?_) (fun cc => absurd rfl cc)
  exact hk st1 mt1 hs1 H locs hP1 hP2 hD1 hD2 hS ls hl
set_option maxHeartbeats 4000000 in
set_option maxRecDepth 100000 in
theorem lc_create {p : Program} {l : Launch} {e : Env} {s : State} {m : MethodId} {below : List Frame} {meth : Method} {c : Code} {dC : Nat → ClassId} {dI : Nat → Nat → Nat} {dA dB : Nat → ClassId} {a a2 z : Nat → Nat} {b L : Nat} {xs : Nat → Int32} (CX : lg_C p s m meth c dC dI dA dB a a2 z b L xs) {sim : Nat → fb_S → fb_S → Prop} (hsm : sm_create sim) {j : Nat} (hj : j < 512) (x3 : Int32) (hi : ∀ k : Nat, k < 5 → vp_in (x3 + nI k) L) (st mt : fb_S) (hs : sim j st mt) (hk : ∀ st1 mt1 : fb_S, sim (j + 1) st1 mt1 → lg_G p l e s m below meth c dC dI dA dB a a2 b 600 x3 st1 mt1) : lg_G p l e s m below meth c dC dI dA dB a a2 b 188 x3 st mt := by
  obtain ⟨hx, hb, hr, hml, hown, hts, hX, hbl, hlocks, hK1, hK2, hZ, hap⟩ := id CX
  have hA : ∀ q : Nat, s.heap.size ≤ q → aX s q := fun _ h => h
  have hbA : ¬ aX s b := Nat.not_le.mpr hbl
  intro H locs hP1 hP2 hD1 hD2 hS ls hl
  obtain ⟨r, st1, mt1, e1, e2, hs1⟩ := hsm j st mt (xs (x3 + (1 : Int32)).toNatClampNeg) (xs (x3 + (2 : Int32)).toNatClampNeg) (xs (x3 + (3 : Int32)).toNatClampNeg) (xs (x3 + (4 : Int32)).toNatClampNeg) hj hs
  refine lv_aload_n hx hb kd_L_law_188 rfl (lv_at hl 1 rfl) ?_
  refine lv_aload_n hx hb kd_L_law_189 rfl (lv_at hl 0 rfl) ?_
  refine lv_iload_n hx hb kd_L_law_190 rfl (lv_at hl 3 rfl) ?_
  refine lv_iconst (v := 1) hx hb kd_L_law_191 (by decide) ?_
  refine lv_iadd hx hb kd_L_law_192 ?_
  refine va_sld hx hb hX hbl hbA hS (hi 1 (by decide)) kd_L_law_193 ?_
  refine lv_aload_n hx hb kd_L_law_194 rfl (lv_at hl 0 rfl) ?_
  refine lv_iload_n hx hb kd_L_law_195 rfl (lv_at hl 3 rfl) ?_
  refine lv_iconst (v := 2) hx hb kd_L_law_196 (by decide) ?_
  refine lv_iadd hx hb kd_L_law_197 ?_
  refine va_sld hx hb hX hbl hbA hS (hi 2 (by decide)) kd_L_law_198 ?_
  refine lv_aload_n hx hb kd_L_law_199 rfl (lv_at hl 0 rfl) ?_
  refine lv_iload_n hx hb kd_L_law_200 rfl (lv_at hl 3 rfl) ?_
  refine lv_iconst (v := 3) hx hb kd_L_law_201 (by decide) ?_
  refine lv_iadd hx hb kd_L_law_202 ?_
  refine va_sld hx hb hX hbl hbA hS (hi 3 (by decide)) kd_L_law_203 ?_
  refine lv_aload_n hx hb kd_L_law_204 rfl (lv_at hl 0 rfl) ?_
  refine lv_iload_n hx hb kd_L_law_205 rfl (lv_at hl 3 rfl) ?_
  refine lv_iconst (v := 4) hx hb kd_L_law_206 (by decide) ?_
  refine lv_iadd hx hb kd_L_law_207 ?_
  refine va_sld hx hb hX hbl hbA hS (hi 4 (by decide)) kd_L_law_208 ?_
  refine fb_callV2 (wx := wX dA a) (w2 := wM dB a2 mt) (As := [.int (xs (x3 + (1 : Int32)).toNatClampNeg), .int (xs (x3 + (2 : Int32)).toNatClampNeg), .int (xs (x3 + (3 : Int32)).toNatClampNeg), .int (xs (x3 + (4 : Int32)).toNatClampNeg)]) (rest := []) ⟨hx, hb, hml, hown, hts⟩ zX_mv hZ hK1 hP1 hD1 hS hA hP2 hap (c_T_create l dC dI dA a z (xs (x3 + (1 : Int32)).toNatClampNeg) (xs (x3 + (2 : Int32)).toNatClampNeg) (xs (x3 + (3 : Int32)).toNatClampNeg) (xs (x3 + (4 : Int32)).toNatClampNeg) st (r, st1) e1) (cwV 4 hts (gd_V q_276 ko_T_create) rfl rfl rfl kh_T_create ⟨Nat.le_of_ble_eq_true rfl, Nat.le_of_ble_eq_true rfl⟩) 4 0 rfl rfl rfl rfl hl.1 rfl (Nat.le_of_ble_eq_true rfl) kd_L_law_209 ⟨Nat.le_of_ble_eq_true rfl, Nat.le_of_ble_eq_true rfl⟩ (fun H locs hP1 hD1 hS hP2 => ?_)
  refine W.eq (g2 := F0 m 212 ls [.int r]) rfl ?_
  refine lv_aload_n hx hb kd_L_law_212 rfl (lv_at hl 2 rfl) ?_
  refine lv_aload_n hx hb kd_L_law_213 rfl (lv_at hl 0 rfl) ?_
  refine lv_iload_n hx hb kd_L_law_214 rfl (lv_at hl 3 rfl) ?_
  refine lv_iconst (v := 1) hx hb kd_L_law_215 (by decide) ?_
  refine lv_iadd hx hb kd_L_law_216 ?_
  refine va_sld hx hb hX hbl hbA hS (hi 1 (by decide)) kd_L_law_217 ?_
  refine lv_aload_n hx hb kd_L_law_218 rfl (lv_at hl 0 rfl) ?_
  refine lv_iload_n hx hb kd_L_law_219 rfl (lv_at hl 3 rfl) ?_
  refine lv_iconst (v := 2) hx hb kd_L_law_220 (by decide) ?_
  refine lv_iadd hx hb kd_L_law_221 ?_
  refine va_sld hx hb hX hbl hbA hS (hi 2 (by decide)) kd_L_law_222 ?_
  refine lv_aload_n hx hb kd_L_law_223 rfl (lv_at hl 0 rfl) ?_
  refine lv_iload_n hx hb kd_L_law_224 rfl (lv_at hl 3 rfl) ?_
  refine lv_iconst (v := 3) hx hb kd_L_law_225 (by decide) ?_
  refine lv_iadd hx hb kd_L_law_226 ?_
  refine va_sld hx hb hX hbl hbA hS (hi 3 (by decide)) kd_L_law_227 ?_
  refine lv_aload_n hx hb kd_L_law_228 rfl (lv_at hl 0 rfl) ?_
  refine lv_iload_n hx hb kd_L_law_229 rfl (lv_at hl 3 rfl) ?_
  refine lv_iconst (v := 4) hx hb kd_L_law_230 (by decide) ?_
  refine lv_iadd hx hb kd_L_law_231 ?_
  refine va_sld hx hb hX hbl hbA hS (hi 4 (by decide)) kd_L_law_232 ?_
  refine fb_callV2 (wx := wM dB a2) (w2 := wX dA a st1) (As := [.int (xs (x3 + (1 : Int32)).toNatClampNeg), .int (xs (x3 + (2 : Int32)).toNatClampNeg), .int (xs (x3 + (3 : Int32)).toNatClampNeg), .int (xs (x3 + (4 : Int32)).toNatClampNeg)]) (rest := [.int r]) ⟨hx, hb, hml, hown, hts⟩ zM_mv trivial hK2 hP2 hD2 hS hA hP1 hap.sw (c_M_create l dC dI dB a2 (xs (x3 + (1 : Int32)).toNatClampNeg) (xs (x3 + (2 : Int32)).toNatClampNeg) (xs (x3 + (3 : Int32)).toNatClampNeg) (xs (x3 + (4 : Int32)).toNatClampNeg) mt (r, mt1) e2) (cwV 4 hts (gd_V q_573 ko_M_create) rfl rfl rfl kh_M_create ⟨Nat.le_of_ble_eq_true rfl, Nat.le_of_ble_eq_true rfl⟩) 5 0 rfl rfl rfl rfl hl.1 rfl (Nat.le_of_ble_eq_true rfl) kd_L_law_233 ⟨Nat.le_of_ble_eq_true rfl, Nat.le_of_ble_eq_true rfl⟩ (fun H locs hP2 hD2 hS hP1 => ?_)
  refine W.eq (g2 := F0 m 236 ls [.int r, .int r]) rfl ?_
  refine lv_icmp_eq (tgt := 600) hx hb kd_L_law_236 (by decide) (fun _ => ?_) (fun cc => absurd rfl cc)
  exact hk st1 mt1 hs1 H locs hP1 hP2 hD1 hD2 hS ls hl
set_option maxHeartbeats 4000000 in
set_option maxRecDepth 100000 in
theorem lc_link {p : Program} {l : Launch} {e : Env} {s : State} {m : MethodId} {below : List Frame} {meth : Method} {c : Code} {dC : Nat → ClassId} {dI : Nat → Nat → Nat} {dA dB : Nat → ClassId} {a a2 z : Nat → Nat} {b L : Nat} {xs : Nat → Int32} (CX : lg_C p s m meth c dC dI dA dB a a2 z b L xs) {sim : Nat → fb_S → fb_S → Prop} (hsm : sm_link sim) {j : Nat} (hj : j < 512) (x3 : Int32) (hi : ∀ k : Nat, k < 5 → vp_in (x3 + nI k) L) (st mt : fb_S) (hs : sim j st mt) (hk : ∀ st1 mt1 : fb_S, sim (j + 1) st1 mt1 → lg_G p l e s m below meth c dC dI dA dB a a2 b 600 x3 st1 mt1) : lg_G p l e s m below meth c dC dI dA dB a a2 b 241 x3 st mt := by
  obtain ⟨hx, hb, hr, hml, hown, hts, hX, hbl, hlocks, hK1, hK2, hZ, hap⟩ := id CX
  have hA : ∀ q : Nat, s.heap.size ≤ q → aX s q := fun _ h => h
  have hbA : ¬ aX s b := Nat.not_le.mpr hbl
  intro H locs hP1 hP2 hD1 hD2 hS ls hl
  obtain ⟨r, st1, mt1, e1, e2, hs1⟩ := hsm j st mt (xs (x3 + (1 : Int32)).toNatClampNeg) hj hs
  refine lv_aload_n hx hb kd_L_law_241 rfl (lv_at hl 1 rfl) ?_
  refine lv_aload_n hx hb kd_L_law_242 rfl (lv_at hl 0 rfl) ?_
  refine lv_iload_n hx hb kd_L_law_243 rfl (lv_at hl 3 rfl) ?_
  refine lv_iconst (v := 1) hx hb kd_L_law_244 (by decide) ?_
  refine lv_iadd hx hb kd_L_law_245 ?_
  refine va_sld hx hb hX hbl hbA hS (hi 1 (by decide)) kd_L_law_246 ?_
  refine fb_callV2 (wx := wX dA a) (w2 := wM dB a2 mt) (As := [.int (xs (x3 + (1 : Int32)).toNatClampNeg)]) (rest := []) ⟨hx, hb, hml, hown, hts⟩ zX_mv hZ hK1 hP1 hD1 hS hA hP2 hap (c_T_link l dC dI dA a z (xs (x3 + (1 : Int32)).toNatClampNeg) st (r, st1) e1) (cwV 1 hts (gd_V q_302 ko_T_link) rfl rfl rfl kh_T_link ⟨Nat.le_of_ble_eq_true rfl, Nat.le_of_ble_eq_true rfl⟩) 4 0 rfl rfl rfl rfl hl.1 rfl (Nat.le_of_ble_eq_true rfl) kd_L_law_247 ⟨Nat.le_of_ble_eq_true rfl, Nat.le_of_ble_eq_true rfl⟩ (fun H locs hP1 hD1 hS hP2 => ?_)
  refine W.eq (g2 := F0 m 250 ls [.int r]) rfl ?_
  refine lv_aload_n hx hb kd_L_law_250 rfl (lv_at hl 2 rfl) ?_
  refine lv_aload_n hx hb kd_L_law_251 rfl (lv_at hl 0 rfl) ?_
  refine lv_iload_n hx hb kd_L_law_252 rfl (lv_at hl 3 rfl) ?_
  refine lv_iconst (v := 1) hx hb kd_L_law_253 (by decide) ?_
  refine lv_iadd hx hb kd_L_law_254 ?_
  refine va_sld hx hb hX hbl hbA hS (hi 1 (by decide)) kd_L_law_255 ?_
  refine fb_callV2 (wx := wM dB a2) (w2 := wX dA a st1) (As := [.int (xs (x3 + (1 : Int32)).toNatClampNeg)]) (rest := [.int r]) ⟨hx, hb, hml, hown, hts⟩ zM_mv trivial hK2 hP2 hD2 hS hA hP1 hap.sw (c_M_link l dC dI dB a2 (xs (x3 + (1 : Int32)).toNatClampNeg) mt (r, mt1) e2) (cwV 1 hts (gd_V q_607 ko_M_link) rfl rfl rfl kh_M_link ⟨Nat.le_of_ble_eq_true rfl, Nat.le_of_ble_eq_true rfl⟩) 5 0 rfl rfl rfl rfl hl.1 rfl (Nat.le_of_ble_eq_true rfl) kd_L_law_256 ⟨Nat.le_of_ble_eq_true rfl, Nat.le_of_ble_eq_true rfl⟩ (fun H locs hP2 hD2 hS hP1 => ?_)
  refine W.eq (g2 := F0 m 259 ls [.int r, .int r]) rfl ?_
  refine lv_icmp_eq (tgt := 600) hx hb kd_L_law_259 (by decide) (fun _ => ?_) (fun cc => absurd rfl cc)
  exact hk st1 mt1 hs1 H locs hP1 hP2 hD1 hD2 hS ls hl
set_option maxHeartbeats 4000000 in
set_option maxRecDepth 100000 in
theorem lc_unlink {p : Program} {l : Launch} {e : Env} {s : State} {m : MethodId} {below : List Frame} {meth : Method} {c : Code} {dC : Nat → ClassId} {dI : Nat → Nat → Nat} {dA dB : Nat → ClassId} {a a2 z : Nat → Nat} {b L : Nat} {xs : Nat → Int32} (CX : lg_C p s m meth c dC dI dA dB a a2 z b L xs) {sim : Nat → fb_S → fb_S → Prop} (hsm : sm_unlink sim) {j : Nat} (hj : j < 512) (x3 : Int32) (hi : ∀ k : Nat, k < 5 → vp_in (x3 + nI k) L) (st mt : fb_S) (hs : sim j st mt) (hk : ∀ st1 mt1 : fb_S, sim (j + 1) st1 mt1 → lg_G p l e s m below meth c dC dI dA dB a a2 b 600 x3 st1 mt1) : lg_G p l e s m below meth c dC dI dA dB a a2 b 264 x3 st mt := by
  obtain ⟨hx, hb, hr, hml, hown, hts, hX, hbl, hlocks, hK1, hK2, hZ, hap⟩ := id CX
  have hA : ∀ q : Nat, s.heap.size ≤ q → aX s q := fun _ h => h
  have hbA : ¬ aX s b := Nat.not_le.mpr hbl
  intro H locs hP1 hP2 hD1 hD2 hS ls hl
  obtain ⟨r, st1, mt1, e1, e2, hs1⟩ := hsm j st mt (xs (x3 + (1 : Int32)).toNatClampNeg) hj hs
  refine lv_aload_n hx hb kd_L_law_264 rfl (lv_at hl 1 rfl) ?_
  refine lv_aload_n hx hb kd_L_law_265 rfl (lv_at hl 0 rfl) ?_
  refine lv_iload_n hx hb kd_L_law_266 rfl (lv_at hl 3 rfl) ?_
  refine lv_iconst (v := 1) hx hb kd_L_law_267 (by decide) ?_
  refine lv_iadd hx hb kd_L_law_268 ?_
  refine va_sld hx hb hX hbl hbA hS (hi 1 (by decide)) kd_L_law_269 ?_
  refine fb_callV2 (wx := wX dA a) (w2 := wM dB a2 mt) (As := [.int (xs (x3 + (1 : Int32)).toNatClampNeg)]) (rest := []) ⟨hx, hb, hml, hown, hts⟩ zX_mv hZ hK1 hP1 hD1 hS hA hP2 hap (c_T_unlink l dC dI dA a z (xs (x3 + (1 : Int32)).toNatClampNeg) st (r, st1) e1) (cwV 1 hts (gd_V q_312 ko_T_unlink) rfl rfl rfl kh_T_unlink ⟨Nat.le_of_ble_eq_true rfl, Nat.le_of_ble_eq_true rfl⟩) 4 0 rfl rfl rfl rfl hl.1 rfl (Nat.le_of_ble_eq_true rfl) kd_L_law_270 ⟨Nat.le_of_ble_eq_true rfl, Nat.le_of_ble_eq_true rfl⟩ (fun H locs hP1 hD1 hS hP2 => ?_)
  refine W.eq (g2 := F0 m 273 ls [.int r]) rfl ?_
  refine lv_aload_n hx hb kd_L_law_273 rfl (lv_at hl 2 rfl) ?_
  refine lv_aload_n hx hb kd_L_law_274 rfl (lv_at hl 0 rfl) ?_
  refine lv_iload_n hx hb kd_L_law_275 rfl (lv_at hl 3 rfl) ?_
  refine lv_iconst (v := 1) hx hb kd_L_law_276 (by decide) ?_
  refine lv_iadd hx hb kd_L_law_277 ?_
  refine va_sld hx hb hX hbl hbA hS (hi 1 (by decide)) kd_L_law_278 ?_
  refine fb_callV2 (wx := wM dB a2) (w2 := wX dA a st1) (As := [.int (xs (x3 + (1 : Int32)).toNatClampNeg)]) (rest := [.int r]) ⟨hx, hb, hml, hown, hts⟩ zM_mv trivial hK2 hP2 hD2 hS hA hP1 hap.sw (c_M_unlink l dC dI dB a2 (xs (x3 + (1 : Int32)).toNatClampNeg) mt (r, mt1) e2) (cwV 1 hts (gd_V q_611 ko_M_unlink) rfl rfl rfl kh_M_unlink ⟨Nat.le_of_ble_eq_true rfl, Nat.le_of_ble_eq_true rfl⟩) 5 0 rfl rfl rfl rfl hl.1 rfl (Nat.le_of_ble_eq_true rfl) kd_L_law_279 ⟨Nat.le_of_ble_eq_true rfl, Nat.le_of_ble_eq_true rfl⟩ (fun H locs hP2 hD2 hS hP1 => ?_)
  refine W.eq (g2 := F0 m 282 ls [.int r, .int r]) rfl ?_
  refine lv_icmp_eq (tgt := 600) hx hb kd_L_law_282 (by decide) (fun _ => ?_) (fun cc => absurd rfl cc)
  exact hk st1 mt1 hs1 H locs hP1 hP2 hD1 hD2 hS ls hl
set_option maxHeartbeats 4000000 in
set_option maxRecDepth 100000 in
theorem lc_hold {p : Program} {l : Launch} {e : Env} {s : State} {m : MethodId} {below : List Frame} {meth : Method} {c : Code} {dC : Nat → ClassId} {dI : Nat → Nat → Nat} {dA dB : Nat → ClassId} {a a2 z : Nat → Nat} {b L : Nat} {xs : Nat → Int32} (CX : lg_C p s m meth c dC dI dA dB a a2 z b L xs) {sim : Nat → fb_S → fb_S → Prop} (hsm : sm_hold sim) {j : Nat} (hj : j < 512) (x3 : Int32) (hi : ∀ k : Nat, k < 5 → vp_in (x3 + nI k) L) (st mt : fb_S) (hs : sim j st mt) (hk : ∀ st1 mt1 : fb_S, sim (j + 1) st1 mt1 → lg_G p l e s m below meth c dC dI dA dB a a2 b 600 x3 st1 mt1) : lg_G p l e s m below meth c dC dI dA dB a a2 b 287 x3 st mt := by
  obtain ⟨hx, hb, hr, hml, hown, hts, hX, hbl, hlocks, hK1, hK2, hZ, hap⟩ := id CX
  have hA : ∀ q : Nat, s.heap.size ≤ q → aX s q := fun _ h => h
  have hbA : ¬ aX s b := Nat.not_le.mpr hbl
  intro H locs hP1 hP2 hD1 hD2 hS ls hl
  obtain ⟨r, st1, mt1, e1, e2, hs1⟩ := hsm j st mt (xs (x3 + (1 : Int32)).toNatClampNeg) hj hs
  refine lv_aload_n hx hb kd_L_law_287 rfl (lv_at hl 1 rfl) ?_
  refine lv_aload_n hx hb kd_L_law_288 rfl (lv_at hl 0 rfl) ?_
  refine lv_iload_n hx hb kd_L_law_289 rfl (lv_at hl 3 rfl) ?_
  refine lv_iconst (v := 1) hx hb kd_L_law_290 (by decide) ?_
  refine lv_iadd hx hb kd_L_law_291 ?_
  refine va_sld hx hb hX hbl hbA hS (hi 1 (by decide)) kd_L_law_292 ?_
  refine fb_callV2 (wx := wX dA a) (w2 := wM dB a2 mt) (As := [.int (xs (x3 + (1 : Int32)).toNatClampNeg)]) (rest := []) ⟨hx, hb, hml, hown, hts⟩ zX_mv hZ hK1 hP1 hD1 hS hA hP2 hap (c_T_hold l dC dI dA a z (xs (x3 + (1 : Int32)).toNatClampNeg) st (r, st1) e1) (cwV 1 hts (gd_V q_351 ko_T_hold) rfl rfl rfl kh_T_hold ⟨Nat.le_of_ble_eq_true rfl, Nat.le_of_ble_eq_true rfl⟩) 4 0 rfl rfl rfl rfl hl.1 rfl (Nat.le_of_ble_eq_true rfl) kd_L_law_293 ⟨Nat.le_of_ble_eq_true rfl, Nat.le_of_ble_eq_true rfl⟩ (fun H locs hP1 hD1 hS hP2 => ?_)
  refine W.eq (g2 := F0 m 296 ls [.int r]) rfl ?_
  refine lv_aload_n hx hb kd_L_law_296 rfl (lv_at hl 2 rfl) ?_
  refine lv_aload_n hx hb kd_L_law_297 rfl (lv_at hl 0 rfl) ?_
  refine lv_iload_n hx hb kd_L_law_298 rfl (lv_at hl 3 rfl) ?_
  refine lv_iconst (v := 1) hx hb kd_L_law_299 (by decide) ?_
  refine lv_iadd hx hb kd_L_law_300 ?_
  refine va_sld hx hb hX hbl hbA hS (hi 1 (by decide)) kd_L_law_301 ?_
  refine fb_callV2 (wx := wM dB a2) (w2 := wX dA a st1) (As := [.int (xs (x3 + (1 : Int32)).toNatClampNeg)]) (rest := [.int r]) ⟨hx, hb, hml, hown, hts⟩ zM_mv trivial hK2 hP2 hD2 hS hA hP1 hap.sw (c_M_hold l dC dI dB a2 (xs (x3 + (1 : Int32)).toNatClampNeg) mt (r, mt1) e2) (cwV 1 hts (gd_V q_635 ko_M_hold) rfl rfl rfl kh_M_hold ⟨Nat.le_of_ble_eq_true rfl, Nat.le_of_ble_eq_true rfl⟩) 5 0 rfl rfl rfl rfl hl.1 rfl (Nat.le_of_ble_eq_true rfl) kd_L_law_302 ⟨Nat.le_of_ble_eq_true rfl, Nat.le_of_ble_eq_true rfl⟩ (fun H locs hP2 hD2 hS hP1 => ?_)
  refine W.eq (g2 := F0 m 305 ls [.int r, .int r]) rfl ?_
  refine lv_icmp_eq (tgt := 600) hx hb kd_L_law_305 (by decide) (fun _ => ?_) (fun cc => absurd rfl cc)
  exact hk st1 mt1 hs1 H locs hP1 hP2 hD1 hD2 hS ls hl
set_option maxHeartbeats 4000000 in
set_option maxRecDepth 100000 in
theorem lc_leave {p : Program} {l : Launch} {e : Env} {s : State} {m : MethodId} {below : List Frame} {meth : Method} {c : Code} {dC : Nat → ClassId} {dI : Nat → Nat → Nat} {dA dB : Nat → ClassId} {a a2 z : Nat → Nat} {b L : Nat} {xs : Nat → Int32} (CX : lg_C p s m meth c dC dI dA dB a a2 z b L xs) {sim : Nat → fb_S → fb_S → Prop} (hsm : sm_leave sim) {j : Nat} (hj : j < 512) (x3 : Int32) (hi : ∀ k : Nat, k < 5 → vp_in (x3 + nI k) L) (st mt : fb_S) (hs : sim j st mt) (hk : ∀ st1 mt1 : fb_S, sim (j + 1) st1 mt1 → lg_G p l e s m below meth c dC dI dA dB a a2 b 600 x3 st1 mt1) : lg_G p l e s m below meth c dC dI dA dB a a2 b 310 x3 st mt := by
  obtain ⟨hx, hb, hr, hml, hown, hts, hX, hbl, hlocks, hK1, hK2, hZ, hap⟩ := id CX
  have hA : ∀ q : Nat, s.heap.size ≤ q → aX s q := fun _ h => h
  have hbA : ¬ aX s b := Nat.not_le.mpr hbl
  intro H locs hP1 hP2 hD1 hD2 hS ls hl
  obtain ⟨r, st1, mt1, e1, e2, hs1⟩ := hsm j st mt (xs (x3 + (1 : Int32)).toNatClampNeg) hj hs
  refine lv_aload_n hx hb kd_L_law_310 rfl (lv_at hl 1 rfl) ?_
  refine lv_aload_n hx hb kd_L_law_311 rfl (lv_at hl 0 rfl) ?_
  refine lv_iload_n hx hb kd_L_law_312 rfl (lv_at hl 3 rfl) ?_
  refine lv_iconst (v := 1) hx hb kd_L_law_313 (by decide) ?_
  refine lv_iadd hx hb kd_L_law_314 ?_
  refine va_sld hx hb hX hbl hbA hS (hi 1 (by decide)) kd_L_law_315 ?_
  refine fb_callV2 (wx := wX dA a) (w2 := wM dB a2 mt) (As := [.int (xs (x3 + (1 : Int32)).toNatClampNeg)]) (rest := []) ⟨hx, hb, hml, hown, hts⟩ zX_mv hZ hK1 hP1 hD1 hS hA hP2 hap (c_T_leave l dC dI dA a z (xs (x3 + (1 : Int32)).toNatClampNeg) st (r, st1) e1) (cwV 1 hts (gd_V q_359 ko_T_leave) rfl rfl rfl kh_T_leave ⟨Nat.le_of_ble_eq_true rfl, Nat.le_of_ble_eq_true rfl⟩) 4 0 rfl rfl rfl rfl hl.1 rfl (Nat.le_of_ble_eq_true rfl) kd_L_law_316 ⟨Nat.le_of_ble_eq_true rfl, Nat.le_of_ble_eq_true rfl⟩ (fun H locs hP1 hD1 hS hP2 => ?_)
  refine W.eq (g2 := F0 m 319 ls [.int r]) rfl ?_
  refine lv_aload_n hx hb kd_L_law_319 rfl (lv_at hl 2 rfl) ?_
  refine lv_aload_n hx hb kd_L_law_320 rfl (lv_at hl 0 rfl) ?_
  refine lv_iload_n hx hb kd_L_law_321 rfl (lv_at hl 3 rfl) ?_
  refine lv_iconst (v := 1) hx hb kd_L_law_322 (by decide) ?_
  refine lv_iadd hx hb kd_L_law_323 ?_
  refine va_sld hx hb hX hbl hbA hS (hi 1 (by decide)) kd_L_law_324 ?_
  refine fb_callV2 (wx := wM dB a2) (w2 := wX dA a st1) (As := [.int (xs (x3 + (1 : Int32)).toNatClampNeg)]) (rest := [.int r]) ⟨hx, hb, hml, hown, hts⟩ zM_mv trivial hK2 hP2 hD2 hS hA hP1 hap.sw (c_M_leave l dC dI dB a2 (xs (x3 + (1 : Int32)).toNatClampNeg) mt (r, mt1) e2) (cwV 1 hts (gd_V q_639 ko_M_leave) rfl rfl rfl kh_M_leave ⟨Nat.le_of_ble_eq_true rfl, Nat.le_of_ble_eq_true rfl⟩) 5 0 rfl rfl rfl rfl hl.1 rfl (Nat.le_of_ble_eq_true rfl) kd_L_law_325 ⟨Nat.le_of_ble_eq_true rfl, Nat.le_of_ble_eq_true rfl⟩ (fun H locs hP2 hD2 hS hP1 => ?_)
  refine W.eq (g2 := F0 m 328 ls [.int r, .int r]) rfl ?_
  refine lv_icmp_eq (tgt := 600) hx hb kd_L_law_328 (by decide) (fun _ => ?_) (fun cc => absurd rfl cc)
  exact hk st1 mt1 hs1 H locs hP1 hP2 hD1 hD2 hS ls hl
set_option maxHeartbeats 4000000 in
set_option maxRecDepth 100000 in
theorem lc_read {p : Program} {l : Launch} {e : Env} {s : State} {m : MethodId} {below : List Frame} {meth : Method} {c : Code} {dC : Nat → ClassId} {dI : Nat → Nat → Nat} {dA dB : Nat → ClassId} {a a2 z : Nat → Nat} {b L : Nat} {xs : Nat → Int32} (CX : lg_C p s m meth c dC dI dA dB a a2 z b L xs) {sim : Nat → fb_S → fb_S → Prop} (hsm : sm_read sim) {j : Nat} (hj : j < 512) (x3 : Int32) (hi : ∀ k : Nat, k < 5 → vp_in (x3 + nI k) L) (st mt : fb_S) (hs : sim j st mt) (hk : ∀ st1 mt1 : fb_S, sim (j + 1) st1 mt1 → lg_G p l e s m below meth c dC dI dA dB a a2 b 600 x3 st1 mt1) : lg_G p l e s m below meth c dC dI dA dB a a2 b 333 x3 st mt := by
  obtain ⟨hx, hb, hr, hml, hown, hts, hX, hbl, hlocks, hK1, hK2, hZ, hap⟩ := id CX
  have hA : ∀ q : Nat, s.heap.size ≤ q → aX s q := fun _ h => h
  have hbA : ¬ aX s b := Nat.not_le.mpr hbl
  intro H locs hP1 hP2 hD1 hD2 hS ls hl
  obtain ⟨r, st1, mt1, e1, e2, hs1⟩ := hsm j st mt (xs (x3 + (1 : Int32)).toNatClampNeg) (xs (x3 + (2 : Int32)).toNatClampNeg) (xs (x3 + (3 : Int32)).toNatClampNeg) hj hs
  refine lv_aload_n hx hb kd_L_law_333 rfl (lv_at hl 1 rfl) ?_
  refine lv_aload_n hx hb kd_L_law_334 rfl (lv_at hl 0 rfl) ?_
  refine lv_iload_n hx hb kd_L_law_335 rfl (lv_at hl 3 rfl) ?_
  refine lv_iconst (v := 1) hx hb kd_L_law_336 (by decide) ?_
  refine lv_iadd hx hb kd_L_law_337 ?_
  refine va_sld hx hb hX hbl hbA hS (hi 1 (by decide)) kd_L_law_338 ?_
  refine lv_aload_n hx hb kd_L_law_339 rfl (lv_at hl 0 rfl) ?_
  refine lv_iload_n hx hb kd_L_law_340 rfl (lv_at hl 3 rfl) ?_
  refine lv_iconst (v := 2) hx hb kd_L_law_341 (by decide) ?_
  refine lv_iadd hx hb kd_L_law_342 ?_
  refine va_sld hx hb hX hbl hbA hS (hi 2 (by decide)) kd_L_law_343 ?_
  refine lv_aload_n hx hb kd_L_law_344 rfl (lv_at hl 0 rfl) ?_
  refine lv_iload_n hx hb kd_L_law_345 rfl (lv_at hl 3 rfl) ?_
  refine lv_iconst (v := 3) hx hb kd_L_law_346 (by decide) ?_
  refine lv_iadd hx hb kd_L_law_347 ?_
  refine va_sld hx hb hX hbl hbA hS (hi 3 (by decide)) kd_L_law_348 ?_
  refine fb_callV2 (wx := wX dA a) (w2 := wM dB a2 mt) (As := [.int (xs (x3 + (1 : Int32)).toNatClampNeg), .int (xs (x3 + (2 : Int32)).toNatClampNeg), .int (xs (x3 + (3 : Int32)).toNatClampNeg)]) (rest := []) ⟨hx, hb, hml, hown, hts⟩ zX_mv hZ hK1 hP1 hD1 hS hA hP2 hap (c_T_read l dC dI dA a z (xs (x3 + (1 : Int32)).toNatClampNeg) (xs (x3 + (2 : Int32)).toNatClampNeg) (xs (x3 + (3 : Int32)).toNatClampNeg) st (r, st1) e1) (cwV 3 hts (gd_V q_364 ko_T_read) rfl rfl rfl kh_T_read ⟨Nat.le_of_ble_eq_true rfl, Nat.le_of_ble_eq_true rfl⟩) 4 0 rfl rfl rfl rfl hl.1 rfl (Nat.le_of_ble_eq_true rfl) kd_L_law_349 ⟨Nat.le_of_ble_eq_true rfl, Nat.le_of_ble_eq_true rfl⟩ (fun H locs hP1 hD1 hS hP2 => ?_)
  refine W.eq (g2 := F0 m 352 ls [.int r]) rfl ?_
  refine lv_aload_n hx hb kd_L_law_352 rfl (lv_at hl 2 rfl) ?_
  refine lv_aload_n hx hb kd_L_law_353 rfl (lv_at hl 0 rfl) ?_
  refine lv_iload_n hx hb kd_L_law_354 rfl (lv_at hl 3 rfl) ?_
  refine lv_iconst (v := 1) hx hb kd_L_law_355 (by decide) ?_
  refine lv_iadd hx hb kd_L_law_356 ?_
  refine va_sld hx hb hX hbl hbA hS (hi 1 (by decide)) kd_L_law_357 ?_
  refine lv_aload_n hx hb kd_L_law_358 rfl (lv_at hl 0 rfl) ?_
  refine lv_iload_n hx hb kd_L_law_359 rfl (lv_at hl 3 rfl) ?_
  refine lv_iconst (v := 2) hx hb kd_L_law_360 (by decide) ?_
  refine lv_iadd hx hb kd_L_law_361 ?_
  refine va_sld hx hb hX hbl hbA hS (hi 2 (by decide)) kd_L_law_362 ?_
  refine lv_aload_n hx hb kd_L_law_363 rfl (lv_at hl 0 rfl) ?_
  refine lv_iload_n hx hb kd_L_law_364 rfl (lv_at hl 3 rfl) ?_
  refine lv_iconst (v := 3) hx hb kd_L_law_365 (by decide) ?_
  refine lv_iadd hx hb kd_L_law_366 ?_
  refine va_sld hx hb hX hbl hbA hS (hi 3 (by decide)) kd_L_law_367 ?_
  refine fb_callV2 (wx := wM dB a2) (w2 := wX dA a st1) (As := [.int (xs (x3 + (1 : Int32)).toNatClampNeg), .int (xs (x3 + (2 : Int32)).toNatClampNeg), .int (xs (x3 + (3 : Int32)).toNatClampNeg)]) (rest := [.int r]) ⟨hx, hb, hml, hown, hts⟩ zM_mv trivial hK2 hP2 hD2 hS hA hP1 hap.sw (c_M_read l dC dI dB a2 (xs (x3 + (1 : Int32)).toNatClampNeg) (xs (x3 + (2 : Int32)).toNatClampNeg) (xs (x3 + (3 : Int32)).toNatClampNeg) mt (r, mt1) e2) (cwV 3 hts (gd_V q_643 ko_M_read) rfl rfl rfl kh_M_read ⟨Nat.le_of_ble_eq_true rfl, Nat.le_of_ble_eq_true rfl⟩) 5 0 rfl rfl rfl rfl hl.1 rfl (Nat.le_of_ble_eq_true rfl) kd_L_law_368 ⟨Nat.le_of_ble_eq_true rfl, Nat.le_of_ble_eq_true rfl⟩ (fun H locs hP2 hD2 hS hP1 => ?_)
  refine W.eq (g2 := F0 m 371 ls [.int r, .int r]) rfl ?_
  refine lv_icmp_eq (tgt := 600) hx hb kd_L_law_371 (by decide) (fun _ => ?_) (fun cc => absurd rfl cc)
  exact hk st1 mt1 hs1 H locs hP1 hP2 hD1 hD2 hS ls hl
set_option maxHeartbeats 4000000 in
set_option maxRecDepth 100000 in
theorem lc_save {p : Program} {l : Launch} {e : Env} {s : State} {m : MethodId} {below : List Frame} {meth : Method} {c : Code} {dC : Nat → ClassId} {dI : Nat → Nat → Nat} {dA dB : Nat → ClassId} {a a2 z : Nat → Nat} {b L : Nat} {xs : Nat → Int32} (CX : lg_C p s m meth c dC dI dA dB a a2 z b L xs) {sim : Nat → fb_S → fb_S → Prop} (hsm : sm_save sim) {j : Nat} (hj : j < 512) (x3 : Int32) (hi : ∀ k : Nat, k < 5 → vp_in (x3 + nI k) L) (st mt : fb_S) (hs : sim j st mt) (hk : ∀ st1 mt1 : fb_S, sim (j + 1) st1 mt1 → lg_G p l e s m below meth c dC dI dA dB a a2 b 600 x3 st1 mt1) : lg_G p l e s m below meth c dC dI dA dB a a2 b 376 x3 st mt := by
  obtain ⟨hx, hb, hr, hml, hown, hts, hX, hbl, hlocks, hK1, hK2, hZ, hap⟩ := id CX
  have hA : ∀ q : Nat, s.heap.size ≤ q → aX s q := fun _ h => h
  have hbA : ¬ aX s b := Nat.not_le.mpr hbl
  intro H locs hP1 hP2 hD1 hD2 hS ls hl
  obtain ⟨r, st1, mt1, e1, e2, hs1⟩ := hsm j st mt (xs (x3 + (1 : Int32)).toNatClampNeg) (xs (x3 + (2 : Int32)).toNatClampNeg) (xs (x3 + (3 : Int32)).toNatClampNeg) hj hs
  refine lv_aload_n hx hb kd_L_law_376 rfl (lv_at hl 1 rfl) ?_
  refine lv_aload_n hx hb kd_L_law_377 rfl (lv_at hl 0 rfl) ?_
  refine lv_iload_n hx hb kd_L_law_378 rfl (lv_at hl 3 rfl) ?_
  refine lv_iconst (v := 1) hx hb kd_L_law_379 (by decide) ?_
  refine lv_iadd hx hb kd_L_law_380 ?_
  refine va_sld hx hb hX hbl hbA hS (hi 1 (by decide)) kd_L_law_381 ?_
  refine lv_aload_n hx hb kd_L_law_382 rfl (lv_at hl 0 rfl) ?_
  refine lv_iload_n hx hb kd_L_law_383 rfl (lv_at hl 3 rfl) ?_
  refine lv_iconst (v := 2) hx hb kd_L_law_384 (by decide) ?_
  refine lv_iadd hx hb kd_L_law_385 ?_
  refine va_sld hx hb hX hbl hbA hS (hi 2 (by decide)) kd_L_law_386 ?_
  refine lv_aload_n hx hb kd_L_law_387 rfl (lv_at hl 0 rfl) ?_
  refine lv_iload_n hx hb kd_L_law_388 rfl (lv_at hl 3 rfl) ?_
  refine lv_iconst (v := 3) hx hb kd_L_law_389 (by decide) ?_
  refine lv_iadd hx hb kd_L_law_390 ?_
  refine va_sld hx hb hX hbl hbA hS (hi 3 (by decide)) kd_L_law_391 ?_
  refine fb_callV2 (wx := wX dA a) (w2 := wM dB a2 mt) (As := [.int (xs (x3 + (1 : Int32)).toNatClampNeg), .int (xs (x3 + (2 : Int32)).toNatClampNeg), .int (xs (x3 + (3 : Int32)).toNatClampNeg)]) (rest := []) ⟨hx, hb, hml, hown, hts⟩ zX_mv hZ hK1 hP1 hD1 hS hA hP2 hap (c_T_save l dC dI dA a z (xs (x3 + (1 : Int32)).toNatClampNeg) (xs (x3 + (2 : Int32)).toNatClampNeg) (xs (x3 + (3 : Int32)).toNatClampNeg) st (r, st1) e1) (cwV 3 hts (gd_V q_381 ko_T_save) rfl rfl rfl kh_T_save ⟨Nat.le_of_ble_eq_true rfl, Nat.le_of_ble_eq_true rfl⟩) 4 0 rfl rfl rfl rfl hl.1 rfl (Nat.le_of_ble_eq_true rfl) kd_L_law_392 ⟨Nat.le_of_ble_eq_true rfl, Nat.le_of_ble_eq_true rfl⟩ (fun H locs hP1 hD1 hS hP2 => ?_)
  refine W.eq (g2 := F0 m 395 ls [.int r]) rfl ?_
  refine lv_aload_n hx hb kd_L_law_395 rfl (lv_at hl 2 rfl) ?_
  refine lv_aload_n hx hb kd_L_law_396 rfl (lv_at hl 0 rfl) ?_
  refine lv_iload_n hx hb kd_L_law_397 rfl (lv_at hl 3 rfl) ?_
  refine lv_iconst (v := 1) hx hb kd_L_law_398 (by decide) ?_
  refine lv_iadd hx hb kd_L_law_399 ?_
  refine va_sld hx hb hX hbl hbA hS (hi 1 (by decide)) kd_L_law_400 ?_
  refine lv_aload_n hx hb kd_L_law_401 rfl (lv_at hl 0 rfl) ?_
  refine lv_iload_n hx hb kd_L_law_402 rfl (lv_at hl 3 rfl) ?_
  refine lv_iconst (v := 2) hx hb kd_L_law_403 (by decide) ?_
  refine lv_iadd hx hb kd_L_law_404 ?_
  refine va_sld hx hb hX hbl hbA hS (hi 2 (by decide)) kd_L_law_405 ?_
  refine lv_aload_n hx hb kd_L_law_406 rfl (lv_at hl 0 rfl) ?_
  refine lv_iload_n hx hb kd_L_law_407 rfl (lv_at hl 3 rfl) ?_
  refine lv_iconst (v := 3) hx hb kd_L_law_408 (by decide) ?_
  refine lv_iadd hx hb kd_L_law_409 ?_
  refine va_sld hx hb hX hbl hbA hS (hi 3 (by decide)) kd_L_law_410 ?_
  refine fb_callV2 (wx := wM dB a2) (w2 := wX dA a st1) (As := [.int (xs (x3 + (1 : Int32)).toNatClampNeg), .int (xs (x3 + (2 : Int32)).toNatClampNeg), .int (xs (x3 + (3 : Int32)).toNatClampNeg)]) (rest := [.int r]) ⟨hx, hb, hml, hown, hts⟩ zM_mv trivial hK2 hP2 hD2 hS hA hP1 hap.sw (c_M_save l dC dI dB a2 (xs (x3 + (1 : Int32)).toNatClampNeg) (xs (x3 + (2 : Int32)).toNatClampNeg) (xs (x3 + (3 : Int32)).toNatClampNeg) mt (r, mt1) e2) (cwV 3 hts (gd_V q_647 ko_M_save) rfl rfl rfl kh_M_save ⟨Nat.le_of_ble_eq_true rfl, Nat.le_of_ble_eq_true rfl⟩) 5 0 rfl rfl rfl rfl hl.1 rfl (Nat.le_of_ble_eq_true rfl) kd_L_law_411 ⟨Nat.le_of_ble_eq_true rfl, Nat.le_of_ble_eq_true rfl⟩ (fun H locs hP2 hD2 hS hP1 => ?_)
  refine W.eq (g2 := F0 m 414 ls [.int r, .int r]) rfl ?_
  refine lv_icmp_eq (tgt := 600) hx hb kd_L_law_414 (by decide) (fun _ => ?_) (fun cc => absurd rfl cc)
  exact hk st1 mt1 hs1 H locs hP1 hP2 hD1 hD2 hS ls hl
set_option maxHeartbeats 4000000 in
set_option maxRecDepth 100000 in
theorem lc_clear {p : Program} {l : Launch} {e : Env} {s : State} {m : MethodId} {below : List Frame} {meth : Method} {c : Code} {dC : Nat → ClassId} {dI : Nat → Nat → Nat} {dA dB : Nat → ClassId} {a a2 z : Nat → Nat} {b L : Nat} {xs : Nat → Int32} (CX : lg_C p s m meth c dC dI dA dB a a2 z b L xs) {sim : Nat → fb_S → fb_S → Prop} (hsm : sm_clear sim) {j : Nat} (hj : j < 512) (x3 : Int32) (hi : ∀ k : Nat, k < 5 → vp_in (x3 + nI k) L) (st mt : fb_S) (hs : sim j st mt) (hk : ∀ st1 mt1 : fb_S, sim (j + 1) st1 mt1 → lg_G p l e s m below meth c dC dI dA dB a a2 b 600 x3 st1 mt1) : lg_G p l e s m below meth c dC dI dA dB a a2 b 419 x3 st mt := by
  obtain ⟨hx, hb, hr, hml, hown, hts, hX, hbl, hlocks, hK1, hK2, hZ, hap⟩ := id CX
  have hA : ∀ q : Nat, s.heap.size ≤ q → aX s q := fun _ h => h
  have hbA : ¬ aX s b := Nat.not_le.mpr hbl
  intro H locs hP1 hP2 hD1 hD2 hS ls hl
  obtain ⟨r, st1, mt1, e1, e2, hs1⟩ := hsm j st mt (xs (x3 + (1 : Int32)).toNatClampNeg) hj hs
  refine lv_aload_n hx hb kd_L_law_419 rfl (lv_at hl 1 rfl) ?_
  refine lv_aload_n hx hb kd_L_law_420 rfl (lv_at hl 0 rfl) ?_
  refine lv_iload_n hx hb kd_L_law_421 rfl (lv_at hl 3 rfl) ?_
  refine lv_iconst (v := 1) hx hb kd_L_law_422 (by decide) ?_
  refine lv_iadd hx hb kd_L_law_423 ?_
  refine va_sld hx hb hX hbl hbA hS (hi 1 (by decide)) kd_L_law_424 ?_
  refine fb_callV2 (wx := wX dA a) (w2 := wM dB a2 mt) (As := [.int (xs (x3 + (1 : Int32)).toNatClampNeg)]) (rest := []) ⟨hx, hb, hml, hown, hts⟩ zX_mv hZ hK1 hP1 hD1 hS hA hP2 hap (c_T_clear l dC dI dA a z (xs (x3 + (1 : Int32)).toNatClampNeg) st (r, st1) e1) (cwV 1 hts (gd_V q_393 ko_T_clear) rfl rfl rfl kh_T_clear ⟨Nat.le_of_ble_eq_true rfl, Nat.le_of_ble_eq_true rfl⟩) 4 0 rfl rfl rfl rfl hl.1 rfl (Nat.le_of_ble_eq_true rfl) kd_L_law_425 ⟨Nat.le_of_ble_eq_true rfl, Nat.le_of_ble_eq_true rfl⟩ (fun H locs hP1 hD1 hS hP2 => ?_)
  refine W.eq (g2 := F0 m 428 ls [.int r]) rfl ?_
  refine lv_aload_n hx hb kd_L_law_428 rfl (lv_at hl 2 rfl) ?_
  refine lv_aload_n hx hb kd_L_law_429 rfl (lv_at hl 0 rfl) ?_
  refine lv_iload_n hx hb kd_L_law_430 rfl (lv_at hl 3 rfl) ?_
  refine lv_iconst (v := 1) hx hb kd_L_law_431 (by decide) ?_
  refine lv_iadd hx hb kd_L_law_432 ?_
  refine va_sld hx hb hX hbl hbA hS (hi 1 (by decide)) kd_L_law_433 ?_
  refine fb_callV2 (wx := wM dB a2) (w2 := wX dA a st1) (As := [.int (xs (x3 + (1 : Int32)).toNatClampNeg)]) (rest := [.int r]) ⟨hx, hb, hml, hown, hts⟩ zM_mv trivial hK2 hP2 hD2 hS hA hP1 hap.sw (c_M_clear l dC dI dB a2 (xs (x3 + (1 : Int32)).toNatClampNeg) mt (r, mt1) e2) (cwV 1 hts (gd_V q_651 ko_M_clear) rfl rfl rfl kh_M_clear ⟨Nat.le_of_ble_eq_true rfl, Nat.le_of_ble_eq_true rfl⟩) 5 0 rfl rfl rfl rfl hl.1 rfl (Nat.le_of_ble_eq_true rfl) kd_L_law_434 ⟨Nat.le_of_ble_eq_true rfl, Nat.le_of_ble_eq_true rfl⟩ (fun H locs hP2 hD2 hS hP1 => ?_)
  refine W.eq (g2 := F0 m 437 ls [.int r, .int r]) rfl ?_
  refine lv_icmp_eq (tgt := 600) hx hb kd_L_law_437 (by decide) (fun _ => ?_) (fun cc => absurd rfl cc)
  exact hk st1 mt1 hs1 H locs hP1 hP2 hD1 hD2 hS ls hl
set_option maxHeartbeats 4000000 in
set_option maxRecDepth 100000 in
theorem lc_about {p : Program} {l : Launch} {e : Env} {s : State} {m : MethodId} {below : List Frame} {meth : Method} {c : Code} {dC : Nat → ClassId} {dI : Nat → Nat → Nat} {dA dB : Nat → ClassId} {a a2 z : Nat → Nat} {b L : Nat} {xs : Nat → Int32} (CX : lg_C p s m meth c dC dI dA dB a a2 z b L xs) {sim : Nat → fb_S → fb_S → Prop} (hsm : sm_about sim) {j : Nat} (hj : j < 512) (x3 : Int32) (hi : ∀ k : Nat, k < 5 → vp_in (x3 + nI k) L) (st mt : fb_S) (hs : sim j st mt) (hk : ∀ st1 mt1 : fb_S, sim (j + 1) st1 mt1 → lg_G p l e s m below meth c dC dI dA dB a a2 b 600 x3 st1 mt1) : lg_G p l e s m below meth c dC dI dA dB a a2 b 442 x3 st mt := by
  obtain ⟨hx, hb, hr, hml, hown, hts, hX, hbl, hlocks, hK1, hK2, hZ, hap⟩ := id CX
  have hA : ∀ q : Nat, s.heap.size ≤ q → aX s q := fun _ h => h
  have hbA : ¬ aX s b := Nat.not_le.mpr hbl
  intro H locs hP1 hP2 hD1 hD2 hS ls hl
  obtain ⟨r, st1, mt1, e1, e2, hs1⟩ := hsm j st mt (xs (x3 + (1 : Int32)).toNatClampNeg) (xs (x3 + (2 : Int32)).toNatClampNeg) hj hs
  refine lv_aload_n hx hb kd_L_law_442 rfl (lv_at hl 1 rfl) ?_
  refine lv_aload_n hx hb kd_L_law_443 rfl (lv_at hl 0 rfl) ?_
  refine lv_iload_n hx hb kd_L_law_444 rfl (lv_at hl 3 rfl) ?_
  refine lv_iconst (v := 1) hx hb kd_L_law_445 (by decide) ?_
  refine lv_iadd hx hb kd_L_law_446 ?_
  refine va_sld hx hb hX hbl hbA hS (hi 1 (by decide)) kd_L_law_447 ?_
  refine lv_aload_n hx hb kd_L_law_448 rfl (lv_at hl 0 rfl) ?_
  refine lv_iload_n hx hb kd_L_law_449 rfl (lv_at hl 3 rfl) ?_
  refine lv_iconst (v := 2) hx hb kd_L_law_450 (by decide) ?_
  refine lv_iadd hx hb kd_L_law_451 ?_
  refine va_sld hx hb hX hbl hbA hS (hi 2 (by decide)) kd_L_law_452 ?_
  refine fb_callV2 (wx := wX dA a) (w2 := wM dB a2 mt) (As := [.int (xs (x3 + (1 : Int32)).toNatClampNeg), .int (xs (x3 + (2 : Int32)).toNatClampNeg)]) (rest := []) ⟨hx, hb, hml, hown, hts⟩ zX_mv hZ hK1 hP1 hD1 hS hA hP2 hap (c_T_about l dC dI dA a z (xs (x3 + (1 : Int32)).toNatClampNeg) (xs (x3 + (2 : Int32)).toNatClampNeg) st (r, st1) e1) (cwV 2 hts (gd_V q_399 ko_T_about) rfl rfl rfl kh_T_about ⟨Nat.le_of_ble_eq_true rfl, Nat.le_of_ble_eq_true rfl⟩) 4 0 rfl rfl rfl rfl hl.1 rfl (Nat.le_of_ble_eq_true rfl) kd_L_law_453 ⟨Nat.le_of_ble_eq_true rfl, Nat.le_of_ble_eq_true rfl⟩ (fun H locs hP1 hD1 hS hP2 => ?_)
  refine W.eq (g2 := F0 m 456 ls [.int r]) rfl ?_
  refine lv_aload_n hx hb kd_L_law_456 rfl (lv_at hl 2 rfl) ?_
  refine lv_aload_n hx hb kd_L_law_457 rfl (lv_at hl 0 rfl) ?_
  refine lv_iload_n hx hb kd_L_law_458 rfl (lv_at hl 3 rfl) ?_
  refine lv_iconst (v := 1) hx hb kd_L_law_459 (by decide) ?_
  refine lv_iadd hx hb kd_L_law_460 ?_
  refine va_sld hx hb hX hbl hbA hS (hi 1 (by decide)) kd_L_law_461 ?_
  refine lv_aload_n hx hb kd_L_law_462 rfl (lv_at hl 0 rfl) ?_
  refine lv_iload_n hx hb kd_L_law_463 rfl (lv_at hl 3 rfl) ?_
  refine lv_iconst (v := 2) hx hb kd_L_law_464 (by decide) ?_
  refine lv_iadd hx hb kd_L_law_465 ?_
  refine va_sld hx hb hX hbl hbA hS (hi 2 (by decide)) kd_L_law_466 ?_
  refine fb_callV2 (wx := wM dB a2) (w2 := wX dA a st1) (As := [.int (xs (x3 + (1 : Int32)).toNatClampNeg), .int (xs (x3 + (2 : Int32)).toNatClampNeg)]) (rest := [.int r]) ⟨hx, hb, hml, hown, hts⟩ zM_mv trivial hK2 hP2 hD2 hS hA hP1 hap.sw (c_M_about l dC dI dB a2 (xs (x3 + (1 : Int32)).toNatClampNeg) (xs (x3 + (2 : Int32)).toNatClampNeg) mt (r, mt1) e2) (cwV 2 hts (gd_V q_655 ko_M_about) rfl rfl rfl kh_M_about ⟨Nat.le_of_ble_eq_true rfl, Nat.le_of_ble_eq_true rfl⟩) 5 0 rfl rfl rfl rfl hl.1 rfl (Nat.le_of_ble_eq_true rfl) kd_L_law_467 ⟨Nat.le_of_ble_eq_true rfl, Nat.le_of_ble_eq_true rfl⟩ (fun H locs hP2 hD2 hS hP1 => ?_)
  refine W.eq (g2 := F0 m 470 ls [.int r, .int r]) rfl ?_
  refine lv_icmp_eq (tgt := 600) hx hb kd_L_law_470 (by decide) (fun _ => ?_) (fun cc => absurd rfl cc)
  exact hk st1 mt1 hs1 H locs hP1 hP2 hD1 hD2 hS ls hl
set_option maxHeartbeats 4000000 in
set_option maxRecDepth 100000 in
theorem lc_free {p : Program} {l : Launch} {e : Env} {s : State} {m : MethodId} {below : List Frame} {meth : Method} {c : Code} {dC : Nat → ClassId} {dI : Nat → Nat → Nat} {dA dB : Nat → ClassId} {a a2 z : Nat → Nat} {b L : Nat} {xs : Nat → Int32} (CX : lg_C p s m meth c dC dI dA dB a a2 z b L xs) {sim : Nat → fb_S → fb_S → Prop} (hsm : sm_free sim) {j : Nat} (hj : j < 512) (x3 : Int32) (hi : ∀ k : Nat, k < 5 → vp_in (x3 + nI k) L) (st mt : fb_S) (hs : sim j st mt) (hk : ∀ st1 mt1 : fb_S, sim (j + 1) st1 mt1 → lg_G p l e s m below meth c dC dI dA dB a a2 b 600 x3 st1 mt1) : lg_G p l e s m below meth c dC dI dA dB a a2 b 475 x3 st mt := by
  obtain ⟨hx, hb, hr, hml, hown, hts, hX, hbl, hlocks, hK1, hK2, hZ, hap⟩ := id CX
  have hA : ∀ q : Nat, s.heap.size ≤ q → aX s q := fun _ h => h
  have hbA : ¬ aX s b := Nat.not_le.mpr hbl
  intro H locs hP1 hP2 hD1 hD2 hS ls hl
  obtain ⟨r, st1, mt1, e1, e2, hs1⟩ := hsm j st mt hj hs
  refine lv_aload_n hx hb kd_L_law_475 rfl (lv_at hl 1 rfl) ?_
  refine fb_callV2 (wx := wX dA a) (w2 := wM dB a2 mt) (As := []) (rest := []) ⟨hx, hb, hml, hown, hts⟩ zX_mv hZ hK1 hP1 hD1 hS hA hP2 hap (c_T_free l dC dI dA a z st (r, st1) e1) (cwV 0 hts (gd_V q_412 ko_T_free) rfl rfl rfl kh_T_free ⟨Nat.le_of_ble_eq_true rfl, Nat.le_of_ble_eq_true rfl⟩) 4 0 rfl rfl rfl rfl hl.1 rfl (Nat.le_of_ble_eq_true rfl) kd_L_law_476 ⟨Nat.le_of_ble_eq_true rfl, Nat.le_of_ble_eq_true rfl⟩ (fun H locs hP1 hD1 hS hP2 => ?_)
  refine W.eq (g2 := F0 m 479 ls [.int r]) rfl ?_
  refine lv_aload_n hx hb kd_L_law_479 rfl (lv_at hl 2 rfl) ?_
  refine fb_callV2 (wx := wM dB a2) (w2 := wX dA a st1) (As := []) (rest := [.int r]) ⟨hx, hb, hml, hown, hts⟩ zM_mv trivial hK2 hP2 hD2 hS hA hP1 hap.sw (c_M_free l dC dI dB a2 mt (r, mt1) e2) (cwV 0 hts (gd_V q_659 ko_M_free) rfl rfl rfl kh_M_free ⟨Nat.le_of_ble_eq_true rfl, Nat.le_of_ble_eq_true rfl⟩) 5 0 rfl rfl rfl rfl hl.1 rfl (Nat.le_of_ble_eq_true rfl) kd_L_law_480 ⟨Nat.le_of_ble_eq_true rfl, Nat.le_of_ble_eq_true rfl⟩ (fun H locs hP2 hD2 hS hP1 => ?_)
  refine W.eq (g2 := F0 m 483 ls [.int r, .int r]) rfl ?_
  refine lv_icmp_eq (tgt := 600) hx hb kd_L_law_483 (by decide) (fun _ => ?_) (fun cc => absurd rfl cc)
  exact hk st1 mt1 hs1 H locs hP1 hP2 hD1 hD2 hS ls hl
set_option maxHeartbeats 4000000 in
set_option maxRecDepth 100000 in
theorem lc_forget {p : Program} {l : Launch} {e : Env} {s : State} {m : MethodId} {below : List Frame} {meth : Method} {c : Code} {dC : Nat → ClassId} {dI : Nat → Nat → Nat} {dA dB : Nat → ClassId} {a a2 z : Nat → Nat} {b L : Nat} {xs : Nat → Int32} (CX : lg_C p s m meth c dC dI dA dB a a2 z b L xs) {sim : Nat → fb_S → fb_S → Prop} (hsm : sm_forget sim) {j : Nat} (hj : j < 512) (x3 : Int32) (hi : ∀ k : Nat, k < 5 → vp_in (x3 + nI k) L) (st mt : fb_S) (hs : sim j st mt) (hk : ∀ st1 mt1 : fb_S, sim (j + 1) st1 mt1 → lg_G p l e s m below meth c dC dI dA dB a a2 b 600 x3 st1 mt1) : lg_G p l e s m below meth c dC dI dA dB a a2 b 488 x3 st mt := by
  obtain ⟨hx, hb, hr, hml, hown, hts, hX, hbl, hlocks, hK1, hK2, hZ, hap⟩ := id CX
  have hA : ∀ q : Nat, s.heap.size ≤ q → aX s q := fun _ h => h
  have hbA : ¬ aX s b := Nat.not_le.mpr hbl
  intro H locs hP1 hP2 hD1 hD2 hS ls hl
  obtain ⟨r, st1, mt1, e1, e2, hs1⟩ := hsm j st mt hj hs
  refine lv_aload_n hx hb kd_L_law_488 rfl (lv_at hl 1 rfl) ?_
  refine fb_callV2 (wx := wX dA a) (w2 := wM dB a2 mt) (As := []) (rest := []) ⟨hx, hb, hml, hown, hts⟩ zX_mv hZ hK1 hP1 hD1 hS hA hP2 hap (c_T_forget l dC dI dA a z st (r, st1) e1) (cwV 0 hts (gd_V q_417 ko_T_forget) rfl rfl rfl kh_T_forget ⟨Nat.le_of_ble_eq_true rfl, Nat.le_of_ble_eq_true rfl⟩) 4 0 rfl rfl rfl rfl hl.1 rfl (Nat.le_of_ble_eq_true rfl) kd_L_law_489 ⟨Nat.le_of_ble_eq_true rfl, Nat.le_of_ble_eq_true rfl⟩ (fun H locs hP1 hD1 hS hP2 => ?_)
  refine W.eq (g2 := F0 m 492 ls [.int r]) rfl ?_
  refine lv_aload_n hx hb kd_L_law_492 rfl (lv_at hl 2 rfl) ?_
  refine fb_callV2 (wx := wM dB a2) (w2 := wX dA a st1) (As := []) (rest := [.int r]) ⟨hx, hb, hml, hown, hts⟩ zM_mv trivial hK2 hP2 hD2 hS hA hP1 hap.sw (c_M_forget l dC dI dB a2 mt (r, mt1) e2) (cwV 0 hts (gd_V q_663 ko_M_forget) rfl rfl rfl kh_M_forget ⟨Nat.le_of_ble_eq_true rfl, Nat.le_of_ble_eq_true rfl⟩) 5 0 rfl rfl rfl rfl hl.1 rfl (Nat.le_of_ble_eq_true rfl) kd_L_law_493 ⟨Nat.le_of_ble_eq_true rfl, Nat.le_of_ble_eq_true rfl⟩ (fun H locs hP2 hD2 hS hP1 => ?_)
  refine W.eq (g2 := F0 m 496 ls [.int r, .int r]) rfl ?_
  refine lv_icmp_eq (tgt := 600) hx hb kd_L_law_496 (by decide) (fun _ => ?_) (fun cc => absurd rfl cc)
  exact hk st1 mt1 hs1 H locs hP1 hP2 hD1 hD2 hS ls hl
set_option maxHeartbeats 4000000 in
set_option maxRecDepth 100000 in
theorem lc_fill {p : Program} {l : Launch} {e : Env} {s : State} {m : MethodId} {below : List Frame} {meth : Method} {c : Code} {dC : Nat → ClassId} {dI : Nat → Nat → Nat} {dA dB : Nat → ClassId} {a a2 z : Nat → Nat} {b L : Nat} {xs : Nat → Int32} (CX : lg_C p s m meth c dC dI dA dB a a2 z b L xs) {sim : Nat → fb_S → fb_S → Prop} (hsm : sm_fill sim) {j : Nat} (hj : j < 512) (x3 : Int32) (hi : ∀ k : Nat, k < 5 → vp_in (x3 + nI k) L) (st mt : fb_S) (hs : sim j st mt) (hk : ∀ st1 mt1 : fb_S, sim (j + 1) st1 mt1 → lg_G p l e s m below meth c dC dI dA dB a a2 b 600 x3 st1 mt1) : lg_G p l e s m below meth c dC dI dA dB a a2 b 501 x3 st mt := by
  obtain ⟨hx, hb, hr, hml, hown, hts, hX, hbl, hlocks, hK1, hK2, hZ, hap⟩ := id CX
  have hA : ∀ q : Nat, s.heap.size ≤ q → aX s q := fun _ h => h
  have hbA : ¬ aX s b := Nat.not_le.mpr hbl
  intro H locs hP1 hP2 hD1 hD2 hS ls hl
  obtain ⟨r, st1, mt1, e1, e2, hs1⟩ := hsm j st mt (xs (x3 + (1 : Int32)).toNatClampNeg) (xs (x3 + (2 : Int32)).toNatClampNeg) (xs (x3 + (3 : Int32)).toNatClampNeg) hj hs
  refine lv_aload_n hx hb kd_L_law_501 rfl (lv_at hl 1 rfl) ?_
  refine lv_aload_n hx hb kd_L_law_502 rfl (lv_at hl 0 rfl) ?_
  refine lv_iload_n hx hb kd_L_law_503 rfl (lv_at hl 3 rfl) ?_
  refine lv_iconst (v := 1) hx hb kd_L_law_504 (by decide) ?_
  refine lv_iadd hx hb kd_L_law_505 ?_
  refine va_sld hx hb hX hbl hbA hS (hi 1 (by decide)) kd_L_law_506 ?_
  refine lv_aload_n hx hb kd_L_law_507 rfl (lv_at hl 0 rfl) ?_
  refine lv_iload_n hx hb kd_L_law_508 rfl (lv_at hl 3 rfl) ?_
  refine lv_iconst (v := 2) hx hb kd_L_law_509 (by decide) ?_
  refine lv_iadd hx hb kd_L_law_510 ?_
  refine va_sld hx hb hX hbl hbA hS (hi 2 (by decide)) kd_L_law_511 ?_
  refine lv_aload_n hx hb kd_L_law_512 rfl (lv_at hl 0 rfl) ?_
  refine lv_iload_n hx hb kd_L_law_513 rfl (lv_at hl 3 rfl) ?_
  refine lv_iconst (v := 3) hx hb kd_L_law_514 (by decide) ?_
  refine lv_iadd hx hb kd_L_law_515 ?_
  refine va_sld hx hb hX hbl hbA hS (hi 3 (by decide)) kd_L_law_516 ?_
  refine fb_callV2 (wx := wX dA a) (w2 := wM dB a2 mt) (As := [.int (xs (x3 + (1 : Int32)).toNatClampNeg), .int (xs (x3 + (2 : Int32)).toNatClampNeg), .int (xs (x3 + (3 : Int32)).toNatClampNeg)]) (rest := []) ⟨hx, hb, hml, hown, hts⟩ zX_mv hZ hK1 hP1 hD1 hS hA hP2 hap (c_T_fill l dC dI dA a z (xs (x3 + (1 : Int32)).toNatClampNeg) (xs (x3 + (2 : Int32)).toNatClampNeg) (xs (x3 + (3 : Int32)).toNatClampNeg) st (r, st1) e1) (cwV 3 hts (gd_V q_421 ko_T_fill) rfl rfl rfl kh_T_fill ⟨Nat.le_of_ble_eq_true rfl, Nat.le_of_ble_eq_true rfl⟩) 4 0 rfl rfl rfl rfl hl.1 rfl (Nat.le_of_ble_eq_true rfl) kd_L_law_517 ⟨Nat.le_of_ble_eq_true rfl, Nat.le_of_ble_eq_true rfl⟩ (fun H locs hP1 hD1 hS hP2 => ?_)
  refine W.eq (g2 := F0 m 520 ls [.int r]) rfl ?_
  refine lv_aload_n hx hb kd_L_law_520 rfl (lv_at hl 2 rfl) ?_
  refine lv_aload_n hx hb kd_L_law_521 rfl (lv_at hl 0 rfl) ?_
  refine lv_iload_n hx hb kd_L_law_522 rfl (lv_at hl 3 rfl) ?_
  refine lv_iconst (v := 1) hx hb kd_L_law_523 (by decide) ?_
  refine lv_iadd hx hb kd_L_law_524 ?_
  refine va_sld hx hb hX hbl hbA hS (hi 1 (by decide)) kd_L_law_525 ?_
  refine lv_aload_n hx hb kd_L_law_526 rfl (lv_at hl 0 rfl) ?_
  refine lv_iload_n hx hb kd_L_law_527 rfl (lv_at hl 3 rfl) ?_
  refine lv_iconst (v := 2) hx hb kd_L_law_528 (by decide) ?_
  refine lv_iadd hx hb kd_L_law_529 ?_
  refine va_sld hx hb hX hbl hbA hS (hi 2 (by decide)) kd_L_law_530 ?_
  refine lv_aload_n hx hb kd_L_law_531 rfl (lv_at hl 0 rfl) ?_
  refine lv_iload_n hx hb kd_L_law_532 rfl (lv_at hl 3 rfl) ?_
  refine lv_iconst (v := 3) hx hb kd_L_law_533 (by decide) ?_
  refine lv_iadd hx hb kd_L_law_534 ?_
  refine va_sld hx hb hX hbl hbA hS (hi 3 (by decide)) kd_L_law_535 ?_
  refine fb_callV2 (wx := wM dB a2) (w2 := wX dA a st1) (As := [.int (xs (x3 + (1 : Int32)).toNatClampNeg), .int (xs (x3 + (2 : Int32)).toNatClampNeg), .int (xs (x3 + (3 : Int32)).toNatClampNeg)]) (rest := [.int r]) ⟨hx, hb, hml, hown, hts⟩ zM_mv trivial hK2 hP2 hD2 hS hA hP1 hap.sw (c_M_fill l dC dI dB a2 (xs (x3 + (1 : Int32)).toNatClampNeg) (xs (x3 + (2 : Int32)).toNatClampNeg) (xs (x3 + (3 : Int32)).toNatClampNeg) mt (r, mt1) e2) (cwV 3 hts (gd_V q_667 ko_M_fill) rfl rfl rfl kh_M_fill ⟨Nat.le_of_ble_eq_true rfl, Nat.le_of_ble_eq_true rfl⟩) 5 0 rfl rfl rfl rfl hl.1 rfl (Nat.le_of_ble_eq_true rfl) kd_L_law_536 ⟨Nat.le_of_ble_eq_true rfl, Nat.le_of_ble_eq_true rfl⟩ (fun H locs hP2 hD2 hS hP1 => ?_)
  refine W.eq (g2 := F0 m 539 ls [.int r, .int r]) rfl ?_
  refine lv_icmp_eq (tgt := 600) hx hb kd_L_law_539 (by decide) (fun _ => ?_) (fun cc => absurd rfl cc)
  exact hk st1 mt1 hs1 H locs hP1 hP2 hD1 hD2 hS ls hl
set_option maxHeartbeats 4000000 in
set_option maxRecDepth 100000 in
theorem lc_at {p : Program} {l : Launch} {e : Env} {s : State} {m : MethodId} {below : List Frame} {meth : Method} {c : Code} {dC : Nat → ClassId} {dI : Nat → Nat → Nat} {dA dB : Nat → ClassId} {a a2 z : Nat → Nat} {b L : Nat} {xs : Nat → Int32} (CX : lg_C p s m meth c dC dI dA dB a a2 z b L xs) {sim : Nat → fb_S → fb_S → Prop} (hsm : sm_at sim) {j : Nat} (hj : j < 512) (x3 : Int32) (hi : ∀ k : Nat, k < 5 → vp_in (x3 + nI k) L) (st mt : fb_S) (hs : sim j st mt) (hk : ∀ st1 mt1 : fb_S, sim (j + 1) st1 mt1 → lg_G p l e s m below meth c dC dI dA dB a a2 b 600 x3 st1 mt1) : lg_G p l e s m below meth c dC dI dA dB a a2 b 544 x3 st mt := by
  obtain ⟨hx, hb, hr, hml, hown, hts, hX, hbl, hlocks, hK1, hK2, hZ, hap⟩ := id CX
  have hA : ∀ q : Nat, s.heap.size ≤ q → aX s q := fun _ h => h
  have hbA : ¬ aX s b := Nat.not_le.mpr hbl
  intro H locs hP1 hP2 hD1 hD2 hS ls hl
  obtain ⟨r, st1, mt1, e1, e2, hs1⟩ := hsm j st mt (xs (x3 + (1 : Int32)).toNatClampNeg) hj hs
  refine lv_aload_n hx hb kd_L_law_544 rfl (lv_at hl 1 rfl) ?_
  refine lv_aload_n hx hb kd_L_law_545 rfl (lv_at hl 0 rfl) ?_
  refine lv_iload_n hx hb kd_L_law_546 rfl (lv_at hl 3 rfl) ?_
  refine lv_iconst (v := 1) hx hb kd_L_law_547 (by decide) ?_
  refine lv_iadd hx hb kd_L_law_548 ?_
  refine va_sld hx hb hX hbl hbA hS (hi 1 (by decide)) kd_L_law_549 ?_
  refine fb_callV2 (wx := wX dA a) (w2 := wM dB a2 mt) (As := [.int (xs (x3 + (1 : Int32)).toNatClampNeg)]) (rest := []) ⟨hx, hb, hml, hown, hts⟩ zX_mv hZ hK1 hP1 hD1 hS hA hP2 hap (c_T_at l dC dI dA a z (xs (x3 + (1 : Int32)).toNatClampNeg) st (r, st1) e1) (cwV 1 hts (gd_V q_425 ko_T_at) rfl rfl rfl kh_T_at ⟨Nat.le_of_ble_eq_true rfl, Nat.le_of_ble_eq_true rfl⟩) 4 0 rfl rfl rfl rfl hl.1 rfl (Nat.le_of_ble_eq_true rfl) kd_L_law_550 ⟨Nat.le_of_ble_eq_true rfl, Nat.le_of_ble_eq_true rfl⟩ (fun H locs hP1 hD1 hS hP2 => ?_)
  refine W.eq (g2 := F0 m 553 ls [.int r]) rfl ?_
  refine lv_aload_n hx hb kd_L_law_553 rfl (lv_at hl 2 rfl) ?_
  refine lv_aload_n hx hb kd_L_law_554 rfl (lv_at hl 0 rfl) ?_
  refine lv_iload_n hx hb kd_L_law_555 rfl (lv_at hl 3 rfl) ?_
  refine lv_iconst (v := 1) hx hb kd_L_law_556 (by decide) ?_
  refine lv_iadd hx hb kd_L_law_557 ?_
  refine va_sld hx hb hX hbl hbA hS (hi 1 (by decide)) kd_L_law_558 ?_
  refine fb_callV2 (wx := wM dB a2) (w2 := wX dA a st1) (As := [.int (xs (x3 + (1 : Int32)).toNatClampNeg)]) (rest := [.int r]) ⟨hx, hb, hml, hown, hts⟩ zM_mv trivial hK2 hP2 hD2 hS hA hP1 hap.sw (c_M_at l dC dI dB a2 (xs (x3 + (1 : Int32)).toNatClampNeg) mt (r, mt1) e2) (cwV 1 hts (gd_V q_671 ko_M_at) rfl rfl rfl kh_M_at ⟨Nat.le_of_ble_eq_true rfl, Nat.le_of_ble_eq_true rfl⟩) 5 0 rfl rfl rfl rfl hl.1 rfl (Nat.le_of_ble_eq_true rfl) kd_L_law_559 ⟨Nat.le_of_ble_eq_true rfl, Nat.le_of_ble_eq_true rfl⟩ (fun H locs hP2 hD2 hS hP1 => ?_)
  refine W.eq (g2 := F0 m 562 ls [.int r, .int r]) rfl ?_
  refine lv_icmp_eq (tgt := 600) hx hb kd_L_law_562 (by decide) (fun _ => ?_) (fun cc => absurd rfl cc)
  exact hk st1 mt1 hs1 H locs hP1 hP2 hD1 hD2 hS ls hl
set_option maxHeartbeats 4000000 in
set_option maxRecDepth 100000 in
theorem lc_peek {p : Program} {l : Launch} {e : Env} {s : State} {m : MethodId} {below : List Frame} {meth : Method} {c : Code} {dC : Nat → ClassId} {dI : Nat → Nat → Nat} {dA dB : Nat → ClassId} {a a2 z : Nat → Nat} {b L : Nat} {xs : Nat → Int32} (CX : lg_C p s m meth c dC dI dA dB a a2 z b L xs) {sim : Nat → fb_S → fb_S → Prop} (hsm : sm_peek sim) {j : Nat} (hj : j < 512) (x3 : Int32) (hi : ∀ k : Nat, k < 5 → vp_in (x3 + nI k) L) (st mt : fb_S) (hs : sim j st mt) (hk : ∀ st1 mt1 : fb_S, sim (j + 1) st1 mt1 → lg_G p l e s m below meth c dC dI dA dB a a2 b 600 x3 st1 mt1) : lg_G p l e s m below meth c dC dI dA dB a a2 b 567 x3 st mt := by
  obtain ⟨hx, hb, hr, hml, hown, hts, hX, hbl, hlocks, hK1, hK2, hZ, hap⟩ := id CX
  have hA : ∀ q : Nat, s.heap.size ≤ q → aX s q := fun _ h => h
  have hbA : ¬ aX s b := Nat.not_le.mpr hbl
  intro H locs hP1 hP2 hD1 hD2 hS ls hl
  obtain ⟨r, st1, mt1, e1, e2, hs1⟩ := hsm j st mt (xs (x3 + (1 : Int32)).toNatClampNeg) (xs (x3 + (2 : Int32)).toNatClampNeg) hj hs
  refine lv_aload_n hx hb kd_L_law_567 rfl (lv_at hl 1 rfl) ?_
  refine lv_aload_n hx hb kd_L_law_568 rfl (lv_at hl 0 rfl) ?_
  refine lv_iload_n hx hb kd_L_law_569 rfl (lv_at hl 3 rfl) ?_
  refine lv_iconst (v := 1) hx hb kd_L_law_570 (by decide) ?_
  refine lv_iadd hx hb kd_L_law_571 ?_
  refine va_sld hx hb hX hbl hbA hS (hi 1 (by decide)) kd_L_law_572 ?_
  refine lv_aload_n hx hb kd_L_law_573 rfl (lv_at hl 0 rfl) ?_
  refine lv_iload_n hx hb kd_L_law_574 rfl (lv_at hl 3 rfl) ?_
  refine lv_iconst (v := 2) hx hb kd_L_law_575 (by decide) ?_
  refine lv_iadd hx hb kd_L_law_576 ?_
  refine va_sld hx hb hX hbl hbA hS (hi 2 (by decide)) kd_L_law_577 ?_
  refine fb_callV2 (wx := wX dA a) (w2 := wM dB a2 mt) (As := [.int (xs (x3 + (1 : Int32)).toNatClampNeg), .int (xs (x3 + (2 : Int32)).toNatClampNeg)]) (rest := []) ⟨hx, hb, hml, hown, hts⟩ zX_mv hZ hK1 hP1 hD1 hS hA hP2 hap (c_T_peek l dC dI dA a z (xs (x3 + (1 : Int32)).toNatClampNeg) (xs (x3 + (2 : Int32)).toNatClampNeg) st (r, st1) e1) (cwV 2 hts (gd_V q_429 ko_T_peek) rfl rfl rfl kh_T_peek ⟨Nat.le_of_ble_eq_true rfl, Nat.le_of_ble_eq_true rfl⟩) 4 0 rfl rfl rfl rfl hl.1 rfl (Nat.le_of_ble_eq_true rfl) kd_L_law_578 ⟨Nat.le_of_ble_eq_true rfl, Nat.le_of_ble_eq_true rfl⟩ (fun H locs hP1 hD1 hS hP2 => ?_)
  refine W.eq (g2 := F0 m 581 ls [.int r]) rfl ?_
  refine lv_aload_n hx hb kd_L_law_581 rfl (lv_at hl 2 rfl) ?_
  refine lv_aload_n hx hb kd_L_law_582 rfl (lv_at hl 0 rfl) ?_
  refine lv_iload_n hx hb kd_L_law_583 rfl (lv_at hl 3 rfl) ?_
  refine lv_iconst (v := 1) hx hb kd_L_law_584 (by decide) ?_
  refine lv_iadd hx hb kd_L_law_585 ?_
  refine va_sld hx hb hX hbl hbA hS (hi 1 (by decide)) kd_L_law_586 ?_
  refine lv_aload_n hx hb kd_L_law_587 rfl (lv_at hl 0 rfl) ?_
  refine lv_iload_n hx hb kd_L_law_588 rfl (lv_at hl 3 rfl) ?_
  refine lv_iconst (v := 2) hx hb kd_L_law_589 (by decide) ?_
  refine lv_iadd hx hb kd_L_law_590 ?_
  refine va_sld hx hb hX hbl hbA hS (hi 2 (by decide)) kd_L_law_591 ?_
  refine fb_callV2 (wx := wM dB a2) (w2 := wX dA a st1) (As := [.int (xs (x3 + (1 : Int32)).toNatClampNeg), .int (xs (x3 + (2 : Int32)).toNatClampNeg)]) (rest := [.int r]) ⟨hx, hb, hml, hown, hts⟩ zM_mv trivial hK2 hP2 hD2 hS hA hP1 hap.sw (c_M_peek l dC dI dB a2 (xs (x3 + (1 : Int32)).toNatClampNeg) (xs (x3 + (2 : Int32)).toNatClampNeg) mt (r, mt1) e2) (cwV 2 hts (gd_V q_675 ko_M_peek) rfl rfl rfl kh_M_peek ⟨Nat.le_of_ble_eq_true rfl, Nat.le_of_ble_eq_true rfl⟩) 5 0 rfl rfl rfl rfl hl.1 rfl (Nat.le_of_ble_eq_true rfl) kd_L_law_592 ⟨Nat.le_of_ble_eq_true rfl, Nat.le_of_ble_eq_true rfl⟩ (fun H locs hP2 hD2 hS hP1 => ?_)
  refine W.eq (g2 := F0 m 595 ls [.int r, .int r]) rfl ?_
  refine lv_icmp_eq (tgt := 600) hx hb kd_L_law_595 (by decide) (fun _ => ?_) (fun cc => absurd rfl cc)
  exact hk st1 mt1 hs1 H locs hP1 hP2 hD1 hD2 hS ls hl
set_option maxHeartbeats 4000000 in
set_option maxRecDepth 100000 in
theorem lg_loop {p : Program} {l : Launch} {e : Env} {s : State} {m : MethodId} {below : List Frame} {meth : Method} {c : Code} {dC : Nat → ClassId} {dI : Nat → Nat → Nat} {dA dB : Nat → ClassId} {a a2 z : Nat → Nat} {b L : Nat} {xs : Nat → Int32} (CX : lg_C p s m meth c dC dI dA dB a a2 z b L xs) (hL : L ≤ 2560) {sim : Nat → fb_S → fb_S → Prop} (hsm : sm_all sim) : ∀ (n j : Nat) (x3 : Int32) (st mt : fb_S), 5 * j ≤ L → L + 1 ≤ 5 * j + n → x3 = nI (5 * j) → sim j st mt → lg_G p l e s m below meth c dC dI dA dB a a2 b 18 x3 st mt := by
  obtain ⟨hx, hb, hr, hml, hown, hts, hX, hbl, hlocks, hK1, hK2, hZ, hap⟩ := id CX
  have hA : ∀ q : Nat, s.heap.size ≤ q → aX s q := fun _ h => h
  have hbA : ¬ aX s b := Nat.not_le.mpr hbl
  intro n
  induction n with
  | zero =>
    intro j x3 st mt h1 h2
    exact absurd h2 (by omega)
  | succ n ih =>
    intro j x3 st mt hj hjn ex3 hs H locs hP1 hP2 hD1 hD2 hS ls hl
    refine lv_iload_n hx hb kd_L_law_18 rfl (lv_at hl 3 rfl) ?_
    refine lv_aload_n hx hb kd_L_law_19 rfl (lv_at hl 0 rfl) ?_
    refine va_slen hx hb hX hbl hbA hS kd_L_law_20 ?_
    refine lv_iconst (v := 5) hx hb kd_L_law_21 (by decide) ?_
    refine lv_isub hx hb kd_L_law_22 ?_
    have hsub : (Int32.ofNat L - 5 : Int32).toInt = (L : Int) - 5 := pk_sub_toInt (a := L) (b := 5) (by omega) (by omega)
    have hx3 : x3.toInt = (5 * j : Nat) := by rw [ex3]; exact nI_toInt (by omega)
    refine lv_icmp_gt (tgt := 606) hx hb kd_L_law_23 (by decide) (fun c1 => ?_) (fun c1 => ?_)
    · refine lv_iconst (v := 1) hx hb kd_L_law_606 (by decide) ?_
      refine va_forget (fun q hq => hS.2.2 q hq) ?_
      refine W.widen (k := 600000) (n := 7302249) (Nat.le_of_ble_eq_true rfl) (Nat.le_of_ble_eq_true rfl) ?_
      exact lw_ret hx hb hr hlocks kd_L_law_607
    · have hlt : 5 * j + 5 ≤ L := by
        rw [Int32.lt_iff_toInt_lt, hsub, hx3] at c1
        omega
      have hj2 : j < 512 := by omega
      have hi : ∀ k : Nat, k < 5 → vp_in (x3 + nI k) L := fun k hk => by
        rw [ex3, nI_add]
        exact vp_in_nI (by omega) (by omega)
      have hi0 : vp_in x3 L := by rw [ex3]; exact vp_in_nI (by omega) (by omega)
      have hk : ∀ st1 mt1 : fb_S, sim (j + 1) st1 mt1 → lg_G p l e s m below meth c dC dI dA dB a a2 b 600 x3 st1 mt1 := by
        intro st1 mt1 hs1 H locs hP1 hP2 hD1 hD2 hS ls hl
        refine lv_iinc (v := x3 + 5) (lv' := [(3, .int (x3 + 5)), (0, .ref b), (1, .ref (a 0)), (2, .ref (a2 0))]) hx hb kd_L_law_600 hl (k := 3) rfl rfl (by decide) rfl (fun ls hl => ?_)
        refine lv_goto (tgt := 18) hx hb kd_L_law_603 (by decide) ?_
        exact ih (j + 1) (x3 + 5) st1 mt1 (by omega) (by omega) (by rw [ex3]; exact nI_add (5 * j) 5) hs1 H locs hP1 hP2 hD1 hD2 hS ls (lv_sub hl [1, 2, 3, 0] rfl)
      refine lv_aload_n hx hb kd_L_law_26 rfl (lv_at hl 0 rfl) ?_
      refine lv_iload_n hx hb kd_L_law_27 rfl (lv_at hl 3 rfl) ?_
      refine va_sld hx hb hX hbl hbA hS hi0 kd_L_law_28 ?_
      refine lv_bipush (v := 15) hx hb kd_L_law_29 (by decide) ?_
      refine lv_iand hx hb kd_L_law_31 ?_
      obtain ⟨k, hk4, ek⟩ := pk_andE (xs x3.toNatClampNeg) (m := 15) 4 rfl
      rw [ek]
      obtain ⟨h_0, h_1, h_2, h_3, h_4, h_5, h_6, h_7, h_8, h_9, h_10, h_11, h_12, h_13, h_14, h_15⟩ := hsm
      match k, hk4 with
      | 0, _ =>
        refine lv_tableIn (tgt := 112) hx hb kd_L_law_32 (by decide) (by decide) rfl (by decide) ?_
        exact lc_write CX h_0 hj2 x3 hi st mt hs hk H locs hP1 hP2 hD1 hD2 hS ls hl
      | 1, _ =>
        refine lv_tableIn (tgt := 165) hx hb kd_L_law_32 (by decide) (by decide) rfl (by decide) ?_
        exact lc_find CX h_1 hj2 x3 hi st mt hs hk H locs hP1 hP2 hD1 hD2 hS ls hl
      | 2, _ =>
        refine lv_tableIn (tgt := 188) hx hb kd_L_law_32 (by decide) (by decide) rfl (by decide) ?_
        exact lc_create CX h_2 hj2 x3 hi st mt hs hk H locs hP1 hP2 hD1 hD2 hS ls hl
      | 3, _ =>
        refine lv_tableIn (tgt := 241) hx hb kd_L_law_32 (by decide) (by decide) rfl (by decide) ?_
        exact lc_link CX h_3 hj2 x3 hi st mt hs hk H locs hP1 hP2 hD1 hD2 hS ls hl
      | 4, _ =>
        refine lv_tableIn (tgt := 264) hx hb kd_L_law_32 (by decide) (by decide) rfl (by decide) ?_
        exact lc_unlink CX h_4 hj2 x3 hi st mt hs hk H locs hP1 hP2 hD1 hD2 hS ls hl
      | 5, _ =>
        refine lv_tableIn (tgt := 287) hx hb kd_L_law_32 (by decide) (by decide) rfl (by decide) ?_
        exact lc_hold CX h_5 hj2 x3 hi st mt hs hk H locs hP1 hP2 hD1 hD2 hS ls hl
      | 6, _ =>
        refine lv_tableIn (tgt := 310) hx hb kd_L_law_32 (by decide) (by decide) rfl (by decide) ?_
        exact lc_leave CX h_6 hj2 x3 hi st mt hs hk H locs hP1 hP2 hD1 hD2 hS ls hl
      | 7, _ =>
        refine lv_tableIn (tgt := 333) hx hb kd_L_law_32 (by decide) (by decide) rfl (by decide) ?_
        exact lc_read CX h_7 hj2 x3 hi st mt hs hk H locs hP1 hP2 hD1 hD2 hS ls hl
      | 8, _ =>
        refine lv_tableIn (tgt := 376) hx hb kd_L_law_32 (by decide) (by decide) rfl (by decide) ?_
        exact lc_save CX h_8 hj2 x3 hi st mt hs hk H locs hP1 hP2 hD1 hD2 hS ls hl
      | 9, _ =>
        refine lv_tableIn (tgt := 419) hx hb kd_L_law_32 (by decide) (by decide) rfl (by decide) ?_
        exact lc_clear CX h_9 hj2 x3 hi st mt hs hk H locs hP1 hP2 hD1 hD2 hS ls hl
      | 10, _ =>
        refine lv_tableIn (tgt := 442) hx hb kd_L_law_32 (by decide) (by decide) rfl (by decide) ?_
        exact lc_about CX h_10 hj2 x3 hi st mt hs hk H locs hP1 hP2 hD1 hD2 hS ls hl
      | 11, _ =>
        refine lv_tableIn (tgt := 475) hx hb kd_L_law_32 (by decide) (by decide) rfl (by decide) ?_
        exact lc_free CX h_11 hj2 x3 hi st mt hs hk H locs hP1 hP2 hD1 hD2 hS ls hl
      | 12, _ =>
        refine lv_tableIn (tgt := 488) hx hb kd_L_law_32 (by decide) (by decide) rfl (by decide) ?_
        exact lc_forget CX h_12 hj2 x3 hi st mt hs hk H locs hP1 hP2 hD1 hD2 hS ls hl
      | 13, _ =>
        refine lv_tableIn (tgt := 501) hx hb kd_L_law_32 (by decide) (by decide) rfl (by decide) ?_
        exact lc_fill CX h_13 hj2 x3 hi st mt hs hk H locs hP1 hP2 hD1 hD2 hS ls hl
      | 14, _ =>
        refine lv_tableIn (tgt := 544) hx hb kd_L_law_32 (by decide) (by decide) rfl (by decide) ?_
        exact lc_at CX h_14 hj2 x3 hi st mt hs hk H locs hP1 hP2 hD1 hD2 hS ls hl
      | 15, _ =>
        refine lv_tableIn (tgt := 567) hx hb kd_L_law_32 (by decide) (by decide) rfl (by decide) ?_
        exact lc_peek CX h_15 hj2 x3 hi st mt hs hk H locs hP1 hP2 hD1 hD2 hS ls hl
      | k + 16, h => exact absurd h (by omega)

/-! OUR BASE: worlds with one state value; partial functions of states; calls within one world -/
abbrev fb_S : Type := Nat → Nat → Int32
abbrev fb_Z : Type := (Nat → Prop) → State → Heap → Prop
abbrev fb_Y : Type := List (ClassId × FieldType)
theorem fb_ob {α β : Type} {x : Option α} {f : α → Option β} {o : β} (h : x.bind f = some o) : ∃ a, x = some a ∧ f a = some o := by
  cases x with
  | none => cases h
  | some a => exact ⟨a, rfl, h⟩
def fb_b (x : Int32) : Int32 := x.toInt8.toInt32
def fb_us (x y : Int32) : Int32 := (x.toUInt32 >>> (y.toUInt32 &&& Int32.toUInt32 31)).toInt32
def fb_lus (x : Int64) (y : Int32) : Int64 := (x.toUInt64 >>> (y.toInt64.toUInt64 &&& Int64.toUInt64 63)).toInt64
def fb_lsl (x : Int64) (y : Int32) : Int64 := x <<< (y.toInt64 &&& 63)
def fb_ld (f : Nat → Int32) (n : Nat) (i : Int32) : Option Int32 := if i < 0 ∨ n ≤ i.toNatClampNeg then none else some (f i.toNatClampNeg)
def fb_st (st : fb_S) (k n : Nat) (i x : Int32) : Option fb_S := if i < 0 ∨ n ≤ i.toNatClampNeg then none else some (va_up st k (upd (st k) i.toNatClampNeg x))
def fb_pf (st : fb_S) (k : Nat) (x : Int32) : Option fb_S := some (va_up st k (upd (st k) 0 x))
def fb_rz (v : Int32) (st : fb_S) : Option (Int32 × fb_S) := if v = 0 ∨ v = 1 then some (v, st) else none
/-- what a walk keeps of its method and its place -/
def fb_C (p : Program) (s : State) (m : MethodId) (args : Array Value) (meth : Method) (c : Code) (cc : ByteArray) (ret : Option FieldType) (nL : Nat) (own : String) (D : va_G) (cl : List vw_C) (tys : fb_Y) (A : Nat → Prop) (Z : fb_Z) : Prop :=
  p.tables.exec = Jvm.exec ∧ c.code = cc ∧ meth.sig.returnType = ret ∧ c.maxLocals = nL ∧ s.vm.findClass own = some m.cls ∧ (∀ w ∈ lw_g, w.before args s = true) ∧ va_K D cl tys s ∧ (∀ q, s.heap.size ≤ q → A q) ∧ meth.locks = false ∧ Z A s s.heap
def fb_mv (Z : fb_Z) : Prop := ∀ (A B : Nat → Prop) (u U : State) (H H1 : Heap), u.WarmedH U.vm → (∀ a : Nat, a < H.size → ¬ A a → H1[a]? = H[a]?) → (∀ q, B q → A q) → Z A u H → Z B U H1
def fb_pre (D : va_G) (cl : List vw_C) (tys : fb_Y) (wx : fb_S → va_W) (Z : fb_Z) (st : fb_S) (sz : Nat) (U : State) : Prop := U.heap.size = sz ∧ va_P D cl (wx st) U.heap ∧ va_K D cl tys U ∧ va_D (fun _ => True) (wx st) ∧ Z (va_A (wx st) sz) U U.heap
def fb_Q (D : va_G) (cl : List vw_C) (tys : fb_Y) (wx : fb_S → va_W) (A : Nat → Prop) (v : Option Value) (u : fb_S) : Array Value → State → Outcome → State → Prop := fun _ s0 oc t => (oc = .returned v ∧ va_P D cl (wx u) t.heap ∧ va_K D cl tys t ∧ va_D A (wx u)) ∧ va_F A s0 t
def fb_M (l : Launch) (y : MethodName) (ws : List Cond) (rm : Room) (D : va_G) (cl : List vw_C) (tys : fb_Y) (wx : fb_S → va_W) (Z : fb_Z) (av : List Value) (v : Option Value) (st u : fb_S) : Prop := ∀ sz : Nat, Met l y ws rm (va_Pc av (fb_pre D cl tys wx Z st sz)) (fb_Q D cl tys wx (va_A (wx st) sz) v u) 0 0 (va_A (wx st) sz)
/-- from a place in a method's code, whatever the heap that holds the state's cells: the method comes to its end -/
def fb_G (p : Program) (l : Launch) (e : Env) (R : Room) (s : State) (m : MethodId) (args : Array Value) (below : List Frame) (meth : Method) (c : Code) (D : va_G) (cl : List vw_C) (tys : fb_Y) (wx : fb_S → va_W) (A : Nat → Prop) (v : Option Value) (u : fb_S) (pc nL : Nat) (loc : List (Nat × Value)) (stk : List Value) (st : fb_S) : Prop :=
  ∀ (H : Heap) (locs : List Loc), va_P D cl (wx st) H → va_D A (wx st) → va_S A s.heap H locs → ∀ ls : Array Slot, lv_has ls nL loc → W p l e R s m args below meth c H locs 0 0 (MQ below (fb_Q D cl tys wx A v u) args s 0 0 A) (F0 m pc ls stk)
def fb_n : Nat := 1000000
def fb_min (x y : Int32) : Int32 := if y < x then y else x
def fb_max (x y : Int32) : Int32 := if x < y then y else x
section FB
variable {p : Program} {l : Launch} {e : Env} {R : Room} {s : State} {m : MethodId} {args : Array Value} {below : List Frame} {meth : Method} {c : Code} {H : Heap} {locs : List Loc} {cells slots : Nat} {Q : State → Prop}
variable {cc : ByteArray} {pc : Nat} {ls : Array Slot} {rest st0 : List Value} {D : va_G} {cl : List vw_C} {A : Nat → Prop} {tys : fb_Y} {wx : fb_S → va_W} {Z : fb_Z} {H0 : Heap} {st u : fb_S}
theorem fb_free (hD : va_D A (wx st)) (hS : va_S A H0 H locs) (hA : ∀ q, H0.size ≤ q → A q) : ∀ q, va_A (wx st) H.size q → A q := by
  intro q h
  rcases h with ⟨k, e, h⟩ | h
  · exact hD.2 k (q, e) h
  · exact hA q (Nat.le_trans hS.1 h)
theorem fb_back {v : Option Value} {a : Array Value} (hr : va_Run p l e R s m args below meth c H locs cells slots 0 0 (F0 m pc ls st0) rest (fb_Q D cl tys wx (va_A (wx st) H.size) v u a) (va_A (wx st) H.size)) (hD : va_D A (wx st)) (hS : va_S A H0 H locs) (hA : ∀ q, H0.size ≤ q → A q)
    (kk : ∀ (H1 : Heap) (locs1 : List Loc), va_P D cl (wx u) H1 → va_D A (wx u) → va_S A H0 H1 locs1 → W p l e R s m args below meth c H1 locs1 cells slots Q (F0 m (pc + 3) ls (v.toList ++ rest))) : W p l e R s m args below meth c H locs cells slots Q (F0 m pc ls st0) := by
  have hF := fb_free hD hS hA
  intro T hT X
  obtain ⟨v', st₀, t, T', L, h0, X', hL, e1, e2, ⟨⟨hv, hp, hk, hd⟩, hz, hkk⟩, st⟩ := hr T hT X
  cases hv
  rw [h0] at hz hkk
  obtain ⟨t2, a1, b1⟩ := kk T'.heap (locs ++ L) (by rw [e1]; exact hp) (hd.weaken (fun _ _ _ h => hF _ h))
    ⟨Nat.le_trans hS.1 (by rw [e1]; exact hz), fun q h1 h2 => by rw [e1, hkk q (Nat.lt_of_lt_of_le h1 hS.1) (fun z => h2 (hF q z))]; exact hS.2.1 q h1 h2, fun q hq => by
      rcases List.mem_append.mp hq with h | h
      · exact hS.2.2 q h
      · exact hF _ (hL q h)⟩ T' rfl X'
  exact ⟨t2, st t2 a1, b1⟩
theorem fb_blind (zm : fb_mv Z) {av : List Value} {sz : Nat} : FrameBlind (va_Pc av (fb_pre D cl tys wx Z st sz)) := by
  intro a U g mk q
  obtain ⟨q0, q1, qP, qK, qD, qZ⟩ := q
  exact ⟨q0, q1, qP, va_K.moved (u := U) (U := U.calling g mk a) (Vm.Alike.refl U.vm) qK, qD, zm _ _ U (U.calling g mk a) U.heap U.heap (State.WarmedH.refl U) (fun _ _ _ => rfl) (fun _ h => h) qZ⟩
theorem fb_preU (zm : fb_mv Z) (hZ : Z A s s.heap) (hK : va_K D cl tys s) (hP : va_P D cl (wx st) H) (hD : va_D A (wx st)) (hS : va_S A s.heap H locs) (hA : ∀ q, s.heap.size ≤ q → A q) {av : List Value} : ∀ U : State, U.heap = H → s.WarmedH U.vm → va_Pc av (fb_pre D cl tys wx Z st H.size) av.toArray U := by
  intro U hU hW
  exact ⟨rfl, by rw [hU], by rw [hU]; exact hP, va_K.moved hW.alike hK, hD.weaken (fun _ _ _ _ => trivial), zm _ _ s U s.heap U.heap hW (fun a h1 h2 => by rw [hU]; exact hS.2.1 a h1 h2) (fb_free hD hS hA) hZ⟩
variable {y : MethodName} {bytes : ByteArray} {maxL nL n index : Nat} {ret : Option FieldType} {ws ws' : List Cond} {rm : Room} {Ts : List Cond} {own C : String} {b : Nat} {As : List Value} {v : Option Value}
theorem fb_callV (S : CallFix p m c cc nL s args Ts own) (zm : fb_mv Z) (hZ : Z A s s.heap) (hK : va_K D cl tys s) (hP : va_P D cl (wx st) H) (hD : va_D A (wx st)) (hS : va_S A s.heap H locs) (hA : ∀ q, s.heap.size ≤ q → A q)
    (hM : fb_M l y ws rm D cl tys wx Z (.ref b :: As) v st u) (cw : CallW R s args own C index y bytes maxL ret ws rm 0 0 n) (ci q0 : Nat) {qc : vw_C} {fs : List Value} (hc : cl[ci]? = some qc) (hq : qc.1 = C) (he : (wx st)[q0]? = some (b, .inr (ci, fs)))
    (hn : As.length = n) (hl : ls.size = nL) (hstack : st0 = As.reverse ++ .ref b :: rest) (hW : (rest.map fun v => v.category).sum ≤ 8) (hdg : decode cc pc = .ok (.invokevirtual index, 3)) (hf : cells ≤ R.cells ∧ slots ≤ R.slots)
    (kk : ∀ (H1 : Heap) (locs1 : List Loc), va_P D cl (wx u) H1 → va_D A (wx u) → va_S A s.heap H1 locs1 → W p l e R s m args below meth c H1 locs1 cells slots Q (F0 m (pc + 3) ls (v.toList ++ rest))) : W p l e R s m args below meth c H locs cells slots Q (F0 m pc ls st0) := by
  subst hq
  exact fb_back (va_runV S (hM H.size) cw ⟨fb_blind zm, va_recv hK hP hc he, fb_preU zm hZ hK hP hD hS hA⟩ rfl hn hl hstack (lv_room hW) hdg hf) hD hS hA kk
theorem fb_callS (S : CallFix p m c cc nL s args Ts own) (zm : fb_mv Z) (hZ : Z A s s.heap) (hK : va_K D cl tys s) (hP : va_P D cl (wx st) H) (hD : va_D A (wx st)) (hS : va_S A s.heap H locs) (hA : ∀ q, s.heap.size ≤ q → A q)
    (hM : fb_M l y ws rm D cl tys wx Z As v st u) (cw : CallB R s args own index y bytes maxL ret ws rm 0 0 n ∧ (Cond.static y).before args s = true)
    (hn : As.length = n) (hl : ls.size = nL) (hstack : st0 = As.reverse ++ rest) (hW : (rest.map fun v => v.category).sum ≤ 8) (hdg : decode cc pc = .ok (.invokestatic index, 3)) (hf : cells ≤ R.cells ∧ slots ≤ R.slots)
    (kk : ∀ (H1 : Heap) (locs1 : List Loc), va_P D cl (wx u) H1 → va_D A (wx u) → va_S A s.heap H1 locs1 → W p l e R s m args below meth c H1 locs1 cells slots Q (F0 m (pc + 3) ls (v.toList ++ rest))) : W p l e R s m args below meth c H locs cells slots Q (F0 m pc ls st0) :=
  fb_back (va_runS S (hM H.size) cw ⟨fb_blind zm, fb_preU zm hZ hK hP hD hS hA⟩ rfl hn hl hstack (lv_room hW) hdg hf) hD hS hA kk
/-- the entry of a method in a world -/
theorem fb_enter {av : List Value} (hy : plainName y.cls = true) (hw : ws = Cond.code y cc maxL ret :: lw_g) (hav : (lg_sl av).length ≤ maxL)
    (body : ∀ (p : Program) (e : Env) (s : State) (m : MethodId) (below : List Frame) (meth : Method) (c : Code) (A : Nat → Prop), fb_C p s m av.toArray meth c cc ret maxL y.cls D cl tys A Z → va_P D cl (wx st) s.heap → va_D A (wx st) → va_S A s.heap s.heap [] → ∀ ls : Array Slot, lv_has ls maxL (lv_args 0 av) → W p l e (headSpec ws rm).room s m av.toArray below meth c s.heap [] 0 0 (MQ below (fb_Q D cl tys wx A v u) av.toArray s 0 0 A) (F0 m 0 ls [])) : fb_M l y ws rm D cl tys wx Z av v st u := by
  intro sz
  refine Met.ofW (cc := cc) (maxL := maxL) (ret := ret) hy hw ?_
  intro p e s m args below meth c s₁ B hml hv
  obtain ⟨rfl, hsz, hP, hK, hD0, hZ⟩ := hv
  subst hsz
  have hl := lv_entry av (n := maxL) hav
  rw [lg_entry_eq]
  exact body p e s m below meth c _ ⟨B.exec, B.bytes, B.returns, hml, findClass_of_methodNamed B.named, fun w h => atoms_spec (ws := ws) B.pre w (by rw [hw]; exact List.mem_cons_of_mem _ h), hK, fun q h => Or.inr h, B.notSynchronized, hZ⟩ hP (hD0.self (sz := s.heap.size)) va_S.rf _ hl
theorem fb_ri {x : Int32} {o : Int32 × fb_S} (hx : p.tables.exec = Jvm.exec) (hb : c.code = cc) (hr : meth.sig.returnType = some .int) (hlocks : meth.locks = false) (hK : va_K D cl tys s) (hP : va_P D cl (wx st) H) (hD : va_D A (wx st)) (hS : va_S A s.heap H locs) (hF : some (x, st) = some o) (hdg : decode cc pc = .ok (.ireturn, 1)) : W p l e R s m args below meth c H locs 0 0 (MQ below (fb_Q D cl tys wx A (some (.int o.1)) o.2) args s 0 0 A) (F0 m pc ls [.int x]) := by
  cases hF
  exact W.iret hx hb hr (fun t ht hW => ⟨⟨rfl, by rw [ht]; exact hP, va_K.moved hW.alike hK, hD⟩, hS.F ht⟩) hS.2.2 hdg hlocks
theorem fb_rzn {x : Int32} (h : x = 0 ∨ x = 1) : narrow .boolean (.int x) = .int x := by
  rcases h with rfl | rfl <;> rfl
theorem fb_rb {x : Int32} {o : Int32 × fb_S} (hx : p.tables.exec = Jvm.exec) (hb : c.code = cc) (hr : meth.sig.returnType = some .boolean) (hlocks : meth.locks = false) (hK : va_K D cl tys s) (hP : va_P D cl (wx st) H) (hD : va_D A (wx st)) (hS : va_S A s.heap H locs) (hF : fb_rz x st = some o) (hdg : decode cc pc = .ok (.ireturn, 1)) : W p l e R s m args below meth c H locs 0 0 (MQ below (fb_Q D cl tys wx A (some (.int o.1)) o.2) args s 0 0 A) (F0 m pc ls [.int x]) := by
  unfold fb_rz at hF
  split at hF
  · rename_i h
    cases hF
    exact W.zret hx hb hr (fb_rzn h) (fun t ht hW => ⟨⟨rfl, by rw [ht]; exact hP, va_K.moved hW.alike hK, hD⟩, hS.F ht⟩) hS.2.2 hdg hlocks
  · cases hF
theorem fb_rv {x : Int32} {o : Int32 × fb_S} (hx : p.tables.exec = Jvm.exec) (hb : c.code = cc) (hr : meth.sig.returnType = none) (hlocks : meth.locks = false) (hK : va_K D cl tys s) (hP : va_P D cl (wx st) H) (hD : va_D A (wx st)) (hS : va_S A s.heap H locs) (hF : some (x, st) = some o) (hdg : decode cc pc = .ok (.return_, 1)) : W p l e R s m args below meth c H locs 0 0 (MQ below (fb_Q D cl tys wx A none o.2) args s 0 0 A) (F0 m pc ls []) := by
  cases hF
  exact W.vret hx hb hr (fun t ht hW => ⟨⟨rfl, by rw [ht]; exact hP, va_K.moved hW.alike hK, hD⟩, hS.F ht⟩) hS.2.2 hdg hlocks
theorem fb_ldS {f : Nat → Int32} {n : Nat} {i v : Int32} (h : fb_ld f n i = some v) : vp_in i n ∧ v = f i.toNatClampNeg := by
  unfold fb_ld at h
  split at h
  · cases h
  · rename_i h2
    cases h
    exact ⟨h2, rfl⟩
theorem fb_stS {st st1 : fb_S} {k n : Nat} {i x : Int32} (h : fb_st st k n i x = some st1) : vp_in i n ∧ st1 = va_up st k (upd (st k) i.toNatClampNeg x) := by
  unfold fb_st at h
  split at h
  · cases h
  · rename_i h2
    cases h
    exact ⟨h2, rfl⟩
theorem fb_iald (hx : p.tables.exec = Jvm.exec) (hb : c.code = cc) (hK : va_K D cl tys s) {w : va_W} (hP : va_P D cl w H) (q0 t0 : Nat) {a : Nat} {cA : ClassId} {n : Nat} {f : Nat → Int32} (ha : w[q0]? = some (a, .inl (cA, n, .inl f))) (ht : tys[t0]? = some (cA, .int)) {i x : Int32} (hF : fb_ld f n i = some x) (hdg : decode cc pc = .ok (.iaload, 1)) (kk : W p l e R s m args below meth c H locs cells slots Q (F0 m (pc + 1) ls (.int x :: rest))) : W p l e R s m args below meth c H locs cells slots Q (F0 m pc ls (.int i :: .ref a :: rest)) := by
  obtain ⟨h1, h2⟩ := fb_ldS hF
  subst h2
  exact va_iald hx hb hK hP q0 t0 ha ht h1 hdg kk
theorem fb_bald (hx : p.tables.exec = Jvm.exec) (hb : c.code = cc) (hK : va_K D cl tys s) {w : va_W} (hP : va_P D cl w H) (q0 t0 : Nat) {a : Nat} {cA : ClassId} {n : Nat} {f : Nat → Int32} (ha : w[q0]? = some (a, .inl (cA, n, .inl f))) (ht : tys[t0]? = some (cA, .byte)) {i x : Int32} (hF : fb_ld f n i = some x) (hdg : decode cc pc = .ok (.baload, 1)) (kk : W p l e R s m args below meth c H locs cells slots Q (F0 m (pc + 1) ls (.int x :: rest))) : W p l e R s m args below meth c H locs cells slots Q (F0 m pc ls (.int i :: .ref a :: rest)) := by
  obtain ⟨h1, h2⟩ := fb_ldS hF
  subst h2
  exact va_bald hx hb hK hP q0 t0 ha ht h1 hdg kk
theorem fb_zald (hx : p.tables.exec = Jvm.exec) (hb : c.code = cc) (hK : va_K D cl tys s) {w : va_W} (hP : va_P D cl w H) (q0 t0 : Nat) {a : Nat} {cA : ClassId} {n : Nat} {f : Nat → Int32} (ha : w[q0]? = some (a, .inl (cA, n, .inl f))) (ht : tys[t0]? = some (cA, .boolean)) {i x : Int32} (hF : fb_ld f n i = some x) (hdg : decode cc pc = .ok (.baload, 1)) (kk : W p l e R s m args below meth c H locs cells slots Q (F0 m (pc + 1) ls (.int x :: rest))) : W p l e R s m args below meth c H locs cells slots Q (F0 m pc ls (.int i :: .ref a :: rest)) := by
  obtain ⟨h1, h2⟩ := fb_ldS hF
  subst h2
  exact va_zald hx hb hK hP q0 t0 ha ht h1 hdg kk
theorem fb_iast (hx : p.tables.exec = Jvm.exec) (hb : c.code = cc) (hK : va_K D cl tys s) (hP : va_P D cl (wx st) H) (hD : va_D A (wx st)) (hS : va_S A H0 H locs) (q0 t0 : Nat) {a k : Nat} {cA : ClassId} {n : Nat} (ha : (wx st)[q0]? = some (a, .inl (cA, n, .inl (st k)))) (ht : tys[t0]? = some (cA, .int)) {i x : Int32} (hF : fb_st st k n i x = some u) (hset : ∀ f : Nat → Int32, (wx st).set q0 (a, .inl (cA, n, .inl f)) = wx (va_up st k f)) (hdg : decode cc pc = .ok (.iastore, 1))
    (kk : ∀ (H1 : Heap) (locs1 : List Loc), va_P D cl (wx u) H1 → va_D A (wx u) → va_S A H0 H1 locs1 → W p l e R s m args below meth c H1 locs1 cells slots Q (F0 m (pc + 1) ls rest)) : W p l e R s m args below meth c H locs cells slots Q (F0 m pc ls (.int x :: .int i :: .ref a :: rest)) := by
  obtain ⟨h1, h2⟩ := fb_stS hF
  subst h2
  exact va_iast hx hb hK hP hD hS q0 t0 ha ht h1 hdg (fun H1 locs1 k1 k2 k3 => kk H1 locs1 (by rw [hset] at k1; exact k1) (by rw [hset] at k2; exact k2) k3)
theorem fb_bast (hx : p.tables.exec = Jvm.exec) (hb : c.code = cc) (hK : va_K D cl tys s) (hP : va_P D cl (wx st) H) (hD : va_D A (wx st)) (hS : va_S A H0 H locs) (q0 t0 : Nat) {a k : Nat} {cA : ClassId} {n : Nat} (ha : (wx st)[q0]? = some (a, .inl (cA, n, .inl (st k)))) (ht : tys[t0]? = some (cA, .byte)) {i x : Int32} (hF : fb_st st k n i (fb_b x) = some u) (hset : ∀ f : Nat → Int32, (wx st).set q0 (a, .inl (cA, n, .inl f)) = wx (va_up st k f)) (hdg : decode cc pc = .ok (.bastore, 1))
    (kk : ∀ (H1 : Heap) (locs1 : List Loc), va_P D cl (wx u) H1 → va_D A (wx u) → va_S A H0 H1 locs1 → W p l e R s m args below meth c H1 locs1 cells slots Q (F0 m (pc + 1) ls rest)) : W p l e R s m args below meth c H locs cells slots Q (F0 m pc ls (.int x :: .int i :: .ref a :: rest)) := by
  obtain ⟨h1, h2⟩ := fb_stS hF
  subst h2
  exact va_bast hx hb hK hP hD hS q0 t0 ha ht h1 hdg (fun H1 locs1 k1 k2 k3 => kk H1 locs1 (by rw [hset] at k1; exact k1) (by rw [hset] at k2; exact k2) k3)
theorem fb_ti {t N : Nat} {f : Nat → Int32} (hx : p.tables.exec = Jvm.exec) (hb : c.code = cc) (hT : va_T .int t N (fun j => .int (f j)) A s s.heap) (hS : va_S A s.heap H locs) {i x : Int32} (hF : fb_ld f N i = some x) (hdg : decode cc pc = .ok (.iaload, 1)) (kk : W p l e R s m args below meth c H locs cells slots Q (F0 m (pc + 1) ls (.int x :: rest))) : W p l e R s m args below meth c H locs cells slots Q (F0 m pc ls (.int i :: .ref t :: rest)) := by
  obtain ⟨h1, h2⟩ := fb_ldS hF
  subst h2
  exact va_ti hx hb hT hS h1 rfl hdg kk
theorem fb_tb {t N : Nat} {f : Nat → Int32} (hx : p.tables.exec = Jvm.exec) (hb : c.code = cc) (hT : va_T .byte t N (fun j => .int (f j)) A s s.heap) (hS : va_S A s.heap H locs) {i x : Int32} (hF : fb_ld f N i = some x) (hdg : decode cc pc = .ok (.baload, 1)) (kk : W p l e R s m args below meth c H locs cells slots Q (F0 m (pc + 1) ls (.int x :: rest))) : W p l e R s m args below meth c H locs cells slots Q (F0 m pc ls (.int i :: .ref t :: rest)) := by
  obtain ⟨h1, h2⟩ := fb_ldS hF
  subst h2
  exact va_tb hx hb hT hS h1 rfl hdg kk
theorem fb_zast (hx : p.tables.exec = Jvm.exec) (hb : c.code = cc) (hK : va_K D cl tys s) (hP : va_P D cl (wx st) H) (hD : va_D A (wx st)) (hS : va_S A H0 H locs) (q0 t0 : Nat) {a k : Nat} {cA : ClassId} {n : Nat} (ha : (wx st)[q0]? = some (a, .inl (cA, n, .inl (st k)))) (ht : tys[t0]? = some (cA, .boolean)) {i x : Int32} (hF : fb_st st k n i (x &&& 1) = some u) (hset : ∀ f : Nat → Int32, (wx st).set q0 (a, .inl (cA, n, .inl f)) = wx (va_up st k f)) (hdg : decode cc pc = .ok (.bastore, 1))
    (kk : ∀ (H1 : Heap) (locs1 : List Loc), va_P D cl (wx u) H1 → va_D A (wx u) → va_S A H0 H1 locs1 → W p l e R s m args below meth c H1 locs1 cells slots Q (F0 m (pc + 1) ls rest)) : W p l e R s m args below meth c H locs cells slots Q (F0 m pc ls (.int x :: .int i :: .ref a :: rest)) := by
  obtain ⟨h1, h2⟩ := fb_stS hF
  subst h2
  exact va_zast hx hb hK hP hD hS q0 t0 ha ht h1 hdg (fun H1 locs1 k1 k2 k3 => kk H1 locs1 (by rw [hset] at k1; exact k1) (by rw [hset] at k2; exact k2) k3)
end FB

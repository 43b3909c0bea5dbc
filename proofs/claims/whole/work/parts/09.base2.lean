/-- the same with cells that the method has made -/
def fb_Gk (k n : Nat) (p : Program) (l : Launch) (e : Env) (R : Room) (s : State) (m : MethodId) (args : Array Value) (below : List Frame) (meth : Method) (c : Code) (D : va_G) (cl : List vw_C) (tys : fb_Y) (wx : fb_S → va_W) (A : Nat → Prop) (v : Option Value) (u : fb_S) (pc nL : Nat) (loc : List (Nat × Value)) (stk : List Value) (st : fb_S) : Prop :=
  ∀ (H : Heap) (locs : List Loc), va_P D cl (wx st) H → va_D A (wx st) → va_S A s.heap H locs → ∀ ls : Array Slot, lv_has ls nL loc → W p l e R s m args below meth c H locs k n (MQ below (fb_Q D cl tys wx A v u) args s k n A) (F0 m pc ls stk)
section FB2
variable {p : Program} {l : Launch} {e : Env} {R : Room} {s : State} {m : MethodId} {args : Array Value} {below : List Frame} {meth : Method} {c : Code} {H : Heap} {locs : List Loc} {cells slots : Nat} {Q : State → Prop}
variable {cc : ByteArray} {pc : Nat} {ls : Array Slot} {D : va_G} {cl : List vw_C} {A : Nat → Prop} {tys : fb_Y} {wx : fb_S → va_W} {st : fb_S}
theorem fb_rvk {x : Int32} {o : Int32 × fb_S} (hx : p.tables.exec = Jvm.exec) (hb : c.code = cc) (hr : meth.sig.returnType = none) (hlocks : meth.locks = false) (hK : va_K D cl tys s) (hP : va_P D cl (wx st) H) (hD : va_D A (wx st)) (hS : va_S A s.heap H locs) (hF : some (x, st) = some o) (hdg : decode cc pc = .ok (.return_, 1)) : W p l e R s m args below meth c H locs cells slots (MQ below (fb_Q D cl tys wx A none o.2) args s cells slots A) (F0 m pc ls []) := by
  cases hF
  exact W.vret hx hb hr (fun t ht hW => ⟨⟨rfl, by rw [ht]; exact hP, va_K.moved hW.alike hK, hD⟩, hS.F ht⟩) hS.2.2 hdg hlocks
theorem W.post {g : JFrame} {Q' : State → Prop} (h : ∀ t, Q t → Q' t) (k : W p l e R s m args below meth c H locs cells slots Q g) : W p l e R s m args below meth c H locs cells slots Q' g := by
  intro T hT X
  obtain ⟨t, a, b⟩ := k T hT X
  exact ⟨t, a, h t b⟩
end FB2

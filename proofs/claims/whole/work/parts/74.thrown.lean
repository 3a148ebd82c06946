/-! methods that throw: their contracts, their entry -/
def sr_MetT (l : Launch) (y : MethodName) (ws : List Cond) (rm : Room) (Pc : Array Value → State → Prop) (QT : State → Addr → State → Prop) (mc ms : Nat) (free : Addr → Prop) : Prop :=
  MetFree l y (headSpec ws rm) Pc (fun _ _ _ _ _ => True) (fun _ st o t => ∃ x, o = .threw x ∧ QT st x t ∧ st.WarmedH t.vm ∧ ∃ L, st.sameButNew ({ t with vm := st.vm } : State) L mc ms ∧ ∀ q ∈ L, free q.base)
abbrev sr_IAE : String := "java/lang/IllegalArgumentException"
abbrev sr_ISE : String := "java/lang/IllegalStateException"
abbrev sr_IOE : String := "java/lang/IndexOutOfBoundsException"
/-- the texts of the exceptions -/
def sr_S (strs : List (Nat × String)) (U : State) : Prop := ∀ z ∈ strs, ∃ q, vk_R "StrokeRaster" z.1 z.2 q U
theorem sr_S.warm {strs : List (Nat × String)} {s U : State} (hW : s.WarmedH U.vm) (h : sr_S strs s) : sr_S strs U := fun z hz => by
  obtain ⟨q, hq⟩ := h z hz
  exact ⟨q, hq.warm hW⟩
theorem sr_S.same {strs : List (Nat × String)} {s U : State} (hv : U.vm = s.vm) (h : sr_S strs s) : sr_S strs U := fun z hz => by
  obtain ⟨q, hq⟩ := h z hz
  exact ⟨q, hq.same hv⟩
theorem sr_Z.to {A B : Nat → Prop} {s U : State} {H : Heap} (h : sr_Z A s) (hW : s.vm.Alike U.vm) (hU : U.heap = H) (hk : ∀ q : Nat, q < s.heap.size → ¬ A q → H[q]? = s.heap[q]?) (hAB : ∀ q, B q → A q) : sr_Z B U := by
  refine ⟨?_, ?_, fun w hw => sr_faceM hw hW (h.2.2 w hw)⟩
  · rw [hU]; exact (sr_Zc.moved hW (h.1.kept hk)).narrow hAB
  · rw [hU]; exact (sr_Zc.moved hW (h.2.1.kept hk)).narrow hAB
/-- what a method finds that may throw, or that catches -/
def sr_V (D : va_G) (cl : List vw_C) (tys : List (ClassId × FieldType)) (ns : List Cond) (strs : List (Nat × String)) (w0 : va_W) (sz : Nat) (U : State) : Prop :=
  sr_U D cl tys ns w0 sz U ∧ sr_Z (va_A w0 sz) U ∧ sr_S strs U ∧ va_Nc sr_ISE sr_IAE U
theorem sr_blindV {D : va_G} {cl : List vw_C} {tys : List (ClassId × FieldType)} {ns : List Cond} (hns : ∀ w ∈ ns, sr_isN w = true) {strs : List (Nat × String)} {w0 : va_W} {sz : Nat} {av : List Value} : FrameBlind (va_Pc av (sr_V D cl tys ns strs w0 sz)) := by
  intro a U g mk q
  obtain ⟨q0, q1, q2, q3, q4⟩ := q
  exact ⟨q0, (sr_blind hns (av := av) a U g mk ⟨q0, q1⟩).2, sr_Z.to (A := va_A w0 sz) (s := U) (U := U.calling g mk a) q2 (Vm.Alike.refl U.vm) rfl (fun _ _ _ => rfl) (fun _ h => h), sr_S.same (s := U) (U := U.calling g mk a) rfl q3, va_Nc.moved (u := U) (U := U.calling g mk a) (Vm.Alike.refl U.vm) q4⟩
theorem sr_enterT {l : Launch} {y : MethodName} {ws ws' : List Cond} {rm : Room} {cc : ByteArray} {maxL : Nat} {ret : Option FieldType} {D : va_G} {cl : List vw_C} {tys : List (ClassId × FieldType)} {ns : List Cond} {strs : List (Nat × String)} {av : List Value} {sz : Nat} {w0 : va_W} {QT : (Nat → Prop) → State → Addr → State → Prop} {mc ms : Nat}
    (hy : plainName y.cls = true) (hw : ws = Cond.code y cc maxL ret :: ws') (hlen : (lg_sl av).length ≤ maxL)
    (body : ∀ (p : Program) (e : Env) (s : State) (m : MethodId) (below : List Frame) (meth : Method) (c : Code) (A : Nat → Prop) (ls : Array Slot), p.tables.exec = Jvm.exec → c.code = cc → meth.sig.returnType = ret → c.maxLocals = maxL → s.vm.findClass y.cls = some m.cls → meth.locks = false → meth.name = y.name → (∀ w ∈ ws, w.before av.toArray s = true) → s.heap.size = sz → va_P D cl w0 s.heap → va_K D cl tys s → va_D A w0 → sr_N ns s → (∀ q, s.heap.size ≤ q → A q) → va_S A s.heap s.heap [] → lv_has ls maxL (lv_args 0 av) → c.exceptionTable.isEmpty = true → sr_Z A s → sr_S strs s → W p l e rm s m av.toArray below meth c s.heap [] 0 0 (sr_MQT below (QT A) s mc ms A) (F0 m 0 ls [])) :
    sr_MetT l y ws rm (va_Pc av (sr_V D cl tys ns strs w0 sz)) (QT (va_A w0 sz)) mc ms (va_A w0 sz) := by
  refine MetFree.of_bodyS (code := cc) (maxLocals := maxL) (ret := ret) hy ?_ ?_
  · intro args s m h hn
    obtain ⟨meth, c, h1, h2, h3, h4, h5, h6, -, -⟩ := Cond.code_spec hn (atoms_spec (ws := ws) h _ (by rw [hw]; exact List.mem_cons_self))
    exact ⟨meth, c, h1, h2, h3, h4, h5, h6⟩
  · intro p e s m args below meth c s₁ B hml hv _
    obtain ⟨rfl, ⟨hsz, hP, hK, hD0, hN⟩, hZ, hR, -⟩ := hv
    have hts := atoms_spec (ws := ws) B.pre
    have hown : s.vm.findClass y.cls = some m.cls := findClass_of_methodNamed B.named
    have hin : meth.name = y.name := (name_of_methodNamed B.named B.method).1
    have hout := B.noHandlers (hts _ (by rw [hw]; exact List.mem_cons_self))
    subst hsz
    have hD := hD0.self (sz := s.heap.size)
    have hl := lv_entry av (n := maxL) hlen
    have hh0 : s₁.heap = s.heap := by rw [B.state]; rfl
    rw [lg_entry_eq]
    obtain ⟨t, a1, x, b1, b2, b3, b4, b5⟩ := body p e s m below meth c _ _ B.exec B.bytes B.returns hml hown B.notSynchronized hin hts rfl hP hK hD hN (fun q h => Or.inr h) va_S.rf hl hout hZ hR s₁ hh0 (Stand.of_body B)
    exact ⟨t, .threw x, a1, b1, b2, x, rfl, b3, b4, b5⟩
/-- entry of a method with an exception table -/
theorem sr_enterW {l : Launch} {y : MethodName} {ws ws' : List Cond} {rm : Room} {cc : ByteArray} {maxL : Nat} {ret : Option FieldType} {hh : List (Nat × Nat × Nat × Nat)} {D : va_G} {cl : List vw_C} {tys : List (ClassId × FieldType)} {ns : List Cond} {strs : List (Nat × String)} {av : List Value} {sz : Nat} {w0 : va_W} {Qf : (Nat → Prop) → Array Value → State → Outcome → State → Prop} {mc ms : Nat}
    (hy : plainName y.cls = true) (hw : ws = Cond.codeWith y cc maxL ret hh :: ws') (hlen : (lg_sl av).length ≤ maxL)
    (body : ∀ (p : Program) (e : Env) (s : State) (m : MethodId) (below : List Frame) (meth : Method) (c : Code) (A : Nat → Prop) (ls : Array Slot), p.tables.exec = Jvm.exec → c.code = cc → meth.sig.returnType = ret → c.maxLocals = maxL → s.vm.findClass y.cls = some m.cls → meth.locks = false → meth.name = y.name → (∀ w ∈ ws, w.before av.toArray s = true) → s.heap.size = sz → va_P D cl w0 s.heap → va_K D cl tys s → va_D A w0 → sr_N ns s → (∀ q, s.heap.size ≤ q → A q) → va_S A s.heap s.heap [] → lv_has ls maxL (lv_args 0 av) → c.exceptionTable.toList.map (fun h => (h.startPc, h.endPc, h.handlerPc, h.catchType)) = hh → sr_Z A s → sr_S strs s → va_Nc sr_ISE sr_IAE s → W p l e rm s m av.toArray below meth c s.heap [] 0 0 (MQ below (Qf A) av.toArray s mc ms A) (F0 m 0 ls [])) :
    Met l y ws rm (va_Pc av (sr_V D cl tys ns strs w0 sz)) (Qf (va_A w0 sz)) mc ms (va_A w0 sz) := by
  refine va_MetW (cc := cc) (maxL := maxL) (ret := ret) hy hw ?_
  intro p e s m args below meth c s₁ B hml hv
  obtain ⟨rfl, ⟨hsz, hP, hK, hD0, hN⟩, hZ, hR, hNc⟩ := hv
  have hts := atoms_spec (ws := ws) B.pre
  have hown : s.vm.findClass y.cls = some m.cls := findClass_of_methodNamed B.named
  have hin : meth.name = y.name := (name_of_methodNamed B.named B.method).1
  have htab : c.exceptionTable.toList.map (fun h => (h.startPc, h.endPc, h.handlerPc, h.catchType)) = hh := by
    obtain ⟨m9, meth9, c9, hn9, h1, h2, -, -, h5, -⟩ := Cond.codeWith_spec (hts (Cond.codeWith y cc maxL ret hh) (by rw [hw]; exact List.mem_cons_self))
    cases B.named.symm.trans hn9
    cases B.method.symm.trans h1
    cases (Stand.of_body B).code.symm.trans h2
    exact h5
  subst hsz
  have hD := hD0.self (sz := s.heap.size)
  have hl := lv_entry av (n := maxL) hlen
  rw [lg_entry_eq]
  exact body p e s m below meth c _ _ B.exec B.bytes B.returns hml hown B.notSynchronized hin hts rfl hP hK hD hN (fun q h => Or.inr h) va_S.rf hl htab hZ hR hNc

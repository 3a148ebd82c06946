/-! a throw: the walk begun anew at the state at hand; a new object of an exception's class; it leaves the method -/
section SrThrow
variable {p : Program} {l : Launch} {e : Env} {R : Room} {s : State} {m : MethodId} {args : Array Value} {below : List Frame} {meth : Method} {c : Code}
theorem sr_rebase {T : State} {locs : List Loc} {cells slots : Nat} (X : Stand p l e R s m args below meth c T locs cells slots) (hc : cells ≤ R.cells) (hs : slots ≤ R.slots) :
    Stand p l e ({ frames := R.frames, cells := R.cells - cells, slots := R.slots - slots, locals := R.locals } : Room) (T.setFrames (.invoking m args :: below)) m args below meth c T [] 0 0 := by
  obtain ⟨g₀, hr⟩ := X.frames_eq
  obtain ⟨th, hth, -⟩ := State.frames_cons hr
  have hcur : T.cur < T.threads.size := (Array.getElem?_eq_some_iff.mp hth).1
  have hF : (T.setFrames (.invoking m args :: below)).frames = .invoking m args :: below := State.frames_setFrames _ hcur
  obtain ⟨r1, r2, r3, r4⟩ := State.hasRoom_stack X.room
  have r5 := State.hasRoom_real X.room
  have r6 := State.hasRoom_plain X.room
  obtain ⟨r7, r8⟩ := State.hasRoom_heap X.room
  rw [State.localsInUse_invoking X.frames X.method X.code] at r3 r4 r5
  rw [X.frames] at r1 r2
  have hU := State.localsInUse_invoking hF X.method' X.code
  refine ⟨X.admits, X.cas, X.clock, hF, ?_, ?_, X.method', X.code, X.here, X.tail, State.WarmedH.refl _, (State.stackLimits_setFrames _ _ _).symm, (State.stackBytes_setFrames _ _).symm, ?_⟩
  · simp only [State.hasRoom, Bool.and_eq_true, decide_eq_true_eq, hF, hU, State.stackLimits_setFrames, State.stackBytes_setFrames, X.limits, X.bytes]
    have h1 := X.heapSize
    have h2 := X.used
    refine ⟨⟨⟨⟨r5, r1, r2, r3, r4, r6⟩, ?_⟩, ?_⟩, X.book⟩
    · show T.heap.size + (R.cells - cells) ≤ _
      omega
    · show T.slotsUsed + (R.slots - slots) ≤ _
      omega
  · have h := X.hears
    have hm : ∀ q, T.vm.method? q = s.vm.method? q := X.warmed.alike.method?
    have hcode : ∀ q, (T.setFrames (.invoking m args :: below)).code? q = s.code? q := by
      intro q
      rw [State.code?_eq, State.code?_eq]
      show (T.vm.method? q).bind _ = _
      rw [hm]
    have hm2 : (T.setFrames (.invoking m args :: below)).vm.method? m = s.vm.method? m := hm m
    rw [← h]
    generalize T.setFrames (.invoking m args :: below) = U at hcode hm2
    unfold State.hears
    split <;> simp only [hcode, hm2]
  · obtain ⟨th', hth', -⟩ := State.frames_cons hF
    have h := (State.sameButNew.refl (T.setFrames (.invoking m args :: below)) hth').setFrames T.frames (State.cur_lt_of_frames hF)
    rw [State.setFrames_setFrames, State.setFrames_self hth] at h
    exact h
/-- a static that holds a reference or null, all that is laid of it -/
def sr_Zc (C n d : String) (A : Nat → Prop) (U : State) (H : Heap) : Prop := ∃ (c : ClassId) (k : Class) (i : Nat) (f : Field) (a : Nat) (cell : Cell) (v : Value), U.vm.findClass C = some c ∧ U.fieldFound? C n d = some (c, k, i, f) ∧ f.isStatic = true ∧ k.statics = some a ∧ H[a]? = some cell ∧ cell.vm.isStatics = true ∧ cell.cls = c ∧ f.slot < cell.slots.size ∧ k.staticTypes[f.slot]? = some f.type ∧ cell.slots[f.slot]? = some v ∧ v.isRef = true ∧ ¬ A a
theorem sr_Zc.moved {C n d : String} {A : Nat → Prop} {u U : State} {H : Heap} (hvm : u.vm.Alike U.vm) (h : sr_Zc C n d A u H) : sr_Zc C n d A U H := by
  obtain ⟨c, k, i, f, a, cell, v, h0, h1, h2, h3, h4, h5, h6, h7, h8, h9, h10, h11⟩ := h
  obtain ⟨k', hi', he⟩ := State.fieldFound?_setVm hvm h1
  exact ⟨c, k', i, f, a, cell, v, by rw [hvm.findClass]; exact h0, hi', h2, by rw [he]; exact h3, h4, h5, h6, h7, by rw [he]; exact h8, h9, h10, h11⟩
theorem sr_Zc.kept {C n d : String} {A : Nat → Prop} {U : State} {H H1 : Heap} (h : sr_Zc C n d A U H) (hq : ∀ a : Nat, a < H.size → ¬ A a → H1[a]? = H[a]?) : sr_Zc C n d A U H1 := by
  obtain ⟨c, k, i, f, a, cell, v, h0, h1, h2, h3, h4, h5, h6, h7, h8, h9, h10, h11⟩ := h
  exact ⟨c, k, i, f, a, cell, v, h0, h1, h2, h3, by rw [hq a (Array.getElem?_eq_some_iff.mp h4).1 h11]; exact h4, h5, h6, h7, h8, h9, h10, h11⟩
theorem sr_Zc.narrow {C n d : String} {A B : Nat → Prop} {U : State} {H : Heap} (h : sr_Zc C n d A U H) (hAB : ∀ q, B q → A q) : sr_Zc C n d B U H := by
  obtain ⟨c, k, i, f, a, cell, v, h0, h1, h2, h3, h4, h5, h6, h7, h8, h9, h10, h11⟩ := h
  exact ⟨c, k, i, f, a, cell, v, h0, h1, h2, h3, h4, h5, h6, h7, h8, h9, h10, fun z => h11 (hAB a z)⟩
theorem sr_Zc.of {args : Array Value} {s : State} {C n d : String} {A : Nat → Prop} (hl : (Cond.laysStatic C n d).before args s = true) (h : (Cond.isRef (.static C n d)).before args s = true) (hA : ∀ a : Nat, a < s.heap.size → ¬ A a) : sr_Zc C n d A s s.heap := by
  obtain ⟨c, k, i, f, a, cell, hc, hi, hst, ha, hcell, hs, hcls, hlt, hty⟩ := Cond.laysStatic_spec hl
  cases hv : (Term.static C n d).eval args s none [] s with
  | none => simp [Cond.before, Cond.holds, Cond.value, hv] at h
  | some w =>
    obtain ⟨hst', a', cell', ha', hcell', -, hslot⟩ := Term.static_spec hi hv
    cases ha.symm.trans ha'
    cases hcell.symm.trans hcell'
    refine ⟨c, k, i, f, a, cell, w, hc, hi, hst, ha, hcell, hs, hcls, hlt, hty, hslot, ?_, hA a (Array.getElem?_eq_some_iff.mp hcell).1⟩
    simp only [Cond.before, Cond.holds, Cond.value, hv] at h
    cases w <;> first | rfl | simp at h
theorem sr_Zc.isRef {C n d : String} {A : Nat → Prop} {U : State} {a : Array Value} (h : sr_Zc C n d A U U.heap) : (Cond.isRef (.static C n d)).before a U = true := by
  obtain ⟨c, k, i, f, q, cell, v, h0, h1, h2, h3, h4, h5, h6, h7, h8, h9, h10, h11⟩ := h
  cases v <;> first | (simp [Value.isRef] at h10; done) | simp [Cond.before, Cond.holds, Cond.value, Term.eval, State.fieldNamed?, h1, h2, h3, h4, h5, h9]
theorem sr_Zc.lays {C n d : String} {A : Nat → Prop} {U : State} {a : Array Value} (h : sr_Zc C n d A U U.heap) : (Cond.laysStatic C n d).before a U = true := by
  obtain ⟨c, k, i, f, q, cell, v, h0, h1, h2, h3, h4, h5, h6, h7, h8, h9, h10, h11⟩ := h
  simp [Cond.before, Cond.holds, Cond.value, h0, h1, h2, h3, h4, h5, h6, h7, h8]
def sr_face : List Cond := [.declares (Bundle.initS "java/lang/RuntimeException"), .declares (Bundle.initS "java/lang/Exception"), .declares (Bundle.initS Bundle.tN), .castable "java/lang/IllegalArgumentException" "java/lang/IllegalArgumentException", .castable "java/lang/IllegalStateException" "java/lang/IllegalStateException", .castable "java/lang/IndexOutOfBoundsException" "java/lang/IndexOutOfBoundsException"]
theorem sr_face_ok : ∀ w ∈ sr_face, w.onTables = true ∧ w.faceAtom = true := by decide +kernel
theorem sr_faceM {w : Cond} {s U : State} (hw : w ∈ sr_face) (hvm : s.vm.Alike U.vm) (h : va_Nw w s) : va_Nw w U := va_tabs (sr_face_ok w hw).1 (rfl : (s.setVm U.vm).vm = U.vm) (Cond.faceAtom_setVm hvm w (sr_face_ok w hw).2 h)
/-- what the thrown object is, and that the cells stayed -/
def sr_T (X : String) (D : va_G) (cl : List vw_C) (A : Nat → Prop) (w0 : va_W) : State → Addr → State → Prop := fun st x t =>
  (∃ ce : Cell, t.heap[x]? = some ce ∧ st.vm.findClass X = some ce.cls ∧ ce.vm = .none) ∧ va_P D cl w0 t.heap ∧ va_D A w0 ∧ va_F A st t
/-- the end of a method that throws -/
def sr_MQT (below : List Frame) (QT : State → Addr → State → Prop) (s : State) (mc ms : Nat) (free : Addr → Prop) : State → Prop := fun t =>
  ∃ x, t.status = .running ∧ Ended t below (.threw x) ∧ QT s x t ∧ s.WarmedH t.vm ∧ ∃ L, s.sameButNew ({ t with vm := s.vm } : State) L mc ms ∧ ∀ q ∈ L, free q.base
abbrev sr_zU : Cond := .isRef (.static Bundle.tN "UNASSIGNED_STACK" Bundle.steD)
abbrev sr_zS : Cond := .isRef (.static Bundle.tN "SUPPRESSED_SENTINEL" Bundle.listD)
def sr_up : List String := ["java/lang/RuntimeException", "java/lang/Exception"]
def sr_thw (own : String) (ix ic : Nat) (X : String) : List Cond := Cond.classLink own ix X :: Cond.initialized X :: Bundle.ownAtoms own ic X sr_up
abbrev sr_lU : Cond := .laysStatic Bundle.tN "UNASSIGNED_STACK" Bundle.steD
abbrev sr_lS : Cond := .laysStatic Bundle.tN "SUPPRESSED_SENTINEL" Bundle.listD
/-- what a throw asks of the state: two statics, and words of the classes' faces -/
def sr_Z (A : Nat → Prop) (U : State) : Prop := sr_Zc Bundle.tN "UNASSIGNED_STACK" Bundle.steD A U U.heap ∧ sr_Zc Bundle.tN "SUPPRESSED_SENTINEL" Bundle.listD A U U.heap ∧ ∀ w ∈ sr_face, va_Nw w U
/-- where each word of a throw comes from -/
def sr_fr (w : Cond) : Prop := w = sr_zU ∨ w = sr_zS ∨ w = sr_lU ∨ w = sr_lS ∨ w ∈ sr_face ∨ w ∈ allw
variable {H : Heap} {locs : List Loc} {cells slots : Nat} {cc : ByteArray} {pc : Nat} {ls : Array Slot} {D : va_G} {cl : List vw_C} {A : Nat → Prop} {w0 : va_W}
theorem sr_throw {own X0 tx : String} {ix ks ic q mc ms : Nat} (hx : p.tables.exec = Jvm.exec) (hb : c.code = cc) (hml : c.maxLocals = ls.size) (hout : c.exceptionTable.isEmpty = true) (hlocks : meth.locks = false)
    (htr : ∀ e : Env, l.admits e → e.platform.stackTraces = false) (hown : s.vm.findClass own = some m.cls) (hcls : Bundle.fit X0 = true)
    (ht : ∀ w ∈ allw, w.before args s = true) (hw : ∀ w ∈ sr_thw own ix ic X0, sr_fr w)
    (hZ : sr_Z A s) (hR : vk_R own ks tx q s) (hP : va_P D cl w0 H) (hD : va_D A w0) (hS : va_S A s.heap H locs)
    (hrf : 5 < R.frames) (hrl : 82 ≤ R.locals) (hmc : mc = cells + 1) (hms : ms = slots + 6) (hcc : cells + 1 ≤ R.cells) (hss : slots + 6 ≤ R.slots)
    (hd0 : decode cc pc = .ok (.new ix, 3)) (hd1 : decode cc (pc + 3) = .ok (.dup, 1)) (hd2 : decode cc (pc + 4) = .ok (.ldc ks, 2)) (hd3 : decode cc (pc + 6) = .ok (.invokespecial ic, 3)) (hd4 : decode cc (pc + 9) = .ok (.athrow, 1)) :
    W p l e R s m args below meth c H locs cells slots (sr_MQT below (sr_T X0 D cl A w0) s mc ms A) (F0 m pc ls []) := by
  intro T hT X
  subst hT hmc hms
  have X' := sr_rebase X (by omega) (by omega)
  generalize hs' : T.setFrames (.invoking m args :: below) = s' at X'
  have hvm : s'.vm = T.vm := by rw [← hs']; rfl
  have hhp : s'.heap = T.heap := by rw [← hs']; rfl
  have hW : s.WarmedH s'.vm := by rw [hvm]; exact X.warmed
  have hZ1 : sr_Zc Bundle.tN "UNASSIGNED_STACK" Bundle.steD A s' s'.heap := by rw [hhp]; exact sr_Zc.moved hW.alike (hZ.1.kept hS.2.1)
  have hZ2 : sr_Zc Bundle.tN "SUPPRESSED_SENTINEL" Bundle.listD A s' s'.heap := by rw [hhp]; exact sr_Zc.moved hW.alike (hZ.2.1.kept hS.2.1)
  have hat : ∀ w ∈ sr_thw own ix ic X0, w.before args s' = true := by
    intro w h
    rcases hw w h with e1 | e1 | e1 | e1 | h1 | h1
    · rw [e1]; exact hZ1.isRef
    · rw [e1]; exact hZ2.isRef
    · rw [e1]; exact hZ1.lays
    · rw [e1]; exact hZ2.lays
    · exact va_Nw.use (sr_face_ok w h1).1 (sr_faceM h1 hW.alike (hZ.2.2 w h1))
    · exact word_at hW (good_of_word (allw_good w h1)) (ht w h1)
  have hown' : s'.vm.findClass own = some m.cls := by rw [hW.alike.findClass]; exact hown
  have hlinkW := hat (Cond.classLink own ix X0) List.mem_cons_self
  have hiniW := hat (Cond.initialized X0) (List.mem_cons_of_mem _ List.mem_cons_self)
  have hatO : ∀ w ∈ Bundle.ownAtoms own ic X0 sr_up, w.before args s' = true := fun w h => hat w (List.mem_cons_of_mem _ (List.mem_cons_of_mem _ h))
  have hinsW : (Cond.instantiable X0 6).before args s' = true := hatO _ (by simp [Bundle.ownAtoms])
  have hR' : vk_R own ks tx q s' := hR.warm hW
  have key : W p l e ({ frames := R.frames, cells := R.cells - cells, slots := R.slots - slots, locals := R.locals } : Room) s' m args below meth c T.heap [] 0 0
      (fun t => t.status = .running ∧ Ended t below (.threw T.heap.size) ∧ s'.WarmedH t.vm ∧ s'.sameButNew ({ t with vm := s'.vm } : State) [] 1 6 ∧ ∃ ce : Cell, t.heap[T.heap.size]? = some ce ∧ s'.vm.findClass X0 = some ce.cls ∧ ce.vm = .none) (F0 m pc ls []) := by
    refine W.newc (own := own) (C := X0) (index := ix) (n := 6) hx hb hown' hlinkW hinsW hiniW rfl hd0 (by show 0 + 1 ≤ R.cells - cells; omega) (by show 0 + 6 ≤ R.slots - slots; omega) ?_
    intro cC kC hf hk hki hsz
    refine lv_dup hx hb hd1 rfl ?_
    refine va_ldcS (own := own) (tx := tx) (q := q) hx hb hown' hR' hd2 ?_
    intro U hU XU
    have hcell : U.heap[T.heap.size]? = some (freshCell cC kC) := by rw [hU]; exact Array.getElem?_push_size
    obtain ⟨V, hst, hrun, hend, hWV, hsame, ce, hce, K⟩ := XU.ctorThrowS hx (htr e X.admits) (own := own) (cls := X0) (names := sr_up) (ic := ic) hown' hcls (by decide +kernel) hatO (fun x h => by cases h) hf hk hcell (by rw [hhp]; exact Nat.le_refl _) (msg := .ref q) rfl
      (g := F0 m (pc + 6) ls [.ref q, .ref T.heap.size, .ref T.heap.size]) rfl hml.symm rfl rfl (rest := []) rfl (by rw [hb]; exact hd3) (by rw [hb]; exact hd4) (covers_of_empty hout _) (by show 2 + 3 < R.frames; omega) (by show _ ≤ R.locals; simp [sr_up, Value.category, JFrame.monitorRoom]; omega) hlocks
    exact ⟨V, hst, hrun, hend, hWV, hsame, ce, hce, K.cls, K.vm⟩
  obtain ⟨t, hst, hrun, hend, hWt, hsame, ce, hce, hcl, hvn⟩ := key T rfl X'
  have hWt2 : T.WarmedH t.vm := by
    have h : s'.WarmedH t.vm := hWt
    rw [← hs'] at h
    exact h
  have hsame2 : T.sameButNew ({ t with vm := T.vm } : State) [] 1 6 := by
    have h := hsame
    rw [hvm] at h
    rw [← hs'] at h
    obtain ⟨h1, h2⟩ := h
    rw [State.setFrames_setFrames] at h1
    exact ⟨h1, h2⟩
  have hkept : ∀ a : Nat, a < T.heap.size → t.heap[a]? = T.heap[a]? := by
    intro a ha
    have h1 : T.heap[a]? = some T.heap[a] := Array.getElem?_eq_getElem ha
    rw [h1]
    exact State.sameButNew.old_cell hsame2 h1
  refine ⟨t, hst, T.heap.size, hrun, hend, ⟨⟨ce, hce, by rw [← hcl, hW.alike.findClass], hvn⟩, fun k z hz => (hP k z hz).kept (hkept _ (hP k z hz).lt), hD, Nat.le_trans hS.1 hsame2.2.1, fun a h1 h2 => by rw [hkept a (Nat.lt_of_lt_of_le h1 hS.1)]; exact hS.2.1 a h1 h2⟩, State.WarmedH.trans X.warmed hWt2, locs ++ [], X.same.trans (hsame2.setVm s.vm), ?_⟩
  rw [List.append_nil]
  exact hS.2.2
end SrThrow

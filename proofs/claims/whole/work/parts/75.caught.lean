/-! calls that throw, and are caught -/
section SrCatch
variable {p : Program} {l : Launch} {e : Env} {R : Room} {s : State} {m : MethodId} {args : Array Value} {below : List Frame} {meth : Method} {c : Code} {locs : List Loc} {cells slots : Nat}
theorem sr_resolve {U : State} {own X : String} {ct : Nat} {d : ClassId} (hpl : e.platform.magicAccessors = ({} : Platform).magicAccessors) (hW : s.WarmedH U.vm) (hd : s.vm.findClass own = some d) (hl : (Cond.classLink own ct X).before args s = true) :
    ∃ k, s.vm.findClass X = some k ∧ (resolveClass d ct).Gives e.toSetting U.vm (.ok k) (U.vm.noted d ct (.cls k)) ∧ s.WarmedH (U.vm.noted d ct (.cls k)) ∧ (U.vm.noted d ct (.cls k)).classes.size ≤ U.vm.classes.size := by
  obtain ⟨k, hk, hcl⟩ := Cond.classLink_spec hd hl e.platform hpl
  obtain ⟨h1, h2, h3⟩ := State.classEntry (e := e) hW hcl
  exact ⟨k, hk, h1, h2, by simp [Vm.noted]⟩
theorem sr_at {vm' : Vm} {X : String} {k : ClassId} (hW : s.WarmedH vm') (hk : s.vm.findClass X = some k) : ∃ q, vm'.classes[k]? = some q := Vm.classAt_of_findClass (name := X) (by rw [hW.alike.findClass]; exact hk)
theorem sr_find1 {T : State} {g : JFrame} {own X : String} {x : Addr} {ce : Cell} {st en hp ct : Nat} {tl9 : List (Nat × Nat × Nat × Nat)} (X0 : Stand p l e R s m args below meth c T locs cells slots) (hg : g.method = m) (hown : s.vm.findClass own = some m.cls)
    (htab : c.exceptionTable.toList.map (fun h => (h.startPc, h.endPc, h.handlerPc, h.catchType)) = (st, en, hp, ct) :: tl9) (hct : ct ≠ 0) (hcov : (decide (st ≤ g.pc) && decide (g.pc < en)) = true)
    (hl : (Cond.classLink own ct X).before args s = true) (hself : (Cond.castable X X).before args s = true) (hce : T.heap[x]? = some ce) (hcl : s.vm.findClass X = some ce.cls) (hvn : ce.vm = .none) :
    ∃ vm', s.WarmedH vm' ∧ sr_Fn e ((T.setTop g).pushFrame (.throwing x)) g x (.found hp) vm' := by
  subst hg
  obtain ⟨z, zs, hz, hf, -⟩ := List.map_eq_cons_iff.mp htab
  simp only [Prod.mk.injEq] at hf
  obtain ⟨rfl, rfl, rfl, rfl⟩ := hf
  have hpl : e.platform.magicAccessors = ({} : Platform).magicAccessors := by rw [X0.admits.platform]
  obtain ⟨k, hk, hgv, hW1, hsz⟩ := sr_resolve (U := T) (e := e) hpl X0.warmed hown hl
  obtain ⟨c3, c4, h3, h4, has⟩ := Cond.castable_spec hself
  cases h3.symm.trans hcl
  cases h4.symm.trans hk
  refine ⟨_, hW1, ?_⟩
  intro Q E d acts
  rw [Jvm.W.findHandler_eq (s := (T.setTop g).pushFrame (.throwing x)) (meth := meth) (code := c) X0.method' X0.code, hz]
  rw [sr_goCold (s := (T.setTop g).pushFrame (.throwing x)) (cell := ce) hcov hct hgv hsz hce (by intro q; rw [hvn]; intro h; cases h) (sr_at hW1 hcl) (sr_at hW1 hk)]
  rw [if_pos (by rw [hW1.alike.assignable]; exact has)]
theorem sr_find2 {T : State} {g : JFrame} {own X X1 : String} {x : Addr} {ce : Cell} {st en hp ct st1 en1 hp1 ct1 : Nat} (X0 : Stand p l e R s m args below meth c T locs cells slots) (hg : g.method = m) (hown : s.vm.findClass own = some m.cls)
    (htab : c.exceptionTable.toList.map (fun h => (h.startPc, h.endPc, h.handlerPc, h.catchType)) = [(st1, en1, hp1, ct1), (st, en, hp, ct)]) (hct1 : ct1 ≠ 0) (hcov1 : (decide (st1 ≤ g.pc) && decide (g.pc < en1)) = true) (hct : ct ≠ 0) (hcov : (decide (st ≤ g.pc) && decide (g.pc < en)) = true)
    (hl1 : (Cond.classLink own ct1 X1).before args s = true) (hl : (Cond.classLink own ct X).before args s = true) (hself : (Cond.castable X X).before args s = true) (hnc : va_Nc X X1 s) (hce : T.heap[x]? = some ce) (hcl : s.vm.findClass X = some ce.cls) (hvn : ce.vm = .none) :
    ∃ vm', s.WarmedH vm' ∧ sr_Fn e ((T.setTop g).pushFrame (.throwing x)) g x (.found hp) vm' := by
  subst hg
  obtain ⟨z1, tl, hz1, hf1, htl⟩ := List.map_eq_cons_iff.mp htab
  obtain ⟨z, hz, hf⟩ := List.map_eq_singleton_iff.mp htl
  subst hz
  simp only [Prod.mk.injEq] at hf hf1
  obtain ⟨rfl, rfl, rfl, rfl⟩ := hf
  obtain ⟨rfl, rfl, rfl, rfl⟩ := hf1
  have hpl : e.platform.magicAccessors = ({} : Platform).magicAccessors := by rw [X0.admits.platform]
  obtain ⟨k1, hk1, hgv1, hW1, hsz1⟩ := sr_resolve (U := T) (e := e) hpl X0.warmed hown hl1
  obtain ⟨k, hk, hgv, hW2, hsz⟩ := sr_resolve (U := T.setVm (T.vm.noted g.method.cls z1.catchType (.cls k1))) (e := e) hpl hW1 hown hl
  obtain ⟨c3, c4, h3, h4, has⟩ := Cond.castable_spec hself
  cases h3.symm.trans hcl
  cases h4.symm.trans hk
  obtain ⟨c5, c6, h5, h6, hna⟩ := hnc
  cases h5.symm.trans hcl
  cases h6.symm.trans hk1
  refine ⟨_, hW2, ?_⟩
  intro Q E d acts
  rw [Jvm.W.findHandler_eq (s := (T.setTop g).pushFrame (.throwing x)) (meth := meth) (code := c) X0.method' X0.code, hz1]
  rw [sr_goCold (s := (T.setTop g).pushFrame (.throwing x)) (cell := ce) hcov1 hct1 hgv1 hsz1 hce (by intro q; rw [hvn]; intro h; cases h) (sr_at hW1 hcl) (sr_at hW1 hk1)]
  rw [if_neg (by rw [hW1.alike.assignable, hna]; decide)]
  rw [sr_goCold (s := ((T.setTop g).pushFrame (.throwing x)).setVm (T.vm.noted g.method.cls z1.catchType (.cls k1))) (cell := ce) hcov hct hgv hsz hce (by intro q; rw [hvn]; intro h; cases h) (sr_at hW2 hcl) (sr_at hW2 hk)]
  rw [if_pos (by rw [hW2.alike.assignable]; exact has)]
  exact Iff.rfl
variable {H : Heap} {Q : State → Prop} {cc : ByteArray} {pc nL n mc ms maxL index : Nat} {ls : Array Slot} {rest st0 As : List Value} {D : va_G} {cl : List vw_C} {A : Nat → Prop} {tys : List (ClassId × FieldType)} {ws wc wr : va_W} {ns wy : List Cond} {strs : List (Nat × String)} {own C : String} {y : MethodName} {bytes : ByteArray} {ret : Option FieldType} {rm : Room} {b : Nat}
/-- a virtual call that throws an object of class X, caught at hp -/
theorem sr_cT {X0 : String} {hp : Nat} (hx : p.tables.exec = Jvm.exec) (hb : c.code = cc) (hml : c.maxLocals = nL) (hown : s.vm.findClass own = some m.cls)
    (hM : sr_MetT l y wy rm (va_Pc (.ref b :: As) (sr_V D cl tys ns strs wc H.size)) (sr_T X0 D cl (va_A wc H.size) wc) mc ms (va_A wc H.size)) (cw : CallW R s args own C index y bytes maxL ret wy rm mc ms n)
    (hns : ∀ w ∈ ns, sr_isN w = true) (hK : va_K D cl tys s) (hN : sr_N ns s) (hZ : sr_Z A s) (hRs : sr_S strs s) (hNc : va_Nc sr_ISE sr_IAE s) (hP : va_P D cl ws H) (hD : va_D A ws) (hS : va_S A s.heap H locs) (hA : ∀ q, s.heap.size ≤ q → A q) (isC isR : List Nat) (hC : isC.map (fun i => ws[i]?) = wc.map some) (hnC : va_nd isC = true) (hR : isR.map (fun i => ws[i]?) = wr.map some) (hnR : va_nd isR = true) (hdis : ∀ i ∈ isR, i ∉ isC) {T : u_T} {N ci q0 : Nat} {fs : List Value} (he : ws[q0]? = some (b, .inr (ci, fs))) (hc : cl[ci]? = some (C, T, N))
    (hn : As.length = n) (hsz : ls.size = nL) (hst : st0 = As.reverse ++ .ref b :: rest) (hroom : (rest.map fun v => v.category).sum ≤ 8) (hd : decode cc pc = .ok (.invokevirtual index, 3)) (hf : cells + mc ≤ R.cells ∧ slots + ms ≤ R.slots)
    (hfind : ∀ (T : State) (locs : List Loc) (cells slots : Nat) (x : Addr) (ce : Cell), Stand p l e R s m args below meth c T locs cells slots → T.heap[x]? = some ce → s.vm.findClass X0 = some ce.cls → ce.vm = .none → ∃ vm', s.WarmedH vm' ∧ sr_Fn e ((T.setTop (F0 m pc ls rest)).pushFrame (.throwing x)) (F0 m pc ls rest) x (.found hp) vm')
    (kk : ∀ (x : Addr) (H1 : Heap) (locs1 : List Loc), va_P D cl (wr ++ wc) H1 → va_D A (wr ++ wc) → va_S A s.heap H1 locs1 → W p l e R s m args below meth c H1 locs1 (cells + mc) (slots + ms) Q (F0 m hp ls [.ref x])) : W p l e R s m args below meth c H locs cells slots Q (F0 m pc ls st0) := by
  intro T hT X
  obtain ⟨⟨hrc, hrs, hfr, hlo, hws, hmem, hcode, hini, hy, hlen, hl⟩, hin, hse⟩ := cw
  obtain ⟨mk, methM, hnamed, hmethM, hstM, habM⟩ := Cond.instanceMethod_spec hin
  obtain ⟨methM', cM, hmethM', hcM, -, hlM, -, -, -, hsigM⟩ := Cond.code_spec hnamed hcode
  cases hmethM.symm.trans hmethM'
  obtain ⟨c2, r2, m2, q1, q2, q3, q4, kP, hkP, hkPi⟩ := Cond.selects_spec hse
  obtain ⟨cellB, hcB, hoB, hclB⟩ := va_recv hK hP hc he
  cases hclB.symm.trans q1
  cases (State.methodFound?_of_named hnamed hy).symm.trans q2
  cases hnamed.symm.trans q3
  have hselP : selectMethod e.platform s.vm cellB.cls mk = .method mk := by rw [Launch.admits_selectMethod X.admits]; exact q4
  have hdT : decode c.code pc = .ok (.invokevirtual index, 3) := by rw [hb]; exact hd
  obtain ⟨vm₁, X₁, hstep₁⟩ := X.invokevirtual hx hown hl hnamed hmethM hstM hkP hkPi hy (a := b) (cell := cellB) (by rw [hT]; exact hcB)
    (fun z h => by rw [h] at hoB; cases hoB) hselP hmethM habM hkP hkPi (g := F0 m pc ls st0) rfl (argsL := As) (rest := rest) (hn.trans (hlen _ hsigM)) hst hdT
  have hFc := va_free hD hS hA isC hC
  have hhU : (T.setVm vm₁).heap = H := hT
  generalize hU : T.setVm vm₁ = U at X₁ hstep₁ hhU
  have hn' := X₁.named hnamed
  obtain ⟨kY, hkY, -⟩ := className_of_methodNamed hn'
  have hinitY : kY.init = .initialized := Cond.initialized_spec (args := args) (findClass_of_methodNamed hn') hkY (word_at X₁.warmed (Or.inl rfl) hini)
  have hmU : U.vm.method? mk = some methM := by rw [X₁.warmed.alike.method?]; exact hmethM
  have happ : (headSpec wy rm).appliesLoose y e.platform (U.calling (F0 m pc ls rest) mk (Value.ref b :: As).toArray) = true :=
    Spec.appliesLoose_calling (g := F0 m pc ls rest) X₁.here hdT hn' hkY hinitY
      (X₁.room_calling (g := F0 m pc ls rest) (R' := rm) (hsz.trans hml.symm) hmU hcM hfr (by have h9 := lv_room (m := m) (pc := pc) (ls := ls) (rest := rest) hroom; rw [hlM]; show 2 * (F0 m pc ls rest).monitorRoom + (rest.map fun v => v.category).sum + (maxL + 11) + rm.locals ≤ R.locals; omega) (by rw [hrc]; exact hf.1) (by rw [hrs]; exact hf.2)) (atoms_intro fun w hw => hws w hw _ _ X₁.warmed)
  obtain ⟨mid, hmid⟩ := X₁.here.above
  have hfrm : (U.setTop (F0 m pc ls rest)).frames = (.java (F0 m pc ls rest) :: mid) ++ below := by rw [State.frames_setTop' _ X₁.here.top, hmid]; rfl
  have hpre := (sr_preS (av := (.ref b :: As)) hns hK hN hP hD isC hC hnC).2 U hhU X₁.warmed
  have hPc : va_Pc (.ref b :: As) (sr_V D cl tys ns strs wc H.size) (Value.ref b :: As).toArray U := ⟨rfl, hpre.2, sr_Z.to hZ X₁.warmed.alike hhU hS.2.1 hFc, hRs.warm X₁.warmed, va_Nc.moved X₁.warmed.alike hNc⟩
  obtain ⟨o, s₂, hsteps, -, hend, x, ho, hq, hWt, L, hsame, hL⟩ := Steps.callFree hM p X.admits X.cas X.clock (acts := []) hfrm happ (sr_blindV hns _ _ _ _ hPc) trivial
  subst ho
  rw [State.frames_setTop' _ X₁.here.top, X₁.tail] at hend
  obtain ⟨T', X', hWT, hsm, ht⟩ := X₁.outOfThrown (g := F0 m pc ls rest) rfl hend hWt hsame
  have hh : T'.heap = s₂.heap := by rw [ht]; rfl
  obtain ⟨⟨ce, hce, hcl, hvn⟩, hP1, hD1, hF1⟩ := hq
  have hcl' : s.vm.findClass X0 = some ce.cls := by rw [← X₁.warmed.alike.findClass]; exact hcl
  obtain ⟨vm', hWv, hfn⟩ := hfind T' _ _ _ x ce X' (by rw [hh]; exact hce) hcl' hvn
  have hF2 : H.size ≤ s₂.heap.size ∧ ∀ q : Nat, q < H.size → ¬ va_A wc H.size q → s₂.heap[q]? = H[q]? := by
    have h : va_F (va_A wc H.size) U s₂ := hF1
    obtain ⟨h1, h2⟩ := h
    rw [hhU] at h1 h2
    exact ⟨h1, h2⟩
  obtain ⟨hP2, hD2⟩ := va_join hP hD isC isR hC hR hnR hdis hF2.2 hFc hP1 hD1
  have hS2 : va_S A s.heap s₂.heap (locs ++ L) := ⟨Nat.le_trans hS.1 hF2.1, fun q h1 h2 => by rw [hF2.2 q (Nat.lt_of_lt_of_le h1 hS.1) (fun z => h2 (hFc q z))]; exact hS.2.1 q h1 h2, fun q hq => by
    rcases List.mem_append.mp hq with h | h
    · exact hS.2.2 q h
    · exact hFc _ (hL q h)⟩
  obtain ⟨t, hst2, hQ⟩ := kk x s₂.heap (locs ++ L) hP2 hD2 hS2 (T'.setVm vm') hh (X'.noted hWv)
  refine ⟨t, hstep₁ _ (fun acts => ?_), hQ⟩
  rw [doInvoke_state]
  refine Steps.trans hsteps ?_
  rw [ht]
  exact sr_caught (g := F0 m pc ls rest) X'.here hfn hst2
end SrCatch
/-! the words of the throws -/
def sr_strs : List (Nat × String) := [(65, "a coordinate is out of bounds"), (79, "the path is full"), (92, "no open subpath, or too many points"), (117, "no open subpath"), (128, "the pen is out of bounds"), (134, "the dash is out of bounds"), (139, "there are eight dashes"), (146, "the phase is out of bounds"), (187, "no such row"), (198, "no such pixel")]
set_option maxRecDepth 100000 in
theorem thw_IAE : ∀ w ∈ sr_thw "StrokeRaster" 63 67 sr_IAE, sr_fr w := by unfold sr_fr; decide +kernel
set_option maxRecDepth 100000 in
theorem thw_ISE : ∀ w ∈ sr_thw "StrokeRaster" 77 81 sr_ISE, sr_fr w := by unfold sr_fr; decide +kernel
set_option maxRecDepth 100000 in
theorem thw_IOE : ∀ w ∈ sr_thw "StrokeRaster" 185 189 sr_IOE, sr_fr w := by unfold sr_fr; decide +kernel
theorem k_cs_IAE : Cond.castable sr_IAE sr_IAE ∈ sr_face := by decide +kernel
theorem k_cs_ISE : Cond.castable sr_ISE sr_ISE ∈ sr_face := by decide +kernel
theorem k_cs_IOE : Cond.castable sr_IOE sr_IOE ∈ sr_face := by decide +kernel
theorem sr_cst {args : Array Value} {A : Nat → Prop} {s : State} {w : Cond} (hZ : sr_Z A s) (hw : w ∈ sr_face) : w.before args s = true := va_Nw.use (sr_face_ok w hw).1 (hZ.2.2 w hw)

def R_law : String := "StrokeRasterLaw"
def lw_P (b : Addr) (xs : List Int32) (args : Array Value) (s : State) : Prop := args = #[.ref b] ∧ s.IntsAt b xs ∧ xs.length ≤ 2560 ∧ (Jvm.Cond.and given_1 narrow_1).before args s = true
def lw_Q (_ : Array Value) (s : State) (o : Outcome) (t : State) : Prop := o = .returned (some (.int 1)) ∧ Framed s o t [] 601024 7293034
def lw_Z (below : List Frame) (a : Array Value) (s : State) : State → Prop := fun t => ∃ o, t.status = .running ∧ Ended t below o ∧ lw_Q a s o t
/-- the law's own end, with 1 on the stack, nothing written that was there before, its room as the claim has it -/
theorem lw_ret {p : Program} {l : Launch} {e : Env} {s : State} {m : MethodId} {below : List Frame} {meth : Method} {c : Code} {b : Nat} (hx : p.tables.exec = Jvm.exec) (hb : c.code = code) (hr : meth.sig.returnType = ret) (hlocks : meth.locks = false) {pc : Nat} {H : Heap} {ls : Array Slot} (hdg : decode code pc = .ok (.ireturn, 1)) : W p l e room_1 s m #[Value.ref b] below meth c H [] 601024 7293034 (lw_Z below #[Value.ref b] s) (F0 m pc ls [.int 1]) := by
  intro T hT X
  obtain ⟨fs, hret, hrun, hended, hW, hframe⟩ := X.leave (v := some (.int 1)) (hlocks := hlocks) (fun h => by rw [hr] at h; cases h)
  have hmeth' : T.vm.method? m = some meth := X.method'
  refine ⟨T.setFrames fs, ?_, .returned (some (.int 1)), hrun, hended, rfl, ⟨_, rfl⟩, hW, hframe⟩
  jvm_step X.here [X.here.top, hx, hb, hdg, hmeth', hr, ret, narrow_b1]
  (try refine ⟨rfl, ?_⟩); (try refine ⟨rfl, ?_⟩)
  first | (intro acts; rw [hret _ acts rfl rfl rfl]) | rw [hret _ _ rfl rfl rfl]
  exact Steps.refl _
/-- what holds at the law's entry: the machine, the code, the tables' words (any of lw_tbl by 'hts w (by decide +kernel)'), the script of L ints xs at the cell b, what the Statement gives of the start (any of its parts by flat_of_before) -/
def lw_At (p : Program) (s : State) (m : MethodId) (meth : Method) (c : Code) (b L : Nat) (xs : Nat → Int32) : Prop :=
  p.tables.exec = Jvm.exec ∧ c.code = code ∧ meth.sig.returnType = ret ∧ c.maxLocals = 8 ∧ s.vm.findClass R_law = some m.cls ∧ (∀ w ∈ lw_tbl, w.before #[Value.ref b] s = true) ∧ va_X b L xs s s.heap ∧ b < s.heap.size ∧ meth.locks = false ∧ (Jvm.Cond.and given_1 narrow_1).before #[Value.ref b] s = true
/-! reading the script -/
def sI (xs : Nat → Int32) (j : Int) : Int := (xs j.toNat).toInt
theorem sI_bd (xs : Nat → Int32) (j : Int) : -2147483648 ≤ sI xs j ∧ sI xs j ≤ 2147483647 := by
  have h1 := Int32.le_toInt (xs j.toNat)
  have h2 := Int32.toInt_lt (xs j.toNat)
  unfold sI
  omega
theorem sI_eq (xs : Nat → Int32) (j : Int) : iI (sI xs j) = xs j.toNat := Int32.ofInt_toInt _
section SrScript
variable {p : Program} {l : Launch} {e : Env} {R : Room} {s : State} {m : MethodId} {args : Array Value} {below : List Frame} {meth : Method} {c : Code} {locs : List Loc} {cells slots : Nat} {H : Heap} {Q : State → Prop} {cc : ByteArray} {pc : Nat} {ls : Array Slot} {rest : List Value} {A : Nat → Prop}
theorem sr_sld (hexec : p.tables.exec = Jvm.exec) (hb : c.code = cc) {b L : Nat} {xs : Nat → Int32} (hX : va_X b L xs s s.heap) (hbl : b < s.heap.size) (hbA : ¬ A b) (hS : va_S A s.heap H locs) {j : Int} (h0 : 0 ≤ j) (h1 : j < L) (hL : L ≤ 2560) (hdg : decode cc pc = .ok (.iaload, 1))
    (kk : W p l e R s m args below meth c H locs cells slots Q (F0 m (pc + 1) ls (.int (iI (sI xs j)) :: rest))) : W p l e R s m args below meth c H locs cells slots Q (F0 m pc ls (.int (iI j) :: .ref b :: rest)) := by
  obtain ⟨k, rfl⟩ : ∃ k : Nat, j = k := ⟨j.toNat, by omega⟩
  have hk : k < L := by omega
  have e1 : (iI ((k : Nat) : Int)).toNatClampNeg = k := by
    have := iI_toInt (a := (k : Int)) (by unfold bI; omega)
    show (iI (k : Int)).toInt.toNat = k
    rw [this]; rfl
  refine va_sld hexec hb hX hbl hbA hS (i := iI (k : Int)) ?_ hdg ?_
  · unfold vp_in
    rintro (q | q)
    · have := (Int32.lt_iff_toInt_lt.mp q)
      rw [iI_toInt (a := (k : Int)) (by unfold bI; omega)] at this
      have z : (0 : Int32).toInt = 0 := rfl
      omega
    · rw [e1] at q; omega
  · rw [e1]
    have := sI_eq xs (k : Int)
    rw [this] at kk
    exact kk
theorem sr_slen (hexec : p.tables.exec = Jvm.exec) (hb : c.code = cc) {b L : Nat} {xs : Nat → Int32} (hX : va_X b L xs s s.heap) (hbl : b < s.heap.size) (hbA : ¬ A b) (hS : va_S A s.heap H locs) (hdg : decode cc pc = .ok (.arraylength, 1))
    (kk : W p l e R s m args below meth c H locs cells slots Q (F0 m (pc + 1) ls (.int (iI (L : Int)) :: rest))) : W p l e R s m args below meth c H locs cells slots Q (F0 m pc ls (.ref b :: rest)) :=
  va_slen hexec hb hX hbl hbA hS hdg kk
theorem and15 (x : Int32) : ∃ k : Int, 0 ≤ k ∧ k < 16 ∧ x &&& iI 15 = iI k := by
  have h : (x &&& iI 15).toBitVec.toNat ≤ 15 := by
    show (x.toBitVec &&& (iI 15).toBitVec).toNat ≤ 15
    rw [BitVec.toNat_and]
    exact Nat.le_trans Nat.and_le_right (by decide)
  refine ⟨((x &&& iI 15).toBitVec.toNat : Int), by omega, by omega, ?_⟩
  apply Int32.toBitVec_inj.mp
  apply BitVec.eq_of_toNat_eq
  show _ = (BitVec.ofInt 32 _).toNat
  rw [BitVec.toNat_ofInt]
  generalize (x &&& iI 15).toBitVec.toNat = n at h
  have : ((n : Int) % ((2 ^ 32 : Nat) : Int)).toNat = n := by omega
  exact this.symm
end SrScript
theorem ct4 (f : Int → Int) (a b c d : Int) : zup (zup (zup (zup f 0 a) 1 b) 2 c) 3 d 0 = a ∧ zup (zup (zup (zup f 0 a) 1 b) 2 c) 3 d 1 = b ∧ zup (zup (zup (zup f 0 a) 1 b) 2 c) 3 d 2 = c ∧ zup (zup (zup (zup f 0 a) 1 b) 2 c) 3 d 3 = d := by
  unfold zup
  refine ⟨?_, ?_, ?_, ?_⟩ <;> simp

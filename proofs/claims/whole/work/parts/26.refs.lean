/-! methods that answer a cell that they have made -/
abbrev sr_Br (D : va_G) (cl : List vw_C) (A : Nat → Prop) {S : Type} (w1 : S → Nat → va_W) : S → Nat → State → Prop := fun u a t => va_P D cl (w1 u a) t.heap ∧ va_D A (w1 u a)
section SrRef
variable {p : Program} {l : Launch} {e : Env} {R : Room} {s : State} {m : MethodId} {args : Array Value} {below : List Frame} {meth : Method} {c : Code} {H : Heap} {locs : List Loc} {cells slots : Nat} {Q : State → Prop}
variable {cc : ByteArray} {pc nL n mc ms maxL index : Nat} {ls : Array Slot} {rest st0 As : List Value} {D : va_G} {cl : List vw_C} {A : Nat → Prop} {tys : List (ClassId × FieldType)} {ws wc wr : va_W} {H0 : Heap} {ns Ts wy : List Cond} {own C host : String} {y : MethodName} {bytes : ByteArray} {ret : Option FieldType} {rm : Room} {b : Nat}
theorem sr_aret {S : Type} {post : S → Prop} {w1 : S → Nat → va_W} {a : Nat} {rt : FieldType} (u : S) (hx : p.tables.exec = Jvm.exec) (hb : c.code = cc) (hr : meth.sig.returnType = some rt) (hrt : (∃ n, rt = .object n) ∨ ∃ t, rt = .array t) (hlocks : meth.locks = false) (hP : va_P D cl (w1 u a) H) (hD : va_D A (w1 u a)) (hS : va_S A s.heap H locs) (hd : decode cc pc = .ok (.areturn, 1)) (hp : post u) : W p l e R s m args below meth c H locs cells slots (MQ below (va_Qr post (sr_Br D cl A w1) A) args s cells slots A) (F0 m pc ls [.ref a]) :=
  W.aret hx hb hr hrt (Or.inr ⟨a, rfl⟩) (fun t ht hW => ⟨⟨u, a, rfl, hp, by rw [ht]; exact hP, hD⟩, hS.F ht⟩) hS.2.2 hd hlocks
theorem sr_aft_r {S : Type} {post : S → Prop} {w1 : S → Nat → va_W} {a : Array Value}
    (hr : va_Run p l e R s m args below meth c H locs cells slots mc ms (F0 m pc ls st0) rest (va_Qr post (sr_Br D cl (va_A wc H.size) w1) (va_A wc H.size) a) (va_A wc H.size))
    (hP : va_P D cl ws H) (hD : va_D A ws) (hS : va_S A H0 H locs) (hA : ∀ q, H0.size ≤ q → A q) (isC isR : List Nat) (hC : isC.map (fun i => ws[i]?) = wc.map some) (hR : isR.map (fun i => ws[i]?) = wr.map some) (hnR : va_nd isR = true) (hdis : ∀ i ∈ isR, i ∉ isC)
    (kk : ∀ (u : S) (ra : Nat) (H1 : Heap) (locs1 : List Loc), post u → va_P D cl (wr ++ w1 u ra) H1 → va_D A (wr ++ w1 u ra) → va_S A H0 H1 locs1 → W p l e R s m args below meth c H1 locs1 (cells + mc) (slots + ms) Q (F0 m (pc + 3) ls (.ref ra :: rest))) : W p l e R s m args below meth c H locs cells slots Q (F0 m pc ls st0) := by
  have hFc := va_free hD hS hA isC hC
  refine va_callr hr hS (fun q _ h => hFc q h) hFc (fun u ra t H1 locs1 ht hvm hw hB hz1 hk1 hS1 => ?_)
  obtain ⟨hP1, hD1⟩ := hB
  rw [ht] at hP1
  obtain ⟨hP2, hD2⟩ := va_join hP hD isC isR hC hR hnR hdis hk1 hFc hP1 hD1
  exact kk u ra H1 locs1 hw hP2 hD2 hS1
theorem sr_cS_r {S : Type} {post : S → Prop} {w1 : S → Nat → va_W} (hx : p.tables.exec = Jvm.exec) (hb : c.code = cc) (hml : c.maxLocals = nL) (hown : s.vm.findClass own = some m.cls) (hts : ∀ w ∈ Ts, w.before args s = true)
    (hM : Met l y wy rm (va_Pc As (sr_U D cl tys ns wc H.size)) (va_Qr post (sr_Br D cl (va_A wc H.size) w1) (va_A wc H.size)) mc ms (va_A wc H.size)) (cw : CallB R s args own index y bytes maxL ret wy rm mc ms n ∧ (Cond.static y).before args s = true)
    (hns : ∀ w ∈ ns, sr_isN w = true) (hK : va_K D cl tys s) (hN : sr_N ns s) (hP : va_P D cl ws H) (hD : va_D A ws) (hS : va_S A H0 H locs) (hA : ∀ q, H0.size ≤ q → A q) (isC isR : List Nat) (hC : isC.map (fun i => ws[i]?) = wc.map some) (hnC : va_nd isC = true) (hR : isR.map (fun i => ws[i]?) = wr.map some) (hnR : va_nd isR = true) (hdis : ∀ i ∈ isR, i ∉ isC)
    (hn : As.length = n) (hsz : ls.size = nL) (hst : st0 = As.reverse ++ rest) (hroom : (rest.map fun v => v.category).sum ≤ 8) (hd : decode cc pc = .ok (.invokestatic index, 3)) (hf : cells + mc ≤ R.cells ∧ slots + ms ≤ R.slots)
    (kk : ∀ (u : S) (ra : Nat) (H1 : Heap) (locs1 : List Loc), post u → va_P D cl (wr ++ w1 u ra) H1 → va_D A (wr ++ w1 u ra) → va_S A H0 H1 locs1 → W p l e R s m args below meth c H1 locs1 (cells + mc) (slots + ms) Q (F0 m (pc + 3) ls (.ref ra :: rest))) : W p l e R s m args below meth c H locs cells slots Q (F0 m pc ls st0) :=
  sr_aft_r (va_runS (As := As) (rest := rest) (g := F0 m pc ls st0) ⟨hx, hb, hml, hown, hts⟩ hM cw (sr_preS (av := As) hns hK hN hP hD isC hC hnC) rfl hn hsz hst (lv_room hroom) hd hf) hP hD hS hA isC isR hC hR hnR hdis kk
end SrRef
/-- what a longer copy holds -/
def zcp (f : Int → Int) (n : Int) : Int → Int := fun j => if j < n then f j else 0
theorem zcp_in {f : Int → Int} {n j : Int} (h : j < n) : zcp f n j = f j := if_pos h
theorem zcp_cpy (f : Int → Int) (n : Nat) : va_cpy (zI f) (zI (fun _ => 0)) 0 0 n = zI (zcp f n) := by
  funext j
  show (if 0 ≤ j ∧ j < 0 + n then iI (f ((0 + (j - 0) : Nat) : Int)) else iI 0) = iI (if (j : Int) < n then f j else 0)
  by_cases h : j < n
  · rw [if_pos (by omega), if_pos (by omega)]
    congr 2
    omega
  · rw [if_neg (by omega), if_neg (by omega)]
section SrCopy
variable {p : Program} {l : Launch} {e : Env} {R : Room} {s : State} {m : MethodId} {args : Array Value} {below : List Frame} {meth : Method} {c : Code} {H : Heap} {locs : List Loc} {cells slots : Nat} {Q : State → Prop}
variable {cc : ByteArray} {pc : Nat} {ls : Array Slot} {rest : List Value} {D : va_G} {cl : List vw_C} {A : Nat → Prop} {tys : List (ClassId × FieldType)} {ws : va_W} {H0 : Heap} {a : Nat}
/-- System.arraycopy of a whole row of ints into a longer new one -/
theorem sr_copy0 (hx : p.tables.exec = Jvm.exec) (hb : c.code = cc) (hml : c.maxLocals = ls.size) {own : String} {index : Nat} (hown : s.vm.findClass own = some m.cls) (hlink : (Cond.methodLink own index arraycopyName).before args s = true) (hnat : (Cond.native arraycopyName).before args s = true) (hstat : (Cond.static arraycopyName).before args s = true) (hini : (Cond.initialized "java/lang/System").before args s = true)
    (hK : va_K D cl tys s) (hP : va_P D cl ws H) (hD : va_D A ws) (hS : va_S A H0 H locs) (q0 q1 t0 : Nat) {a0 : Nat} {cA : ClassId} {n0 n1 : Nat} {f : Int → Int} (ha0 : ws[q0]? = some (a0, .inl (cA, n0, .inl (zI f)))) (ha1 : ws[q1]? = some (a, .inl (cA, n1, .inl (zI (fun _ => 0))))) (ht0 : tys[t0]? = some (cA, .int)) (h01 : n0 ≤ n1) (hn : n0 ≤ 1000000)
    (hframes : 1 ≤ R.frames) (hlocals : (rest.map fun v => v.category).sum + (nativeFrameWords "java/lang/System" "arraycopy" 5 + 11) ≤ R.locals) {k : Int} (hk : k = (n0 : Int)) (hd : decode cc pc = .ok (.invokestatic index, 3))
    (kk : ∀ (H1 : Heap) (locs1 : List Loc), va_P D cl (ws.set q1 (a, .inl (cA, n1, .inl (zI (zcp f n0))))) H1 → va_D A (ws.set q1 (a, .inl (cA, n1, .inl (zI (zcp f n0))))) → va_S A H0 H1 locs1 → W p l e R s m args below meth c H1 locs1 cells slots Q (F0 m (pc + 3) ls rest)) : W p l e R s m args below meth c H locs cells slots Q (F0 m pc ls (.int (iI k) :: .int (iI 0) :: .ref a :: .int (iI 0) :: .ref a0 :: rest)) := by
  subst hk
  have e0 : (iI 0).toNatClampNeg = 0 := by decide
  have e1 : (iI (n0 : Int)).toNatClampNeg = n0 := by rw [iI_clamp (by omega) (by omega)]; omega
  refine va_copyi hx hb hml hown hlink hnat hstat hini hK hP hD hS q0 q1 t0 t0 ha0 ha1 ht0 ht0 rfl (by decide) (by decide) (by rw [← iI_0, iI_lt ⟨by omega, by omega⟩ bI_0]; omega) (by rw [e0, e1]; omega) (by rw [e0, e1]; omega) (fun i _ => rfl) hframes hlocals hd ?_
  rw [e0, e1, zcp_cpy]
  exact kk
end SrCopy

set_option maxHeartbeats 4000000 in
set_option maxRecDepth 100000 in
theorem c_Walker_forget (l : Launch) (D : va_G) (cI cJ cZ : ClassId) (sz : Nat) (hk0 : Nat) (wf : Int) (sd : Int) (so : Int) (sr : Int) (dd : Int) (on : Int) (rs : Int) (fx0 : Int) (fy0 : Int) (ax0 : Int) (ay0 : Int) (ox0 : Int) (oy0 : Int) (ln0 : Int) (hp : Nat) (hq : Nat) (hc : Nat)  : Met l y_Walker_forget (.code y_Walker_forget b_Walker_forget 1 none :: allw) ({ frames := 0, cells := 0, slots := 0, locals := 0 } : Room) (va_Pc [.ref hk0] (sr_U D classes [(cI, .int), (cJ, .long), (cZ, .boolean)] nestw [(hk0, .inr (5, [.ref hp, .ref hq, .ref hc, .int (iI wf), .int (iI sd), .int (iI so), .int (iI sr), .int (iI dd), .int (iI on), .int (iI rs), .int (iI fx0), .int (iI fy0), .int (iI ax0), .int (iI ay0), .int (iI ox0), .int (iI oy0), .int (iI ln0)]))] sz)) (va_Qv (fun (_ : Unit) => True) (sr_B D classes (va_A [(hk0, .inr (5, [.ref hp, .ref hq, .ref hc, .int (iI wf), .int (iI sd), .int (iI so), .int (iI sr), .int (iI dd), .int (iI on), .int (iI rs), .int (iI fx0), .int (iI fy0), .int (iI ax0), .int (iI ay0), .int (iI ox0), .int (iI oy0), .int (iI ln0)]))] sz) (fun (_ : Unit) => [(hk0, .inr (5, [.ref hp, .ref hq, .ref hc, .int (iI 0), .int (iI sd), .int (iI so), .int (iI sr), .int (iI dd), .int (iI on), .int (iI rs), .int (iI fx0), .int (iI fy0), .int (iI ax0), .int (iI ay0), .int (iI ox0), .int (iI oy0), .int (iI ln0)]))])) (va_A [(hk0, .inr (5, [.ref hp, .ref hq, .ref hc, .int (iI wf), .int (iI sd), .int (iI so), .int (iI sr), .int (iI dd), .int (iI on), .int (iI rs), .int (iI fx0), .int (iI fy0), .int (iI ax0), .int (iI ay0), .int (iI ox0), .int (iI oy0), .int (iI ln0)]))] sz)) 0 0 (va_A [(hk0, .inr (5, [.ref hp, .ref hq, .ref hc, .int (iI wf), .int (iI sd), .int (iI so), .int (iI sr), .int (iI dd), .int (iI on), .int (iI rs), .int (iI fx0), .int (iI fy0), .int (iI ax0), .int (iI ay0), .int (iI ox0), .int (iI oy0), .int (iI ln0)]))] sz) := by
  refine sr_enter (Qf := fun A => va_Qv (fun (_ : Unit) => True) (sr_B D classes A (fun (_ : Unit) => [(hk0, .inr (5, [.ref hp, .ref hq, .ref hc, .int (iI 0), .int (iI sd), .int (iI so), .int (iI sr), .int (iI dd), .int (iI on), .int (iI rs), .int (iI fx0), .int (iI fy0), .int (iI ax0), .int (iI ay0), .int (iI ox0), .int (iI oy0), .int (iI ln0)]))])) A) (by decide +kernel) rfl (Nat.le_of_ble_eq_true rfl) ?_
  intro p e s m below meth c A ls hx hb hr hml hown hlocks hin hts hsz hP hK hD hN hA hS hl
  have ht : ∀ w ∈ allw, w.before _ s = true := fun w h => hts w (List.mem_cons_of_mem _ h)
  have hsub : ∀ w ∈ allw, w ∈ _ := fun w h => List.mem_cons_of_mem (Cond.code y_Walker_forget b_Walker_forget 1 none) h
  have hl : lv_has ls 1 [(0, .ref hk0)] := hl
  have hP : va_P D classes [(hk0, .inr (5, [.ref hp, .ref hq, .ref hc, .int (iI wf), .int (iI sd), .int (iI so), .int (iI sr), .int (iI dd), .int (iI on), .int (iI rs), .int (iI fx0), .int (iI fy0), .int (iI ax0), .int (iI ay0), .int (iI ox0), .int (iI oy0), .int (iI ln0)]))] s.heap := hP
  refine lv_aload_n hx hb d_Walker_forget_0 rfl (lv_at hl 0 rfl) ?_
  refine sr_iconst hx hb d_Walker_forget_1 ?_
  refine va_put (ty := .boolean) hx hb ht i_Walker t_Walker t_Walker_ok n_Walker hown hK hP hD hS 0 rfl rfl 3 (by decide) (ht _ k_f_Walker_23) (fun _ h9 => h9) rfl (t_Walker_ok 3 (by decide)) (by first | decide | (simp [narrow]; done) | assumption) rfl (Nat.le_of_ble_eq_true rfl) d_Walker_forget_2 (fun H locs hP hD hS => ?_)
  have hP : va_P D classes [(hk0, .inr (5, [.ref hp, .ref hq, .ref hc, .int (iI 0), .int (iI sd), .int (iI so), .int (iI sr), .int (iI dd), .int (iI on), .int (iI rs), .int (iI fx0), .int (iI fy0), .int (iI ax0), .int (iI ay0), .int (iI ox0), .int (iI oy0), .int (iI ln0)]))] H := hP
  have hD : va_D A [(hk0, .inr (5, [.ref hp, .ref hq, .ref hc, .int (iI 0), .int (iI sd), .int (iI so), .int (iI sr), .int (iI dd), .int (iI on), .int (iI rs), .int (iI fx0), .int (iI fy0), .int (iI ax0), .int (iI ay0), .int (iI ox0), .int (iI oy0), .int (iI ln0)]))] := hD
  exact sr_vret () hx hb hr hlocks hP hD hS d_Walker_forget_5 (trivial)

set_option maxHeartbeats 4000000 in
set_option maxRecDepth 100000 in
theorem c_Walker_dashAfter (l : Launch) (D : va_G) (cI cJ cZ : ClassId) (sz : Nat) (hk0 : Nat) (wf : Int) (sd : Int) (so : Int) (sr : Int) (dd : Int) (on : Int) (rs : Int) (fx0 : Int) (fy0 : Int) (ax0 : Int) (ay0 : Int) (ox0 : Int) (oy0 : Int) (ln0 : Int) (hp : Nat) (hc : Nat) (hq : Nat) (hf : Int) (cp : Int) (jn : Int) (lm : Int) (pln : Nat) (nd : Int) (ph : Int) (wl : Int) (i : Int) (h0 : 0 ≤ i ∧ i ≤ 8) (h1 : 0 ≤ nd ∧ nd ≤ 8) : Met l y_Walker_dashAfter (.code y_Walker_dashAfter b_Walker_dashAfter 2 (some .int) :: allw) ({ frames := 0, cells := 0, slots := 0, locals := 0 } : Room) (va_Pc [.ref hk0, .int (iI i)] (sr_U D classes [(cI, .int), (cJ, .long), (cZ, .boolean)] nestw [(hk0, .inr (5, [.ref hp, .ref hq, .ref hc, .int (iI wf), .int (iI sd), .int (iI so), .int (iI sr), .int (iI dd), .int (iI on), .int (iI rs), .int (iI fx0), .int (iI fy0), .int (iI ax0), .int (iI ay0), .int (iI ox0), .int (iI oy0), .int (iI ln0)])), (hq, .inr (3, [.int (iI hf), .int (iI cp), .int (iI jn), .int (iI lm), .ref pln, .int (iI nd), .int (iI ph), .int (iI wl)]))] sz)) (va_Qi (fun (r : Int32) => fun (_ : Unit) => r = iI (nxt nd i)) (sr_B D classes (va_A [(hk0, .inr (5, [.ref hp, .ref hq, .ref hc, .int (iI wf), .int (iI sd), .int (iI so), .int (iI sr), .int (iI dd), .int (iI on), .int (iI rs), .int (iI fx0), .int (iI fy0), .int (iI ax0), .int (iI ay0), .int (iI ox0), .int (iI oy0), .int (iI ln0)])), (hq, .inr (3, [.int (iI hf), .int (iI cp), .int (iI jn), .int (iI lm), .ref pln, .int (iI nd), .int (iI ph), .int (iI wl)]))] sz) (fun (_ : Unit) => [(hk0, .inr (5, [.ref hp, .ref hq, .ref hc, .int (iI wf), .int (iI sd), .int (iI so), .int (iI sr), .int (iI dd), .int (iI on), .int (iI rs), .int (iI fx0), .int (iI fy0), .int (iI ax0), .int (iI ay0), .int (iI ox0), .int (iI oy0), .int (iI ln0)])), (hq, .inr (3, [.int (iI hf), .int (iI cp), .int (iI jn), .int (iI lm), .ref pln, .int (iI nd), .int (iI ph), .int (iI wl)]))])) (va_A [(hk0, .inr (5, [.ref hp, .ref hq, .ref hc, .int (iI wf), .int (iI sd), .int (iI so), .int (iI sr), .int (iI dd), .int (iI on), .int (iI rs), .int (iI fx0), .int (iI fy0), .int (iI ax0), .int (iI ay0), .int (iI ox0), .int (iI oy0), .int (iI ln0)])), (hq, .inr (3, [.int (iI hf), .int (iI cp), .int (iI jn), .int (iI lm), .ref pln, .int (iI nd), .int (iI ph), .int (iI wl)]))] sz)) 0 0 (va_A [(hk0, .inr (5, [.ref hp, .ref hq, .ref hc, .int (iI wf), .int (iI sd), .int (iI so), .int (iI sr), .int (iI dd), .int (iI on), .int (iI rs), .int (iI fx0), .int (iI fy0), .int (iI ax0), .int (iI ay0), .int (iI ox0), .int (iI oy0), .int (iI ln0)])), (hq, .inr (3, [.int (iI hf), .int (iI cp), .int (iI jn), .int (iI lm), .ref pln, .int (iI nd), .int (iI ph), .int (iI wl)]))] sz) := by
  refine sr_enter (Qf := fun A => va_Qi (fun (r : Int32) => fun (_ : Unit) => r = iI (nxt nd i)) (sr_B D classes A (fun (_ : Unit) => [(hk0, .inr (5, [.ref hp, .ref hq, .ref hc, .int (iI wf), .int (iI sd), .int (iI so), .int (iI sr), .int (iI dd), .int (iI on), .int (iI rs), .int (iI fx0), .int (iI fy0), .int (iI ax0), .int (iI ay0), .int (iI ox0), .int (iI oy0), .int (iI ln0)])), (hq, .inr (3, [.int (iI hf), .int (iI cp), .int (iI jn), .int (iI lm), .ref pln, .int (iI nd), .int (iI ph), .int (iI wl)]))])) A) (by decide +kernel) rfl (Nat.le_of_ble_eq_true rfl) ?_
  intro p e s m below meth c A ls hx hb hr hml hown hlocks hin hts hsz hP hK hD hN hA hS hl
  have ht : ∀ w ∈ allw, w.before _ s = true := fun w h => hts w (List.mem_cons_of_mem _ h)
  have hsub : ∀ w ∈ allw, w ∈ _ := fun w h => List.mem_cons_of_mem (Cond.code y_Walker_dashAfter b_Walker_dashAfter 2 (some .int)) h
  have hl : lv_has ls 2 [(0, .ref hk0), (1, .int (iI i))] := hl
  have hP : va_P D classes [(hk0, .inr (5, [.ref hp, .ref hq, .ref hc, .int (iI wf), .int (iI sd), .int (iI so), .int (iI sr), .int (iI dd), .int (iI on), .int (iI rs), .int (iI fx0), .int (iI fy0), .int (iI ax0), .int (iI ay0), .int (iI ox0), .int (iI oy0), .int (iI ln0)])), (hq, .inr (3, [.int (iI hf), .int (iI cp), .int (iI jn), .int (iI lm), .ref pln, .int (iI nd), .int (iI ph), .int (iI wl)]))] s.heap := hP
  refine lv_iload_n hx hb d_Walker_dashAfter_0 rfl (lv_at hl 1 rfl) ?_
  refine sr_iconst hx hb d_Walker_dashAfter_1 ?_
  refine sr_iadd hx hb d_Walker_dashAfter_2 ?_
  refine lv_aload_n hx hb d_Walker_dashAfter_3 rfl (lv_at hl 0 rfl) ?_
  refine va_get hx hb ht i_Walker hown hK hP 0 rfl rfl 1 (by decide) (ht _ k_f_Walker_15) (fun _ h9 => h9) rfl d_Walker_dashAfter_4 ?_
  refine va_get hx hb ht i_Pen hown hK hP 1 rfl rfl 5 (by decide) (ht _ k_f_Walker_79) (fun _ h9 => h9) rfl d_Walker_dashAfter_7 ?_
  refine sr_icmp_ge (tgt := 19) hx hb d_Walker_dashAfter_10 (by decide) (by unfold bI; omega) (by unfold bI; omega) (fun c_10 => ?_) (fun c_10 => ?_)
  · -- T
    refine sr_iconst hx hb d_Walker_dashAfter_19 ?_
    exact sr_iret () hx hb hr hlocks hP hD hS d_Walker_dashAfter_20 (congrArg iI (by unfold nxt; split <;> omega))
  · -- F
    refine lv_iload_n hx hb d_Walker_dashAfter_13 rfl (lv_at hl 1 rfl) ?_
    refine sr_iconst hx hb d_Walker_dashAfter_14 ?_
    refine sr_iadd hx hb d_Walker_dashAfter_15 ?_
    refine lv_goto (tgt := 20) hx hb d_Walker_dashAfter_16 (by decide) ?_
    exact sr_iret () hx hb hr hlocks hP hD hS d_Walker_dashAfter_20 (congrArg iI (by unfold nxt; split <;> omega))

set_option maxHeartbeats 4000000 in
set_option maxRecDepth 100000 in
theorem c_Walker_offsetPart (l : Launch) (D : va_G) (cI cJ cZ : ClassId) (sz : Nat) (hk0 : Nat) (wf : Int) (sd : Int) (so : Int) (sr : Int) (dd : Int) (on : Int) (rs : Int) (fx0 : Int) (fy0 : Int) (ax0 : Int) (ay0 : Int) (ox0 : Int) (oy0 : Int) (ln0 : Int) (hp : Nat) (hc : Nat) (hq : Nat) (hf : Int) (cp : Int) (jn : Int) (lm : Int) (pln : Nat) (nd : Int) (ph : Int) (wl : Int) (al : Int) (sq : Int) (hhf : 8 ≤ hf ∧ hf ≤ 32768) (ha : -16383 ≤ al ∧ al ≤ 16383) (hs : 0 < sq) (hsb : sq ≤ 600000000) (has : al * al ≤ sq) : Met l y_Walker_offsetPart (.code y_Walker_offsetPart b_Walker_offsetPart 7 (some .int) :: allw) ({ frames := 1, cells := 0, slots := 0, locals := 27 } : Room) (va_Pc [.ref hk0, .int (iI al), .long (lI sq)] (sr_U D classes [(cI, .int), (cJ, .long), (cZ, .boolean)] nestw [(hk0, .inr (5, [.ref hp, .ref hq, .ref hc, .int (iI wf), .int (iI sd), .int (iI so), .int (iI sr), .int (iI dd), .int (iI on), .int (iI rs), .int (iI fx0), .int (iI fy0), .int (iI ax0), .int (iI ay0), .int (iI ox0), .int (iI oy0), .int (iI ln0)])), (hq, .inr (3, [.int (iI hf), .int (iI cp), .int (iI jn), .int (iI lm), .ref pln, .int (iI nd), .int (iI ph), .int (iI wl)]))] sz)) (va_Qi (fun (r : Int32) => fun (_ : Unit) => ∃ z, r = iI z ∧ ∃ k, isOff hf al sq k ∧ k ≤ hf ∧ z = if al < 0 then -k else k) (sr_B D classes (va_A [(hk0, .inr (5, [.ref hp, .ref hq, .ref hc, .int (iI wf), .int (iI sd), .int (iI so), .int (iI sr), .int (iI dd), .int (iI on), .int (iI rs), .int (iI fx0), .int (iI fy0), .int (iI ax0), .int (iI ay0), .int (iI ox0), .int (iI oy0), .int (iI ln0)])), (hq, .inr (3, [.int (iI hf), .int (iI cp), .int (iI jn), .int (iI lm), .ref pln, .int (iI nd), .int (iI ph), .int (iI wl)]))] sz) (fun (_ : Unit) => [(hk0, .inr (5, [.ref hp, .ref hq, .ref hc, .int (iI wf), .int (iI sd), .int (iI so), .int (iI sr), .int (iI dd), .int (iI on), .int (iI rs), .int (iI fx0), .int (iI fy0), .int (iI ax0), .int (iI ay0), .int (iI ox0), .int (iI oy0), .int (iI ln0)])), (hq, .inr (3, [.int (iI hf), .int (iI cp), .int (iI jn), .int (iI lm), .ref pln, .int (iI nd), .int (iI ph), .int (iI wl)]))])) (va_A [(hk0, .inr (5, [.ref hp, .ref hq, .ref hc, .int (iI wf), .int (iI sd), .int (iI so), .int (iI sr), .int (iI dd), .int (iI on), .int (iI rs), .int (iI fx0), .int (iI fy0), .int (iI ax0), .int (iI ay0), .int (iI ox0), .int (iI oy0), .int (iI ln0)])), (hq, .inr (3, [.int (iI hf), .int (iI cp), .int (iI jn), .int (iI lm), .ref pln, .int (iI nd), .int (iI ph), .int (iI wl)]))] sz)) 0 0 (va_A [(hk0, .inr (5, [.ref hp, .ref hq, .ref hc, .int (iI wf), .int (iI sd), .int (iI so), .int (iI sr), .int (iI dd), .int (iI on), .int (iI rs), .int (iI fx0), .int (iI fy0), .int (iI ax0), .int (iI ay0), .int (iI ox0), .int (iI oy0), .int (iI ln0)])), (hq, .inr (3, [.int (iI hf), .int (iI cp), .int (iI jn), .int (iI lm), .ref pln, .int (iI nd), .int (iI ph), .int (iI wl)]))] sz) := by
  refine sr_enter (Qf := fun A => va_Qi (fun (r : Int32) => fun (_ : Unit) => ∃ z, r = iI z ∧ ∃ k, isOff hf al sq k ∧ k ≤ hf ∧ z = if al < 0 then -k else k) (sr_B D classes A (fun (_ : Unit) => [(hk0, .inr (5, [.ref hp, .ref hq, .ref hc, .int (iI wf), .int (iI sd), .int (iI so), .int (iI sr), .int (iI dd), .int (iI on), .int (iI rs), .int (iI fx0), .int (iI fy0), .int (iI ax0), .int (iI ay0), .int (iI ox0), .int (iI oy0), .int (iI ln0)])), (hq, .inr (3, [.int (iI hf), .int (iI cp), .int (iI jn), .int (iI lm), .ref pln, .int (iI nd), .int (iI ph), .int (iI wl)]))])) A) (by decide +kernel) rfl (Nat.le_of_ble_eq_true rfl) ?_
  intro p e s m below meth c A ls hx hb hr hml hown hlocks hin hts hsz hP hK hD hN hA hS hl
  have ht : ∀ w ∈ allw, w.before _ s = true := fun w h => hts w (List.mem_cons_of_mem _ h)
  have hsub : ∀ w ∈ allw, w ∈ _ := fun w h => List.mem_cons_of_mem (Cond.code y_Walker_offsetPart b_Walker_offsetPart 7 (some .int)) h
  have hl : lv_has ls 7 [(0, .ref hk0), (1, .int (iI al)), (2, .long (lI sq))] := hl
  have hP : va_P D classes [(hk0, .inr (5, [.ref hp, .ref hq, .ref hc, .int (iI wf), .int (iI sd), .int (iI so), .int (iI sr), .int (iI dd), .int (iI on), .int (iI rs), .int (iI fx0), .int (iI fy0), .int (iI ax0), .int (iI ay0), .int (iI ox0), .int (iI oy0), .int (iI ln0)])), (hq, .inr (3, [.int (iI hf), .int (iI cp), .int (iI jn), .int (iI lm), .ref pln, .int (iI nd), .int (iI ph), .int (iI wl)]))] s.heap := hP
  have hod := off_dom (H := hf) (by omega) hs has
  have hw2 := mul_bd (a := 2 * hf) (b := al) (A := 65536) (B := 16383) (by omega) (by omega)
  have hw3 := sq_nn (2 * hf * al)
  have hw4 := mul_bd (a := 2 * hf * al) (b := 2 * hf * al) (A := 1073676288) (B := 1073676288) (by omega) (by omega)
  refine lv_lload_n hx hb d_Walker_offsetPart_0 rfl (lv_at hl 2 rfl) ?_
  refine sr_lconst0 hx hb d_Walker_offsetPart_1 ?_
  refine sr_lcmp_gt (tgt := 8) hx hb d_Walker_offsetPart_2 d_Walker_offsetPart_3 (by decide) (by unfold bL; omega) (by unfold bL; decide) (fun c_2 => ?_) (fun c_2 => ?_)
  · -- T
    refine lv_ldc2 hx hb hown (ht _ k_k_Walker_165) d_Walker_offsetPart_8 ?_
    refine sr_eqL (z := 2) (by decide) ?_
    refine lv_aload_n hx hb d_Walker_offsetPart_11 rfl (lv_at hl 0 rfl) ?_
    refine va_get hx hb ht i_Walker hown hK hP 0 rfl rfl 1 (by decide) (ht _ k_f_Walker_15) (fun _ h9 => h9) rfl d_Walker_offsetPart_12 ?_
    refine va_get hx hb ht i_Pen hown hK hP 1 rfl rfl 0 (by decide) (ht _ k_f_Walker_167) (fun _ h9 => h9) rfl d_Walker_offsetPart_15 ?_
    refine sr_i2l hx hb d_Walker_offsetPart_18 (by unfold bI; omega) ?_
    refine sr_lmul hx hb d_Walker_offsetPart_19 ?_
    refine lv_iload_n hx hb d_Walker_offsetPart_20 rfl (lv_at hl 1 rfl) ?_
    refine sr_i2l hx hb d_Walker_offsetPart_21 (by unfold bI; omega) ?_
    refine sr_lmul hx hb d_Walker_offsetPart_22 ?_
    refine lv_lstore (lv' := [(4, .long (lI ((2 * hf) * al))), (0, .ref hk0), (1, .int (iI al)), (2, .long (lI sq))]) hx hb d_Walker_offsetPart_23 hl (by decide) rfl (fun ls hl => ?_)
    refine lv_lload hx hb d_Walker_offsetPart_25 (lv_at hl 0 rfl) ?_
    refine lv_lload hx hb d_Walker_offsetPart_27 (lv_at hl 0 rfl) ?_
    refine sr_lmul hx hb d_Walker_offsetPart_29 ?_
    refine lv_lload_n hx hb d_Walker_offsetPart_30 rfl (lv_at hl 3 rfl) ?_
    refine sr_ldiv hx hb d_Walker_offsetPart_31 (by omega) (by unfold bL; omega) hs (by unfold bL; omega) ?_
    refine sr_cSN_l (wr := [(hk0, .inr (5, [.ref hp, .ref hq, .ref hc, .int (iI wf), .int (iI sd), .int (iI so), .int (iI sr), .int (iI dd), .int (iI on), .int (iI rs), .int (iI fx0), .int (iI fy0), .int (iI ax0), .int (iI ay0), .int (iI ox0), .int (iI oy0), .int (iI ln0)])), (hq, .inr (3, [.int (iI hf), .int (iI cp), .int (iI jn), .int (iI lm), .ref pln, .int (iI nd), .int (iI ph), .int (iI wl)]))]) (As := [.long (lI ((((2 * hf) * al) * ((2 * hf) * al)) / sq))]) (rest := []) hx hb hml hown hts (c_SR_root l D cI cJ cZ _ ((((2 * hf) * al) * ((2 * hf) * al)) / sq) (hod.1) (hod.2)) (sr_cwSN hsub hts k_cd_SR_root k_in_SR (hN _ kn_m_Walker_161) k_st_SR_root g_SR_root ⟨Nat.le_of_ble_eq_true rfl, Nat.le_of_ble_eq_true rfl⟩) hns_ok hK hN hP hD hS hA [] [0, 1] rfl (by decide) rfl (by decide) (by decide) rfl hl.1 rfl (Nat.le_of_ble_eq_true rfl) d_Walker_offsetPart_32 ⟨Nat.le_of_ble_eq_true rfl, Nat.le_of_ble_eq_true rfl⟩ (fun r_32 u H locs hw_32 hP hD hS => ?_)
    have hP : va_P D classes [(hk0, .inr (5, [.ref hp, .ref hq, .ref hc, .int (iI wf), .int (iI sd), .int (iI so), .int (iI sr), .int (iI dd), .int (iI on), .int (iI rs), .int (iI fx0), .int (iI fy0), .int (iI ax0), .int (iI ay0), .int (iI ox0), .int (iI oy0), .int (iI ln0)])), (hq, .inr (3, [.int (iI hf), .int (iI cp), .int (iI jn), .int (iI lm), .ref pln, .int (iI nd), .int (iI ph), .int (iI wl)]))] H := hP
    have hD : va_D A [(hk0, .inr (5, [.ref hp, .ref hq, .ref hc, .int (iI wf), .int (iI sd), .int (iI so), .int (iI sr), .int (iI dd), .int (iI on), .int (iI rs), .int (iI fx0), .int (iI fy0), .int (iI ax0), .int (iI ay0), .int (iI ox0), .int (iI oy0), .int (iI ln0)])), (hq, .inr (3, [.int (iI hf), .int (iI cp), .int (iI jn), .int (iI lm), .ref pln, .int (iI nd), .int (iI ph), .int (iI wl)]))] := hD
    try dsimp only at hw_32
    obtain ⟨z_32, rfl, hw_32⟩ := hw_32
    have hz0 := hw_32.1
    have hzb := isRt_le (M := 16777216) hw_32 (by omega) (by omega)
    have hok := isOff_root hs hw_32
    have hkl := isOff_le (by omega) hs has hok
    refine sr_lconst1 hx hb d_Walker_offsetPart_35 ?_
    refine sr_ladd hx hb d_Walker_offsetPart_36 ?_
    refine lv_ldc2 hx hb hown (ht _ k_k_Walker_165) d_Walker_offsetPart_37 ?_
    refine sr_eqL (z := 2) (by decide) ?_
    refine sr_ldiv hx hb d_Walker_offsetPart_40 (by omega) (by unfold bL; omega) (by omega) (by unfold bL; omega) ?_
    refine sr_l2i hx hb d_Walker_offsetPart_41 ?_
    refine lv_istore (lv' := [(6, .int (iI ((z_32 + 1) / 2))), (4, .long (lI ((2 * hf) * al))), (0, .ref hk0), (1, .int (iI al)), (2, .long (lI sq))]) hx hb d_Walker_offsetPart_42 hl (by decide) rfl (fun ls hl => ?_)
    refine lv_iload_n hx hb d_Walker_offsetPart_44 rfl (lv_at hl 3 rfl) ?_
    refine sr_if_ge (tgt := 54) hx hb d_Walker_offsetPart_45 (by decide) (by unfold bI; omega) (fun c_45 => ?_) (fun c_45 => ?_)
    · -- T
      refine lv_iload hx hb d_Walker_offsetPart_54 (lv_at hl 0 rfl) ?_
      exact sr_iret () hx hb hr hlocks hP hD hS d_Walker_offsetPart_56 (⟨_, rfl, _, hok, hkl, by rw [if_neg (by omega)]⟩)
    · -- F
      refine lv_iload hx hb d_Walker_offsetPart_48 (lv_at hl 0 rfl) ?_
      refine sr_ineg hx hb d_Walker_offsetPart_50 ?_
      refine lv_goto (tgt := 56) hx hb d_Walker_offsetPart_51 (by decide) ?_
      exact sr_iret () hx hb hr hlocks hP hD hS d_Walker_offsetPart_56 (⟨_, rfl, _, hok, hkl, by rw [if_pos (by omega)]⟩)
  · -- F
    exact absurd c_2 (by omega)

set_option maxHeartbeats 4000000 in
set_option maxRecDepth 100000 in
theorem c_Walker_fineAt (l : Launch) (D : va_G) (cI cJ cZ : ClassId) (sz : Nat) (hk0 : Nat) (wf : Int) (sd : Int) (so : Int) (sr : Int) (dd : Int) (on : Int) (rs : Int) (fx0 : Int) (fy0 : Int) (ax0 : Int) (ay0 : Int) (ox0 : Int) (oy0 : Int) (ln0 : Int) (hp : Nat) (hq : Nat) (hc : Nat) (fr : Int) (al : Int) (t : Int) (hl : 0 < ln0 ∧ ln0 ≤ 6000000) (ht : 0 ≤ t ∧ t ≤ 6000000) (ha : -16383 ≤ al ∧ al ≤ 16383) : Met l y_Walker_fineAt (.code y_Walker_fineAt b_Walker_fineAt 4 (some .int) :: allw) ({ frames := 1, cells := 0, slots := 0, locals := 25 } : Room) (va_Pc [.ref hk0, .int (iI fr), .int (iI al), .int (iI t)] (sr_U D classes [(cI, .int), (cJ, .long), (cZ, .boolean)] nestw [(hk0, .inr (5, [.ref hp, .ref hq, .ref hc, .int (iI wf), .int (iI sd), .int (iI so), .int (iI sr), .int (iI dd), .int (iI on), .int (iI rs), .int (iI fx0), .int (iI fy0), .int (iI ax0), .int (iI ay0), .int (iI ox0), .int (iI oy0), .int (iI ln0)]))] sz)) (va_Qi (fun (r : Int32) => fun (_ : Unit) => r = iI (fnA ln0 fr al t)) (sr_B D classes (va_A [(hk0, .inr (5, [.ref hp, .ref hq, .ref hc, .int (iI wf), .int (iI sd), .int (iI so), .int (iI sr), .int (iI dd), .int (iI on), .int (iI rs), .int (iI fx0), .int (iI fy0), .int (iI ax0), .int (iI ay0), .int (iI ox0), .int (iI oy0), .int (iI ln0)]))] sz) (fun (_ : Unit) => [(hk0, .inr (5, [.ref hp, .ref hq, .ref hc, .int (iI wf), .int (iI sd), .int (iI so), .int (iI sr), .int (iI dd), .int (iI on), .int (iI rs), .int (iI fx0), .int (iI fy0), .int (iI ax0), .int (iI ay0), .int (iI ox0), .int (iI oy0), .int (iI ln0)]))])) (va_A [(hk0, .inr (5, [.ref hp, .ref hq, .ref hc, .int (iI wf), .int (iI sd), .int (iI so), .int (iI sr), .int (iI dd), .int (iI on), .int (iI rs), .int (iI fx0), .int (iI fy0), .int (iI ax0), .int (iI ay0), .int (iI ox0), .int (iI oy0), .int (iI ln0)]))] sz)) 0 0 (va_A [(hk0, .inr (5, [.ref hp, .ref hq, .ref hc, .int (iI wf), .int (iI sd), .int (iI so), .int (iI sr), .int (iI dd), .int (iI on), .int (iI rs), .int (iI fx0), .int (iI fy0), .int (iI ax0), .int (iI ay0), .int (iI ox0), .int (iI oy0), .int (iI ln0)]))] sz) := by
  refine sr_enter (Qf := fun A => va_Qi (fun (r : Int32) => fun (_ : Unit) => r = iI (fnA ln0 fr al t)) (sr_B D classes A (fun (_ : Unit) => [(hk0, .inr (5, [.ref hp, .ref hq, .ref hc, .int (iI wf), .int (iI sd), .int (iI so), .int (iI sr), .int (iI dd), .int (iI on), .int (iI rs), .int (iI fx0), .int (iI fy0), .int (iI ax0), .int (iI ay0), .int (iI ox0), .int (iI oy0), .int (iI ln0)]))])) A) (by decide +kernel) rfl (Nat.le_of_ble_eq_true rfl) ?_
  intro p e s m below meth c A ls hx hb hr hml hown hlocks hin hts hsz hP hK hD hN hA hS hl
  have ht : ∀ w ∈ allw, w.before _ s = true := fun w h => hts w (List.mem_cons_of_mem _ h)
  have hsub : ∀ w ∈ allw, w ∈ _ := fun w h => List.mem_cons_of_mem (Cond.code y_Walker_fineAt b_Walker_fineAt 4 (some .int)) h
  have hl : lv_has ls 4 [(0, .ref hk0), (1, .int (iI fr)), (2, .int (iI al)), (3, .int (iI t))] := hl
  have hP : va_P D classes [(hk0, .inr (5, [.ref hp, .ref hq, .ref hc, .int (iI wf), .int (iI sd), .int (iI so), .int (iI sr), .int (iI dd), .int (iI on), .int (iI rs), .int (iI fx0), .int (iI fy0), .int (iI ax0), .int (iI ay0), .int (iI ox0), .int (iI oy0), .int (iI ln0)]))] s.heap := hP
  have hm := mul_bd (a := 32 * al) (b := t) (A := 524256) (B := 6000000) (by omega) (by omega)
  refine lv_aload_n hx hb d_Walker_fineAt_0 rfl (lv_at hl 0 rfl) ?_
  refine va_get hx hb ht i_Walker hown hK hP 0 rfl rfl 16 (by decide) (ht _ k_f_Walker_115) (fun _ h9 => h9) rfl d_Walker_fineAt_1 ?_
  refine sr_if_gt (tgt := 12) hx hb d_Walker_fineAt_4 (by decide) (by unfold bI; omega) (fun c_4 => ?_) (fun c_4 => ?_)
  · -- T
    refine sr_bipush hx hb d_Walker_fineAt_12 (by decide) ?_
    refine lv_iload_n hx hb d_Walker_fineAt_14 rfl (lv_at hl 1 rfl) ?_
    refine sr_imul hx hb d_Walker_fineAt_15 ?_
    refine lv_ldc2 hx hb hown (ht _ k_k_Walker_182) d_Walker_fineAt_16 ?_
    refine sr_eqL (z := 32) (by decide) ?_
    refine lv_iload_n hx hb d_Walker_fineAt_19 rfl (lv_at hl 2 rfl) ?_
    refine sr_i2l hx hb d_Walker_fineAt_20 (by unfold bI; omega) ?_
    refine sr_lmul hx hb d_Walker_fineAt_21 ?_
    refine lv_iload_n hx hb d_Walker_fineAt_22 rfl (lv_at hl 3 rfl) ?_
    refine sr_i2l hx hb d_Walker_fineAt_23 (by unfold bI; omega) ?_
    refine sr_lmul hx hb d_Walker_fineAt_24 ?_
    refine lv_aload_n hx hb d_Walker_fineAt_25 rfl (lv_at hl 0 rfl) ?_
    refine va_get hx hb ht i_Walker hown hK hP 0 rfl rfl 16 (by decide) (ht _ k_f_Walker_115) (fun _ h9 => h9) rfl d_Walker_fineAt_26 ?_
    refine sr_i2l hx hb d_Walker_fineAt_29 (by unfold bI; omega) ?_
    refine sr_ladd hx hb d_Walker_fineAt_30 ?_
    refine lv_ldc2 hx hb hown (ht _ k_k_Walker_165) d_Walker_fineAt_31 ?_
    refine sr_eqL (z := 2) (by decide) ?_
    refine lv_aload_n hx hb d_Walker_fineAt_34 rfl (lv_at hl 0 rfl) ?_
    refine va_get hx hb ht i_Walker hown hK hP 0 rfl rfl 16 (by decide) (ht _ k_f_Walker_115) (fun _ h9 => h9) rfl d_Walker_fineAt_35 ?_
    refine sr_i2l hx hb d_Walker_fineAt_38 (by unfold bI; omega) ?_
    refine sr_lmul hx hb d_Walker_fineAt_39 ?_
    refine sr_cS_l (wr := [(hk0, .inr (5, [.ref hp, .ref hq, .ref hc, .int (iI wf), .int (iI sd), .int (iI so), .int (iI sr), .int (iI dd), .int (iI on), .int (iI rs), .int (iI fx0), .int (iI fy0), .int (iI ax0), .int (iI ay0), .int (iI ox0), .int (iI oy0), .int (iI ln0)]))]) (As := [.long (lI (((32 * al) * t) + ln0)), .long (lI (2 * ln0))]) (rest := [.int (iI (16 * fr))]) hx hb hml hown hts (c_Math_floorDiv_JJJ l D cI cJ cZ _ (((32 * al) * t) + ln0) (2 * ln0) (by unfold bL; omega) (by omega) (by unfold bL; omega)) (sr_cwS hsub hts k_cd_Math_floorDiv_JJJ k_in_Math k_m_Walker_184 k_st_Math_floorDiv_JJJ g_Math_floorDiv_JJJ ⟨Nat.le_of_ble_eq_true rfl, Nat.le_of_ble_eq_true rfl⟩) hns_ok hK hN hP hD hS hA [] [0] rfl (by decide) rfl (by decide) (by decide) rfl hl.1 rfl (Nat.le_of_ble_eq_true rfl) d_Walker_fineAt_40 ⟨Nat.le_of_ble_eq_true rfl, Nat.le_of_ble_eq_true rfl⟩ (fun r_40 u H locs hw_40 hP hD hS => ?_)
    have hP : va_P D classes [(hk0, .inr (5, [.ref hp, .ref hq, .ref hc, .int (iI wf), .int (iI sd), .int (iI so), .int (iI sr), .int (iI dd), .int (iI on), .int (iI rs), .int (iI fx0), .int (iI fy0), .int (iI ax0), .int (iI ay0), .int (iI ox0), .int (iI oy0), .int (iI ln0)]))] H := hP
    have hD : va_D A [(hk0, .inr (5, [.ref hp, .ref hq, .ref hc, .int (iI wf), .int (iI sd), .int (iI so), .int (iI sr), .int (iI dd), .int (iI on), .int (iI rs), .int (iI fx0), .int (iI fy0), .int (iI ax0), .int (iI ay0), .int (iI ox0), .int (iI oy0), .int (iI ln0)]))] := hD
    try dsimp only at hw_40
    subst hw_40
    refine sr_l2i hx hb d_Walker_fineAt_43 ?_
    refine sr_iadd hx hb d_Walker_fineAt_44 ?_
    exact sr_iret () hx hb hr hlocks hP hD hS d_Walker_fineAt_45 (rfl)
  · -- F
    exact absurd c_4 (by omega)

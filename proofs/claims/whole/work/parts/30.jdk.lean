set_option maxHeartbeats 4000000 in
set_option maxRecDepth 100000 in
/-- Math.floorDiv over longs, the divisor above 0 -/
theorem c_Math_floorDiv_JJJ (l : Launch) (D : va_G) (cI cJ cZ : ClassId) (sz : Nat) (a : Int) (b : Int) (ha : bL a) (hb0 : 0 < b) (hb1 : bL b) : Met l y_Math_floorDiv_JJJ (.code y_Math_floorDiv_JJJ b_Math_floorDiv_JJJ 6 (some .long) :: allw) ({ frames := 0, cells := 0, slots := 0, locals := 0 } : Room) (va_Pc [.long (lI a), .long (lI b)] (sr_U D classes [(cI, .int), (cJ, .long), (cZ, .boolean)] nestw [] sz)) (va_Ql (fun (r : Int64) => fun (_ : Unit) => r = lI (a / b)) (sr_B D classes (va_A [] sz) (fun (_ : Unit) => [])) (va_A [] sz)) 0 0 (va_A [] sz) := by
  refine sr_enterF (Qf := fun A => va_Ql (fun (r : Int64) => fun (_ : Unit) => r = lI (a / b)) (sr_B D classes A (fun (_ : Unit) => [])) A) (by decide +kernel) rfl (Nat.le_of_ble_eq_true rfl) ?_
  intro p e s m below meth c A ls hx hb hr hml hown hlocks hin hts hsz hP hK hD hN hA hS hl
  have ht : ∀ w ∈ allw, w.before _ s = true := fun w h => hts w (List.mem_cons_of_mem _ h)
  have hsub : ∀ w ∈ allw, w ∈ _ := fun w h => List.mem_cons_of_mem (Cond.code y_Math_floorDiv_JJJ b_Math_floorDiv_JJJ 6 (some .long)) h
  have hl : lv_has ls 6 [(0, .long (lI a)), (2, .long (lI b))] := hl
  have hP : va_P D classes [] s.heap := hP
  have hq := tdiv_bd (a := a) hb0
  have hf := floor_t (a := a) hb0
  have hml2 := Int.mul_tdiv_add_tmod a b
  have hcm := Int.mul_comm b (a.tdiv b)
  refine lv_lload_n hx hb d_Math_floorDiv_JJJ_0 rfl (lv_at hl 0 rfl) ?_
  refine lv_lload_n hx hb d_Math_floorDiv_JJJ_1 rfl (lv_at hl 1 rfl) ?_
  refine sr_ldivT hx hb d_Math_floorDiv_JJJ_2 ha hb1 (by omega) ?_
  refine lv_lstore (lv' := [(4, .long (lI (a.tdiv b))), (0, .long (lI a)), (2, .long (lI b))]) hx hb d_Math_floorDiv_JJJ_3 hl (by decide) rfl (fun ls hl => ?_)
  refine lv_lload_n hx hb d_Math_floorDiv_JJJ_5 rfl (lv_at hl 1 rfl) ?_
  refine lv_lload_n hx hb d_Math_floorDiv_JJJ_6 rfl (lv_at hl 2 rfl) ?_
  refine lv_lxor hx hb d_Math_floorDiv_JJJ_7 ?_
  refine sr_lconst0 hx hb d_Math_floorDiv_JJJ_8 ?_
  refine sr_lcmpr_ge (tgt := 27) hx hb d_Math_floorDiv_JJJ_9 d_Math_floorDiv_JJJ_10 (by decide) (fun c_9 => ?_) (fun c_9 => ?_)
  · -- T
    have c0 := (lI_xor ha hb1 hb0).mp c_9
    refine lv_lload hx hb d_Math_floorDiv_JJJ_27 (lv_at hl 0 rfl) ?_
    exact sr_lret () hx hb hr hlocks hP hD hS d_Math_floorDiv_JJJ_29 (by rw [hf, if_neg (by omega)])
  · -- F
    have c0 := mt (lI_xor ha hb1 hb0).mpr c_9
    refine lv_lload hx hb d_Math_floorDiv_JJJ_13 (lv_at hl 0 rfl) ?_
    refine lv_lload_n hx hb d_Math_floorDiv_JJJ_15 rfl (lv_at hl 2 rfl) ?_
    refine sr_lmul hx hb d_Math_floorDiv_JJJ_16 ?_
    refine lv_lload_n hx hb d_Math_floorDiv_JJJ_17 rfl (lv_at hl 1 rfl) ?_
    refine sr_lcmp_eq (tgt := 27) hx hb d_Math_floorDiv_JJJ_18 d_Math_floorDiv_JJJ_19 (by decide) (tdiv_mul_bL hb0 ha) ha (fun c_18 => ?_) (fun c_18 => ?_)
    · -- T
      refine lv_lload hx hb d_Math_floorDiv_JJJ_27 (lv_at hl 0 rfl) ?_
      exact sr_lret () hx hb hr hlocks hP hD hS d_Math_floorDiv_JJJ_29 (by rw [hf, if_neg (by omega)])
    · -- F
      refine lv_lload hx hb d_Math_floorDiv_JJJ_22 (lv_at hl 0 rfl) ?_
      refine sr_lconst1 hx hb d_Math_floorDiv_JJJ_24 ?_
      refine sr_lsub hx hb d_Math_floorDiv_JJJ_25 ?_
      exact sr_lret () hx hb hr hlocks hP hD hS d_Math_floorDiv_JJJ_26 (by rw [hf, if_pos ⟨by omega, c_18⟩])

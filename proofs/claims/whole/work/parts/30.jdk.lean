set_option maxHeartbeats 4000000 in
set_option maxRecDepth 100000 in
/-- Math.floorDiv over longs, the divisor above 0 -/
theorem c_Math_floorDiv_JJJ (l : Launch) (D : va_G) (cI cJ cZ : ClassId) (sz : Nat) (a : Int) (b : Int) (ha : bL a) (hb0 : 0 < b) (hb1 : bL b) : Met l y_Math_floorDiv_JJJ (.code y_Math_floorDiv_JJJ b_Math_floorDiv_JJJ 6 (some .long) :: allw) ({ frames := 0, cells := 0, slots := 0, locals := 0 } : Room) (va_Pc [.long (lI a), .long (lI b)] (sr_U D classes [(cI, .int), (cJ, .long), (cZ, .boolean)] nestw [] sz)) (va_Ql (fun (r : Int64) => fun (_ : Unit) => r = lI (a / b)) (sr_B D classes (va_A [] sz) (fun (_ : Unit) => [])) (va_A [] sz)) 0 0 (va_A [] sz) := by
  refine sr_enterF (Qf := fun A => va_Ql (fun (r : Int64) => fun (_ : Unit) => r = lI (a / b)) (sr_B D classes A (fun (_ : Unit) => [])) A) (by decide +kernel) rfl (Nat.le_of_ble_eq_true rfl) ?_
  intro p e s m below meth c A ls hx hb hr hml hown hlocks hin hts hsz hP hK hD hN hA hS hl
  have ht : ∀ w ∈ allw, w.before _ s = true := fun w h => hts w (List.mem_cons_of_mem _ h)
  have hsub : ∀ w ∈ allw, w ∈ _ := fun w h => List.mem_cons_of_mem (Cond.code y_Math_floorDiv_JJJ b_Math_floorDiv_JJJ 6 (some .long)) h
  have hl : lv_has ls 6 [(0, .long (lI a)), (2, .long (lI b))] := hl
  have hP : va_P D classes [] s.heap := hP
  have hf := floor_t (a := a) hb0
  refine lv_lload_n hx hb d_Math_floorDiv_JJJ_0 rfl (lv_at hl 0 rfl) ?_
  refine lv_lload_n hx hb d_Math_floorDiv_JJJ_1 rfl (lv_at hl 1 rfl) ?_
  refine sr_ldivT hx hb d_Math_floorDiv_JJJ_2 ha hb1 (by omega) ?_
  refine lv_lstore (lv' := [(4, .long (lI (a.tdiv b))), (0, .long (lI a)), (2, .long (lI b))]) hx hb d_Math_floorDiv_JJJ_3 hl (by decide) rfl (fun ls hl => ?_)
  refine lv_lload_n hx hb d_Math_floorDiv_JJJ_5 rfl (lv_at hl 1 rfl) ?_
  refine lv_lload_n hx hb d_Math_floorDiv_JJJ_6 rfl (lv_at hl 2 rfl) ?_
  refine lv_lxor hx hb d_Math_floorDiv_JJJ_7 ?_
  refine sr_lconst0 hx hb d_Math_floorDiv_JJJ_8 ?_
  refine sr_lcmpr_ge (tgt := 27) hx hb d_Math_floorDiv_JJJ_9 d_Math_floorDiv_JJJ_10 (by decide) (fun c_9 => ?_) (fun c_9 => ?_)
  · -- T
    have c0 := (lI_xor ha hb1 hb0).mp c_9
    refine lv_lload hx hb d_Math_floorDiv_JJJ_27 (lv_at hl 0 rfl) ?_
    exact sr_lret () hx hb hr hlocks hP hD hS d_Math_floorDiv_JJJ_29 (by rw [hf, if_neg (by omega)])
  · -- F
    have c0 := mt (lI_xor ha hb1 hb0).mpr c_9
    refine lv_lload hx hb d_Math_floorDiv_JJJ_13 (lv_at hl 0 rfl) ?_
    refine lv_lload_n hx hb d_Math_floorDiv_JJJ_15 rfl (lv_at hl 2 rfl) ?_
    refine sr_lmul hx hb d_Math_floorDiv_JJJ_16 ?_
    refine lv_lload_n hx hb d_Math_floorDiv_JJJ_17 rfl (lv_at hl 1 rfl) ?_
    refine sr_lcmp_eq (tgt := 27) hx hb d_Math_floorDiv_JJJ_18 d_Math_floorDiv_JJJ_19 (by decide) (tdiv_mul_bL hb0 ha) ha (fun c_18 => ?_) (fun c_18 => ?_)
    · -- T
      refine lv_lload hx hb d_Math_floorDiv_JJJ_27 (lv_at hl 0 rfl) ?_
      exact sr_lret () hx hb hr hlocks hP hD hS d_Math_floorDiv_JJJ_29 (by rw [hf, if_neg (by omega)])
    · -- F
      refine lv_lload hx hb d_Math_floorDiv_JJJ_22 (lv_at hl 0 rfl) ?_
      refine sr_lconst1 hx hb d_Math_floorDiv_JJJ_24 ?_
      refine sr_lsub hx hb d_Math_floorDiv_JJJ_25 ?_
      exact sr_lret () hx hb hr hlocks hP hD hS d_Math_floorDiv_JJJ_26 (by rw [hf, if_pos ⟨by omega, c_18⟩])

set_option maxHeartbeats 4000000 in
set_option maxRecDepth 100000 in
/-- Math.floorDiv over ints, the divisor above 0 -/
theorem c_Math_floorDiv_III (l : Launch) (D : va_G) (cI cJ cZ : ClassId) (sz : Nat) (a : Int) (b : Int) (ha : bI a) (hb0 : 0 < b) (hb1 : bI b) : Met l y_Math_floorDiv_III (.code y_Math_floorDiv_III b_Math_floorDiv_III 3 (some .int) :: allw) ({ frames := 0, cells := 0, slots := 0, locals := 0 } : Room) (va_Pc [.int (iI a), .int (iI b)] (sr_U D classes [(cI, .int), (cJ, .long), (cZ, .boolean)] nestw [] sz)) (va_Qi (fun (r : Int32) => fun (_ : Unit) => r = iI (a / b)) (sr_B D classes (va_A [] sz) (fun (_ : Unit) => [])) (va_A [] sz)) 0 0 (va_A [] sz) := by
  refine sr_enterF (Qf := fun A => va_Qi (fun (r : Int32) => fun (_ : Unit) => r = iI (a / b)) (sr_B D classes A (fun (_ : Unit) => [])) A) (by decide +kernel) rfl (Nat.le_of_ble_eq_true rfl) ?_
  intro p e s m below meth c A ls hx hb hr hml hown hlocks hin hts hsz hP hK hD hN hA hS hl
  have ht : ∀ w ∈ allw, w.before _ s = true := fun w h => hts w (List.mem_cons_of_mem _ h)
  have hsub : ∀ w ∈ allw, w ∈ _ := fun w h => List.mem_cons_of_mem (Cond.code y_Math_floorDiv_III b_Math_floorDiv_III 3 (some .int)) h
  have hl : lv_has ls 3 [(0, .int (iI a)), (1, .int (iI b))] := hl
  have hP : va_P D classes [] s.heap := hP
  have hf := floor_t (a := a) hb0
  refine lv_iload_n hx hb d_Math_floorDiv_III_0 rfl (lv_at hl 0 rfl) ?_
  refine lv_iload_n hx hb d_Math_floorDiv_III_1 rfl (lv_at hl 1 rfl) ?_
  refine sr_idivT hx hb d_Math_floorDiv_III_2 ha hb1 (by omega) ?_
  refine lv_istore_n (lv' := [(2, .int (iI (a.tdiv b))), (0, .int (iI a)), (1, .int (iI b))]) hx hb d_Math_floorDiv_III_3 rfl hl (by decide) rfl (fun ls hl => ?_)
  refine lv_iload_n hx hb d_Math_floorDiv_III_4 rfl (lv_at hl 1 rfl) ?_
  refine lv_iload_n hx hb d_Math_floorDiv_III_5 rfl (lv_at hl 2 rfl) ?_
  refine lv_ixor hx hb d_Math_floorDiv_III_6 ?_
  refine lv_if_ge (tgt := 21) hx hb d_Math_floorDiv_III_7 (by decide) (fun c_7 => ?_) (fun c_7 => ?_)
  · -- T
    have c0 := (iI_xor ha hb1 hb0).mp c_7
    refine lv_iload_n hx hb d_Math_floorDiv_III_21 rfl (lv_at hl 0 rfl) ?_
    exact sr_iret () hx hb hr hlocks hP hD hS d_Math_floorDiv_III_22 (by rw [hf, if_neg (by omega)])
  · -- F
    have c0 := mt (iI_xor ha hb1 hb0).mpr c_7
    refine lv_iload_n hx hb d_Math_floorDiv_III_10 rfl (lv_at hl 0 rfl) ?_
    refine lv_iload_n hx hb d_Math_floorDiv_III_11 rfl (lv_at hl 2 rfl) ?_
    refine sr_imul hx hb d_Math_floorDiv_III_12 ?_
    refine lv_iload_n hx hb d_Math_floorDiv_III_13 rfl (lv_at hl 1 rfl) ?_
    refine sr_icmp_eq (tgt := 21) hx hb d_Math_floorDiv_III_14 (by decide) (tdiv_mul_bI hb0 ha) ha (fun c_14 => ?_) (fun c_14 => ?_)
    · -- T
      refine lv_iload_n hx hb d_Math_floorDiv_III_21 rfl (lv_at hl 0 rfl) ?_
      exact sr_iret () hx hb hr hlocks hP hD hS d_Math_floorDiv_III_22 (by rw [hf, if_neg (by omega)])
    · -- F
      refine lv_iload_n hx hb d_Math_floorDiv_III_17 rfl (lv_at hl 0 rfl) ?_
      refine sr_iconst hx hb d_Math_floorDiv_III_18 ?_
      refine sr_isub hx hb d_Math_floorDiv_III_19 ?_
      exact sr_iret () hx hb hr hlocks hP hD hS d_Math_floorDiv_III_20 (by rw [hf, if_pos ⟨by omega, c_14⟩])

set_option maxHeartbeats 4000000 in
set_option maxRecDepth 100000 in
/-- Math.floorMod over ints, neither below 0 -/
theorem c_Math_floorMod_III (l : Launch) (D : va_G) (cI cJ cZ : ClassId) (sz : Nat) (a : Int) (b : Int) (h0 : 0 ≤ a) (ha : bI a) (hb0 : 0 < b) (hb1 : bI b) : Met l y_Math_floorMod_III (.code y_Math_floorMod_III b_Math_floorMod_III 3 (some .int) :: allw) ({ frames := 0, cells := 0, slots := 0, locals := 0 } : Room) (va_Pc [.int (iI a), .int (iI b)] (sr_U D classes [(cI, .int), (cJ, .long), (cZ, .boolean)] nestw [] sz)) (va_Qi (fun (r : Int32) => fun (_ : Unit) => r = iI (a % b)) (sr_B D classes (va_A [] sz) (fun (_ : Unit) => [])) (va_A [] sz)) 0 0 (va_A [] sz) := by
  refine sr_enterF (Qf := fun A => va_Qi (fun (r : Int32) => fun (_ : Unit) => r = iI (a % b)) (sr_B D classes A (fun (_ : Unit) => [])) A) (by decide +kernel) rfl (Nat.le_of_ble_eq_true rfl) ?_
  intro p e s m below meth c A ls hx hb hr hml hown hlocks hin hts hsz hP hK hD hN hA hS hl
  have ht : ∀ w ∈ allw, w.before _ s = true := fun w h => hts w (List.mem_cons_of_mem _ h)
  have hsub : ∀ w ∈ allw, w ∈ _ := fun w h => List.mem_cons_of_mem (Cond.code y_Math_floorMod_III b_Math_floorMod_III 3 (some .int)) h
  have hl : lv_has ls 3 [(0, .int (iI a)), (1, .int (iI b))] := hl
  have hP : va_P D classes [] s.heap := hP
  refine lv_iload_n hx hb d_Math_floorMod_III_0 rfl (lv_at hl 0 rfl) ?_
  refine lv_iload_n hx hb d_Math_floorMod_III_1 rfl (lv_at hl 1 rfl) ?_
  refine sr_irem hx hb d_Math_floorMod_III_2 h0 ha hb0 hb1 ?_
  refine lv_istore_n (lv' := [(2, .int (iI (a % b))), (0, .int (iI a)), (1, .int (iI b))]) hx hb d_Math_floorMod_III_3 rfl hl (by decide) rfl (fun ls hl => ?_)
  refine lv_iload_n hx hb d_Math_floorMod_III_4 rfl (lv_at hl 1 rfl) ?_
  refine lv_iload_n hx hb d_Math_floorMod_III_5 rfl (lv_at hl 2 rfl) ?_
  refine lv_ixor hx hb d_Math_floorMod_III_6 ?_
  refine lv_if_ge (tgt := 18) hx hb d_Math_floorMod_III_7 (by decide) (fun c_7 => ?_) (fun c_7 => ?_)
  · -- T
    refine lv_iload_n hx hb d_Math_floorMod_III_18 rfl (lv_at hl 0 rfl) ?_
    exact sr_iret () hx hb hr hlocks hP hD hS d_Math_floorMod_III_19 (rfl)
  · -- F
    exact absurd ((iI_xor ha hb1 hb0).mpr h0) c_7

set_option maxHeartbeats 4000000 in
set_option maxRecDepth 100000 in
/-- Long.signum -/
theorem c_Long_signum_JI (l : Launch) (D : va_G) (cI cJ cZ : ClassId) (sz : Nat) (a : Int) (ha : bL a) (h0 : -9223372036854775808 < a) : Met l y_Long_signum_JI (.code y_Long_signum_JI b_Long_signum_JI 2 (some .int) :: allw) ({ frames := 0, cells := 0, slots := 0, locals := 0 } : Room) (va_Pc [.long (lI a)] (sr_U D classes [(cI, .int), (cJ, .long), (cZ, .boolean)] nestw [] sz)) (va_Qi (fun (r : Int32) => fun (_ : Unit) => r = iI (Int.sign a)) (sr_B D classes (va_A [] sz) (fun (_ : Unit) => [])) (va_A [] sz)) 0 0 (va_A [] sz) := by
  refine sr_enterF (Qf := fun A => va_Qi (fun (r : Int32) => fun (_ : Unit) => r = iI (Int.sign a)) (sr_B D classes A (fun (_ : Unit) => [])) A) (by decide +kernel) rfl (Nat.le_of_ble_eq_true rfl) ?_
  intro p e s m below meth c A ls hx hb hr hml hown hlocks hin hts hsz hP hK hD hN hA hS hl
  have ht : ∀ w ∈ allw, w.before _ s = true := fun w h => hts w (List.mem_cons_of_mem _ h)
  have hsub : ∀ w ∈ allw, w ∈ _ := fun w h => List.mem_cons_of_mem (Cond.code y_Long_signum_JI b_Long_signum_JI 2 (some .int)) h
  have hl : lv_has ls 2 [(0, .long (lI a))] := hl
  have hP : va_P D classes [] s.heap := hP
  refine lv_lload_n hx hb d_Long_signum_JI_0 rfl (lv_at hl 0 rfl) ?_
  refine sr_bipush hx hb d_Long_signum_JI_1 (by decide) ?_
  refine lv_lshr hx hb d_Long_signum_JI_3 rfl ?_
  refine lv_lload_n hx hb d_Long_signum_JI_4 rfl (lv_at hl 0 rfl) ?_
  refine sr_lneg hx hb d_Long_signum_JI_5 ?_
  refine sr_bipush hx hb d_Long_signum_JI_6 (by decide) ?_
  refine lv_lushr hx hb d_Long_signum_JI_8 rfl ?_
  refine lv_lor hx hb d_Long_signum_JI_9 ?_
  refine lv_l2i hx hb d_Long_signum_JI_10 rfl ?_
  exact sr_iret () hx hb hr hlocks hP hD hS d_Long_signum_JI_11 (by have h9 := signum_ok ha h0; rw [lI_neg] at h9; exact h9)

set_option maxHeartbeats 4000000 in
set_option maxRecDepth 100000 in
/-- Long.bitCount -/
theorem c_Long_bitCount_JI (l : Launch) (D : va_G) (cI cJ cZ : ClassId) (sz : Nat) (x : Int64)  : Met l y_Long_bitCount_JI (.code y_Long_bitCount_JI b_Long_bitCount_JI 2 (some .int) :: allw) ({ frames := 0, cells := 0, slots := 0, locals := 0 } : Room) (va_Pc [.long x] (sr_U D classes [(cI, .int), (cJ, .long), (cZ, .boolean)] nestw [] sz)) (va_Qi (fun (r : Int32) => fun (_ : Unit) => r = iI (pcN 64 (uN x))) (sr_B D classes (va_A [] sz) (fun (_ : Unit) => [])) (va_A [] sz)) 0 0 (va_A [] sz) := by
  refine sr_enterF (Qf := fun A => va_Qi (fun (r : Int32) => fun (_ : Unit) => r = iI (pcN 64 (uN x))) (sr_B D classes A (fun (_ : Unit) => [])) A) (by decide +kernel) rfl (Nat.le_of_ble_eq_true rfl) ?_
  intro p e s m below meth c A ls hx hb hr hml hown hlocks hin hts hsz hP hK hD hN hA hS hl
  have ht : ∀ w ∈ allw, w.before _ s = true := fun w h => hts w (List.mem_cons_of_mem _ h)
  have hsub : ∀ w ∈ allw, w ∈ _ := fun w h => List.mem_cons_of_mem (Cond.code y_Long_bitCount_JI b_Long_bitCount_JI 2 (some .int)) h
  have hl : lv_has ls 2 [(0, .long x)] := hl
  have hP : va_P D classes [] s.heap := hP
  refine lv_lload_n hx hb d_Long_bitCount_JI_0 rfl (lv_at hl 0 rfl) ?_
  refine lv_lload_n hx hb d_Long_bitCount_JI_1 rfl (lv_at hl 0 rfl) ?_
  refine sr_iconst hx hb d_Long_bitCount_JI_2 ?_
  refine lv_lushr hx hb d_Long_bitCount_JI_3 rfl ?_
  refine lv_ldc2 hx hb hown (ht _ k_k_Long_314) d_Long_bitCount_JI_4 ?_
  refine sr_eqL (z := 6148914691236517205) (by decide) ?_
  refine lv_land hx hb d_Long_bitCount_JI_7 ?_
  refine lv_lsub hx hb d_Long_bitCount_JI_8 ?_
  refine lv_topl (fun x1 e_x1 => ?_)
  refine lv_lstore_n (lv' := [(0, .long x1)]) hx hb d_Long_bitCount_JI_9 rfl hl (by decide) rfl (fun ls hl => ?_)
  refine lv_lload_n hx hb d_Long_bitCount_JI_10 rfl (lv_at hl 0 rfl) ?_
  refine lv_ldc2 hx hb hown (ht _ k_k_Long_316) d_Long_bitCount_JI_11 ?_
  refine sr_eqL (z := 3689348814741910323) (by decide) ?_
  refine lv_land hx hb d_Long_bitCount_JI_14 ?_
  refine lv_lload_n hx hb d_Long_bitCount_JI_15 rfl (lv_at hl 0 rfl) ?_
  refine sr_iconst hx hb d_Long_bitCount_JI_16 ?_
  refine lv_lushr hx hb d_Long_bitCount_JI_17 rfl ?_
  refine lv_ldc2 hx hb hown (ht _ k_k_Long_316) d_Long_bitCount_JI_18 ?_
  refine sr_eqL (z := 3689348814741910323) (by decide) ?_
  refine lv_land hx hb d_Long_bitCount_JI_21 ?_
  refine lv_ladd hx hb d_Long_bitCount_JI_22 ?_
  refine lv_topl (fun x2 e_x2 => ?_)
  refine lv_lstore_n (lv' := [(0, .long x2)]) hx hb d_Long_bitCount_JI_23 rfl hl (by decide) rfl (fun ls hl => ?_)
  refine lv_lload_n hx hb d_Long_bitCount_JI_24 rfl (lv_at hl 0 rfl) ?_
  refine lv_lload_n hx hb d_Long_bitCount_JI_25 rfl (lv_at hl 0 rfl) ?_
  refine sr_iconst hx hb d_Long_bitCount_JI_26 ?_
  refine lv_lushr hx hb d_Long_bitCount_JI_27 rfl ?_
  refine lv_ladd hx hb d_Long_bitCount_JI_28 ?_
  refine lv_ldc2 hx hb hown (ht _ k_k_Long_318) d_Long_bitCount_JI_29 ?_
  refine sr_eqL (z := 1085102592571150095) (by decide) ?_
  refine lv_land hx hb d_Long_bitCount_JI_32 ?_
  refine lv_topl (fun x3 e_x3 => ?_)
  refine lv_lstore_n (lv' := [(0, .long x3)]) hx hb d_Long_bitCount_JI_33 rfl hl (by decide) rfl (fun ls hl => ?_)
  refine lv_lload_n hx hb d_Long_bitCount_JI_34 rfl (lv_at hl 0 rfl) ?_
  refine lv_lload_n hx hb d_Long_bitCount_JI_35 rfl (lv_at hl 0 rfl) ?_
  refine sr_bipush hx hb d_Long_bitCount_JI_36 (by decide) ?_
  refine lv_lushr hx hb d_Long_bitCount_JI_38 rfl ?_
  refine lv_ladd hx hb d_Long_bitCount_JI_39 ?_
  refine lv_topl (fun x4 e_x4 => ?_)
  refine lv_lstore_n (lv' := [(0, .long x4)]) hx hb d_Long_bitCount_JI_40 rfl hl (by decide) rfl (fun ls hl => ?_)
  refine lv_lload_n hx hb d_Long_bitCount_JI_41 rfl (lv_at hl 0 rfl) ?_
  refine lv_lload_n hx hb d_Long_bitCount_JI_42 rfl (lv_at hl 0 rfl) ?_
  refine sr_bipush hx hb d_Long_bitCount_JI_43 (by decide) ?_
  refine lv_lushr hx hb d_Long_bitCount_JI_45 rfl ?_
  refine lv_ladd hx hb d_Long_bitCount_JI_46 ?_
  refine lv_topl (fun x5 e_x5 => ?_)
  refine lv_lstore_n (lv' := [(0, .long x5)]) hx hb d_Long_bitCount_JI_47 rfl hl (by decide) rfl (fun ls hl => ?_)
  refine lv_lload_n hx hb d_Long_bitCount_JI_48 rfl (lv_at hl 0 rfl) ?_
  refine lv_lload_n hx hb d_Long_bitCount_JI_49 rfl (lv_at hl 0 rfl) ?_
  refine sr_bipush hx hb d_Long_bitCount_JI_50 (by decide) ?_
  refine lv_lushr hx hb d_Long_bitCount_JI_52 rfl ?_
  refine lv_ladd hx hb d_Long_bitCount_JI_53 ?_
  refine lv_topl (fun x6 e_x6 => ?_)
  refine lv_lstore_n (lv' := [(0, .long x6)]) hx hb d_Long_bitCount_JI_54 rfl hl (by decide) rfl (fun ls hl => ?_)
  refine lv_lload_n hx hb d_Long_bitCount_JI_55 rfl (lv_at hl 0 rfl) ?_
  refine lv_l2i hx hb d_Long_bitCount_JI_56 rfl ?_
  refine sr_bipush hx hb d_Long_bitCount_JI_57 (by decide) ?_
  refine lv_iand hx hb d_Long_bitCount_JI_59 ?_
  exact sr_iret () hx hb hr hlocks hP hD hS d_Long_bitCount_JI_60 (bitCount_ok e_x1 e_x2 e_x3 e_x4 e_x5 e_x6)

set_option maxHeartbeats 4000000 in
set_option maxRecDepth 100000 in
/-- Arrays.fill of longs -/
theorem c_Arr_fill_AJJV (l : Launch) (D : va_G) (cI cJ cZ : ClassId) (sz : Nat) (h0 : Nat) (n : Nat) (f : Nat → Int64) (v : Int64) (hn : n ≤ 1000000) : Met l y_Arr_fill_AJJV (.code y_Arr_fill_AJJV b_Arr_fill_AJJV 5 none :: allw) ({ frames := 0, cells := 0, slots := 0, locals := 0 } : Room) (va_Pc [.ref h0, .long v] (sr_U D classes [(cI, .int), (cJ, .long), (cZ, .boolean)] nestw [(h0, .inl (cJ, n, .inr (.inl f)))] sz)) (va_Qv (fun (g : (Nat → Int64)) => ∀ j : Nat, j < n → g j = v) (sr_B D classes (va_A [(h0, .inl (cJ, n, .inr (.inl f)))] sz) (fun (g : (Nat → Int64)) => [(h0, .inl (cJ, n, .inr (.inl g)))])) (va_A [(h0, .inl (cJ, n, .inr (.inl f)))] sz)) 0 0 (va_A [(h0, .inl (cJ, n, .inr (.inl f)))] sz) := by
  refine sr_enterF (Qf := fun A => va_Qv (fun (g : (Nat → Int64)) => ∀ j : Nat, j < n → g j = v) (sr_B D classes A (fun (g : (Nat → Int64)) => [(h0, .inl (cJ, n, .inr (.inl g)))])) A) (by decide +kernel) rfl (Nat.le_of_ble_eq_true rfl) ?_
  intro p e s m below meth c A ls hx hb hr hml hown hlocks hin hts hsz hP hK hD hN hA hS hl
  have ht : ∀ w ∈ allw, w.before _ s = true := fun w h => hts w (List.mem_cons_of_mem _ h)
  have hsub : ∀ w ∈ allw, w ∈ _ := fun w h => List.mem_cons_of_mem (Cond.code y_Arr_fill_AJJV b_Arr_fill_AJJV 5 none) h
  have hl : lv_has ls 5 [(0, .ref h0), (1, .long v)] := hl
  have hP : va_P D classes [(h0, .inl (cJ, n, .inr (.inl f)))] s.heap := hP
  refine sr_iconst hx hb d_Arr_fill_AJJV_0 ?_
  refine lv_istore_n (lv' := [(3, .int (iI 0)), (0, .ref h0), (1, .long v)]) hx hb d_Arr_fill_AJJV_1 rfl hl (by decide) rfl (fun ls hl => ?_)
  refine lv_aload_n hx hb d_Arr_fill_AJJV_2 rfl (lv_at hl 1 rfl) ?_
  refine sr_alen hx hb hK hP 0 1 rfl rfl d_Arr_fill_AJJV_3 ?_
  refine lv_istore (lv' := [(4, .int (iI (n : Int))), (3, .int (iI 0)), (0, .ref h0), (1, .long v)]) hx hb d_Arr_fill_AJJV_4 hl (by decide) rfl (fun ls hl => ?_)
  have lp_6 : ∀ (n_ : Nat) (i : Int) (g : Nat → Int64), ((n : Int) - i).toNat < n_ → (0 ≤ i) → (i ≤ (n : Int)) → (∀ j : Nat, (j : Int) < i → g j = v) → ∀ (H : Heap) (locs : List Loc) (ls : Array Slot), va_P D classes [(h0, .inl (cJ, n, .inr (.inl g)))] H → va_D A [(h0, .inl (cJ, n, .inr (.inl g)))] → va_S A s.heap H locs → lv_has ls 5 [(0, .ref h0), (1, .long v), (3, .int (iI i)), (4, .int (iI (n : Int)))] → W p l e ({ frames := 0, cells := 0, slots := 0, locals := 0 } : Room) s m [.ref h0, .long v].toArray below meth c H locs 0 0 (MQ below (va_Qv (fun (g : (Nat → Int64)) => ∀ j : Nat, j < n → g j = v) (sr_B D classes A (fun (g : (Nat → Int64)) => [(h0, .inl (cJ, n, .inr (.inl g)))])) A) [.ref h0, .long v].toArray s 0 0 A) (F0 m 6 ls []) := by
    intro n_
    induction n_ with
    | zero => intro i g hm_; exact absurd hm_ (Nat.not_lt_zero _)
    | succ n_ ih_6 =>
      intro i g hm_ hi0 hi1 hg H locs ls hP hD hS hl
      refine lv_iload_n hx hb d_Arr_fill_AJJV_6 rfl (lv_at hl 2 rfl) ?_
      refine lv_iload hx hb d_Arr_fill_AJJV_7 (lv_at hl 3 rfl) ?_
      refine sr_icmp_ge (tgt := 22) hx hb d_Arr_fill_AJJV_9 (by decide) (by unfold bI; omega) (by unfold bI; omega) (fun c_9 => ?_) (fun c_9 => ?_)
      · -- T
        exact sr_vret (g) hx hb hr hlocks hP hD hS d_Arr_fill_AJJV_22 (fun j hj => hg j (by omega))
      · -- F
        refine lv_aload_n hx hb d_Arr_fill_AJJV_12 rfl (lv_at hl 0 rfl) ?_
        refine lv_iload_n hx hb d_Arr_fill_AJJV_13 rfl (lv_at hl 2 rfl) ?_
        refine lv_lload_n hx hb d_Arr_fill_AJJV_14 rfl (lv_at hl 1 rfl) ?_
        refine sr_last hx hb hK hP hD hS 0 1 rfl rfl (by omega) (by omega) (by omega) d_Arr_fill_AJJV_15 (fun H locs hP hD hS => ?_)
        have hP : va_P D classes [(h0, .inl (cJ, n, .inr (.inl (vp_updL g i.toNat v))))] H := hP
        have hD : va_D A [(h0, .inl (cJ, n, .inr (.inl (vp_updL g i.toNat v))))] := hD
        refine lv_iinc (v := iI (i + 1)) (lv' := [(3, .int (iI (i + 1))), (0, .ref h0), (1, .long v), (4, .int (iI (n : Int)))]) hx hb d_Arr_fill_AJJV_16 hl (k := 2) rfl (iI_add _ _) (by decide) rfl (fun ls hl => ?_)
        refine lv_goto (tgt := 6) hx hb d_Arr_fill_AJJV_19 (by decide) ?_
        exact ih_6 (i + 1) (vp_updL g i.toNat v) (by omega) (by omega) (by omega) (fun j hj => if e : j = i.toNat then (by rw [e]; exact if_pos rfl) else (if_neg e).trans (hg j (by omega))) _ _ _ hP hD hS (lv_sub hl [1, 2, 0, 3] rfl)
  exact lp_6 _ 0 f (Nat.lt_succ_self _) (by omega) (by omega) (fun j hj => by omega) _ _ _ hP hD hS (lv_sub hl [2, 3, 1, 0] rfl)

set_option maxHeartbeats 4000000 in
set_option maxRecDepth 100000 in
/-- Arrays.copyOf of ints, a longer one -/
theorem c_Arr_copyOf_AIIAI (l : Launch) (D : va_G) (cI cJ cZ : ClassId) (sz : Nat) (h0 : Nat) (n : Nat) (f : Int → Int) (M : Nat) (hn : n < M) (hM : M ≤ 1000000) : Met l y_Arr_copyOf_AIIAI (.code y_Arr_copyOf_AIIAI b_Arr_copyOf_AIIAI 3 (some (.array .int)) :: allw) ({ frames := 1, cells := 1, slots := M, locals := 30 } : Room) (va_Pc [.ref h0, .int (iI (M : Int))] (sr_U D classes [(cI, .int), (cJ, .long), (cZ, .boolean)] nestw [(h0, .inl (cI, n, .inl (zI f)))] sz)) (va_Qr (fun (_ : Unit) => True) (sr_Br D classes (va_A [(h0, .inl (cI, n, .inl (zI f)))] sz) (fun (_ : Unit) => fun (ra : Nat) => [(h0, .inl (cI, n, .inl (zI f))), (ra, .inl (cI, M, .inl (zI (zcp f n))))])) (va_A [(h0, .inl (cI, n, .inl (zI f)))] sz)) 1 M (va_A [(h0, .inl (cI, n, .inl (zI f)))] sz) := by
  refine sr_enterF (Qf := fun A => va_Qr (fun (_ : Unit) => True) (sr_Br D classes A (fun (_ : Unit) => fun (ra : Nat) => [(h0, .inl (cI, n, .inl (zI f))), (ra, .inl (cI, M, .inl (zI (zcp f n))))])) A) (by decide +kernel) rfl (Nat.le_of_ble_eq_true rfl) ?_
  intro p e s m below meth c A ls hx hb hr hml hown hlocks hin hts hsz hP hK hD hN hA hS hl
  have ht : ∀ w ∈ allw, w.before _ s = true := fun w h => hts w (List.mem_cons_of_mem _ h)
  have hsub : ∀ w ∈ allw, w ∈ _ := fun w h => List.mem_cons_of_mem (Cond.code y_Arr_copyOf_AIIAI b_Arr_copyOf_AIIAI 3 (some (.array .int))) h
  have hl : lv_has ls 3 [(0, .ref h0), (1, .int (iI (M : Int)))] := hl
  have hP : va_P D classes [(h0, .inl (cI, n, .inl (zI f)))] s.heap := hP
  refine lv_iload_n hx hb d_Arr_copyOf_AIIAI_0 rfl (lv_at hl 1 rfl) ?_
  refine lv_aload_n hx hb d_Arr_copyOf_AIIAI_1 rfl (lv_at hl 0 rfl) ?_
  refine sr_alen hx hb hK hP 0 0 rfl rfl d_Arr_copyOf_AIIAI_2 ?_
  refine sr_icmp_ne (tgt := 14) hx hb d_Arr_copyOf_AIIAI_3 (by decide) (by unfold bI; omega) (by unfold bI; omega) (fun c_3 => ?_) (fun c_3 => ?_)
  · -- T
    refine lv_iload_n hx hb d_Arr_copyOf_AIIAI_14 rfl (lv_at hl 1 rfl) ?_
    refine sr_newI (N := M) hx hb (ht _ k_ac_int) hK hP hD hS hA 0 rfl rfl (by omega) (Nat.le_of_ble_eq_true rfl) (by show 0 + M ≤ M; omega) d_Arr_copyOf_AIIAI_15 (fun q15 H hP hD hS => ?_)
    have hP : va_P D classes [(h0, .inl (cI, n, .inl (zI f))), (q15, .inl (cI, M, .inl (zI (fun _ => 0))))] H := hP
    have hD : va_D A [(h0, .inl (cI, n, .inl (zI f))), (q15, .inl (cI, M, .inl (zI (fun _ => 0))))] := hD
    refine lv_astore_n (lv' := [(2, .ref q15), (0, .ref h0), (1, .int (iI (M : Int)))]) hx hb d_Arr_copyOf_AIIAI_17 rfl hl (by decide) rfl (fun ls hl => ?_)
    refine lv_aload_n hx hb d_Arr_copyOf_AIIAI_18 rfl (lv_at hl 1 rfl) ?_
    refine sr_iconst hx hb d_Arr_copyOf_AIIAI_19 ?_
    refine lv_aload_n hx hb d_Arr_copyOf_AIIAI_20 rfl (lv_at hl 0 rfl) ?_
    refine sr_iconst hx hb d_Arr_copyOf_AIIAI_21 ?_
    refine lv_aload_n hx hb d_Arr_copyOf_AIIAI_22 rfl (lv_at hl 1 rfl) ?_
    refine sr_alen hx hb hK hP 0 0 rfl rfl d_Arr_copyOf_AIIAI_23 ?_
    refine lv_iload_n hx hb d_Arr_copyOf_AIIAI_24 rfl (lv_at hl 2 rfl) ?_
    refine sr_mmin hx hb (hml.trans hl.1.symm) hown (ht _ k_m_Arr_304) (ht _ k_st_min) (ht _ k_in_Math) (ht _ k_cd_min) (Nat.le_of_ble_eq_true rfl) (Nat.le_of_ble_eq_true rfl) (Nat.le_of_ble_eq_true rfl) (by show 0 + M ≤ M; omega) (by unfold bI; omega) (by unfold bI; omega) d_Arr_copyOf_AIIAI_25 ?_
    refine sr_copy0 hx hb (hml.trans hl.1.symm) hown (ht _ k_m_Arr_150) (ht _ k_na_arraycopy) (ht _ k_st_arraycopy) (ht _ k_in_Sys) hK hP hD hS 0 1 0 rfl rfl rfl (by omega) (by omega) (Nat.le_of_ble_eq_true rfl) (Nat.le_of_ble_eq_true rfl) (by omega) d_Arr_copyOf_AIIAI_28 (fun H locs hP hD hS => ?_)
    have hP : va_P D classes [(h0, .inl (cI, n, .inl (zI f))), (q15, .inl (cI, M, .inl (zI (zcp f n))))] H := hP
    have hD : va_D A [(h0, .inl (cI, n, .inl (zI f))), (q15, .inl (cI, M, .inl (zI (zcp f n))))] := hD
    refine lv_aload_n hx hb d_Arr_copyOf_AIIAI_31 rfl (lv_at hl 0 rfl) ?_
    refine W.widen (k := 1) (n := M) (by omega) (by omega) ?_
    exact sr_aret () hx hb hr (Or.inr ⟨_, rfl⟩) hlocks hP hD hS d_Arr_copyOf_AIIAI_32 (trivial)
  · -- F
    exact absurd c_3 (by omega)

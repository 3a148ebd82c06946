set_option maxHeartbeats 4000000 in
set_option maxRecDepth 100000 in
theorem c_SR_isCoordinate (l : Launch) (D : va_G) (cI cJ cZ : ClassId) (sz : Nat) (c0 : Int) (h0 : -2147483648 ≤ c0 ∧ c0 ≤ 2147483647) : Met l y_SR_isCoordinate (.code y_SR_isCoordinate b_SR_isCoordinate 1 (some .boolean) :: allw) ({ frames := 0, cells := 0, slots := 0, locals := 0 } : Room) (va_Pc [.int (iI c0)] (sr_U D classes [(cI, .int), (cJ, .long), (cZ, .boolean)] nestw [] sz)) (va_Qi (fun (r : Int32) => fun (_ : Unit) => ∃ z : Int, r = iI z ∧ (z = 1 ∧ (-8192 ≤ c0 ∧ c0 ≤ 8191) ∨ z = 0 ∧ ¬ (-8192 ≤ c0 ∧ c0 ≤ 8191))) (sr_B D classes (va_A [] sz) (fun (_ : Unit) => [])) (va_A [] sz)) 0 0 (va_A [] sz) := by
  refine sr_enter (Qf := fun A => va_Qi (fun (r : Int32) => fun (_ : Unit) => ∃ z : Int, r = iI z ∧ (z = 1 ∧ (-8192 ≤ c0 ∧ c0 ≤ 8191) ∨ z = 0 ∧ ¬ (-8192 ≤ c0 ∧ c0 ≤ 8191))) (sr_B D classes A (fun (_ : Unit) => [])) A) (by decide +kernel) rfl (Nat.le_of_ble_eq_true rfl) ?_
  intro p e s m below meth c A ls hx hb hr hml hown hlocks hin hts hsz hP hK hD hN hA hS hl
  have ht : ∀ w ∈ allw, w.before _ s = true := fun w h => hts w (List.mem_cons_of_mem _ h)
  have hsub : ∀ w ∈ allw, w ∈ _ := fun w h => List.mem_cons_of_mem (Cond.code y_SR_isCoordinate b_SR_isCoordinate 1 (some .boolean)) h
  have hl : lv_has ls 1 [(0, .int (iI c0))] := hl
  have hP : va_P D classes [] s.heap := hP
  refine lv_iload_n hx hb d_SR_isCoordinate_0 rfl (lv_at hl 0 rfl) ?_
  refine sr_sipush hx hb d_SR_isCoordinate_1 (by decide) ?_
  refine sr_icmp_lt (tgt := 18) hx hb d_SR_isCoordinate_4 (by decide) (by unfold bI; omega) (by unfold bI; decide) (fun c_4 => ?_) (fun c_4 => ?_)
  · -- T
    refine sr_iconst hx hb d_SR_isCoordinate_18 ?_
    exact sr_zret () hx hb hr hlocks (by decide) hP hD hS d_SR_isCoordinate_19 (⟨0, rfl, Or.inr ⟨rfl, by omega⟩⟩)
  · -- F
    refine lv_iload_n hx hb d_SR_isCoordinate_7 rfl (lv_at hl 0 rfl) ?_
    refine sr_sipush hx hb d_SR_isCoordinate_8 (by decide) ?_
    refine sr_icmp_gt (tgt := 18) hx hb d_SR_isCoordinate_11 (by decide) (by unfold bI; omega) (by unfold bI; decide) (fun c_11 => ?_) (fun c_11 => ?_)
    · -- T
      refine sr_iconst hx hb d_SR_isCoordinate_18 ?_
      exact sr_zret () hx hb hr hlocks (by decide) hP hD hS d_SR_isCoordinate_19 (⟨0, rfl, Or.inr ⟨rfl, by omega⟩⟩)
    · -- F
      refine sr_iconst hx hb d_SR_isCoordinate_14 ?_
      refine lv_goto (tgt := 19) hx hb d_SR_isCoordinate_15 (by decide) ?_
      exact sr_zret () hx hb hr hlocks (by decide) hP hD hS d_SR_isCoordinate_19 (⟨1, rfl, Or.inl ⟨rfl, by omega⟩⟩)

set_option maxHeartbeats 4000000 in
set_option maxRecDepth 100000 in
theorem c_SR_isInPicture (l : Launch) (D : va_G) (cI cJ cZ : ClassId) (sz : Nat) (c0 : Int) (h0 : -2147483648 ≤ c0 ∧ c0 ≤ 2147483647) : Met l y_SR_isInPicture (.code y_SR_isInPicture b_SR_isInPicture 1 (some .boolean) :: allw) ({ frames := 0, cells := 0, slots := 0, locals := 0 } : Room) (va_Pc [.int (iI c0)] (sr_U D classes [(cI, .int), (cJ, .long), (cZ, .boolean)] nestw [] sz)) (va_Qi (fun (r : Int32) => fun (_ : Unit) => ∃ z : Int, r = iI z ∧ (z = 1 ∧ (0 ≤ c0 ∧ c0 ≤ 63) ∨ z = 0 ∧ ¬ (0 ≤ c0 ∧ c0 ≤ 63))) (sr_B D classes (va_A [] sz) (fun (_ : Unit) => [])) (va_A [] sz)) 0 0 (va_A [] sz) := by
  refine sr_enter (Qf := fun A => va_Qi (fun (r : Int32) => fun (_ : Unit) => ∃ z : Int, r = iI z ∧ (z = 1 ∧ (0 ≤ c0 ∧ c0 ≤ 63) ∨ z = 0 ∧ ¬ (0 ≤ c0 ∧ c0 ≤ 63))) (sr_B D classes A (fun (_ : Unit) => [])) A) (by decide +kernel) rfl (Nat.le_of_ble_eq_true rfl) ?_
  intro p e s m below meth c A ls hx hb hr hml hown hlocks hin hts hsz hP hK hD hN hA hS hl
  have ht : ∀ w ∈ allw, w.before _ s = true := fun w h => hts w (List.mem_cons_of_mem _ h)
  have hsub : ∀ w ∈ allw, w ∈ _ := fun w h => List.mem_cons_of_mem (Cond.code y_SR_isInPicture b_SR_isInPicture 1 (some .boolean)) h
  have hl : lv_has ls 1 [(0, .int (iI c0))] := hl
  have hP : va_P D classes [] s.heap := hP
  refine lv_iload_n hx hb d_SR_isInPicture_0 rfl (lv_at hl 0 rfl) ?_
  refine sr_if_lt (tgt := 14) hx hb d_SR_isInPicture_1 (by decide) (by unfold bI; omega) (fun c_1 => ?_) (fun c_1 => ?_)
  · -- T
    refine sr_iconst hx hb d_SR_isInPicture_14 ?_
    exact sr_zret () hx hb hr hlocks (by decide) hP hD hS d_SR_isInPicture_15 (⟨0, rfl, Or.inr ⟨rfl, by omega⟩⟩)
  · -- F
    refine lv_iload_n hx hb d_SR_isInPicture_4 rfl (lv_at hl 0 rfl) ?_
    refine sr_bipush hx hb d_SR_isInPicture_5 (by decide) ?_
    refine sr_icmp_ge (tgt := 14) hx hb d_SR_isInPicture_7 (by decide) (by unfold bI; omega) (by unfold bI; decide) (fun c_7 => ?_) (fun c_7 => ?_)
    · -- T
      refine sr_iconst hx hb d_SR_isInPicture_14 ?_
      exact sr_zret () hx hb hr hlocks (by decide) hP hD hS d_SR_isInPicture_15 (⟨0, rfl, Or.inr ⟨rfl, by omega⟩⟩)
    · -- F
      refine sr_iconst hx hb d_SR_isInPicture_10 ?_
      refine lv_goto (tgt := 15) hx hb d_SR_isInPicture_11 (by decide) ?_
      exact sr_zret () hx hb hr hlocks (by decide) hP hD hS d_SR_isInPicture_15 (⟨1, rfl, Or.inl ⟨rfl, by omega⟩⟩)

set_option maxHeartbeats 4000000 in
set_option maxRecDepth 100000 in
theorem c_SR_bottom (l : Launch) (D : va_G) (cI cJ cZ : ClassId) (sz : Nat) (c0 : Int)  : Met l y_SR_bottom (.code y_SR_bottom b_SR_bottom 1 (some .int) :: allw) ({ frames := 0, cells := 0, slots := 0, locals := 0 } : Room) (va_Pc [.int (iI c0)] (sr_U D classes [(cI, .int), (cJ, .long), (cZ, .boolean)] nestw [] sz)) (va_Qi (fun (r : Int32) => fun (_ : Unit) => r = iI (1024 * (63 - c0))) (sr_B D classes (va_A [] sz) (fun (_ : Unit) => [])) (va_A [] sz)) 0 0 (va_A [] sz) := by
  refine sr_enter (Qf := fun A => va_Qi (fun (r : Int32) => fun (_ : Unit) => r = iI (1024 * (63 - c0))) (sr_B D classes A (fun (_ : Unit) => [])) A) (by decide +kernel) rfl (Nat.le_of_ble_eq_true rfl) ?_
  intro p e s m below meth c A ls hx hb hr hml hown hlocks hin hts hsz hP hK hD hN hA hS hl
  have ht : ∀ w ∈ allw, w.before _ s = true := fun w h => hts w (List.mem_cons_of_mem _ h)
  have hsub : ∀ w ∈ allw, w ∈ _ := fun w h => List.mem_cons_of_mem (Cond.code y_SR_bottom b_SR_bottom 1 (some .int)) h
  have hl : lv_has ls 1 [(0, .int (iI c0))] := hl
  have hP : va_P D classes [] s.heap := hP
  refine sr_sipush hx hb d_SR_bottom_0 (by decide) ?_
  refine sr_bipush hx hb d_SR_bottom_3 (by decide) ?_
  refine lv_iload_n hx hb d_SR_bottom_5 rfl (lv_at hl 0 rfl) ?_
  refine sr_isub hx hb d_SR_bottom_6 ?_
  refine sr_imul hx hb d_SR_bottom_7 ?_
  exact sr_iret () hx hb hr hlocks hP hD hS d_SR_bottom_8 (rfl)

set_option maxHeartbeats 4000000 in
set_option maxRecDepth 100000 in
theorem c_Path_isOpen (l : Launch) (D : va_G) (cI cJ cZ : ClassId) (sz : Nat) (hp : Nat) (pxs : Nat) (pys : Nat) (np : Int) (pfs : Nat) (psh : Nat) (ns : Int) (no : Int) (sh : Int → Int) (h0 : 0 ≤ ns) (h1 : ns ≤ 64) (hs : ∀ j, sh j = 0 ∨ sh j = 1) : Met l y_Path_isOpen (.code y_Path_isOpen b_Path_isOpen 1 (some .boolean) :: allw) ({ frames := 0, cells := 0, slots := 0, locals := 0 } : Room) (va_Pc [.ref hp] (sr_U D classes [(cI, .int), (cJ, .long), (cZ, .boolean)] nestw [(hp, .inr (2, [.ref pxs, .ref pys, .int (iI np), .ref pfs, .ref psh, .int (iI ns), .int (iI no)])), (psh, .inl (cZ, 64, .inl (zI sh)))] sz)) (va_Qi (fun (r : Int32) => fun (_ : Unit) => ∃ z : Int, r = iI z ∧ (z = 1 ∧ (0 < ns ∧ sh (ns - 1) = 0) ∨ z = 0 ∧ ¬ (0 < ns ∧ sh (ns - 1) = 0))) (sr_B D classes (va_A [(hp, .inr (2, [.ref pxs, .ref pys, .int (iI np), .ref pfs, .ref psh, .int (iI ns), .int (iI no)])), (psh, .inl (cZ, 64, .inl (zI sh)))] sz) (fun (_ : Unit) => [(hp, .inr (2, [.ref pxs, .ref pys, .int (iI np), .ref pfs, .ref psh, .int (iI ns), .int (iI no)])), (psh, .inl (cZ, 64, .inl (zI sh)))])) (va_A [(hp, .inr (2, [.ref pxs, .ref pys, .int (iI np), .ref pfs, .ref psh, .int (iI ns), .int (iI no)])), (psh, .inl (cZ, 64, .inl (zI sh)))] sz)) 0 0 (va_A [(hp, .inr (2, [.ref pxs, .ref pys, .int (iI np), .ref pfs, .ref psh, .int (iI ns), .int (iI no)])), (psh, .inl (cZ, 64, .inl (zI sh)))] sz) := by
  refine sr_enter (Qf := fun A => va_Qi (fun (r : Int32) => fun (_ : Unit) => ∃ z : Int, r = iI z ∧ (z = 1 ∧ (0 < ns ∧ sh (ns - 1) = 0) ∨ z = 0 ∧ ¬ (0 < ns ∧ sh (ns - 1) = 0))) (sr_B D classes A (fun (_ : Unit) => [(hp, .inr (2, [.ref pxs, .ref pys, .int (iI np), .ref pfs, .ref psh, .int (iI ns), .int (iI no)])), (psh, .inl (cZ, 64, .inl (zI sh)))])) A) (by decide +kernel) rfl (Nat.le_of_ble_eq_true rfl) ?_
  intro p e s m below meth c A ls hx hb hr hml hown hlocks hin hts hsz hP hK hD hN hA hS hl
  have ht : ∀ w ∈ allw, w.before _ s = true := fun w h => hts w (List.mem_cons_of_mem _ h)
  have hsub : ∀ w ∈ allw, w ∈ _ := fun w h => List.mem_cons_of_mem (Cond.code y_Path_isOpen b_Path_isOpen 1 (some .boolean)) h
  have hl : lv_has ls 1 [(0, .ref hp)] := hl
  have hP : va_P D classes [(hp, .inr (2, [.ref pxs, .ref pys, .int (iI np), .ref pfs, .ref psh, .int (iI ns), .int (iI no)])), (psh, .inl (cZ, 64, .inl (zI sh)))] s.heap := hP
  have hs1 := hs (ns - 1)
  refine lv_aload_n hx hb d_Path_isOpen_0 rfl (lv_at hl 0 rfl) ?_
  refine va_get hx hb ht i_Path hown hK hP 0 rfl rfl 5 (by decide) (ht _ k_f_Path_25) (fun _ h9 => h9) rfl d_Path_isOpen_1 ?_
  refine sr_if_le (tgt := 25) hx hb d_Path_isOpen_4 (by decide) (by unfold bI; omega) (fun c_4 => ?_) (fun c_4 => ?_)
  · -- T
    refine sr_iconst hx hb d_Path_isOpen_25 ?_
    exact sr_zret () hx hb hr hlocks (by decide) hP hD hS d_Path_isOpen_26 (⟨0, rfl, Or.inr ⟨rfl, by omega⟩⟩)
  · -- F
    refine lv_aload_n hx hb d_Path_isOpen_7 rfl (lv_at hl 0 rfl) ?_
    refine va_get hx hb ht i_Path hown hK hP 0 rfl rfl 4 (by decide) (ht _ k_f_Path_21) (fun _ h9 => h9) rfl d_Path_isOpen_8 ?_
    refine lv_aload_n hx hb d_Path_isOpen_11 rfl (lv_at hl 0 rfl) ?_
    refine va_get hx hb ht i_Path hown hK hP 0 rfl rfl 5 (by decide) (ht _ k_f_Path_25) (fun _ h9 => h9) rfl d_Path_isOpen_12 ?_
    refine sr_iconst hx hb d_Path_isOpen_15 ?_
    refine sr_isub hx hb d_Path_isOpen_16 ?_
    refine sr_zaldZ hx hb hK hP 1 2 rfl rfl (by omega) (by omega) (by decide) d_Path_isOpen_17 ?_
    refine sr_if_ne (tgt := 25) hx hb d_Path_isOpen_18 (by decide) (by unfold bI; omega) (fun c_18 => ?_) (fun c_18 => ?_)
    · -- T
      refine sr_iconst hx hb d_Path_isOpen_25 ?_
      exact sr_zret () hx hb hr hlocks (by decide) hP hD hS d_Path_isOpen_26 (⟨0, rfl, Or.inr ⟨rfl, by omega⟩⟩)
    · -- F
      refine sr_iconst hx hb d_Path_isOpen_21 ?_
      refine lv_goto (tgt := 26) hx hb d_Path_isOpen_22 (by decide) ?_
      exact sr_zret () hx hb hr hlocks (by decide) hP hD hS d_Path_isOpen_26 (⟨1, rfl, Or.inl ⟨rfl, by omega⟩⟩)

set_option maxHeartbeats 4000000 in
set_option maxRecDepth 100000 in
theorem c_Path_takes (l : Launch) (D : va_G) (cI cJ cZ : ClassId) (sz : Nat) (hp : Nat) (pxs : Nat) (pys : Nat) (np : Int) (pfs : Nat) (psh : Nat) (ns : Int) (no : Int) (sh : Int → Int) (more : Int) (h0 : 0 ≤ ns) (h1 : ns ≤ 64) (hs : ∀ j, sh j = 0 ∨ sh j = 1) (hn : 0 ≤ np ∧ np ≤ 1024) (hm : 0 ≤ more ∧ more ≤ 16) : Met l y_Path_takes (.code y_Path_takes b_Path_takes 2 (some .boolean) :: allw) ({ frames := 1, cells := 0, slots := 0, locals := 20 } : Room) (va_Pc [.ref hp, .int (iI more)] (sr_U D classes [(cI, .int), (cJ, .long), (cZ, .boolean)] nestw [(hp, .inr (2, [.ref pxs, .ref pys, .int (iI np), .ref pfs, .ref psh, .int (iI ns), .int (iI no)])), (psh, .inl (cZ, 64, .inl (zI sh)))] sz)) (va_Qi (fun (r : Int32) => fun (_ : Unit) => ∃ z : Int, r = iI z ∧ (z = 1 ∧ ((0 < ns ∧ sh (ns - 1) = 0) ∧ np + more ≤ 1024) ∨ z = 0 ∧ ¬ ((0 < ns ∧ sh (ns - 1) = 0) ∧ np + more ≤ 1024))) (sr_B D classes (va_A [(hp, .inr (2, [.ref pxs, .ref pys, .int (iI np), .ref pfs, .ref psh, .int (iI ns), .int (iI no)])), (psh, .inl (cZ, 64, .inl (zI sh)))] sz) (fun (_ : Unit) => [(hp, .inr (2, [.ref pxs, .ref pys, .int (iI np), .ref pfs, .ref psh, .int (iI ns), .int (iI no)])), (psh, .inl (cZ, 64, .inl (zI sh)))])) (va_A [(hp, .inr (2, [.ref pxs, .ref pys, .int (iI np), .ref pfs, .ref psh, .int (iI ns), .int (iI no)])), (psh, .inl (cZ, 64, .inl (zI sh)))] sz)) 0 0 (va_A [(hp, .inr (2, [.ref pxs, .ref pys, .int (iI np), .ref pfs, .ref psh, .int (iI ns), .int (iI no)])), (psh, .inl (cZ, 64, .inl (zI sh)))] sz) := by
  refine sr_enter (Qf := fun A => va_Qi (fun (r : Int32) => fun (_ : Unit) => ∃ z : Int, r = iI z ∧ (z = 1 ∧ ((0 < ns ∧ sh (ns - 1) = 0) ∧ np + more ≤ 1024) ∨ z = 0 ∧ ¬ ((0 < ns ∧ sh (ns - 1) = 0) ∧ np + more ≤ 1024))) (sr_B D classes A (fun (_ : Unit) => [(hp, .inr (2, [.ref pxs, .ref pys, .int (iI np), .ref pfs, .ref psh, .int (iI ns), .int (iI no)])), (psh, .inl (cZ, 64, .inl (zI sh)))])) A) (by decide +kernel) rfl (Nat.le_of_ble_eq_true rfl) ?_
  intro p e s m below meth c A ls hx hb hr hml hown hlocks hin hts hsz hP hK hD hN hA hS hl
  have ht : ∀ w ∈ allw, w.before _ s = true := fun w h => hts w (List.mem_cons_of_mem _ h)
  have hsub : ∀ w ∈ allw, w ∈ _ := fun w h => List.mem_cons_of_mem (Cond.code y_Path_takes b_Path_takes 2 (some .boolean)) h
  have hl : lv_has ls 2 [(0, .ref hp), (1, .int (iI more))] := hl
  have hP : va_P D classes [(hp, .inr (2, [.ref pxs, .ref pys, .int (iI np), .ref pfs, .ref psh, .int (iI ns), .int (iI no)])), (psh, .inl (cZ, 64, .inl (zI sh)))] s.heap := hP
  refine lv_aload_n hx hb d_Path_takes_0 rfl (lv_at hl 0 rfl) ?_
  refine sr_cV_i (wr := []) (As := []) (rest := []) (b := hp) (q0 := 0) hx hb hml hown hts (c_Path_isOpen l D cI cJ cZ _ hp pxs pys np pfs psh ns no sh (by omega) (by omega) (hs)) (sr_cwV hsub hts k_cd_Path_isOpen k_in_Path k_m_Path_55 k_im_Path_isOpen k_se_Path_isOpen g_Path_isOpen ⟨Nat.le_of_ble_eq_true rfl, Nat.le_of_ble_eq_true rfl⟩) hns_ok hK hN hP hD hS hA [0, 1] [] rfl (by decide) rfl (by decide) (by decide) rfl rfl rfl hl.1 rfl (Nat.le_of_ble_eq_true rfl) d_Path_takes_1 ⟨Nat.le_of_ble_eq_true rfl, Nat.le_of_ble_eq_true rfl⟩ (fun r_1 u H locs hw_1 hP hD hS => ?_)
  have hP : va_P D classes [(hp, .inr (2, [.ref pxs, .ref pys, .int (iI np), .ref pfs, .ref psh, .int (iI ns), .int (iI no)])), (psh, .inl (cZ, 64, .inl (zI sh)))] H := hP
  have hD : va_D A [(hp, .inr (2, [.ref pxs, .ref pys, .int (iI np), .ref pfs, .ref psh, .int (iI ns), .int (iI no)])), (psh, .inl (cZ, 64, .inl (zI sh)))] := hD
  try dsimp only at hw_1
  obtain ⟨z_1, rfl, hw_1⟩ := hw_1
  refine sr_if_eq (tgt := 23) hx hb d_Path_takes_4 (by decide) (sr_bB hw_1) (fun c_4 => ?_) (fun c_4 => ?_)
  · -- T
    have c_4 := sr_bf hw_1 c_4
    refine sr_iconst hx hb d_Path_takes_23 ?_
    exact sr_zret () hx hb hr hlocks (by decide) hP hD hS d_Path_takes_24 (⟨0, rfl, Or.inr ⟨rfl, by omega⟩⟩)
  · -- F
    have c_4 := sr_bt hw_1 c_4
    refine lv_aload_n hx hb d_Path_takes_7 rfl (lv_at hl 0 rfl) ?_
    refine va_get hx hb ht i_Path hown hK hP 0 rfl rfl 2 (by decide) (ht _ k_f_Path_29) (fun _ h9 => h9) rfl d_Path_takes_8 ?_
    refine lv_iload_n hx hb d_Path_takes_11 rfl (lv_at hl 1 rfl) ?_
    refine sr_iadd hx hb d_Path_takes_12 ?_
    refine sr_sipush hx hb d_Path_takes_13 (by decide) ?_
    refine sr_icmp_gt (tgt := 23) hx hb d_Path_takes_16 (by decide) (by unfold bI; omega) (by unfold bI; decide) (fun c_16 => ?_) (fun c_16 => ?_)
    · -- T
      refine sr_iconst hx hb d_Path_takes_23 ?_
      exact sr_zret () hx hb hr hlocks (by decide) hP hD hS d_Path_takes_24 (⟨0, rfl, Or.inr ⟨rfl, by omega⟩⟩)
    · -- F
      refine sr_iconst hx hb d_Path_takes_19 ?_
      refine lv_goto (tgt := 24) hx hb d_Path_takes_20 (by decide) ?_
      exact sr_zret () hx hb hr hlocks (by decide) hP hD hS d_Path_takes_24 (⟨1, rfl, Or.inl ⟨rfl, by omega⟩⟩)

set_option maxHeartbeats 4000000 in
set_option maxRecDepth 100000 in
theorem c_Path_shutLast (l : Launch) (D : va_G) (cI cJ cZ : ClassId) (sz : Nat) (hp : Nat) (pxs : Nat) (pys : Nat) (np : Int) (pfs : Nat) (psh : Nat) (ns : Int) (no : Int) (sh : Int → Int) (h0 : 0 < ns) (h1 : ns ≤ 64) (hs : ∀ j, sh j = 0 ∨ sh j = 1) (h2 : sh (ns - 1) = 0) : Met l y_Path_shutLast (.code y_Path_shutLast b_Path_shutLast 1 none :: allw) ({ frames := 1, cells := 0, slots := 0, locals := 20 } : Room) (va_Pc [.ref hp] (sr_U D classes [(cI, .int), (cJ, .long), (cZ, .boolean)] nestw [(hp, .inr (2, [.ref pxs, .ref pys, .int (iI np), .ref pfs, .ref psh, .int (iI ns), .int (iI no)])), (psh, .inl (cZ, 64, .inl (zI sh)))] sz)) (va_Qv (fun (_ : Unit) => True) (sr_B D classes (va_A [(hp, .inr (2, [.ref pxs, .ref pys, .int (iI np), .ref pfs, .ref psh, .int (iI ns), .int (iI no)])), (psh, .inl (cZ, 64, .inl (zI sh)))] sz) (fun (_ : Unit) => [(hp, .inr (2, [.ref pxs, .ref pys, .int (iI np), .ref pfs, .ref psh, .int (iI ns), .int (iI (no + 1))])), (psh, .inl (cZ, 64, .inl (zI (zup sh (ns - 1) 1))))])) (va_A [(hp, .inr (2, [.ref pxs, .ref pys, .int (iI np), .ref pfs, .ref psh, .int (iI ns), .int (iI no)])), (psh, .inl (cZ, 64, .inl (zI sh)))] sz)) 0 0 (va_A [(hp, .inr (2, [.ref pxs, .ref pys, .int (iI np), .ref pfs, .ref psh, .int (iI ns), .int (iI no)])), (psh, .inl (cZ, 64, .inl (zI sh)))] sz) := by
  refine sr_enter (Qf := fun A => va_Qv (fun (_ : Unit) => True) (sr_B D classes A (fun (_ : Unit) => [(hp, .inr (2, [.ref pxs, .ref pys, .int (iI np), .ref pfs, .ref psh, .int (iI ns), .int (iI (no + 1))])), (psh, .inl (cZ, 64, .inl (zI (zup sh (ns - 1) 1))))])) A) (by decide +kernel) rfl (Nat.le_of_ble_eq_true rfl) ?_
  intro p e s m below meth c A ls hx hb hr hml hown hlocks hin hts hsz hP hK hD hN hA hS hl
  have ht : ∀ w ∈ allw, w.before _ s = true := fun w h => hts w (List.mem_cons_of_mem _ h)
  have hsub : ∀ w ∈ allw, w ∈ _ := fun w h => List.mem_cons_of_mem (Cond.code y_Path_shutLast b_Path_shutLast 1 none) h
  have hl : lv_has ls 1 [(0, .ref hp)] := hl
  have hP : va_P D classes [(hp, .inr (2, [.ref pxs, .ref pys, .int (iI np), .ref pfs, .ref psh, .int (iI ns), .int (iI no)])), (psh, .inl (cZ, 64, .inl (zI sh)))] s.heap := hP
  refine lv_aload_n hx hb d_Path_shutLast_0 rfl (lv_at hl 0 rfl) ?_
  refine sr_cV_i (wr := []) (As := []) (rest := []) (b := hp) (q0 := 0) hx hb hml hown hts (c_Path_isOpen l D cI cJ cZ _ hp pxs pys np pfs psh ns no sh (by omega) (by omega) (hs)) (sr_cwV hsub hts k_cd_Path_isOpen k_in_Path k_m_Path_55 k_im_Path_isOpen k_se_Path_isOpen g_Path_isOpen ⟨Nat.le_of_ble_eq_true rfl, Nat.le_of_ble_eq_true rfl⟩) hns_ok hK hN hP hD hS hA [0, 1] [] rfl (by decide) rfl (by decide) (by decide) rfl rfl rfl hl.1 rfl (Nat.le_of_ble_eq_true rfl) d_Path_shutLast_1 ⟨Nat.le_of_ble_eq_true rfl, Nat.le_of_ble_eq_true rfl⟩ (fun r_1 u H locs hw_1 hP hD hS => ?_)
  have hP : va_P D classes [(hp, .inr (2, [.ref pxs, .ref pys, .int (iI np), .ref pfs, .ref psh, .int (iI ns), .int (iI no)])), (psh, .inl (cZ, 64, .inl (zI sh)))] H := hP
  have hD : va_D A [(hp, .inr (2, [.ref pxs, .ref pys, .int (iI np), .ref pfs, .ref psh, .int (iI ns), .int (iI no)])), (psh, .inl (cZ, 64, .inl (zI sh)))] := hD
  try dsimp only at hw_1
  obtain ⟨z_1, rfl, hw_1⟩ := hw_1
  refine sr_if_eq (tgt := 29) hx hb d_Path_shutLast_4 (by decide) (sr_bB hw_1) (fun c_4 => ?_) (fun c_4 => ?_)
  · -- T
    have c_4 := sr_bf hw_1 c_4
    exact absurd ⟨h0, h2⟩ c_4
  · -- F
    have c_4 := sr_bt hw_1 c_4
    refine lv_aload_n hx hb d_Path_shutLast_7 rfl (lv_at hl 0 rfl) ?_
    refine va_get hx hb ht i_Path hown hK hP 0 rfl rfl 4 (by decide) (ht _ k_f_Path_21) (fun _ h9 => h9) rfl d_Path_shutLast_8 ?_
    refine lv_aload_n hx hb d_Path_shutLast_11 rfl (lv_at hl 0 rfl) ?_
    refine va_get hx hb ht i_Path hown hK hP 0 rfl rfl 5 (by decide) (ht _ k_f_Path_25) (fun _ h9 => h9) rfl d_Path_shutLast_12 ?_
    refine sr_iconst hx hb d_Path_shutLast_15 ?_
    refine sr_isub hx hb d_Path_shutLast_16 ?_
    refine sr_iconst hx hb d_Path_shutLast_17 ?_
    refine sr_zastZ hx hb hK hP hD hS 1 2 rfl rfl (by omega) (by omega) (by decide) (by decide) d_Path_shutLast_18 (fun H locs hP hD hS => ?_)
    have hP : va_P D classes [(hp, .inr (2, [.ref pxs, .ref pys, .int (iI np), .ref pfs, .ref psh, .int (iI ns), .int (iI no)])), (psh, .inl (cZ, 64, .inl (zI (zup sh (ns - 1) 1))))] H := hP
    have hD : va_D A [(hp, .inr (2, [.ref pxs, .ref pys, .int (iI np), .ref pfs, .ref psh, .int (iI ns), .int (iI no)])), (psh, .inl (cZ, 64, .inl (zI (zup sh (ns - 1) 1))))] := hD
    refine lv_aload_n hx hb d_Path_shutLast_19 rfl (lv_at hl 0 rfl) ?_
    refine lv_dup hx hb d_Path_shutLast_20 rfl ?_
    refine va_get hx hb ht i_Path hown hK hP 0 rfl rfl 6 (by decide) (ht _ k_f_Path_59) (fun _ h9 => h9) rfl d_Path_shutLast_21 ?_
    refine sr_iconst hx hb d_Path_shutLast_24 ?_
    refine sr_iadd hx hb d_Path_shutLast_25 ?_
    refine va_put (ty := .int) hx hb ht i_Path t_Path t_Path_ok n_Path hown hK hP hD hS 0 rfl rfl 6 (by decide) (ht _ k_f_Path_59) (fun _ h9 => h9) rfl (t_Path_ok 6 (by decide)) rfl rfl (Nat.le_of_ble_eq_true rfl) d_Path_shutLast_26 (fun H locs hP hD hS => ?_)
    have hP : va_P D classes [(hp, .inr (2, [.ref pxs, .ref pys, .int (iI np), .ref pfs, .ref psh, .int (iI ns), .int (iI (no + 1))])), (psh, .inl (cZ, 64, .inl (zI (zup sh (ns - 1) 1))))] H := hP
    have hD : va_D A [(hp, .inr (2, [.ref pxs, .ref pys, .int (iI np), .ref pfs, .ref psh, .int (iI ns), .int (iI (no + 1))])), (psh, .inl (cZ, 64, .inl (zI (zup sh (ns - 1) 1))))] := hD
    exact sr_vret () hx hb hr hlocks hP hD hS d_Path_shutLast_29 (trivial)

set_option maxHeartbeats 4000000 in
set_option maxRecDepth 100000 in
theorem c_Path_drop (l : Launch) (D : va_G) (cI cJ cZ : ClassId) (sz : Nat) (hp : Nat) (pxs : Nat) (pys : Nat) (np : Int) (pfs : Nat) (psh : Nat) (ns : Int) (no : Int)  : Met l y_Path_drop (.code y_Path_drop b_Path_drop 1 none :: allw) ({ frames := 0, cells := 0, slots := 0, locals := 0 } : Room) (va_Pc [.ref hp] (sr_U D classes [(cI, .int), (cJ, .long), (cZ, .boolean)] nestw [(hp, .inr (2, [.ref pxs, .ref pys, .int (iI np), .ref pfs, .ref psh, .int (iI ns), .int (iI no)]))] sz)) (va_Qv (fun (_ : Unit) => True) (sr_B D classes (va_A [(hp, .inr (2, [.ref pxs, .ref pys, .int (iI np), .ref pfs, .ref psh, .int (iI ns), .int (iI no)]))] sz) (fun (_ : Unit) => [(hp, .inr (2, [.ref pxs, .ref pys, .int (iI 0), .ref pfs, .ref psh, .int (iI 0), .int (iI 0)]))])) (va_A [(hp, .inr (2, [.ref pxs, .ref pys, .int (iI np), .ref pfs, .ref psh, .int (iI ns), .int (iI no)]))] sz)) 0 0 (va_A [(hp, .inr (2, [.ref pxs, .ref pys, .int (iI np), .ref pfs, .ref psh, .int (iI ns), .int (iI no)]))] sz) := by
  refine sr_enter (Qf := fun A => va_Qv (fun (_ : Unit) => True) (sr_B D classes A (fun (_ : Unit) => [(hp, .inr (2, [.ref pxs, .ref pys, .int (iI 0), .ref pfs, .ref psh, .int (iI 0), .int (iI 0)]))])) A) (by decide +kernel) rfl (Nat.le_of_ble_eq_true rfl) ?_
  intro p e s m below meth c A ls hx hb hr hml hown hlocks hin hts hsz hP hK hD hN hA hS hl
  have ht : ∀ w ∈ allw, w.before _ s = true := fun w h => hts w (List.mem_cons_of_mem _ h)
  have hsub : ∀ w ∈ allw, w ∈ _ := fun w h => List.mem_cons_of_mem (Cond.code y_Path_drop b_Path_drop 1 none) h
  have hl : lv_has ls 1 [(0, .ref hp)] := hl
  have hP : va_P D classes [(hp, .inr (2, [.ref pxs, .ref pys, .int (iI np), .ref pfs, .ref psh, .int (iI ns), .int (iI no)]))] s.heap := hP
  refine lv_aload_n hx hb d_Path_drop_0 rfl (lv_at hl 0 rfl) ?_
  refine sr_iconst hx hb d_Path_drop_1 ?_
  refine va_put (ty := .int) hx hb ht i_Path t_Path t_Path_ok n_Path hown hK hP hD hS 0 rfl rfl 2 (by decide) (ht _ k_f_Path_29) (fun _ h9 => h9) rfl (t_Path_ok 2 (by decide)) rfl rfl (Nat.le_of_ble_eq_true rfl) d_Path_drop_2 (fun H locs hP hD hS => ?_)
  have hP : va_P D classes [(hp, .inr (2, [.ref pxs, .ref pys, .int (iI 0), .ref pfs, .ref psh, .int (iI ns), .int (iI no)]))] H := hP
  have hD : va_D A [(hp, .inr (2, [.ref pxs, .ref pys, .int (iI 0), .ref pfs, .ref psh, .int (iI ns), .int (iI no)]))] := hD
  refine lv_aload_n hx hb d_Path_drop_5 rfl (lv_at hl 0 rfl) ?_
  refine sr_iconst hx hb d_Path_drop_6 ?_
  refine va_put (ty := .int) hx hb ht i_Path t_Path t_Path_ok n_Path hown hK hP hD hS 0 rfl rfl 5 (by decide) (ht _ k_f_Path_25) (fun _ h9 => h9) rfl (t_Path_ok 5 (by decide)) rfl rfl (Nat.le_of_ble_eq_true rfl) d_Path_drop_7 (fun H locs hP hD hS => ?_)
  have hP : va_P D classes [(hp, .inr (2, [.ref pxs, .ref pys, .int (iI 0), .ref pfs, .ref psh, .int (iI 0), .int (iI no)]))] H := hP
  have hD : va_D A [(hp, .inr (2, [.ref pxs, .ref pys, .int (iI 0), .ref pfs, .ref psh, .int (iI 0), .int (iI no)]))] := hD
  refine lv_aload_n hx hb d_Path_drop_10 rfl (lv_at hl 0 rfl) ?_
  refine sr_iconst hx hb d_Path_drop_11 ?_
  refine va_put (ty := .int) hx hb ht i_Path t_Path t_Path_ok n_Path hown hK hP hD hS 0 rfl rfl 6 (by decide) (ht _ k_f_Path_59) (fun _ h9 => h9) rfl (t_Path_ok 6 (by decide)) rfl rfl (Nat.le_of_ble_eq_true rfl) d_Path_drop_12 (fun H locs hP hD hS => ?_)
  have hP : va_P D classes [(hp, .inr (2, [.ref pxs, .ref pys, .int (iI 0), .ref pfs, .ref psh, .int (iI 0), .int (iI 0)]))] H := hP
  have hD : va_D A [(hp, .inr (2, [.ref pxs, .ref pys, .int (iI 0), .ref pfs, .ref psh, .int (iI 0), .int (iI 0)]))] := hD
  exact sr_vret () hx hb hr hlocks hP hD hS d_Path_drop_15 (trivial)

set_option maxHeartbeats 4000000 in
set_option maxRecDepth 100000 in
theorem c_Path_behind (l : Launch) (D : va_G) (cI cJ cZ : ClassId) (sz : Nat) (hp : Nat) (pxs : Nat) (pys : Nat) (np : Int) (pfs : Nat) (psh : Nat) (ns : Int) (no : Int) (fs : Int → Int) (s0 : Int) (h0 : 0 ≤ s0) (h1 : s0 < ns) (h2 : ns ≤ 64) : Met l y_Path_behind (.code y_Path_behind b_Path_behind 2 (some .int) :: allw) ({ frames := 0, cells := 0, slots := 0, locals := 0 } : Room) (va_Pc [.ref hp, .int (iI s0)] (sr_U D classes [(cI, .int), (cJ, .long), (cZ, .boolean)] nestw [(hp, .inr (2, [.ref pxs, .ref pys, .int (iI np), .ref pfs, .ref psh, .int (iI ns), .int (iI no)])), (pfs, .inl (cI, 64, .inl (zI fs)))] sz)) (va_Qi (fun (r : Int32) => fun (_ : Unit) => r = iI (if s0 + 1 < ns then fs (s0 + 1) else np)) (sr_B D classes (va_A [(hp, .inr (2, [.ref pxs, .ref pys, .int (iI np), .ref pfs, .ref psh, .int (iI ns), .int (iI no)])), (pfs, .inl (cI, 64, .inl (zI fs)))] sz) (fun (_ : Unit) => [(hp, .inr (2, [.ref pxs, .ref pys, .int (iI np), .ref pfs, .ref psh, .int (iI ns), .int (iI no)])), (pfs, .inl (cI, 64, .inl (zI fs)))])) (va_A [(hp, .inr (2, [.ref pxs, .ref pys, .int (iI np), .ref pfs, .ref psh, .int (iI ns), .int (iI no)])), (pfs, .inl (cI, 64, .inl (zI fs)))] sz)) 0 0 (va_A [(hp, .inr (2, [.ref pxs, .ref pys, .int (iI np), .ref pfs, .ref psh, .int (iI ns), .int (iI no)])), (pfs, .inl (cI, 64, .inl (zI fs)))] sz) := by
  refine sr_enter (Qf := fun A => va_Qi (fun (r : Int32) => fun (_ : Unit) => r = iI (if s0 + 1 < ns then fs (s0 + 1) else np)) (sr_B D classes A (fun (_ : Unit) => [(hp, .inr (2, [.ref pxs, .ref pys, .int (iI np), .ref pfs, .ref psh, .int (iI ns), .int (iI no)])), (pfs, .inl (cI, 64, .inl (zI fs)))])) A) (by decide +kernel) rfl (Nat.le_of_ble_eq_true rfl) ?_
  intro p e s m below meth c A ls hx hb hr hml hown hlocks hin hts hsz hP hK hD hN hA hS hl
  have ht : ∀ w ∈ allw, w.before _ s = true := fun w h => hts w (List.mem_cons_of_mem _ h)
  have hsub : ∀ w ∈ allw, w ∈ _ := fun w h => List.mem_cons_of_mem (Cond.code y_Path_behind b_Path_behind 2 (some .int)) h
  have hl : lv_has ls 2 [(0, .ref hp), (1, .int (iI s0))] := hl
  have hP : va_P D classes [(hp, .inr (2, [.ref pxs, .ref pys, .int (iI np), .ref pfs, .ref psh, .int (iI ns), .int (iI no)])), (pfs, .inl (cI, 64, .inl (zI fs)))] s.heap := hP
  refine lv_iload_n hx hb d_Path_behind_0 rfl (lv_at hl 1 rfl) ?_
  refine sr_iconst hx hb d_Path_behind_1 ?_
  refine sr_iadd hx hb d_Path_behind_2 ?_
  refine lv_aload_n hx hb d_Path_behind_3 rfl (lv_at hl 0 rfl) ?_
  refine va_get hx hb ht i_Path hown hK hP 0 rfl rfl 5 (by decide) (ht _ k_f_Path_25) (fun _ h9 => h9) rfl d_Path_behind_4 ?_
  refine sr_icmp_ge (tgt := 21) hx hb d_Path_behind_7 (by decide) (by unfold bI; omega) (by unfold bI; omega) (fun c_7 => ?_) (fun c_7 => ?_)
  · -- T
    refine lv_aload_n hx hb d_Path_behind_21 rfl (lv_at hl 0 rfl) ?_
    refine va_get hx hb ht i_Path hown hK hP 0 rfl rfl 2 (by decide) (ht _ k_f_Path_29) (fun _ h9 => h9) rfl d_Path_behind_22 ?_
    exact sr_iret () hx hb hr hlocks hP hD hS d_Path_behind_25 (by rw [if_neg (by omega)])
  · -- F
    refine lv_aload_n hx hb d_Path_behind_10 rfl (lv_at hl 0 rfl) ?_
    refine va_get hx hb ht i_Path hown hK hP 0 rfl rfl 3 (by decide) (ht _ k_f_Path_18) (fun _ h9 => h9) rfl d_Path_behind_11 ?_
    refine lv_iload_n hx hb d_Path_behind_14 rfl (lv_at hl 1 rfl) ?_
    refine sr_iconst hx hb d_Path_behind_15 ?_
    refine sr_iadd hx hb d_Path_behind_16 ?_
    refine sr_ialdZ hx hb hK hP 1 0 rfl rfl (by omega) (by omega) (by decide) d_Path_behind_17 ?_
    refine lv_goto (tgt := 25) hx hb d_Path_behind_18 (by decide) ?_
    exact sr_iret () hx hb hr hlocks hP hD hS d_Path_behind_25 (by rw [if_pos (by omega)])

set_option maxHeartbeats 4000000 in
set_option maxRecDepth 100000 in
theorem c_Pen_isDashed (l : Launch) (D : va_G) (cI cJ cZ : ClassId) (sz : Nat) (hq : Nat) (hf : Int) (cp : Int) (jn : Int) (lm : Int) (pln : Nat) (nd : Int) (ph : Int) (wl : Int) (h0 : -2147483648 ≤ wl ∧ wl ≤ 2147483647) : Met l y_Pen_isDashed (.code y_Pen_isDashed b_Pen_isDashed 1 (some .boolean) :: allw) ({ frames := 0, cells := 0, slots := 0, locals := 0 } : Room) (va_Pc [.ref hq] (sr_U D classes [(cI, .int), (cJ, .long), (cZ, .boolean)] nestw [(hq, .inr (3, [.int (iI hf), .int (iI cp), .int (iI jn), .int (iI lm), .ref pln, .int (iI nd), .int (iI ph), .int (iI wl)]))] sz)) (va_Qi (fun (r : Int32) => fun (_ : Unit) => ∃ z : Int, r = iI z ∧ (z = 1 ∧ (0 < wl) ∨ z = 0 ∧ ¬ (0 < wl))) (sr_B D classes (va_A [(hq, .inr (3, [.int (iI hf), .int (iI cp), .int (iI jn), .int (iI lm), .ref pln, .int (iI nd), .int (iI ph), .int (iI wl)]))] sz) (fun (_ : Unit) => [(hq, .inr (3, [.int (iI hf), .int (iI cp), .int (iI jn), .int (iI lm), .ref pln, .int (iI nd), .int (iI ph), .int (iI wl)]))])) (va_A [(hq, .inr (3, [.int (iI hf), .int (iI cp), .int (iI jn), .int (iI lm), .ref pln, .int (iI nd), .int (iI ph), .int (iI wl)]))] sz)) 0 0 (va_A [(hq, .inr (3, [.int (iI hf), .int (iI cp), .int (iI jn), .int (iI lm), .ref pln, .int (iI nd), .int (iI ph), .int (iI wl)]))] sz) := by
  refine sr_enter (Qf := fun A => va_Qi (fun (r : Int32) => fun (_ : Unit) => ∃ z : Int, r = iI z ∧ (z = 1 ∧ (0 < wl) ∨ z = 0 ∧ ¬ (0 < wl))) (sr_B D classes A (fun (_ : Unit) => [(hq, .inr (3, [.int (iI hf), .int (iI cp), .int (iI jn), .int (iI lm), .ref pln, .int (iI nd), .int (iI ph), .int (iI wl)]))])) A) (by decide +kernel) rfl (Nat.le_of_ble_eq_true rfl) ?_
  intro p e s m below meth c A ls hx hb hr hml hown hlocks hin hts hsz hP hK hD hN hA hS hl
  have ht : ∀ w ∈ allw, w.before _ s = true := fun w h => hts w (List.mem_cons_of_mem _ h)
  have hsub : ∀ w ∈ allw, w ∈ _ := fun w h => List.mem_cons_of_mem (Cond.code y_Pen_isDashed b_Pen_isDashed 1 (some .boolean)) h
  have hl : lv_has ls 1 [(0, .ref hq)] := hl
  have hP : va_P D classes [(hq, .inr (3, [.int (iI hf), .int (iI cp), .int (iI jn), .int (iI lm), .ref pln, .int (iI nd), .int (iI ph), .int (iI wl)]))] s.heap := hP
  refine lv_aload_n hx hb d_Pen_isDashed_0 rfl (lv_at hl 0 rfl) ?_
  refine va_get hx hb ht i_Pen hown hK hP 0 rfl rfl 7 (by decide) (ht _ k_f_Pen_31) (fun _ h9 => h9) rfl d_Pen_isDashed_1 ?_
  refine sr_if_le (tgt := 11) hx hb d_Pen_isDashed_4 (by decide) (by unfold bI; omega) (fun c_4 => ?_) (fun c_4 => ?_)
  · -- T
    refine sr_iconst hx hb d_Pen_isDashed_11 ?_
    exact sr_zret () hx hb hr hlocks (by decide) hP hD hS d_Pen_isDashed_12 (⟨0, rfl, Or.inr ⟨rfl, by omega⟩⟩)
  · -- F
    refine sr_iconst hx hb d_Pen_isDashed_7 ?_
    refine lv_goto (tgt := 12) hx hb d_Pen_isDashed_8 (by decide) ?_
    exact sr_zret () hx hb hr hlocks (by decide) hP hD hS d_Pen_isDashed_12 (⟨1, rfl, Or.inl ⟨rfl, by omega⟩⟩)

set_option maxHeartbeats 4000000 in
set_option maxRecDepth 100000 in
theorem c_Pen_shape (l : Launch) (D : va_G) (cI cJ cZ : ClassId) (sz : Nat) (hq : Nat) (hf : Int) (cp : Int) (jn : Int) (lm : Int) (pln : Nat) (nd : Int) (ph : Int) (wl : Int) (w : Int) (c0 : Int) (j0 : Int) (l0 : Int)  : Met l y_Pen_shape (.code y_Pen_shape b_Pen_shape 5 none :: allw) ({ frames := 0, cells := 0, slots := 0, locals := 0 } : Room) (va_Pc [.ref hq, .int (iI w), .int (iI c0), .int (iI j0), .int (iI l0)] (sr_U D classes [(cI, .int), (cJ, .long), (cZ, .boolean)] nestw [(hq, .inr (3, [.int (iI hf), .int (iI cp), .int (iI jn), .int (iI lm), .ref pln, .int (iI nd), .int (iI ph), .int (iI wl)]))] sz)) (va_Qv (fun (_ : Unit) => True) (sr_B D classes (va_A [(hq, .inr (3, [.int (iI hf), .int (iI cp), .int (iI jn), .int (iI lm), .ref pln, .int (iI nd), .int (iI ph), .int (iI wl)]))] sz) (fun (_ : Unit) => [(hq, .inr (3, [.int (iI (8 * w)), .int (iI c0), .int (iI j0), .int (iI l0), .ref pln, .int (iI nd), .int (iI ph), .int (iI wl)]))])) (va_A [(hq, .inr (3, [.int (iI hf), .int (iI cp), .int (iI jn), .int (iI lm), .ref pln, .int (iI nd), .int (iI ph), .int (iI wl)]))] sz)) 0 0 (va_A [(hq, .inr (3, [.int (iI hf), .int (iI cp), .int (iI jn), .int (iI lm), .ref pln, .int (iI nd), .int (iI ph), .int (iI wl)]))] sz) := by
  refine sr_enter (Qf := fun A => va_Qv (fun (_ : Unit) => True) (sr_B D classes A (fun (_ : Unit) => [(hq, .inr (3, [.int (iI (8 * w)), .int (iI c0), .int (iI j0), .int (iI l0), .ref pln, .int (iI nd), .int (iI ph), .int (iI wl)]))])) A) (by decide +kernel) rfl (Nat.le_of_ble_eq_true rfl) ?_
  intro p e s m below meth c A ls hx hb hr hml hown hlocks hin hts hsz hP hK hD hN hA hS hl
  have ht : ∀ w ∈ allw, w.before _ s = true := fun w h => hts w (List.mem_cons_of_mem _ h)
  have hsub : ∀ w ∈ allw, w ∈ _ := fun w h => List.mem_cons_of_mem (Cond.code y_Pen_shape b_Pen_shape 5 none) h
  have hl : lv_has ls 5 [(0, .ref hq), (1, .int (iI w)), (2, .int (iI c0)), (3, .int (iI j0)), (4, .int (iI l0))] := hl
  have hP : va_P D classes [(hq, .inr (3, [.int (iI hf), .int (iI cp), .int (iI jn), .int (iI lm), .ref pln, .int (iI nd), .int (iI ph), .int (iI wl)]))] s.heap := hP
  refine lv_aload_n hx hb d_Pen_shape_0 rfl (lv_at hl 0 rfl) ?_
  refine sr_bipush hx hb d_Pen_shape_1 (by decide) ?_
  refine lv_iload_n hx hb d_Pen_shape_3 rfl (lv_at hl 1 rfl) ?_
  refine sr_imul hx hb d_Pen_shape_4 ?_
  refine va_put (ty := .int) hx hb ht i_Pen t_Pen t_Pen_ok n_Pen hown hK hP hD hS 0 rfl rfl 0 (by decide) (ht _ k_f_Pen_9) (fun _ h9 => h9) rfl (t_Pen_ok 0 (by decide)) rfl rfl (Nat.le_of_ble_eq_true rfl) d_Pen_shape_5 (fun H locs hP hD hS => ?_)
  have hP : va_P D classes [(hq, .inr (3, [.int (iI (8 * w)), .int (iI cp), .int (iI jn), .int (iI lm), .ref pln, .int (iI nd), .int (iI ph), .int (iI wl)]))] H := hP
  have hD : va_D A [(hq, .inr (3, [.int (iI (8 * w)), .int (iI cp), .int (iI jn), .int (iI lm), .ref pln, .int (iI nd), .int (iI ph), .int (iI wl)]))] := hD
  refine lv_aload_n hx hb d_Pen_shape_8 rfl (lv_at hl 0 rfl) ?_
  refine lv_iload_n hx hb d_Pen_shape_9 rfl (lv_at hl 2 rfl) ?_
  refine va_put (ty := .int) hx hb ht i_Pen t_Pen t_Pen_ok n_Pen hown hK hP hD hS 0 rfl rfl 1 (by decide) (ht _ k_f_Pen_22) (fun _ h9 => h9) rfl (t_Pen_ok 1 (by decide)) rfl rfl (Nat.le_of_ble_eq_true rfl) d_Pen_shape_10 (fun H locs hP hD hS => ?_)
  have hP : va_P D classes [(hq, .inr (3, [.int (iI (8 * w)), .int (iI c0), .int (iI jn), .int (iI lm), .ref pln, .int (iI nd), .int (iI ph), .int (iI wl)]))] H := hP
  have hD : va_D A [(hq, .inr (3, [.int (iI (8 * w)), .int (iI c0), .int (iI jn), .int (iI lm), .ref pln, .int (iI nd), .int (iI ph), .int (iI wl)]))] := hD
  refine lv_aload_n hx hb d_Pen_shape_13 rfl (lv_at hl 0 rfl) ?_
  refine lv_iload_n hx hb d_Pen_shape_14 rfl (lv_at hl 3 rfl) ?_
  refine va_put (ty := .int) hx hb ht i_Pen t_Pen t_Pen_ok n_Pen hown hK hP hD hS 0 rfl rfl 2 (by decide) (ht _ k_f_Pen_25) (fun _ h9 => h9) rfl (t_Pen_ok 2 (by decide)) rfl rfl (Nat.le_of_ble_eq_true rfl) d_Pen_shape_15 (fun H locs hP hD hS => ?_)
  have hP : va_P D classes [(hq, .inr (3, [.int (iI (8 * w)), .int (iI c0), .int (iI j0), .int (iI lm), .ref pln, .int (iI nd), .int (iI ph), .int (iI wl)]))] H := hP
  have hD : va_D A [(hq, .inr (3, [.int (iI (8 * w)), .int (iI c0), .int (iI j0), .int (iI lm), .ref pln, .int (iI nd), .int (iI ph), .int (iI wl)]))] := hD
  refine lv_aload_n hx hb d_Pen_shape_18 rfl (lv_at hl 0 rfl) ?_
  refine lv_iload hx hb d_Pen_shape_19 (lv_at hl 4 rfl) ?_
  refine va_put (ty := .int) hx hb ht i_Pen t_Pen t_Pen_ok n_Pen hown hK hP hD hS 0 rfl rfl 3 (by decide) (ht _ k_f_Pen_15) (fun _ h9 => h9) rfl (t_Pen_ok 3 (by decide)) rfl rfl (Nat.le_of_ble_eq_true rfl) d_Pen_shape_21 (fun H locs hP hD hS => ?_)
  have hP : va_P D classes [(hq, .inr (3, [.int (iI (8 * w)), .int (iI c0), .int (iI j0), .int (iI l0), .ref pln, .int (iI nd), .int (iI ph), .int (iI wl)]))] H := hP
  have hD : va_D A [(hq, .inr (3, [.int (iI (8 * w)), .int (iI c0), .int (iI j0), .int (iI l0), .ref pln, .int (iI nd), .int (iI ph), .int (iI wl)]))] := hD
  exact sr_vret () hx hb hr hlocks hP hD hS d_Pen_shape_24 (trivial)

set_option maxHeartbeats 4000000 in
set_option maxRecDepth 100000 in
theorem c_Pen_addDash (l : Launch) (D : va_G) (cI cJ cZ : ClassId) (sz : Nat) (hq : Nat) (hf : Int) (cp : Int) (jn : Int) (lm : Int) (pln : Nat) (nd : Int) (ph : Int) (wl : Int) (ln : Int → Int) (v : Int) (h0 : 0 ≤ nd) (h1 : nd < 8) : Met l y_Pen_addDash (.code y_Pen_addDash b_Pen_addDash 2 none :: allw) ({ frames := 0, cells := 0, slots := 0, locals := 0 } : Room) (va_Pc [.ref hq, .int (iI v)] (sr_U D classes [(cI, .int), (cJ, .long), (cZ, .boolean)] nestw [(hq, .inr (3, [.int (iI hf), .int (iI cp), .int (iI jn), .int (iI lm), .ref pln, .int (iI nd), .int (iI ph), .int (iI wl)])), (pln, .inl (cI, 8, .inl (zI ln)))] sz)) (va_Qv (fun (_ : Unit) => True) (sr_B D classes (va_A [(hq, .inr (3, [.int (iI hf), .int (iI cp), .int (iI jn), .int (iI lm), .ref pln, .int (iI nd), .int (iI ph), .int (iI wl)])), (pln, .inl (cI, 8, .inl (zI ln)))] sz) (fun (_ : Unit) => [(hq, .inr (3, [.int (iI hf), .int (iI cp), .int (iI jn), .int (iI lm), .ref pln, .int (iI (nd + 1)), .int (iI ph), .int (iI (wl + v))])), (pln, .inl (cI, 8, .inl (zI (zup ln nd v))))])) (va_A [(hq, .inr (3, [.int (iI hf), .int (iI cp), .int (iI jn), .int (iI lm), .ref pln, .int (iI nd), .int (iI ph), .int (iI wl)])), (pln, .inl (cI, 8, .inl (zI ln)))] sz)) 0 0 (va_A [(hq, .inr (3, [.int (iI hf), .int (iI cp), .int (iI jn), .int (iI lm), .ref pln, .int (iI nd), .int (iI ph), .int (iI wl)])), (pln, .inl (cI, 8, .inl (zI ln)))] sz) := by
  refine sr_enter (Qf := fun A => va_Qv (fun (_ : Unit) => True) (sr_B D classes A (fun (_ : Unit) => [(hq, .inr (3, [.int (iI hf), .int (iI cp), .int (iI jn), .int (iI lm), .ref pln, .int (iI (nd + 1)), .int (iI ph), .int (iI (wl + v))])), (pln, .inl (cI, 8, .inl (zI (zup ln nd v))))])) A) (by decide +kernel) rfl (Nat.le_of_ble_eq_true rfl) ?_
  intro p e s m below meth c A ls hx hb hr hml hown hlocks hin hts hsz hP hK hD hN hA hS hl
  have ht : ∀ w ∈ allw, w.before _ s = true := fun w h => hts w (List.mem_cons_of_mem _ h)
  have hsub : ∀ w ∈ allw, w ∈ _ := fun w h => List.mem_cons_of_mem (Cond.code y_Pen_addDash b_Pen_addDash 2 none) h
  have hl : lv_has ls 2 [(0, .ref hq), (1, .int (iI v))] := hl
  have hP : va_P D classes [(hq, .inr (3, [.int (iI hf), .int (iI cp), .int (iI jn), .int (iI lm), .ref pln, .int (iI nd), .int (iI ph), .int (iI wl)])), (pln, .inl (cI, 8, .inl (zI ln)))] s.heap := hP
  refine lv_aload_n hx hb d_Pen_addDash_0 rfl (lv_at hl 0 rfl) ?_
  refine va_get hx hb ht i_Pen hown hK hP 0 rfl rfl 5 (by decide) (ht _ k_f_Pen_28) (fun _ h9 => h9) rfl d_Pen_addDash_1 ?_
  refine sr_bipush hx hb d_Pen_addDash_4 (by decide) ?_
  refine sr_icmp_ge (tgt := 39) hx hb d_Pen_addDash_6 (by decide) (by unfold bI; omega) (by unfold bI; decide) (fun c_6 => ?_) (fun c_6 => ?_)
  · -- T
    exact absurd c_6 (by omega)
  · -- F
    refine lv_aload_n hx hb d_Pen_addDash_9 rfl (lv_at hl 0 rfl) ?_
    refine va_get hx hb ht i_Pen hown hK hP 0 rfl rfl 4 (by decide) (ht _ k_f_Pen_18) (fun _ h9 => h9) rfl d_Pen_addDash_10 ?_
    refine lv_aload_n hx hb d_Pen_addDash_13 rfl (lv_at hl 0 rfl) ?_
    refine va_get hx hb ht i_Pen hown hK hP 0 rfl rfl 5 (by decide) (ht _ k_f_Pen_28) (fun _ h9 => h9) rfl d_Pen_addDash_14 ?_
    refine lv_iload_n hx hb d_Pen_addDash_17 rfl (lv_at hl 1 rfl) ?_
    refine sr_iastZ hx hb hK hP hD hS 1 0 rfl rfl (by omega) (by omega) (by decide) d_Pen_addDash_18 (fun H locs hP hD hS => ?_)
    have hP : va_P D classes [(hq, .inr (3, [.int (iI hf), .int (iI cp), .int (iI jn), .int (iI lm), .ref pln, .int (iI nd), .int (iI ph), .int (iI wl)])), (pln, .inl (cI, 8, .inl (zI (zup ln nd v))))] H := hP
    have hD : va_D A [(hq, .inr (3, [.int (iI hf), .int (iI cp), .int (iI jn), .int (iI lm), .ref pln, .int (iI nd), .int (iI ph), .int (iI wl)])), (pln, .inl (cI, 8, .inl (zI (zup ln nd v))))] := hD
    refine lv_aload_n hx hb d_Pen_addDash_19 rfl (lv_at hl 0 rfl) ?_
    refine lv_dup hx hb d_Pen_addDash_20 rfl ?_
    refine va_get hx hb ht i_Pen hown hK hP 0 rfl rfl 5 (by decide) (ht _ k_f_Pen_28) (fun _ h9 => h9) rfl d_Pen_addDash_21 ?_
    refine sr_iconst hx hb d_Pen_addDash_24 ?_
    refine sr_iadd hx hb d_Pen_addDash_25 ?_
    refine va_put (ty := .int) hx hb ht i_Pen t_Pen t_Pen_ok n_Pen hown hK hP hD hS 0 rfl rfl 5 (by decide) (ht _ k_f_Pen_28) (fun _ h9 => h9) rfl (t_Pen_ok 5 (by decide)) rfl rfl (Nat.le_of_ble_eq_true rfl) d_Pen_addDash_26 (fun H locs hP hD hS => ?_)
    have hP : va_P D classes [(hq, .inr (3, [.int (iI hf), .int (iI cp), .int (iI jn), .int (iI lm), .ref pln, .int (iI (nd + 1)), .int (iI ph), .int (iI wl)])), (pln, .inl (cI, 8, .inl (zI (zup ln nd v))))] H := hP
    have hD : va_D A [(hq, .inr (3, [.int (iI hf), .int (iI cp), .int (iI jn), .int (iI lm), .ref pln, .int (iI (nd + 1)), .int (iI ph), .int (iI wl)])), (pln, .inl (cI, 8, .inl (zI (zup ln nd v))))] := hD
    refine lv_aload_n hx hb d_Pen_addDash_29 rfl (lv_at hl 0 rfl) ?_
    refine lv_dup hx hb d_Pen_addDash_30 rfl ?_
    refine va_get hx hb ht i_Pen hown hK hP 0 rfl rfl 7 (by decide) (ht _ k_f_Pen_31) (fun _ h9 => h9) rfl d_Pen_addDash_31 ?_
    refine lv_iload_n hx hb d_Pen_addDash_34 rfl (lv_at hl 1 rfl) ?_
    refine sr_iadd hx hb d_Pen_addDash_35 ?_
    refine va_put (ty := .int) hx hb ht i_Pen t_Pen t_Pen_ok n_Pen hown hK hP hD hS 0 rfl rfl 7 (by decide) (ht _ k_f_Pen_31) (fun _ h9 => h9) rfl (t_Pen_ok 7 (by decide)) rfl rfl (Nat.le_of_ble_eq_true rfl) d_Pen_addDash_36 (fun H locs hP hD hS => ?_)
    have hP : va_P D classes [(hq, .inr (3, [.int (iI hf), .int (iI cp), .int (iI jn), .int (iI lm), .ref pln, .int (iI (nd + 1)), .int (iI ph), .int (iI (wl + v))])), (pln, .inl (cI, 8, .inl (zI (zup ln nd v))))] H := hP
    have hD : va_D A [(hq, .inr (3, [.int (iI hf), .int (iI cp), .int (iI jn), .int (iI lm), .ref pln, .int (iI (nd + 1)), .int (iI ph), .int (iI (wl + v))])), (pln, .inl (cI, 8, .inl (zI (zup ln nd v))))] := hD
    exact sr_vret () hx hb hr hlocks hP hD hS d_Pen_addDash_39 (trivial)

set_option maxHeartbeats 4000000 in
set_option maxRecDepth 100000 in
theorem c_Pen_dropDashes (l : Launch) (D : va_G) (cI cJ cZ : ClassId) (sz : Nat) (hq : Nat) (hf : Int) (cp : Int) (jn : Int) (lm : Int) (pln : Nat) (nd : Int) (ph : Int) (wl : Int) (v : Int)  : Met l y_Pen_dropDashes (.code y_Pen_dropDashes b_Pen_dropDashes 2 none :: allw) ({ frames := 0, cells := 0, slots := 0, locals := 0 } : Room) (va_Pc [.ref hq, .int (iI v)] (sr_U D classes [(cI, .int), (cJ, .long), (cZ, .boolean)] nestw [(hq, .inr (3, [.int (iI hf), .int (iI cp), .int (iI jn), .int (iI lm), .ref pln, .int (iI nd), .int (iI ph), .int (iI wl)]))] sz)) (va_Qv (fun (_ : Unit) => True) (sr_B D classes (va_A [(hq, .inr (3, [.int (iI hf), .int (iI cp), .int (iI jn), .int (iI lm), .ref pln, .int (iI nd), .int (iI ph), .int (iI wl)]))] sz) (fun (_ : Unit) => [(hq, .inr (3, [.int (iI hf), .int (iI cp), .int (iI jn), .int (iI lm), .ref pln, .int (iI 0), .int (iI v), .int (iI 0)]))])) (va_A [(hq, .inr (3, [.int (iI hf), .int (iI cp), .int (iI jn), .int (iI lm), .ref pln, .int (iI nd), .int (iI ph), .int (iI wl)]))] sz)) 0 0 (va_A [(hq, .inr (3, [.int (iI hf), .int (iI cp), .int (iI jn), .int (iI lm), .ref pln, .int (iI nd), .int (iI ph), .int (iI wl)]))] sz) := by
  refine sr_enter (Qf := fun A => va_Qv (fun (_ : Unit) => True) (sr_B D classes A (fun (_ : Unit) => [(hq, .inr (3, [.int (iI hf), .int (iI cp), .int (iI jn), .int (iI lm), .ref pln, .int (iI 0), .int (iI v), .int (iI 0)]))])) A) (by decide +kernel) rfl (Nat.le_of_ble_eq_true rfl) ?_
  intro p e s m below meth c A ls hx hb hr hml hown hlocks hin hts hsz hP hK hD hN hA hS hl
  have ht : ∀ w ∈ allw, w.before _ s = true := fun w h => hts w (List.mem_cons_of_mem _ h)
  have hsub : ∀ w ∈ allw, w ∈ _ := fun w h => List.mem_cons_of_mem (Cond.code y_Pen_dropDashes b_Pen_dropDashes 2 none) h
  have hl : lv_has ls 2 [(0, .ref hq), (1, .int (iI v))] := hl
  have hP : va_P D classes [(hq, .inr (3, [.int (iI hf), .int (iI cp), .int (iI jn), .int (iI lm), .ref pln, .int (iI nd), .int (iI ph), .int (iI wl)]))] s.heap := hP
  refine lv_aload_n hx hb d_Pen_dropDashes_0 rfl (lv_at hl 0 rfl) ?_
  refine lv_iload_n hx hb d_Pen_dropDashes_1 rfl (lv_at hl 1 rfl) ?_
  refine va_put (ty := .int) hx hb ht i_Pen t_Pen t_Pen_ok n_Pen hown hK hP hD hS 0 rfl rfl 6 (by decide) (ht _ k_f_Pen_34) (fun _ h9 => h9) rfl (t_Pen_ok 6 (by decide)) rfl rfl (Nat.le_of_ble_eq_true rfl) d_Pen_dropDashes_2 (fun H locs hP hD hS => ?_)
  have hP : va_P D classes [(hq, .inr (3, [.int (iI hf), .int (iI cp), .int (iI jn), .int (iI lm), .ref pln, .int (iI nd), .int (iI v), .int (iI wl)]))] H := hP
  have hD : va_D A [(hq, .inr (3, [.int (iI hf), .int (iI cp), .int (iI jn), .int (iI lm), .ref pln, .int (iI nd), .int (iI v), .int (iI wl)]))] := hD
  refine lv_aload_n hx hb d_Pen_dropDashes_5 rfl (lv_at hl 0 rfl) ?_
  refine sr_iconst hx hb d_Pen_dropDashes_6 ?_
  refine va_put (ty := .int) hx hb ht i_Pen t_Pen t_Pen_ok n_Pen hown hK hP hD hS 0 rfl rfl 5 (by decide) (ht _ k_f_Pen_28) (fun _ h9 => h9) rfl (t_Pen_ok 5 (by decide)) rfl rfl (Nat.le_of_ble_eq_true rfl) d_Pen_dropDashes_7 (fun H locs hP hD hS => ?_)
  have hP : va_P D classes [(hq, .inr (3, [.int (iI hf), .int (iI cp), .int (iI jn), .int (iI lm), .ref pln, .int (iI 0), .int (iI v), .int (iI wl)]))] H := hP
  have hD : va_D A [(hq, .inr (3, [.int (iI hf), .int (iI cp), .int (iI jn), .int (iI lm), .ref pln, .int (iI 0), .int (iI v), .int (iI wl)]))] := hD
  refine lv_aload_n hx hb d_Pen_dropDashes_10 rfl (lv_at hl 0 rfl) ?_
  refine sr_iconst hx hb d_Pen_dropDashes_11 ?_
  refine va_put (ty := .int) hx hb ht i_Pen t_Pen t_Pen_ok n_Pen hown hK hP hD hS 0 rfl rfl 7 (by decide) (ht _ k_f_Pen_31) (fun _ h9 => h9) rfl (t_Pen_ok 7 (by decide)) rfl rfl (Nat.le_of_ble_eq_true rfl) d_Pen_dropDashes_12 (fun H locs hP hD hS => ?_)
  have hP : va_P D classes [(hq, .inr (3, [.int (iI hf), .int (iI cp), .int (iI jn), .int (iI lm), .ref pln, .int (iI 0), .int (iI v), .int (iI 0)]))] H := hP
  have hD : va_D A [(hq, .inr (3, [.int (iI hf), .int (iI cp), .int (iI jn), .int (iI lm), .ref pln, .int (iI 0), .int (iI v), .int (iI 0)]))] := hD
  exact sr_vret () hx hb hr hlocks hP hD hS d_Pen_dropDashes_15 (trivial)

set_option maxHeartbeats 4000000 in
set_option maxRecDepth 100000 in
theorem c_Grid_bitsFromTo (l : Launch) (D : va_G) (cI cJ cZ : ClassId) (sz : Nat) (a : Int) (b : Int) (h0 : 0 ≤ a) (h1 : b ≤ 63) (ha : bL a) (hb1 : bL b) : Met l y_Grid_bitsFromTo (.code y_Grid_bitsFromTo b_Grid_bitsFromTo 4 (some .long) :: allw) ({ frames := 0, cells := 0, slots := 0, locals := 0 } : Room) (va_Pc [.long (lI a), .long (lI b)] (sr_U D classes [(cI, .int), (cJ, .long), (cZ, .boolean)] nestw [] sz)) (va_Ql (fun (r : Int64) => fun (_ : Unit) => ∀ k : Int, 0 ≤ k → k < 64 → (btL r k ↔ a ≤ k ∧ k ≤ b)) (sr_B D classes (va_A [] sz) (fun (_ : Unit) => [])) (va_A [] sz)) 0 0 (va_A [] sz) := by
  refine sr_enter (Qf := fun A => va_Ql (fun (r : Int64) => fun (_ : Unit) => ∀ k : Int, 0 ≤ k → k < 64 → (btL r k ↔ a ≤ k ∧ k ≤ b)) (sr_B D classes A (fun (_ : Unit) => [])) A) (by decide +kernel) rfl (Nat.le_of_ble_eq_true rfl) ?_
  intro p e s m below meth c A ls hx hb hr hml hown hlocks hin hts hsz hP hK hD hN hA hS hl
  have ht : ∀ w ∈ allw, w.before _ s = true := fun w h => hts w (List.mem_cons_of_mem _ h)
  have hsub : ∀ w ∈ allw, w ∈ _ := fun w h => List.mem_cons_of_mem (Cond.code y_Grid_bitsFromTo b_Grid_bitsFromTo 4 (some .long)) h
  have hl : lv_has ls 4 [(0, .long (lI a)), (2, .long (lI b))] := hl
  have hP : va_P D classes [] s.heap := hP
  refine lv_lload_n hx hb d_Grid_bitsFromTo_0 rfl (lv_at hl 0 rfl) ?_
  refine lv_lload_n hx hb d_Grid_bitsFromTo_1 rfl (lv_at hl 1 rfl) ?_
  refine sr_lcmp_gt (tgt := 26) hx hb d_Grid_bitsFromTo_2 d_Grid_bitsFromTo_3 (by decide) ha hb1 (fun c_2 => ?_) (fun c_2 => ?_)
  · -- T
    refine sr_lconst0 hx hb d_Grid_bitsFromTo_26 ?_
    exact sr_lret () hx hb hr hlocks hP hD hS d_Grid_bitsFromTo_27 (fun k k0 k1 => ⟨fun h => absurd h (btL_0 k), fun h => by omega⟩)
  · -- F
    refine lv_ldc2 hx hb hown (ht _ k_k_Grid_79) d_Grid_bitsFromTo_6 ?_
    refine sr_eqL (z := (-1)) (by decide) ?_
    refine lv_lload_n hx hb d_Grid_bitsFromTo_9 rfl (lv_at hl 0 rfl) ?_
    refine sr_l2i hx hb d_Grid_bitsFromTo_10 ?_
    refine lv_lshl hx hb d_Grid_bitsFromTo_11 rfl ?_
    refine lv_ldc2 hx hb hown (ht _ k_k_Grid_79) d_Grid_bitsFromTo_12 ?_
    refine sr_eqL (z := (-1)) (by decide) ?_
    refine lv_ldc2 hx hb hown (ht _ k_k_Grid_120) d_Grid_bitsFromTo_15 ?_
    refine sr_eqL (z := 63) (by decide) ?_
    refine lv_lload_n hx hb d_Grid_bitsFromTo_18 rfl (lv_at hl 1 rfl) ?_
    refine sr_lsub hx hb d_Grid_bitsFromTo_19 ?_
    refine sr_l2i hx hb d_Grid_bitsFromTo_20 ?_
    refine lv_lushr hx hb d_Grid_bitsFromTo_21 rfl ?_
    refine lv_land hx hb d_Grid_bitsFromTo_22 ?_
    refine lv_goto (tgt := 27) hx hb d_Grid_bitsFromTo_23 (by decide) ?_
    exact sr_lret () hx hb hr hlocks hP hD hS d_Grid_bitsFromTo_27 (fun k k0 k1 => bt_ft h0 (by omega) h1 k k0 k1)

set_option maxHeartbeats 4000000 in
set_option maxRecDepth 100000 in
theorem c_Grid_across (l : Launch) (D : va_G) (cI cJ cZ : ClassId) (sz : Nat) (hg0 : Nat) (grw : Nat) (sx : Int) (tx : Int) (wd : Int) (sy : Int) (ty : Int) (hi : Int) (wr : Int64) (fr : Int) (gxs : Nat) (gys : Nat) (nc : Int) (ogx : Int) (ogy : Int) (tu : Int) (st : Int) (sp : Int) (co : Int) (h0 : -2147483648 ≤ st ∧ st ≤ 2147483647) (h1 : -2147483648 ≤ sp ∧ sp ≤ 2147483647) (h2 : -2147483648 ≤ co ∧ co ≤ 2147483647) : Met l y_Grid_across (.code y_Grid_across b_Grid_across 4 none :: allw) ({ frames := 1, cells := 0, slots := 0, locals := 23 } : Room) (va_Pc [.ref hg0, .int (iI st), .int (iI sp), .int (iI co)] (sr_U D classes [(cI, .int), (cJ, .long), (cZ, .boolean)] nestw [(hg0, .inr (0, [.ref grw, .int (iI sx), .int (iI tx), .int (iI wd), .int (iI sy), .int (iI ty), .int (iI hi), .long wr, .int (iI fr), .ref gxs, .ref gys, .int (iI nc), .int (iI ogx), .int (iI ogy), .long (lI tu)]))] sz)) (va_Qv (fun (w2 : Int64) => ∀ k : Int, 0 ≤ k → k < 64 → (btL w2 k ↔ k < max 1 (min 64 co))) (sr_B D classes (va_A [(hg0, .inr (0, [.ref grw, .int (iI sx), .int (iI tx), .int (iI wd), .int (iI sy), .int (iI ty), .int (iI hi), .long wr, .int (iI fr), .ref gxs, .ref gys, .int (iI nc), .int (iI ogx), .int (iI ogy), .long (lI tu)]))] sz) (fun (w2 : Int64) => [(hg0, .inr (0, [.ref grw, .int (iI st), .int (iI (max 1 sp)), .int (iI (max 1 (min 64 co))), .int (iI sy), .int (iI ty), .int (iI hi), .long w2, .int (iI fr), .ref gxs, .ref gys, .int (iI nc), .int (iI ogx), .int (iI ogy), .long (lI tu)]))])) (va_A [(hg0, .inr (0, [.ref grw, .int (iI sx), .int (iI tx), .int (iI wd), .int (iI sy), .int (iI ty), .int (iI hi), .long wr, .int (iI fr), .ref gxs, .ref gys, .int (iI nc), .int (iI ogx), .int (iI ogy), .long (lI tu)]))] sz)) 0 0 (va_A [(hg0, .inr (0, [.ref grw, .int (iI sx), .int (iI tx), .int (iI wd), .int (iI sy), .int (iI ty), .int (iI hi), .long wr, .int (iI fr), .ref gxs, .ref gys, .int (iI nc), .int (iI ogx), .int (iI ogy), .long (lI tu)]))] sz) := by
  refine sr_enter (Qf := fun A => va_Qv (fun (w2 : Int64) => ∀ k : Int, 0 ≤ k → k < 64 → (btL w2 k ↔ k < max 1 (min 64 co))) (sr_B D classes A (fun (w2 : Int64) => [(hg0, .inr (0, [.ref grw, .int (iI st), .int (iI (max 1 sp)), .int (iI (max 1 (min 64 co))), .int (iI sy), .int (iI ty), .int (iI hi), .long w2, .int (iI fr), .ref gxs, .ref gys, .int (iI nc), .int (iI ogx), .int (iI ogy), .long (lI tu)]))])) A) (by decide +kernel) rfl (Nat.le_of_ble_eq_true rfl) ?_
  intro p e s m below meth c A ls hx hb hr hml hown hlocks hin hts hsz hP hK hD hN hA hS hl
  have ht : ∀ w ∈ allw, w.before _ s = true := fun w h => hts w (List.mem_cons_of_mem _ h)
  have hsub : ∀ w ∈ allw, w ∈ _ := fun w h => List.mem_cons_of_mem (Cond.code y_Grid_across b_Grid_across 4 none) h
  have hl : lv_has ls 4 [(0, .ref hg0), (1, .int (iI st)), (2, .int (iI sp)), (3, .int (iI co))] := hl
  have hP : va_P D classes [(hg0, .inr (0, [.ref grw, .int (iI sx), .int (iI tx), .int (iI wd), .int (iI sy), .int (iI ty), .int (iI hi), .long wr, .int (iI fr), .ref gxs, .ref gys, .int (iI nc), .int (iI ogx), .int (iI ogy), .long (lI tu)]))] s.heap := hP
  refine lv_aload_n hx hb d_Grid_across_0 rfl (lv_at hl 0 rfl) ?_
  refine lv_iload_n hx hb d_Grid_across_1 rfl (lv_at hl 1 rfl) ?_
  refine va_put (ty := .int) hx hb ht i_Grid t_Grid t_Grid_ok n_Grid hown hK hP hD hS 0 rfl rfl 1 (by decide) (ht _ k_f_Grid_38) (fun _ h9 => h9) rfl (t_Grid_ok 1 (by decide)) rfl rfl (Nat.le_of_ble_eq_true rfl) d_Grid_across_2 (fun H locs hP hD hS => ?_)
  have hP : va_P D classes [(hg0, .inr (0, [.ref grw, .int (iI st), .int (iI tx), .int (iI wd), .int (iI sy), .int (iI ty), .int (iI hi), .long wr, .int (iI fr), .ref gxs, .ref gys, .int (iI nc), .int (iI ogx), .int (iI ogy), .long (lI tu)]))] H := hP
  have hD : va_D A [(hg0, .inr (0, [.ref grw, .int (iI st), .int (iI tx), .int (iI wd), .int (iI sy), .int (iI ty), .int (iI hi), .long wr, .int (iI fr), .ref gxs, .ref gys, .int (iI nc), .int (iI ogx), .int (iI ogy), .long (lI tu)]))] := hD
  refine lv_aload_n hx hb d_Grid_across_5 rfl (lv_at hl 0 rfl) ?_
  refine sr_iconst hx hb d_Grid_across_6 ?_
  refine lv_iload_n hx hb d_Grid_across_7 rfl (lv_at hl 2 rfl) ?_
  refine sr_mmax hx hb (hml.trans hl.1.symm) hown (ht _ k_m_Grid_41) (ht _ k_st_max) (ht _ k_in_Math) (ht _ k_cd_max) (Nat.le_of_ble_eq_true rfl) (Nat.le_of_ble_eq_true rfl) (Nat.zero_le _) (Nat.zero_le _) (by unfold bI; decide) (by unfold bI; omega) d_Grid_across_8 ?_
  refine va_put (ty := .int) hx hb ht i_Grid t_Grid t_Grid_ok n_Grid hown hK hP hD hS 0 rfl rfl 2 (by decide) (ht _ k_f_Grid_15) (fun _ h9 => h9) rfl (t_Grid_ok 2 (by decide)) rfl rfl (Nat.le_of_ble_eq_true rfl) d_Grid_across_11 (fun H locs hP hD hS => ?_)
  have hP : va_P D classes [(hg0, .inr (0, [.ref grw, .int (iI st), .int (iI (max 1 sp)), .int (iI wd), .int (iI sy), .int (iI ty), .int (iI hi), .long wr, .int (iI fr), .ref gxs, .ref gys, .int (iI nc), .int (iI ogx), .int (iI ogy), .long (lI tu)]))] H := hP
  have hD : va_D A [(hg0, .inr (0, [.ref grw, .int (iI st), .int (iI (max 1 sp)), .int (iI wd), .int (iI sy), .int (iI ty), .int (iI hi), .long wr, .int (iI fr), .ref gxs, .ref gys, .int (iI nc), .int (iI ogx), .int (iI ogy), .long (lI tu)]))] := hD
  refine lv_aload_n hx hb d_Grid_across_14 rfl (lv_at hl 0 rfl) ?_
  refine sr_iconst hx hb d_Grid_across_15 ?_
  refine sr_bipush hx hb d_Grid_across_16 (by decide) ?_
  refine lv_iload_n hx hb d_Grid_across_18 rfl (lv_at hl 3 rfl) ?_
  refine sr_mmin hx hb (hml.trans hl.1.symm) hown (ht _ k_m_Grid_47) (ht _ k_st_min) (ht _ k_in_Math) (ht _ k_cd_min) (Nat.le_of_ble_eq_true rfl) (Nat.le_of_ble_eq_true rfl) (Nat.zero_le _) (Nat.zero_le _) (by unfold bI; decide) (by unfold bI; omega) d_Grid_across_19 ?_
  refine sr_mmax hx hb (hml.trans hl.1.symm) hown (ht _ k_m_Grid_41) (ht _ k_st_max) (ht _ k_in_Math) (ht _ k_cd_max) (Nat.le_of_ble_eq_true rfl) (Nat.le_of_ble_eq_true rfl) (Nat.zero_le _) (Nat.zero_le _) (by unfold bI; decide) (by unfold bI; omega) d_Grid_across_22 ?_
  refine va_put (ty := .int) hx hb ht i_Grid t_Grid t_Grid_ok n_Grid hown hK hP hD hS 0 rfl rfl 3 (by decide) (ht _ k_f_Grid_19) (fun _ h9 => h9) rfl (t_Grid_ok 3 (by decide)) rfl rfl (Nat.le_of_ble_eq_true rfl) d_Grid_across_25 (fun H locs hP hD hS => ?_)
  have hP : va_P D classes [(hg0, .inr (0, [.ref grw, .int (iI st), .int (iI (max 1 sp)), .int (iI (max 1 (min 64 co))), .int (iI sy), .int (iI ty), .int (iI hi), .long wr, .int (iI fr), .ref gxs, .ref gys, .int (iI nc), .int (iI ogx), .int (iI ogy), .long (lI tu)]))] H := hP
  have hD : va_D A [(hg0, .inr (0, [.ref grw, .int (iI st), .int (iI (max 1 sp)), .int (iI (max 1 (min 64 co))), .int (iI sy), .int (iI ty), .int (iI hi), .long wr, .int (iI fr), .ref gxs, .ref gys, .int (iI nc), .int (iI ogx), .int (iI ogy), .long (lI tu)]))] := hD
  refine lv_aload_n hx hb d_Grid_across_28 rfl (lv_at hl 0 rfl) ?_
  refine sr_lconst0 hx hb d_Grid_across_29 ?_
  refine lv_aload_n hx hb d_Grid_across_30 rfl (lv_at hl 0 rfl) ?_
  refine va_get hx hb ht i_Grid hown hK hP 0 rfl rfl 3 (by decide) (ht _ k_f_Grid_19) (fun _ h9 => h9) rfl d_Grid_across_31 ?_
  refine sr_iconst hx hb d_Grid_across_34 ?_
  refine sr_isub hx hb d_Grid_across_35 ?_
  refine sr_i2l hx hb d_Grid_across_36 (by unfold bI; omega) ?_
  refine sr_cS_l (wr := [(hg0, .inr (0, [.ref grw, .int (iI st), .int (iI (max 1 sp)), .int (iI (max 1 (min 64 co))), .int (iI sy), .int (iI ty), .int (iI hi), .long wr, .int (iI fr), .ref gxs, .ref gys, .int (iI nc), .int (iI ogx), .int (iI ogy), .long (lI tu)]))]) (As := [.long (lI 0), .long (lI ((max 1 (min 64 co)) - 1))]) (rest := [.ref hg0]) hx hb hml hown hts (c_Grid_bitsFromTo l D cI cJ cZ _ 0 ((max 1 (min 64 co)) - 1) (by omega) (by omega) (bL_0) (by unfold bL; omega)) (sr_cwS hsub hts k_cd_Grid_bitsFromTo k_in_Grid k_m_Grid_50 k_st_Grid_bitsFromTo g_Grid_bitsFromTo ⟨Nat.le_of_ble_eq_true rfl, Nat.le_of_ble_eq_true rfl⟩) hns_ok hK hN hP hD hS hA [] [0] rfl (by decide) rfl (by decide) (by decide) rfl hl.1 rfl (Nat.le_of_ble_eq_true rfl) d_Grid_across_37 ⟨Nat.le_of_ble_eq_true rfl, Nat.le_of_ble_eq_true rfl⟩ (fun r_37 u H locs hw_37 hP hD hS => ?_)
  have hP : va_P D classes [(hg0, .inr (0, [.ref grw, .int (iI st), .int (iI (max 1 sp)), .int (iI (max 1 (min 64 co))), .int (iI sy), .int (iI ty), .int (iI hi), .long wr, .int (iI fr), .ref gxs, .ref gys, .int (iI nc), .int (iI ogx), .int (iI ogy), .long (lI tu)]))] H := hP
  have hD : va_D A [(hg0, .inr (0, [.ref grw, .int (iI st), .int (iI (max 1 sp)), .int (iI (max 1 (min 64 co))), .int (iI sy), .int (iI ty), .int (iI hi), .long wr, .int (iI fr), .ref gxs, .ref gys, .int (iI nc), .int (iI ogx), .int (iI ogy), .long (lI tu)]))] := hD
  try dsimp only at hw_37
  refine va_put (ty := .long) hx hb ht i_Grid t_Grid t_Grid_ok n_Grid hown hK hP hD hS 0 rfl rfl 7 (by decide) (ht _ k_f_Grid_28) (fun _ h9 => h9) rfl (t_Grid_ok 7 (by decide)) rfl rfl (Nat.le_of_ble_eq_true rfl) d_Grid_across_40 (fun H locs hP hD hS => ?_)
  have hP : va_P D classes [(hg0, .inr (0, [.ref grw, .int (iI st), .int (iI (max 1 sp)), .int (iI (max 1 (min 64 co))), .int (iI sy), .int (iI ty), .int (iI hi), .long r_37, .int (iI fr), .ref gxs, .ref gys, .int (iI nc), .int (iI ogx), .int (iI ogy), .long (lI tu)]))] H := hP
  have hD : va_D A [(hg0, .inr (0, [.ref grw, .int (iI st), .int (iI (max 1 sp)), .int (iI (max 1 (min 64 co))), .int (iI sy), .int (iI ty), .int (iI hi), .long r_37, .int (iI fr), .ref gxs, .ref gys, .int (iI nc), .int (iI ogx), .int (iI ogy), .long (lI tu)]))] := hD
  exact sr_vret r_37 hx hb hr hlocks hP hD hS d_Grid_across_43 (fun k k0 k1 => (hw_37 k k0 k1).trans ⟨fun h => by omega, fun h => by omega⟩)

set_option maxHeartbeats 4000000 in
set_option maxRecDepth 100000 in
theorem c_Grid_upwards (l : Launch) (D : va_G) (cI cJ cZ : ClassId) (sz : Nat) (hg0 : Nat) (grw : Nat) (sx : Int) (tx : Int) (wd : Int) (sy : Int) (ty : Int) (hi : Int) (wr : Int64) (fr : Int) (gxs : Nat) (gys : Nat) (nc : Int) (ogx : Int) (ogy : Int) (tu : Int) (rw : Nat → Int64) (st : Int) (sp : Int) (co : Int) (h0 : -2147483648 ≤ st ∧ st ≤ 2147483647) (h1 : -2147483648 ≤ sp ∧ sp ≤ 2147483647) (h2 : -2147483648 ≤ co ∧ co ≤ 2147483647) : Met l y_Grid_upwards (.code y_Grid_upwards b_Grid_upwards 4 none :: allw) ({ frames := 1, cells := 0, slots := 0, locals := 24 } : Room) (va_Pc [.ref hg0, .int (iI st), .int (iI sp), .int (iI co)] (sr_U D classes [(cI, .int), (cJ, .long), (cZ, .boolean)] nestw [(hg0, .inr (0, [.ref grw, .int (iI sx), .int (iI tx), .int (iI wd), .int (iI sy), .int (iI ty), .int (iI hi), .long wr, .int (iI fr), .ref gxs, .ref gys, .int (iI nc), .int (iI ogx), .int (iI ogy), .long (lI tu)])), (grw, .inl (cJ, 64, .inr (.inl rw)))] sz)) (va_Qv (fun (g : (Nat → Int64)) => ∀ j : Nat, j < 64 → g j = lI 0) (sr_B D classes (va_A [(hg0, .inr (0, [.ref grw, .int (iI sx), .int (iI tx), .int (iI wd), .int (iI sy), .int (iI ty), .int (iI hi), .long wr, .int (iI fr), .ref gxs, .ref gys, .int (iI nc), .int (iI ogx), .int (iI ogy), .long (lI tu)])), (grw, .inl (cJ, 64, .inr (.inl rw)))] sz) (fun (g : (Nat → Int64)) => [(hg0, .inr (0, [.ref grw, .int (iI sx), .int (iI tx), .int (iI wd), .int (iI st), .int (iI (max 1 sp)), .int (iI (max 1 (min 64 co))), .long wr, .int (iI 0), .ref gxs, .ref gys, .int (iI nc), .int (iI ogx), .int (iI ogy), .long (lI tu)])), (grw, .inl (cJ, 64, .inr (.inl g)))])) (va_A [(hg0, .inr (0, [.ref grw, .int (iI sx), .int (iI tx), .int (iI wd), .int (iI sy), .int (iI ty), .int (iI hi), .long wr, .int (iI fr), .ref gxs, .ref gys, .int (iI nc), .int (iI ogx), .int (iI ogy), .long (lI tu)])), (grw, .inl (cJ, 64, .inr (.inl rw)))] sz)) 0 0 (va_A [(hg0, .inr (0, [.ref grw, .int (iI sx), .int (iI tx), .int (iI wd), .int (iI sy), .int (iI ty), .int (iI hi), .long wr, .int (iI fr), .ref gxs, .ref gys, .int (iI nc), .int (iI ogx), .int (iI ogy), .long (lI tu)])), (grw, .inl (cJ, 64, .inr (.inl rw)))] sz) := by
  refine sr_enter (Qf := fun A => va_Qv (fun (g : (Nat → Int64)) => ∀ j : Nat, j < 64 → g j = lI 0) (sr_B D classes A (fun (g : (Nat → Int64)) => [(hg0, .inr (0, [.ref grw, .int (iI sx), .int (iI tx), .int (iI wd), .int (iI st), .int (iI (max 1 sp)), .int (iI (max 1 (min 64 co))), .long wr, .int (iI 0), .ref gxs, .ref gys, .int (iI nc), .int (iI ogx), .int (iI ogy), .long (lI tu)])), (grw, .inl (cJ, 64, .inr (.inl g)))])) A) (by decide +kernel) rfl (Nat.le_of_ble_eq_true rfl) ?_
  intro p e s m below meth c A ls hx hb hr hml hown hlocks hin hts hsz hP hK hD hN hA hS hl
  have ht : ∀ w ∈ allw, w.before _ s = true := fun w h => hts w (List.mem_cons_of_mem _ h)
  have hsub : ∀ w ∈ allw, w ∈ _ := fun w h => List.mem_cons_of_mem (Cond.code y_Grid_upwards b_Grid_upwards 4 none) h
  have hl : lv_has ls 4 [(0, .ref hg0), (1, .int (iI st)), (2, .int (iI sp)), (3, .int (iI co))] := hl
  have hP : va_P D classes [(hg0, .inr (0, [.ref grw, .int (iI sx), .int (iI tx), .int (iI wd), .int (iI sy), .int (iI ty), .int (iI hi), .long wr, .int (iI fr), .ref gxs, .ref gys, .int (iI nc), .int (iI ogx), .int (iI ogy), .long (lI tu)])), (grw, .inl (cJ, 64, .inr (.inl rw)))] s.heap := hP
  refine lv_aload_n hx hb d_Grid_upwards_0 rfl (lv_at hl 0 rfl) ?_
  refine lv_iload_n hx hb d_Grid_upwards_1 rfl (lv_at hl 1 rfl) ?_
  refine va_put (ty := .int) hx hb ht i_Grid t_Grid t_Grid_ok n_Grid hown hK hP hD hS 0 rfl rfl 4 (by decide) (ht _ k_f_Grid_54) (fun _ h9 => h9) rfl (t_Grid_ok 4 (by decide)) rfl rfl (Nat.le_of_ble_eq_true rfl) d_Grid_upwards_2 (fun H locs hP hD hS => ?_)
  have hP : va_P D classes [(hg0, .inr (0, [.ref grw, .int (iI sx), .int (iI tx), .int (iI wd), .int (iI st), .int (iI ty), .int (iI hi), .long wr, .int (iI fr), .ref gxs, .ref gys, .int (iI nc), .int (iI ogx), .int (iI ogy), .long (lI tu)])), (grw, .inl (cJ, 64, .inr (.inl rw)))] H := hP
  have hD : va_D A [(hg0, .inr (0, [.ref grw, .int (iI sx), .int (iI tx), .int (iI wd), .int (iI st), .int (iI ty), .int (iI hi), .long wr, .int (iI fr), .ref gxs, .ref gys, .int (iI nc), .int (iI ogx), .int (iI ogy), .long (lI tu)])), (grw, .inl (cJ, 64, .inr (.inl rw)))] := hD
  refine lv_aload_n hx hb d_Grid_upwards_5 rfl (lv_at hl 0 rfl) ?_
  refine sr_iconst hx hb d_Grid_upwards_6 ?_
  refine lv_iload_n hx hb d_Grid_upwards_7 rfl (lv_at hl 2 rfl) ?_
  refine sr_mmax hx hb (hml.trans hl.1.symm) hown (ht _ k_m_Grid_41) (ht _ k_st_max) (ht _ k_in_Math) (ht _ k_cd_max) (Nat.le_of_ble_eq_true rfl) (Nat.le_of_ble_eq_true rfl) (Nat.zero_le _) (Nat.zero_le _) (by unfold bI; decide) (by unfold bI; omega) d_Grid_upwards_8 ?_
  refine va_put (ty := .int) hx hb ht i_Grid t_Grid t_Grid_ok n_Grid hown hK hP hD hS 0 rfl rfl 5 (by decide) (ht _ k_f_Grid_22) (fun _ h9 => h9) rfl (t_Grid_ok 5 (by decide)) rfl rfl (Nat.le_of_ble_eq_true rfl) d_Grid_upwards_11 (fun H locs hP hD hS => ?_)
  have hP : va_P D classes [(hg0, .inr (0, [.ref grw, .int (iI sx), .int (iI tx), .int (iI wd), .int (iI st), .int (iI (max 1 sp)), .int (iI hi), .long wr, .int (iI fr), .ref gxs, .ref gys, .int (iI nc), .int (iI ogx), .int (iI ogy), .long (lI tu)])), (grw, .inl (cJ, 64, .inr (.inl rw)))] H := hP
  have hD : va_D A [(hg0, .inr (0, [.ref grw, .int (iI sx), .int (iI tx), .int (iI wd), .int (iI st), .int (iI (max 1 sp)), .int (iI hi), .long wr, .int (iI fr), .ref gxs, .ref gys, .int (iI nc), .int (iI ogx), .int (iI ogy), .long (lI tu)])), (grw, .inl (cJ, 64, .inr (.inl rw)))] := hD
  refine lv_aload_n hx hb d_Grid_upwards_14 rfl (lv_at hl 0 rfl) ?_
  refine sr_iconst hx hb d_Grid_upwards_15 ?_
  refine sr_bipush hx hb d_Grid_upwards_16 (by decide) ?_
  refine lv_iload_n hx hb d_Grid_upwards_18 rfl (lv_at hl 3 rfl) ?_
  refine sr_mmin hx hb (hml.trans hl.1.symm) hown (ht _ k_m_Grid_47) (ht _ k_st_min) (ht _ k_in_Math) (ht _ k_cd_min) (Nat.le_of_ble_eq_true rfl) (Nat.le_of_ble_eq_true rfl) (Nat.zero_le _) (Nat.zero_le _) (by unfold bI; decide) (by unfold bI; omega) d_Grid_upwards_19 ?_
  refine sr_mmax hx hb (hml.trans hl.1.symm) hown (ht _ k_m_Grid_41) (ht _ k_st_max) (ht _ k_in_Math) (ht _ k_cd_max) (Nat.le_of_ble_eq_true rfl) (Nat.le_of_ble_eq_true rfl) (Nat.zero_le _) (Nat.zero_le _) (by unfold bI; decide) (by unfold bI; omega) d_Grid_upwards_22 ?_
  refine va_put (ty := .int) hx hb ht i_Grid t_Grid t_Grid_ok n_Grid hown hK hP hD hS 0 rfl rfl 6 (by decide) (ht _ k_f_Grid_25) (fun _ h9 => h9) rfl (t_Grid_ok 6 (by decide)) rfl rfl (Nat.le_of_ble_eq_true rfl) d_Grid_upwards_25 (fun H locs hP hD hS => ?_)
  have hP : va_P D classes [(hg0, .inr (0, [.ref grw, .int (iI sx), .int (iI tx), .int (iI wd), .int (iI st), .int (iI (max 1 sp)), .int (iI (max 1 (min 64 co))), .long wr, .int (iI fr), .ref gxs, .ref gys, .int (iI nc), .int (iI ogx), .int (iI ogy), .long (lI tu)])), (grw, .inl (cJ, 64, .inr (.inl rw)))] H := hP
  have hD : va_D A [(hg0, .inr (0, [.ref grw, .int (iI sx), .int (iI tx), .int (iI wd), .int (iI st), .int (iI (max 1 sp)), .int (iI (max 1 (min 64 co))), .long wr, .int (iI fr), .ref gxs, .ref gys, .int (iI nc), .int (iI ogx), .int (iI ogy), .long (lI tu)])), (grw, .inl (cJ, 64, .inr (.inl rw)))] := hD
  refine lv_aload_n hx hb d_Grid_upwards_28 rfl (lv_at hl 0 rfl) ?_
  refine sr_iconst hx hb d_Grid_upwards_29 ?_
  refine va_put (ty := .int) hx hb ht i_Grid t_Grid t_Grid_ok n_Grid hown hK hP hD hS 0 rfl rfl 8 (by decide) (ht _ k_f_Grid_57) (fun _ h9 => h9) rfl (t_Grid_ok 8 (by decide)) rfl rfl (Nat.le_of_ble_eq_true rfl) d_Grid_upwards_30 (fun H locs hP hD hS => ?_)
  have hP : va_P D classes [(hg0, .inr (0, [.ref grw, .int (iI sx), .int (iI tx), .int (iI wd), .int (iI st), .int (iI (max 1 sp)), .int (iI (max 1 (min 64 co))), .long wr, .int (iI 0), .ref gxs, .ref gys, .int (iI nc), .int (iI ogx), .int (iI ogy), .long (lI tu)])), (grw, .inl (cJ, 64, .inr (.inl rw)))] H := hP
  have hD : va_D A [(hg0, .inr (0, [.ref grw, .int (iI sx), .int (iI tx), .int (iI wd), .int (iI st), .int (iI (max 1 sp)), .int (iI (max 1 (min 64 co))), .long wr, .int (iI 0), .ref gxs, .ref gys, .int (iI nc), .int (iI ogx), .int (iI ogy), .long (lI tu)])), (grw, .inl (cJ, 64, .inr (.inl rw)))] := hD
  refine lv_aload_n hx hb d_Grid_upwards_33 rfl (lv_at hl 0 rfl) ?_
  refine va_get hx hb ht i_Grid hown hK hP 0 rfl rfl 0 (by decide) (ht _ k_f_Grid_9) (fun _ h9 => h9) rfl d_Grid_upwards_34 ?_
  refine sr_lconst0 hx hb d_Grid_upwards_37 ?_
  refine sr_cS_v (wr := [(hg0, .inr (0, [.ref grw, .int (iI sx), .int (iI tx), .int (iI wd), .int (iI st), .int (iI (max 1 sp)), .int (iI (max 1 (min 64 co))), .long wr, .int (iI 0), .ref gxs, .ref gys, .int (iI nc), .int (iI ogx), .int (iI ogy), .long (lI tu)]))]) (As := [.ref grw, .long (lI 0)]) (rest := []) hx hb hml hown hts (c_Arr_fill_AJJV l D cI cJ cZ _ grw 64 rw (lI 0) (by omega)) (sr_cwS hsub hts k_cd_Arr_fill_AJJV k_in_Arr k_m_Grid_60 k_st_Arr_fill_AJJV g_Arr_fill_AJJV ⟨Nat.le_of_ble_eq_true rfl, Nat.le_of_ble_eq_true rfl⟩) hns_ok hK hN hP hD hS hA [1] [0] rfl (by decide) rfl (by decide) (by decide) rfl hl.1 rfl (Nat.le_of_ble_eq_true rfl) d_Grid_upwards_38 ⟨Nat.le_of_ble_eq_true rfl, Nat.le_of_ble_eq_true rfl⟩ (fun u H locs hw_38 hP hD hS => ?_)
  obtain ⟨g_38, rfl⟩ : ∃ z, z = u := ⟨_, rfl⟩
  have hP : va_P D classes [(hg0, .inr (0, [.ref grw, .int (iI sx), .int (iI tx), .int (iI wd), .int (iI st), .int (iI (max 1 sp)), .int (iI (max 1 (min 64 co))), .long wr, .int (iI 0), .ref gxs, .ref gys, .int (iI nc), .int (iI ogx), .int (iI ogy), .long (lI tu)])), (grw, .inl (cJ, 64, .inr (.inl g_38)))] H := hP
  have hD : va_D A [(hg0, .inr (0, [.ref grw, .int (iI sx), .int (iI tx), .int (iI wd), .int (iI st), .int (iI (max 1 sp)), .int (iI (max 1 (min 64 co))), .long wr, .int (iI 0), .ref gxs, .ref gys, .int (iI nc), .int (iI ogx), .int (iI ogy), .long (lI tu)])), (grw, .inl (cJ, 64, .inr (.inl g_38)))] := hD
  try dsimp only at hw_38
  exact sr_vret (g_38) hx hb hr hlocks hP hD hS d_Grid_upwards_41 (hw_38)

set_option maxHeartbeats 4000000 in
set_option maxRecDepth 100000 in
theorem c_Grid_bits (l : Launch) (D : va_G) (cI cJ cZ : ClassId) (sz : Nat) (hg0 : Nat) (grw : Nat) (sx : Int) (tx : Int) (wd : Int) (sy : Int) (ty : Int) (hi : Int) (wr : Int64) (fr : Int) (gxs : Nat) (gys : Nat) (nc : Int) (ogx : Int) (ogy : Int) (tu : Int) (rw : Nat → Int64) (j : Int) (h0 : -2147483648 ≤ j ∧ j ≤ 2147483647) (h1 : hi ≤ 64) (h2 : 1 ≤ hi) : Met l y_Grid_bits (.code y_Grid_bits b_Grid_bits 2 (some .long) :: allw) ({ frames := 0, cells := 0, slots := 0, locals := 0 } : Room) (va_Pc [.ref hg0, .int (iI j)] (sr_U D classes [(cI, .int), (cJ, .long), (cZ, .boolean)] nestw [(hg0, .inr (0, [.ref grw, .int (iI sx), .int (iI tx), .int (iI wd), .int (iI sy), .int (iI ty), .int (iI hi), .long wr, .int (iI fr), .ref gxs, .ref gys, .int (iI nc), .int (iI ogx), .int (iI ogy), .long (lI tu)])), (grw, .inl (cJ, 64, .inr (.inl rw)))] sz)) (va_Ql (fun (r : Int64) => fun (_ : Unit) => r = if 0 ≤ j ∧ j < hi then rw j.toNat else lI 0) (sr_B D classes (va_A [(hg0, .inr (0, [.ref grw, .int (iI sx), .int (iI tx), .int (iI wd), .int (iI sy), .int (iI ty), .int (iI hi), .long wr, .int (iI fr), .ref gxs, .ref gys, .int (iI nc), .int (iI ogx), .int (iI ogy), .long (lI tu)])), (grw, .inl (cJ, 64, .inr (.inl rw)))] sz) (fun (_ : Unit) => [(hg0, .inr (0, [.ref grw, .int (iI sx), .int (iI tx), .int (iI wd), .int (iI sy), .int (iI ty), .int (iI hi), .long wr, .int (iI fr), .ref gxs, .ref gys, .int (iI nc), .int (iI ogx), .int (iI ogy), .long (lI tu)])), (grw, .inl (cJ, 64, .inr (.inl rw)))])) (va_A [(hg0, .inr (0, [.ref grw, .int (iI sx), .int (iI tx), .int (iI wd), .int (iI sy), .int (iI ty), .int (iI hi), .long wr, .int (iI fr), .ref gxs, .ref gys, .int (iI nc), .int (iI ogx), .int (iI ogy), .long (lI tu)])), (grw, .inl (cJ, 64, .inr (.inl rw)))] sz)) 0 0 (va_A [(hg0, .inr (0, [.ref grw, .int (iI sx), .int (iI tx), .int (iI wd), .int (iI sy), .int (iI ty), .int (iI hi), .long wr, .int (iI fr), .ref gxs, .ref gys, .int (iI nc), .int (iI ogx), .int (iI ogy), .long (lI tu)])), (grw, .inl (cJ, 64, .inr (.inl rw)))] sz) := by
  refine sr_enter (Qf := fun A => va_Ql (fun (r : Int64) => fun (_ : Unit) => r = if 0 ≤ j ∧ j < hi then rw j.toNat else lI 0) (sr_B D classes A (fun (_ : Unit) => [(hg0, .inr (0, [.ref grw, .int (iI sx), .int (iI tx), .int (iI wd), .int (iI sy), .int (iI ty), .int (iI hi), .long wr, .int (iI fr), .ref gxs, .ref gys, .int (iI nc), .int (iI ogx), .int (iI ogy), .long (lI tu)])), (grw, .inl (cJ, 64, .inr (.inl rw)))])) A) (by decide +kernel) rfl (Nat.le_of_ble_eq_true rfl) ?_
  intro p e s m below meth c A ls hx hb hr hml hown hlocks hin hts hsz hP hK hD hN hA hS hl
  have ht : ∀ w ∈ allw, w.before _ s = true := fun w h => hts w (List.mem_cons_of_mem _ h)
  have hsub : ∀ w ∈ allw, w ∈ _ := fun w h => List.mem_cons_of_mem (Cond.code y_Grid_bits b_Grid_bits 2 (some .long)) h
  have hl : lv_has ls 2 [(0, .ref hg0), (1, .int (iI j))] := hl
  have hP : va_P D classes [(hg0, .inr (0, [.ref grw, .int (iI sx), .int (iI tx), .int (iI wd), .int (iI sy), .int (iI ty), .int (iI hi), .long wr, .int (iI fr), .ref gxs, .ref gys, .int (iI nc), .int (iI ogx), .int (iI ogy), .long (lI tu)])), (grw, .inl (cJ, 64, .inr (.inl rw)))] s.heap := hP
  refine lv_iload_n hx hb d_Grid_bits_0 rfl (lv_at hl 1 rfl) ?_
  refine sr_if_lt (tgt := 21) hx hb d_Grid_bits_1 (by decide) (by unfold bI; omega) (fun c_1 => ?_) (fun c_1 => ?_)
  · -- T
    refine sr_lconst0 hx hb d_Grid_bits_21 ?_
    exact sr_lret () hx hb hr hlocks hP hD hS d_Grid_bits_22 (by rw [if_neg (by omega)])
  · -- F
    refine lv_iload_n hx hb d_Grid_bits_4 rfl (lv_at hl 1 rfl) ?_
    refine lv_aload_n hx hb d_Grid_bits_5 rfl (lv_at hl 0 rfl) ?_
    refine va_get hx hb ht i_Grid hown hK hP 0 rfl rfl 6 (by decide) (ht _ k_f_Grid_25) (fun _ h9 => h9) rfl d_Grid_bits_6 ?_
    refine sr_icmp_ge (tgt := 21) hx hb d_Grid_bits_9 (by decide) (by unfold bI; omega) (by unfold bI; omega) (fun c_9 => ?_) (fun c_9 => ?_)
    · -- T
      refine sr_lconst0 hx hb d_Grid_bits_21 ?_
      exact sr_lret () hx hb hr hlocks hP hD hS d_Grid_bits_22 (by rw [if_neg (by omega)])
    · -- F
      refine lv_aload_n hx hb d_Grid_bits_12 rfl (lv_at hl 0 rfl) ?_
      refine va_get hx hb ht i_Grid hown hK hP 0 rfl rfl 0 (by decide) (ht _ k_f_Grid_9) (fun _ h9 => h9) rfl d_Grid_bits_13 ?_
      refine lv_iload_n hx hb d_Grid_bits_16 rfl (lv_at hl 1 rfl) ?_
      refine sr_lald hx hb hK hP 1 1 rfl rfl (by omega) (by omega) (by decide) d_Grid_bits_17 ?_
      refine lv_goto (tgt := 22) hx hb d_Grid_bits_18 (by decide) ?_
      exact sr_lret () hx hb hr hlocks hP hD hS d_Grid_bits_22 (by rw [if_pos (by omega)])

set_option maxHeartbeats 4000000 in
set_option maxRecDepth 100000 in
theorem c_Grid_isFilled (l : Launch) (D : va_G) (cI cJ cZ : ClassId) (sz : Nat) (hg0 : Nat) (grw : Nat) (sx : Int) (tx : Int) (wd : Int) (sy : Int) (ty : Int) (hi : Int) (wr : Int64) (fr : Int) (gxs : Nat) (gys : Nat) (nc : Int) (ogx : Int) (ogy : Int) (tu : Int) (rw : Nat → Int64) (h0 : 0 ≤ fr) (h1 : fr ≤ hi) (hh : hi ≤ 64) (h2 : ∀ j : Nat, (j : Int) < fr → rw j = wr) : Met l y_Grid_isFilled (.code y_Grid_isFilled b_Grid_isFilled 2 (some .boolean) :: allw) ({ frames := 0, cells := 0, slots := 0, locals := 0 } : Room) (va_Pc [.ref hg0] (sr_U D classes [(cI, .int), (cJ, .long), (cZ, .boolean)] nestw [(hg0, .inr (0, [.ref grw, .int (iI sx), .int (iI tx), .int (iI wd), .int (iI sy), .int (iI ty), .int (iI hi), .long wr, .int (iI fr), .ref gxs, .ref gys, .int (iI nc), .int (iI ogx), .int (iI ogy), .long (lI tu)])), (grw, .inl (cJ, 64, .inr (.inl rw)))] sz)) (va_Qi (fun (r : Int32) => fun (fr2 : Int) => 0 ≤ fr2 ∧ fr2 ≤ hi ∧ (∀ j : Nat, (j : Int) < fr2 → rw j = wr) ∧ ∃ z : Int, r = iI z ∧ (z = 1 ∧ (fr2 = hi) ∨ z = 0 ∧ ¬ (fr2 = hi))) (sr_B D classes (va_A [(hg0, .inr (0, [.ref grw, .int (iI sx), .int (iI tx), .int (iI wd), .int (iI sy), .int (iI ty), .int (iI hi), .long wr, .int (iI fr), .ref gxs, .ref gys, .int (iI nc), .int (iI ogx), .int (iI ogy), .long (lI tu)])), (grw, .inl (cJ, 64, .inr (.inl rw)))] sz) (fun (fr2 : Int) => [(hg0, .inr (0, [.ref grw, .int (iI sx), .int (iI tx), .int (iI wd), .int (iI sy), .int (iI ty), .int (iI hi), .long wr, .int (iI fr2), .ref gxs, .ref gys, .int (iI nc), .int (iI ogx), .int (iI ogy), .long (lI tu)])), (grw, .inl (cJ, 64, .inr (.inl rw)))])) (va_A [(hg0, .inr (0, [.ref grw, .int (iI sx), .int (iI tx), .int (iI wd), .int (iI sy), .int (iI ty), .int (iI hi), .long wr, .int (iI fr), .ref gxs, .ref gys, .int (iI nc), .int (iI ogx), .int (iI ogy), .long (lI tu)])), (grw, .inl (cJ, 64, .inr (.inl rw)))] sz)) 0 0 (va_A [(hg0, .inr (0, [.ref grw, .int (iI sx), .int (iI tx), .int (iI wd), .int (iI sy), .int (iI ty), .int (iI hi), .long wr, .int (iI fr), .ref gxs, .ref gys, .int (iI nc), .int (iI ogx), .int (iI ogy), .long (lI tu)])), (grw, .inl (cJ, 64, .inr (.inl rw)))] sz) := by
  refine sr_enter (Qf := fun A => va_Qi (fun (r : Int32) => fun (fr2 : Int) => 0 ≤ fr2 ∧ fr2 ≤ hi ∧ (∀ j : Nat, (j : Int) < fr2 → rw j = wr) ∧ ∃ z : Int, r = iI z ∧ (z = 1 ∧ (fr2 = hi) ∨ z = 0 ∧ ¬ (fr2 = hi))) (sr_B D classes A (fun (fr2 : Int) => [(hg0, .inr (0, [.ref grw, .int (iI sx), .int (iI tx), .int (iI wd), .int (iI sy), .int (iI ty), .int (iI hi), .long wr, .int (iI fr2), .ref gxs, .ref gys, .int (iI nc), .int (iI ogx), .int (iI ogy), .long (lI tu)])), (grw, .inl (cJ, 64, .inr (.inl rw)))])) A) (by decide +kernel) rfl (Nat.le_of_ble_eq_true rfl) ?_
  intro p e s m below meth c A ls hx hb hr hml hown hlocks hin hts hsz hP hK hD hN hA hS hl
  have ht : ∀ w ∈ allw, w.before _ s = true := fun w h => hts w (List.mem_cons_of_mem _ h)
  have hsub : ∀ w ∈ allw, w ∈ _ := fun w h => List.mem_cons_of_mem (Cond.code y_Grid_isFilled b_Grid_isFilled 2 (some .boolean)) h
  have hl : lv_has ls 2 [(0, .ref hg0)] := hl
  have hP : va_P D classes [(hg0, .inr (0, [.ref grw, .int (iI sx), .int (iI tx), .int (iI wd), .int (iI sy), .int (iI ty), .int (iI hi), .long wr, .int (iI fr), .ref gxs, .ref gys, .int (iI nc), .int (iI ogx), .int (iI ogy), .long (lI tu)])), (grw, .inl (cJ, 64, .inr (.inl rw)))] s.heap := hP
  refine lv_aload_n hx hb d_Grid_isFilled_0 rfl (lv_at hl 0 rfl) ?_
  refine va_get hx hb ht i_Grid hown hK hP 0 rfl rfl 8 (by decide) (ht _ k_f_Grid_57) (fun _ h9 => h9) rfl d_Grid_isFilled_1 ?_
  refine lv_istore_n (lv' := [(1, .int (iI fr)), (0, .ref hg0)]) hx hb d_Grid_isFilled_4 rfl hl (by decide) rfl (fun ls hl => ?_)
  have lp_5 : ∀ (n_ : Nat) (i : Int) (fr : Int), (hi - i).toNat < n_ → (0 ≤ i) → (i ≤ hi) → (fr = i) → (∀ j : Nat, (j : Int) < i → rw j = wr) → ∀ (H : Heap) (locs : List Loc) (ls : Array Slot), va_P D classes [(hg0, .inr (0, [.ref grw, .int (iI sx), .int (iI tx), .int (iI wd), .int (iI sy), .int (iI ty), .int (iI hi), .long wr, .int (iI fr), .ref gxs, .ref gys, .int (iI nc), .int (iI ogx), .int (iI ogy), .long (lI tu)])), (grw, .inl (cJ, 64, .inr (.inl rw)))] H → va_D A [(hg0, .inr (0, [.ref grw, .int (iI sx), .int (iI tx), .int (iI wd), .int (iI sy), .int (iI ty), .int (iI hi), .long wr, .int (iI fr), .ref gxs, .ref gys, .int (iI nc), .int (iI ogx), .int (iI ogy), .long (lI tu)])), (grw, .inl (cJ, 64, .inr (.inl rw)))] → va_S A s.heap H locs → lv_has ls 2 [(0, .ref hg0), (1, .int (iI i))] → W p l e ({ frames := 0, cells := 0, slots := 0, locals := 0 } : Room) s m [.ref hg0].toArray below meth c H locs 0 0 (MQ below (va_Qi (fun (r : Int32) => fun (fr2 : Int) => 0 ≤ fr2 ∧ fr2 ≤ hi ∧ (∀ j : Nat, (j : Int) < fr2 → rw j = wr) ∧ ∃ z : Int, r = iI z ∧ (z = 1 ∧ (fr2 = hi) ∨ z = 0 ∧ ¬ (fr2 = hi))) (sr_B D classes A (fun (fr2 : Int) => [(hg0, .inr (0, [.ref grw, .int (iI sx), .int (iI tx), .int (iI wd), .int (iI sy), .int (iI ty), .int (iI hi), .long wr, .int (iI fr2), .ref gxs, .ref gys, .int (iI nc), .int (iI ogx), .int (iI ogy), .long (lI tu)])), (grw, .inl (cJ, 64, .inr (.inl rw)))])) A) [.ref hg0].toArray s 0 0 A) (F0 m 5 ls []) := by
    intro n_
    induction n_ with
    | zero => intro i fr hm_; exact absurd hm_ (Nat.not_lt_zero _)
    | succ n_ ih_5 =>
      intro i fr hm_ hi0 hi1 hfr hrows H locs ls hP hD hS hl
      refine lv_iload_n hx hb d_Grid_isFilled_5 rfl (lv_at hl 1 rfl) ?_
      refine lv_aload_n hx hb d_Grid_isFilled_6 rfl (lv_at hl 0 rfl) ?_
      refine va_get hx hb ht i_Grid hown hK hP 0 rfl rfl 6 (by decide) (ht _ k_f_Grid_25) (fun _ h9 => h9) rfl d_Grid_isFilled_7 ?_
      refine sr_icmp_ge (tgt := 40) hx hb d_Grid_isFilled_10 (by decide) (by unfold bI; omega) (by unfold bI; omega) (fun c_10 => ?_) (fun c_10 => ?_)
      · -- T
        refine lv_aload_n hx hb d_Grid_isFilled_40 rfl (lv_at hl 0 rfl) ?_
        refine va_get hx hb ht i_Grid hown hK hP 0 rfl rfl 8 (by decide) (ht _ k_f_Grid_57) (fun _ h9 => h9) rfl d_Grid_isFilled_41 ?_
        refine lv_aload_n hx hb d_Grid_isFilled_44 rfl (lv_at hl 0 rfl) ?_
        refine va_get hx hb ht i_Grid hown hK hP 0 rfl rfl 6 (by decide) (ht _ k_f_Grid_25) (fun _ h9 => h9) rfl d_Grid_isFilled_45 ?_
        refine sr_icmp_lt (tgt := 55) hx hb d_Grid_isFilled_48 (by decide) (by unfold bI; omega) (by unfold bI; omega) (fun c_48 => ?_) (fun c_48 => ?_)
        · -- T
          refine sr_iconst hx hb d_Grid_isFilled_55 ?_
          exact sr_zret fr hx hb hr hlocks (by decide) hP hD hS d_Grid_isFilled_56 (⟨by omega, by omega, fun j hj => hrows j (by omega), 0, rfl, Or.inr ⟨rfl, by omega⟩⟩)
        · -- F
          refine sr_iconst hx hb d_Grid_isFilled_51 ?_
          refine lv_goto (tgt := 56) hx hb d_Grid_isFilled_52 (by decide) ?_
          exact sr_zret fr hx hb hr hlocks (by decide) hP hD hS d_Grid_isFilled_56 (⟨by omega, by omega, fun j hj => hrows j (by omega), 1, rfl, Or.inl ⟨rfl, by omega⟩⟩)
      · -- F
        refine lv_aload_n hx hb d_Grid_isFilled_13 rfl (lv_at hl 0 rfl) ?_
        refine va_get hx hb ht i_Grid hown hK hP 0 rfl rfl 0 (by decide) (ht _ k_f_Grid_9) (fun _ h9 => h9) rfl d_Grid_isFilled_14 ?_
        refine lv_iload_n hx hb d_Grid_isFilled_17 rfl (lv_at hl 1 rfl) ?_
        refine sr_lald hx hb hK hP 1 1 rfl rfl (by omega) (by omega) (by decide) d_Grid_isFilled_18 ?_
        refine lv_aload_n hx hb d_Grid_isFilled_19 rfl (lv_at hl 0 rfl) ?_
        refine va_get hx hb ht i_Grid hown hK hP 0 rfl rfl 7 (by decide) (ht _ k_f_Grid_28) (fun _ h9 => h9) rfl d_Grid_isFilled_20 ?_
        refine sr_lcmpr_ne (tgt := 40) hx hb d_Grid_isFilled_23 d_Grid_isFilled_24 (by decide) (fun c_23 => ?_) (fun c_23 => ?_)
        · -- T
          refine lv_aload_n hx hb d_Grid_isFilled_40 rfl (lv_at hl 0 rfl) ?_
          refine va_get hx hb ht i_Grid hown hK hP 0 rfl rfl 8 (by decide) (ht _ k_f_Grid_57) (fun _ h9 => h9) rfl d_Grid_isFilled_41 ?_
          refine lv_aload_n hx hb d_Grid_isFilled_44 rfl (lv_at hl 0 rfl) ?_
          refine va_get hx hb ht i_Grid hown hK hP 0 rfl rfl 6 (by decide) (ht _ k_f_Grid_25) (fun _ h9 => h9) rfl d_Grid_isFilled_45 ?_
          refine sr_icmp_lt (tgt := 55) hx hb d_Grid_isFilled_48 (by decide) (by unfold bI; omega) (by unfold bI; omega) (fun c_48 => ?_) (fun c_48 => ?_)
          · -- T
            refine sr_iconst hx hb d_Grid_isFilled_55 ?_
            exact sr_zret fr hx hb hr hlocks (by decide) hP hD hS d_Grid_isFilled_56 (⟨by omega, by omega, fun j hj => hrows j (by omega), 0, rfl, Or.inr ⟨rfl, by omega⟩⟩)
          · -- F
            refine sr_iconst hx hb d_Grid_isFilled_51 ?_
            refine lv_goto (tgt := 56) hx hb d_Grid_isFilled_52 (by decide) ?_
            exact sr_zret fr hx hb hr hlocks (by decide) hP hD hS d_Grid_isFilled_56 (⟨by omega, by omega, fun j hj => hrows j (by omega), 1, rfl, Or.inl ⟨rfl, by omega⟩⟩)
        · -- F
          refine lv_aload_n hx hb d_Grid_isFilled_27 rfl (lv_at hl 0 rfl) ?_
          refine lv_iload_n hx hb d_Grid_isFilled_28 rfl (lv_at hl 1 rfl) ?_
          refine sr_iconst hx hb d_Grid_isFilled_29 ?_
          refine sr_iadd hx hb d_Grid_isFilled_30 ?_
          refine va_put (ty := .int) hx hb ht i_Grid t_Grid t_Grid_ok n_Grid hown hK hP hD hS 0 rfl rfl 8 (by decide) (ht _ k_f_Grid_57) (fun _ h9 => h9) rfl (t_Grid_ok 8 (by decide)) rfl rfl (Nat.le_of_ble_eq_true rfl) d_Grid_isFilled_31 (fun H locs hP hD hS => ?_)
          have hP : va_P D classes [(hg0, .inr (0, [.ref grw, .int (iI sx), .int (iI tx), .int (iI wd), .int (iI sy), .int (iI ty), .int (iI hi), .long wr, .int (iI (i + 1)), .ref gxs, .ref gys, .int (iI nc), .int (iI ogx), .int (iI ogy), .long (lI tu)])), (grw, .inl (cJ, 64, .inr (.inl rw)))] H := hP
          have hD : va_D A [(hg0, .inr (0, [.ref grw, .int (iI sx), .int (iI tx), .int (iI wd), .int (iI sy), .int (iI ty), .int (iI hi), .long wr, .int (iI (i + 1)), .ref gxs, .ref gys, .int (iI nc), .int (iI ogx), .int (iI ogy), .long (lI tu)])), (grw, .inl (cJ, 64, .inr (.inl rw)))] := hD
          refine lv_iinc (v := iI (i + 1)) (lv' := [(1, .int (iI (i + 1))), (0, .ref hg0)]) hx hb d_Grid_isFilled_34 hl (k := 1) rfl (iI_add _ _) (by decide) rfl (fun ls hl => ?_)
          refine lv_goto (tgt := 5) hx hb d_Grid_isFilled_37 (by decide) ?_
          exact ih_5 (i + 1) (i + 1) (by omega) (by omega) (by omega) (by omega) (fun j hj => if e9 : (j : Int) = i then (by rw [← c_23]; congr 1; omega) else hrows j (by omega)) _ _ _ hP hD hS (lv_sub hl [1, 0] rfl)
  exact lp_5 _ fr fr (Nat.lt_succ_self _) (by omega) (by omega) (by omega) (h2) _ _ _ hP hD hS (lv_sub hl [1, 0] rfl)

set_option maxHeartbeats 4000000 in
set_option maxRecDepth 100000 in
theorem c_Grid_meets (l : Launch) (D : va_G) (cI cJ cZ : ClassId) (sz : Nat) (hg0 : Nat) (grw : Nat) (sx : Int) (tx : Int) (wd : Int) (sy : Int) (ty : Int) (hi : Int) (wr : Int64) (fr : Int) (gxs : Nat) (gys : Nat) (nc : Int) (ogx : Int) (ogy : Int) (tu : Int) (a : Int) (b : Int) (c0 : Int) (d : Int) (hgx : grP sx tx wd) (hgy : grP sy ty hi) (ha : bL a) (hb1 : bL b) (hc0 : bL c0) (hd1 : bL d) : Met l y_Grid_meets (.code y_Grid_meets b_Grid_meets 9 (some .boolean) :: allw) ({ frames := 0, cells := 0, slots := 0, locals := 0 } : Room) (va_Pc [.ref hg0, .long (lI a), .long (lI b), .long (lI c0), .long (lI d)] (sr_U D classes [(cI, .int), (cJ, .long), (cZ, .boolean)] nestw [(hg0, .inr (0, [.ref grw, .int (iI sx), .int (iI tx), .int (iI wd), .int (iI sy), .int (iI ty), .int (iI hi), .long wr, .int (iI fr), .ref gxs, .ref gys, .int (iI nc), .int (iI ogx), .int (iI ogy), .long (lI tu)]))] sz)) (va_Qi (fun (r : Int32) => fun (_ : Unit) => ∃ z : Int, r = iI z ∧ (z = 1 ∧ (sx ≤ b ∧ a ≤ sx + (wd - 1) * tx ∧ sy ≤ d ∧ c0 ≤ sy + (hi - 1) * ty) ∨ z = 0 ∧ ¬ (sx ≤ b ∧ a ≤ sx + (wd - 1) * tx ∧ sy ≤ d ∧ c0 ≤ sy + (hi - 1) * ty))) (sr_B D classes (va_A [(hg0, .inr (0, [.ref grw, .int (iI sx), .int (iI tx), .int (iI wd), .int (iI sy), .int (iI ty), .int (iI hi), .long wr, .int (iI fr), .ref gxs, .ref gys, .int (iI nc), .int (iI ogx), .int (iI ogy), .long (lI tu)]))] sz) (fun (_ : Unit) => [(hg0, .inr (0, [.ref grw, .int (iI sx), .int (iI tx), .int (iI wd), .int (iI sy), .int (iI ty), .int (iI hi), .long wr, .int (iI fr), .ref gxs, .ref gys, .int (iI nc), .int (iI ogx), .int (iI ogy), .long (lI tu)]))])) (va_A [(hg0, .inr (0, [.ref grw, .int (iI sx), .int (iI tx), .int (iI wd), .int (iI sy), .int (iI ty), .int (iI hi), .long wr, .int (iI fr), .ref gxs, .ref gys, .int (iI nc), .int (iI ogx), .int (iI ogy), .long (lI tu)]))] sz)) 0 0 (va_A [(hg0, .inr (0, [.ref grw, .int (iI sx), .int (iI tx), .int (iI wd), .int (iI sy), .int (iI ty), .int (iI hi), .long wr, .int (iI fr), .ref gxs, .ref gys, .int (iI nc), .int (iI ogx), .int (iI ogy), .long (lI tu)]))] sz) := by
  refine sr_enter (Qf := fun A => va_Qi (fun (r : Int32) => fun (_ : Unit) => ∃ z : Int, r = iI z ∧ (z = 1 ∧ (sx ≤ b ∧ a ≤ sx + (wd - 1) * tx ∧ sy ≤ d ∧ c0 ≤ sy + (hi - 1) * ty) ∨ z = 0 ∧ ¬ (sx ≤ b ∧ a ≤ sx + (wd - 1) * tx ∧ sy ≤ d ∧ c0 ≤ sy + (hi - 1) * ty))) (sr_B D classes A (fun (_ : Unit) => [(hg0, .inr (0, [.ref grw, .int (iI sx), .int (iI tx), .int (iI wd), .int (iI sy), .int (iI ty), .int (iI hi), .long wr, .int (iI fr), .ref gxs, .ref gys, .int (iI nc), .int (iI ogx), .int (iI ogy), .long (lI tu)]))])) A) (by decide +kernel) rfl (Nat.le_of_ble_eq_true rfl) ?_
  intro p e s m below meth c A ls hx hb hr hml hown hlocks hin hts hsz hP hK hD hN hA hS hl
  have ht : ∀ w ∈ allw, w.before _ s = true := fun w h => hts w (List.mem_cons_of_mem _ h)
  have hsub : ∀ w ∈ allw, w ∈ _ := fun w h => List.mem_cons_of_mem (Cond.code y_Grid_meets b_Grid_meets 9 (some .boolean)) h
  have hl : lv_has ls 9 [(0, .ref hg0), (1, .long (lI a)), (3, .long (lI b)), (5, .long (lI c0)), (7, .long (lI d))] := hl
  have hP : va_P D classes [(hg0, .inr (0, [.ref grw, .int (iI sx), .int (iI tx), .int (iI wd), .int (iI sy), .int (iI ty), .int (iI hi), .long wr, .int (iI fr), .ref gxs, .ref gys, .int (iI nc), .int (iI ogx), .int (iI ogy), .long (lI tu)]))] s.heap := hP
  have hgx2 := hgx
  unfold grP at hgx2
  have hgy2 := hgy
  unfold grP at hgy2
  have hm1 := gr_mul (a := wd - 1) (b := tx) (by omega) (by omega) (by omega) (by omega)
  have hm2 := gr_mul (a := hi - 1) (b := ty) (by omega) (by omega) (by omega) (by omega)
  refine lv_lload_n hx hb d_Grid_meets_0 rfl (lv_at hl 2 rfl) ?_
  refine lv_aload_n hx hb d_Grid_meets_1 rfl (lv_at hl 0 rfl) ?_
  refine va_get hx hb ht i_Grid hown hK hP 0 rfl rfl 1 (by decide) (ht _ k_f_Grid_38) (fun _ h9 => h9) rfl d_Grid_meets_2 ?_
  refine sr_i2l hx hb d_Grid_meets_5 (by unfold bI; omega) ?_
  refine sr_lcmp_lt (tgt := 70) hx hb d_Grid_meets_6 d_Grid_meets_7 (by decide) hb1 (by unfold bL; omega) (fun c_6 => ?_) (fun c_6 => ?_)
  · -- T
    refine sr_iconst hx hb d_Grid_meets_70 ?_
    exact sr_zret () hx hb hr hlocks (by decide) hP hD hS d_Grid_meets_71 (⟨0, rfl, Or.inr ⟨rfl, by omega⟩⟩)
  · -- F
    refine lv_lload_n hx hb d_Grid_meets_10 rfl (lv_at hl 1 rfl) ?_
    refine lv_aload_n hx hb d_Grid_meets_11 rfl (lv_at hl 0 rfl) ?_
    refine va_get hx hb ht i_Grid hown hK hP 0 rfl rfl 1 (by decide) (ht _ k_f_Grid_38) (fun _ h9 => h9) rfl d_Grid_meets_12 ?_
    refine lv_aload_n hx hb d_Grid_meets_15 rfl (lv_at hl 0 rfl) ?_
    refine va_get hx hb ht i_Grid hown hK hP 0 rfl rfl 3 (by decide) (ht _ k_f_Grid_19) (fun _ h9 => h9) rfl d_Grid_meets_16 ?_
    refine sr_iconst hx hb d_Grid_meets_19 ?_
    refine sr_isub hx hb d_Grid_meets_20 ?_
    refine lv_aload_n hx hb d_Grid_meets_21 rfl (lv_at hl 0 rfl) ?_
    refine va_get hx hb ht i_Grid hown hK hP 0 rfl rfl 2 (by decide) (ht _ k_f_Grid_15) (fun _ h9 => h9) rfl d_Grid_meets_22 ?_
    refine sr_imul hx hb d_Grid_meets_25 ?_
    refine sr_iadd hx hb d_Grid_meets_26 ?_
    refine sr_i2l hx hb d_Grid_meets_27 (by unfold bI; omega) ?_
    refine sr_lcmp_gt (tgt := 70) hx hb d_Grid_meets_28 d_Grid_meets_29 (by decide) ha (by unfold bL; omega) (fun c_28 => ?_) (fun c_28 => ?_)
    · -- T
      refine sr_iconst hx hb d_Grid_meets_70 ?_
      exact sr_zret () hx hb hr hlocks (by decide) hP hD hS d_Grid_meets_71 (⟨0, rfl, Or.inr ⟨rfl, by omega⟩⟩)
    · -- F
      refine lv_lload hx hb d_Grid_meets_32 (lv_at hl 4 rfl) ?_
      refine lv_aload_n hx hb d_Grid_meets_34 rfl (lv_at hl 0 rfl) ?_
      refine va_get hx hb ht i_Grid hown hK hP 0 rfl rfl 4 (by decide) (ht _ k_f_Grid_54) (fun _ h9 => h9) rfl d_Grid_meets_35 ?_
      refine sr_i2l hx hb d_Grid_meets_38 (by unfold bI; omega) ?_
      refine sr_lcmp_lt (tgt := 70) hx hb d_Grid_meets_39 d_Grid_meets_40 (by decide) hd1 (by unfold bL; omega) (fun c_39 => ?_) (fun c_39 => ?_)
      · -- T
        refine sr_iconst hx hb d_Grid_meets_70 ?_
        exact sr_zret () hx hb hr hlocks (by decide) hP hD hS d_Grid_meets_71 (⟨0, rfl, Or.inr ⟨rfl, by omega⟩⟩)
      · -- F
        refine lv_lload hx hb d_Grid_meets_43 (lv_at hl 3 rfl) ?_
        refine lv_aload_n hx hb d_Grid_meets_45 rfl (lv_at hl 0 rfl) ?_
        refine va_get hx hb ht i_Grid hown hK hP 0 rfl rfl 4 (by decide) (ht _ k_f_Grid_54) (fun _ h9 => h9) rfl d_Grid_meets_46 ?_
        refine lv_aload_n hx hb d_Grid_meets_49 rfl (lv_at hl 0 rfl) ?_
        refine va_get hx hb ht i_Grid hown hK hP 0 rfl rfl 6 (by decide) (ht _ k_f_Grid_25) (fun _ h9 => h9) rfl d_Grid_meets_50 ?_
        refine sr_iconst hx hb d_Grid_meets_53 ?_
        refine sr_isub hx hb d_Grid_meets_54 ?_
        refine lv_aload_n hx hb d_Grid_meets_55 rfl (lv_at hl 0 rfl) ?_
        refine va_get hx hb ht i_Grid hown hK hP 0 rfl rfl 5 (by decide) (ht _ k_f_Grid_22) (fun _ h9 => h9) rfl d_Grid_meets_56 ?_
        refine sr_imul hx hb d_Grid_meets_59 ?_
        refine sr_iadd hx hb d_Grid_meets_60 ?_
        refine sr_i2l hx hb d_Grid_meets_61 (by unfold bI; omega) ?_
        refine sr_lcmp_gt (tgt := 70) hx hb d_Grid_meets_62 d_Grid_meets_63 (by decide) hc0 (by unfold bL; omega) (fun c_62 => ?_) (fun c_62 => ?_)
        · -- T
          refine sr_iconst hx hb d_Grid_meets_70 ?_
          exact sr_zret () hx hb hr hlocks (by decide) hP hD hS d_Grid_meets_71 (⟨0, rfl, Or.inr ⟨rfl, by omega⟩⟩)
        · -- F
          refine sr_iconst hx hb d_Grid_meets_66 ?_
          refine lv_goto (tgt := 71) hx hb d_Grid_meets_67 (by decide) ?_
          exact sr_zret () hx hb hr hlocks (by decide) hP hD hS d_Grid_meets_71 (⟨1, rfl, Or.inl ⟨rfl, by omega⟩⟩)

set_option maxHeartbeats 4000000 in
set_option maxRecDepth 100000 in
theorem c_Grid_from (l : Launch) (D : va_G) (cI cJ cZ : ClassId) (sz : Nat) (hg0 : Nat) (grw : Nat) (sx : Int) (tx : Int) (wd : Int) (sy : Int) (ty : Int) (hi : Int) (wr : Int64) (fr : Int) (gxs : Nat) (gys : Nat) (nc : Int) (ogx : Int) (ogy : Int) (tu : Int) (x0 : Int) (y0 : Int)  : Met l y_Grid_from (.code y_Grid_from b_Grid_from 3 none :: allw) ({ frames := 0, cells := 0, slots := 0, locals := 0 } : Room) (va_Pc [.ref hg0, .int (iI x0), .int (iI y0)] (sr_U D classes [(cI, .int), (cJ, .long), (cZ, .boolean)] nestw [(hg0, .inr (0, [.ref grw, .int (iI sx), .int (iI tx), .int (iI wd), .int (iI sy), .int (iI ty), .int (iI hi), .long wr, .int (iI fr), .ref gxs, .ref gys, .int (iI nc), .int (iI ogx), .int (iI ogy), .long (lI tu)]))] sz)) (va_Qv (fun (_ : Unit) => True) (sr_B D classes (va_A [(hg0, .inr (0, [.ref grw, .int (iI sx), .int (iI tx), .int (iI wd), .int (iI sy), .int (iI ty), .int (iI hi), .long wr, .int (iI fr), .ref gxs, .ref gys, .int (iI nc), .int (iI ogx), .int (iI ogy), .long (lI tu)]))] sz) (fun (_ : Unit) => [(hg0, .inr (0, [.ref grw, .int (iI sx), .int (iI tx), .int (iI wd), .int (iI sy), .int (iI ty), .int (iI hi), .long wr, .int (iI fr), .ref gxs, .ref gys, .int (iI 0), .int (iI x0), .int (iI y0), .long (lI tu)]))])) (va_A [(hg0, .inr (0, [.ref grw, .int (iI sx), .int (iI tx), .int (iI wd), .int (iI sy), .int (iI ty), .int (iI hi), .long wr, .int (iI fr), .ref gxs, .ref gys, .int (iI nc), .int (iI ogx), .int (iI ogy), .long (lI tu)]))] sz)) 0 0 (va_A [(hg0, .inr (0, [.ref grw, .int (iI sx), .int (iI tx), .int (iI wd), .int (iI sy), .int (iI ty), .int (iI hi), .long wr, .int (iI fr), .ref gxs, .ref gys, .int (iI nc), .int (iI ogx), .int (iI ogy), .long (lI tu)]))] sz) := by
  refine sr_enter (Qf := fun A => va_Qv (fun (_ : Unit) => True) (sr_B D classes A (fun (_ : Unit) => [(hg0, .inr (0, [.ref grw, .int (iI sx), .int (iI tx), .int (iI wd), .int (iI sy), .int (iI ty), .int (iI hi), .long wr, .int (iI fr), .ref gxs, .ref gys, .int (iI 0), .int (iI x0), .int (iI y0), .long (lI tu)]))])) A) (by decide +kernel) rfl (Nat.le_of_ble_eq_true rfl) ?_
  intro p e s m below meth c A ls hx hb hr hml hown hlocks hin hts hsz hP hK hD hN hA hS hl
  have ht : ∀ w ∈ allw, w.before _ s = true := fun w h => hts w (List.mem_cons_of_mem _ h)
  have hsub : ∀ w ∈ allw, w ∈ _ := fun w h => List.mem_cons_of_mem (Cond.code y_Grid_from b_Grid_from 3 none) h
  have hl : lv_has ls 3 [(0, .ref hg0), (1, .int (iI x0)), (2, .int (iI y0))] := hl
  have hP : va_P D classes [(hg0, .inr (0, [.ref grw, .int (iI sx), .int (iI tx), .int (iI wd), .int (iI sy), .int (iI ty), .int (iI hi), .long wr, .int (iI fr), .ref gxs, .ref gys, .int (iI nc), .int (iI ogx), .int (iI ogy), .long (lI tu)]))] s.heap := hP
  refine lv_aload_n hx hb d_Grid_from_0 rfl (lv_at hl 0 rfl) ?_
  refine lv_iload_n hx hb d_Grid_from_1 rfl (lv_at hl 1 rfl) ?_
  refine va_put (ty := .int) hx hb ht i_Grid t_Grid t_Grid_ok n_Grid hown hK hP hD hS 0 rfl rfl 12 (by decide) (ht _ k_f_Grid_66) (fun _ h9 => h9) rfl (t_Grid_ok 12 (by decide)) rfl rfl (Nat.le_of_ble_eq_true rfl) d_Grid_from_2 (fun H locs hP hD hS => ?_)
  have hP : va_P D classes [(hg0, .inr (0, [.ref grw, .int (iI sx), .int (iI tx), .int (iI wd), .int (iI sy), .int (iI ty), .int (iI hi), .long wr, .int (iI fr), .ref gxs, .ref gys, .int (iI nc), .int (iI x0), .int (iI ogy), .long (lI tu)]))] H := hP
  have hD : va_D A [(hg0, .inr (0, [.ref grw, .int (iI sx), .int (iI tx), .int (iI wd), .int (iI sy), .int (iI ty), .int (iI hi), .long wr, .int (iI fr), .ref gxs, .ref gys, .int (iI nc), .int (iI x0), .int (iI ogy), .long (lI tu)]))] := hD
  refine lv_aload_n hx hb d_Grid_from_5 rfl (lv_at hl 0 rfl) ?_
  refine lv_iload_n hx hb d_Grid_from_6 rfl (lv_at hl 2 rfl) ?_
  refine va_put (ty := .int) hx hb ht i_Grid t_Grid t_Grid_ok n_Grid hown hK hP hD hS 0 rfl rfl 13 (by decide) (ht _ k_f_Grid_69) (fun _ h9 => h9) rfl (t_Grid_ok 13 (by decide)) rfl rfl (Nat.le_of_ble_eq_true rfl) d_Grid_from_7 (fun H locs hP hD hS => ?_)
  have hP : va_P D classes [(hg0, .inr (0, [.ref grw, .int (iI sx), .int (iI tx), .int (iI wd), .int (iI sy), .int (iI ty), .int (iI hi), .long wr, .int (iI fr), .ref gxs, .ref gys, .int (iI nc), .int (iI x0), .int (iI y0), .long (lI tu)]))] H := hP
  have hD : va_D A [(hg0, .inr (0, [.ref grw, .int (iI sx), .int (iI tx), .int (iI wd), .int (iI sy), .int (iI ty), .int (iI hi), .long wr, .int (iI fr), .ref gxs, .ref gys, .int (iI nc), .int (iI x0), .int (iI y0), .long (lI tu)]))] := hD
  refine lv_aload_n hx hb d_Grid_from_10 rfl (lv_at hl 0 rfl) ?_
  refine sr_iconst hx hb d_Grid_from_11 ?_
  refine va_put (ty := .int) hx hb ht i_Grid t_Grid t_Grid_ok n_Grid hown hK hP hD hS 0 rfl rfl 11 (by decide) (ht _ k_f_Grid_72) (fun _ h9 => h9) rfl (t_Grid_ok 11 (by decide)) rfl rfl (Nat.le_of_ble_eq_true rfl) d_Grid_from_12 (fun H locs hP hD hS => ?_)
  have hP : va_P D classes [(hg0, .inr (0, [.ref grw, .int (iI sx), .int (iI tx), .int (iI wd), .int (iI sy), .int (iI ty), .int (iI hi), .long wr, .int (iI fr), .ref gxs, .ref gys, .int (iI 0), .int (iI x0), .int (iI y0), .long (lI tu)]))] H := hP
  have hD : va_D A [(hg0, .inr (0, [.ref grw, .int (iI sx), .int (iI tx), .int (iI wd), .int (iI sy), .int (iI ty), .int (iI hi), .long wr, .int (iI fr), .ref gxs, .ref gys, .int (iI 0), .int (iI x0), .int (iI y0), .long (lI tu)]))] := hD
  exact sr_vret () hx hb hr hlocks hP hD hS d_Grid_from_15 (trivial)

set_option maxHeartbeats 4000000 in
set_option maxRecDepth 100000 in
theorem c_Grid_corner (l : Launch) (D : va_G) (cI cJ cZ : ClassId) (sz : Nat) (hg0 : Nat) (grw : Nat) (sx : Int) (tx : Int) (wd : Int) (sy : Int) (ty : Int) (hi : Int) (wr : Int64) (fr : Int) (gxs : Nat) (gys : Nat) (nc : Int) (ogx : Int) (ogy : Int) (tu : Int) (xs : Int → Int) (ys : Int → Int) (dx : Int) (dy : Int) (h0 : 0 ≤ nc) (h1 : nc < 4) (h2 : -2147483648 ≤ ogx ∧ ogx ≤ 2147483647) (h3 : -2147483648 ≤ ogy ∧ ogy ≤ 2147483647) : Met l y_Grid_corner (.code y_Grid_corner b_Grid_corner 5 none :: allw) ({ frames := 0, cells := 0, slots := 0, locals := 0 } : Room) (va_Pc [.ref hg0, .long (lI dx), .long (lI dy)] (sr_U D classes [(cI, .int), (cJ, .long), (cZ, .boolean)] nestw [(hg0, .inr (0, [.ref grw, .int (iI sx), .int (iI tx), .int (iI wd), .int (iI sy), .int (iI ty), .int (iI hi), .long wr, .int (iI fr), .ref gxs, .ref gys, .int (iI nc), .int (iI ogx), .int (iI ogy), .long (lI tu)])), (gxs, .inl (cJ, 4, .inr (.inl (zL xs)))), (gys, .inl (cJ, 4, .inr (.inl (zL ys))))] sz)) (va_Qv (fun (_ : Unit) => True) (sr_B D classes (va_A [(hg0, .inr (0, [.ref grw, .int (iI sx), .int (iI tx), .int (iI wd), .int (iI sy), .int (iI ty), .int (iI hi), .long wr, .int (iI fr), .ref gxs, .ref gys, .int (iI nc), .int (iI ogx), .int (iI ogy), .long (lI tu)])), (gxs, .inl (cJ, 4, .inr (.inl (zL xs)))), (gys, .inl (cJ, 4, .inr (.inl (zL ys))))] sz) (fun (_ : Unit) => [(hg0, .inr (0, [.ref grw, .int (iI sx), .int (iI tx), .int (iI wd), .int (iI sy), .int (iI ty), .int (iI hi), .long wr, .int (iI fr), .ref gxs, .ref gys, .int (iI (nc + 1)), .int (iI ogx), .int (iI ogy), .long (lI tu)])), (gxs, .inl (cJ, 4, .inr (.inl (zL (zup xs nc (ogx + dx)))))), (gys, .inl (cJ, 4, .inr (.inl (zL (zup ys nc (ogy + dy))))))])) (va_A [(hg0, .inr (0, [.ref grw, .int (iI sx), .int (iI tx), .int (iI wd), .int (iI sy), .int (iI ty), .int (iI hi), .long wr, .int (iI fr), .ref gxs, .ref gys, .int (iI nc), .int (iI ogx), .int (iI ogy), .long (lI tu)])), (gxs, .inl (cJ, 4, .inr (.inl (zL xs)))), (gys, .inl (cJ, 4, .inr (.inl (zL ys))))] sz)) 0 0 (va_A [(hg0, .inr (0, [.ref grw, .int (iI sx), .int (iI tx), .int (iI wd), .int (iI sy), .int (iI ty), .int (iI hi), .long wr, .int (iI fr), .ref gxs, .ref gys, .int (iI nc), .int (iI ogx), .int (iI ogy), .long (lI tu)])), (gxs, .inl (cJ, 4, .inr (.inl (zL xs)))), (gys, .inl (cJ, 4, .inr (.inl (zL ys))))] sz) := by
  refine sr_enter (Qf := fun A => va_Qv (fun (_ : Unit) => True) (sr_B D classes A (fun (_ : Unit) => [(hg0, .inr (0, [.ref grw, .int (iI sx), .int (iI tx), .int (iI wd), .int (iI sy), .int (iI ty), .int (iI hi), .long wr, .int (iI fr), .ref gxs, .ref gys, .int (iI (nc + 1)), .int (iI ogx), .int (iI ogy), .long (lI tu)])), (gxs, .inl (cJ, 4, .inr (.inl (zL (zup xs nc (ogx + dx)))))), (gys, .inl (cJ, 4, .inr (.inl (zL (zup ys nc (ogy + dy))))))])) A) (by decide +kernel) rfl (Nat.le_of_ble_eq_true rfl) ?_
  intro p e s m below meth c A ls hx hb hr hml hown hlocks hin hts hsz hP hK hD hN hA hS hl
  have ht : ∀ w ∈ allw, w.before _ s = true := fun w h => hts w (List.mem_cons_of_mem _ h)
  have hsub : ∀ w ∈ allw, w ∈ _ := fun w h => List.mem_cons_of_mem (Cond.code y_Grid_corner b_Grid_corner 5 none) h
  have hl : lv_has ls 5 [(0, .ref hg0), (1, .long (lI dx)), (3, .long (lI dy))] := hl
  have hP : va_P D classes [(hg0, .inr (0, [.ref grw, .int (iI sx), .int (iI tx), .int (iI wd), .int (iI sy), .int (iI ty), .int (iI hi), .long wr, .int (iI fr), .ref gxs, .ref gys, .int (iI nc), .int (iI ogx), .int (iI ogy), .long (lI tu)])), (gxs, .inl (cJ, 4, .inr (.inl (zL xs)))), (gys, .inl (cJ, 4, .inr (.inl (zL ys))))] s.heap := hP
  refine lv_aload_n hx hb d_Grid_corner_0 rfl (lv_at hl 0 rfl) ?_
  refine va_get hx hb ht i_Grid hown hK hP 0 rfl rfl 11 (by decide) (ht _ k_f_Grid_72) (fun _ h9 => h9) rfl d_Grid_corner_1 ?_
  refine sr_iconst hx hb d_Grid_corner_4 ?_
  refine sr_icmp_ge (tgt := 50) hx hb d_Grid_corner_5 (by decide) (by unfold bI; omega) (by unfold bI; decide) (fun c_5 => ?_) (fun c_5 => ?_)
  · -- T
    exact absurd h1 (by omega)
  · -- F
    refine lv_aload_n hx hb d_Grid_corner_8 rfl (lv_at hl 0 rfl) ?_
    refine va_get hx hb ht i_Grid hown hK hP 0 rfl rfl 9 (by decide) (ht _ k_f_Grid_32) (fun _ h9 => h9) rfl d_Grid_corner_9 ?_
    refine lv_aload_n hx hb d_Grid_corner_12 rfl (lv_at hl 0 rfl) ?_
    refine va_get hx hb ht i_Grid hown hK hP 0 rfl rfl 11 (by decide) (ht _ k_f_Grid_72) (fun _ h9 => h9) rfl d_Grid_corner_13 ?_
    refine lv_aload_n hx hb d_Grid_corner_16 rfl (lv_at hl 0 rfl) ?_
    refine va_get hx hb ht i_Grid hown hK hP 0 rfl rfl 12 (by decide) (ht _ k_f_Grid_66) (fun _ h9 => h9) rfl d_Grid_corner_17 ?_
    refine sr_i2l hx hb d_Grid_corner_20 (by unfold bI; omega) ?_
    refine lv_lload_n hx hb d_Grid_corner_21 rfl (lv_at hl 1 rfl) ?_
    refine sr_ladd hx hb d_Grid_corner_22 ?_
    refine sr_lastZ hx hb hK hP hD hS 1 1 rfl rfl (by omega) (by omega) (by decide) d_Grid_corner_23 (fun H locs hP hD hS => ?_)
    have hP : va_P D classes [(hg0, .inr (0, [.ref grw, .int (iI sx), .int (iI tx), .int (iI wd), .int (iI sy), .int (iI ty), .int (iI hi), .long wr, .int (iI fr), .ref gxs, .ref gys, .int (iI nc), .int (iI ogx), .int (iI ogy), .long (lI tu)])), (gxs, .inl (cJ, 4, .inr (.inl (zL (zup xs nc (ogx + dx)))))), (gys, .inl (cJ, 4, .inr (.inl (zL ys))))] H := hP
    have hD : va_D A [(hg0, .inr (0, [.ref grw, .int (iI sx), .int (iI tx), .int (iI wd), .int (iI sy), .int (iI ty), .int (iI hi), .long wr, .int (iI fr), .ref gxs, .ref gys, .int (iI nc), .int (iI ogx), .int (iI ogy), .long (lI tu)])), (gxs, .inl (cJ, 4, .inr (.inl (zL (zup xs nc (ogx + dx)))))), (gys, .inl (cJ, 4, .inr (.inl (zL ys))))] := hD
    refine lv_aload_n hx hb d_Grid_corner_24 rfl (lv_at hl 0 rfl) ?_
    refine va_get hx hb ht i_Grid hown hK hP 0 rfl rfl 10 (by decide) (ht _ k_f_Grid_35) (fun _ h9 => h9) rfl d_Grid_corner_25 ?_
    refine lv_aload_n hx hb d_Grid_corner_28 rfl (lv_at hl 0 rfl) ?_
    refine va_get hx hb ht i_Grid hown hK hP 0 rfl rfl 11 (by decide) (ht _ k_f_Grid_72) (fun _ h9 => h9) rfl d_Grid_corner_29 ?_
    refine lv_aload_n hx hb d_Grid_corner_32 rfl (lv_at hl 0 rfl) ?_
    refine va_get hx hb ht i_Grid hown hK hP 0 rfl rfl 13 (by decide) (ht _ k_f_Grid_69) (fun _ h9 => h9) rfl d_Grid_corner_33 ?_
    refine sr_i2l hx hb d_Grid_corner_36 (by unfold bI; omega) ?_
    refine lv_lload_n hx hb d_Grid_corner_37 rfl (lv_at hl 2 rfl) ?_
    refine sr_ladd hx hb d_Grid_corner_38 ?_
    refine sr_lastZ hx hb hK hP hD hS 2 1 rfl rfl (by omega) (by omega) (by decide) d_Grid_corner_39 (fun H locs hP hD hS => ?_)
    have hP : va_P D classes [(hg0, .inr (0, [.ref grw, .int (iI sx), .int (iI tx), .int (iI wd), .int (iI sy), .int (iI ty), .int (iI hi), .long wr, .int (iI fr), .ref gxs, .ref gys, .int (iI nc), .int (iI ogx), .int (iI ogy), .long (lI tu)])), (gxs, .inl (cJ, 4, .inr (.inl (zL (zup xs nc (ogx + dx)))))), (gys, .inl (cJ, 4, .inr (.inl (zL (zup ys nc (ogy + dy))))))] H := hP
    have hD : va_D A [(hg0, .inr (0, [.ref grw, .int (iI sx), .int (iI tx), .int (iI wd), .int (iI sy), .int (iI ty), .int (iI hi), .long wr, .int (iI fr), .ref gxs, .ref gys, .int (iI nc), .int (iI ogx), .int (iI ogy), .long (lI tu)])), (gxs, .inl (cJ, 4, .inr (.inl (zL (zup xs nc (ogx + dx)))))), (gys, .inl (cJ, 4, .inr (.inl (zL (zup ys nc (ogy + dy))))))] := hD
    refine lv_aload_n hx hb d_Grid_corner_40 rfl (lv_at hl 0 rfl) ?_
    refine lv_dup hx hb d_Grid_corner_41 rfl ?_
    refine va_get hx hb ht i_Grid hown hK hP 0 rfl rfl 11 (by decide) (ht _ k_f_Grid_72) (fun _ h9 => h9) rfl d_Grid_corner_42 ?_
    refine sr_iconst hx hb d_Grid_corner_45 ?_
    refine sr_iadd hx hb d_Grid_corner_46 ?_
    refine va_put (ty := .int) hx hb ht i_Grid t_Grid t_Grid_ok n_Grid hown hK hP hD hS 0 rfl rfl 11 (by decide) (ht _ k_f_Grid_72) (fun _ h9 => h9) rfl (t_Grid_ok 11 (by decide)) rfl rfl (Nat.le_of_ble_eq_true rfl) d_Grid_corner_47 (fun H locs hP hD hS => ?_)
    have hP : va_P D classes [(hg0, .inr (0, [.ref grw, .int (iI sx), .int (iI tx), .int (iI wd), .int (iI sy), .int (iI ty), .int (iI hi), .long wr, .int (iI fr), .ref gxs, .ref gys, .int (iI (nc + 1)), .int (iI ogx), .int (iI ogy), .long (lI tu)])), (gxs, .inl (cJ, 4, .inr (.inl (zL (zup xs nc (ogx + dx)))))), (gys, .inl (cJ, 4, .inr (.inl (zL (zup ys nc (ogy + dy))))))] H := hP
    have hD : va_D A [(hg0, .inr (0, [.ref grw, .int (iI sx), .int (iI tx), .int (iI wd), .int (iI sy), .int (iI ty), .int (iI hi), .long wr, .int (iI fr), .ref gxs, .ref gys, .int (iI (nc + 1)), .int (iI ogx), .int (iI ogy), .long (lI tu)])), (gxs, .inl (cJ, 4, .inr (.inl (zL (zup xs nc (ogx + dx)))))), (gys, .inl (cJ, 4, .inr (.inl (zL (zup ys nc (ogy + dy))))))] := hD
    exact sr_vret () hx hb hr hlocks hP hD hS d_Grid_corner_50 (trivial)

set_option maxHeartbeats 4000000 in
set_option maxRecDepth 100000 in
theorem c_Grid_least (l : Launch) (D : va_G) (cI cJ cZ : ClassId) (sz : Nat) (hg0 : Nat) (grw : Nat) (sx : Int) (tx : Int) (wd : Int) (sy : Int) (ty : Int) (hi : Int) (wr : Int64) (fr : Int) (gxs : Nat) (gys : Nat) (nc : Int) (ogx : Int) (ogy : Int) (tu : Int) (qa : Nat) (f : Int → Int) (h0 : 1 ≤ nc) (h1 : nc ≤ 4) (hB : coB f nc) : Met l y_Grid_least (.code y_Grid_least b_Grid_least 5 (some .long) :: allw) ({ frames := 1, cells := 0, slots := 0, locals := 15 } : Room) (va_Pc [.ref hg0, .ref qa] (sr_U D classes [(cI, .int), (cJ, .long), (cZ, .boolean)] nestw [(hg0, .inr (0, [.ref grw, .int (iI sx), .int (iI tx), .int (iI wd), .int (iI sy), .int (iI ty), .int (iI hi), .long wr, .int (iI fr), .ref gxs, .ref gys, .int (iI nc), .int (iI ogx), .int (iI ogy), .long (lI tu)])), (qa, .inl (cJ, 4, .inr (.inl (zL f))))] sz)) (va_Ql (fun (r : Int64) => fun (_ : Unit) => ∃ z, r = lI z ∧ (-600000000 ≤ z ∧ z ≤ 600000000) ∧ (∀ i, 0 ≤ i → i < nc → z ≤ f i) ∧ ∃ i, 0 ≤ i ∧ i < nc ∧ z = f i) (sr_B D classes (va_A [(hg0, .inr (0, [.ref grw, .int (iI sx), .int (iI tx), .int (iI wd), .int (iI sy), .int (iI ty), .int (iI hi), .long wr, .int (iI fr), .ref gxs, .ref gys, .int (iI nc), .int (iI ogx), .int (iI ogy), .long (lI tu)])), (qa, .inl (cJ, 4, .inr (.inl (zL f))))] sz) (fun (_ : Unit) => [(hg0, .inr (0, [.ref grw, .int (iI sx), .int (iI tx), .int (iI wd), .int (iI sy), .int (iI ty), .int (iI hi), .long wr, .int (iI fr), .ref gxs, .ref gys, .int (iI nc), .int (iI ogx), .int (iI ogy), .long (lI tu)])), (qa, .inl (cJ, 4, .inr (.inl (zL f))))])) (va_A [(hg0, .inr (0, [.ref grw, .int (iI sx), .int (iI tx), .int (iI wd), .int (iI sy), .int (iI ty), .int (iI hi), .long wr, .int (iI fr), .ref gxs, .ref gys, .int (iI nc), .int (iI ogx), .int (iI ogy), .long (lI tu)])), (qa, .inl (cJ, 4, .inr (.inl (zL f))))] sz)) 0 0 (va_A [(hg0, .inr (0, [.ref grw, .int (iI sx), .int (iI tx), .int (iI wd), .int (iI sy), .int (iI ty), .int (iI hi), .long wr, .int (iI fr), .ref gxs, .ref gys, .int (iI nc), .int (iI ogx), .int (iI ogy), .long (lI tu)])), (qa, .inl (cJ, 4, .inr (.inl (zL f))))] sz) := by
  refine sr_enter (Qf := fun A => va_Ql (fun (r : Int64) => fun (_ : Unit) => ∃ z, r = lI z ∧ (-600000000 ≤ z ∧ z ≤ 600000000) ∧ (∀ i, 0 ≤ i → i < nc → z ≤ f i) ∧ ∃ i, 0 ≤ i ∧ i < nc ∧ z = f i) (sr_B D classes A (fun (_ : Unit) => [(hg0, .inr (0, [.ref grw, .int (iI sx), .int (iI tx), .int (iI wd), .int (iI sy), .int (iI ty), .int (iI hi), .long wr, .int (iI fr), .ref gxs, .ref gys, .int (iI nc), .int (iI ogx), .int (iI ogy), .long (lI tu)])), (qa, .inl (cJ, 4, .inr (.inl (zL f))))])) A) (by decide +kernel) rfl (Nat.le_of_ble_eq_true rfl) ?_
  intro p e s m below meth c A ls hx hb hr hml hown hlocks hin hts hsz hP hK hD hN hA hS hl
  have ht : ∀ w ∈ allw, w.before _ s = true := fun w h => hts w (List.mem_cons_of_mem _ h)
  have hsub : ∀ w ∈ allw, w ∈ _ := fun w h => List.mem_cons_of_mem (Cond.code y_Grid_least b_Grid_least 5 (some .long)) h
  have hl : lv_has ls 5 [(0, .ref hg0), (1, .ref qa)] := hl
  have hP : va_P D classes [(hg0, .inr (0, [.ref grw, .int (iI sx), .int (iI tx), .int (iI wd), .int (iI sy), .int (iI ty), .int (iI hi), .long wr, .int (iI fr), .ref gxs, .ref gys, .int (iI nc), .int (iI ogx), .int (iI ogy), .long (lI tu)])), (qa, .inl (cJ, 4, .inr (.inl (zL f))))] s.heap := hP
  refine lv_aload_n hx hb d_Grid_least_0 rfl (lv_at hl 1 rfl) ?_
  refine sr_iconst hx hb d_Grid_least_1 ?_
  refine sr_laldZ hx hb hK hP 1 1 rfl rfl (by omega) (by omega) (by decide) d_Grid_least_2 ?_
  refine lv_lstore_n (lv' := [(2, .long (lI (f 0))), (0, .ref hg0), (1, .ref qa)]) hx hb d_Grid_least_3 rfl hl (by decide) rfl (fun ls hl => ?_)
  refine sr_iconst hx hb d_Grid_least_4 ?_
  refine lv_istore (lv' := [(4, .int (iI 1)), (2, .long (lI (f 0))), (0, .ref hg0), (1, .ref qa)]) hx hb d_Grid_least_5 hl (by decide) rfl (fun ls hl => ?_)
  have lp_7 : ∀ (n_ : Nat) (i : Int) (z : Int), (nc - i).toNat < n_ → (1 ≤ i) → (i ≤ nc) → (∀ k, 0 ≤ k → k < i → z ≤ f k) → (-600000000 ≤ z ∧ z ≤ 600000000) → (∃ k, 0 ≤ k ∧ k < i ∧ z = f k) → ∀ (H : Heap) (locs : List Loc) (ls : Array Slot), va_P D classes [(hg0, .inr (0, [.ref grw, .int (iI sx), .int (iI tx), .int (iI wd), .int (iI sy), .int (iI ty), .int (iI hi), .long wr, .int (iI fr), .ref gxs, .ref gys, .int (iI nc), .int (iI ogx), .int (iI ogy), .long (lI tu)])), (qa, .inl (cJ, 4, .inr (.inl (zL f))))] H → va_D A [(hg0, .inr (0, [.ref grw, .int (iI sx), .int (iI tx), .int (iI wd), .int (iI sy), .int (iI ty), .int (iI hi), .long wr, .int (iI fr), .ref gxs, .ref gys, .int (iI nc), .int (iI ogx), .int (iI ogy), .long (lI tu)])), (qa, .inl (cJ, 4, .inr (.inl (zL f))))] → va_S A s.heap H locs → lv_has ls 5 [(0, .ref hg0), (1, .ref qa), (2, .long (lI z)), (4, .int (iI i))] → W p l e ({ frames := 1, cells := 0, slots := 0, locals := 15 } : Room) s m [.ref hg0, .ref qa].toArray below meth c H locs 0 0 (MQ below (va_Ql (fun (r : Int64) => fun (_ : Unit) => ∃ z, r = lI z ∧ (-600000000 ≤ z ∧ z ≤ 600000000) ∧ (∀ i, 0 ≤ i → i < nc → z ≤ f i) ∧ ∃ i, 0 ≤ i ∧ i < nc ∧ z = f i) (sr_B D classes A (fun (_ : Unit) => [(hg0, .inr (0, [.ref grw, .int (iI sx), .int (iI tx), .int (iI wd), .int (iI sy), .int (iI ty), .int (iI hi), .long wr, .int (iI fr), .ref gxs, .ref gys, .int (iI nc), .int (iI ogx), .int (iI ogy), .long (lI tu)])), (qa, .inl (cJ, 4, .inr (.inl (zL f))))])) A) [.ref hg0, .ref qa].toArray s 0 0 A) (F0 m 7 ls []) := by
    intro n_
    induction n_ with
    | zero => intro i z hm_; exact absurd hm_ (Nat.not_lt_zero _)
    | succ n_ ih_7 =>
      intro i z hm_ hi1 hi2 hz hzb hze H locs ls hP hD hS hl
      have hfi : i < nc → -600000000 ≤ f i ∧ f i ≤ 600000000 := fun h9 => hB i (by omega) h9
      refine lv_iload hx hb d_Grid_least_7 (lv_at hl 3 rfl) ?_
      refine lv_aload_n hx hb d_Grid_least_9 rfl (lv_at hl 0 rfl) ?_
      refine va_get hx hb ht i_Grid hown hK hP 0 rfl rfl 11 (by decide) (ht _ k_f_Grid_72) (fun _ h9 => h9) rfl d_Grid_least_10 ?_
      refine sr_icmp_ge (tgt := 31) hx hb d_Grid_least_13 (by decide) (by unfold bI; omega) (by unfold bI; omega) (fun c_13 => ?_) (fun c_13 => ?_)
      · -- T
        refine lv_lload_n hx hb d_Grid_least_31 rfl (lv_at hl 2 rfl) ?_
        exact sr_lret () hx hb hr hlocks hP hD hS d_Grid_least_32 (⟨z, rfl, hzb, fun i a b => hz i a (by omega), hze.elim (fun k h9 => ⟨k, h9.1, by omega, h9.2.2⟩)⟩)
      · -- F
        have hfi := hfi (by omega)
        refine lv_lload_n hx hb d_Grid_least_16 rfl (lv_at hl 2 rfl) ?_
        refine lv_aload_n hx hb d_Grid_least_17 rfl (lv_at hl 1 rfl) ?_
        refine lv_iload hx hb d_Grid_least_18 (lv_at hl 3 rfl) ?_
        refine sr_laldZ hx hb hK hP 1 1 rfl rfl (by omega) (by omega) (by decide) d_Grid_least_20 ?_
        refine sr_mmin_long hx hb (hml.trans hl.1.symm) hown (ht _ k_m_Grid_102) (ht _ k_st_min_long) (ht _ k_in_Math) (ht _ k_cd_min_long) (Nat.le_of_ble_eq_true rfl) (Nat.le_of_ble_eq_true rfl) (Nat.zero_le _) (Nat.zero_le _) (by unfold bL; omega) (by unfold bL; omega) d_Grid_least_21 ?_
        refine lv_lstore_n (lv' := [(2, .long (lI (min z (f i)))), (0, .ref hg0), (1, .ref qa), (4, .int (iI i))]) hx hb d_Grid_least_24 rfl hl (by decide) rfl (fun ls hl => ?_)
        refine lv_iinc (v := iI (i + 1)) (lv' := [(4, .int (iI (i + 1))), (2, .long (lI (min z (f i)))), (0, .ref hg0), (1, .ref qa)]) hx hb d_Grid_least_25 hl (k := 3) rfl (iI_add _ _) (by decide) rfl (fun ls hl => ?_)
        refine lv_goto (tgt := 7) hx hb d_Grid_least_28 (by decide) ?_
        exact ih_7 (i + 1) (min z (f i)) (by omega) (by omega) (by omega) (fun k k0 k1 => if e9 : k = i then (by rw [e9]; omega) else (by have := hz k k0 (by omega); omega)) (by omega) ((show min z (f i) = z ∨ min z (f i) = f i by omega).elim (fun e9 => hze.elim (fun k h9 => ⟨k, h9.1, by omega, e9.trans h9.2.2⟩)) (fun e9 => ⟨i, by omega, by omega, e9⟩)) _ _ _ hP hD hS (lv_sub hl [2, 3, 1, 0] rfl)
  exact lp_7 _ 1 (f 0) (Nat.lt_succ_self _) (by omega) (by omega) (fun k k0 k1 => by rw [show k = 0 by omega]; exact Int.le_refl _) (hB 0 (by omega) (by omega)) (⟨0, by omega, by omega, rfl⟩) _ _ _ hP hD hS (lv_sub hl [2, 3, 1, 0] rfl)

set_option maxHeartbeats 4000000 in
set_option maxRecDepth 100000 in
theorem c_Grid_greatest (l : Launch) (D : va_G) (cI cJ cZ : ClassId) (sz : Nat) (hg0 : Nat) (grw : Nat) (sx : Int) (tx : Int) (wd : Int) (sy : Int) (ty : Int) (hi : Int) (wr : Int64) (fr : Int) (gxs : Nat) (gys : Nat) (nc : Int) (ogx : Int) (ogy : Int) (tu : Int) (qa : Nat) (f : Int → Int) (h0 : 1 ≤ nc) (h1 : nc ≤ 4) (hB : coB f nc) : Met l y_Grid_greatest (.code y_Grid_greatest b_Grid_greatest 5 (some .long) :: allw) ({ frames := 1, cells := 0, slots := 0, locals := 15 } : Room) (va_Pc [.ref hg0, .ref qa] (sr_U D classes [(cI, .int), (cJ, .long), (cZ, .boolean)] nestw [(hg0, .inr (0, [.ref grw, .int (iI sx), .int (iI tx), .int (iI wd), .int (iI sy), .int (iI ty), .int (iI hi), .long wr, .int (iI fr), .ref gxs, .ref gys, .int (iI nc), .int (iI ogx), .int (iI ogy), .long (lI tu)])), (qa, .inl (cJ, 4, .inr (.inl (zL f))))] sz)) (va_Ql (fun (r : Int64) => fun (_ : Unit) => ∃ z, r = lI z ∧ (-600000000 ≤ z ∧ z ≤ 600000000) ∧ (∀ i, 0 ≤ i → i < nc → f i ≤ z) ∧ ∃ i, 0 ≤ i ∧ i < nc ∧ z = f i) (sr_B D classes (va_A [(hg0, .inr (0, [.ref grw, .int (iI sx), .int (iI tx), .int (iI wd), .int (iI sy), .int (iI ty), .int (iI hi), .long wr, .int (iI fr), .ref gxs, .ref gys, .int (iI nc), .int (iI ogx), .int (iI ogy), .long (lI tu)])), (qa, .inl (cJ, 4, .inr (.inl (zL f))))] sz) (fun (_ : Unit) => [(hg0, .inr (0, [.ref grw, .int (iI sx), .int (iI tx), .int (iI wd), .int (iI sy), .int (iI ty), .int (iI hi), .long wr, .int (iI fr), .ref gxs, .ref gys, .int (iI nc), .int (iI ogx), .int (iI ogy), .long (lI tu)])), (qa, .inl (cJ, 4, .inr (.inl (zL f))))])) (va_A [(hg0, .inr (0, [.ref grw, .int (iI sx), .int (iI tx), .int (iI wd), .int (iI sy), .int (iI ty), .int (iI hi), .long wr, .int (iI fr), .ref gxs, .ref gys, .int (iI nc), .int (iI ogx), .int (iI ogy), .long (lI tu)])), (qa, .inl (cJ, 4, .inr (.inl (zL f))))] sz)) 0 0 (va_A [(hg0, .inr (0, [.ref grw, .int (iI sx), .int (iI tx), .int (iI wd), .int (iI sy), .int (iI ty), .int (iI hi), .long wr, .int (iI fr), .ref gxs, .ref gys, .int (iI nc), .int (iI ogx), .int (iI ogy), .long (lI tu)])), (qa, .inl (cJ, 4, .inr (.inl (zL f))))] sz) := by
  refine sr_enter (Qf := fun A => va_Ql (fun (r : Int64) => fun (_ : Unit) => ∃ z, r = lI z ∧ (-600000000 ≤ z ∧ z ≤ 600000000) ∧ (∀ i, 0 ≤ i → i < nc → f i ≤ z) ∧ ∃ i, 0 ≤ i ∧ i < nc ∧ z = f i) (sr_B D classes A (fun (_ : Unit) => [(hg0, .inr (0, [.ref grw, .int (iI sx), .int (iI tx), .int (iI wd), .int (iI sy), .int (iI ty), .int (iI hi), .long wr, .int (iI fr), .ref gxs, .ref gys, .int (iI nc), .int (iI ogx), .int (iI ogy), .long (lI tu)])), (qa, .inl (cJ, 4, .inr (.inl (zL f))))])) A) (by decide +kernel) rfl (Nat.le_of_ble_eq_true rfl) ?_
  intro p e s m below meth c A ls hx hb hr hml hown hlocks hin hts hsz hP hK hD hN hA hS hl
  have ht : ∀ w ∈ allw, w.before _ s = true := fun w h => hts w (List.mem_cons_of_mem _ h)
  have hsub : ∀ w ∈ allw, w ∈ _ := fun w h => List.mem_cons_of_mem (Cond.code y_Grid_greatest b_Grid_greatest 5 (some .long)) h
  have hl : lv_has ls 5 [(0, .ref hg0), (1, .ref qa)] := hl
  have hP : va_P D classes [(hg0, .inr (0, [.ref grw, .int (iI sx), .int (iI tx), .int (iI wd), .int (iI sy), .int (iI ty), .int (iI hi), .long wr, .int (iI fr), .ref gxs, .ref gys, .int (iI nc), .int (iI ogx), .int (iI ogy), .long (lI tu)])), (qa, .inl (cJ, 4, .inr (.inl (zL f))))] s.heap := hP
  refine lv_aload_n hx hb d_Grid_greatest_0 rfl (lv_at hl 1 rfl) ?_
  refine sr_iconst hx hb d_Grid_greatest_1 ?_
  refine sr_laldZ hx hb hK hP 1 1 rfl rfl (by omega) (by omega) (by decide) d_Grid_greatest_2 ?_
  refine lv_lstore_n (lv' := [(2, .long (lI (f 0))), (0, .ref hg0), (1, .ref qa)]) hx hb d_Grid_greatest_3 rfl hl (by decide) rfl (fun ls hl => ?_)
  refine sr_iconst hx hb d_Grid_greatest_4 ?_
  refine lv_istore (lv' := [(4, .int (iI 1)), (2, .long (lI (f 0))), (0, .ref hg0), (1, .ref qa)]) hx hb d_Grid_greatest_5 hl (by decide) rfl (fun ls hl => ?_)
  have lp_7 : ∀ (n_ : Nat) (i : Int) (z : Int), (nc - i).toNat < n_ → (1 ≤ i) → (i ≤ nc) → (∀ k, 0 ≤ k → k < i → f k ≤ z) → (-600000000 ≤ z ∧ z ≤ 600000000) → (∃ k, 0 ≤ k ∧ k < i ∧ z = f k) → ∀ (H : Heap) (locs : List Loc) (ls : Array Slot), va_P D classes [(hg0, .inr (0, [.ref grw, .int (iI sx), .int (iI tx), .int (iI wd), .int (iI sy), .int (iI ty), .int (iI hi), .long wr, .int (iI fr), .ref gxs, .ref gys, .int (iI nc), .int (iI ogx), .int (iI ogy), .long (lI tu)])), (qa, .inl (cJ, 4, .inr (.inl (zL f))))] H → va_D A [(hg0, .inr (0, [.ref grw, .int (iI sx), .int (iI tx), .int (iI wd), .int (iI sy), .int (iI ty), .int (iI hi), .long wr, .int (iI fr), .ref gxs, .ref gys, .int (iI nc), .int (iI ogx), .int (iI ogy), .long (lI tu)])), (qa, .inl (cJ, 4, .inr (.inl (zL f))))] → va_S A s.heap H locs → lv_has ls 5 [(0, .ref hg0), (1, .ref qa), (2, .long (lI z)), (4, .int (iI i))] → W p l e ({ frames := 1, cells := 0, slots := 0, locals := 15 } : Room) s m [.ref hg0, .ref qa].toArray below meth c H locs 0 0 (MQ below (va_Ql (fun (r : Int64) => fun (_ : Unit) => ∃ z, r = lI z ∧ (-600000000 ≤ z ∧ z ≤ 600000000) ∧ (∀ i, 0 ≤ i → i < nc → f i ≤ z) ∧ ∃ i, 0 ≤ i ∧ i < nc ∧ z = f i) (sr_B D classes A (fun (_ : Unit) => [(hg0, .inr (0, [.ref grw, .int (iI sx), .int (iI tx), .int (iI wd), .int (iI sy), .int (iI ty), .int (iI hi), .long wr, .int (iI fr), .ref gxs, .ref gys, .int (iI nc), .int (iI ogx), .int (iI ogy), .long (lI tu)])), (qa, .inl (cJ, 4, .inr (.inl (zL f))))])) A) [.ref hg0, .ref qa].toArray s 0 0 A) (F0 m 7 ls []) := by
    intro n_
    induction n_ with
    | zero => intro i z hm_; exact absurd hm_ (Nat.not_lt_zero _)
    | succ n_ ih_7 =>
      intro i z hm_ hi1 hi2 hz hzb hze H locs ls hP hD hS hl
      have hfi : i < nc → -600000000 ≤ f i ∧ f i ≤ 600000000 := fun h9 => hB i (by omega) h9
      refine lv_iload hx hb d_Grid_greatest_7 (lv_at hl 3 rfl) ?_
      refine lv_aload_n hx hb d_Grid_greatest_9 rfl (lv_at hl 0 rfl) ?_
      refine va_get hx hb ht i_Grid hown hK hP 0 rfl rfl 11 (by decide) (ht _ k_f_Grid_72) (fun _ h9 => h9) rfl d_Grid_greatest_10 ?_
      refine sr_icmp_ge (tgt := 31) hx hb d_Grid_greatest_13 (by decide) (by unfold bI; omega) (by unfold bI; omega) (fun c_13 => ?_) (fun c_13 => ?_)
      · -- T
        refine lv_lload_n hx hb d_Grid_greatest_31 rfl (lv_at hl 2 rfl) ?_
        exact sr_lret () hx hb hr hlocks hP hD hS d_Grid_greatest_32 (⟨z, rfl, hzb, fun i a b => hz i a (by omega), hze.elim (fun k h9 => ⟨k, h9.1, by omega, h9.2.2⟩)⟩)
      · -- F
        have hfi := hfi (by omega)
        refine lv_lload_n hx hb d_Grid_greatest_16 rfl (lv_at hl 2 rfl) ?_
        refine lv_aload_n hx hb d_Grid_greatest_17 rfl (lv_at hl 1 rfl) ?_
        refine lv_iload hx hb d_Grid_greatest_18 (lv_at hl 3 rfl) ?_
        refine sr_laldZ hx hb hK hP 1 1 rfl rfl (by omega) (by omega) (by decide) d_Grid_greatest_20 ?_
        refine sr_mmax_long hx hb (hml.trans hl.1.symm) hown (ht _ k_m_Grid_104) (ht _ k_st_max_long) (ht _ k_in_Math) (ht _ k_cd_max_long) (Nat.le_of_ble_eq_true rfl) (Nat.le_of_ble_eq_true rfl) (Nat.zero_le _) (Nat.zero_le _) (by unfold bL; omega) (by unfold bL; omega) d_Grid_greatest_21 ?_
        refine lv_lstore_n (lv' := [(2, .long (lI (max z (f i)))), (0, .ref hg0), (1, .ref qa), (4, .int (iI i))]) hx hb d_Grid_greatest_24 rfl hl (by decide) rfl (fun ls hl => ?_)
        refine lv_iinc (v := iI (i + 1)) (lv' := [(4, .int (iI (i + 1))), (2, .long (lI (max z (f i)))), (0, .ref hg0), (1, .ref qa)]) hx hb d_Grid_greatest_25 hl (k := 3) rfl (iI_add _ _) (by decide) rfl (fun ls hl => ?_)
        refine lv_goto (tgt := 7) hx hb d_Grid_greatest_28 (by decide) ?_
        exact ih_7 (i + 1) (max z (f i)) (by omega) (by omega) (by omega) (fun k k0 k1 => if e9 : k = i then (by rw [e9]; omega) else (by have := hz k k0 (by omega); omega)) (by omega) ((show max z (f i) = z ∨ max z (f i) = f i by omega).elim (fun e9 => hze.elim (fun k h9 => ⟨k, h9.1, by omega, e9.trans h9.2.2⟩)) (fun e9 => ⟨i, by omega, by omega, e9⟩)) _ _ _ hP hD hS (lv_sub hl [2, 3, 1, 0] rfl)
  exact lp_7 _ 1 (f 0) (Nat.lt_succ_self _) (by omega) (by omega) (fun k k0 k1 => by rw [show k = 0 by omega]; exact Int.le_refl _) (hB 0 (by omega) (by omega)) (⟨0, by omega, by omega, rfl⟩) _ _ _ hP hD hS (lv_sub hl [2, 3, 1, 0] rfl)

set_option maxHeartbeats 4000000 in
set_option maxRecDepth 100000 in
theorem c_Grid_firstRow (l : Launch) (D : va_G) (cI cJ cZ : ClassId) (sz : Nat) (hg0 : Nat) (grw : Nat) (sx : Int) (tx : Int) (wd : Int) (sy : Int) (ty : Int) (hi : Int) (wr : Int64) (fr : Int) (gxs : Nat) (gys : Nat) (nc : Int) (ogx : Int) (ogy : Int) (tu : Int) (v : Int) (hgy : grP sy ty hi) (hv : -700000000 ≤ v ∧ v ≤ 700000000) : Met l y_Grid_firstRow (.code y_Grid_firstRow b_Grid_firstRow 3 (some .int) :: allw) ({ frames := 1, cells := 0, slots := 0, locals := 25 } : Room) (va_Pc [.ref hg0, .long (lI v)] (sr_U D classes [(cI, .int), (cJ, .long), (cZ, .boolean)] nestw [(hg0, .inr (0, [.ref grw, .int (iI sx), .int (iI tx), .int (iI wd), .int (iI sy), .int (iI ty), .int (iI hi), .long wr, .int (iI fr), .ref gxs, .ref gys, .int (iI nc), .int (iI ogx), .int (iI ogy), .long (lI tu)]))] sz)) (va_Qi (fun (r : Int32) => fun (_ : Unit) => r = iI (max 0 (-((sy - v) / ty)))) (sr_B D classes (va_A [(hg0, .inr (0, [.ref grw, .int (iI sx), .int (iI tx), .int (iI wd), .int (iI sy), .int (iI ty), .int (iI hi), .long wr, .int (iI fr), .ref gxs, .ref gys, .int (iI nc), .int (iI ogx), .int (iI ogy), .long (lI tu)]))] sz) (fun (_ : Unit) => [(hg0, .inr (0, [.ref grw, .int (iI sx), .int (iI tx), .int (iI wd), .int (iI sy), .int (iI ty), .int (iI hi), .long wr, .int (iI fr), .ref gxs, .ref gys, .int (iI nc), .int (iI ogx), .int (iI ogy), .long (lI tu)]))])) (va_A [(hg0, .inr (0, [.ref grw, .int (iI sx), .int (iI tx), .int (iI wd), .int (iI sy), .int (iI ty), .int (iI hi), .long wr, .int (iI fr), .ref gxs, .ref gys, .int (iI nc), .int (iI ogx), .int (iI ogy), .long (lI tu)]))] sz)) 0 0 (va_A [(hg0, .inr (0, [.ref grw, .int (iI sx), .int (iI tx), .int (iI wd), .int (iI sy), .int (iI ty), .int (iI hi), .long wr, .int (iI fr), .ref gxs, .ref gys, .int (iI nc), .int (iI ogx), .int (iI ogy), .long (lI tu)]))] sz) := by
  refine sr_enter (Qf := fun A => va_Qi (fun (r : Int32) => fun (_ : Unit) => r = iI (max 0 (-((sy - v) / ty)))) (sr_B D classes A (fun (_ : Unit) => [(hg0, .inr (0, [.ref grw, .int (iI sx), .int (iI tx), .int (iI wd), .int (iI sy), .int (iI ty), .int (iI hi), .long wr, .int (iI fr), .ref gxs, .ref gys, .int (iI nc), .int (iI ogx), .int (iI ogy), .long (lI tu)]))])) A) (by decide +kernel) rfl (Nat.le_of_ble_eq_true rfl) ?_
  intro p e s m below meth c A ls hx hb hr hml hown hlocks hin hts hsz hP hK hD hN hA hS hl
  have ht : ∀ w ∈ allw, w.before _ s = true := fun w h => hts w (List.mem_cons_of_mem _ h)
  have hsub : ∀ w ∈ allw, w ∈ _ := fun w h => List.mem_cons_of_mem (Cond.code y_Grid_firstRow b_Grid_firstRow 3 (some .int)) h
  have hl : lv_has ls 3 [(0, .ref hg0), (1, .long (lI v))] := hl
  have hP : va_P D classes [(hg0, .inr (0, [.ref grw, .int (iI sx), .int (iI tx), .int (iI wd), .int (iI sy), .int (iI ty), .int (iI hi), .long wr, .int (iI fr), .ref gxs, .ref gys, .int (iI nc), .int (iI ogx), .int (iI ogy), .long (lI tu)]))] s.heap := hP
  have hgy2 := hgy
  unfold grP at hgy2
  have hdv := div_bd (a := sy - v) (b := ty) (M := 800000000) (by omega) (by omega) (by omega) (by omega)
  refine lv_aload_n hx hb d_Grid_firstRow_0 rfl (lv_at hl 0 rfl) ?_
  refine va_get hx hb ht i_Grid hown hK hP 0 rfl rfl 5 (by decide) (ht _ k_f_Grid_22) (fun _ h9 => h9) rfl d_Grid_firstRow_1 ?_
  refine sr_if_gt (tgt := 9) hx hb d_Grid_firstRow_4 (by decide) (by unfold bI; omega) (fun c_4 => ?_) (fun c_4 => ?_)
  · -- T
    refine sr_lconst0 hx hb d_Grid_firstRow_9 ?_
    refine lv_aload_n hx hb d_Grid_firstRow_10 rfl (lv_at hl 0 rfl) ?_
    refine va_get hx hb ht i_Grid hown hK hP 0 rfl rfl 4 (by decide) (ht _ k_f_Grid_54) (fun _ h9 => h9) rfl d_Grid_firstRow_11 ?_
    refine sr_i2l hx hb d_Grid_firstRow_14 (by unfold bI; omega) ?_
    refine lv_lload_n hx hb d_Grid_firstRow_15 rfl (lv_at hl 1 rfl) ?_
    refine sr_lsub hx hb d_Grid_firstRow_16 ?_
    refine lv_aload_n hx hb d_Grid_firstRow_17 rfl (lv_at hl 0 rfl) ?_
    refine va_get hx hb ht i_Grid hown hK hP 0 rfl rfl 5 (by decide) (ht _ k_f_Grid_22) (fun _ h9 => h9) rfl d_Grid_firstRow_18 ?_
    refine sr_i2l hx hb d_Grid_firstRow_21 (by unfold bI; omega) ?_
    refine sr_cS_l (wr := [(hg0, .inr (0, [.ref grw, .int (iI sx), .int (iI tx), .int (iI wd), .int (iI sy), .int (iI ty), .int (iI hi), .long wr, .int (iI fr), .ref gxs, .ref gys, .int (iI nc), .int (iI ogx), .int (iI ogy), .long (lI tu)]))]) (As := [.long (lI (sy - v)), .long (lI ty)]) (rest := [.long (lI 0)]) hx hb hml hown hts (c_Math_floorDiv_JJJ l D cI cJ cZ _ (sy - v) ty (by unfold bL; omega) (by omega) (by unfold bL; omega)) (sr_cwS hsub hts k_cd_Math_floorDiv_JJJ k_in_Math k_m_Grid_106 k_st_Math_floorDiv_JJJ g_Math_floorDiv_JJJ ⟨Nat.le_of_ble_eq_true rfl, Nat.le_of_ble_eq_true rfl⟩) hns_ok hK hN hP hD hS hA [] [0] rfl (by decide) rfl (by decide) (by decide) rfl hl.1 rfl (Nat.le_of_ble_eq_true rfl) d_Grid_firstRow_22 ⟨Nat.le_of_ble_eq_true rfl, Nat.le_of_ble_eq_true rfl⟩ (fun r_22 u H locs hw_22 hP hD hS => ?_)
    have hP : va_P D classes [(hg0, .inr (0, [.ref grw, .int (iI sx), .int (iI tx), .int (iI wd), .int (iI sy), .int (iI ty), .int (iI hi), .long wr, .int (iI fr), .ref gxs, .ref gys, .int (iI nc), .int (iI ogx), .int (iI ogy), .long (lI tu)]))] H := hP
    have hD : va_D A [(hg0, .inr (0, [.ref grw, .int (iI sx), .int (iI tx), .int (iI wd), .int (iI sy), .int (iI ty), .int (iI hi), .long wr, .int (iI fr), .ref gxs, .ref gys, .int (iI nc), .int (iI ogx), .int (iI ogy), .long (lI tu)]))] := hD
    try dsimp only at hw_22
    subst hw_22
    refine sr_lneg hx hb d_Grid_firstRow_25 ?_
    refine sr_mmax_long hx hb (hml.trans hl.1.symm) hown (ht _ k_m_Grid_104) (ht _ k_st_max_long) (ht _ k_in_Math) (ht _ k_cd_max_long) (Nat.le_of_ble_eq_true rfl) (Nat.le_of_ble_eq_true rfl) (Nat.zero_le _) (Nat.zero_le _) (by unfold bL; decide) (by unfold bL; omega) d_Grid_firstRow_26 ?_
    refine sr_l2i hx hb d_Grid_firstRow_29 ?_
    exact sr_iret () hx hb hr hlocks hP hD hS d_Grid_firstRow_30 (rfl)
  · -- F
    exact absurd c_4 (by omega)

set_option maxHeartbeats 4000000 in
set_option maxRecDepth 100000 in
theorem c_Grid_lastRow (l : Launch) (D : va_G) (cI cJ cZ : ClassId) (sz : Nat) (hg0 : Nat) (grw : Nat) (sx : Int) (tx : Int) (wd : Int) (sy : Int) (ty : Int) (hi : Int) (wr : Int64) (fr : Int) (gxs : Nat) (gys : Nat) (nc : Int) (ogx : Int) (ogy : Int) (tu : Int) (v : Int) (hgy : grP sy ty hi) (hv : -700000000 ≤ v ∧ v ≤ 700000000) : Met l y_Grid_lastRow (.code y_Grid_lastRow b_Grid_lastRow 3 (some .int) :: allw) ({ frames := 1, cells := 0, slots := 0, locals := 25 } : Room) (va_Pc [.ref hg0, .long (lI v)] (sr_U D classes [(cI, .int), (cJ, .long), (cZ, .boolean)] nestw [(hg0, .inr (0, [.ref grw, .int (iI sx), .int (iI tx), .int (iI wd), .int (iI sy), .int (iI ty), .int (iI hi), .long wr, .int (iI fr), .ref gxs, .ref gys, .int (iI nc), .int (iI ogx), .int (iI ogy), .long (lI tu)]))] sz)) (va_Qi (fun (r : Int32) => fun (_ : Unit) => r = iI (min (hi - 1) ((v - sy) / ty))) (sr_B D classes (va_A [(hg0, .inr (0, [.ref grw, .int (iI sx), .int (iI tx), .int (iI wd), .int (iI sy), .int (iI ty), .int (iI hi), .long wr, .int (iI fr), .ref gxs, .ref gys, .int (iI nc), .int (iI ogx), .int (iI ogy), .long (lI tu)]))] sz) (fun (_ : Unit) => [(hg0, .inr (0, [.ref grw, .int (iI sx), .int (iI tx), .int (iI wd), .int (iI sy), .int (iI ty), .int (iI hi), .long wr, .int (iI fr), .ref gxs, .ref gys, .int (iI nc), .int (iI ogx), .int (iI ogy), .long (lI tu)]))])) (va_A [(hg0, .inr (0, [.ref grw, .int (iI sx), .int (iI tx), .int (iI wd), .int (iI sy), .int (iI ty), .int (iI hi), .long wr, .int (iI fr), .ref gxs, .ref gys, .int (iI nc), .int (iI ogx), .int (iI ogy), .long (lI tu)]))] sz)) 0 0 (va_A [(hg0, .inr (0, [.ref grw, .int (iI sx), .int (iI tx), .int (iI wd), .int (iI sy), .int (iI ty), .int (iI hi), .long wr, .int (iI fr), .ref gxs, .ref gys, .int (iI nc), .int (iI ogx), .int (iI ogy), .long (lI tu)]))] sz) := by
  refine sr_enter (Qf := fun A => va_Qi (fun (r : Int32) => fun (_ : Unit) => r = iI (min (hi - 1) ((v - sy) / ty))) (sr_B D classes A (fun (_ : Unit) => [(hg0, .inr (0, [.ref grw, .int (iI sx), .int (iI tx), .int (iI wd), .int (iI sy), .int (iI ty), .int (iI hi), .long wr, .int (iI fr), .ref gxs, .ref gys, .int (iI nc), .int (iI ogx), .int (iI ogy), .long (lI tu)]))])) A) (by decide +kernel) rfl (Nat.le_of_ble_eq_true rfl) ?_
  intro p e s m below meth c A ls hx hb hr hml hown hlocks hin hts hsz hP hK hD hN hA hS hl
  have ht : ∀ w ∈ allw, w.before _ s = true := fun w h => hts w (List.mem_cons_of_mem _ h)
  have hsub : ∀ w ∈ allw, w ∈ _ := fun w h => List.mem_cons_of_mem (Cond.code y_Grid_lastRow b_Grid_lastRow 3 (some .int)) h
  have hl : lv_has ls 3 [(0, .ref hg0), (1, .long (lI v))] := hl
  have hP : va_P D classes [(hg0, .inr (0, [.ref grw, .int (iI sx), .int (iI tx), .int (iI wd), .int (iI sy), .int (iI ty), .int (iI hi), .long wr, .int (iI fr), .ref gxs, .ref gys, .int (iI nc), .int (iI ogx), .int (iI ogy), .long (lI tu)]))] s.heap := hP
  have hgy2 := hgy
  unfold grP at hgy2
  have hdv := div_bd (a := v - sy) (b := ty) (M := 800000000) (by omega) (by omega) (by omega) (by omega)
  refine lv_aload_n hx hb d_Grid_lastRow_0 rfl (lv_at hl 0 rfl) ?_
  refine va_get hx hb ht i_Grid hown hK hP 0 rfl rfl 5 (by decide) (ht _ k_f_Grid_22) (fun _ h9 => h9) rfl d_Grid_lastRow_1 ?_
  refine sr_if_gt (tgt := 9) hx hb d_Grid_lastRow_4 (by decide) (by unfold bI; omega) (fun c_4 => ?_) (fun c_4 => ?_)
  · -- T
    refine lv_aload_n hx hb d_Grid_lastRow_9 rfl (lv_at hl 0 rfl) ?_
    refine va_get hx hb ht i_Grid hown hK hP 0 rfl rfl 6 (by decide) (ht _ k_f_Grid_25) (fun _ h9 => h9) rfl d_Grid_lastRow_10 ?_
    refine sr_iconst hx hb d_Grid_lastRow_13 ?_
    refine sr_isub hx hb d_Grid_lastRow_14 ?_
    refine sr_i2l hx hb d_Grid_lastRow_15 (by unfold bI; omega) ?_
    refine lv_lload_n hx hb d_Grid_lastRow_16 rfl (lv_at hl 1 rfl) ?_
    refine lv_aload_n hx hb d_Grid_lastRow_17 rfl (lv_at hl 0 rfl) ?_
    refine va_get hx hb ht i_Grid hown hK hP 0 rfl rfl 4 (by decide) (ht _ k_f_Grid_54) (fun _ h9 => h9) rfl d_Grid_lastRow_18 ?_
    refine sr_i2l hx hb d_Grid_lastRow_21 (by unfold bI; omega) ?_
    refine sr_lsub hx hb d_Grid_lastRow_22 ?_
    refine lv_aload_n hx hb d_Grid_lastRow_23 rfl (lv_at hl 0 rfl) ?_
    refine va_get hx hb ht i_Grid hown hK hP 0 rfl rfl 5 (by decide) (ht _ k_f_Grid_22) (fun _ h9 => h9) rfl d_Grid_lastRow_24 ?_
    refine sr_i2l hx hb d_Grid_lastRow_27 (by unfold bI; omega) ?_
    refine sr_cS_l (wr := [(hg0, .inr (0, [.ref grw, .int (iI sx), .int (iI tx), .int (iI wd), .int (iI sy), .int (iI ty), .int (iI hi), .long wr, .int (iI fr), .ref gxs, .ref gys, .int (iI nc), .int (iI ogx), .int (iI ogy), .long (lI tu)]))]) (As := [.long (lI (v - sy)), .long (lI ty)]) (rest := [.long (lI (hi - 1))]) hx hb hml hown hts (c_Math_floorDiv_JJJ l D cI cJ cZ _ (v - sy) ty (by unfold bL; omega) (by omega) (by unfold bL; omega)) (sr_cwS hsub hts k_cd_Math_floorDiv_JJJ k_in_Math k_m_Grid_106 k_st_Math_floorDiv_JJJ g_Math_floorDiv_JJJ ⟨Nat.le_of_ble_eq_true rfl, Nat.le_of_ble_eq_true rfl⟩) hns_ok hK hN hP hD hS hA [] [0] rfl (by decide) rfl (by decide) (by decide) rfl hl.1 rfl (Nat.le_of_ble_eq_true rfl) d_Grid_lastRow_28 ⟨Nat.le_of_ble_eq_true rfl, Nat.le_of_ble_eq_true rfl⟩ (fun r_28 u H locs hw_28 hP hD hS => ?_)
    have hP : va_P D classes [(hg0, .inr (0, [.ref grw, .int (iI sx), .int (iI tx), .int (iI wd), .int (iI sy), .int (iI ty), .int (iI hi), .long wr, .int (iI fr), .ref gxs, .ref gys, .int (iI nc), .int (iI ogx), .int (iI ogy), .long (lI tu)]))] H := hP
    have hD : va_D A [(hg0, .inr (0, [.ref grw, .int (iI sx), .int (iI tx), .int (iI wd), .int (iI sy), .int (iI ty), .int (iI hi), .long wr, .int (iI fr), .ref gxs, .ref gys, .int (iI nc), .int (iI ogx), .int (iI ogy), .long (lI tu)]))] := hD
    try dsimp only at hw_28
    subst hw_28
    refine sr_mmin_long hx hb (hml.trans hl.1.symm) hown (ht _ k_m_Grid_102) (ht _ k_st_min_long) (ht _ k_in_Math) (ht _ k_cd_min_long) (Nat.le_of_ble_eq_true rfl) (Nat.le_of_ble_eq_true rfl) (Nat.zero_le _) (Nat.zero_le _) (by unfold bL; omega) (by unfold bL; omega) d_Grid_lastRow_31 ?_
    refine sr_l2i hx hb d_Grid_lastRow_34 ?_
    exact sr_iret () hx hb hr hlocks hP hD hS d_Grid_lastRow_35 (rfl)
  · -- F
    exact absurd c_4 (by omega)

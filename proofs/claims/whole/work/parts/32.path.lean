set_option maxHeartbeats 4000000 in
set_option maxRecDepth 100000 in
theorem c_Path_between (l : Launch) (D : va_G) (cI cJ cZ : ClassId) (sz : Nat) (p0 : Int) (c0 : Int) (d0 : Int) (q0 : Int) (k : Int) (hp : coP p0) (hc : coP c0) (hd0 : coP d0) (hq : coP q0) (h1 : 1 ≤ k) (h2 : k ≤ 16) : Met l y_Path_between (.code y_Path_between b_Path_between 7 (some .int) :: allw) ({ frames := 1, cells := 0, slots := 0, locals := 22 } : Room) (va_Pc [.int (iI p0), .int (iI c0), .int (iI d0), .int (iI q0), .int (iI k)] (sr_U D classes [(cI, .int), (cJ, .long), (cZ, .boolean)] nestw [] sz)) (va_Qi (fun (r : Int32) => fun (_ : Unit) => r = iI (bez p0 c0 d0 q0 k)) (sr_B D classes (va_A [] sz) (fun (_ : Unit) => [])) (va_A [] sz)) 0 0 (va_A [] sz) := by
  refine sr_enter (Qf := fun A => va_Qi (fun (r : Int32) => fun (_ : Unit) => r = iI (bez p0 c0 d0 q0 k)) (sr_B D classes A (fun (_ : Unit) => [])) A) (by decide +kernel) rfl (Nat.le_of_ble_eq_true rfl) ?_
  intro p e s m below meth c A ls hx hb hr hml hown hlocks hin hts hsz hP hK hD hN hA hS hl
  have ht : ∀ w ∈ allw, w.before _ s = true := fun w h => hts w (List.mem_cons_of_mem _ h)
  have hsub : ∀ w ∈ allw, w ∈ _ := fun w h => List.mem_cons_of_mem (Cond.code y_Path_between b_Path_between 7 (some .int)) h
  have hl : lv_has ls 7 [(0, .int (iI p0)), (1, .int (iI c0)), (2, .int (iI d0)), (3, .int (iI q0)), (4, .int (iI k))] := hl
  have hP : va_P D classes [] s.heap := hP
  have hbd := bez_bd hp hc hd0 hq h1 h2
  refine sr_bipush hx hb d_Path_between_0 (by decide) ?_
  refine lv_iload hx hb d_Path_between_2 (lv_at hl 4 rfl) ?_
  refine sr_isub hx hb d_Path_between_4 ?_
  refine lv_istore (lv' := [(5, .int (iI (16 - k))), (0, .int (iI p0)), (1, .int (iI c0)), (2, .int (iI d0)), (3, .int (iI q0)), (4, .int (iI k))]) hx hb d_Path_between_5 hl (by decide) rfl (fun ls hl => ?_)
  refine lv_iload_n hx hb d_Path_between_7 rfl (lv_at hl 1 rfl) ?_
  refine lv_iload hx hb d_Path_between_8 (lv_at hl 0 rfl) ?_
  refine sr_imul hx hb d_Path_between_10 ?_
  refine lv_iload hx hb d_Path_between_11 (lv_at hl 0 rfl) ?_
  refine sr_imul hx hb d_Path_between_13 ?_
  refine lv_iload hx hb d_Path_between_14 (lv_at hl 0 rfl) ?_
  refine sr_imul hx hb d_Path_between_16 ?_
  refine sr_iconst hx hb d_Path_between_17 ?_
  refine lv_iload_n hx hb d_Path_between_18 rfl (lv_at hl 2 rfl) ?_
  refine sr_imul hx hb d_Path_between_19 ?_
  refine lv_iload hx hb d_Path_between_20 (lv_at hl 5 rfl) ?_
  refine sr_imul hx hb d_Path_between_22 ?_
  refine lv_iload hx hb d_Path_between_23 (lv_at hl 0 rfl) ?_
  refine sr_imul hx hb d_Path_between_25 ?_
  refine lv_iload hx hb d_Path_between_26 (lv_at hl 0 rfl) ?_
  refine sr_imul hx hb d_Path_between_28 ?_
  refine sr_iadd hx hb d_Path_between_29 ?_
  refine sr_iconst hx hb d_Path_between_30 ?_
  refine lv_iload_n hx hb d_Path_between_31 rfl (lv_at hl 3 rfl) ?_
  refine sr_imul hx hb d_Path_between_32 ?_
  refine lv_iload hx hb d_Path_between_33 (lv_at hl 5 rfl) ?_
  refine sr_imul hx hb d_Path_between_35 ?_
  refine lv_iload hx hb d_Path_between_36 (lv_at hl 5 rfl) ?_
  refine sr_imul hx hb d_Path_between_38 ?_
  refine lv_iload hx hb d_Path_between_39 (lv_at hl 0 rfl) ?_
  refine sr_imul hx hb d_Path_between_41 ?_
  refine sr_iadd hx hb d_Path_between_42 ?_
  refine lv_iload_n hx hb d_Path_between_43 rfl (lv_at hl 4 rfl) ?_
  refine lv_iload hx hb d_Path_between_44 (lv_at hl 5 rfl) ?_
  refine sr_imul hx hb d_Path_between_46 ?_
  refine lv_iload hx hb d_Path_between_47 (lv_at hl 5 rfl) ?_
  refine sr_imul hx hb d_Path_between_49 ?_
  refine lv_iload hx hb d_Path_between_50 (lv_at hl 5 rfl) ?_
  refine sr_imul hx hb d_Path_between_52 ?_
  refine sr_iadd hx hb d_Path_between_53 ?_
  refine lv_istore (lv' := [(6, .int (iI ((((((p0 * (16 - k)) * (16 - k)) * (16 - k)) + ((((3 * c0) * k) * (16 - k)) * (16 - k))) + ((((3 * d0) * k) * k) * (16 - k))) + (((q0 * k) * k) * k)))), (5, .int (iI (16 - k))), (0, .int (iI p0)), (1, .int (iI c0)), (2, .int (iI d0)), (3, .int (iI q0)), (4, .int (iI k))]) hx hb d_Path_between_54 hl (by decide) rfl (fun ls hl => ?_)
  refine lv_iload hx hb d_Path_between_56 (lv_at hl 0 rfl) ?_
  refine sr_sipush hx hb d_Path_between_58 (by decide) ?_
  refine sr_iadd hx hb d_Path_between_61 ?_
  refine sr_sipush hx hb d_Path_between_62 (by decide) ?_
  refine sr_cS_i (wr := []) (As := [.int (iI (((((((p0 * (16 - k)) * (16 - k)) * (16 - k)) + ((((3 * c0) * k) * (16 - k)) * (16 - k))) + ((((3 * d0) * k) * k) * (16 - k))) + (((q0 * k) * k) * k)) + 2048)), .int (iI 4096)]) (rest := []) hx hb hml hown hts (c_Math_floorDiv_III l D cI cJ cZ _ (((((((p0 * (16 - k)) * (16 - k)) * (16 - k)) + ((((3 * c0) * k) * (16 - k)) * (16 - k))) + ((((3 * d0) * k) * k) * (16 - k))) + (((q0 * k) * k) * k)) + 2048) 4096 ((by unfold bI; generalize (p0 * (16 - k) * (16 - k) * (16 - k) + 3 * c0 * k * (16 - k) * (16 - k) + 3 * d0 * k * k * (16 - k) + q0 * k * k * k) = z at hbd ⊢; omega)) (by decide) (by unfold bI; decide)) (sr_cwS hsub hts k_cd_Math_floorDiv_III k_in_Math k_m_Path_52 k_st_Math_floorDiv_III g_Math_floorDiv_III ⟨Nat.le_of_ble_eq_true rfl, Nat.le_of_ble_eq_true rfl⟩) hns_ok hK hN hP hD hS hA [] [] rfl (by decide) rfl (by decide) (by decide) rfl hl.1 rfl (Nat.le_of_ble_eq_true rfl) d_Path_between_65 ⟨Nat.le_of_ble_eq_true rfl, Nat.le_of_ble_eq_true rfl⟩ (fun r_65 u H locs hw_65 hP hD hS => ?_)
  have hP : va_P D classes [] H := hP
  have hD : va_D A [] := hD
  try dsimp only at hw_65
  subst hw_65
  exact sr_iret () hx hb hr hlocks hP hD hS d_Path_between_68 (rfl)

set_option maxHeartbeats 4000000 in
set_option maxRecDepth 100000 in
theorem c_Path_put (l : Launch) (D : va_G) (cI cJ cZ : ClassId) (sz : Nat) (hp : Nat) (pxs : Nat) (pys : Nat) (np : Int) (pfs : Nat) (psh : Nat) (ns : Int) (no : Int) (cap : Nat) (px : Int → Int) (py : Int → Int) (x0 : Int) (y0 : Int) (h0 : 0 ≤ np) (h1 : np < 1024) (h2 : np ≤ cap) (hc : capP cap) : Met l y_Path_put (.code y_Path_put b_Path_put 4 none :: allw) ({ frames := 2, cells := gF np cap - cap, slots := 4 * (gF np cap - cap), locals := 52 } : Room) (va_Pc [.ref hp, .int (iI x0), .int (iI y0)] (sr_U D classes [(cI, .int), (cJ, .long), (cZ, .boolean)] nestw [(hp, .inr (2, [.ref pxs, .ref pys, .int (iI np), .ref pfs, .ref psh, .int (iI ns), .int (iI no)])), (pxs, .inl (cI, cap, .inl (zI px))), (pys, .inl (cI, cap, .inl (zI py)))] sz)) (va_Qv (fun (u : Nat × Nat × (Int → Int) × (Int → Int)) => (∀ j, 0 ≤ j → j < np → u.2.2.1 j = px j) ∧ u.2.2.1 np = x0 ∧ (∀ j, 0 ≤ j → j < np → u.2.2.2 j = py j) ∧ u.2.2.2 np = y0) (sr_B D classes (va_A [(hp, .inr (2, [.ref pxs, .ref pys, .int (iI np), .ref pfs, .ref psh, .int (iI ns), .int (iI no)])), (pxs, .inl (cI, cap, .inl (zI px))), (pys, .inl (cI, cap, .inl (zI py)))] sz) (fun (u : Nat × Nat × (Int → Int) × (Int → Int)) => [(hp, .inr (2, [.ref u.1, .ref u.2.1, .int (iI (np + 1)), .ref pfs, .ref psh, .int (iI ns), .int (iI no)])), (u.1, .inl (cI, gF np cap, .inl (zI u.2.2.1))), (u.2.1, .inl (cI, gF np cap, .inl (zI u.2.2.2)))])) (va_A [(hp, .inr (2, [.ref pxs, .ref pys, .int (iI np), .ref pfs, .ref psh, .int (iI ns), .int (iI no)])), (pxs, .inl (cI, cap, .inl (zI px))), (pys, .inl (cI, cap, .inl (zI py)))] sz)) (gF np cap - cap) (4 * (gF np cap - cap)) (va_A [(hp, .inr (2, [.ref pxs, .ref pys, .int (iI np), .ref pfs, .ref psh, .int (iI ns), .int (iI no)])), (pxs, .inl (cI, cap, .inl (zI px))), (pys, .inl (cI, cap, .inl (zI py)))] sz) := by
  refine sr_enter (Qf := fun A => va_Qv (fun (u : Nat × Nat × (Int → Int) × (Int → Int)) => (∀ j, 0 ≤ j → j < np → u.2.2.1 j = px j) ∧ u.2.2.1 np = x0 ∧ (∀ j, 0 ≤ j → j < np → u.2.2.2 j = py j) ∧ u.2.2.2 np = y0) (sr_B D classes A (fun (u : Nat × Nat × (Int → Int) × (Int → Int)) => [(hp, .inr (2, [.ref u.1, .ref u.2.1, .int (iI (np + 1)), .ref pfs, .ref psh, .int (iI ns), .int (iI no)])), (u.1, .inl (cI, gF np cap, .inl (zI u.2.2.1))), (u.2.1, .inl (cI, gF np cap, .inl (zI u.2.2.2)))])) A) (by decide +kernel) rfl (Nat.le_of_ble_eq_true rfl) ?_
  intro p e s m below meth c A ls hx hb hr hml hown hlocks hin hts hsz hP hK hD hN hA hS hl
  have ht : ∀ w ∈ allw, w.before _ s = true := fun w h => hts w (List.mem_cons_of_mem _ h)
  have hsub : ∀ w ∈ allw, w ∈ _ := fun w h => List.mem_cons_of_mem (Cond.code y_Path_put b_Path_put 4 none) h
  have hl : lv_has ls 4 [(0, .ref hp), (1, .int (iI x0)), (2, .int (iI y0))] := hl
  have hP : va_P D classes [(hp, .inr (2, [.ref pxs, .ref pys, .int (iI np), .ref pfs, .ref psh, .int (iI ns), .int (iI no)])), (pxs, .inl (cI, cap, .inl (zI px))), (pys, .inl (cI, cap, .inl (zI py)))] s.heap := hP
  have hcl := capP_le hc
  refine lv_aload_n hx hb d_Path_put_0 rfl (lv_at hl 0 rfl) ?_
  refine va_get hx hb ht i_Path hown hK hP 0 rfl rfl 2 (by decide) (ht _ k_f_Path_29) (fun _ h9 => h9) rfl d_Path_put_1 ?_
  refine sr_sipush hx hb d_Path_put_4 (by decide) ?_
  refine sr_icmp_lt (tgt := 11) hx hb d_Path_put_7 (by decide) (by unfold bI; omega) (by unfold bI; decide) (fun c_7 => ?_) (fun c_7 => ?_)
  · -- T
    refine lv_aload_n hx hb d_Path_put_11 rfl (lv_at hl 0 rfl) ?_
    refine va_get hx hb ht i_Path hown hK hP 0 rfl rfl 2 (by decide) (ht _ k_f_Path_29) (fun _ h9 => h9) rfl d_Path_put_12 ?_
    refine lv_aload_n hx hb d_Path_put_15 rfl (lv_at hl 0 rfl) ?_
    refine va_get hx hb ht i_Path hown hK hP 0 rfl rfl 0 (by decide) (ht _ k_f_Path_9) (fun _ h9 => h9) rfl d_Path_put_16 ?_
    refine sr_alen hx hb hK hP 1 0 rfl rfl d_Path_put_19 ?_
    refine sr_icmp_lt (tgt := 61) hx hb d_Path_put_20 (by decide) (by unfold bI; omega) (by unfold bI; omega) (fun c_20 => ?_) (fun c_20 => ?_)
    · -- T
      have hg : gF np cap = cap := if_pos (by omega)
      rw [hg]
      refine lv_aload_n hx hb d_Path_put_61 rfl (lv_at hl 0 rfl) ?_
      refine va_get hx hb ht i_Path hown hK hP 0 rfl rfl 0 (by decide) (ht _ k_f_Path_9) (fun _ h9 => h9) rfl d_Path_put_62 ?_
      refine lv_aload_n hx hb d_Path_put_65 rfl (lv_at hl 0 rfl) ?_
      refine va_get hx hb ht i_Path hown hK hP 0 rfl rfl 2 (by decide) (ht _ k_f_Path_29) (fun _ h9 => h9) rfl d_Path_put_66 ?_
      refine lv_iload_n hx hb d_Path_put_69 rfl (lv_at hl 1 rfl) ?_
      refine sr_iastZ hx hb hK hP hD hS 1 0 rfl rfl (by omega) (by omega) (by omega) d_Path_put_70 (fun H locs hP hD hS => ?_)
      have hP : va_P D classes [(hp, .inr (2, [.ref pxs, .ref pys, .int (iI np), .ref pfs, .ref psh, .int (iI ns), .int (iI no)])), (pxs, .inl (cI, cap, .inl (zI (zup px np x0)))), (pys, .inl (cI, cap, .inl (zI py)))] H := hP
      have hD : va_D A [(hp, .inr (2, [.ref pxs, .ref pys, .int (iI np), .ref pfs, .ref psh, .int (iI ns), .int (iI no)])), (pxs, .inl (cI, cap, .inl (zI (zup px np x0)))), (pys, .inl (cI, cap, .inl (zI py)))] := hD
      refine lv_aload_n hx hb d_Path_put_71 rfl (lv_at hl 0 rfl) ?_
      refine va_get hx hb ht i_Path hown hK hP 0 rfl rfl 1 (by decide) (ht _ k_f_Path_15) (fun _ h9 => h9) rfl d_Path_put_72 ?_
      refine lv_aload_n hx hb d_Path_put_75 rfl (lv_at hl 0 rfl) ?_
      refine va_get hx hb ht i_Path hown hK hP 0 rfl rfl 2 (by decide) (ht _ k_f_Path_29) (fun _ h9 => h9) rfl d_Path_put_76 ?_
      refine lv_iload_n hx hb d_Path_put_79 rfl (lv_at hl 2 rfl) ?_
      refine sr_iastZ hx hb hK hP hD hS 2 0 rfl rfl (by omega) (by omega) (by omega) d_Path_put_80 (fun H locs hP hD hS => ?_)
      have hP : va_P D classes [(hp, .inr (2, [.ref pxs, .ref pys, .int (iI np), .ref pfs, .ref psh, .int (iI ns), .int (iI no)])), (pxs, .inl (cI, cap, .inl (zI (zup px np x0)))), (pys, .inl (cI, cap, .inl (zI (zup py np y0))))] H := hP
      have hD : va_D A [(hp, .inr (2, [.ref pxs, .ref pys, .int (iI np), .ref pfs, .ref psh, .int (iI ns), .int (iI no)])), (pxs, .inl (cI, cap, .inl (zI (zup px np x0)))), (pys, .inl (cI, cap, .inl (zI (zup py np y0))))] := hD
      refine lv_aload_n hx hb d_Path_put_81 rfl (lv_at hl 0 rfl) ?_
      refine lv_dup hx hb d_Path_put_82 rfl ?_
      refine va_get hx hb ht i_Path hown hK hP 0 rfl rfl 2 (by decide) (ht _ k_f_Path_29) (fun _ h9 => h9) rfl d_Path_put_83 ?_
      refine sr_iconst hx hb d_Path_put_86 ?_
      refine sr_iadd hx hb d_Path_put_87 ?_
      refine va_put (ty := .int) hx hb ht i_Path t_Path t_Path_ok n_Path hown hK hP hD hS 0 rfl rfl 2 (by decide) (ht _ k_f_Path_29) (fun _ h9 => h9) rfl (t_Path_ok 2 (by decide)) rfl rfl (Nat.le_of_ble_eq_true rfl) d_Path_put_88 (fun H locs hP hD hS => ?_)
      have hP : va_P D classes [(hp, .inr (2, [.ref pxs, .ref pys, .int (iI (np + 1)), .ref pfs, .ref psh, .int (iI ns), .int (iI no)])), (pxs, .inl (cI, cap, .inl (zI (zup px np x0)))), (pys, .inl (cI, cap, .inl (zI (zup py np y0))))] H := hP
      have hD : va_D A [(hp, .inr (2, [.ref pxs, .ref pys, .int (iI (np + 1)), .ref pfs, .ref psh, .int (iI ns), .int (iI no)])), (pxs, .inl (cI, cap, .inl (zI (zup px np x0)))), (pys, .inl (cI, cap, .inl (zI (zup py np y0))))] := hD
      refine W.widen (k := cap - cap) (n := 4 * (cap - cap)) (by omega) (by omega) ?_
      exact sr_vret (pxs, pys, zup px np x0, zup py np y0) hx hb hr hlocks hP hD hS d_Path_put_91 (⟨fun j h8 h9 => (zup_n (by omega)).trans rfl, zup_s _ _ _, fun j h8 h9 => (zup_n (by omega)).trans rfl, zup_s _ _ _⟩)
    · -- F
      have hg : gF np cap = 2 * cap := if_neg (by omega)
      have hhf := capP_half hc h1 c_20
      rw [hg]
      refine sr_sipush hx hb d_Path_put_23 (by decide) ?_
      refine sr_iconst hx hb d_Path_put_26 ?_
      refine lv_aload_n hx hb d_Path_put_27 rfl (lv_at hl 0 rfl) ?_
      refine va_get hx hb ht i_Path hown hK hP 0 rfl rfl 0 (by decide) (ht _ k_f_Path_9) (fun _ h9 => h9) rfl d_Path_put_28 ?_
      refine sr_alen hx hb hK hP 1 0 rfl rfl d_Path_put_31 ?_
      refine sr_imul hx hb d_Path_put_32 ?_
      refine sr_mmin hx hb (hml.trans hl.1.symm) hown (ht _ k_m_Path_36) (ht _ k_st_min) (ht _ k_in_Math) (ht _ k_cd_min) (Nat.le_of_ble_eq_true rfl) (Nat.le_of_ble_eq_true rfl) (by show 0 ≤ 2 * cap - cap; omega) (by show 0 ≤ 4 * (2 * cap - cap); omega) (by unfold bI; decide) (by unfold bI; omega) d_Path_put_33 ?_
      refine sr_eqI (z := ((2 * cap : Nat) : Int)) (congrArg iI (by omega)) ?_
      refine lv_istore_n (lv' := [(3, .int (iI ((2 * cap : Nat) : Int))), (0, .ref hp), (1, .int (iI x0)), (2, .int (iI y0))]) hx hb d_Path_put_36 rfl hl (by decide) rfl (fun ls hl => ?_)
      refine lv_aload_n hx hb d_Path_put_37 rfl (lv_at hl 1 rfl) ?_
      refine lv_aload_n hx hb d_Path_put_38 rfl (lv_at hl 1 rfl) ?_
      refine va_get hx hb ht i_Path hown hK hP 0 rfl rfl 0 (by decide) (ht _ k_f_Path_9) (fun _ h9 => h9) rfl d_Path_put_39 ?_
      refine lv_iload_n hx hb d_Path_put_42 rfl (lv_at hl 0 rfl) ?_
      refine sr_cS_r (wr := [(hp, .inr (2, [.ref pxs, .ref pys, .int (iI np), .ref pfs, .ref psh, .int (iI ns), .int (iI no)])), (pys, .inl (cI, cap, .inl (zI py)))]) (As := [.ref pxs, .int (iI ((2 * cap : Nat) : Int))]) (rest := [.ref hp]) hx hb hml hown hts (c_Arr_copyOf_AIIAI l D cI cJ cZ _ pxs cap px (2 * cap) (by omega) (by omega)) (sr_cwS hsub hts k_cd_Arr_copyOf_AIIAI k_in_Arr k_m_Path_42 k_st_Arr_copyOf_AIIAI g_Arr_copyOf_AIIAI ⟨Nat.le_of_ble_eq_true rfl, Nat.le_of_ble_eq_true rfl⟩) hns_ok hK hN hP hD hS hA [1] [0, 2] rfl (by decide) rfl (by decide) (by decide) rfl hl.1 rfl (Nat.le_of_ble_eq_true rfl) d_Path_put_43 ⟨by show 0 + 1 ≤ 2 * cap - cap; omega, by show 0 + 2 * cap ≤ 4 * (2 * cap - cap); omega⟩ (fun u q43 H locs hw_43 hP hD hS => ?_)
      have hP : va_P D classes [(hp, .inr (2, [.ref pxs, .ref pys, .int (iI np), .ref pfs, .ref psh, .int (iI ns), .int (iI no)])), (pys, .inl (cI, cap, .inl (zI py))), (pxs, .inl (cI, cap, .inl (zI px))), (q43, .inl (cI, (2 * cap), .inl (zI (zcp px cap))))] H := hP
      have hD : va_D A [(hp, .inr (2, [.ref pxs, .ref pys, .int (iI np), .ref pfs, .ref psh, .int (iI ns), .int (iI no)])), (pys, .inl (cI, cap, .inl (zI py))), (pxs, .inl (cI, cap, .inl (zI px))), (q43, .inl (cI, (2 * cap), .inl (zI (zcp px cap))))] := hD
      try dsimp only at hw_43
      refine va_put (ty := .array .int) hx hb ht i_Path t_Path t_Path_ok n_Path hown hK hP hD hS 0 rfl rfl 0 (by decide) (ht _ k_f_Path_9) (fun _ h9 => h9) rfl (t_Path_ok 0 (by decide)) rfl rfl (Nat.le_of_ble_eq_true rfl) d_Path_put_46 (fun H locs hP hD hS => ?_)
      have hP : va_P D classes [(hp, .inr (2, [.ref q43, .ref pys, .int (iI np), .ref pfs, .ref psh, .int (iI ns), .int (iI no)])), (pys, .inl (cI, cap, .inl (zI py))), (pxs, .inl (cI, cap, .inl (zI px))), (q43, .inl (cI, (2 * cap), .inl (zI (zcp px cap))))] H := hP
      have hD : va_D A [(hp, .inr (2, [.ref q43, .ref pys, .int (iI np), .ref pfs, .ref psh, .int (iI ns), .int (iI no)])), (pys, .inl (cI, cap, .inl (zI py))), (pxs, .inl (cI, cap, .inl (zI px))), (q43, .inl (cI, (2 * cap), .inl (zI (zcp px cap))))] := hD
      refine lv_aload_n hx hb d_Path_put_49 rfl (lv_at hl 1 rfl) ?_
      refine lv_aload_n hx hb d_Path_put_50 rfl (lv_at hl 1 rfl) ?_
      refine va_get hx hb ht i_Path hown hK hP 0 rfl rfl 1 (by decide) (ht _ k_f_Path_15) (fun _ h9 => h9) rfl d_Path_put_51 ?_
      refine lv_iload_n hx hb d_Path_put_54 rfl (lv_at hl 0 rfl) ?_
      refine sr_cS_r (wr := [(hp, .inr (2, [.ref q43, .ref pys, .int (iI np), .ref pfs, .ref psh, .int (iI ns), .int (iI no)])), (pxs, .inl (cI, cap, .inl (zI px))), (q43, .inl (cI, (2 * cap), .inl (zI (zcp px cap))))]) (As := [.ref pys, .int (iI ((2 * cap : Nat) : Int))]) (rest := [.ref hp]) hx hb hml hown hts (c_Arr_copyOf_AIIAI l D cI cJ cZ _ pys cap py (2 * cap) (by omega) (by omega)) (sr_cwS hsub hts k_cd_Arr_copyOf_AIIAI k_in_Arr k_m_Path_42 k_st_Arr_copyOf_AIIAI g_Arr_copyOf_AIIAI ⟨Nat.le_of_ble_eq_true rfl, Nat.le_of_ble_eq_true rfl⟩) hns_ok hK hN hP hD hS hA [1] [0, 2, 3] rfl (by decide) rfl (by decide) (by decide) rfl hl.1 rfl (Nat.le_of_ble_eq_true rfl) d_Path_put_55 ⟨by show 0 + 1 + 1 ≤ 2 * cap - cap; omega, by show 0 + 2 * cap + 2 * cap ≤ 4 * (2 * cap - cap); omega⟩ (fun u q55 H locs hw_55 hP hD hS => ?_)
      have hP : va_P D classes [(hp, .inr (2, [.ref q43, .ref pys, .int (iI np), .ref pfs, .ref psh, .int (iI ns), .int (iI no)])), (pxs, .inl (cI, cap, .inl (zI px))), (q43, .inl (cI, (2 * cap), .inl (zI (zcp px cap)))), (pys, .inl (cI, cap, .inl (zI py))), (q55, .inl (cI, (2 * cap), .inl (zI (zcp py cap))))] H := hP
      have hD : va_D A [(hp, .inr (2, [.ref q43, .ref pys, .int (iI np), .ref pfs, .ref psh, .int (iI ns), .int (iI no)])), (pxs, .inl (cI, cap, .inl (zI px))), (q43, .inl (cI, (2 * cap), .inl (zI (zcp px cap)))), (pys, .inl (cI, cap, .inl (zI py))), (q55, .inl (cI, (2 * cap), .inl (zI (zcp py cap))))] := hD
      try dsimp only at hw_55
      refine va_put (ty := .array .int) hx hb ht i_Path t_Path t_Path_ok n_Path hown hK hP hD hS 0 rfl rfl 1 (by decide) (ht _ k_f_Path_15) (fun _ h9 => h9) rfl (t_Path_ok 1 (by decide)) rfl rfl (Nat.le_of_ble_eq_true rfl) d_Path_put_58 (fun H locs hP hD hS => ?_)
      have hP : va_P D classes [(hp, .inr (2, [.ref q43, .ref q55, .int (iI np), .ref pfs, .ref psh, .int (iI ns), .int (iI no)])), (pxs, .inl (cI, cap, .inl (zI px))), (q43, .inl (cI, (2 * cap), .inl (zI (zcp px cap)))), (pys, .inl (cI, cap, .inl (zI py))), (q55, .inl (cI, (2 * cap), .inl (zI (zcp py cap))))] H := hP
      have hD : va_D A [(hp, .inr (2, [.ref q43, .ref q55, .int (iI np), .ref pfs, .ref psh, .int (iI ns), .int (iI no)])), (pxs, .inl (cI, cap, .inl (zI px))), (q43, .inl (cI, (2 * cap), .inl (zI (zcp px cap)))), (pys, .inl (cI, cap, .inl (zI py))), (q55, .inl (cI, (2 * cap), .inl (zI (zcp py cap))))] := hD
      refine lv_aload_n hx hb d_Path_put_61 rfl (lv_at hl 1 rfl) ?_
      refine va_get hx hb ht i_Path hown hK hP 0 rfl rfl 0 (by decide) (ht _ k_f_Path_9) (fun _ h9 => h9) rfl d_Path_put_62 ?_
      refine lv_aload_n hx hb d_Path_put_65 rfl (lv_at hl 1 rfl) ?_
      refine va_get hx hb ht i_Path hown hK hP 0 rfl rfl 2 (by decide) (ht _ k_f_Path_29) (fun _ h9 => h9) rfl d_Path_put_66 ?_
      refine lv_iload_n hx hb d_Path_put_69 rfl (lv_at hl 2 rfl) ?_
      refine sr_iastZ hx hb hK hP hD hS 2 0 rfl rfl (by omega) (by omega) (by omega) d_Path_put_70 (fun H locs hP hD hS => ?_)
      have hP : va_P D classes [(hp, .inr (2, [.ref q43, .ref q55, .int (iI np), .ref pfs, .ref psh, .int (iI ns), .int (iI no)])), (pxs, .inl (cI, cap, .inl (zI px))), (q43, .inl (cI, (2 * cap), .inl (zI (zup (zcp px cap) np x0)))), (pys, .inl (cI, cap, .inl (zI py))), (q55, .inl (cI, (2 * cap), .inl (zI (zcp py cap))))] H := hP
      have hD : va_D A [(hp, .inr (2, [.ref q43, .ref q55, .int (iI np), .ref pfs, .ref psh, .int (iI ns), .int (iI no)])), (pxs, .inl (cI, cap, .inl (zI px))), (q43, .inl (cI, (2 * cap), .inl (zI (zup (zcp px cap) np x0)))), (pys, .inl (cI, cap, .inl (zI py))), (q55, .inl (cI, (2 * cap), .inl (zI (zcp py cap))))] := hD
      refine lv_aload_n hx hb d_Path_put_71 rfl (lv_at hl 1 rfl) ?_
      refine va_get hx hb ht i_Path hown hK hP 0 rfl rfl 1 (by decide) (ht _ k_f_Path_15) (fun _ h9 => h9) rfl d_Path_put_72 ?_
      refine lv_aload_n hx hb d_Path_put_75 rfl (lv_at hl 1 rfl) ?_
      refine va_get hx hb ht i_Path hown hK hP 0 rfl rfl 2 (by decide) (ht _ k_f_Path_29) (fun _ h9 => h9) rfl d_Path_put_76 ?_
      refine lv_iload_n hx hb d_Path_put_79 rfl (lv_at hl 3 rfl) ?_
      refine sr_iastZ hx hb hK hP hD hS 4 0 rfl rfl (by omega) (by omega) (by omega) d_Path_put_80 (fun H locs hP hD hS => ?_)
      have hP : va_P D classes [(hp, .inr (2, [.ref q43, .ref q55, .int (iI np), .ref pfs, .ref psh, .int (iI ns), .int (iI no)])), (pxs, .inl (cI, cap, .inl (zI px))), (q43, .inl (cI, (2 * cap), .inl (zI (zup (zcp px cap) np x0)))), (pys, .inl (cI, cap, .inl (zI py))), (q55, .inl (cI, (2 * cap), .inl (zI (zup (zcp py cap) np y0))))] H := hP
      have hD : va_D A [(hp, .inr (2, [.ref q43, .ref q55, .int (iI np), .ref pfs, .ref psh, .int (iI ns), .int (iI no)])), (pxs, .inl (cI, cap, .inl (zI px))), (q43, .inl (cI, (2 * cap), .inl (zI (zup (zcp px cap) np x0)))), (pys, .inl (cI, cap, .inl (zI py))), (q55, .inl (cI, (2 * cap), .inl (zI (zup (zcp py cap) np y0))))] := hD
      refine lv_aload_n hx hb d_Path_put_81 rfl (lv_at hl 1 rfl) ?_
      refine lv_dup hx hb d_Path_put_82 rfl ?_
      refine va_get hx hb ht i_Path hown hK hP 0 rfl rfl 2 (by decide) (ht _ k_f_Path_29) (fun _ h9 => h9) rfl d_Path_put_83 ?_
      refine sr_iconst hx hb d_Path_put_86 ?_
      refine sr_iadd hx hb d_Path_put_87 ?_
      refine va_put (ty := .int) hx hb ht i_Path t_Path t_Path_ok n_Path hown hK hP hD hS 0 rfl rfl 2 (by decide) (ht _ k_f_Path_29) (fun _ h9 => h9) rfl (t_Path_ok 2 (by decide)) rfl rfl (Nat.le_of_ble_eq_true rfl) d_Path_put_88 (fun H locs hP hD hS => ?_)
      have hP : va_P D classes [(hp, .inr (2, [.ref q43, .ref q55, .int (iI (np + 1)), .ref pfs, .ref psh, .int (iI ns), .int (iI no)])), (pxs, .inl (cI, cap, .inl (zI px))), (q43, .inl (cI, (2 * cap), .inl (zI (zup (zcp px cap) np x0)))), (pys, .inl (cI, cap, .inl (zI py))), (q55, .inl (cI, (2 * cap), .inl (zI (zup (zcp py cap) np y0))))] H := hP
      have hD : va_D A [(hp, .inr (2, [.ref q43, .ref q55, .int (iI (np + 1)), .ref pfs, .ref psh, .int (iI ns), .int (iI no)])), (pxs, .inl (cI, cap, .inl (zI px))), (q43, .inl (cI, (2 * cap), .inl (zI (zup (zcp px cap) np x0)))), (pys, .inl (cI, cap, .inl (zI py))), (q55, .inl (cI, (2 * cap), .inl (zI (zup (zcp py cap) np y0))))] := hD
      refine W.widen (k := 2 * cap - cap) (n := 4 * (2 * cap - cap)) (by omega) (by omega) ?_
      exact sr_vret (q43, q55, zup (zcp px cap) np x0, zup (zcp py cap) np y0) hx hb hr hlocks (hP.sub [0, 2, 4] rfl) (hD.sub [0, 2, 4] (by decide) rfl) hS d_Path_put_91 (⟨fun j h8 h9 => (zup_n (by omega)).trans (zcp_in (by omega)), zup_s _ _ _, fun j h8 h9 => (zup_n (by omega)).trans (zcp_in (by omega)), zup_s _ _ _⟩)
  · -- F
    exact absurd h1 c_7

set_option maxHeartbeats 4000000 in
set_option maxRecDepth 100000 in
theorem c_Path_begin (l : Launch) (D : va_G) (cI cJ cZ : ClassId) (sz : Nat) (hp : Nat) (pxs : Nat) (pys : Nat) (np : Int) (pfs : Nat) (psh : Nat) (ns : Int) (no : Int) (cap : Nat) (px : Int → Int) (py : Int → Int) (fs : Int → Int) (sh : Int → Int) (x0 : Int) (y0 : Int) (h0 : 0 ≤ np) (h1 : np < 1024) (h2 : np ≤ cap) (hc : capP cap) (h3 : 0 ≤ ns) (h4 : ns < 64) : Met l y_Path_begin (.code y_Path_begin b_Path_begin 3 none :: allw) ({ frames := 3, cells := gF np cap - cap, slots := 4 * (gF np cap - cap), locals := 75 } : Room) (va_Pc [.ref hp, .int (iI x0), .int (iI y0)] (sr_U D classes [(cI, .int), (cJ, .long), (cZ, .boolean)] nestw [(hp, .inr (2, [.ref pxs, .ref pys, .int (iI np), .ref pfs, .ref psh, .int (iI ns), .int (iI no)])), (pxs, .inl (cI, cap, .inl (zI px))), (pys, .inl (cI, cap, .inl (zI py))), (pfs, .inl (cI, 64, .inl (zI fs))), (psh, .inl (cZ, 64, .inl (zI sh)))] sz)) (va_Qv (fun (u : Nat × Nat × (Int → Int) × (Int → Int)) => (∀ j, 0 ≤ j → j < np → u.2.2.1 j = px j) ∧ u.2.2.1 np = x0 ∧ (∀ j, 0 ≤ j → j < np → u.2.2.2 j = py j) ∧ u.2.2.2 np = y0) (sr_B D classes (va_A [(hp, .inr (2, [.ref pxs, .ref pys, .int (iI np), .ref pfs, .ref psh, .int (iI ns), .int (iI no)])), (pxs, .inl (cI, cap, .inl (zI px))), (pys, .inl (cI, cap, .inl (zI py))), (pfs, .inl (cI, 64, .inl (zI fs))), (psh, .inl (cZ, 64, .inl (zI sh)))] sz) (fun (u : Nat × Nat × (Int → Int) × (Int → Int)) => [(hp, .inr (2, [.ref u.1, .ref u.2.1, .int (iI (np + 1)), .ref pfs, .ref psh, .int (iI (ns + 1)), .int (iI no)])), (u.1, .inl (cI, gF np cap, .inl (zI u.2.2.1))), (u.2.1, .inl (cI, gF np cap, .inl (zI u.2.2.2))), (pfs, .inl (cI, 64, .inl (zI (zup fs ns np)))), (psh, .inl (cZ, 64, .inl (zI (zup sh ns 0))))])) (va_A [(hp, .inr (2, [.ref pxs, .ref pys, .int (iI np), .ref pfs, .ref psh, .int (iI ns), .int (iI no)])), (pxs, .inl (cI, cap, .inl (zI px))), (pys, .inl (cI, cap, .inl (zI py))), (pfs, .inl (cI, 64, .inl (zI fs))), (psh, .inl (cZ, 64, .inl (zI sh)))] sz)) (gF np cap - cap) (4 * (gF np cap - cap)) (va_A [(hp, .inr (2, [.ref pxs, .ref pys, .int (iI np), .ref pfs, .ref psh, .int (iI ns), .int (iI no)])), (pxs, .inl (cI, cap, .inl (zI px))), (pys, .inl (cI, cap, .inl (zI py))), (pfs, .inl (cI, 64, .inl (zI fs))), (psh, .inl (cZ, 64, .inl (zI sh)))] sz) := by
  refine sr_enter (Qf := fun A => va_Qv (fun (u : Nat × Nat × (Int → Int) × (Int → Int)) => (∀ j, 0 ≤ j → j < np → u.2.2.1 j = px j) ∧ u.2.2.1 np = x0 ∧ (∀ j, 0 ≤ j → j < np → u.2.2.2 j = py j) ∧ u.2.2.2 np = y0) (sr_B D classes A (fun (u : Nat × Nat × (Int → Int) × (Int → Int)) => [(hp, .inr (2, [.ref u.1, .ref u.2.1, .int (iI (np + 1)), .ref pfs, .ref psh, .int (iI (ns + 1)), .int (iI no)])), (u.1, .inl (cI, gF np cap, .inl (zI u.2.2.1))), (u.2.1, .inl (cI, gF np cap, .inl (zI u.2.2.2))), (pfs, .inl (cI, 64, .inl (zI (zup fs ns np)))), (psh, .inl (cZ, 64, .inl (zI (zup sh ns 0))))])) A) (by decide +kernel) rfl (Nat.le_of_ble_eq_true rfl) ?_
  intro p e s m below meth c A ls hx hb hr hml hown hlocks hin hts hsz hP hK hD hN hA hS hl
  have ht : ∀ w ∈ allw, w.before _ s = true := fun w h => hts w (List.mem_cons_of_mem _ h)
  have hsub : ∀ w ∈ allw, w ∈ _ := fun w h => List.mem_cons_of_mem (Cond.code y_Path_begin b_Path_begin 3 none) h
  have hl : lv_has ls 3 [(0, .ref hp), (1, .int (iI x0)), (2, .int (iI y0))] := hl
  have hP : va_P D classes [(hp, .inr (2, [.ref pxs, .ref pys, .int (iI np), .ref pfs, .ref psh, .int (iI ns), .int (iI no)])), (pxs, .inl (cI, cap, .inl (zI px))), (pys, .inl (cI, cap, .inl (zI py))), (pfs, .inl (cI, 64, .inl (zI fs))), (psh, .inl (cZ, 64, .inl (zI sh)))] s.heap := hP
  refine lv_aload_n hx hb d_Path_begin_0 rfl (lv_at hl 0 rfl) ?_
  refine va_get hx hb ht i_Path hown hK hP 0 rfl rfl 5 (by decide) (ht _ k_f_Path_25) (fun _ h9 => h9) rfl d_Path_begin_1 ?_
  refine sr_bipush hx hb d_Path_begin_4 (by decide) ?_
  refine sr_icmp_lt (tgt := 10) hx hb d_Path_begin_6 (by decide) (by unfold bI; omega) (by unfold bI; decide) (fun c_6 => ?_) (fun c_6 => ?_)
  · -- T
    refine lv_aload_n hx hb d_Path_begin_10 rfl (lv_at hl 0 rfl) ?_
    refine va_get hx hb ht i_Path hown hK hP 0 rfl rfl 3 (by decide) (ht _ k_f_Path_18) (fun _ h9 => h9) rfl d_Path_begin_11 ?_
    refine lv_aload_n hx hb d_Path_begin_14 rfl (lv_at hl 0 rfl) ?_
    refine va_get hx hb ht i_Path hown hK hP 0 rfl rfl 5 (by decide) (ht _ k_f_Path_25) (fun _ h9 => h9) rfl d_Path_begin_15 ?_
    refine lv_aload_n hx hb d_Path_begin_18 rfl (lv_at hl 0 rfl) ?_
    refine va_get hx hb ht i_Path hown hK hP 0 rfl rfl 2 (by decide) (ht _ k_f_Path_29) (fun _ h9 => h9) rfl d_Path_begin_19 ?_
    refine sr_iastZ hx hb hK hP hD hS 3 0 rfl rfl (by omega) (by omega) (by decide) d_Path_begin_22 (fun H locs hP hD hS => ?_)
    have hP : va_P D classes [(hp, .inr (2, [.ref pxs, .ref pys, .int (iI np), .ref pfs, .ref psh, .int (iI ns), .int (iI no)])), (pxs, .inl (cI, cap, .inl (zI px))), (pys, .inl (cI, cap, .inl (zI py))), (pfs, .inl (cI, 64, .inl (zI (zup fs ns np)))), (psh, .inl (cZ, 64, .inl (zI sh)))] H := hP
    have hD : va_D A [(hp, .inr (2, [.ref pxs, .ref pys, .int (iI np), .ref pfs, .ref psh, .int (iI ns), .int (iI no)])), (pxs, .inl (cI, cap, .inl (zI px))), (pys, .inl (cI, cap, .inl (zI py))), (pfs, .inl (cI, 64, .inl (zI (zup fs ns np)))), (psh, .inl (cZ, 64, .inl (zI sh)))] := hD
    refine lv_aload_n hx hb d_Path_begin_23 rfl (lv_at hl 0 rfl) ?_
    refine va_get hx hb ht i_Path hown hK hP 0 rfl rfl 4 (by decide) (ht _ k_f_Path_21) (fun _ h9 => h9) rfl d_Path_begin_24 ?_
    refine lv_aload_n hx hb d_Path_begin_27 rfl (lv_at hl 0 rfl) ?_
    refine va_get hx hb ht i_Path hown hK hP 0 rfl rfl 5 (by decide) (ht _ k_f_Path_25) (fun _ h9 => h9) rfl d_Path_begin_28 ?_
    refine sr_iconst hx hb d_Path_begin_31 ?_
    refine sr_zastZ hx hb hK hP hD hS 4 2 rfl rfl (by omega) (by omega) (by decide) (by decide) d_Path_begin_32 (fun H locs hP hD hS => ?_)
    have hP : va_P D classes [(hp, .inr (2, [.ref pxs, .ref pys, .int (iI np), .ref pfs, .ref psh, .int (iI ns), .int (iI no)])), (pxs, .inl (cI, cap, .inl (zI px))), (pys, .inl (cI, cap, .inl (zI py))), (pfs, .inl (cI, 64, .inl (zI (zup fs ns np)))), (psh, .inl (cZ, 64, .inl (zI (zup sh ns 0))))] H := hP
    have hD : va_D A [(hp, .inr (2, [.ref pxs, .ref pys, .int (iI np), .ref pfs, .ref psh, .int (iI ns), .int (iI no)])), (pxs, .inl (cI, cap, .inl (zI px))), (pys, .inl (cI, cap, .inl (zI py))), (pfs, .inl (cI, 64, .inl (zI (zup fs ns np)))), (psh, .inl (cZ, 64, .inl (zI (zup sh ns 0))))] := hD
    refine lv_aload_n hx hb d_Path_begin_33 rfl (lv_at hl 0 rfl) ?_
    refine lv_dup hx hb d_Path_begin_34 rfl ?_
    refine va_get hx hb ht i_Path hown hK hP 0 rfl rfl 5 (by decide) (ht _ k_f_Path_25) (fun _ h9 => h9) rfl d_Path_begin_35 ?_
    refine sr_iconst hx hb d_Path_begin_38 ?_
    refine sr_iadd hx hb d_Path_begin_39 ?_
    refine va_put (ty := .int) hx hb ht i_Path t_Path t_Path_ok n_Path hown hK hP hD hS 0 rfl rfl 5 (by decide) (ht _ k_f_Path_25) (fun _ h9 => h9) rfl (t_Path_ok 5 (by decide)) rfl rfl (Nat.le_of_ble_eq_true rfl) d_Path_begin_40 (fun H locs hP hD hS => ?_)
    have hP : va_P D classes [(hp, .inr (2, [.ref pxs, .ref pys, .int (iI np), .ref pfs, .ref psh, .int (iI (ns + 1)), .int (iI no)])), (pxs, .inl (cI, cap, .inl (zI px))), (pys, .inl (cI, cap, .inl (zI py))), (pfs, .inl (cI, 64, .inl (zI (zup fs ns np)))), (psh, .inl (cZ, 64, .inl (zI (zup sh ns 0))))] H := hP
    have hD : va_D A [(hp, .inr (2, [.ref pxs, .ref pys, .int (iI np), .ref pfs, .ref psh, .int (iI (ns + 1)), .int (iI no)])), (pxs, .inl (cI, cap, .inl (zI px))), (pys, .inl (cI, cap, .inl (zI py))), (pfs, .inl (cI, 64, .inl (zI (zup fs ns np)))), (psh, .inl (cZ, 64, .inl (zI (zup sh ns 0))))] := hD
    refine lv_aload_n hx hb d_Path_begin_43 rfl (lv_at hl 0 rfl) ?_
    refine lv_iload_n hx hb d_Path_begin_44 rfl (lv_at hl 1 rfl) ?_
    refine lv_iload_n hx hb d_Path_begin_45 rfl (lv_at hl 2 rfl) ?_
    refine sr_cV_v (wr := [(pfs, .inl (cI, 64, .inl (zI (zup fs ns np)))), (psh, .inl (cZ, 64, .inl (zI (zup sh ns 0))))]) (As := [.int (iI x0), .int (iI y0)]) (rest := []) (b := hp) (q0 := 0) hx hb hml hown hts (c_Path_put l D cI cJ cZ _ hp pxs pys np pfs psh (ns + 1) no cap px py x0 y0 (by omega) (by omega) (by omega) (hc)) (sr_cwV hsub hts k_cd_Path_put k_in_Path k_m_Path_32 k_im_Path_put k_se_Path_put g_Path_put ⟨Nat.le_of_ble_eq_true rfl, Nat.le_of_ble_eq_true rfl⟩) hns_ok hK hN hP hD hS hA [0, 1, 2] [3, 4] rfl (by decide) rfl (by decide) (by decide) rfl rfl rfl hl.1 rfl (Nat.le_of_ble_eq_true rfl) d_Path_begin_46 ⟨by show 0 + (gF np cap - cap) ≤ gF np cap - cap; omega, by show 0 + 4 * (gF np cap - cap) ≤ 4 * (gF np cap - cap); omega⟩ (fun u H locs hw_46 hP hD hS => ?_)
    obtain ⟨qx_46, qy_46, gx_46, gy_46⟩ := u
    have hP : va_P D classes [(pfs, .inl (cI, 64, .inl (zI (zup fs ns np)))), (psh, .inl (cZ, 64, .inl (zI (zup sh ns 0)))), (hp, .inr (2, [.ref qx_46, .ref qy_46, .int (iI (np + 1)), .ref pfs, .ref psh, .int (iI (ns + 1)), .int (iI no)])), (qx_46, .inl (cI, gF np cap, .inl (zI gx_46))), (qy_46, .inl (cI, gF np cap, .inl (zI gy_46)))] H := hP
    have hD : va_D A [(pfs, .inl (cI, 64, .inl (zI (zup fs ns np)))), (psh, .inl (cZ, 64, .inl (zI (zup sh ns 0)))), (hp, .inr (2, [.ref qx_46, .ref qy_46, .int (iI (np + 1)), .ref pfs, .ref psh, .int (iI (ns + 1)), .int (iI no)])), (qx_46, .inl (cI, gF np cap, .inl (zI gx_46))), (qy_46, .inl (cI, gF np cap, .inl (zI gy_46)))] := hD
    try dsimp only at hw_46
    refine W.widen (k := gF np cap - cap) (n := 4 * (gF np cap - cap)) (by omega) (by omega) ?_
    exact sr_vret (qx_46, qy_46, gx_46, gy_46) hx hb hr hlocks (hP.sub [2, 3, 4, 0, 1] rfl) (hD.sub [2, 3, 4, 0, 1] (by decide) rfl) hS d_Path_begin_49 (hw_46)
  · -- F
    exact absurd h4 c_6

set_option maxHeartbeats 4000000 in
set_option maxRecDepth 100000 in
theorem c_Path_bend (l : Launch) (D : va_G) (cI cJ cZ : ClassId) (sz : Nat) (hp : Nat) (pxs : Nat) (pys : Nat) (np : Int) (pfs : Nat) (psh : Nat) (ns : Int) (no : Int) (cap : Nat) (px : Int → Int) (py : Int → Int) (cx : Int) (cy : Int) (dx : Int) (dy : Int) (x0 : Int) (y0 : Int) (h0 : 0 ≤ np) (h0b : 1 ≤ np) (h1 : np + 16 ≤ 1024) (h2 : np ≤ cap) (hc : capP cap) (hcx : coP cx) (hcy : coP cy) (hdx : coP dx) (hdy : coP dy) (hxx : coP x0) (hyy : coP y0) (hpx : coP (px (np - 1))) (hpy : coP (py (np - 1))) : Met l y_Path_bend (.code y_Path_bend b_Path_bend 10 none :: allw) ({ frames := 3, cells := gFn np cap 16 - cap, slots := 4 * (gFn np cap 16 - cap), locals := 75 } : Room) (va_Pc [.ref hp, .int (iI cx), .int (iI cy), .int (iI dx), .int (iI dy), .int (iI x0), .int (iI y0)] (sr_U D classes [(cI, .int), (cJ, .long), (cZ, .boolean)] nestw [(hp, .inr (2, [.ref pxs, .ref pys, .int (iI np), .ref pfs, .ref psh, .int (iI ns), .int (iI no)])), (pxs, .inl (cI, cap, .inl (zI px))), (pys, .inl (cI, cap, .inl (zI py)))] sz)) (va_Qv (fun (u : Nat × Nat × (Int → Int) × (Int → Int)) => (∀ j, 0 ≤ j → j < np → u.2.2.1 j = px j) ∧ (∀ i, 1 ≤ i → i < 17 → u.2.2.1 (np + (i - 1)) = bez (px (np - 1)) cx dx x0 i) ∧ (∀ j, 0 ≤ j → j < np → u.2.2.2 j = py j) ∧ (∀ i, 1 ≤ i → i < 17 → u.2.2.2 (np + (i - 1)) = bez (py (np - 1)) cy dy y0 i)) (sr_B D classes (va_A [(hp, .inr (2, [.ref pxs, .ref pys, .int (iI np), .ref pfs, .ref psh, .int (iI ns), .int (iI no)])), (pxs, .inl (cI, cap, .inl (zI px))), (pys, .inl (cI, cap, .inl (zI py)))] sz) (fun (u : Nat × Nat × (Int → Int) × (Int → Int)) => [(hp, .inr (2, [.ref u.1, .ref u.2.1, .int (iI (np + 16)), .ref pfs, .ref psh, .int (iI ns), .int (iI no)])), (u.1, .inl (cI, gFn np cap 16, .inl (zI u.2.2.1))), (u.2.1, .inl (cI, gFn np cap 16, .inl (zI u.2.2.2)))])) (va_A [(hp, .inr (2, [.ref pxs, .ref pys, .int (iI np), .ref pfs, .ref psh, .int (iI ns), .int (iI no)])), (pxs, .inl (cI, cap, .inl (zI px))), (pys, .inl (cI, cap, .inl (zI py)))] sz)) (gFn np cap 16 - cap) (4 * (gFn np cap 16 - cap)) (va_A [(hp, .inr (2, [.ref pxs, .ref pys, .int (iI np), .ref pfs, .ref psh, .int (iI ns), .int (iI no)])), (pxs, .inl (cI, cap, .inl (zI px))), (pys, .inl (cI, cap, .inl (zI py)))] sz) := by
  refine sr_enter (Qf := fun A => va_Qv (fun (u : Nat × Nat × (Int → Int) × (Int → Int)) => (∀ j, 0 ≤ j → j < np → u.2.2.1 j = px j) ∧ (∀ i, 1 ≤ i → i < 17 → u.2.2.1 (np + (i - 1)) = bez (px (np - 1)) cx dx x0 i) ∧ (∀ j, 0 ≤ j → j < np → u.2.2.2 j = py j) ∧ (∀ i, 1 ≤ i → i < 17 → u.2.2.2 (np + (i - 1)) = bez (py (np - 1)) cy dy y0 i)) (sr_B D classes A (fun (u : Nat × Nat × (Int → Int) × (Int → Int)) => [(hp, .inr (2, [.ref u.1, .ref u.2.1, .int (iI (np + 16)), .ref pfs, .ref psh, .int (iI ns), .int (iI no)])), (u.1, .inl (cI, gFn np cap 16, .inl (zI u.2.2.1))), (u.2.1, .inl (cI, gFn np cap 16, .inl (zI u.2.2.2)))])) A) (by decide +kernel) rfl (Nat.le_of_ble_eq_true rfl) ?_
  intro p e s m below meth c A ls hx hb hr hml hown hlocks hin hts hsz hP hK hD hN hA hS hl
  have ht : ∀ w ∈ allw, w.before _ s = true := fun w h => hts w (List.mem_cons_of_mem _ h)
  have hsub : ∀ w ∈ allw, w ∈ _ := fun w h => List.mem_cons_of_mem (Cond.code y_Path_bend b_Path_bend 10 none) h
  have hl : lv_has ls 10 [(0, .ref hp), (1, .int (iI cx)), (2, .int (iI cy)), (3, .int (iI dx)), (4, .int (iI dy)), (5, .int (iI x0)), (6, .int (iI y0))] := hl
  have hP : va_P D classes [(hp, .inr (2, [.ref pxs, .ref pys, .int (iI np), .ref pfs, .ref psh, .int (iI ns), .int (iI no)])), (pxs, .inl (cI, cap, .inl (zI px))), (pys, .inl (cI, cap, .inl (zI py)))] s.heap := hP
  have hcl := capP_le hc
  refine lv_aload_n hx hb d_Path_bend_0 rfl (lv_at hl 0 rfl) ?_
  refine va_get hx hb ht i_Path hown hK hP 0 rfl rfl 2 (by decide) (ht _ k_f_Path_29) (fun _ h9 => h9) rfl d_Path_bend_1 ?_
  refine sr_iconst hx hb d_Path_bend_4 ?_
  refine sr_icmp_ge (tgt := 9) hx hb d_Path_bend_5 (by decide) (by unfold bI; omega) (by unfold bI; decide) (fun c_5 => ?_) (fun c_5 => ?_)
  · -- T
    refine lv_aload_n hx hb d_Path_bend_9 rfl (lv_at hl 0 rfl) ?_
    refine va_get hx hb ht i_Path hown hK hP 0 rfl rfl 0 (by decide) (ht _ k_f_Path_9) (fun _ h9 => h9) rfl d_Path_bend_10 ?_
    refine lv_aload_n hx hb d_Path_bend_13 rfl (lv_at hl 0 rfl) ?_
    refine va_get hx hb ht i_Path hown hK hP 0 rfl rfl 2 (by decide) (ht _ k_f_Path_29) (fun _ h9 => h9) rfl d_Path_bend_14 ?_
    refine sr_iconst hx hb d_Path_bend_17 ?_
    refine sr_isub hx hb d_Path_bend_18 ?_
    refine sr_ialdZ hx hb hK hP 1 0 rfl rfl (by omega) (by omega) (by omega) d_Path_bend_19 ?_
    refine lv_istore (lv' := [(7, .int (iI (px (np - 1)))), (0, .ref hp), (1, .int (iI cx)), (2, .int (iI cy)), (3, .int (iI dx)), (4, .int (iI dy)), (5, .int (iI x0)), (6, .int (iI y0))]) hx hb d_Path_bend_20 hl (by decide) rfl (fun ls hl => ?_)
    refine lv_aload_n hx hb d_Path_bend_22 rfl (lv_at hl 1 rfl) ?_
    refine va_get hx hb ht i_Path hown hK hP 0 rfl rfl 1 (by decide) (ht _ k_f_Path_15) (fun _ h9 => h9) rfl d_Path_bend_23 ?_
    refine lv_aload_n hx hb d_Path_bend_26 rfl (lv_at hl 1 rfl) ?_
    refine va_get hx hb ht i_Path hown hK hP 0 rfl rfl 2 (by decide) (ht _ k_f_Path_29) (fun _ h9 => h9) rfl d_Path_bend_27 ?_
    refine sr_iconst hx hb d_Path_bend_30 ?_
    refine sr_isub hx hb d_Path_bend_31 ?_
    refine sr_ialdZ hx hb hK hP 2 0 rfl rfl (by omega) (by omega) (by omega) d_Path_bend_32 ?_
    refine lv_istore (lv' := [(8, .int (iI (py (np - 1)))), (7, .int (iI (px (np - 1)))), (0, .ref hp), (1, .int (iI cx)), (2, .int (iI cy)), (3, .int (iI dx)), (4, .int (iI dy)), (5, .int (iI x0)), (6, .int (iI y0))]) hx hb d_Path_bend_33 hl (by decide) rfl (fun ls hl => ?_)
    refine sr_iconst hx hb d_Path_bend_35 ?_
    refine lv_istore (lv' := [(9, .int (iI 1)), (8, .int (iI (py (np - 1)))), (7, .int (iI (px (np - 1)))), (0, .ref hp), (1, .int (iI cx)), (2, .int (iI cy)), (3, .int (iI dx)), (4, .int (iI dy)), (5, .int (iI x0)), (6, .int (iI y0))]) hx hb d_Path_bend_36 hl (by decide) rfl (fun ls hl => ?_)
    have lp_38 : ∀ (n_ : Nat) (k : Int) (pn : Int) (cc_ : Nat) (qx : Nat) (qy : Nat) (gx : Int → Int) (gy : Int → Int), (17 - k).toNat < n_ → (1 ≤ k) → (k ≤ 17) → (pn = np + (k - 1)) → (cc_ = gFn np cap (k - 1).toNat) → (∀ j, 0 ≤ j → j < np → gx j = px j) → (∀ i, 1 ≤ i → i < k → gx (np + (i - 1)) = bez (px (np - 1)) cx dx x0 i) → (∀ j, 0 ≤ j → j < np → gy j = py j) → (∀ i, 1 ≤ i → i < k → gy (np + (i - 1)) = bez (py (np - 1)) cy dy y0 i) → ∀ (H : Heap) (locs : List Loc) (ls : Array Slot), va_P D classes [(hp, .inr (2, [.ref qx, .ref qy, .int (iI pn), .ref pfs, .ref psh, .int (iI ns), .int (iI no)])), (qx, .inl (cI, cc_, .inl (zI gx))), (qy, .inl (cI, cc_, .inl (zI gy)))] H → va_D A [(hp, .inr (2, [.ref qx, .ref qy, .int (iI pn), .ref pfs, .ref psh, .int (iI ns), .int (iI no)])), (qx, .inl (cI, cc_, .inl (zI gx))), (qy, .inl (cI, cc_, .inl (zI gy)))] → va_S A s.heap H locs → lv_has ls 10 [(0, .ref hp), (1, .int (iI cx)), (2, .int (iI cy)), (3, .int (iI dx)), (4, .int (iI dy)), (5, .int (iI x0)), (6, .int (iI y0)), (7, .int (iI (px (np - 1)))), (8, .int (iI (py (np - 1)))), (9, .int (iI k))] → W p l e ({ frames := 3, cells := gFn np cap 16 - cap, slots := 4 * (gFn np cap 16 - cap), locals := 75 } : Room) s m [.ref hp, .int (iI cx), .int (iI cy), .int (iI dx), .int (iI dy), .int (iI x0), .int (iI y0)].toArray below meth c H locs (cc_ - cap) (4 * (cc_ - cap)) (MQ below (va_Qv (fun (u : Nat × Nat × (Int → Int) × (Int → Int)) => (∀ j, 0 ≤ j → j < np → u.2.2.1 j = px j) ∧ (∀ i, 1 ≤ i → i < 17 → u.2.2.1 (np + (i - 1)) = bez (px (np - 1)) cx dx x0 i) ∧ (∀ j, 0 ≤ j → j < np → u.2.2.2 j = py j) ∧ (∀ i, 1 ≤ i → i < 17 → u.2.2.2 (np + (i - 1)) = bez (py (np - 1)) cy dy y0 i)) (sr_B D classes A (fun (u : Nat × Nat × (Int → Int) × (Int → Int)) => [(hp, .inr (2, [.ref u.1, .ref u.2.1, .int (iI (np + 16)), .ref pfs, .ref psh, .int (iI ns), .int (iI no)])), (u.1, .inl (cI, gFn np cap 16, .inl (zI u.2.2.1))), (u.2.1, .inl (cI, gFn np cap 16, .inl (zI u.2.2.2)))])) A) [.ref hp, .int (iI cx), .int (iI cy), .int (iI dx), .int (iI dy), .int (iI x0), .int (iI y0)].toArray s (gFn np cap 16 - cap) (4 * (gFn np cap 16 - cap)) A) (F0 m 38 ls []) := by
      intro n_
      induction n_ with
      | zero => intro k pn cc_ qx qy gx gy hm_; exact absurd hm_ (Nat.not_lt_zero _)
      | succ n_ ih_38 =>
        intro k pn cc_ qx qy gx gy hm_ hk1 hk2 hpn hcc hx1 hx2 hy1 hy2 H locs ls hP hD hS hl
        have hgo := gFn_ok hc h0 h2 (k - 1).toNat (by omega)
        rw [← hcc] at hgo
        obtain ⟨hg1, hg2, hg3⟩ := hgo
        refine lv_iload hx hb d_Path_bend_38 (lv_at hl 9 rfl) ?_
        refine sr_bipush hx hb d_Path_bend_40 (by decide) ?_
        refine sr_icmp_gt (tgt := 78) hx hb d_Path_bend_42 (by decide) (by unfold bI; omega) (by unfold bI; decide) (fun c_42 => ?_) (fun c_42 => ?_)
        · -- T
          have hk17 : k = 17 := by omega
          subst hk17
          have hcc2 : cc_ = gFn np cap 16 := hcc
          have hpn2 : pn = np + 16 := by omega
          subst hcc2
          subst hpn2
          refine W.widen (k := gFn np cap 16 - cap) (n := 4 * (gFn np cap 16 - cap)) (by omega) (by omega) ?_
          exact sr_vret (qx, qy, gx, gy) hx hb hr hlocks hP hD hS d_Path_bend_78 (⟨hx1, hx2, hy1, hy2⟩)
        · -- F
          have hgl := gFn_le (np := np) (c := cap) (j := (k - 1).toNat + 1) (k := 16) (by omega)
          have hgs := gFn_step (np := np) (c := cap) hk1
          rw [← hpn, ← hcc, show (k + 1 - 1).toNat = (k - 1).toNat + 1 by omega] at hgs
          rw [hgs] at hgl
          have hgf := gF_ok hg1 (np := pn) (by omega) (by omega) (by omega)
          refine lv_aload_n hx hb d_Path_bend_45 rfl (lv_at hl 0 rfl) ?_
          refine lv_iload hx hb d_Path_bend_46 (lv_at hl 7 rfl) ?_
          refine lv_iload_n hx hb d_Path_bend_48 rfl (lv_at hl 1 rfl) ?_
          refine lv_iload_n hx hb d_Path_bend_49 rfl (lv_at hl 3 rfl) ?_
          refine lv_iload hx hb d_Path_bend_50 (lv_at hl 5 rfl) ?_
          refine lv_iload hx hb d_Path_bend_52 (lv_at hl 9 rfl) ?_
          refine sr_cS_i (wr := [(hp, .inr (2, [.ref qx, .ref qy, .int (iI pn), .ref pfs, .ref psh, .int (iI ns), .int (iI no)])), (qx, .inl (cI, cc_, .inl (zI gx))), (qy, .inl (cI, cc_, .inl (zI gy)))]) (As := [.int (iI (px (np - 1))), .int (iI cx), .int (iI dx), .int (iI x0), .int (iI k)]) (rest := [.ref hp]) hx hb hml hown hts (c_Path_between l D cI cJ cZ _ (px (np - 1)) cx dx x0 k (hpx) (hcx) (hdx) (hxx) (by omega) (by omega)) (sr_cwS hsub hts k_cd_Path_between k_in_Path k_m_Path_48 k_st_Path_between g_Path_between ⟨Nat.le_of_ble_eq_true rfl, Nat.le_of_ble_eq_true rfl⟩) hns_ok hK hN hP hD hS hA [] [0, 1, 2] rfl (by decide) rfl (by decide) (by decide) rfl hl.1 rfl (Nat.le_of_ble_eq_true rfl) d_Path_bend_54 ⟨by show _ ≤ gFn np cap 16 - cap; omega, by show _ ≤ 4 * (gFn np cap 16 - cap); omega⟩ (fun r_54 u H locs hw_54 hP hD hS => ?_)
          have hP : va_P D classes [(hp, .inr (2, [.ref qx, .ref qy, .int (iI pn), .ref pfs, .ref psh, .int (iI ns), .int (iI no)])), (qx, .inl (cI, cc_, .inl (zI gx))), (qy, .inl (cI, cc_, .inl (zI gy)))] H := hP
          have hD : va_D A [(hp, .inr (2, [.ref qx, .ref qy, .int (iI pn), .ref pfs, .ref psh, .int (iI ns), .int (iI no)])), (qx, .inl (cI, cc_, .inl (zI gx))), (qy, .inl (cI, cc_, .inl (zI gy)))] := hD
          try dsimp only at hw_54
          subst hw_54
          refine lv_iload hx hb d_Path_bend_57 (lv_at hl 8 rfl) ?_
          refine lv_iload_n hx hb d_Path_bend_59 rfl (lv_at hl 2 rfl) ?_
          refine lv_iload hx hb d_Path_bend_60 (lv_at hl 4 rfl) ?_
          refine lv_iload hx hb d_Path_bend_62 (lv_at hl 6 rfl) ?_
          refine lv_iload hx hb d_Path_bend_64 (lv_at hl 9 rfl) ?_
          refine sr_cS_i (wr := [(hp, .inr (2, [.ref qx, .ref qy, .int (iI pn), .ref pfs, .ref psh, .int (iI ns), .int (iI no)])), (qx, .inl (cI, cc_, .inl (zI gx))), (qy, .inl (cI, cc_, .inl (zI gy)))]) (As := [.int (iI (py (np - 1))), .int (iI cy), .int (iI dy), .int (iI y0), .int (iI k)]) (rest := [.int (iI (bez (px (np - 1)) cx dx x0 k)), .ref hp]) hx hb hml hown hts (c_Path_between l D cI cJ cZ _ (py (np - 1)) cy dy y0 k (hpy) (hcy) (hdy) (hyy) (by omega) (by omega)) (sr_cwS hsub hts k_cd_Path_between k_in_Path k_m_Path_48 k_st_Path_between g_Path_between ⟨Nat.le_of_ble_eq_true rfl, Nat.le_of_ble_eq_true rfl⟩) hns_ok hK hN hP hD hS hA [] [0, 1, 2] rfl (by decide) rfl (by decide) (by decide) rfl hl.1 rfl (Nat.le_of_ble_eq_true rfl) d_Path_bend_66 ⟨by show _ ≤ gFn np cap 16 - cap; omega, by show _ ≤ 4 * (gFn np cap 16 - cap); omega⟩ (fun r_66 u H locs hw_66 hP hD hS => ?_)
          have hP : va_P D classes [(hp, .inr (2, [.ref qx, .ref qy, .int (iI pn), .ref pfs, .ref psh, .int (iI ns), .int (iI no)])), (qx, .inl (cI, cc_, .inl (zI gx))), (qy, .inl (cI, cc_, .inl (zI gy)))] H := hP
          have hD : va_D A [(hp, .inr (2, [.ref qx, .ref qy, .int (iI pn), .ref pfs, .ref psh, .int (iI ns), .int (iI no)])), (qx, .inl (cI, cc_, .inl (zI gx))), (qy, .inl (cI, cc_, .inl (zI gy)))] := hD
          try dsimp only at hw_66
          subst hw_66
          refine sr_cV_v (wr := []) (As := [.int (iI (bez (px (np - 1)) cx dx x0 k)), .int (iI (bez (py (np - 1)) cy dy y0 k))]) (rest := []) (b := hp) (q0 := 0) hx hb hml hown hts (c_Path_put l D cI cJ cZ _ hp qx qy pn pfs psh ns no cc_ gx gy (bez (px (np - 1)) cx dx x0 k) (bez (py (np - 1)) cy dy y0 k) (by omega) (by omega) (by omega) (hg1)) (sr_cwV hsub hts k_cd_Path_put k_in_Path k_m_Path_32 k_im_Path_put k_se_Path_put g_Path_put ⟨Nat.le_of_ble_eq_true rfl, Nat.le_of_ble_eq_true rfl⟩) hns_ok hK hN hP hD hS hA [0, 1, 2] [] rfl (by decide) rfl (by decide) (by decide) rfl rfl rfl hl.1 rfl (Nat.le_of_ble_eq_true rfl) d_Path_bend_69 ⟨by show _ ≤ gFn np cap 16 - cap; omega, by show _ ≤ 4 * (gFn np cap 16 - cap); omega⟩ (fun u H locs hw_69 hP hD hS => ?_)
          obtain ⟨qx_69, qy_69, gx_69, gy_69⟩ := u
          have hP : va_P D classes [(hp, .inr (2, [.ref qx_69, .ref qy_69, .int (iI (pn + 1)), .ref pfs, .ref psh, .int (iI ns), .int (iI no)])), (qx_69, .inl (cI, gF pn cc_, .inl (zI gx_69))), (qy_69, .inl (cI, gF pn cc_, .inl (zI gy_69)))] H := hP
          have hD : va_D A [(hp, .inr (2, [.ref qx_69, .ref qy_69, .int (iI (pn + 1)), .ref pfs, .ref psh, .int (iI ns), .int (iI no)])), (qx_69, .inl (cI, gF pn cc_, .inl (zI gx_69))), (qy_69, .inl (cI, gF pn cc_, .inl (zI gy_69)))] := hD
          try dsimp only at hw_69
          refine W.widen (k := gF pn cc_ - cap) (n := 4 * (gF pn cc_ - cap)) (by omega) (by omega) ?_
          refine lv_iinc (v := iI (k + 1)) (lv' := [(9, .int (iI (k + 1))), (0, .ref hp), (1, .int (iI cx)), (2, .int (iI cy)), (3, .int (iI dx)), (4, .int (iI dy)), (5, .int (iI x0)), (6, .int (iI y0)), (7, .int (iI (px (np - 1)))), (8, .int (iI (py (np - 1))))]) hx hb d_Path_bend_72 hl (k := 9) rfl (iI_add _ _) (by decide) rfl (fun ls hl => ?_)
          refine lv_goto (tgt := 38) hx hb d_Path_bend_75 (by decide) ?_
          refine W.widen (k := (gF pn cc_) - cap) (n := 4 * ((gF pn cc_) - cap)) (by omega) (by omega) ?_
          exact ih_38 (k + 1) (pn + 1) (gF pn cc_) qx_69 qy_69 gx_69 gy_69 (by omega) (by omega) (by omega) (by omega) (by rw [gFn_step hk1, ← hpn, ← hcc]) (fun j a b => (hw_69.1 j a (by omega)).trans (hx1 j a b)) (fun i a b => if e9 : i = k then (by rw [e9, ← hpn]; exact hw_69.2.1) else (hw_69.1 _ (by omega) (by omega)).trans (hx2 i a (by omega))) (fun j a b => (hw_69.2.2.1 j a (by omega)).trans (hy1 j a b)) (fun i a b => if e9 : i = k then (by rw [e9, ← hpn]; exact hw_69.2.2.2) else (hw_69.2.2.1 _ (by omega) (by omega)).trans (hy2 i a (by omega))) _ _ _ hP hD hS (lv_sub hl [1, 2, 3, 4, 5, 6, 7, 8, 9, 0] rfl)
    refine W.widen (k := cap - cap) (n := 4 * (cap - cap)) (by omega) (by omega) ?_
    exact lp_38 _ 1 np cap pxs pys px py (Nat.lt_succ_self _) (by omega) (by omega) (by omega) (rfl) (fun j _ _ => rfl) (fun i _ _ => by omega) (fun j _ _ => rfl) (fun i _ _ => by omega) _ _ _ hP hD hS (lv_sub hl [3, 4, 5, 6, 7, 8, 9, 2, 1, 0] rfl)
  · -- F
    exact absurd h0b c_5

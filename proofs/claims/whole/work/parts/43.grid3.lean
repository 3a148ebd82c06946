set_option maxHeartbeats 4000000 in
set_option maxRecDepth 100000 in
theorem c_Grid_polygon (l : Launch) (D : va_G) (cI cJ cZ : ClassId) (sz : Nat) (hg0 : Nat) (grw : Nat) (sx : Int) (tx : Int) (wd : Int) (sy : Int) (ty : Int) (hi : Int) (wr : Int64) (fr : Int) (gxs : Nat) (gys : Nat) (nc : Int) (ogx : Int) (ogy : Int) (tu : Int) (rw : Nat → Int64) (xs : Int → Int) (ys : Int → Int) (hn : nc = 3 ∨ nc = 4) (hgx : grP sx tx wd) (hgy : grP sy ty hi) (hBx : coB xs nc) (hBy : coB ys nc) (hwr : wrP wr wd) : Met l y_Grid_polygon (.code y_Grid_polygon b_Grid_polygon 6 none :: allw) ({ frames := 2, cells := 0, slots := 0, locals := 61 } : Room) (va_Pc [.ref hg0] (sr_U D classes [(cI, .int), (cJ, .long), (cZ, .boolean)] nestw [(hg0, .inr (0, [.ref grw, .int (iI sx), .int (iI tx), .int (iI wd), .int (iI sy), .int (iI ty), .int (iI hi), .long wr, .int (iI fr), .ref gxs, .ref gys, .int (iI nc), .int (iI ogx), .int (iI ogy), .long (lI tu)])), (grw, .inl (cJ, 64, .inr (.inl rw))), (gxs, .inl (cJ, 4, .inr (.inl (zL xs)))), (gys, .inl (cJ, 4, .inr (.inl (zL ys))))] sz)) (va_Qv (fun (g : (Nat → Int64)) => rwI g rw hi wd (fun _ => True) (fun k i => inPg xs ys nc (sx + k * tx) (sy + i * ty))) (sr_B D classes (va_A [(hg0, .inr (0, [.ref grw, .int (iI sx), .int (iI tx), .int (iI wd), .int (iI sy), .int (iI ty), .int (iI hi), .long wr, .int (iI fr), .ref gxs, .ref gys, .int (iI nc), .int (iI ogx), .int (iI ogy), .long (lI tu)])), (grw, .inl (cJ, 64, .inr (.inl rw))), (gxs, .inl (cJ, 4, .inr (.inl (zL xs)))), (gys, .inl (cJ, 4, .inr (.inl (zL ys))))] sz) (fun (g : (Nat → Int64)) => [(hg0, .inr (0, [.ref grw, .int (iI sx), .int (iI tx), .int (iI wd), .int (iI sy), .int (iI ty), .int (iI hi), .long wr, .int (iI fr), .ref gxs, .ref gys, .int (iI nc), .int (iI ogx), .int (iI ogy), .long (lI (trn xs ys nc))])), (grw, .inl (cJ, 64, .inr (.inl g))), (gxs, .inl (cJ, 4, .inr (.inl (zL xs)))), (gys, .inl (cJ, 4, .inr (.inl (zL ys))))])) (va_A [(hg0, .inr (0, [.ref grw, .int (iI sx), .int (iI tx), .int (iI wd), .int (iI sy), .int (iI ty), .int (iI hi), .long wr, .int (iI fr), .ref gxs, .ref gys, .int (iI nc), .int (iI ogx), .int (iI ogy), .long (lI tu)])), (grw, .inl (cJ, 64, .inr (.inl rw))), (gxs, .inl (cJ, 4, .inr (.inl (zL xs)))), (gys, .inl (cJ, 4, .inr (.inl (zL ys))))] sz)) 0 0 (va_A [(hg0, .inr (0, [.ref grw, .int (iI sx), .int (iI tx), .int (iI wd), .int (iI sy), .int (iI ty), .int (iI hi), .long wr, .int (iI fr), .ref gxs, .ref gys, .int (iI nc), .int (iI ogx), .int (iI ogy), .long (lI tu)])), (grw, .inl (cJ, 64, .inr (.inl rw))), (gxs, .inl (cJ, 4, .inr (.inl (zL xs)))), (gys, .inl (cJ, 4, .inr (.inl (zL ys))))] sz) := by
  refine sr_enter (Qf := fun A => va_Qv (fun (g : (Nat → Int64)) => rwI g rw hi wd (fun _ => True) (fun k i => inPg xs ys nc (sx + k * tx) (sy + i * ty))) (sr_B D classes A (fun (g : (Nat → Int64)) => [(hg0, .inr (0, [.ref grw, .int (iI sx), .int (iI tx), .int (iI wd), .int (iI sy), .int (iI ty), .int (iI hi), .long wr, .int (iI fr), .ref gxs, .ref gys, .int (iI nc), .int (iI ogx), .int (iI ogy), .long (lI (trn xs ys nc))])), (grw, .inl (cJ, 64, .inr (.inl g))), (gxs, .inl (cJ, 4, .inr (.inl (zL xs)))), (gys, .inl (cJ, 4, .inr (.inl (zL ys))))])) A) (by decide +kernel) rfl (Nat.le_of_ble_eq_true rfl) ?_
  intro p e s m below meth c A ls hx hb hr hml hown hlocks hin hts hsz hP hK hD hN hA hS hl
  have ht : ∀ w ∈ allw, w.before _ s = true := fun w h => hts w (List.mem_cons_of_mem _ h)
  have hsub : ∀ w ∈ allw, w ∈ _ := fun w h => List.mem_cons_of_mem (Cond.code y_Grid_polygon b_Grid_polygon 6 none) h
  have hl : lv_has ls 6 [(0, .ref hg0)] := hl
  have hP : va_P D classes [(hg0, .inr (0, [.ref grw, .int (iI sx), .int (iI tx), .int (iI wd), .int (iI sy), .int (iI ty), .int (iI hi), .long wr, .int (iI fr), .ref gxs, .ref gys, .int (iI nc), .int (iI ogx), .int (iI ogy), .long (lI tu)])), (grw, .inl (cJ, 64, .inr (.inl rw))), (gxs, .inl (cJ, 4, .inr (.inl (zL xs)))), (gys, .inl (cJ, 4, .inr (.inl (zL ys))))] s.heap := hP
  have hgx2 := hgx
  unfold grP at hgx2
  have hgy2 := hgy
  unfold grP at hgy2
  have hm1 := gr_mul (a := wd - 1) (b := tx) (by omega) (by omega) (by omega) (by omega)
  have hsb := shoe_bL hn hBx hBy
  have jn_112 : ∀ (fi : Int) (la : Int), (0 ≤ fi) → (fi ≤ 2000000000) → (la ≤ hi - 1) → (-2000000000 ≤ la) → (∀ j, 0 ≤ j → j < hi → (∃ k, 0 ≤ k ∧ k < wd ∧ inPg xs ys nc (sx + k * tx) (sy + j * ty)) → fi ≤ j ∧ j ≤ la) → ∀ (H : Heap) (locs : List Loc) (ls : Array Slot), va_P D classes [(hg0, .inr (0, [.ref grw, .int (iI sx), .int (iI tx), .int (iI wd), .int (iI sy), .int (iI ty), .int (iI hi), .long wr, .int (iI fr), .ref gxs, .ref gys, .int (iI nc), .int (iI ogx), .int (iI ogy), .long (lI (trn xs ys nc))])), (grw, .inl (cJ, 64, .inr (.inl rw))), (gxs, .inl (cJ, 4, .inr (.inl (zL xs)))), (gys, .inl (cJ, 4, .inr (.inl (zL ys))))] H → va_D A [(hg0, .inr (0, [.ref grw, .int (iI sx), .int (iI tx), .int (iI wd), .int (iI sy), .int (iI ty), .int (iI hi), .long wr, .int (iI fr), .ref gxs, .ref gys, .int (iI nc), .int (iI ogx), .int (iI ogy), .long (lI (trn xs ys nc))])), (grw, .inl (cJ, 64, .inr (.inl rw))), (gxs, .inl (cJ, 4, .inr (.inl (zL xs)))), (gys, .inl (cJ, 4, .inr (.inl (zL ys))))] → va_S A s.heap H locs → lv_has ls 6 [(0, .ref hg0), (3, .int (iI fi)), (4, .int (iI la))] → W p l e ({ frames := 2, cells := 0, slots := 0, locals := 61 } : Room) s m [.ref hg0].toArray below meth c H locs 0 0 (MQ below (va_Qv (fun (g : (Nat → Int64)) => rwI g rw hi wd (fun _ => True) (fun k i => inPg xs ys nc (sx + k * tx) (sy + i * ty))) (sr_B D classes A (fun (g : (Nat → Int64)) => [(hg0, .inr (0, [.ref grw, .int (iI sx), .int (iI tx), .int (iI wd), .int (iI sy), .int (iI ty), .int (iI hi), .long wr, .int (iI fr), .ref gxs, .ref gys, .int (iI nc), .int (iI ogx), .int (iI ogy), .long (lI (trn xs ys nc))])), (grw, .inl (cJ, 64, .inr (.inl g))), (gxs, .inl (cJ, 4, .inr (.inl (zL xs)))), (gys, .inl (cJ, 4, .inr (.inl (zL ys))))])) A) [.ref hg0].toArray s 0 0 A) (F0 m 112 ls []) := by
    intro fi la hfi hfb hla hlb hout H locs ls hP hD hS hl
    refine lv_iload_n hx hb d_Grid_polygon_112 rfl (lv_at hl 1 rfl) ?_
    refine lv_istore (lv' := [(5, .int (iI fi)), (0, .ref hg0), (3, .int (iI fi)), (4, .int (iI la))]) hx hb d_Grid_polygon_113 hl (by decide) rfl (fun ls hl => ?_)
    have lp_115 : ∀ (n_ : Nat) (j : Int) (g : Nat → Int64), (la - j + 1).toNat < n_ → (fi ≤ j) → (j ≤ 2000000000) → (rwI g rw hi wd (fun i => fi ≤ i ∧ i < j) (fun k i => inPg xs ys nc (sx + k * tx) (sy + i * ty))) → ∀ (H : Heap) (locs : List Loc) (ls : Array Slot), va_P D classes [(hg0, .inr (0, [.ref grw, .int (iI sx), .int (iI tx), .int (iI wd), .int (iI sy), .int (iI ty), .int (iI hi), .long wr, .int (iI fr), .ref gxs, .ref gys, .int (iI nc), .int (iI ogx), .int (iI ogy), .long (lI (trn xs ys nc))])), (grw, .inl (cJ, 64, .inr (.inl g))), (gxs, .inl (cJ, 4, .inr (.inl (zL xs)))), (gys, .inl (cJ, 4, .inr (.inl (zL ys))))] H → va_D A [(hg0, .inr (0, [.ref grw, .int (iI sx), .int (iI tx), .int (iI wd), .int (iI sy), .int (iI ty), .int (iI hi), .long wr, .int (iI fr), .ref gxs, .ref gys, .int (iI nc), .int (iI ogx), .int (iI ogy), .long (lI (trn xs ys nc))])), (grw, .inl (cJ, 64, .inr (.inl g))), (gxs, .inl (cJ, 4, .inr (.inl (zL xs)))), (gys, .inl (cJ, 4, .inr (.inl (zL ys))))] → va_S A s.heap H locs → lv_has ls 6 [(0, .ref hg0), (3, .int (iI fi)), (4, .int (iI la)), (5, .int (iI j))] → W p l e ({ frames := 2, cells := 0, slots := 0, locals := 61 } : Room) s m [.ref hg0].toArray below meth c H locs 0 0 (MQ below (va_Qv (fun (g : (Nat → Int64)) => rwI g rw hi wd (fun _ => True) (fun k i => inPg xs ys nc (sx + k * tx) (sy + i * ty))) (sr_B D classes A (fun (g : (Nat → Int64)) => [(hg0, .inr (0, [.ref grw, .int (iI sx), .int (iI tx), .int (iI wd), .int (iI sy), .int (iI ty), .int (iI hi), .long wr, .int (iI fr), .ref gxs, .ref gys, .int (iI nc), .int (iI ogx), .int (iI ogy), .long (lI (trn xs ys nc))])), (grw, .inl (cJ, 64, .inr (.inl g))), (gxs, .inl (cJ, 4, .inr (.inl (zL xs)))), (gys, .inl (cJ, 4, .inr (.inl (zL ys))))])) A) [.ref hg0].toArray s 0 0 A) (F0 m 115 ls []) := by
      intro n_
      induction n_ with
      | zero => intro j g hm_; exact absurd hm_ (Nat.not_lt_zero _)
      | succ n_ ih_115 =>
        intro j g hm_ hj0 hjb hR H locs ls hP hD hS hl
        refine lv_iload hx hb d_Grid_polygon_115 (lv_at hl 3 rfl) ?_
        refine lv_iload hx hb d_Grid_polygon_117 (lv_at hl 2 rfl) ?_
        refine sr_icmp_gt (tgt := 170) hx hb d_Grid_polygon_119 (by decide) (by unfold bI; omega) (by unfold bI; omega) (fun c_119 => ?_) (fun c_119 => ?_)
        · -- T
          exact sr_vret (g) hx hb hr hlocks hP hD hS d_Grid_polygon_170 (rwI_Q hR (fun i a b h9 => ⟨fun _ => trivial, fun _ => by have h8 := hout i a b h9; omega⟩))
        · -- F
          have hjm := gr_mul (a := j) (b := ty) (by omega) (by omega) (by omega) (by omega)
          refine lv_aload_n hx hb d_Grid_polygon_122 rfl (lv_at hl 0 rfl) ?_
          refine va_get hx hb ht i_Grid hown hK hP 0 rfl rfl 0 (by decide) (ht _ k_f_Grid_9) (fun _ h9 => h9) rfl d_Grid_polygon_123 ?_
          refine lv_iload hx hb d_Grid_polygon_126 (lv_at hl 3 rfl) ?_
          refine sr_lald hx hb hK hP 1 1 rfl rfl (by omega) (by omega) (by decide) d_Grid_polygon_128 ?_
          refine lv_aload_n hx hb d_Grid_polygon_129 rfl (lv_at hl 0 rfl) ?_
          refine va_get hx hb ht i_Grid hown hK hP 0 rfl rfl 7 (by decide) (ht _ k_f_Grid_28) (fun _ h9 => h9) rfl d_Grid_polygon_130 ?_
          refine sr_lcmpr_eq (tgt := 164) hx hb d_Grid_polygon_133 d_Grid_polygon_134 (by decide) (fun c_133 => ?_) (fun c_133 => ?_)
          · -- T
            refine lv_iinc (v := iI (j + 1)) (lv' := [(5, .int (iI (j + 1))), (0, .ref hg0), (3, .int (iI fi)), (4, .int (iI la))]) hx hb d_Grid_polygon_164 hl (k := 3) rfl (iI_add _ _) (by decide) rfl (fun ls hl => ?_)
            refine lv_goto (tgt := 115) hx hb d_Grid_polygon_167 (by decide) ?_
            exact ih_115 (j + 1) g (by omega) (by omega) (by omega) (by first | exact rwI_Q (rwI_full hR hwr (by omega) c_133) (fun i a b _ => by omega) | exact rwI_Q (rwI_or hR (by omega) (fun k k0 k1 => (hw_159 k k0 k1).trans (and_congr Iff.rfl (trn_in hn)))) (fun i a b _ => by omega)) _ _ _ hP hD hS (lv_sub hl [1, 2, 3, 0] rfl)
          · -- F
            refine lv_aload_n hx hb d_Grid_polygon_137 rfl (lv_at hl 0 rfl) ?_
            refine va_get hx hb ht i_Grid hown hK hP 0 rfl rfl 0 (by decide) (ht _ k_f_Grid_9) (fun _ h9 => h9) rfl d_Grid_polygon_138 ?_
            refine lv_iload hx hb d_Grid_polygon_141 (lv_at hl 3 rfl) ?_
            refine lv_dup2_11 hx hb d_Grid_polygon_143 rfl rfl ?_
            refine sr_lald hx hb hK hP 1 1 rfl rfl (by omega) (by omega) (by decide) d_Grid_polygon_144 ?_
            refine lv_aload_n hx hb d_Grid_polygon_145 rfl (lv_at hl 0 rfl) ?_
            refine lv_aload_n hx hb d_Grid_polygon_146 rfl (lv_at hl 0 rfl) ?_
            refine va_get hx hb ht i_Grid hown hK hP 0 rfl rfl 4 (by decide) (ht _ k_f_Grid_54) (fun _ h9 => h9) rfl d_Grid_polygon_147 ?_
            refine lv_iload hx hb d_Grid_polygon_150 (lv_at hl 3 rfl) ?_
            refine lv_aload_n hx hb d_Grid_polygon_152 rfl (lv_at hl 0 rfl) ?_
            refine va_get hx hb ht i_Grid hown hK hP 0 rfl rfl 5 (by decide) (ht _ k_f_Grid_22) (fun _ h9 => h9) rfl d_Grid_polygon_153 ?_
            refine sr_imul hx hb d_Grid_polygon_156 ?_
            refine sr_iadd hx hb d_Grid_polygon_157 ?_
            refine sr_i2l hx hb d_Grid_polygon_158 (by unfold bI; omega) ?_
            refine sr_cV_l (wr := [(grw, .inl (cJ, 64, .inr (.inl g)))]) (As := [.long (lI (sy + (j * ty)))]) (rest := [.long (g j.toNat), .int (iI j), .ref grw]) (b := hg0) (q0 := 0) hx hb hml hown hts (c_Grid_polygonBits l D cI cJ cZ _ hg0 grw sx tx wd sy ty hi wr fr gxs gys nc ogx ogy (trn xs ys nc) xs ys (sy + (j * ty)) (by omega) (by omega) (hgx) (hBx) (hBy) (trn_1 xs ys nc) (by omega)) (sr_cwV hsub hts k_cd_Grid_polygonBits k_in_Grid k_m_Grid_98 k_im_Grid_polygonBits k_se_Grid_polygonBits g_Grid_polygonBits ⟨Nat.le_of_ble_eq_true rfl, Nat.le_of_ble_eq_true rfl⟩) hns_ok hK hN hP hD hS hA [0, 2, 3] [1] rfl (by decide) rfl (by decide) (by decide) rfl rfl rfl hl.1 rfl (Nat.le_of_ble_eq_true rfl) d_Grid_polygon_159 ⟨Nat.le_of_ble_eq_true rfl, Nat.le_of_ble_eq_true rfl⟩ (fun r_159 u H locs hw_159 hP hD hS => ?_)
            have hP : va_P D classes [(grw, .inl (cJ, 64, .inr (.inl g))), (hg0, .inr (0, [.ref grw, .int (iI sx), .int (iI tx), .int (iI wd), .int (iI sy), .int (iI ty), .int (iI hi), .long wr, .int (iI fr), .ref gxs, .ref gys, .int (iI nc), .int (iI ogx), .int (iI ogy), .long (lI (trn xs ys nc))])), (gxs, .inl (cJ, 4, .inr (.inl (zL xs)))), (gys, .inl (cJ, 4, .inr (.inl (zL ys))))] H := hP
            have hD : va_D A [(grw, .inl (cJ, 64, .inr (.inl g))), (hg0, .inr (0, [.ref grw, .int (iI sx), .int (iI tx), .int (iI wd), .int (iI sy), .int (iI ty), .int (iI hi), .long wr, .int (iI fr), .ref gxs, .ref gys, .int (iI nc), .int (iI ogx), .int (iI ogy), .long (lI (trn xs ys nc))])), (gxs, .inl (cJ, 4, .inr (.inl (zL xs)))), (gys, .inl (cJ, 4, .inr (.inl (zL ys))))] := hD
            try dsimp only at hw_159
            refine lv_lor hx hb d_Grid_polygon_162 ?_
            refine sr_last hx hb hK hP hD hS 0 1 rfl rfl (by omega) (by omega) (by decide) d_Grid_polygon_163 (fun H locs hP hD hS => ?_)
            have hP : va_P D classes [(grw, .inl (cJ, 64, .inr (.inl (vp_updL g j.toNat ((g j.toNat) ||| r_159))))), (hg0, .inr (0, [.ref grw, .int (iI sx), .int (iI tx), .int (iI wd), .int (iI sy), .int (iI ty), .int (iI hi), .long wr, .int (iI fr), .ref gxs, .ref gys, .int (iI nc), .int (iI ogx), .int (iI ogy), .long (lI (trn xs ys nc))])), (gxs, .inl (cJ, 4, .inr (.inl (zL xs)))), (gys, .inl (cJ, 4, .inr (.inl (zL ys))))] H := hP
            have hD : va_D A [(grw, .inl (cJ, 64, .inr (.inl (vp_updL g j.toNat ((g j.toNat) ||| r_159))))), (hg0, .inr (0, [.ref grw, .int (iI sx), .int (iI tx), .int (iI wd), .int (iI sy), .int (iI ty), .int (iI hi), .long wr, .int (iI fr), .ref gxs, .ref gys, .int (iI nc), .int (iI ogx), .int (iI ogy), .long (lI (trn xs ys nc))])), (gxs, .inl (cJ, 4, .inr (.inl (zL xs)))), (gys, .inl (cJ, 4, .inr (.inl (zL ys))))] := hD
            refine lv_iinc (v := iI (j + 1)) (lv' := [(5, .int (iI (j + 1))), (0, .ref hg0), (3, .int (iI fi)), (4, .int (iI la))]) hx hb d_Grid_polygon_164 hl (k := 3) rfl (iI_add _ _) (by decide) rfl (fun ls hl => ?_)
            refine lv_goto (tgt := 115) hx hb d_Grid_polygon_167 (by decide) ?_
            exact ih_115 (j + 1) (vp_updL g j.toNat ((g j.toNat) ||| r_159)) (by omega) (by omega) (by omega) (by first | exact rwI_Q (rwI_full hR hwr (by omega) c_133) (fun i a b _ => by omega) | exact rwI_Q (rwI_or hR (by omega) (fun k k0 k1 => (hw_159 k k0 k1).trans (and_congr Iff.rfl (trn_in hn)))) (fun i a b _ => by omega)) _ _ _ (hP.sub [1, 0, 2, 3] rfl) (hD.sub [1, 0, 2, 3] (by decide) rfl) hS (lv_sub hl [1, 2, 3, 0] rfl)
    exact lp_115 _ fi rw (Nat.lt_succ_self _) (by omega) (by omega) (rwI_0 (fun i _ k _ _ h9 => by omega)) _ _ _ hP hD hS (lv_sub hl [1, 2, 3, 0] rfl)
  have jn_22 : ∀ (H : Heap) (locs : List Loc) (ls : Array Slot), va_P D classes [(hg0, .inr (0, [.ref grw, .int (iI sx), .int (iI tx), .int (iI wd), .int (iI sy), .int (iI ty), .int (iI hi), .long wr, .int (iI fr), .ref gxs, .ref gys, .int (iI nc), .int (iI ogx), .int (iI ogy), .long (lI (trn xs ys nc))])), (grw, .inl (cJ, 64, .inr (.inl rw))), (gxs, .inl (cJ, 4, .inr (.inl (zL xs)))), (gys, .inl (cJ, 4, .inr (.inl (zL ys))))] H → va_D A [(hg0, .inr (0, [.ref grw, .int (iI sx), .int (iI tx), .int (iI wd), .int (iI sy), .int (iI ty), .int (iI hi), .long wr, .int (iI fr), .ref gxs, .ref gys, .int (iI nc), .int (iI ogx), .int (iI ogy), .long (lI (trn xs ys nc))])), (grw, .inl (cJ, 64, .inr (.inl rw))), (gxs, .inl (cJ, 4, .inr (.inl (zL xs)))), (gys, .inl (cJ, 4, .inr (.inl (zL ys))))] → va_S A s.heap H locs → lv_has ls 6 [(0, .ref hg0), (1, .long (lI (shoe xs ys nc nc.toNat)))] → W p l e ({ frames := 2, cells := 0, slots := 0, locals := 61 } : Room) s m [.ref hg0].toArray below meth c H locs 0 0 (MQ below (va_Qv (fun (g : (Nat → Int64)) => rwI g rw hi wd (fun _ => True) (fun k i => inPg xs ys nc (sx + k * tx) (sy + i * ty))) (sr_B D classes A (fun (g : (Nat → Int64)) => [(hg0, .inr (0, [.ref grw, .int (iI sx), .int (iI tx), .int (iI wd), .int (iI sy), .int (iI ty), .int (iI hi), .long wr, .int (iI fr), .ref gxs, .ref gys, .int (iI nc), .int (iI ogx), .int (iI ogy), .long (lI (trn xs ys nc))])), (grw, .inl (cJ, 64, .inr (.inl g))), (gxs, .inl (cJ, 4, .inr (.inl (zL xs)))), (gys, .inl (cJ, 4, .inr (.inl (zL ys))))])) A) [.ref hg0].toArray s 0 0 A) (F0 m 22 ls []) := by
    intro   H locs ls hP hD hS hl
    refine sr_iconst hx hb d_Grid_polygon_22 ?_
    refine lv_istore_n (lv' := [(3, .int (iI 0)), (0, .ref hg0), (1, .long (lI (shoe xs ys nc nc.toNat)))]) hx hb d_Grid_polygon_23 rfl hl (by decide) rfl (fun ls hl => ?_)
    refine lv_aload_n hx hb d_Grid_polygon_24 rfl (lv_at hl 1 rfl) ?_
    refine va_get hx hb ht i_Grid hown hK hP 0 rfl rfl 6 (by decide) (ht _ k_f_Grid_25) (fun _ h9 => h9) rfl d_Grid_polygon_25 ?_
    refine sr_iconst hx hb d_Grid_polygon_28 ?_
    refine sr_isub hx hb d_Grid_polygon_29 ?_
    refine lv_istore (lv' := [(4, .int (iI (hi - 1))), (3, .int (iI 0)), (0, .ref hg0), (1, .long (lI (shoe xs ys nc nc.toNat)))]) hx hb d_Grid_polygon_30 hl (by decide) rfl (fun ls hl => ?_)
    refine lv_lload_n hx hb d_Grid_polygon_32 rfl (lv_at hl 3 rfl) ?_
    refine sr_lconst0 hx hb d_Grid_polygon_33 ?_
    refine sr_lcmp_eq (tgt := 112) hx hb d_Grid_polygon_34 d_Grid_polygon_35 (by decide) hsb (by unfold bL; decide) (fun c_34 => ?_) (fun c_34 => ?_)
    · -- T
      exact jn_112 0 (hi - 1) (by omega) (by omega) (by omega) (by omega) (fun j a b _ => by omega) _ _ _ hP hD hS (lv_sub hl [2, 1, 0] rfl)
    · -- F
      refine lv_aload_n hx hb d_Grid_polygon_38 rfl (lv_at hl 2 rfl) ?_
      refine lv_aload_n hx hb d_Grid_polygon_39 rfl (lv_at hl 2 rfl) ?_
      refine lv_aload_n hx hb d_Grid_polygon_40 rfl (lv_at hl 2 rfl) ?_
      refine va_get hx hb ht i_Grid hown hK hP 0 rfl rfl 10 (by decide) (ht _ k_f_Grid_35) (fun _ h9 => h9) rfl d_Grid_polygon_41 ?_
      refine sr_cV_l (wr := [(grw, .inl (cJ, 64, .inr (.inl rw))), (gxs, .inl (cJ, 4, .inr (.inl (zL xs))))]) (As := [.ref gys]) (rest := [.ref hg0]) (b := hg0) (q0 := 0) hx hb hml hown hts (c_Grid_least l D cI cJ cZ _ hg0 grw sx tx wd sy ty hi wr fr gxs gys nc ogx ogy (trn xs ys nc) gys ys (by omega) (by omega) (hBy)) (sr_cwV hsub hts k_cd_Grid_least k_in_Grid k_m_Grid_84 k_im_Grid_least k_se_Grid_least g_Grid_least ⟨Nat.le_of_ble_eq_true rfl, Nat.le_of_ble_eq_true rfl⟩) hns_ok hK hN hP hD hS hA [0, 3] [1, 2] rfl (by decide) rfl (by decide) (by decide) rfl rfl rfl hl.1 rfl (Nat.le_of_ble_eq_true rfl) d_Grid_polygon_44 ⟨Nat.le_of_ble_eq_true rfl, Nat.le_of_ble_eq_true rfl⟩ (fun r_44 u H locs hw_44 hP hD hS => ?_)
      have hP : va_P D classes [(grw, .inl (cJ, 64, .inr (.inl rw))), (gxs, .inl (cJ, 4, .inr (.inl (zL xs)))), (hg0, .inr (0, [.ref grw, .int (iI sx), .int (iI tx), .int (iI wd), .int (iI sy), .int (iI ty), .int (iI hi), .long wr, .int (iI fr), .ref gxs, .ref gys, .int (iI nc), .int (iI ogx), .int (iI ogy), .long (lI (trn xs ys nc))])), (gys, .inl (cJ, 4, .inr (.inl (zL ys))))] H := hP
      have hD : va_D A [(grw, .inl (cJ, 64, .inr (.inl rw))), (gxs, .inl (cJ, 4, .inr (.inl (zL xs)))), (hg0, .inr (0, [.ref grw, .int (iI sx), .int (iI tx), .int (iI wd), .int (iI sy), .int (iI ty), .int (iI hi), .long wr, .int (iI fr), .ref gxs, .ref gys, .int (iI nc), .int (iI ogx), .int (iI ogy), .long (lI (trn xs ys nc))])), (gys, .inl (cJ, 4, .inr (.inl (zL ys))))] := hD
      try dsimp only at hw_44
      obtain ⟨z_44, rfl, hw_44⟩ := hw_44
      refine sr_cV_i (wr := [(grw, .inl (cJ, 64, .inr (.inl rw))), (gxs, .inl (cJ, 4, .inr (.inl (zL xs)))), (gys, .inl (cJ, 4, .inr (.inl (zL ys))))]) (As := [.long (lI z_44)]) (rest := []) (b := hg0) (q0 := 2) hx hb hml hown hts (c_Grid_firstRow l D cI cJ cZ _ hg0 grw sx tx wd sy ty hi wr fr gxs gys nc ogx ogy (trn xs ys nc) z_44 (hgy) (by omega)) (sr_cwV hsub hts k_cd_Grid_firstRow k_in_Grid k_m_Grid_88 k_im_Grid_firstRow k_se_Grid_firstRow g_Grid_firstRow ⟨Nat.le_of_ble_eq_true rfl, Nat.le_of_ble_eq_true rfl⟩) hns_ok hK hN hP hD hS hA [2] [0, 1, 3] rfl (by decide) rfl (by decide) (by decide) rfl rfl rfl hl.1 rfl (Nat.le_of_ble_eq_true rfl) d_Grid_polygon_47 ⟨Nat.le_of_ble_eq_true rfl, Nat.le_of_ble_eq_true rfl⟩ (fun r_47 u H locs hw_47 hP hD hS => ?_)
      have hP : va_P D classes [(grw, .inl (cJ, 64, .inr (.inl rw))), (gxs, .inl (cJ, 4, .inr (.inl (zL xs)))), (gys, .inl (cJ, 4, .inr (.inl (zL ys)))), (hg0, .inr (0, [.ref grw, .int (iI sx), .int (iI tx), .int (iI wd), .int (iI sy), .int (iI ty), .int (iI hi), .long wr, .int (iI fr), .ref gxs, .ref gys, .int (iI nc), .int (iI ogx), .int (iI ogy), .long (lI (trn xs ys nc))]))] H := hP
      have hD : va_D A [(grw, .inl (cJ, 64, .inr (.inl rw))), (gxs, .inl (cJ, 4, .inr (.inl (zL xs)))), (gys, .inl (cJ, 4, .inr (.inl (zL ys)))), (hg0, .inr (0, [.ref grw, .int (iI sx), .int (iI tx), .int (iI wd), .int (iI sy), .int (iI ty), .int (iI hi), .long wr, .int (iI fr), .ref gxs, .ref gys, .int (iI nc), .int (iI ogx), .int (iI ogy), .long (lI (trn xs ys nc))]))] := hD
      try dsimp only at hw_47
      subst hw_47
      have hdv1 := div_bd (a := sy - z_44) (b := ty) (M := 800000000) (by omega) (by omega) (by omega) (by omega)
      refine lv_istore_n (lv' := [(3, .int (iI (max 0 (-((sy - z_44) / ty))))), (4, .int (iI (hi - 1))), (0, .ref hg0), (1, .long (lI (shoe xs ys nc nc.toNat)))]) hx hb d_Grid_polygon_50 rfl hl (by decide) rfl (fun ls hl => ?_)
      refine lv_aload_n hx hb d_Grid_polygon_51 rfl (lv_at hl 2 rfl) ?_
      refine lv_aload_n hx hb d_Grid_polygon_52 rfl (lv_at hl 2 rfl) ?_
      refine lv_aload_n hx hb d_Grid_polygon_53 rfl (lv_at hl 2 rfl) ?_
      refine va_get hx hb ht i_Grid hown hK hP 3 rfl rfl 10 (by decide) (ht _ k_f_Grid_35) (fun _ h9 => h9) rfl d_Grid_polygon_54 ?_
      refine sr_cV_l (wr := [(grw, .inl (cJ, 64, .inr (.inl rw))), (gxs, .inl (cJ, 4, .inr (.inl (zL xs))))]) (As := [.ref gys]) (rest := [.ref hg0]) (b := hg0) (q0 := 3) hx hb hml hown hts (c_Grid_greatest l D cI cJ cZ _ hg0 grw sx tx wd sy ty hi wr fr gxs gys nc ogx ogy (trn xs ys nc) gys ys (by omega) (by omega) (hBy)) (sr_cwV hsub hts k_cd_Grid_greatest k_in_Grid k_m_Grid_92 k_im_Grid_greatest k_se_Grid_greatest g_Grid_greatest ⟨Nat.le_of_ble_eq_true rfl, Nat.le_of_ble_eq_true rfl⟩) hns_ok hK hN hP hD hS hA [3, 2] [0, 1] rfl (by decide) rfl (by decide) (by decide) rfl rfl rfl hl.1 rfl (Nat.le_of_ble_eq_true rfl) d_Grid_polygon_57 ⟨Nat.le_of_ble_eq_true rfl, Nat.le_of_ble_eq_true rfl⟩ (fun r_57 u H locs hw_57 hP hD hS => ?_)
      have hP : va_P D classes [(grw, .inl (cJ, 64, .inr (.inl rw))), (gxs, .inl (cJ, 4, .inr (.inl (zL xs)))), (hg0, .inr (0, [.ref grw, .int (iI sx), .int (iI tx), .int (iI wd), .int (iI sy), .int (iI ty), .int (iI hi), .long wr, .int (iI fr), .ref gxs, .ref gys, .int (iI nc), .int (iI ogx), .int (iI ogy), .long (lI (trn xs ys nc))])), (gys, .inl (cJ, 4, .inr (.inl (zL ys))))] H := hP
      have hD : va_D A [(grw, .inl (cJ, 64, .inr (.inl rw))), (gxs, .inl (cJ, 4, .inr (.inl (zL xs)))), (hg0, .inr (0, [.ref grw, .int (iI sx), .int (iI tx), .int (iI wd), .int (iI sy), .int (iI ty), .int (iI hi), .long wr, .int (iI fr), .ref gxs, .ref gys, .int (iI nc), .int (iI ogx), .int (iI ogy), .long (lI (trn xs ys nc))])), (gys, .inl (cJ, 4, .inr (.inl (zL ys))))] := hD
      try dsimp only at hw_57
      obtain ⟨z_57, rfl, hw_57⟩ := hw_57
      refine sr_cV_i (wr := [(grw, .inl (cJ, 64, .inr (.inl rw))), (gxs, .inl (cJ, 4, .inr (.inl (zL xs)))), (gys, .inl (cJ, 4, .inr (.inl (zL ys))))]) (As := [.long (lI z_57)]) (rest := []) (b := hg0) (q0 := 2) hx hb hml hown hts (c_Grid_lastRow l D cI cJ cZ _ hg0 grw sx tx wd sy ty hi wr fr gxs gys nc ogx ogy (trn xs ys nc) z_57 (hgy) (by omega)) (sr_cwV hsub hts k_cd_Grid_lastRow k_in_Grid k_m_Grid_95 k_im_Grid_lastRow k_se_Grid_lastRow g_Grid_lastRow ⟨Nat.le_of_ble_eq_true rfl, Nat.le_of_ble_eq_true rfl⟩) hns_ok hK hN hP hD hS hA [2] [0, 1, 3] rfl (by decide) rfl (by decide) (by decide) rfl rfl rfl hl.1 rfl (Nat.le_of_ble_eq_true rfl) d_Grid_polygon_60 ⟨Nat.le_of_ble_eq_true rfl, Nat.le_of_ble_eq_true rfl⟩ (fun r_60 u H locs hw_60 hP hD hS => ?_)
      have hP : va_P D classes [(grw, .inl (cJ, 64, .inr (.inl rw))), (gxs, .inl (cJ, 4, .inr (.inl (zL xs)))), (gys, .inl (cJ, 4, .inr (.inl (zL ys)))), (hg0, .inr (0, [.ref grw, .int (iI sx), .int (iI tx), .int (iI wd), .int (iI sy), .int (iI ty), .int (iI hi), .long wr, .int (iI fr), .ref gxs, .ref gys, .int (iI nc), .int (iI ogx), .int (iI ogy), .long (lI (trn xs ys nc))]))] H := hP
      have hD : va_D A [(grw, .inl (cJ, 64, .inr (.inl rw))), (gxs, .inl (cJ, 4, .inr (.inl (zL xs)))), (gys, .inl (cJ, 4, .inr (.inl (zL ys)))), (hg0, .inr (0, [.ref grw, .int (iI sx), .int (iI tx), .int (iI wd), .int (iI sy), .int (iI ty), .int (iI hi), .long wr, .int (iI fr), .ref gxs, .ref gys, .int (iI nc), .int (iI ogx), .int (iI ogy), .long (lI (trn xs ys nc))]))] := hD
      try dsimp only at hw_60
      subst hw_60
      have hdv2 := div_bd (a := z_57 - sy) (b := ty) (M := 800000000) (by omega) (by omega) (by omega) (by omega)
      refine lv_istore (lv' := [(4, .int (iI (min (hi - 1) ((z_57 - sy) / ty)))), (3, .int (iI (max 0 (-((sy - z_44) / ty))))), (0, .ref hg0), (1, .long (lI (shoe xs ys nc nc.toNat)))]) hx hb d_Grid_polygon_63 hl (by decide) rfl (fun ls hl => ?_)
      refine lv_aload_n hx hb d_Grid_polygon_65 rfl (lv_at hl 2 rfl) ?_
      refine lv_aload_n hx hb d_Grid_polygon_66 rfl (lv_at hl 2 rfl) ?_
      refine va_get hx hb ht i_Grid hown hK hP 3 rfl rfl 9 (by decide) (ht _ k_f_Grid_32) (fun _ h9 => h9) rfl d_Grid_polygon_67 ?_
      refine sr_cV_l (wr := [(grw, .inl (cJ, 64, .inr (.inl rw))), (gys, .inl (cJ, 4, .inr (.inl (zL ys))))]) (As := [.ref gxs]) (rest := []) (b := hg0) (q0 := 3) hx hb hml hown hts (c_Grid_greatest l D cI cJ cZ _ hg0 grw sx tx wd sy ty hi wr fr gxs gys nc ogx ogy (trn xs ys nc) gxs xs (by omega) (by omega) (hBx)) (sr_cwV hsub hts k_cd_Grid_greatest k_in_Grid k_m_Grid_92 k_im_Grid_greatest k_se_Grid_greatest g_Grid_greatest ⟨Nat.le_of_ble_eq_true rfl, Nat.le_of_ble_eq_true rfl⟩) hns_ok hK hN hP hD hS hA [3, 1] [0, 2] rfl (by decide) rfl (by decide) (by decide) rfl rfl rfl hl.1 rfl (Nat.le_of_ble_eq_true rfl) d_Grid_polygon_70 ⟨Nat.le_of_ble_eq_true rfl, Nat.le_of_ble_eq_true rfl⟩ (fun r_70 u H locs hw_70 hP hD hS => ?_)
      have hP : va_P D classes [(grw, .inl (cJ, 64, .inr (.inl rw))), (gys, .inl (cJ, 4, .inr (.inl (zL ys)))), (hg0, .inr (0, [.ref grw, .int (iI sx), .int (iI tx), .int (iI wd), .int (iI sy), .int (iI ty), .int (iI hi), .long wr, .int (iI fr), .ref gxs, .ref gys, .int (iI nc), .int (iI ogx), .int (iI ogy), .long (lI (trn xs ys nc))])), (gxs, .inl (cJ, 4, .inr (.inl (zL xs))))] H := hP
      have hD : va_D A [(grw, .inl (cJ, 64, .inr (.inl rw))), (gys, .inl (cJ, 4, .inr (.inl (zL ys)))), (hg0, .inr (0, [.ref grw, .int (iI sx), .int (iI tx), .int (iI wd), .int (iI sy), .int (iI ty), .int (iI hi), .long wr, .int (iI fr), .ref gxs, .ref gys, .int (iI nc), .int (iI ogx), .int (iI ogy), .long (lI (trn xs ys nc))])), (gxs, .inl (cJ, 4, .inr (.inl (zL xs))))] := hD
      try dsimp only at hw_70
      obtain ⟨z_70, rfl, hw_70⟩ := hw_70
      refine lv_aload_n hx hb d_Grid_polygon_73 rfl (lv_at hl 2 rfl) ?_
      refine va_get hx hb ht i_Grid hown hK hP 2 rfl rfl 1 (by decide) (ht _ k_f_Grid_38) (fun _ h9 => h9) rfl d_Grid_polygon_74 ?_
      refine sr_i2l hx hb d_Grid_polygon_77 (by unfold bI; omega) ?_
      refine sr_lcmp_lt (tgt := 111) hx hb d_Grid_polygon_78 d_Grid_polygon_79 (by decide) (by unfold bL; omega) (by unfold bL; omega) (fun c_78 => ?_) (fun c_78 => ?_)
      · -- T
        exact sr_vret (rw) hx hb hr hlocks (hP.sub [2, 0, 3, 1] rfl) (hD.sub [2, 0, 3, 1] (by decide) rfl) hS d_Grid_polygon_111 (rwI_0 (fun i _ k k0 k1 _ k2 => c_34 (pg_box hn k2 (Or.inr (Or.inr (Or.inr (fun j j0 j1 => by have h8 := hw_70.2.1 j j0 j1; have h7 := Int.mul_nonneg k0 (show 0 ≤ tx by omega); omega)))))))
      · -- F
        refine lv_aload_n hx hb d_Grid_polygon_82 rfl (lv_at hl 2 rfl) ?_
        refine lv_aload_n hx hb d_Grid_polygon_83 rfl (lv_at hl 2 rfl) ?_
        refine va_get hx hb ht i_Grid hown hK hP 2 rfl rfl 9 (by decide) (ht _ k_f_Grid_32) (fun _ h9 => h9) rfl d_Grid_polygon_84 ?_
        refine sr_cV_l (wr := [(grw, .inl (cJ, 64, .inr (.inl rw))), (gys, .inl (cJ, 4, .inr (.inl (zL ys))))]) (As := [.ref gxs]) (rest := []) (b := hg0) (q0 := 2) hx hb hml hown hts (c_Grid_least l D cI cJ cZ _ hg0 grw sx tx wd sy ty hi wr fr gxs gys nc ogx ogy (trn xs ys nc) gxs xs (by omega) (by omega) (hBx)) (sr_cwV hsub hts k_cd_Grid_least k_in_Grid k_m_Grid_84 k_im_Grid_least k_se_Grid_least g_Grid_least ⟨Nat.le_of_ble_eq_true rfl, Nat.le_of_ble_eq_true rfl⟩) hns_ok hK hN hP hD hS hA [2, 3] [0, 1] rfl (by decide) rfl (by decide) (by decide) rfl rfl rfl hl.1 rfl (Nat.le_of_ble_eq_true rfl) d_Grid_polygon_87 ⟨Nat.le_of_ble_eq_true rfl, Nat.le_of_ble_eq_true rfl⟩ (fun r_87 u H locs hw_87 hP hD hS => ?_)
        have hP : va_P D classes [(grw, .inl (cJ, 64, .inr (.inl rw))), (gys, .inl (cJ, 4, .inr (.inl (zL ys)))), (hg0, .inr (0, [.ref grw, .int (iI sx), .int (iI tx), .int (iI wd), .int (iI sy), .int (iI ty), .int (iI hi), .long wr, .int (iI fr), .ref gxs, .ref gys, .int (iI nc), .int (iI ogx), .int (iI ogy), .long (lI (trn xs ys nc))])), (gxs, .inl (cJ, 4, .inr (.inl (zL xs))))] H := hP
        have hD : va_D A [(grw, .inl (cJ, 64, .inr (.inl rw))), (gys, .inl (cJ, 4, .inr (.inl (zL ys)))), (hg0, .inr (0, [.ref grw, .int (iI sx), .int (iI tx), .int (iI wd), .int (iI sy), .int (iI ty), .int (iI hi), .long wr, .int (iI fr), .ref gxs, .ref gys, .int (iI nc), .int (iI ogx), .int (iI ogy), .long (lI (trn xs ys nc))])), (gxs, .inl (cJ, 4, .inr (.inl (zL xs))))] := hD
        try dsimp only at hw_87
        obtain ⟨z_87, rfl, hw_87⟩ := hw_87
        refine lv_aload_n hx hb d_Grid_polygon_90 rfl (lv_at hl 2 rfl) ?_
        refine va_get hx hb ht i_Grid hown hK hP 2 rfl rfl 1 (by decide) (ht _ k_f_Grid_38) (fun _ h9 => h9) rfl d_Grid_polygon_91 ?_
        refine lv_aload_n hx hb d_Grid_polygon_94 rfl (lv_at hl 2 rfl) ?_
        refine va_get hx hb ht i_Grid hown hK hP 2 rfl rfl 3 (by decide) (ht _ k_f_Grid_19) (fun _ h9 => h9) rfl d_Grid_polygon_95 ?_
        refine sr_iconst hx hb d_Grid_polygon_98 ?_
        refine sr_isub hx hb d_Grid_polygon_99 ?_
        refine lv_aload_n hx hb d_Grid_polygon_100 rfl (lv_at hl 2 rfl) ?_
        refine va_get hx hb ht i_Grid hown hK hP 2 rfl rfl 2 (by decide) (ht _ k_f_Grid_15) (fun _ h9 => h9) rfl d_Grid_polygon_101 ?_
        refine sr_imul hx hb d_Grid_polygon_104 ?_
        refine sr_iadd hx hb d_Grid_polygon_105 ?_
        refine sr_i2l hx hb d_Grid_polygon_106 (by unfold bI; omega) ?_
        refine sr_lcmp_le (tgt := 112) hx hb d_Grid_polygon_107 d_Grid_polygon_108 (by decide) (by unfold bL; omega) (by unfold bL; omega) (fun c_107 => ?_) (fun c_107 => ?_)
        · -- T
          exact jn_112 (max 0 (-((sy - z_44) / ty))) (min (hi - 1) ((z_57 - sy) / ty)) (by omega) (by omega) (by omega) (by omega) (fun j a b h9 => ⟨by by_cases q : max 0 (-((sy - z_44) / ty)) ≤ j; exact q; exact absurd h9 (fun ⟨k, k0, k1, k2⟩ => c_34 (pg_box hn k2 (Or.inl (fun i i0 i1 => by have h8 := hw_44.2.1 i i0 i1; have h7 := row_lo (sy := sy) (v := z_44) (j := j) (show 0 < ty by omega); omega)))), by by_cases q : j ≤ min (hi - 1) ((z_57 - sy) / ty); exact q; exact absurd h9 (fun ⟨k, k0, k1, k2⟩ => c_34 (pg_box hn k2 (Or.inr (Or.inl (fun i i0 i1 => by have h8 := hw_57.2.1 i i0 i1; have h7 := row_hi (sy := sy) (v := z_57) (j := j) (show 0 < ty by omega); omega)))))⟩) _ _ _ (hP.sub [2, 0, 3, 1] rfl) (hD.sub [2, 0, 3, 1] (by decide) rfl) hS (lv_sub hl [2, 1, 0] rfl)
        · -- F
          exact sr_vret (rw) hx hb hr hlocks (hP.sub [2, 0, 3, 1] rfl) (hD.sub [2, 0, 3, 1] (by decide) rfl) hS d_Grid_polygon_111 (rwI_0 (fun i _ k k0 k1 _ k2 => c_34 (pg_box hn k2 (Or.inr (Or.inr (Or.inl (fun j j0 j1 => by have h8 := hw_87.2.1 j j0 j1; have h7 := Int.mul_le_mul_of_nonneg_right (show k ≤ wd - 1 by omega) (show 0 ≤ tx by omega); omega)))))))
  refine lv_aload_n hx hb d_Grid_polygon_0 rfl (lv_at hl 0 rfl) ?_
  refine sr_cV_l (wr := [(grw, .inl (cJ, 64, .inr (.inl rw)))]) (As := []) (rest := []) (b := hg0) (q0 := 0) hx hb hml hown hts (c_Grid_doubledArea l D cI cJ cZ _ hg0 grw sx tx wd sy ty hi wr fr gxs gys nc ogx ogy tu xs ys (by omega) (by omega)) (sr_cwV hsub hts k_cd_Grid_doubledArea k_in_Grid k_m_Grid_75 k_im_Grid_doubledArea k_se_Grid_doubledArea g_Grid_doubledArea ⟨Nat.le_of_ble_eq_true rfl, Nat.le_of_ble_eq_true rfl⟩) hns_ok hK hN hP hD hS hA [0, 2, 3] [1] rfl (by decide) rfl (by decide) (by decide) rfl rfl rfl hl.1 rfl (Nat.le_of_ble_eq_true rfl) d_Grid_polygon_1 ⟨Nat.le_of_ble_eq_true rfl, Nat.le_of_ble_eq_true rfl⟩ (fun r_1 u H locs hw_1 hP hD hS => ?_)
  have hP : va_P D classes [(grw, .inl (cJ, 64, .inr (.inl rw))), (hg0, .inr (0, [.ref grw, .int (iI sx), .int (iI tx), .int (iI wd), .int (iI sy), .int (iI ty), .int (iI hi), .long wr, .int (iI fr), .ref gxs, .ref gys, .int (iI nc), .int (iI ogx), .int (iI ogy), .long (lI tu)])), (gxs, .inl (cJ, 4, .inr (.inl (zL xs)))), (gys, .inl (cJ, 4, .inr (.inl (zL ys))))] H := hP
  have hD : va_D A [(grw, .inl (cJ, 64, .inr (.inl rw))), (hg0, .inr (0, [.ref grw, .int (iI sx), .int (iI tx), .int (iI wd), .int (iI sy), .int (iI ty), .int (iI hi), .long wr, .int (iI fr), .ref gxs, .ref gys, .int (iI nc), .int (iI ogx), .int (iI ogy), .long (lI tu)])), (gxs, .inl (cJ, 4, .inr (.inl (zL xs)))), (gys, .inl (cJ, 4, .inr (.inl (zL ys))))] := hD
  try dsimp only at hw_1
  subst hw_1
  refine lv_lstore_n (lv' := [(1, .long (lI (shoe xs ys nc nc.toNat))), (0, .ref hg0)]) hx hb d_Grid_polygon_4 rfl hl (by decide) rfl (fun ls hl => ?_)
  refine lv_aload_n hx hb d_Grid_polygon_5 rfl (lv_at hl 1 rfl) ?_
  refine lv_lload_n hx hb d_Grid_polygon_6 rfl (lv_at hl 0 rfl) ?_
  refine sr_lconst0 hx hb d_Grid_polygon_7 ?_
  refine sr_lcmp_ge (tgt := 18) hx hb d_Grid_polygon_8 d_Grid_polygon_9 (by decide) hsb (by unfold bL; decide) (fun c_8 => ?_) (fun c_8 => ?_)
  · -- T
    refine sr_lconst1 hx hb d_Grid_polygon_18 ?_
    refine sr_eqL (z := trn xs ys nc) (congrArg lI (by unfold trn; split <;> omega)) ?_
    refine va_put (ty := .long) hx hb ht i_Grid t_Grid t_Grid_ok n_Grid hown hK hP hD hS 1 rfl rfl 14 (by decide) (ht _ k_f_Grid_81) (fun _ h9 => h9) rfl (t_Grid_ok 14 (by decide)) rfl rfl (Nat.le_of_ble_eq_true rfl) d_Grid_polygon_19 (fun H locs hP hD hS => ?_)
    have hP : va_P D classes [(grw, .inl (cJ, 64, .inr (.inl rw))), (hg0, .inr (0, [.ref grw, .int (iI sx), .int (iI tx), .int (iI wd), .int (iI sy), .int (iI ty), .int (iI hi), .long wr, .int (iI fr), .ref gxs, .ref gys, .int (iI nc), .int (iI ogx), .int (iI ogy), .long (lI (trn xs ys nc))])), (gxs, .inl (cJ, 4, .inr (.inl (zL xs)))), (gys, .inl (cJ, 4, .inr (.inl (zL ys))))] H := hP
    have hD : va_D A [(grw, .inl (cJ, 64, .inr (.inl rw))), (hg0, .inr (0, [.ref grw, .int (iI sx), .int (iI tx), .int (iI wd), .int (iI sy), .int (iI ty), .int (iI hi), .long wr, .int (iI fr), .ref gxs, .ref gys, .int (iI nc), .int (iI ogx), .int (iI ogy), .long (lI (trn xs ys nc))])), (gxs, .inl (cJ, 4, .inr (.inl (zL xs)))), (gys, .inl (cJ, 4, .inr (.inl (zL ys))))] := hD
    exact jn_22   _ _ _ (hP.sub [1, 0, 2, 3] rfl) (hD.sub [1, 0, 2, 3] (by decide) rfl) hS (lv_sub hl [1, 0] rfl)
  · -- F
    refine lv_ldc2 hx hb hown (ht _ k_k_Grid_79) d_Grid_polygon_12 ?_
    refine sr_eqL (z := (-1)) (by decide) ?_
    refine lv_goto (tgt := 19) hx hb d_Grid_polygon_15 (by decide) ?_
    refine sr_eqL (z := trn xs ys nc) (congrArg lI (by unfold trn; split <;> omega)) ?_
    refine va_put (ty := .long) hx hb ht i_Grid t_Grid t_Grid_ok n_Grid hown hK hP hD hS 1 rfl rfl 14 (by decide) (ht _ k_f_Grid_81) (fun _ h9 => h9) rfl (t_Grid_ok 14 (by decide)) rfl rfl (Nat.le_of_ble_eq_true rfl) d_Grid_polygon_19 (fun H locs hP hD hS => ?_)
    have hP : va_P D classes [(grw, .inl (cJ, 64, .inr (.inl rw))), (hg0, .inr (0, [.ref grw, .int (iI sx), .int (iI tx), .int (iI wd), .int (iI sy), .int (iI ty), .int (iI hi), .long wr, .int (iI fr), .ref gxs, .ref gys, .int (iI nc), .int (iI ogx), .int (iI ogy), .long (lI (trn xs ys nc))])), (gxs, .inl (cJ, 4, .inr (.inl (zL xs)))), (gys, .inl (cJ, 4, .inr (.inl (zL ys))))] H := hP
    have hD : va_D A [(grw, .inl (cJ, 64, .inr (.inl rw))), (hg0, .inr (0, [.ref grw, .int (iI sx), .int (iI tx), .int (iI wd), .int (iI sy), .int (iI ty), .int (iI hi), .long wr, .int (iI fr), .ref gxs, .ref gys, .int (iI nc), .int (iI ogx), .int (iI ogy), .long (lI (trn xs ys nc))])), (gxs, .inl (cJ, 4, .inr (.inl (zL xs)))), (gys, .inl (cJ, 4, .inr (.inl (zL ys))))] := hD
    exact jn_22   _ _ _ (hP.sub [1, 0, 2, 3] rfl) (hD.sub [1, 0, 2, 3] (by decide) rfl) hS (lv_sub hl [1, 0] rfl)

set_option maxHeartbeats 4000000 in
set_option maxRecDepth 100000 in
theorem c_Grid_disc (l : Launch) (D : va_G) (cI cJ cZ : ClassId) (sz : Nat) (hg0 : Nat) (grw : Nat) (sx : Int) (tx : Int) (wd : Int) (sy : Int) (ty : Int) (hi : Int) (wr : Int64) (fr : Int) (gxs : Nat) (gys : Nat) (nc : Int) (ogx : Int) (ogy : Int) (tu : Int) (rw : Nat → Int64) (x : Int) (y : Int) (rd : Int) (hgx : grP sx tx wd) (hgy : grP sy ty hi) (hwr : wrP wr wd) (hx1 : -300000 ≤ x ∧ x ≤ 300000) (hy1 : -300000 ≤ y ∧ y ≤ 300000) (hrd : 0 ≤ rd ∧ rd ≤ 32768) : Met l y_Grid_disc (.code y_Grid_disc b_Grid_disc 6 none :: allw) ({ frames := 2, cells := 0, slots := 0, locals := 60 } : Room) (va_Pc [.ref hg0, .int (iI x), .int (iI y), .int (iI rd)] (sr_U D classes [(cI, .int), (cJ, .long), (cZ, .boolean)] nestw [(hg0, .inr (0, [.ref grw, .int (iI sx), .int (iI tx), .int (iI wd), .int (iI sy), .int (iI ty), .int (iI hi), .long wr, .int (iI fr), .ref gxs, .ref gys, .int (iI nc), .int (iI ogx), .int (iI ogy), .long (lI tu)])), (grw, .inl (cJ, 64, .inr (.inl rw)))] sz)) (va_Qv (fun (g : (Nat → Int64)) => rwI g rw hi wd (fun _ => True) (fun k i => (sx + k * tx - x) * (sx + k * tx - x) + (sy + i * ty - y) * (sy + i * ty - y) ≤ rd * rd)) (sr_B D classes (va_A [(hg0, .inr (0, [.ref grw, .int (iI sx), .int (iI tx), .int (iI wd), .int (iI sy), .int (iI ty), .int (iI hi), .long wr, .int (iI fr), .ref gxs, .ref gys, .int (iI nc), .int (iI ogx), .int (iI ogy), .long (lI tu)])), (grw, .inl (cJ, 64, .inr (.inl rw)))] sz) (fun (g : (Nat → Int64)) => [(hg0, .inr (0, [.ref grw, .int (iI sx), .int (iI tx), .int (iI wd), .int (iI sy), .int (iI ty), .int (iI hi), .long wr, .int (iI fr), .ref gxs, .ref gys, .int (iI nc), .int (iI ogx), .int (iI ogy), .long (lI tu)])), (grw, .inl (cJ, 64, .inr (.inl g)))])) (va_A [(hg0, .inr (0, [.ref grw, .int (iI sx), .int (iI tx), .int (iI wd), .int (iI sy), .int (iI ty), .int (iI hi), .long wr, .int (iI fr), .ref gxs, .ref gys, .int (iI nc), .int (iI ogx), .int (iI ogy), .long (lI tu)])), (grw, .inl (cJ, 64, .inr (.inl rw)))] sz)) 0 0 (va_A [(hg0, .inr (0, [.ref grw, .int (iI sx), .int (iI tx), .int (iI wd), .int (iI sy), .int (iI ty), .int (iI hi), .long wr, .int (iI fr), .ref gxs, .ref gys, .int (iI nc), .int (iI ogx), .int (iI ogy), .long (lI tu)])), (grw, .inl (cJ, 64, .inr (.inl rw)))] sz) := by
  refine sr_enter (Qf := fun A => va_Qv (fun (g : (Nat → Int64)) => rwI g rw hi wd (fun _ => True) (fun k i => (sx + k * tx - x) * (sx + k * tx - x) + (sy + i * ty - y) * (sy + i * ty - y) ≤ rd * rd)) (sr_B D classes A (fun (g : (Nat → Int64)) => [(hg0, .inr (0, [.ref grw, .int (iI sx), .int (iI tx), .int (iI wd), .int (iI sy), .int (iI ty), .int (iI hi), .long wr, .int (iI fr), .ref gxs, .ref gys, .int (iI nc), .int (iI ogx), .int (iI ogy), .long (lI tu)])), (grw, .inl (cJ, 64, .inr (.inl g)))])) A) (by decide +kernel) rfl (Nat.le_of_ble_eq_true rfl) ?_
  intro p e s m below meth c A ls hx hb hr hml hown hlocks hin hts hsz hP hK hD hN hA hS hl
  have ht : ∀ w ∈ allw, w.before _ s = true := fun w h => hts w (List.mem_cons_of_mem _ h)
  have hsub : ∀ w ∈ allw, w ∈ _ := fun w h => List.mem_cons_of_mem (Cond.code y_Grid_disc b_Grid_disc 6 none) h
  have hl : lv_has ls 6 [(0, .ref hg0), (1, .int (iI x)), (2, .int (iI y)), (3, .int (iI rd))] := hl
  have hP : va_P D classes [(hg0, .inr (0, [.ref grw, .int (iI sx), .int (iI tx), .int (iI wd), .int (iI sy), .int (iI ty), .int (iI hi), .long wr, .int (iI fr), .ref gxs, .ref gys, .int (iI nc), .int (iI ogx), .int (iI ogy), .long (lI tu)])), (grw, .inl (cJ, 64, .inr (.inl rw)))] s.heap := hP
  have hgx2 := hgx
  unfold grP at hgx2
  have hgy2 := hgy
  unfold grP at hgy2
  refine lv_aload_n hx hb d_Grid_disc_0 rfl (lv_at hl 0 rfl) ?_
  refine lv_iload_n hx hb d_Grid_disc_1 rfl (lv_at hl 1 rfl) ?_
  refine sr_i2l hx hb d_Grid_disc_2 (by unfold bI; omega) ?_
  refine lv_iload_n hx hb d_Grid_disc_3 rfl (lv_at hl 3 rfl) ?_
  refine sr_i2l hx hb d_Grid_disc_4 (by unfold bI; omega) ?_
  refine sr_lsub hx hb d_Grid_disc_5 ?_
  refine lv_iload_n hx hb d_Grid_disc_6 rfl (lv_at hl 1 rfl) ?_
  refine sr_i2l hx hb d_Grid_disc_7 (by unfold bI; omega) ?_
  refine lv_iload_n hx hb d_Grid_disc_8 rfl (lv_at hl 3 rfl) ?_
  refine sr_i2l hx hb d_Grid_disc_9 (by unfold bI; omega) ?_
  refine sr_ladd hx hb d_Grid_disc_10 ?_
  refine lv_iload_n hx hb d_Grid_disc_11 rfl (lv_at hl 2 rfl) ?_
  refine sr_i2l hx hb d_Grid_disc_12 (by unfold bI; omega) ?_
  refine lv_iload_n hx hb d_Grid_disc_13 rfl (lv_at hl 3 rfl) ?_
  refine sr_i2l hx hb d_Grid_disc_14 (by unfold bI; omega) ?_
  refine sr_lsub hx hb d_Grid_disc_15 ?_
  refine lv_iload_n hx hb d_Grid_disc_16 rfl (lv_at hl 2 rfl) ?_
  refine sr_i2l hx hb d_Grid_disc_17 (by unfold bI; omega) ?_
  refine lv_iload_n hx hb d_Grid_disc_18 rfl (lv_at hl 3 rfl) ?_
  refine sr_i2l hx hb d_Grid_disc_19 (by unfold bI; omega) ?_
  refine sr_ladd hx hb d_Grid_disc_20 ?_
  refine sr_cV_i (wr := [(grw, .inl (cJ, 64, .inr (.inl rw)))]) (As := [.long (lI (x - rd)), .long (lI (x + rd)), .long (lI (y - rd)), .long (lI (y + rd))]) (rest := []) (b := hg0) (q0 := 0) hx hb hml hown hts (c_Grid_meets l D cI cJ cZ _ hg0 grw sx tx wd sy ty hi wr fr gxs gys nc ogx ogy tu (x - rd) (x + rd) (y - rd) (y + rd) (hgx) (hgy) (by unfold bL; omega) (by unfold bL; omega) (by unfold bL; omega) (by unfold bL; omega)) (sr_cwV hsub hts k_cd_Grid_meets k_in_Grid k_m_Grid_109 k_im_Grid_meets k_se_Grid_meets g_Grid_meets ⟨Nat.le_of_ble_eq_true rfl, Nat.le_of_ble_eq_true rfl⟩) hns_ok hK hN hP hD hS hA [0] [1] rfl (by decide) rfl (by decide) (by decide) rfl rfl rfl hl.1 rfl (Nat.le_of_ble_eq_true rfl) d_Grid_disc_21 ⟨Nat.le_of_ble_eq_true rfl, Nat.le_of_ble_eq_true rfl⟩ (fun r_21 u H locs hw_21 hP hD hS => ?_)
  have hP : va_P D classes [(grw, .inl (cJ, 64, .inr (.inl rw))), (hg0, .inr (0, [.ref grw, .int (iI sx), .int (iI tx), .int (iI wd), .int (iI sy), .int (iI ty), .int (iI hi), .long wr, .int (iI fr), .ref gxs, .ref gys, .int (iI nc), .int (iI ogx), .int (iI ogy), .long (lI tu)]))] H := hP
  have hD : va_D A [(grw, .inl (cJ, 64, .inr (.inl rw))), (hg0, .inr (0, [.ref grw, .int (iI sx), .int (iI tx), .int (iI wd), .int (iI sy), .int (iI ty), .int (iI hi), .long wr, .int (iI fr), .ref gxs, .ref gys, .int (iI nc), .int (iI ogx), .int (iI ogy), .long (lI tu)]))] := hD
  try dsimp only at hw_21
  obtain ⟨z_21, rfl, hw_21⟩ := hw_21
  refine sr_if_ne (tgt := 28) hx hb d_Grid_disc_24 (by decide) (sr_bB hw_21) (fun c_24 => ?_) (fun c_24 => ?_)
  · -- T
    have c_24 := sr_bt hw_21 c_24
    refine lv_aload_n hx hb d_Grid_disc_28 rfl (lv_at hl 0 rfl) ?_
    refine lv_iload_n hx hb d_Grid_disc_29 rfl (lv_at hl 2 rfl) ?_
    refine sr_i2l hx hb d_Grid_disc_30 (by unfold bI; omega) ?_
    refine lv_iload_n hx hb d_Grid_disc_31 rfl (lv_at hl 3 rfl) ?_
    refine sr_i2l hx hb d_Grid_disc_32 (by unfold bI; omega) ?_
    refine sr_ladd hx hb d_Grid_disc_33 ?_
    refine sr_cV_i (wr := [(grw, .inl (cJ, 64, .inr (.inl rw)))]) (As := [.long (lI (y + rd))]) (rest := []) (b := hg0) (q0 := 1) hx hb hml hown hts (c_Grid_lastRow l D cI cJ cZ _ hg0 grw sx tx wd sy ty hi wr fr gxs gys nc ogx ogy tu (y + rd) (hgy) (by omega)) (sr_cwV hsub hts k_cd_Grid_lastRow k_in_Grid k_m_Grid_95 k_im_Grid_lastRow k_se_Grid_lastRow g_Grid_lastRow ⟨Nat.le_of_ble_eq_true rfl, Nat.le_of_ble_eq_true rfl⟩) hns_ok hK hN hP hD hS hA [1] [0] rfl (by decide) rfl (by decide) (by decide) rfl rfl rfl hl.1 rfl (Nat.le_of_ble_eq_true rfl) d_Grid_disc_34 ⟨Nat.le_of_ble_eq_true rfl, Nat.le_of_ble_eq_true rfl⟩ (fun r_34 u H locs hw_34 hP hD hS => ?_)
    have hP : va_P D classes [(grw, .inl (cJ, 64, .inr (.inl rw))), (hg0, .inr (0, [.ref grw, .int (iI sx), .int (iI tx), .int (iI wd), .int (iI sy), .int (iI ty), .int (iI hi), .long wr, .int (iI fr), .ref gxs, .ref gys, .int (iI nc), .int (iI ogx), .int (iI ogy), .long (lI tu)]))] H := hP
    have hD : va_D A [(grw, .inl (cJ, 64, .inr (.inl rw))), (hg0, .inr (0, [.ref grw, .int (iI sx), .int (iI tx), .int (iI wd), .int (iI sy), .int (iI ty), .int (iI hi), .long wr, .int (iI fr), .ref gxs, .ref gys, .int (iI nc), .int (iI ogx), .int (iI ogy), .long (lI tu)]))] := hD
    try dsimp only at hw_34
    subst hw_34
    have hdv1 := div_bd (a := (y + rd) - sy) (b := ty) (M := 2000000) (by omega) (by omega) (by omega) (by omega)
    refine sr_topI (fun la e_la => ?_)
    refine lv_istore (lv' := [(4, .int (iI la)), (0, .ref hg0), (1, .int (iI x)), (2, .int (iI y)), (3, .int (iI rd))]) hx hb d_Grid_disc_37 hl (by decide) rfl (fun ls hl => ?_)
    refine lv_aload_n hx hb d_Grid_disc_39 rfl (lv_at hl 1 rfl) ?_
    refine lv_iload_n hx hb d_Grid_disc_40 rfl (lv_at hl 3 rfl) ?_
    refine sr_i2l hx hb d_Grid_disc_41 (by unfold bI; omega) ?_
    refine lv_iload_n hx hb d_Grid_disc_42 rfl (lv_at hl 4 rfl) ?_
    refine sr_i2l hx hb d_Grid_disc_43 (by unfold bI; omega) ?_
    refine sr_lsub hx hb d_Grid_disc_44 ?_
    refine sr_cV_i (wr := [(grw, .inl (cJ, 64, .inr (.inl rw)))]) (As := [.long (lI (y - rd))]) (rest := []) (b := hg0) (q0 := 1) hx hb hml hown hts (c_Grid_firstRow l D cI cJ cZ _ hg0 grw sx tx wd sy ty hi wr fr gxs gys nc ogx ogy tu (y - rd) (hgy) (by omega)) (sr_cwV hsub hts k_cd_Grid_firstRow k_in_Grid k_m_Grid_88 k_im_Grid_firstRow k_se_Grid_firstRow g_Grid_firstRow ⟨Nat.le_of_ble_eq_true rfl, Nat.le_of_ble_eq_true rfl⟩) hns_ok hK hN hP hD hS hA [1] [0] rfl (by decide) rfl (by decide) (by decide) rfl rfl rfl hl.1 rfl (Nat.le_of_ble_eq_true rfl) d_Grid_disc_45 ⟨Nat.le_of_ble_eq_true rfl, Nat.le_of_ble_eq_true rfl⟩ (fun r_45 u H locs hw_45 hP hD hS => ?_)
    have hP : va_P D classes [(grw, .inl (cJ, 64, .inr (.inl rw))), (hg0, .inr (0, [.ref grw, .int (iI sx), .int (iI tx), .int (iI wd), .int (iI sy), .int (iI ty), .int (iI hi), .long wr, .int (iI fr), .ref gxs, .ref gys, .int (iI nc), .int (iI ogx), .int (iI ogy), .long (lI tu)]))] H := hP
    have hD : va_D A [(grw, .inl (cJ, 64, .inr (.inl rw))), (hg0, .inr (0, [.ref grw, .int (iI sx), .int (iI tx), .int (iI wd), .int (iI sy), .int (iI ty), .int (iI hi), .long wr, .int (iI fr), .ref gxs, .ref gys, .int (iI nc), .int (iI ogx), .int (iI ogy), .long (lI tu)]))] := hD
    try dsimp only at hw_45
    subst hw_45
    have hdv2 := div_bd (a := sy - (y - rd)) (b := ty) (M := 2000000) (by omega) (by omega) (by omega) (by omega)
    refine sr_topI (fun fi e_fi => ?_)
    refine lv_istore (lv' := [(5, .int (iI fi)), (4, .int (iI la)), (0, .ref hg0), (1, .int (iI x)), (2, .int (iI y)), (3, .int (iI rd))]) hx hb d_Grid_disc_48 hl (by decide) rfl (fun ls hl => ?_)
    have hout : ∀ j, 0 ≤ j → j < hi → (∃ k, 0 ≤ k ∧ k < wd ∧ (sx + k * tx - x) * (sx + k * tx - x) + (sy + j * ty - y) * (sy + j * ty - y) ≤ rd * rd) → fi ≤ j ∧ j ≤ la := fun j a b ⟨k, k0, k1, k2⟩ => by have h8 := sq_far (d := sy + j * ty - y) (r := rd) (by omega) (by have := sq_nn (sx + k * tx - x); omega); have h7 := row_lo (sy := sy) (v := y - rd) (j := j) (show 0 < ty by omega); have h6 := row_hi (sy := sy) (v := y + rd) (j := j) (show 0 < ty by omega); omega
    have lp_50 : ∀ (n_ : Nat) (j : Int) (g : Nat → Int64), (la - j + 1).toNat < n_ → (fi ≤ j) → (j ≤ 2000000000) → (rwI g rw hi wd (fun i => fi ≤ i ∧ i < j) (fun k i => (sx + k * tx - x) * (sx + k * tx - x) + (sy + i * ty - y) * (sy + i * ty - y) ≤ rd * rd)) → ∀ (H : Heap) (locs : List Loc) (ls : Array Slot), va_P D classes [(hg0, .inr (0, [.ref grw, .int (iI sx), .int (iI tx), .int (iI wd), .int (iI sy), .int (iI ty), .int (iI hi), .long wr, .int (iI fr), .ref gxs, .ref gys, .int (iI nc), .int (iI ogx), .int (iI ogy), .long (lI tu)])), (grw, .inl (cJ, 64, .inr (.inl g)))] H → va_D A [(hg0, .inr (0, [.ref grw, .int (iI sx), .int (iI tx), .int (iI wd), .int (iI sy), .int (iI ty), .int (iI hi), .long wr, .int (iI fr), .ref gxs, .ref gys, .int (iI nc), .int (iI ogx), .int (iI ogy), .long (lI tu)])), (grw, .inl (cJ, 64, .inr (.inl g)))] → va_S A s.heap H locs → lv_has ls 6 [(0, .ref hg0), (1, .int (iI x)), (2, .int (iI y)), (3, .int (iI rd)), (4, .int (iI la)), (5, .int (iI j))] → W p l e ({ frames := 2, cells := 0, slots := 0, locals := 60 } : Room) s m [.ref hg0, .int (iI x), .int (iI y), .int (iI rd)].toArray below meth c H locs 0 0 (MQ below (va_Qv (fun (g : (Nat → Int64)) => rwI g rw hi wd (fun _ => True) (fun k i => (sx + k * tx - x) * (sx + k * tx - x) + (sy + i * ty - y) * (sy + i * ty - y) ≤ rd * rd)) (sr_B D classes A (fun (g : (Nat → Int64)) => [(hg0, .inr (0, [.ref grw, .int (iI sx), .int (iI tx), .int (iI wd), .int (iI sy), .int (iI ty), .int (iI hi), .long wr, .int (iI fr), .ref gxs, .ref gys, .int (iI nc), .int (iI ogx), .int (iI ogy), .long (lI tu)])), (grw, .inl (cJ, 64, .inr (.inl g)))])) A) [.ref hg0, .int (iI x), .int (iI y), .int (iI rd)].toArray s 0 0 A) (F0 m 50 ls []) := by
      intro n_
      induction n_ with
      | zero => intro j g hm_; exact absurd hm_ (Nat.not_lt_zero _)
      | succ n_ ih_50 =>
        intro j g hm_ hj0 hjb hR H locs ls hP hD hS hl
        refine lv_iload hx hb d_Grid_disc_50 (lv_at hl 5 rfl) ?_
        refine lv_iload hx hb d_Grid_disc_52 (lv_at hl 4 rfl) ?_
        refine sr_icmp_gt (tgt := 110) hx hb d_Grid_disc_54 (by decide) (by unfold bI; omega) (by unfold bI; omega) (fun c_54 => ?_) (fun c_54 => ?_)
        · -- T
          exact sr_vret (g) hx hb hr hlocks hP hD hS d_Grid_disc_110 (rwI_Q hR (fun i a b h9 => ⟨fun _ => trivial, fun _ => by have h8 := hout i a b h9; omega⟩))
        · -- F
          have hjm := gr_mul (a := j) (b := ty) (by omega) (by omega) (by omega) (by omega)
          refine lv_aload_n hx hb d_Grid_disc_57 rfl (lv_at hl 0 rfl) ?_
          refine va_get hx hb ht i_Grid hown hK hP 0 rfl rfl 0 (by decide) (ht _ k_f_Grid_9) (fun _ h9 => h9) rfl d_Grid_disc_58 ?_
          refine lv_iload hx hb d_Grid_disc_61 (lv_at hl 5 rfl) ?_
          refine sr_lald hx hb hK hP 1 1 rfl rfl (by omega) (by omega) (by decide) d_Grid_disc_63 ?_
          refine lv_aload_n hx hb d_Grid_disc_64 rfl (lv_at hl 0 rfl) ?_
          refine va_get hx hb ht i_Grid hown hK hP 0 rfl rfl 7 (by decide) (ht _ k_f_Grid_28) (fun _ h9 => h9) rfl d_Grid_disc_65 ?_
          refine sr_lcmpr_eq (tgt := 104) hx hb d_Grid_disc_68 d_Grid_disc_69 (by decide) (fun c_68 => ?_) (fun c_68 => ?_)
          · -- T
            refine lv_iinc (v := iI (j + 1)) (lv' := [(5, .int (iI (j + 1))), (0, .ref hg0), (1, .int (iI x)), (2, .int (iI y)), (3, .int (iI rd)), (4, .int (iI la))]) hx hb d_Grid_disc_104 hl (k := 5) rfl (iI_add _ _) (by decide) rfl (fun ls hl => ?_)
            refine lv_goto (tgt := 50) hx hb d_Grid_disc_107 (by decide) ?_
            exact ih_50 (j + 1) g (by omega) (by omega) (by omega) (by first | exact rwI_Q (rwI_full hR hwr (by omega) c_68) (fun i a b _ => by omega) | exact rwI_Q (rwI_or hR (by omega) hw_99) (fun i a b _ => by omega)) _ _ _ hP hD hS (lv_sub hl [1, 2, 3, 4, 5, 0] rfl)
          · -- F
            refine lv_aload_n hx hb d_Grid_disc_72 rfl (lv_at hl 0 rfl) ?_
            refine va_get hx hb ht i_Grid hown hK hP 0 rfl rfl 0 (by decide) (ht _ k_f_Grid_9) (fun _ h9 => h9) rfl d_Grid_disc_73 ?_
            refine lv_iload hx hb d_Grid_disc_76 (lv_at hl 5 rfl) ?_
            refine lv_dup2_11 hx hb d_Grid_disc_78 rfl rfl ?_
            refine sr_lald hx hb hK hP 1 1 rfl rfl (by omega) (by omega) (by decide) d_Grid_disc_79 ?_
            refine lv_aload_n hx hb d_Grid_disc_80 rfl (lv_at hl 0 rfl) ?_
            refine lv_iload_n hx hb d_Grid_disc_81 rfl (lv_at hl 1 rfl) ?_
            refine lv_aload_n hx hb d_Grid_disc_82 rfl (lv_at hl 0 rfl) ?_
            refine va_get hx hb ht i_Grid hown hK hP 0 rfl rfl 4 (by decide) (ht _ k_f_Grid_54) (fun _ h9 => h9) rfl d_Grid_disc_83 ?_
            refine lv_iload hx hb d_Grid_disc_86 (lv_at hl 5 rfl) ?_
            refine lv_aload_n hx hb d_Grid_disc_88 rfl (lv_at hl 0 rfl) ?_
            refine va_get hx hb ht i_Grid hown hK hP 0 rfl rfl 5 (by decide) (ht _ k_f_Grid_22) (fun _ h9 => h9) rfl d_Grid_disc_89 ?_
            refine sr_imul hx hb d_Grid_disc_92 ?_
            refine sr_iadd hx hb d_Grid_disc_93 ?_
            refine lv_iload_n hx hb d_Grid_disc_94 rfl (lv_at hl 2 rfl) ?_
            refine sr_isub hx hb d_Grid_disc_95 ?_
            refine sr_i2l hx hb d_Grid_disc_96 (by unfold bI; omega) ?_
            refine lv_iload_n hx hb d_Grid_disc_97 rfl (lv_at hl 3 rfl) ?_
            refine sr_i2l hx hb d_Grid_disc_98 (by unfold bI; omega) ?_
            refine sr_cV_l (wr := [(grw, .inl (cJ, 64, .inr (.inl g)))]) (As := [.int (iI x), .long (lI ((sy + (j * ty)) - y)), .long (lI rd)]) (rest := [.long (g j.toNat), .int (iI j), .ref grw]) (b := hg0) (q0 := 0) hx hb hml hown hts (c_Grid_discBits l D cI cJ cZ _ hg0 grw sx tx wd sy ty hi wr fr gxs gys nc ogx ogy tu x ((sy + (j * ty)) - y) rd (hgx) (by omega) (by omega) (by omega)) (sr_cwV hsub hts k_cd_Grid_discBits k_in_Grid k_m_Grid_113 k_im_Grid_discBits k_se_Grid_discBits g_Grid_discBits ⟨Nat.le_of_ble_eq_true rfl, Nat.le_of_ble_eq_true rfl⟩) hns_ok hK hN hP hD hS hA [0] [1] rfl (by decide) rfl (by decide) (by decide) rfl rfl rfl hl.1 rfl (Nat.le_of_ble_eq_true rfl) d_Grid_disc_99 ⟨Nat.le_of_ble_eq_true rfl, Nat.le_of_ble_eq_true rfl⟩ (fun r_99 u H locs hw_99 hP hD hS => ?_)
            have hP : va_P D classes [(grw, .inl (cJ, 64, .inr (.inl g))), (hg0, .inr (0, [.ref grw, .int (iI sx), .int (iI tx), .int (iI wd), .int (iI sy), .int (iI ty), .int (iI hi), .long wr, .int (iI fr), .ref gxs, .ref gys, .int (iI nc), .int (iI ogx), .int (iI ogy), .long (lI tu)]))] H := hP
            have hD : va_D A [(grw, .inl (cJ, 64, .inr (.inl g))), (hg0, .inr (0, [.ref grw, .int (iI sx), .int (iI tx), .int (iI wd), .int (iI sy), .int (iI ty), .int (iI hi), .long wr, .int (iI fr), .ref gxs, .ref gys, .int (iI nc), .int (iI ogx), .int (iI ogy), .long (lI tu)]))] := hD
            try dsimp only at hw_99
            refine lv_lor hx hb d_Grid_disc_102 ?_
            refine sr_last hx hb hK hP hD hS 0 1 rfl rfl (by omega) (by omega) (by decide) d_Grid_disc_103 (fun H locs hP hD hS => ?_)
            have hP : va_P D classes [(grw, .inl (cJ, 64, .inr (.inl (vp_updL g j.toNat ((g j.toNat) ||| r_99))))), (hg0, .inr (0, [.ref grw, .int (iI sx), .int (iI tx), .int (iI wd), .int (iI sy), .int (iI ty), .int (iI hi), .long wr, .int (iI fr), .ref gxs, .ref gys, .int (iI nc), .int (iI ogx), .int (iI ogy), .long (lI tu)]))] H := hP
            have hD : va_D A [(grw, .inl (cJ, 64, .inr (.inl (vp_updL g j.toNat ((g j.toNat) ||| r_99))))), (hg0, .inr (0, [.ref grw, .int (iI sx), .int (iI tx), .int (iI wd), .int (iI sy), .int (iI ty), .int (iI hi), .long wr, .int (iI fr), .ref gxs, .ref gys, .int (iI nc), .int (iI ogx), .int (iI ogy), .long (lI tu)]))] := hD
            refine lv_iinc (v := iI (j + 1)) (lv' := [(5, .int (iI (j + 1))), (0, .ref hg0), (1, .int (iI x)), (2, .int (iI y)), (3, .int (iI rd)), (4, .int (iI la))]) hx hb d_Grid_disc_104 hl (k := 5) rfl (iI_add _ _) (by decide) rfl (fun ls hl => ?_)
            refine lv_goto (tgt := 50) hx hb d_Grid_disc_107 (by decide) ?_
            exact ih_50 (j + 1) (vp_updL g j.toNat ((g j.toNat) ||| r_99)) (by omega) (by omega) (by omega) (by first | exact rwI_Q (rwI_full hR hwr (by omega) c_68) (fun i a b _ => by omega) | exact rwI_Q (rwI_or hR (by omega) hw_99) (fun i a b _ => by omega)) _ _ _ (hP.sub [1, 0] rfl) (hD.sub [1, 0] (by decide) rfl) hS (lv_sub hl [1, 2, 3, 4, 5, 0] rfl)
    exact lp_50 _ fi rw (Nat.lt_succ_self _) (by omega) (by omega) (rwI_0 (fun i _ k _ _ h9 => by omega)) _ _ _ (hP.sub [1, 0] rfl) (hD.sub [1, 0] (by decide) rfl) hS (lv_sub hl [2, 3, 4, 5, 1, 0] rfl)
  · -- F
    have c_24 := sr_bf hw_21 c_24
    exact sr_vret (rw) hx hb hr hlocks (hP.sub [1, 0] rfl) (hD.sub [1, 0] (by decide) rfl) hS d_Grid_disc_27 (rwI_0 (fun i i1 k k0 k1 _ k2 => c_24 (by have h8 := sq_far (d := sy + i * ty - y) (r := rd) (by omega) (by have := sq_nn (sx + k * tx - x); omega); have h7 := sq_far (d := sx + k * tx - x) (r := rd) (by omega) (by have := sq_nn (sy + i * ty - y); omega); have h6 := Int.mul_nonneg k0 (show 0 ≤ tx by omega); have h5 := Int.mul_le_mul_of_nonneg_right (show k ≤ wd - 1 by omega) (show 0 ≤ tx by omega); have h4 := Int.mul_nonneg (show 0 ≤ (i : Int) by omega) (show 0 ≤ ty by omega); have h3 := Int.mul_le_mul_of_nonneg_right (show (i : Int) ≤ hi - 1 by omega) (show 0 ≤ ty by omega); omega)))

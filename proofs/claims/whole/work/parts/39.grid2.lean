set_option maxHeartbeats 4000000 in
set_option maxRecDepth 100000 in
theorem c_Grid_doubledArea (l : Launch) (D : va_G) (cI cJ cZ : ClassId) (sz : Nat) (hg0 : Nat) (grw : Nat) (sx : Int) (tx : Int) (wd : Int) (sy : Int) (ty : Int) (hi : Int) (wr : Int64) (fr : Int) (gxs : Nat) (gys : Nat) (nc : Int) (ogx : Int) (ogy : Int) (tu : Int) (xs : Int → Int) (ys : Int → Int) (h0 : 3 ≤ nc) (h1 : nc ≤ 4) : Met l y_Grid_doubledArea (.code y_Grid_doubledArea b_Grid_doubledArea 5 (some .long) :: allw) ({ frames := 0, cells := 0, slots := 0, locals := 0 } : Room) (va_Pc [.ref hg0] (sr_U D classes [(cI, .int), (cJ, .long), (cZ, .boolean)] nestw [(hg0, .inr (0, [.ref grw, .int (iI sx), .int (iI tx), .int (iI wd), .int (iI sy), .int (iI ty), .int (iI hi), .long wr, .int (iI fr), .ref gxs, .ref gys, .int (iI nc), .int (iI ogx), .int (iI ogy), .long (lI tu)])), (gxs, .inl (cJ, 4, .inr (.inl (zL xs)))), (gys, .inl (cJ, 4, .inr (.inl (zL ys))))] sz)) (va_Ql (fun (r : Int64) => fun (_ : Unit) => r = lI (shoe xs ys nc nc.toNat)) (sr_B D classes (va_A [(hg0, .inr (0, [.ref grw, .int (iI sx), .int (iI tx), .int (iI wd), .int (iI sy), .int (iI ty), .int (iI hi), .long wr, .int (iI fr), .ref gxs, .ref gys, .int (iI nc), .int (iI ogx), .int (iI ogy), .long (lI tu)])), (gxs, .inl (cJ, 4, .inr (.inl (zL xs)))), (gys, .inl (cJ, 4, .inr (.inl (zL ys))))] sz) (fun (_ : Unit) => [(hg0, .inr (0, [.ref grw, .int (iI sx), .int (iI tx), .int (iI wd), .int (iI sy), .int (iI ty), .int (iI hi), .long wr, .int (iI fr), .ref gxs, .ref gys, .int (iI nc), .int (iI ogx), .int (iI ogy), .long (lI tu)])), (gxs, .inl (cJ, 4, .inr (.inl (zL xs)))), (gys, .inl (cJ, 4, .inr (.inl (zL ys))))])) (va_A [(hg0, .inr (0, [.ref grw, .int (iI sx), .int (iI tx), .int (iI wd), .int (iI sy), .int (iI ty), .int (iI hi), .long wr, .int (iI fr), .ref gxs, .ref gys, .int (iI nc), .int (iI ogx), .int (iI ogy), .long (lI tu)])), (gxs, .inl (cJ, 4, .inr (.inl (zL xs)))), (gys, .inl (cJ, 4, .inr (.inl (zL ys))))] sz)) 0 0 (va_A [(hg0, .inr (0, [.ref grw, .int (iI sx), .int (iI tx), .int (iI wd), .int (iI sy), .int (iI ty), .int (iI hi), .long wr, .int (iI fr), .ref gxs, .ref gys, .int (iI nc), .int (iI ogx), .int (iI ogy), .long (lI tu)])), (gxs, .inl (cJ, 4, .inr (.inl (zL xs)))), (gys, .inl (cJ, 4, .inr (.inl (zL ys))))] sz) := by
  refine sr_enter (Qf := fun A => va_Ql (fun (r : Int64) => fun (_ : Unit) => r = lI (shoe xs ys nc nc.toNat)) (sr_B D classes A (fun (_ : Unit) => [(hg0, .inr (0, [.ref grw, .int (iI sx), .int (iI tx), .int (iI wd), .int (iI sy), .int (iI ty), .int (iI hi), .long wr, .int (iI fr), .ref gxs, .ref gys, .int (iI nc), .int (iI ogx), .int (iI ogy), .long (lI tu)])), (gxs, .inl (cJ, 4, .inr (.inl (zL xs)))), (gys, .inl (cJ, 4, .inr (.inl (zL ys))))])) A) (by decide +kernel) rfl (Nat.le_of_ble_eq_true rfl) ?_
  intro p e s m below meth c A ls hx hb hr hml hown hlocks hin hts hsz hP hK hD hN hA hS hl
  have ht : ∀ w ∈ allw, w.before _ s = true := fun w h => hts w (List.mem_cons_of_mem _ h)
  have hsub : ∀ w ∈ allw, w ∈ _ := fun w h => List.mem_cons_of_mem (Cond.code y_Grid_doubledArea b_Grid_doubledArea 5 (some .long)) h
  have hl : lv_has ls 5 [(0, .ref hg0)] := hl
  have hP : va_P D classes [(hg0, .inr (0, [.ref grw, .int (iI sx), .int (iI tx), .int (iI wd), .int (iI sy), .int (iI ty), .int (iI hi), .long wr, .int (iI fr), .ref gxs, .ref gys, .int (iI nc), .int (iI ogx), .int (iI ogy), .long (lI tu)])), (gxs, .inl (cJ, 4, .inr (.inl (zL xs)))), (gys, .inl (cJ, 4, .inr (.inl (zL ys))))] s.heap := hP
  refine sr_lconst0 hx hb d_Grid_doubledArea_0 ?_
  refine lv_lstore_n (lv' := [(1, .long (lI 0)), (0, .ref hg0)]) hx hb d_Grid_doubledArea_1 rfl hl (by decide) rfl (fun ls hl => ?_)
  refine sr_iconst hx hb d_Grid_doubledArea_2 ?_
  refine lv_istore_n (lv' := [(3, .int (iI 0)), (1, .long (lI 0)), (0, .ref hg0)]) hx hb d_Grid_doubledArea_3 rfl hl (by decide) rfl (fun ls hl => ?_)
  have lp_4 : ∀ (n_ : Nat) (i : Int) (acc : Int), (nc - i).toNat < n_ → (0 ≤ i) → (i ≤ nc) → (acc = shoe xs ys nc i.toNat) → ∀ (H : Heap) (locs : List Loc) (ls : Array Slot), va_P D classes [(hg0, .inr (0, [.ref grw, .int (iI sx), .int (iI tx), .int (iI wd), .int (iI sy), .int (iI ty), .int (iI hi), .long wr, .int (iI fr), .ref gxs, .ref gys, .int (iI nc), .int (iI ogx), .int (iI ogy), .long (lI tu)])), (gxs, .inl (cJ, 4, .inr (.inl (zL xs)))), (gys, .inl (cJ, 4, .inr (.inl (zL ys))))] H → va_D A [(hg0, .inr (0, [.ref grw, .int (iI sx), .int (iI tx), .int (iI wd), .int (iI sy), .int (iI ty), .int (iI hi), .long wr, .int (iI fr), .ref gxs, .ref gys, .int (iI nc), .int (iI ogx), .int (iI ogy), .long (lI tu)])), (gxs, .inl (cJ, 4, .inr (.inl (zL xs)))), (gys, .inl (cJ, 4, .inr (.inl (zL ys))))] → va_S A s.heap H locs → lv_has ls 5 [(0, .ref hg0), (1, .long (lI acc)), (3, .int (iI i))] → W p l e ({ frames := 0, cells := 0, slots := 0, locals := 0 } : Room) s m [.ref hg0].toArray below meth c H locs 0 0 (MQ below (va_Ql (fun (r : Int64) => fun (_ : Unit) => r = lI (shoe xs ys nc nc.toNat)) (sr_B D classes A (fun (_ : Unit) => [(hg0, .inr (0, [.ref grw, .int (iI sx), .int (iI tx), .int (iI wd), .int (iI sy), .int (iI ty), .int (iI hi), .long wr, .int (iI fr), .ref gxs, .ref gys, .int (iI nc), .int (iI ogx), .int (iI ogy), .long (lI tu)])), (gxs, .inl (cJ, 4, .inr (.inl (zL xs)))), (gys, .inl (cJ, 4, .inr (.inl (zL ys))))])) A) [.ref hg0].toArray s 0 0 A) (F0 m 4 ls []) := by
    intro n_
    induction n_ with
    | zero => intro i acc hm_; exact absurd hm_ (Nat.not_lt_zero _)
    | succ n_ ih_4 =>
      intro i acc hm_ hi0 hi1 hacc H locs ls hP hD hS hl
      refine lv_iload_n hx hb d_Grid_doubledArea_4 rfl (lv_at hl 2 rfl) ?_
      refine lv_aload_n hx hb d_Grid_doubledArea_5 rfl (lv_at hl 0 rfl) ?_
      refine va_get hx hb ht i_Grid hown hK hP 0 rfl rfl 11 (by decide) (ht _ k_f_Grid_72) (fun _ h9 => h9) rfl d_Grid_doubledArea_6 ?_
      refine sr_icmp_ge (tgt := 69) hx hb d_Grid_doubledArea_9 (by decide) (by unfold bI; omega) (by unfold bI; omega) (fun c_9 => ?_) (fun c_9 => ?_)
      · -- T
        have hin : i = nc := by omega
        subst hin
        refine lv_lload_n hx hb d_Grid_doubledArea_69 rfl (lv_at hl 1 rfl) ?_
        exact sr_lret () hx hb hr hlocks hP hD hS d_Grid_doubledArea_70 (by rw [hacc])
      · -- F
        have hnx := nxt_in (nc := nc) (i := i) hi0 (by omega)
        refine lv_iload_n hx hb d_Grid_doubledArea_12 rfl (lv_at hl 2 rfl) ?_
        refine sr_iconst hx hb d_Grid_doubledArea_13 ?_
        refine sr_iadd hx hb d_Grid_doubledArea_14 ?_
        refine lv_aload_n hx hb d_Grid_doubledArea_15 rfl (lv_at hl 0 rfl) ?_
        refine va_get hx hb ht i_Grid hown hK hP 0 rfl rfl 11 (by decide) (ht _ k_f_Grid_72) (fun _ h9 => h9) rfl d_Grid_doubledArea_16 ?_
        refine sr_icmp_ge (tgt := 28) hx hb d_Grid_doubledArea_19 (by decide) (by unfold bI; omega) (by unfold bI; omega) (fun c_19 => ?_) (fun c_19 => ?_)
        · -- T
          refine sr_iconst hx hb d_Grid_doubledArea_28 ?_
          refine sr_eqI (z := nxt nc i) (congrArg iI (by unfold nxt; split <;> omega)) ?_
          refine lv_istore (lv' := [(4, .int (iI (nxt nc i))), (0, .ref hg0), (1, .long (lI acc)), (3, .int (iI i))]) hx hb d_Grid_doubledArea_29 hl (by decide) rfl (fun ls hl => ?_)
          refine lv_lload_n hx hb d_Grid_doubledArea_31 rfl (lv_at hl 2 rfl) ?_
          refine lv_aload_n hx hb d_Grid_doubledArea_32 rfl (lv_at hl 1 rfl) ?_
          refine va_get hx hb ht i_Grid hown hK hP 0 rfl rfl 9 (by decide) (ht _ k_f_Grid_32) (fun _ h9 => h9) rfl d_Grid_doubledArea_33 ?_
          refine lv_iload_n hx hb d_Grid_doubledArea_36 rfl (lv_at hl 3 rfl) ?_
          refine sr_laldZ hx hb hK hP 1 1 rfl rfl (by omega) (by omega) (by decide) d_Grid_doubledArea_37 ?_
          refine lv_aload_n hx hb d_Grid_doubledArea_38 rfl (lv_at hl 1 rfl) ?_
          refine va_get hx hb ht i_Grid hown hK hP 0 rfl rfl 10 (by decide) (ht _ k_f_Grid_35) (fun _ h9 => h9) rfl d_Grid_doubledArea_39 ?_
          refine lv_iload hx hb d_Grid_doubledArea_42 (lv_at hl 0 rfl) ?_
          refine sr_laldZ hx hb hK hP 2 1 rfl rfl (by omega) (by omega) (by decide) d_Grid_doubledArea_44 ?_
          refine sr_lmul hx hb d_Grid_doubledArea_45 ?_
          refine lv_aload_n hx hb d_Grid_doubledArea_46 rfl (lv_at hl 1 rfl) ?_
          refine va_get hx hb ht i_Grid hown hK hP 0 rfl rfl 10 (by decide) (ht _ k_f_Grid_35) (fun _ h9 => h9) rfl d_Grid_doubledArea_47 ?_
          refine lv_iload_n hx hb d_Grid_doubledArea_50 rfl (lv_at hl 3 rfl) ?_
          refine sr_laldZ hx hb hK hP 2 1 rfl rfl (by omega) (by omega) (by decide) d_Grid_doubledArea_51 ?_
          refine lv_aload_n hx hb d_Grid_doubledArea_52 rfl (lv_at hl 1 rfl) ?_
          refine va_get hx hb ht i_Grid hown hK hP 0 rfl rfl 9 (by decide) (ht _ k_f_Grid_32) (fun _ h9 => h9) rfl d_Grid_doubledArea_53 ?_
          refine lv_iload hx hb d_Grid_doubledArea_56 (lv_at hl 0 rfl) ?_
          refine sr_laldZ hx hb hK hP 1 1 rfl rfl (by omega) (by omega) (by decide) d_Grid_doubledArea_58 ?_
          refine sr_lmul hx hb d_Grid_doubledArea_59 ?_
          refine sr_lsub hx hb d_Grid_doubledArea_60 ?_
          refine sr_ladd hx hb d_Grid_doubledArea_61 ?_
          refine lv_lstore_n (lv' := [(1, .long (lI (acc + (((xs i) * (ys (nxt nc i))) - ((ys i) * (xs (nxt nc i))))))), (4, .int (iI (nxt nc i))), (0, .ref hg0), (3, .int (iI i))]) hx hb d_Grid_doubledArea_62 rfl hl (by decide) rfl (fun ls hl => ?_)
          refine lv_iinc (v := iI (i + 1)) (lv' := [(3, .int (iI (i + 1))), (1, .long (lI (acc + (((xs i) * (ys (nxt nc i))) - ((ys i) * (xs (nxt nc i))))))), (4, .int (iI (nxt nc i))), (0, .ref hg0)]) hx hb d_Grid_doubledArea_63 hl (k := 3) rfl (iI_add _ _) (by decide) rfl (fun ls hl => ?_)
          refine lv_goto (tgt := 4) hx hb d_Grid_doubledArea_66 (by decide) ?_
          exact ih_4 (i + 1) (acc + (((xs i) * (ys (nxt nc i))) - ((ys i) * (xs (nxt nc i))))) (by omega) (by omega) (by omega) (by rw [shoe_s hi0, hacc]) _ _ _ hP hD hS (lv_sub hl [3, 1, 0] rfl)
        · -- F
          refine lv_iload_n hx hb d_Grid_doubledArea_22 rfl (lv_at hl 2 rfl) ?_
          refine sr_iconst hx hb d_Grid_doubledArea_23 ?_
          refine sr_iadd hx hb d_Grid_doubledArea_24 ?_
          refine lv_goto (tgt := 29) hx hb d_Grid_doubledArea_25 (by decide) ?_
          refine sr_eqI (z := nxt nc i) (congrArg iI (by unfold nxt; split <;> omega)) ?_
          refine lv_istore (lv' := [(4, .int (iI (nxt nc i))), (0, .ref hg0), (1, .long (lI acc)), (3, .int (iI i))]) hx hb d_Grid_doubledArea_29 hl (by decide) rfl (fun ls hl => ?_)
          refine lv_lload_n hx hb d_Grid_doubledArea_31 rfl (lv_at hl 2 rfl) ?_
          refine lv_aload_n hx hb d_Grid_doubledArea_32 rfl (lv_at hl 1 rfl) ?_
          refine va_get hx hb ht i_Grid hown hK hP 0 rfl rfl 9 (by decide) (ht _ k_f_Grid_32) (fun _ h9 => h9) rfl d_Grid_doubledArea_33 ?_
          refine lv_iload_n hx hb d_Grid_doubledArea_36 rfl (lv_at hl 3 rfl) ?_
          refine sr_laldZ hx hb hK hP 1 1 rfl rfl (by omega) (by omega) (by decide) d_Grid_doubledArea_37 ?_
          refine lv_aload_n hx hb d_Grid_doubledArea_38 rfl (lv_at hl 1 rfl) ?_
          refine va_get hx hb ht i_Grid hown hK hP 0 rfl rfl 10 (by decide) (ht _ k_f_Grid_35) (fun _ h9 => h9) rfl d_Grid_doubledArea_39 ?_
          refine lv_iload hx hb d_Grid_doubledArea_42 (lv_at hl 0 rfl) ?_
          refine sr_laldZ hx hb hK hP 2 1 rfl rfl (by omega) (by omega) (by decide) d_Grid_doubledArea_44 ?_
          refine sr_lmul hx hb d_Grid_doubledArea_45 ?_
          refine lv_aload_n hx hb d_Grid_doubledArea_46 rfl (lv_at hl 1 rfl) ?_
          refine va_get hx hb ht i_Grid hown hK hP 0 rfl rfl 10 (by decide) (ht _ k_f_Grid_35) (fun _ h9 => h9) rfl d_Grid_doubledArea_47 ?_
          refine lv_iload_n hx hb d_Grid_doubledArea_50 rfl (lv_at hl 3 rfl) ?_
          refine sr_laldZ hx hb hK hP 2 1 rfl rfl (by omega) (by omega) (by decide) d_Grid_doubledArea_51 ?_
          refine lv_aload_n hx hb d_Grid_doubledArea_52 rfl (lv_at hl 1 rfl) ?_
          refine va_get hx hb ht i_Grid hown hK hP 0 rfl rfl 9 (by decide) (ht _ k_f_Grid_32) (fun _ h9 => h9) rfl d_Grid_doubledArea_53 ?_
          refine lv_iload hx hb d_Grid_doubledArea_56 (lv_at hl 0 rfl) ?_
          refine sr_laldZ hx hb hK hP 1 1 rfl rfl (by omega) (by omega) (by decide) d_Grid_doubledArea_58 ?_
          refine sr_lmul hx hb d_Grid_doubledArea_59 ?_
          refine sr_lsub hx hb d_Grid_doubledArea_60 ?_
          refine sr_ladd hx hb d_Grid_doubledArea_61 ?_
          refine lv_lstore_n (lv' := [(1, .long (lI (acc + (((xs i) * (ys (nxt nc i))) - ((ys i) * (xs (nxt nc i))))))), (4, .int (iI (nxt nc i))), (0, .ref hg0), (3, .int (iI i))]) hx hb d_Grid_doubledArea_62 rfl hl (by decide) rfl (fun ls hl => ?_)
          refine lv_iinc (v := iI (i + 1)) (lv' := [(3, .int (iI (i + 1))), (1, .long (lI (acc + (((xs i) * (ys (nxt nc i))) - ((ys i) * (xs (nxt nc i))))))), (4, .int (iI (nxt nc i))), (0, .ref hg0)]) hx hb d_Grid_doubledArea_63 hl (k := 3) rfl (iI_add _ _) (by decide) rfl (fun ls hl => ?_)
          refine lv_goto (tgt := 4) hx hb d_Grid_doubledArea_66 (by decide) ?_
          exact ih_4 (i + 1) (acc + (((xs i) * (ys (nxt nc i))) - ((ys i) * (xs (nxt nc i))))) (by omega) (by omega) (by omega) (by rw [shoe_s hi0, hacc]) _ _ _ hP hD hS (lv_sub hl [3, 1, 0] rfl)
  exact lp_4 _ 0 0 (Nat.lt_succ_self _) (by omega) (by omega) (rfl) _ _ _ hP hD hS (lv_sub hl [2, 1, 0] rfl)

set_option maxHeartbeats 4000000 in
set_option maxRecDepth 100000 in
theorem c_Grid_polygonBits (l : Launch) (D : va_G) (cI cJ cZ : ClassId) (sz : Nat) (hg0 : Nat) (grw : Nat) (sx : Int) (tx : Int) (wd : Int) (sy : Int) (ty : Int) (hi : Int) (wr : Int64) (fr : Int) (gxs : Nat) (gys : Nat) (nc : Int) (ogx : Int) (ogy : Int) (tu : Int) (xs : Int → Int) (ys : Int → Int) (y : Int) (h0 : 3 ≤ nc) (h1 : nc ≤ 4) (hgx : grP sx tx wd) (hBx : coB xs nc) (hBy : coB ys nc) (htu : tu = 1 ∨ tu = -1) (hy : -1000000 ≤ y ∧ y ≤ 1000000) : Met l y_Grid_polygonBits (.code y_Grid_polygonBits b_Grid_polygonBits 17 (some .long) :: allw) ({ frames := 1, cells := 0, slots := 0, locals := 25 } : Room) (va_Pc [.ref hg0, .long (lI y)] (sr_U D classes [(cI, .int), (cJ, .long), (cZ, .boolean)] nestw [(hg0, .inr (0, [.ref grw, .int (iI sx), .int (iI tx), .int (iI wd), .int (iI sy), .int (iI ty), .int (iI hi), .long wr, .int (iI fr), .ref gxs, .ref gys, .int (iI nc), .int (iI ogx), .int (iI ogy), .long (lI tu)])), (gxs, .inl (cJ, 4, .inr (.inl (zL xs)))), (gys, .inl (cJ, 4, .inr (.inl (zL ys))))] sz)) (va_Ql (fun (r : Int64) => fun (_ : Unit) => ∀ k : Int, 0 ≤ k → k < 64 → (btL r k ↔ k < wd ∧ ∀ i, 0 ≤ i → i < nc → 0 ≤ tu * side xs ys nc i (sx + k * tx) y)) (sr_B D classes (va_A [(hg0, .inr (0, [.ref grw, .int (iI sx), .int (iI tx), .int (iI wd), .int (iI sy), .int (iI ty), .int (iI hi), .long wr, .int (iI fr), .ref gxs, .ref gys, .int (iI nc), .int (iI ogx), .int (iI ogy), .long (lI tu)])), (gxs, .inl (cJ, 4, .inr (.inl (zL xs)))), (gys, .inl (cJ, 4, .inr (.inl (zL ys))))] sz) (fun (_ : Unit) => [(hg0, .inr (0, [.ref grw, .int (iI sx), .int (iI tx), .int (iI wd), .int (iI sy), .int (iI ty), .int (iI hi), .long wr, .int (iI fr), .ref gxs, .ref gys, .int (iI nc), .int (iI ogx), .int (iI ogy), .long (lI tu)])), (gxs, .inl (cJ, 4, .inr (.inl (zL xs)))), (gys, .inl (cJ, 4, .inr (.inl (zL ys))))])) (va_A [(hg0, .inr (0, [.ref grw, .int (iI sx), .int (iI tx), .int (iI wd), .int (iI sy), .int (iI ty), .int (iI hi), .long wr, .int (iI fr), .ref gxs, .ref gys, .int (iI nc), .int (iI ogx), .int (iI ogy), .long (lI tu)])), (gxs, .inl (cJ, 4, .inr (.inl (zL xs)))), (gys, .inl (cJ, 4, .inr (.inl (zL ys))))] sz)) 0 0 (va_A [(hg0, .inr (0, [.ref grw, .int (iI sx), .int (iI tx), .int (iI wd), .int (iI sy), .int (iI ty), .int (iI hi), .long wr, .int (iI fr), .ref gxs, .ref gys, .int (iI nc), .int (iI ogx), .int (iI ogy), .long (lI tu)])), (gxs, .inl (cJ, 4, .inr (.inl (zL xs)))), (gys, .inl (cJ, 4, .inr (.inl (zL ys))))] sz) := by
  refine sr_enter (Qf := fun A => va_Ql (fun (r : Int64) => fun (_ : Unit) => ∀ k : Int, 0 ≤ k → k < 64 → (btL r k ↔ k < wd ∧ ∀ i, 0 ≤ i → i < nc → 0 ≤ tu * side xs ys nc i (sx + k * tx) y)) (sr_B D classes A (fun (_ : Unit) => [(hg0, .inr (0, [.ref grw, .int (iI sx), .int (iI tx), .int (iI wd), .int (iI sy), .int (iI ty), .int (iI hi), .long wr, .int (iI fr), .ref gxs, .ref gys, .int (iI nc), .int (iI ogx), .int (iI ogy), .long (lI tu)])), (gxs, .inl (cJ, 4, .inr (.inl (zL xs)))), (gys, .inl (cJ, 4, .inr (.inl (zL ys))))])) A) (by decide +kernel) rfl (Nat.le_of_ble_eq_true rfl) ?_
  intro p e s m below meth c A ls hx hb hr hml hown hlocks hin hts hsz hP hK hD hN hA hS hl
  have ht : ∀ w ∈ allw, w.before _ s = true := fun w h => hts w (List.mem_cons_of_mem _ h)
  have hsub : ∀ w ∈ allw, w ∈ _ := fun w h => List.mem_cons_of_mem (Cond.code y_Grid_polygonBits b_Grid_polygonBits 17 (some .long)) h
  have hl : lv_has ls 17 [(0, .ref hg0), (1, .long (lI y))] := hl
  have hP : va_P D classes [(hg0, .inr (0, [.ref grw, .int (iI sx), .int (iI tx), .int (iI wd), .int (iI sy), .int (iI ty), .int (iI hi), .long wr, .int (iI fr), .ref gxs, .ref gys, .int (iI nc), .int (iI ogx), .int (iI ogy), .long (lI tu)])), (gxs, .inl (cJ, 4, .inr (.inl (zL xs)))), (gys, .inl (cJ, 4, .inr (.inl (zL ys))))] s.heap := hP
  have hgx2 := hgx
  unfold grP at hgx2
  refine sr_lconst0 hx hb d_Grid_polygonBits_0 ?_
  refine lv_lstore_n (lv' := [(3, .long (lI 0)), (0, .ref hg0), (1, .long (lI y))]) hx hb d_Grid_polygonBits_1 rfl hl (by decide) rfl (fun ls hl => ?_)
  refine lv_aload_n hx hb d_Grid_polygonBits_2 rfl (lv_at hl 1 rfl) ?_
  refine va_get hx hb ht i_Grid hown hK hP 0 rfl rfl 3 (by decide) (ht _ k_f_Grid_19) (fun _ h9 => h9) rfl d_Grid_polygonBits_3 ?_
  refine sr_iconst hx hb d_Grid_polygonBits_6 ?_
  refine sr_isub hx hb d_Grid_polygonBits_7 ?_
  refine sr_i2l hx hb d_Grid_polygonBits_8 (by unfold bI; omega) ?_
  refine lv_lstore (lv' := [(5, .long (lI (wd - 1))), (3, .long (lI 0)), (0, .ref hg0), (1, .long (lI y))]) hx hb d_Grid_polygonBits_9 hl (by decide) rfl (fun ls hl => ?_)
  refine sr_iconst hx hb d_Grid_polygonBits_11 ?_
  refine lv_istore (lv' := [(7, .int (iI 0)), (5, .long (lI (wd - 1))), (3, .long (lI 0)), (0, .ref hg0), (1, .long (lI y))]) hx hb d_Grid_polygonBits_12 hl (by decide) rfl (fun ls hl => ?_)
  have lp_14 : ∀ (n_ : Nat) (i : Int) (fi : Int) (la : Int), (nc - i).toNat < n_ → (0 ≤ i) → (i ≤ nc) → (0 ≤ fi) → (bL fi) → (la ≤ wd - 1) → (bL la) → (clI xs ys nc tu sx tx y wd i fi la) → ∀ (H : Heap) (locs : List Loc) (ls : Array Slot), va_P D classes [(hg0, .inr (0, [.ref grw, .int (iI sx), .int (iI tx), .int (iI wd), .int (iI sy), .int (iI ty), .int (iI hi), .long wr, .int (iI fr), .ref gxs, .ref gys, .int (iI nc), .int (iI ogx), .int (iI ogy), .long (lI tu)])), (gxs, .inl (cJ, 4, .inr (.inl (zL xs)))), (gys, .inl (cJ, 4, .inr (.inl (zL ys))))] H → va_D A [(hg0, .inr (0, [.ref grw, .int (iI sx), .int (iI tx), .int (iI wd), .int (iI sy), .int (iI ty), .int (iI hi), .long wr, .int (iI fr), .ref gxs, .ref gys, .int (iI nc), .int (iI ogx), .int (iI ogy), .long (lI tu)])), (gxs, .inl (cJ, 4, .inr (.inl (zL xs)))), (gys, .inl (cJ, 4, .inr (.inl (zL ys))))] → va_S A s.heap H locs → lv_has ls 17 [(0, .ref hg0), (1, .long (lI y)), (3, .long (lI fi)), (5, .long (lI la)), (7, .int (iI i))] → W p l e ({ frames := 1, cells := 0, slots := 0, locals := 25 } : Room) s m [.ref hg0, .long (lI y)].toArray below meth c H locs 0 0 (MQ below (va_Ql (fun (r : Int64) => fun (_ : Unit) => ∀ k : Int, 0 ≤ k → k < 64 → (btL r k ↔ k < wd ∧ ∀ i, 0 ≤ i → i < nc → 0 ≤ tu * side xs ys nc i (sx + k * tx) y)) (sr_B D classes A (fun (_ : Unit) => [(hg0, .inr (0, [.ref grw, .int (iI sx), .int (iI tx), .int (iI wd), .int (iI sy), .int (iI ty), .int (iI hi), .long wr, .int (iI fr), .ref gxs, .ref gys, .int (iI nc), .int (iI ogx), .int (iI ogy), .long (lI tu)])), (gxs, .inl (cJ, 4, .inr (.inl (zL xs)))), (gys, .inl (cJ, 4, .inr (.inl (zL ys))))])) A) [.ref hg0, .long (lI y)].toArray s 0 0 A) (F0 m 14 ls []) := by
    intro n_
    induction n_ with
    | zero => intro i fi la hm_; exact absurd hm_ (Nat.not_lt_zero _)
    | succ n_ ih_14 =>
      intro i fi la hm_ hi0 hi1 hfi hfb hla hlb hI H locs ls hP hD hS hl
      refine lv_iload hx hb d_Grid_polygonBits_14 (lv_at hl 4 rfl) ?_
      refine lv_aload_n hx hb d_Grid_polygonBits_16 rfl (lv_at hl 0 rfl) ?_
      refine va_get hx hb ht i_Grid hown hK hP 0 rfl rfl 11 (by decide) (ht _ k_f_Grid_72) (fun _ h9 => h9) rfl d_Grid_polygonBits_17 ?_
      refine sr_icmp_ge (tgt := 200) hx hb d_Grid_polygonBits_20 (by decide) (by unfold bI; omega) (by unfold bI; omega) (fun c_20 => ?_) (fun c_20 => ?_)
      · -- T
        refine lv_lload_n hx hb d_Grid_polygonBits_200 rfl (lv_at hl 2 rfl) ?_
        refine lv_lload hx hb d_Grid_polygonBits_201 (lv_at hl 3 rfl) ?_
        refine sr_cS_l (wr := [(hg0, .inr (0, [.ref grw, .int (iI sx), .int (iI tx), .int (iI wd), .int (iI sy), .int (iI ty), .int (iI hi), .long wr, .int (iI fr), .ref gxs, .ref gys, .int (iI nc), .int (iI ogx), .int (iI ogy), .long (lI tu)])), (gxs, .inl (cJ, 4, .inr (.inl (zL xs)))), (gys, .inl (cJ, 4, .inr (.inl (zL ys))))]) (As := [.long (lI fi), .long (lI la)]) (rest := []) hx hb hml hown hts (c_Grid_bitsFromTo l D cI cJ cZ _ fi la (by omega) (by omega) (hfb) (hlb)) (sr_cwS hsub hts k_cd_Grid_bitsFromTo k_in_Grid k_m_Grid_50 k_st_Grid_bitsFromTo g_Grid_bitsFromTo ⟨Nat.le_of_ble_eq_true rfl, Nat.le_of_ble_eq_true rfl⟩) hns_ok hK hN hP hD hS hA [] [0, 1, 2] rfl (by decide) rfl (by decide) (by decide) rfl hl.1 rfl (Nat.le_of_ble_eq_true rfl) d_Grid_polygonBits_203 ⟨Nat.le_of_ble_eq_true rfl, Nat.le_of_ble_eq_true rfl⟩ (fun r_203 u H locs hw_203 hP hD hS => ?_)
        have hP : va_P D classes [(hg0, .inr (0, [.ref grw, .int (iI sx), .int (iI tx), .int (iI wd), .int (iI sy), .int (iI ty), .int (iI hi), .long wr, .int (iI fr), .ref gxs, .ref gys, .int (iI nc), .int (iI ogx), .int (iI ogy), .long (lI tu)])), (gxs, .inl (cJ, 4, .inr (.inl (zL xs)))), (gys, .inl (cJ, 4, .inr (.inl (zL ys))))] H := hP
        have hD : va_D A [(hg0, .inr (0, [.ref grw, .int (iI sx), .int (iI tx), .int (iI wd), .int (iI sy), .int (iI ty), .int (iI hi), .long wr, .int (iI fr), .ref gxs, .ref gys, .int (iI nc), .int (iI ogx), .int (iI ogy), .long (lI tu)])), (gxs, .inl (cJ, 4, .inr (.inl (zL xs)))), (gys, .inl (cJ, 4, .inr (.inl (zL ys))))] := hD
        try dsimp only at hw_203
        exact sr_lret () hx hb hr hlocks hP hD hS d_Grid_polygonBits_206 (fun k k0 k1 => (hw_203 k k0 k1).trans ⟨fun h9 => ⟨by omega, fun j j0 j1 => (hI k k0 (by omega)).mp h9 j j0 (by omega)⟩, fun h9 => (hI k k0 h9.1).mpr (fun j j0 j1 => h9.2 j j0 (by omega))⟩)
      · -- F
        have hnx := nxt_in (nc := nc) (i := i) hi0 (by omega)
        have b1 := hBx i hi0 (by omega)
        have b2 := hBy i hi0 (by omega)
        have b3 := hBx _ hnx.1 hnx.2
        have b4 := hBy _ hnx.1 hnx.2
        refine lv_lload_n hx hb d_Grid_polygonBits_23 rfl (lv_at hl 2 rfl) ?_
        refine lv_lload hx hb d_Grid_polygonBits_24 (lv_at hl 3 rfl) ?_
        refine sr_lcmp_gt (tgt := 200) hx hb d_Grid_polygonBits_26 d_Grid_polygonBits_27 (by decide) hfb hlb (fun c_26 => ?_) (fun c_26 => ?_)
        · -- T
          refine lv_lload_n hx hb d_Grid_polygonBits_200 rfl (lv_at hl 2 rfl) ?_
          refine lv_lload hx hb d_Grid_polygonBits_201 (lv_at hl 3 rfl) ?_
          refine sr_cS_l (wr := [(hg0, .inr (0, [.ref grw, .int (iI sx), .int (iI tx), .int (iI wd), .int (iI sy), .int (iI ty), .int (iI hi), .long wr, .int (iI fr), .ref gxs, .ref gys, .int (iI nc), .int (iI ogx), .int (iI ogy), .long (lI tu)])), (gxs, .inl (cJ, 4, .inr (.inl (zL xs)))), (gys, .inl (cJ, 4, .inr (.inl (zL ys))))]) (As := [.long (lI fi), .long (lI la)]) (rest := []) hx hb hml hown hts (c_Grid_bitsFromTo l D cI cJ cZ _ fi la (by omega) (by omega) (hfb) (hlb)) (sr_cwS hsub hts k_cd_Grid_bitsFromTo k_in_Grid k_m_Grid_50 k_st_Grid_bitsFromTo g_Grid_bitsFromTo ⟨Nat.le_of_ble_eq_true rfl, Nat.le_of_ble_eq_true rfl⟩) hns_ok hK hN hP hD hS hA [] [0, 1, 2] rfl (by decide) rfl (by decide) (by decide) rfl hl.1 rfl (Nat.le_of_ble_eq_true rfl) d_Grid_polygonBits_203 ⟨Nat.le_of_ble_eq_true rfl, Nat.le_of_ble_eq_true rfl⟩ (fun r_203 u H locs hw_203 hP hD hS => ?_)
          have hP : va_P D classes [(hg0, .inr (0, [.ref grw, .int (iI sx), .int (iI tx), .int (iI wd), .int (iI sy), .int (iI ty), .int (iI hi), .long wr, .int (iI fr), .ref gxs, .ref gys, .int (iI nc), .int (iI ogx), .int (iI ogy), .long (lI tu)])), (gxs, .inl (cJ, 4, .inr (.inl (zL xs)))), (gys, .inl (cJ, 4, .inr (.inl (zL ys))))] H := hP
          have hD : va_D A [(hg0, .inr (0, [.ref grw, .int (iI sx), .int (iI tx), .int (iI wd), .int (iI sy), .int (iI ty), .int (iI hi), .long wr, .int (iI fr), .ref gxs, .ref gys, .int (iI nc), .int (iI ogx), .int (iI ogy), .long (lI tu)])), (gxs, .inl (cJ, 4, .inr (.inl (zL xs)))), (gys, .inl (cJ, 4, .inr (.inl (zL ys))))] := hD
          try dsimp only at hw_203
          exact sr_lret () hx hb hr hlocks hP hD hS d_Grid_polygonBits_206 (fun k k0 k1 => (hw_203 k k0 k1).trans ⟨fun h9 => by omega, fun h9 => (hI k k0 h9.1).mpr (fun j j0 j1 => h9.2 j j0 (by omega))⟩)
        · -- F
          refine lv_iload hx hb d_Grid_polygonBits_30 (lv_at hl 4 rfl) ?_
          refine sr_iconst hx hb d_Grid_polygonBits_32 ?_
          refine sr_iadd hx hb d_Grid_polygonBits_33 ?_
          refine lv_aload_n hx hb d_Grid_polygonBits_34 rfl (lv_at hl 0 rfl) ?_
          refine va_get hx hb ht i_Grid hown hK hP 0 rfl rfl 11 (by decide) (ht _ k_f_Grid_72) (fun _ h9 => h9) rfl d_Grid_polygonBits_35 ?_
          refine sr_icmp_ge (tgt := 48) hx hb d_Grid_polygonBits_38 (by decide) (by unfold bI; omega) (by unfold bI; omega) (fun c_38 => ?_) (fun c_38 => ?_)
          · -- T
            refine sr_iconst hx hb d_Grid_polygonBits_48 ?_
            refine sr_eqI (z := nxt nc i) (congrArg iI (by unfold nxt; split <;> omega)) ?_
            refine lv_istore (lv' := [(8, .int (iI (nxt nc i))), (0, .ref hg0), (1, .long (lI y)), (3, .long (lI fi)), (5, .long (lI la)), (7, .int (iI i))]) hx hb d_Grid_polygonBits_49 hl (by decide) rfl (fun ls hl => ?_)
            refine lv_aload_n hx hb d_Grid_polygonBits_51 rfl (lv_at hl 1 rfl) ?_
            refine va_get hx hb ht i_Grid hown hK hP 0 rfl rfl 9 (by decide) (ht _ k_f_Grid_32) (fun _ h9 => h9) rfl d_Grid_polygonBits_52 ?_
            refine lv_iload hx hb d_Grid_polygonBits_55 (lv_at hl 0 rfl) ?_
            refine sr_laldZ hx hb hK hP 1 1 rfl rfl (by omega) (by omega) (by decide) d_Grid_polygonBits_57 ?_
            refine lv_aload_n hx hb d_Grid_polygonBits_58 rfl (lv_at hl 1 rfl) ?_
            refine va_get hx hb ht i_Grid hown hK hP 0 rfl rfl 9 (by decide) (ht _ k_f_Grid_32) (fun _ h9 => h9) rfl d_Grid_polygonBits_59 ?_
            refine lv_iload hx hb d_Grid_polygonBits_62 (lv_at hl 5 rfl) ?_
            refine sr_laldZ hx hb hK hP 1 1 rfl rfl (by omega) (by omega) (by decide) d_Grid_polygonBits_64 ?_
            refine sr_lsub hx hb d_Grid_polygonBits_65 ?_
            refine sr_topL (fun dx e_dx => ?_)
            refine lv_lstore (lv' := [(9, .long (lI dx)), (8, .int (iI (nxt nc i))), (0, .ref hg0), (1, .long (lI y)), (3, .long (lI fi)), (5, .long (lI la)), (7, .int (iI i))]) hx hb d_Grid_polygonBits_66 hl (by decide) rfl (fun ls hl => ?_)
            refine lv_aload_n hx hb d_Grid_polygonBits_68 rfl (lv_at hl 2 rfl) ?_
            refine va_get hx hb ht i_Grid hown hK hP 0 rfl rfl 10 (by decide) (ht _ k_f_Grid_35) (fun _ h9 => h9) rfl d_Grid_polygonBits_69 ?_
            refine lv_iload hx hb d_Grid_polygonBits_72 (lv_at hl 1 rfl) ?_
            refine sr_laldZ hx hb hK hP 2 1 rfl rfl (by omega) (by omega) (by decide) d_Grid_polygonBits_74 ?_
            refine lv_aload_n hx hb d_Grid_polygonBits_75 rfl (lv_at hl 2 rfl) ?_
            refine va_get hx hb ht i_Grid hown hK hP 0 rfl rfl 10 (by decide) (ht _ k_f_Grid_35) (fun _ h9 => h9) rfl d_Grid_polygonBits_76 ?_
            refine lv_iload hx hb d_Grid_polygonBits_79 (lv_at hl 6 rfl) ?_
            refine sr_laldZ hx hb hK hP 2 1 rfl rfl (by omega) (by omega) (by decide) d_Grid_polygonBits_81 ?_
            refine sr_lsub hx hb d_Grid_polygonBits_82 ?_
            refine sr_topL (fun dy e_dy => ?_)
            refine lv_lstore (lv' := [(11, .long (lI dy)), (9, .long (lI dx)), (8, .int (iI (nxt nc i))), (0, .ref hg0), (1, .long (lI y)), (3, .long (lI fi)), (5, .long (lI la)), (7, .int (iI i))]) hx hb d_Grid_polygonBits_83 hl (by decide) rfl (fun ls hl => ?_)
            refine lv_aload_n hx hb d_Grid_polygonBits_85 rfl (lv_at hl 3 rfl) ?_
            refine va_get hx hb ht i_Grid hown hK hP 0 rfl rfl 14 (by decide) (ht _ k_f_Grid_81) (fun _ h9 => h9) rfl d_Grid_polygonBits_86 ?_
            refine lv_lload hx hb d_Grid_polygonBits_89 (lv_at hl 1 rfl) ?_
            refine lv_lload_n hx hb d_Grid_polygonBits_91 rfl (lv_at hl 4 rfl) ?_
            refine lv_aload_n hx hb d_Grid_polygonBits_92 rfl (lv_at hl 3 rfl) ?_
            refine va_get hx hb ht i_Grid hown hK hP 0 rfl rfl 10 (by decide) (ht _ k_f_Grid_35) (fun _ h9 => h9) rfl d_Grid_polygonBits_93 ?_
            refine lv_iload hx hb d_Grid_polygonBits_96 (lv_at hl 7 rfl) ?_
            refine sr_laldZ hx hb hK hP 2 1 rfl rfl (by omega) (by omega) (by decide) d_Grid_polygonBits_98 ?_
            refine sr_lsub hx hb d_Grid_polygonBits_99 ?_
            refine sr_lmul hx hb d_Grid_polygonBits_100 ?_
            refine lv_lload hx hb d_Grid_polygonBits_101 (lv_at hl 0 rfl) ?_
            refine lv_aload_n hx hb d_Grid_polygonBits_103 rfl (lv_at hl 3 rfl) ?_
            refine va_get hx hb ht i_Grid hown hK hP 0 rfl rfl 1 (by decide) (ht _ k_f_Grid_38) (fun _ h9 => h9) rfl d_Grid_polygonBits_104 ?_
            refine sr_i2l hx hb d_Grid_polygonBits_107 (by unfold bI; omega) ?_
            refine lv_aload_n hx hb d_Grid_polygonBits_108 rfl (lv_at hl 3 rfl) ?_
            refine va_get hx hb ht i_Grid hown hK hP 0 rfl rfl 9 (by decide) (ht _ k_f_Grid_32) (fun _ h9 => h9) rfl d_Grid_polygonBits_109 ?_
            refine lv_iload hx hb d_Grid_polygonBits_112 (lv_at hl 7 rfl) ?_
            refine sr_laldZ hx hb hK hP 1 1 rfl rfl (by omega) (by omega) (by decide) d_Grid_polygonBits_114 ?_
            refine sr_lsub hx hb d_Grid_polygonBits_115 ?_
            refine sr_lmul hx hb d_Grid_polygonBits_116 ?_
            refine sr_lsub hx hb d_Grid_polygonBits_117 ?_
            refine sr_lmul hx hb d_Grid_polygonBits_118 ?_
            refine sr_topL (fun at_ e_at_ => ?_)
            refine lv_lstore (lv' := [(13, .long (lI at_)), (11, .long (lI dy)), (9, .long (lI dx)), (8, .int (iI (nxt nc i))), (0, .ref hg0), (1, .long (lI y)), (3, .long (lI fi)), (5, .long (lI la)), (7, .int (iI i))]) hx hb d_Grid_polygonBits_119 hl (by decide) rfl (fun ls hl => ?_)
            have hdxy := mul_bd (a := dx) (b := y - ys i) (A := 1200000000) (B := 700000000) (by omega) (by omega)
            have hdyx := mul_bd (a := dy) (b := sx - xs i) (A := 1200000000) (B := 700000000) (by omega) (by omega)
            have hatc := tu_bd (x := dx * (y - ys i) - dy * (sx - xs i)) (M := 1680000000000000000) htu (by omega)
            rw [← e_at_] at hatc
            have hatb : bL at_ := by unfold bL; omega
            refine lv_aload_n hx hb d_Grid_polygonBits_121 rfl (lv_at hl 4 rfl) ?_
            refine va_get hx hb ht i_Grid hown hK hP 0 rfl rfl 14 (by decide) (ht _ k_f_Grid_81) (fun _ h9 => h9) rfl d_Grid_polygonBits_122 ?_
            refine sr_lneg hx hb d_Grid_polygonBits_125 ?_
            refine lv_lload hx hb d_Grid_polygonBits_126 (lv_at hl 1 rfl) ?_
            refine sr_lmul hx hb d_Grid_polygonBits_128 ?_
            refine lv_aload_n hx hb d_Grid_polygonBits_129 rfl (lv_at hl 4 rfl) ?_
            refine va_get hx hb ht i_Grid hown hK hP 0 rfl rfl 2 (by decide) (ht _ k_f_Grid_15) (fun _ h9 => h9) rfl d_Grid_polygonBits_130 ?_
            refine sr_i2l hx hb d_Grid_polygonBits_133 (by unfold bI; omega) ?_
            refine sr_lmul hx hb d_Grid_polygonBits_134 ?_
            refine sr_topL (fun mo e_mo => ?_)
            refine lv_lstore (lv' := [(15, .long (lI mo)), (13, .long (lI at_)), (11, .long (lI dy)), (9, .long (lI dx)), (8, .int (iI (nxt nc i))), (0, .ref hg0), (1, .long (lI y)), (3, .long (lI fi)), (5, .long (lI la)), (7, .int (iI i))]) hx hb d_Grid_polygonBits_135 hl (by decide) rfl (fun ls hl => ?_)
            have hdt := mul_bd (a := dy) (b := tx) (A := 1200000000) (B := 1024) (by omega) (by omega)
            have hmoc := tu_bd (t := -tu) (x := dy * tx) (M := 1228800000000) (by omega) (by omega)
            rw [← Int.mul_assoc, ← e_mo] at hmoc
            have hmob : bL mo := by unfold bL; omega
            have hsd : ∀ k, tu * side xs ys nc i (sx + k * tx) y = at_ + k * mo := fun k => by rw [e_at_, e_mo, e_dx, e_dy]; exact col_eq tu _ _ _ _ _ _ _ _
            refine lv_lload hx hb d_Grid_polygonBits_137 (lv_at hl 0 rfl) ?_
            refine sr_lconst0 hx hb d_Grid_polygonBits_139 ?_
            refine sr_lcmp_le (tgt := 160) hx hb d_Grid_polygonBits_140 d_Grid_polygonBits_141 (by decide) hmob (by unfold bL; decide) (fun c_140 => ?_) (fun c_140 => ?_)
            · -- T
              refine lv_lload hx hb d_Grid_polygonBits_160 (lv_at hl 0 rfl) ?_
              refine sr_lconst0 hx hb d_Grid_polygonBits_162 ?_
              refine sr_lcmp_ge (tgt := 185) hx hb d_Grid_polygonBits_163 d_Grid_polygonBits_164 (by decide) hmob (by unfold bL; decide) (fun c_163 => ?_) (fun c_163 => ?_)
              · -- T
                refine lv_lload hx hb d_Grid_polygonBits_185 (lv_at hl 1 rfl) ?_
                refine sr_lconst0 hx hb d_Grid_polygonBits_187 ?_
                refine sr_lcmp_ge (tgt := 194) hx hb d_Grid_polygonBits_188 d_Grid_polygonBits_189 (by decide) hatb (by unfold bL; decide) (fun c_188 => ?_) (fun c_188 => ?_)
                · -- T
                  refine lv_iinc (v := iI (i + 1)) (lv' := [(7, .int (iI (i + 1))), (15, .long (lI mo)), (13, .long (lI at_)), (11, .long (lI dy)), (9, .long (lI dx)), (8, .int (iI (nxt nc i))), (0, .ref hg0), (1, .long (lI y)), (3, .long (lI fi)), (5, .long (lI la))]) hx hb d_Grid_polygonBits_194 hl (k := 9) rfl (iI_add _ _) (by decide) rfl (fun ls hl => ?_)
                  refine lv_goto (tgt := 14) hx hb d_Grid_polygonBits_197 (by decide) ?_
                  exact ih_14 (i + 1) fi la (by omega) (by omega) (by omega) (by omega) (by first | exact hfb | (unfold bL at *; omega)) (by omega) (by first | exact hlb | (unfold bL at *; omega)) (clI_s hI hi0 (fun k k0 k1 => by rw [hsd k]; first | (rw [col_pos (show 0 < mo by omega)]; omega) | (rw [col_neg (show mo < 0 by omega)]; omega) | (rw [show mo = 0 by omega, Int.mul_zero]; omega))) _ _ _ hP hD hS (lv_sub hl [6, 7, 8, 9, 0] rfl)
                · -- F
                  refine sr_lconst0 hx hb d_Grid_polygonBits_192 ?_
                  exact sr_lret () hx hb hr hlocks hP hD hS d_Grid_polygonBits_193 (fun k k0 k1 => ⟨fun h9 => absurd h9 (btL_0 k), fun h9 => absurd (h9.2 i hi0 (by omega)) (by rw [hsd k, show mo = 0 by omega, Int.mul_zero]; omega)⟩)
              · -- F
                refine lv_lload hx hb d_Grid_polygonBits_167 (lv_at hl 8 rfl) ?_
                refine lv_lload hx hb d_Grid_polygonBits_169 (lv_at hl 1 rfl) ?_
                refine lv_lload hx hb d_Grid_polygonBits_171 (lv_at hl 0 rfl) ?_
                refine sr_lneg hx hb d_Grid_polygonBits_173 ?_
                refine sr_cS_l (wr := [(hg0, .inr (0, [.ref grw, .int (iI sx), .int (iI tx), .int (iI wd), .int (iI sy), .int (iI ty), .int (iI hi), .long wr, .int (iI fr), .ref gxs, .ref gys, .int (iI nc), .int (iI ogx), .int (iI ogy), .long (lI tu)])), (gxs, .inl (cJ, 4, .inr (.inl (zL xs)))), (gys, .inl (cJ, 4, .inr (.inl (zL ys))))]) (As := [.long (lI at_), .long (lI (-mo))]) (rest := [.long (lI la)]) hx hb hml hown hts (c_Math_floorDiv_JJJ l D cI cJ cZ _ at_ (-mo) (hatb) (by omega) (by unfold bL; omega)) (sr_cwS hsub hts k_cd_Math_floorDiv_JJJ k_in_Math k_m_Grid_106 k_st_Math_floorDiv_JJJ g_Math_floorDiv_JJJ ⟨Nat.le_of_ble_eq_true rfl, Nat.le_of_ble_eq_true rfl⟩) hns_ok hK hN hP hD hS hA [] [0, 1, 2] rfl (by decide) rfl (by decide) (by decide) rfl hl.1 rfl (Nat.le_of_ble_eq_true rfl) d_Grid_polygonBits_174 ⟨Nat.le_of_ble_eq_true rfl, Nat.le_of_ble_eq_true rfl⟩ (fun r_174 u H locs hw_174 hP hD hS => ?_)
                have hP : va_P D classes [(hg0, .inr (0, [.ref grw, .int (iI sx), .int (iI tx), .int (iI wd), .int (iI sy), .int (iI ty), .int (iI hi), .long wr, .int (iI fr), .ref gxs, .ref gys, .int (iI nc), .int (iI ogx), .int (iI ogy), .long (lI tu)])), (gxs, .inl (cJ, 4, .inr (.inl (zL xs)))), (gys, .inl (cJ, 4, .inr (.inl (zL ys))))] H := hP
                have hD : va_D A [(hg0, .inr (0, [.ref grw, .int (iI sx), .int (iI tx), .int (iI wd), .int (iI sy), .int (iI ty), .int (iI hi), .long wr, .int (iI fr), .ref gxs, .ref gys, .int (iI nc), .int (iI ogx), .int (iI ogy), .long (lI tu)])), (gxs, .inl (cJ, 4, .inr (.inl (zL xs)))), (gys, .inl (cJ, 4, .inr (.inl (zL ys))))] := hD
                try dsimp only at hw_174
                subst hw_174
                have hdq := div_bd (a := at_) (b := -mo) (M := 1680000000000000000) (by omega) (by omega) (by omega) (by omega)
                refine sr_mmin_long hx hb (hml.trans hl.1.symm) hown (ht _ k_m_Grid_102) (ht _ k_st_min_long) (ht _ k_in_Math) (ht _ k_cd_min_long) (Nat.le_of_ble_eq_true rfl) (Nat.le_of_ble_eq_true rfl) (Nat.zero_le _) (Nat.zero_le _) hlb (by unfold bL; omega) d_Grid_polygonBits_177 ?_
                refine lv_lstore (lv' := [(5, .long (lI (min la (at_ / (-mo))))), (15, .long (lI mo)), (13, .long (lI at_)), (11, .long (lI dy)), (9, .long (lI dx)), (8, .int (iI (nxt nc i))), (0, .ref hg0), (1, .long (lI y)), (3, .long (lI fi)), (7, .int (iI i))]) hx hb d_Grid_polygonBits_180 hl (by decide) rfl (fun ls hl => ?_)
                refine lv_goto (tgt := 194) hx hb d_Grid_polygonBits_182 (by decide) ?_
                refine lv_iinc (v := iI (i + 1)) (lv' := [(7, .int (iI (i + 1))), (5, .long (lI (min la (at_ / (-mo))))), (15, .long (lI mo)), (13, .long (lI at_)), (11, .long (lI dy)), (9, .long (lI dx)), (8, .int (iI (nxt nc i))), (0, .ref hg0), (1, .long (lI y)), (3, .long (lI fi))]) hx hb d_Grid_polygonBits_194 hl (k := 9) rfl (iI_add _ _) (by decide) rfl (fun ls hl => ?_)
                refine lv_goto (tgt := 14) hx hb d_Grid_polygonBits_197 (by decide) ?_
                exact ih_14 (i + 1) fi (min la (at_ / (-mo))) (by omega) (by omega) (by omega) (by omega) (by first | exact hfb | (unfold bL at *; omega)) (by omega) (by first | exact hlb | (unfold bL at *; omega)) (clI_s hI hi0 (fun k k0 k1 => by rw [hsd k]; first | (rw [col_pos (show 0 < mo by omega)]; omega) | (rw [col_neg (show mo < 0 by omega)]; omega) | (rw [show mo = 0 by omega, Int.mul_zero]; omega))) _ _ _ hP hD hS (lv_sub hl [7, 8, 9, 1, 0] rfl)
            · -- F
              refine lv_lload_n hx hb d_Grid_polygonBits_144 rfl (lv_at hl 7 rfl) ?_
              refine lv_lload hx hb d_Grid_polygonBits_145 (lv_at hl 1 rfl) ?_
              refine lv_lload hx hb d_Grid_polygonBits_147 (lv_at hl 0 rfl) ?_
              refine sr_cS_l (wr := [(hg0, .inr (0, [.ref grw, .int (iI sx), .int (iI tx), .int (iI wd), .int (iI sy), .int (iI ty), .int (iI hi), .long wr, .int (iI fr), .ref gxs, .ref gys, .int (iI nc), .int (iI ogx), .int (iI ogy), .long (lI tu)])), (gxs, .inl (cJ, 4, .inr (.inl (zL xs)))), (gys, .inl (cJ, 4, .inr (.inl (zL ys))))]) (As := [.long (lI at_), .long (lI mo)]) (rest := [.long (lI fi)]) hx hb hml hown hts (c_Math_floorDiv_JJJ l D cI cJ cZ _ at_ mo (hatb) (by omega) (hmob)) (sr_cwS hsub hts k_cd_Math_floorDiv_JJJ k_in_Math k_m_Grid_106 k_st_Math_floorDiv_JJJ g_Math_floorDiv_JJJ ⟨Nat.le_of_ble_eq_true rfl, Nat.le_of_ble_eq_true rfl⟩) hns_ok hK hN hP hD hS hA [] [0, 1, 2] rfl (by decide) rfl (by decide) (by decide) rfl hl.1 rfl (Nat.le_of_ble_eq_true rfl) d_Grid_polygonBits_149 ⟨Nat.le_of_ble_eq_true rfl, Nat.le_of_ble_eq_true rfl⟩ (fun r_149 u H locs hw_149 hP hD hS => ?_)
              have hP : va_P D classes [(hg0, .inr (0, [.ref grw, .int (iI sx), .int (iI tx), .int (iI wd), .int (iI sy), .int (iI ty), .int (iI hi), .long wr, .int (iI fr), .ref gxs, .ref gys, .int (iI nc), .int (iI ogx), .int (iI ogy), .long (lI tu)])), (gxs, .inl (cJ, 4, .inr (.inl (zL xs)))), (gys, .inl (cJ, 4, .inr (.inl (zL ys))))] H := hP
              have hD : va_D A [(hg0, .inr (0, [.ref grw, .int (iI sx), .int (iI tx), .int (iI wd), .int (iI sy), .int (iI ty), .int (iI hi), .long wr, .int (iI fr), .ref gxs, .ref gys, .int (iI nc), .int (iI ogx), .int (iI ogy), .long (lI tu)])), (gxs, .inl (cJ, 4, .inr (.inl (zL xs)))), (gys, .inl (cJ, 4, .inr (.inl (zL ys))))] := hD
              try dsimp only at hw_149
              subst hw_149
              have hdq := div_bd (a := at_) (b := mo) (M := 1680000000000000000) (by omega) (by omega) (by omega) (by omega)
              refine sr_lneg hx hb d_Grid_polygonBits_152 ?_
              refine sr_mmax_long hx hb (hml.trans hl.1.symm) hown (ht _ k_m_Grid_104) (ht _ k_st_max_long) (ht _ k_in_Math) (ht _ k_cd_max_long) (Nat.le_of_ble_eq_true rfl) (Nat.le_of_ble_eq_true rfl) (Nat.zero_le _) (Nat.zero_le _) hfb (by unfold bL; omega) d_Grid_polygonBits_153 ?_
              refine lv_lstore_n (lv' := [(3, .long (lI (max fi (-(at_ / mo))))), (15, .long (lI mo)), (13, .long (lI at_)), (11, .long (lI dy)), (9, .long (lI dx)), (8, .int (iI (nxt nc i))), (0, .ref hg0), (1, .long (lI y)), (5, .long (lI la)), (7, .int (iI i))]) hx hb d_Grid_polygonBits_156 rfl hl (by decide) rfl (fun ls hl => ?_)
              refine lv_goto (tgt := 194) hx hb d_Grid_polygonBits_157 (by decide) ?_
              refine lv_iinc (v := iI (i + 1)) (lv' := [(7, .int (iI (i + 1))), (3, .long (lI (max fi (-(at_ / mo))))), (15, .long (lI mo)), (13, .long (lI at_)), (11, .long (lI dy)), (9, .long (lI dx)), (8, .int (iI (nxt nc i))), (0, .ref hg0), (1, .long (lI y)), (5, .long (lI la))]) hx hb d_Grid_polygonBits_194 hl (k := 9) rfl (iI_add _ _) (by decide) rfl (fun ls hl => ?_)
              refine lv_goto (tgt := 14) hx hb d_Grid_polygonBits_197 (by decide) ?_
              exact ih_14 (i + 1) (max fi (-(at_ / mo))) la (by omega) (by omega) (by omega) (by omega) (by first | exact hfb | (unfold bL at *; omega)) (by omega) (by first | exact hlb | (unfold bL at *; omega)) (clI_s hI hi0 (fun k k0 k1 => by rw [hsd k]; first | (rw [col_pos (show 0 < mo by omega)]; omega) | (rw [col_neg (show mo < 0 by omega)]; omega) | (rw [show mo = 0 by omega, Int.mul_zero]; omega))) _ _ _ hP hD hS (lv_sub hl [7, 8, 1, 9, 0] rfl)
          · -- F
            refine lv_iload hx hb d_Grid_polygonBits_41 (lv_at hl 4 rfl) ?_
            refine sr_iconst hx hb d_Grid_polygonBits_43 ?_
            refine sr_iadd hx hb d_Grid_polygonBits_44 ?_
            refine lv_goto (tgt := 49) hx hb d_Grid_polygonBits_45 (by decide) ?_
            refine sr_eqI (z := nxt nc i) (congrArg iI (by unfold nxt; split <;> omega)) ?_
            refine lv_istore (lv' := [(8, .int (iI (nxt nc i))), (0, .ref hg0), (1, .long (lI y)), (3, .long (lI fi)), (5, .long (lI la)), (7, .int (iI i))]) hx hb d_Grid_polygonBits_49 hl (by decide) rfl (fun ls hl => ?_)
            refine lv_aload_n hx hb d_Grid_polygonBits_51 rfl (lv_at hl 1 rfl) ?_
            refine va_get hx hb ht i_Grid hown hK hP 0 rfl rfl 9 (by decide) (ht _ k_f_Grid_32) (fun _ h9 => h9) rfl d_Grid_polygonBits_52 ?_
            refine lv_iload hx hb d_Grid_polygonBits_55 (lv_at hl 0 rfl) ?_
            refine sr_laldZ hx hb hK hP 1 1 rfl rfl (by omega) (by omega) (by decide) d_Grid_polygonBits_57 ?_
            refine lv_aload_n hx hb d_Grid_polygonBits_58 rfl (lv_at hl 1 rfl) ?_
            refine va_get hx hb ht i_Grid hown hK hP 0 rfl rfl 9 (by decide) (ht _ k_f_Grid_32) (fun _ h9 => h9) rfl d_Grid_polygonBits_59 ?_
            refine lv_iload hx hb d_Grid_polygonBits_62 (lv_at hl 5 rfl) ?_
            refine sr_laldZ hx hb hK hP 1 1 rfl rfl (by omega) (by omega) (by decide) d_Grid_polygonBits_64 ?_
            refine sr_lsub hx hb d_Grid_polygonBits_65 ?_
            refine sr_topL (fun dx e_dx => ?_)
            refine lv_lstore (lv' := [(9, .long (lI dx)), (8, .int (iI (nxt nc i))), (0, .ref hg0), (1, .long (lI y)), (3, .long (lI fi)), (5, .long (lI la)), (7, .int (iI i))]) hx hb d_Grid_polygonBits_66 hl (by decide) rfl (fun ls hl => ?_)
            refine lv_aload_n hx hb d_Grid_polygonBits_68 rfl (lv_at hl 2 rfl) ?_
            refine va_get hx hb ht i_Grid hown hK hP 0 rfl rfl 10 (by decide) (ht _ k_f_Grid_35) (fun _ h9 => h9) rfl d_Grid_polygonBits_69 ?_
            refine lv_iload hx hb d_Grid_polygonBits_72 (lv_at hl 1 rfl) ?_
            refine sr_laldZ hx hb hK hP 2 1 rfl rfl (by omega) (by omega) (by decide) d_Grid_polygonBits_74 ?_
            refine lv_aload_n hx hb d_Grid_polygonBits_75 rfl (lv_at hl 2 rfl) ?_
            refine va_get hx hb ht i_Grid hown hK hP 0 rfl rfl 10 (by decide) (ht _ k_f_Grid_35) (fun _ h9 => h9) rfl d_Grid_polygonBits_76 ?_
            refine lv_iload hx hb d_Grid_polygonBits_79 (lv_at hl 6 rfl) ?_
            refine sr_laldZ hx hb hK hP 2 1 rfl rfl (by omega) (by omega) (by decide) d_Grid_polygonBits_81 ?_
            refine sr_lsub hx hb d_Grid_polygonBits_82 ?_
            refine sr_topL (fun dy e_dy => ?_)
            refine lv_lstore (lv' := [(11, .long (lI dy)), (9, .long (lI dx)), (8, .int (iI (nxt nc i))), (0, .ref hg0), (1, .long (lI y)), (3, .long (lI fi)), (5, .long (lI la)), (7, .int (iI i))]) hx hb d_Grid_polygonBits_83 hl (by decide) rfl (fun ls hl => ?_)
            refine lv_aload_n hx hb d_Grid_polygonBits_85 rfl (lv_at hl 3 rfl) ?_
            refine va_get hx hb ht i_Grid hown hK hP 0 rfl rfl 14 (by decide) (ht _ k_f_Grid_81) (fun _ h9 => h9) rfl d_Grid_polygonBits_86 ?_
            refine lv_lload hx hb d_Grid_polygonBits_89 (lv_at hl 1 rfl) ?_
            refine lv_lload_n hx hb d_Grid_polygonBits_91 rfl (lv_at hl 4 rfl) ?_
            refine lv_aload_n hx hb d_Grid_polygonBits_92 rfl (lv_at hl 3 rfl) ?_
            refine va_get hx hb ht i_Grid hown hK hP 0 rfl rfl 10 (by decide) (ht _ k_f_Grid_35) (fun _ h9 => h9) rfl d_Grid_polygonBits_93 ?_
            refine lv_iload hx hb d_Grid_polygonBits_96 (lv_at hl 7 rfl) ?_
            refine sr_laldZ hx hb hK hP 2 1 rfl rfl (by omega) (by omega) (by decide) d_Grid_polygonBits_98 ?_
            refine sr_lsub hx hb d_Grid_polygonBits_99 ?_
            refine sr_lmul hx hb d_Grid_polygonBits_100 ?_
            refine lv_lload hx hb d_Grid_polygonBits_101 (lv_at hl 0 rfl) ?_
            refine lv_aload_n hx hb d_Grid_polygonBits_103 rfl (lv_at hl 3 rfl) ?_
            refine va_get hx hb ht i_Grid hown hK hP 0 rfl rfl 1 (by decide) (ht _ k_f_Grid_38) (fun _ h9 => h9) rfl d_Grid_polygonBits_104 ?_
            refine sr_i2l hx hb d_Grid_polygonBits_107 (by unfold bI; omega) ?_
            refine lv_aload_n hx hb d_Grid_polygonBits_108 rfl (lv_at hl 3 rfl) ?_
            refine va_get hx hb ht i_Grid hown hK hP 0 rfl rfl 9 (by decide) (ht _ k_f_Grid_32) (fun _ h9 => h9) rfl d_Grid_polygonBits_109 ?_
            refine lv_iload hx hb d_Grid_polygonBits_112 (lv_at hl 7 rfl) ?_
            refine sr_laldZ hx hb hK hP 1 1 rfl rfl (by omega) (by omega) (by decide) d_Grid_polygonBits_114 ?_
            refine sr_lsub hx hb d_Grid_polygonBits_115 ?_
            refine sr_lmul hx hb d_Grid_polygonBits_116 ?_
            refine sr_lsub hx hb d_Grid_polygonBits_117 ?_
            refine sr_lmul hx hb d_Grid_polygonBits_118 ?_
            refine sr_topL (fun at_ e_at_ => ?_)
            refine lv_lstore (lv' := [(13, .long (lI at_)), (11, .long (lI dy)), (9, .long (lI dx)), (8, .int (iI (nxt nc i))), (0, .ref hg0), (1, .long (lI y)), (3, .long (lI fi)), (5, .long (lI la)), (7, .int (iI i))]) hx hb d_Grid_polygonBits_119 hl (by decide) rfl (fun ls hl => ?_)
            have hdxy := mul_bd (a := dx) (b := y - ys i) (A := 1200000000) (B := 700000000) (by omega) (by omega)
            have hdyx := mul_bd (a := dy) (b := sx - xs i) (A := 1200000000) (B := 700000000) (by omega) (by omega)
            have hatc := tu_bd (x := dx * (y - ys i) - dy * (sx - xs i)) (M := 1680000000000000000) htu (by omega)
            rw [← e_at_] at hatc
            have hatb : bL at_ := by unfold bL; omega
            refine lv_aload_n hx hb d_Grid_polygonBits_121 rfl (lv_at hl 4 rfl) ?_
            refine va_get hx hb ht i_Grid hown hK hP 0 rfl rfl 14 (by decide) (ht _ k_f_Grid_81) (fun _ h9 => h9) rfl d_Grid_polygonBits_122 ?_
            refine sr_lneg hx hb d_Grid_polygonBits_125 ?_
            refine lv_lload hx hb d_Grid_polygonBits_126 (lv_at hl 1 rfl) ?_
            refine sr_lmul hx hb d_Grid_polygonBits_128 ?_
            refine lv_aload_n hx hb d_Grid_polygonBits_129 rfl (lv_at hl 4 rfl) ?_
            refine va_get hx hb ht i_Grid hown hK hP 0 rfl rfl 2 (by decide) (ht _ k_f_Grid_15) (fun _ h9 => h9) rfl d_Grid_polygonBits_130 ?_
            refine sr_i2l hx hb d_Grid_polygonBits_133 (by unfold bI; omega) ?_
            refine sr_lmul hx hb d_Grid_polygonBits_134 ?_
            refine sr_topL (fun mo e_mo => ?_)
            refine lv_lstore (lv' := [(15, .long (lI mo)), (13, .long (lI at_)), (11, .long (lI dy)), (9, .long (lI dx)), (8, .int (iI (nxt nc i))), (0, .ref hg0), (1, .long (lI y)), (3, .long (lI fi)), (5, .long (lI la)), (7, .int (iI i))]) hx hb d_Grid_polygonBits_135 hl (by decide) rfl (fun ls hl => ?_)
            have hdt := mul_bd (a := dy) (b := tx) (A := 1200000000) (B := 1024) (by omega) (by omega)
            have hmoc := tu_bd (t := -tu) (x := dy * tx) (M := 1228800000000) (by omega) (by omega)
            rw [← Int.mul_assoc, ← e_mo] at hmoc
            have hmob : bL mo := by unfold bL; omega
            have hsd : ∀ k, tu * side xs ys nc i (sx + k * tx) y = at_ + k * mo := fun k => by rw [e_at_, e_mo, e_dx, e_dy]; exact col_eq tu _ _ _ _ _ _ _ _
            refine lv_lload hx hb d_Grid_polygonBits_137 (lv_at hl 0 rfl) ?_
            refine sr_lconst0 hx hb d_Grid_polygonBits_139 ?_
            refine sr_lcmp_le (tgt := 160) hx hb d_Grid_polygonBits_140 d_Grid_polygonBits_141 (by decide) hmob (by unfold bL; decide) (fun c_140 => ?_) (fun c_140 => ?_)
            · -- T
              refine lv_lload hx hb d_Grid_polygonBits_160 (lv_at hl 0 rfl) ?_
              refine sr_lconst0 hx hb d_Grid_polygonBits_162 ?_
              refine sr_lcmp_ge (tgt := 185) hx hb d_Grid_polygonBits_163 d_Grid_polygonBits_164 (by decide) hmob (by unfold bL; decide) (fun c_163 => ?_) (fun c_163 => ?_)
              · -- T
                refine lv_lload hx hb d_Grid_polygonBits_185 (lv_at hl 1 rfl) ?_
                refine sr_lconst0 hx hb d_Grid_polygonBits_187 ?_
                refine sr_lcmp_ge (tgt := 194) hx hb d_Grid_polygonBits_188 d_Grid_polygonBits_189 (by decide) hatb (by unfold bL; decide) (fun c_188 => ?_) (fun c_188 => ?_)
                · -- T
                  refine lv_iinc (v := iI (i + 1)) (lv' := [(7, .int (iI (i + 1))), (15, .long (lI mo)), (13, .long (lI at_)), (11, .long (lI dy)), (9, .long (lI dx)), (8, .int (iI (nxt nc i))), (0, .ref hg0), (1, .long (lI y)), (3, .long (lI fi)), (5, .long (lI la))]) hx hb d_Grid_polygonBits_194 hl (k := 9) rfl (iI_add _ _) (by decide) rfl (fun ls hl => ?_)
                  refine lv_goto (tgt := 14) hx hb d_Grid_polygonBits_197 (by decide) ?_
                  exact ih_14 (i + 1) fi la (by omega) (by omega) (by omega) (by omega) (by first | exact hfb | (unfold bL at *; omega)) (by omega) (by first | exact hlb | (unfold bL at *; omega)) (clI_s hI hi0 (fun k k0 k1 => by rw [hsd k]; first | (rw [col_pos (show 0 < mo by omega)]; omega) | (rw [col_neg (show mo < 0 by omega)]; omega) | (rw [show mo = 0 by omega, Int.mul_zero]; omega))) _ _ _ hP hD hS (lv_sub hl [6, 7, 8, 9, 0] rfl)
                · -- F
                  refine sr_lconst0 hx hb d_Grid_polygonBits_192 ?_
                  exact sr_lret () hx hb hr hlocks hP hD hS d_Grid_polygonBits_193 (fun k k0 k1 => ⟨fun h9 => absurd h9 (btL_0 k), fun h9 => absurd (h9.2 i hi0 (by omega)) (by rw [hsd k, show mo = 0 by omega, Int.mul_zero]; omega)⟩)
              · -- F
                refine lv_lload hx hb d_Grid_polygonBits_167 (lv_at hl 8 rfl) ?_
                refine lv_lload hx hb d_Grid_polygonBits_169 (lv_at hl 1 rfl) ?_
                refine lv_lload hx hb d_Grid_polygonBits_171 (lv_at hl 0 rfl) ?_
                refine sr_lneg hx hb d_Grid_polygonBits_173 ?_
                refine sr_cS_l (wr := [(hg0, .inr (0, [.ref grw, .int (iI sx), .int (iI tx), .int (iI wd), .int (iI sy), .int (iI ty), .int (iI hi), .long wr, .int (iI fr), .ref gxs, .ref gys, .int (iI nc), .int (iI ogx), .int (iI ogy), .long (lI tu)])), (gxs, .inl (cJ, 4, .inr (.inl (zL xs)))), (gys, .inl (cJ, 4, .inr (.inl (zL ys))))]) (As := [.long (lI at_), .long (lI (-mo))]) (rest := [.long (lI la)]) hx hb hml hown hts (c_Math_floorDiv_JJJ l D cI cJ cZ _ at_ (-mo) (hatb) (by omega) (by unfold bL; omega)) (sr_cwS hsub hts k_cd_Math_floorDiv_JJJ k_in_Math k_m_Grid_106 k_st_Math_floorDiv_JJJ g_Math_floorDiv_JJJ ⟨Nat.le_of_ble_eq_true rfl, Nat.le_of_ble_eq_true rfl⟩) hns_ok hK hN hP hD hS hA [] [0, 1, 2] rfl (by decide) rfl (by decide) (by decide) rfl hl.1 rfl (Nat.le_of_ble_eq_true rfl) d_Grid_polygonBits_174 ⟨Nat.le_of_ble_eq_true rfl, Nat.le_of_ble_eq_true rfl⟩ (fun r_174 u H locs hw_174 hP hD hS => ?_)
                have hP : va_P D classes [(hg0, .inr (0, [.ref grw, .int (iI sx), .int (iI tx), .int (iI wd), .int (iI sy), .int (iI ty), .int (iI hi), .long wr, .int (iI fr), .ref gxs, .ref gys, .int (iI nc), .int (iI ogx), .int (iI ogy), .long (lI tu)])), (gxs, .inl (cJ, 4, .inr (.inl (zL xs)))), (gys, .inl (cJ, 4, .inr (.inl (zL ys))))] H := hP
                have hD : va_D A [(hg0, .inr (0, [.ref grw, .int (iI sx), .int (iI tx), .int (iI wd), .int (iI sy), .int (iI ty), .int (iI hi), .long wr, .int (iI fr), .ref gxs, .ref gys, .int (iI nc), .int (iI ogx), .int (iI ogy), .long (lI tu)])), (gxs, .inl (cJ, 4, .inr (.inl (zL xs)))), (gys, .inl (cJ, 4, .inr (.inl (zL ys))))] := hD
                try dsimp only at hw_174
                subst hw_174
                have hdq := div_bd (a := at_) (b := -mo) (M := 1680000000000000000) (by omega) (by omega) (by omega) (by omega)
                refine sr_mmin_long hx hb (hml.trans hl.1.symm) hown (ht _ k_m_Grid_102) (ht _ k_st_min_long) (ht _ k_in_Math) (ht _ k_cd_min_long) (Nat.le_of_ble_eq_true rfl) (Nat.le_of_ble_eq_true rfl) (Nat.zero_le _) (Nat.zero_le _) hlb (by unfold bL; omega) d_Grid_polygonBits_177 ?_
                refine lv_lstore (lv' := [(5, .long (lI (min la (at_ / (-mo))))), (15, .long (lI mo)), (13, .long (lI at_)), (11, .long (lI dy)), (9, .long (lI dx)), (8, .int (iI (nxt nc i))), (0, .ref hg0), (1, .long (lI y)), (3, .long (lI fi)), (7, .int (iI i))]) hx hb d_Grid_polygonBits_180 hl (by decide) rfl (fun ls hl => ?_)
                refine lv_goto (tgt := 194) hx hb d_Grid_polygonBits_182 (by decide) ?_
                refine lv_iinc (v := iI (i + 1)) (lv' := [(7, .int (iI (i + 1))), (5, .long (lI (min la (at_ / (-mo))))), (15, .long (lI mo)), (13, .long (lI at_)), (11, .long (lI dy)), (9, .long (lI dx)), (8, .int (iI (nxt nc i))), (0, .ref hg0), (1, .long (lI y)), (3, .long (lI fi))]) hx hb d_Grid_polygonBits_194 hl (k := 9) rfl (iI_add _ _) (by decide) rfl (fun ls hl => ?_)
                refine lv_goto (tgt := 14) hx hb d_Grid_polygonBits_197 (by decide) ?_
                exact ih_14 (i + 1) fi (min la (at_ / (-mo))) (by omega) (by omega) (by omega) (by omega) (by first | exact hfb | (unfold bL at *; omega)) (by omega) (by first | exact hlb | (unfold bL at *; omega)) (clI_s hI hi0 (fun k k0 k1 => by rw [hsd k]; first | (rw [col_pos (show 0 < mo by omega)]; omega) | (rw [col_neg (show mo < 0 by omega)]; omega) | (rw [show mo = 0 by omega, Int.mul_zero]; omega))) _ _ _ hP hD hS (lv_sub hl [7, 8, 9, 1, 0] rfl)
            · -- F
              refine lv_lload_n hx hb d_Grid_polygonBits_144 rfl (lv_at hl 7 rfl) ?_
              refine lv_lload hx hb d_Grid_polygonBits_145 (lv_at hl 1 rfl) ?_
              refine lv_lload hx hb d_Grid_polygonBits_147 (lv_at hl 0 rfl) ?_
              refine sr_cS_l (wr := [(hg0, .inr (0, [.ref grw, .int (iI sx), .int (iI tx), .int (iI wd), .int (iI sy), .int (iI ty), .int (iI hi), .long wr, .int (iI fr), .ref gxs, .ref gys, .int (iI nc), .int (iI ogx), .int (iI ogy), .long (lI tu)])), (gxs, .inl (cJ, 4, .inr (.inl (zL xs)))), (gys, .inl (cJ, 4, .inr (.inl (zL ys))))]) (As := [.long (lI at_), .long (lI mo)]) (rest := [.long (lI fi)]) hx hb hml hown hts (c_Math_floorDiv_JJJ l D cI cJ cZ _ at_ mo (hatb) (by omega) (hmob)) (sr_cwS hsub hts k_cd_Math_floorDiv_JJJ k_in_Math k_m_Grid_106 k_st_Math_floorDiv_JJJ g_Math_floorDiv_JJJ ⟨Nat.le_of_ble_eq_true rfl, Nat.le_of_ble_eq_true rfl⟩) hns_ok hK hN hP hD hS hA [] [0, 1, 2] rfl (by decide) rfl (by decide) (by decide) rfl hl.1 rfl (Nat.le_of_ble_eq_true rfl) d_Grid_polygonBits_149 ⟨Nat.le_of_ble_eq_true rfl, Nat.le_of_ble_eq_true rfl⟩ (fun r_149 u H locs hw_149 hP hD hS => ?_)
              have hP : va_P D classes [(hg0, .inr (0, [.ref grw, .int (iI sx), .int (iI tx), .int (iI wd), .int (iI sy), .int (iI ty), .int (iI hi), .long wr, .int (iI fr), .ref gxs, .ref gys, .int (iI nc), .int (iI ogx), .int (iI ogy), .long (lI tu)])), (gxs, .inl (cJ, 4, .inr (.inl (zL xs)))), (gys, .inl (cJ, 4, .inr (.inl (zL ys))))] H := hP
              have hD : va_D A [(hg0, .inr (0, [.ref grw, .int (iI sx), .int (iI tx), .int (iI wd), .int (iI sy), .int (iI ty), .int (iI hi), .long wr, .int (iI fr), .ref gxs, .ref gys, .int (iI nc), .int (iI ogx), .int (iI ogy), .long (lI tu)])), (gxs, .inl (cJ, 4, .inr (.inl (zL xs)))), (gys, .inl (cJ, 4, .inr (.inl (zL ys))))] := hD
              try dsimp only at hw_149
              subst hw_149
              have hdq := div_bd (a := at_) (b := mo) (M := 1680000000000000000) (by omega) (by omega) (by omega) (by omega)
              refine sr_lneg hx hb d_Grid_polygonBits_152 ?_
              refine sr_mmax_long hx hb (hml.trans hl.1.symm) hown (ht _ k_m_Grid_104) (ht _ k_st_max_long) (ht _ k_in_Math) (ht _ k_cd_max_long) (Nat.le_of_ble_eq_true rfl) (Nat.le_of_ble_eq_true rfl) (Nat.zero_le _) (Nat.zero_le _) hfb (by unfold bL; omega) d_Grid_polygonBits_153 ?_
              refine lv_lstore_n (lv' := [(3, .long (lI (max fi (-(at_ / mo))))), (15, .long (lI mo)), (13, .long (lI at_)), (11, .long (lI dy)), (9, .long (lI dx)), (8, .int (iI (nxt nc i))), (0, .ref hg0), (1, .long (lI y)), (5, .long (lI la)), (7, .int (iI i))]) hx hb d_Grid_polygonBits_156 rfl hl (by decide) rfl (fun ls hl => ?_)
              refine lv_goto (tgt := 194) hx hb d_Grid_polygonBits_157 (by decide) ?_
              refine lv_iinc (v := iI (i + 1)) (lv' := [(7, .int (iI (i + 1))), (3, .long (lI (max fi (-(at_ / mo))))), (15, .long (lI mo)), (13, .long (lI at_)), (11, .long (lI dy)), (9, .long (lI dx)), (8, .int (iI (nxt nc i))), (0, .ref hg0), (1, .long (lI y)), (5, .long (lI la))]) hx hb d_Grid_polygonBits_194 hl (k := 9) rfl (iI_add _ _) (by decide) rfl (fun ls hl => ?_)
              refine lv_goto (tgt := 14) hx hb d_Grid_polygonBits_197 (by decide) ?_
              exact ih_14 (i + 1) (max fi (-(at_ / mo))) la (by omega) (by omega) (by omega) (by omega) (by first | exact hfb | (unfold bL at *; omega)) (by omega) (by first | exact hlb | (unfold bL at *; omega)) (clI_s hI hi0 (fun k k0 k1 => by rw [hsd k]; first | (rw [col_pos (show 0 < mo by omega)]; omega) | (rw [col_neg (show mo < 0 by omega)]; omega) | (rw [show mo = 0 by omega, Int.mul_zero]; omega))) _ _ _ hP hD hS (lv_sub hl [7, 8, 1, 9, 0] rfl)
  exact lp_14 _ 0 0 (wd - 1) (Nat.lt_succ_self _) (by omega) (by omega) (by omega) (bL_0) (by omega) (by unfold bL; omega) (clI_0) _ _ _ hP hD hS (lv_sub hl [3, 4, 2, 1, 0] rfl)

set_option maxHeartbeats 4000000 in
set_option maxRecDepth 100000 in
theorem c_Grid_discBits (l : Launch) (D : va_G) (cI cJ cZ : ClassId) (sz : Nat) (hg0 : Nat) (grw : Nat) (sx : Int) (tx : Int) (wd : Int) (sy : Int) (ty : Int) (hi : Int) (wr : Int64) (fr : Int) (gxs : Nat) (gys : Nat) (nc : Int) (ogx : Int) (ogy : Int) (tu : Int) (x : Int) (aw : Int) (rd : Int) (hgx : grP sx tx wd) (hx1 : -300000 ≤ x ∧ x ≤ 300000) (haw : -1000000 ≤ aw ∧ aw ≤ 1000000) (hrd : 0 ≤ rd ∧ rd ≤ 32768) : Met l y_Grid_discBits (.code y_Grid_discBits b_Grid_discBits 14 (some .long) :: allw) ({ frames := 1, cells := 0, slots := 0, locals := 27 } : Room) (va_Pc [.ref hg0, .int (iI x), .long (lI aw), .long (lI rd)] (sr_U D classes [(cI, .int), (cJ, .long), (cZ, .boolean)] nestw [(hg0, .inr (0, [.ref grw, .int (iI sx), .int (iI tx), .int (iI wd), .int (iI sy), .int (iI ty), .int (iI hi), .long wr, .int (iI fr), .ref gxs, .ref gys, .int (iI nc), .int (iI ogx), .int (iI ogy), .long (lI tu)]))] sz)) (va_Ql (fun (r : Int64) => fun (_ : Unit) => ∀ k : Int, 0 ≤ k → k < 64 → (btL r k ↔ k < wd ∧ (sx + k * tx - x) * (sx + k * tx - x) + aw * aw ≤ rd * rd)) (sr_B D classes (va_A [(hg0, .inr (0, [.ref grw, .int (iI sx), .int (iI tx), .int (iI wd), .int (iI sy), .int (iI ty), .int (iI hi), .long wr, .int (iI fr), .ref gxs, .ref gys, .int (iI nc), .int (iI ogx), .int (iI ogy), .long (lI tu)]))] sz) (fun (_ : Unit) => [(hg0, .inr (0, [.ref grw, .int (iI sx), .int (iI tx), .int (iI wd), .int (iI sy), .int (iI ty), .int (iI hi), .long wr, .int (iI fr), .ref gxs, .ref gys, .int (iI nc), .int (iI ogx), .int (iI ogy), .long (lI tu)]))])) (va_A [(hg0, .inr (0, [.ref grw, .int (iI sx), .int (iI tx), .int (iI wd), .int (iI sy), .int (iI ty), .int (iI hi), .long wr, .int (iI fr), .ref gxs, .ref gys, .int (iI nc), .int (iI ogx), .int (iI ogy), .long (lI tu)]))] sz)) 0 0 (va_A [(hg0, .inr (0, [.ref grw, .int (iI sx), .int (iI tx), .int (iI wd), .int (iI sy), .int (iI ty), .int (iI hi), .long wr, .int (iI fr), .ref gxs, .ref gys, .int (iI nc), .int (iI ogx), .int (iI ogy), .long (lI tu)]))] sz) := by
  refine sr_enter (Qf := fun A => va_Ql (fun (r : Int64) => fun (_ : Unit) => ∀ k : Int, 0 ≤ k → k < 64 → (btL r k ↔ k < wd ∧ (sx + k * tx - x) * (sx + k * tx - x) + aw * aw ≤ rd * rd)) (sr_B D classes A (fun (_ : Unit) => [(hg0, .inr (0, [.ref grw, .int (iI sx), .int (iI tx), .int (iI wd), .int (iI sy), .int (iI ty), .int (iI hi), .long wr, .int (iI fr), .ref gxs, .ref gys, .int (iI nc), .int (iI ogx), .int (iI ogy), .long (lI tu)]))])) A) (by decide +kernel) rfl (Nat.le_of_ble_eq_true rfl) ?_
  intro p e s m below meth c A ls hx hb hr hml hown hlocks hin hts hsz hP hK hD hN hA hS hl
  have ht : ∀ w ∈ allw, w.before _ s = true := fun w h => hts w (List.mem_cons_of_mem _ h)
  have hsub : ∀ w ∈ allw, w ∈ _ := fun w h => List.mem_cons_of_mem (Cond.code y_Grid_discBits b_Grid_discBits 14 (some .long)) h
  have hl : lv_has ls 14 [(0, .ref hg0), (1, .int (iI x)), (2, .long (lI aw)), (4, .long (lI rd))] := hl
  have hP : va_P D classes [(hg0, .inr (0, [.ref grw, .int (iI sx), .int (iI tx), .int (iI wd), .int (iI sy), .int (iI ty), .int (iI hi), .long wr, .int (iI fr), .ref gxs, .ref gys, .int (iI nc), .int (iI ogx), .int (iI ogy), .long (lI tu)]))] s.heap := hP
  have hgx2 := hgx
  unfold grP at hgx2
  have hr2 := sq_le (a := rd) (b := 32768) (by omega) (by omega)
  have ha2 := mul_bd (a := aw) (b := aw) (A := 1000000) (B := 1000000) (by omega) (by omega)
  have ha3 := sq_nn aw
  have hr3 := Int.mul_nonneg hrd.1 hrd.1
  refine lv_lload hx hb d_Grid_discBits_0 (lv_at hl 3 rfl) ?_
  refine lv_lload hx hb d_Grid_discBits_2 (lv_at hl 3 rfl) ?_
  refine sr_lmul hx hb d_Grid_discBits_4 ?_
  refine lv_lload_n hx hb d_Grid_discBits_5 rfl (lv_at hl 2 rfl) ?_
  refine lv_lload_n hx hb d_Grid_discBits_6 rfl (lv_at hl 2 rfl) ?_
  refine sr_lmul hx hb d_Grid_discBits_7 ?_
  refine sr_lsub hx hb d_Grid_discBits_8 ?_
  refine sr_topL (fun lf e_lf => ?_)
  refine lv_lstore (lv' := [(6, .long (lI lf)), (0, .ref hg0), (1, .int (iI x)), (2, .long (lI aw)), (4, .long (lI rd))]) hx hb d_Grid_discBits_9 hl (by decide) rfl (fun ls hl => ?_)
  refine lv_lload hx hb d_Grid_discBits_11 (lv_at hl 0 rfl) ?_
  refine sr_lconst0 hx hb d_Grid_discBits_13 ?_
  refine sr_lcmp_lt (tgt := 25) hx hb d_Grid_discBits_14 d_Grid_discBits_15 (by decide) (by unfold bL; omega) (by unfold bL; decide) (fun c_14 => ?_) (fun c_14 => ?_)
  · -- T
    refine sr_lconst0 hx hb d_Grid_discBits_25 ?_
    exact sr_lret () hx hb hr hlocks hP hD hS d_Grid_discBits_26 (fun k k0 k1 => ⟨fun h9 => absurd h9 (btL_0 k), fun h9 => absurd h9.2 (by rw [e_lf] at c_14; have := sq_nn (sx + k * tx - x); omega)⟩)
  · -- F
    refine lv_aload_n hx hb d_Grid_discBits_18 rfl (lv_at hl 1 rfl) ?_
    refine va_get hx hb ht i_Grid hown hK hP 0 rfl rfl 2 (by decide) (ht _ k_f_Grid_15) (fun _ h9 => h9) rfl d_Grid_discBits_19 ?_
    refine sr_if_gt (tgt := 27) hx hb d_Grid_discBits_22 (by decide) (by unfold bI; omega) (fun c_22 => ?_) (fun c_22 => ?_)
    · -- T
      refine lv_lload hx hb d_Grid_discBits_27 (lv_at hl 0 rfl) ?_
      refine sr_cSN_l (wr := [(hg0, .inr (0, [.ref grw, .int (iI sx), .int (iI tx), .int (iI wd), .int (iI sy), .int (iI ty), .int (iI hi), .long wr, .int (iI fr), .ref gxs, .ref gys, .int (iI nc), .int (iI ogx), .int (iI ogy), .long (lI tu)]))]) (As := [.long (lI lf)]) (rest := []) hx hb hml hown hts (c_SR_root l D cI cJ cZ _ lf (by omega) (by omega)) (sr_cwSN hsub hts k_cd_SR_root k_in_SR (hN _ kn_m_Grid_117) k_st_SR_root g_SR_root ⟨Nat.le_of_ble_eq_true rfl, Nat.le_of_ble_eq_true rfl⟩) hns_ok hK hN hP hD hS hA [] [0] rfl (by decide) rfl (by decide) (by decide) rfl hl.1 rfl (Nat.le_of_ble_eq_true rfl) d_Grid_discBits_29 ⟨Nat.le_of_ble_eq_true rfl, Nat.le_of_ble_eq_true rfl⟩ (fun r_29 u H locs hw_29 hP hD hS => ?_)
      have hP : va_P D classes [(hg0, .inr (0, [.ref grw, .int (iI sx), .int (iI tx), .int (iI wd), .int (iI sy), .int (iI ty), .int (iI hi), .long wr, .int (iI fr), .ref gxs, .ref gys, .int (iI nc), .int (iI ogx), .int (iI ogy), .long (lI tu)]))] H := hP
      have hD : va_D A [(hg0, .inr (0, [.ref grw, .int (iI sx), .int (iI tx), .int (iI wd), .int (iI sy), .int (iI ty), .int (iI hi), .long wr, .int (iI fr), .ref gxs, .ref gys, .int (iI nc), .int (iI ogx), .int (iI ogy), .long (lI tu)]))] := hD
      try dsimp only at hw_29
      obtain ⟨z_29, rfl, hw_29⟩ := hw_29
      refine lv_lstore (lv' := [(8, .long (lI z_29)), (6, .long (lI lf)), (0, .ref hg0), (1, .int (iI x)), (2, .long (lI aw)), (4, .long (lI rd))]) hx hb d_Grid_discBits_32 hl (by decide) rfl (fun ls hl => ?_)
      have hz := isRt_le (M := 32768) hw_29 (by omega) (by omega)
      have hz0 := hw_29.1
      have hd1 := div_bd (a := sx - x + z_29) (b := tx) (M := 1000000) (by omega) (by omega) (by omega) (by omega)
      have hd2 := div_bd (a := x + z_29 - sx) (b := tx) (M := 1000000) (by omega) (by omega) (by omega) (by omega)
      refine lv_aload_n hx hb d_Grid_discBits_34 rfl (lv_at hl 2 rfl) ?_
      refine va_get hx hb ht i_Grid hown hK hP 0 rfl rfl 1 (by decide) (ht _ k_f_Grid_38) (fun _ h9 => h9) rfl d_Grid_discBits_35 ?_
      refine lv_iload_n hx hb d_Grid_discBits_38 rfl (lv_at hl 3 rfl) ?_
      refine sr_isub hx hb d_Grid_discBits_39 ?_
      refine sr_i2l hx hb d_Grid_discBits_40 (by unfold bI; omega) ?_
      refine lv_lload hx hb d_Grid_discBits_41 (lv_at hl 0 rfl) ?_
      refine sr_ladd hx hb d_Grid_discBits_43 ?_
      refine lv_aload_n hx hb d_Grid_discBits_44 rfl (lv_at hl 2 rfl) ?_
      refine va_get hx hb ht i_Grid hown hK hP 0 rfl rfl 2 (by decide) (ht _ k_f_Grid_15) (fun _ h9 => h9) rfl d_Grid_discBits_45 ?_
      refine sr_i2l hx hb d_Grid_discBits_48 (by unfold bI; omega) ?_
      refine sr_cS_l (wr := [(hg0, .inr (0, [.ref grw, .int (iI sx), .int (iI tx), .int (iI wd), .int (iI sy), .int (iI ty), .int (iI hi), .long wr, .int (iI fr), .ref gxs, .ref gys, .int (iI nc), .int (iI ogx), .int (iI ogy), .long (lI tu)]))]) (As := [.long (lI ((sx - x) + z_29)), .long (lI tx)]) (rest := []) hx hb hml hown hts (c_Math_floorDiv_JJJ l D cI cJ cZ _ ((sx - x) + z_29) tx (by unfold bL; omega) (by omega) (by unfold bL; omega)) (sr_cwS hsub hts k_cd_Math_floorDiv_JJJ k_in_Math k_m_Grid_106 k_st_Math_floorDiv_JJJ g_Math_floorDiv_JJJ ⟨Nat.le_of_ble_eq_true rfl, Nat.le_of_ble_eq_true rfl⟩) hns_ok hK hN hP hD hS hA [] [0] rfl (by decide) rfl (by decide) (by decide) rfl hl.1 rfl (Nat.le_of_ble_eq_true rfl) d_Grid_discBits_49 ⟨Nat.le_of_ble_eq_true rfl, Nat.le_of_ble_eq_true rfl⟩ (fun r_49 u H locs hw_49 hP hD hS => ?_)
      have hP : va_P D classes [(hg0, .inr (0, [.ref grw, .int (iI sx), .int (iI tx), .int (iI wd), .int (iI sy), .int (iI ty), .int (iI hi), .long wr, .int (iI fr), .ref gxs, .ref gys, .int (iI nc), .int (iI ogx), .int (iI ogy), .long (lI tu)]))] H := hP
      have hD : va_D A [(hg0, .inr (0, [.ref grw, .int (iI sx), .int (iI tx), .int (iI wd), .int (iI sy), .int (iI ty), .int (iI hi), .long wr, .int (iI fr), .ref gxs, .ref gys, .int (iI nc), .int (iI ogx), .int (iI ogy), .long (lI tu)]))] := hD
      try dsimp only at hw_49
      subst hw_49
      refine sr_lneg hx hb d_Grid_discBits_52 ?_
      refine lv_lstore (lv' := [(10, .long (lI (-(((sx - x) + z_29) / tx)))), (8, .long (lI z_29)), (6, .long (lI lf)), (0, .ref hg0), (1, .int (iI x)), (2, .long (lI aw)), (4, .long (lI rd))]) hx hb d_Grid_discBits_53 hl (by decide) rfl (fun ls hl => ?_)
      refine lv_iload_n hx hb d_Grid_discBits_55 rfl (lv_at hl 4 rfl) ?_
      refine sr_i2l hx hb d_Grid_discBits_56 (by unfold bI; omega) ?_
      refine lv_lload hx hb d_Grid_discBits_57 (lv_at hl 1 rfl) ?_
      refine sr_ladd hx hb d_Grid_discBits_59 ?_
      refine lv_aload_n hx hb d_Grid_discBits_60 rfl (lv_at hl 3 rfl) ?_
      refine va_get hx hb ht i_Grid hown hK hP 0 rfl rfl 1 (by decide) (ht _ k_f_Grid_38) (fun _ h9 => h9) rfl d_Grid_discBits_61 ?_
      refine sr_i2l hx hb d_Grid_discBits_64 (by unfold bI; omega) ?_
      refine sr_lsub hx hb d_Grid_discBits_65 ?_
      refine lv_aload_n hx hb d_Grid_discBits_66 rfl (lv_at hl 3 rfl) ?_
      refine va_get hx hb ht i_Grid hown hK hP 0 rfl rfl 2 (by decide) (ht _ k_f_Grid_15) (fun _ h9 => h9) rfl d_Grid_discBits_67 ?_
      refine sr_i2l hx hb d_Grid_discBits_70 (by unfold bI; omega) ?_
      refine sr_cS_l (wr := [(hg0, .inr (0, [.ref grw, .int (iI sx), .int (iI tx), .int (iI wd), .int (iI sy), .int (iI ty), .int (iI hi), .long wr, .int (iI fr), .ref gxs, .ref gys, .int (iI nc), .int (iI ogx), .int (iI ogy), .long (lI tu)]))]) (As := [.long (lI ((x + z_29) - sx)), .long (lI tx)]) (rest := []) hx hb hml hown hts (c_Math_floorDiv_JJJ l D cI cJ cZ _ ((x + z_29) - sx) tx (by unfold bL; omega) (by omega) (by unfold bL; omega)) (sr_cwS hsub hts k_cd_Math_floorDiv_JJJ k_in_Math k_m_Grid_106 k_st_Math_floorDiv_JJJ g_Math_floorDiv_JJJ ⟨Nat.le_of_ble_eq_true rfl, Nat.le_of_ble_eq_true rfl⟩) hns_ok hK hN hP hD hS hA [] [0] rfl (by decide) rfl (by decide) (by decide) rfl hl.1 rfl (Nat.le_of_ble_eq_true rfl) d_Grid_discBits_71 ⟨Nat.le_of_ble_eq_true rfl, Nat.le_of_ble_eq_true rfl⟩ (fun r_71 u H locs hw_71 hP hD hS => ?_)
      have hP : va_P D classes [(hg0, .inr (0, [.ref grw, .int (iI sx), .int (iI tx), .int (iI wd), .int (iI sy), .int (iI ty), .int (iI hi), .long wr, .int (iI fr), .ref gxs, .ref gys, .int (iI nc), .int (iI ogx), .int (iI ogy), .long (lI tu)]))] H := hP
      have hD : va_D A [(hg0, .inr (0, [.ref grw, .int (iI sx), .int (iI tx), .int (iI wd), .int (iI sy), .int (iI ty), .int (iI hi), .long wr, .int (iI fr), .ref gxs, .ref gys, .int (iI nc), .int (iI ogx), .int (iI ogy), .long (lI tu)]))] := hD
      try dsimp only at hw_71
      subst hw_71
      refine lv_lstore (lv' := [(12, .long (lI (((x + z_29) - sx) / tx))), (10, .long (lI (-(((sx - x) + z_29) / tx)))), (8, .long (lI z_29)), (6, .long (lI lf)), (0, .ref hg0), (1, .int (iI x)), (2, .long (lI aw)), (4, .long (lI rd))]) hx hb d_Grid_discBits_74 hl (by decide) rfl (fun ls hl => ?_)
      refine sr_lconst0 hx hb d_Grid_discBits_76 ?_
      refine lv_lload hx hb d_Grid_discBits_77 (lv_at hl 1 rfl) ?_
      refine sr_mmax_long hx hb (hml.trans hl.1.symm) hown (ht _ k_m_Grid_104) (ht _ k_st_max_long) (ht _ k_in_Math) (ht _ k_cd_max_long) (Nat.le_of_ble_eq_true rfl) (Nat.le_of_ble_eq_true rfl) (Nat.zero_le _) (Nat.zero_le _) (by unfold bL; decide) (by unfold bL; omega) d_Grid_discBits_79 ?_
      refine lv_aload_n hx hb d_Grid_discBits_82 rfl (lv_at hl 4 rfl) ?_
      refine va_get hx hb ht i_Grid hown hK hP 0 rfl rfl 3 (by decide) (ht _ k_f_Grid_19) (fun _ h9 => h9) rfl d_Grid_discBits_83 ?_
      refine sr_iconst hx hb d_Grid_discBits_86 ?_
      refine sr_isub hx hb d_Grid_discBits_87 ?_
      refine sr_i2l hx hb d_Grid_discBits_88 (by unfold bI; omega) ?_
      refine lv_lload hx hb d_Grid_discBits_89 (lv_at hl 0 rfl) ?_
      refine sr_mmin_long hx hb (hml.trans hl.1.symm) hown (ht _ k_m_Grid_102) (ht _ k_st_min_long) (ht _ k_in_Math) (ht _ k_cd_min_long) (Nat.le_of_ble_eq_true rfl) (Nat.le_of_ble_eq_true rfl) (Nat.zero_le _) (Nat.zero_le _) (by unfold bL; omega) (by unfold bL; omega) d_Grid_discBits_91 ?_
      refine sr_cS_l (wr := [(hg0, .inr (0, [.ref grw, .int (iI sx), .int (iI tx), .int (iI wd), .int (iI sy), .int (iI ty), .int (iI hi), .long wr, .int (iI fr), .ref gxs, .ref gys, .int (iI nc), .int (iI ogx), .int (iI ogy), .long (lI tu)]))]) (As := [.long (lI (max 0 (-(((sx - x) + z_29) / tx)))), .long (lI (min (wd - 1) (((x + z_29) - sx) / tx)))]) (rest := []) hx hb hml hown hts (c_Grid_bitsFromTo l D cI cJ cZ _ (max 0 (-(((sx - x) + z_29) / tx))) (min (wd - 1) (((x + z_29) - sx) / tx)) (by omega) (by omega) (by unfold bL; omega) (by unfold bL; omega)) (sr_cwS hsub hts k_cd_Grid_bitsFromTo k_in_Grid k_m_Grid_50 k_st_Grid_bitsFromTo g_Grid_bitsFromTo ⟨Nat.le_of_ble_eq_true rfl, Nat.le_of_ble_eq_true rfl⟩) hns_ok hK hN hP hD hS hA [] [0] rfl (by decide) rfl (by decide) (by decide) rfl hl.1 rfl (Nat.le_of_ble_eq_true rfl) d_Grid_discBits_94 ⟨Nat.le_of_ble_eq_true rfl, Nat.le_of_ble_eq_true rfl⟩ (fun r_94 u H locs hw_94 hP hD hS => ?_)
      have hP : va_P D classes [(hg0, .inr (0, [.ref grw, .int (iI sx), .int (iI tx), .int (iI wd), .int (iI sy), .int (iI ty), .int (iI hi), .long wr, .int (iI fr), .ref gxs, .ref gys, .int (iI nc), .int (iI ogx), .int (iI ogy), .long (lI tu)]))] H := hP
      have hD : va_D A [(hg0, .inr (0, [.ref grw, .int (iI sx), .int (iI tx), .int (iI wd), .int (iI sy), .int (iI ty), .int (iI hi), .long wr, .int (iI fr), .ref gxs, .ref gys, .int (iI nc), .int (iI ogx), .int (iI ogy), .long (lI tu)]))] := hD
      try dsimp only at hw_94
      exact sr_lret () hx hb hr hlocks hP hD hS d_Grid_discBits_97 (fun k k0 k1 => (hw_94 k k0 k1).trans ((dsc_iff hw_29 (by omega) k0).trans (by rw [e_lf]; omega)))
    · -- F
      exact absurd c_22 (by omega)

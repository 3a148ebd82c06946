set_option maxHeartbeats 4000000 in
set_option maxRecDepth 100000 in
theorem c_SR_root (l : Launch) (D : va_G) (cI cJ cZ : ClassId) (sz : Nat) (n : Int) (h0 : 0 ≤ n) (h1 : n < 281474976710656) : Met l y_SR_root (.code y_SR_root b_SR_root 8 (some .long) :: allw) ({ frames := 0, cells := 0, slots := 0, locals := 0 } : Room) (va_Pc [.long (lI n)] (sr_U D classes [(cI, .int), (cJ, .long), (cZ, .boolean)] nestw [] sz)) (va_Ql (fun (r : Int64) => fun (_ : Unit) => ∃ z, r = lI z ∧ isRt n z) (sr_B D classes (va_A [] sz) (fun (_ : Unit) => [])) (va_A [] sz)) 0 0 (va_A [] sz) := by
  refine sr_enter (Qf := fun A => va_Ql (fun (r : Int64) => fun (_ : Unit) => ∃ z, r = lI z ∧ isRt n z) (sr_B D classes A (fun (_ : Unit) => [])) A) (by decide +kernel) rfl (Nat.le_of_ble_eq_true rfl) ?_
  intro p e s m below meth c A ls hx hb hr hml hown hlocks hin hts hsz hP hK hD hN hA hS hl
  have ht : ∀ w ∈ allw, w.before _ s = true := fun w h => hts w (List.mem_cons_of_mem _ h)
  have hsub : ∀ w ∈ allw, w ∈ _ := fun w h => List.mem_cons_of_mem (Cond.code y_SR_root b_SR_root 8 (some .long)) h
  have hl : lv_has ls 8 [(0, .long (lI n))] := hl
  have hP : va_P D classes [] s.heap := hP
  refine sr_lconst0 hx hb d_SR_root_0 ?_
  refine lv_lstore_n (lv' := [(2, .long (lI 0)), (0, .long (lI n))]) hx hb d_SR_root_1 rfl hl (by decide) rfl (fun ls hl => ?_)
  refine lv_ldc2 hx hb hown (ht _ k_k_SR_209) d_SR_root_2 ?_
  refine sr_eqL (z := 8388608) (by decide) ?_
  refine lv_lstore (lv' := [(4, .long (lI 8388608)), (2, .long (lI 0)), (0, .long (lI n))]) hx hb d_SR_root_5 hl (by decide) rfl (fun ls hl => ?_)
  have lp_7 : ∀ (n_ : Nat) (f : Int) (b : Int), b.toNat < n_ → (0 ≤ f) → (0 ≤ b) → (rtI n f b) → (f * f ≤ n) → (f + 2 * b ≤ 16777216) → ∀ (H : Heap) (locs : List Loc) (ls : Array Slot), va_P D classes [] H → va_D A [] → va_S A s.heap H locs → lv_has ls 8 [(0, .long (lI n)), (2, .long (lI f)), (4, .long (lI b))] → W p l e ({ frames := 0, cells := 0, slots := 0, locals := 0 } : Room) s m [.long (lI n)].toArray below meth c H locs 0 0 (MQ below (va_Ql (fun (r : Int64) => fun (_ : Unit) => ∃ z, r = lI z ∧ isRt n z) (sr_B D classes A (fun (_ : Unit) => [])) A) [.long (lI n)].toArray s 0 0 A) (F0 m 7 ls []) := by
    intro n_
    induction n_ with
    | zero => intro f b hm_; exact absurd hm_ (Nat.not_lt_zero _)
    | succ n_ ih_7 =>
      intro f b hm_ hf0 hb0 hI hle hsm H locs ls hP hD hS hl
      refine lv_lload hx hb d_SR_root_7 (lv_at hl 2 rfl) ?_
      refine sr_lconst0 hx hb d_SR_root_9 ?_
      refine sr_lcmp_le (tgt := 42) hx hb d_SR_root_10 d_SR_root_11 (by decide) (by unfold bL; omega) (by unfold bL; decide) (fun c_10 => ?_) (fun c_10 => ?_)
      · -- T
        refine lv_lload_n hx hb d_SR_root_42 rfl (lv_at hl 1 rfl) ?_
        exact sr_lret () hx hb hr hlocks hP hD hS d_SR_root_43 (⟨f, rfl, hf0, hle, hI.elim (fun h9 => h9.2) (fun h9 => absurd (pw2_pos h9.1) (by omega))⟩)
      · -- F
        have hsq := sq_le (a := f + b) (b := 16777216) (by omega) (by omega)
        have hsq0 := Int.mul_nonneg (show 0 ≤ f + b by omega) (show 0 ≤ f + b by omega)
        refine lv_lload_n hx hb d_SR_root_14 rfl (lv_at hl 1 rfl) ?_
        refine lv_lload hx hb d_SR_root_15 (lv_at hl 2 rfl) ?_
        refine sr_ladd hx hb d_SR_root_17 ?_
        refine lv_lstore (lv' := [(6, .long (lI (f + b))), (0, .long (lI n)), (2, .long (lI f)), (4, .long (lI b))]) hx hb d_SR_root_18 hl (by decide) rfl (fun ls hl => ?_)
        refine lv_lload hx hb d_SR_root_20 (lv_at hl 0 rfl) ?_
        refine lv_lload hx hb d_SR_root_22 (lv_at hl 0 rfl) ?_
        refine sr_lmul hx hb d_SR_root_24 ?_
        refine lv_lload_n hx hb d_SR_root_25 rfl (lv_at hl 1 rfl) ?_
        refine sr_lcmp_gt (tgt := 33) hx hb d_SR_root_26 d_SR_root_27 (by decide) (by unfold bL; omega) (by unfold bL; omega) (fun c_26 => ?_) (fun c_26 => ?_)
        · -- T
          refine lv_lload hx hb d_SR_root_33 (lv_at hl 3 rfl) ?_
          refine sr_iconst hx hb d_SR_root_35 ?_
          refine lv_lshr hx hb d_SR_root_36 rfl ?_
          refine sr_eqL (z := b / 2) (lI_shr (a := b) (by unfold bL; omega) 1 (by decide)) ?_
          refine lv_lstore (lv' := [(4, .long (lI (b / 2))), (6, .long (lI (f + b))), (0, .long (lI n)), (2, .long (lI f))]) hx hb d_SR_root_37 hl (by decide) rfl (fun ls hl => ?_)
          refine lv_goto (tgt := 7) hx hb d_SR_root_39 (by decide) ?_
          exact ih_7 f (b / 2) (by omega) (by omega) (by omega) (by first | exact rtI_no hI (by omega) (by omega) | exact rtI_yes hI (by omega)) (by first | exact hle | (exact c_26_le)) (by omega) _ _ _ hP hD hS (lv_sub hl [2, 3, 0] rfl)
        · -- F
          have c_26_le : (f + b) * (f + b) ≤ n := by omega
          refine lv_lload hx hb d_SR_root_30 (lv_at hl 0 rfl) ?_
          refine lv_lstore_n (lv' := [(2, .long (lI (f + b))), (6, .long (lI (f + b))), (0, .long (lI n)), (4, .long (lI b))]) hx hb d_SR_root_32 rfl hl (by decide) rfl (fun ls hl => ?_)
          refine lv_lload hx hb d_SR_root_33 (lv_at hl 3 rfl) ?_
          refine sr_iconst hx hb d_SR_root_35 ?_
          refine lv_lshr hx hb d_SR_root_36 rfl ?_
          refine sr_eqL (z := b / 2) (lI_shr (a := b) (by unfold bL; omega) 1 (by decide)) ?_
          refine lv_lstore (lv' := [(4, .long (lI (b / 2))), (2, .long (lI (f + b))), (6, .long (lI (f + b))), (0, .long (lI n))]) hx hb d_SR_root_37 hl (by decide) rfl (fun ls hl => ?_)
          refine lv_goto (tgt := 7) hx hb d_SR_root_39 (by decide) ?_
          exact ih_7 (f + b) (b / 2) (by omega) (by omega) (by omega) (by first | exact rtI_no hI (by omega) (by omega) | exact rtI_yes hI (by omega)) (by first | exact hle | (exact c_26_le)) (by omega) _ _ _ hP hD hS (lv_sub hl [3, 1, 0] rfl)
  exact lp_7 _ 0 8388608 (Nat.lt_succ_self _) (by omega) (by omega) (Or.inr ⟨⟨23, by decide⟩, by omega⟩) (by omega) (by omega) _ _ _ hP hD hS (lv_sub hl [2, 1, 0] rfl)

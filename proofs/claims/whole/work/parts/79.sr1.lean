set_option maxHeartbeats 4000000 in
set_option maxRecDepth 100000 in
theorem c_SR_forget (l : Launch) (D : va_G) (cI cJ cZ : ClassId) (sz : Nat) (hs : Nat) (hp : Nat) (hq : Nat) (hc : Nat) (hk0 : Nat) (hg0 : Nat) (hw0 : Nat) (pic : Nat) (kn : Int64) (c1 : Int) (c2 : Int) (c3 : Int) (c4 : Int) (wf : Int) (sd : Int) (so : Int) (sr : Int) (dd : Int) (on : Int) (rs : Int) (fx0 : Int) (fy0 : Int) (ax0 : Int) (ay0 : Int) (ox0 : Int) (oy0 : Int) (ln0 : Int)  : Met l y_SR_forget (.code y_SR_forget b_SR_forget 1 none :: allw) ({ frames := 1, cells := 0, slots := 0, locals := 20 } : Room) (va_Pc [.ref hs] (sr_U D classes [(cI, .int), (cJ, .long), (cZ, .boolean)] nestw [(hs, .inr (6, [.ref hp, .ref hq, .ref hc, .ref hk0, .ref hg0, .ref hw0, .ref pic, .long kn, .int (iI c1), .int (iI c2), .int (iI c3), .int (iI c4)])), (hk0, .inr (5, [.ref hp, .ref hq, .ref hc, .int (iI wf), .int (iI sd), .int (iI so), .int (iI sr), .int (iI dd), .int (iI on), .int (iI rs), .int (iI fx0), .int (iI fy0), .int (iI ax0), .int (iI ay0), .int (iI ox0), .int (iI oy0), .int (iI ln0)]))] sz)) (va_Qv (fun (_ : Unit) => True) (sr_B D classes (va_A [(hs, .inr (6, [.ref hp, .ref hq, .ref hc, .ref hk0, .ref hg0, .ref hw0, .ref pic, .long kn, .int (iI c1), .int (iI c2), .int (iI c3), .int (iI c4)])), (hk0, .inr (5, [.ref hp, .ref hq, .ref hc, .int (iI wf), .int (iI sd), .int (iI so), .int (iI sr), .int (iI dd), .int (iI on), .int (iI rs), .int (iI fx0), .int (iI fy0), .int (iI ax0), .int (iI ay0), .int (iI ox0), .int (iI oy0), .int (iI ln0)]))] sz) (fun (_ : Unit) => [(hs, .inr (6, [.ref hp, .ref hq, .ref hc, .ref hk0, .ref hg0, .ref hw0, .ref pic, .long (lI 0), .int (iI c1), .int (iI c2), .int (iI c3), .int (iI c4)])), (hk0, .inr (5, [.ref hp, .ref hq, .ref hc, .int (iI 0), .int (iI sd), .int (iI so), .int (iI sr), .int (iI dd), .int (iI on), .int (iI rs), .int (iI fx0), .int (iI fy0), .int (iI ax0), .int (iI ay0), .int (iI ox0), .int (iI oy0), .int (iI ln0)]))])) (va_A [(hs, .inr (6, [.ref hp, .ref hq, .ref hc, .ref hk0, .ref hg0, .ref hw0, .ref pic, .long kn, .int (iI c1), .int (iI c2), .int (iI c3), .int (iI c4)])), (hk0, .inr (5, [.ref hp, .ref hq, .ref hc, .int (iI wf), .int (iI sd), .int (iI so), .int (iI sr), .int (iI dd), .int (iI on), .int (iI rs), .int (iI fx0), .int (iI fy0), .int (iI ax0), .int (iI ay0), .int (iI ox0), .int (iI oy0), .int (iI ln0)]))] sz)) 0 0 (va_A [(hs, .inr (6, [.ref hp, .ref hq, .ref hc, .ref hk0, .ref hg0, .ref hw0, .ref pic, .long kn, .int (iI c1), .int (iI c2), .int (iI c3), .int (iI c4)])), (hk0, .inr (5, [.ref hp, .ref hq, .ref hc, .int (iI wf), .int (iI sd), .int (iI so), .int (iI sr), .int (iI dd), .int (iI on), .int (iI rs), .int (iI fx0), .int (iI fy0), .int (iI ax0), .int (iI ay0), .int (iI ox0), .int (iI oy0), .int (iI ln0)]))] sz) := by
  refine sr_enter (Qf := fun A => va_Qv (fun (_ : Unit) => True) (sr_B D classes A (fun (_ : Unit) => [(hs, .inr (6, [.ref hp, .ref hq, .ref hc, .ref hk0, .ref hg0, .ref hw0, .ref pic, .long (lI 0), .int (iI c1), .int (iI c2), .int (iI c3), .int (iI c4)])), (hk0, .inr (5, [.ref hp, .ref hq, .ref hc, .int (iI 0), .int (iI sd), .int (iI so), .int (iI sr), .int (iI dd), .int (iI on), .int (iI rs), .int (iI fx0), .int (iI fy0), .int (iI ax0), .int (iI ay0), .int (iI ox0), .int (iI oy0), .int (iI ln0)]))])) A) (by decide +kernel) rfl (Nat.le_of_ble_eq_true rfl) ?_
  intro p e s m below meth c A ls hx hb hr hml hown hlocks hin hts hsz hP hK hD hN hA hS hl
  have ht : ∀ w ∈ allw, w.before _ s = true := fun w h => hts w (List.mem_cons_of_mem _ h)
  have hsub : ∀ w ∈ allw, w ∈ _ := fun w h => List.mem_cons_of_mem (Cond.code y_SR_forget b_SR_forget 1 none) h
  have hl : lv_has ls 1 [(0, .ref hs)] := hl
  have hP : va_P D classes [(hs, .inr (6, [.ref hp, .ref hq, .ref hc, .ref hk0, .ref hg0, .ref hw0, .ref pic, .long kn, .int (iI c1), .int (iI c2), .int (iI c3), .int (iI c4)])), (hk0, .inr (5, [.ref hp, .ref hq, .ref hc, .int (iI wf), .int (iI sd), .int (iI so), .int (iI sr), .int (iI dd), .int (iI on), .int (iI rs), .int (iI fx0), .int (iI fy0), .int (iI ax0), .int (iI ay0), .int (iI ox0), .int (iI oy0), .int (iI ln0)]))] s.heap := hP
  refine lv_aload_n hx hb d_SR_forget_0 rfl (lv_at hl 0 rfl) ?_
  refine va_get hx hb ht i_SR hown hK hP 0 rfl rfl 3 (by decide) (ht _ k_f_SR_35) (fun _ h9 => h9) rfl d_SR_forget_1 ?_
  refine sr_cV_v (wr := [(hs, .inr (6, [.ref hp, .ref hq, .ref hc, .ref hk0, .ref hg0, .ref hw0, .ref pic, .long kn, .int (iI c1), .int (iI c2), .int (iI c3), .int (iI c4)]))]) (As := []) (rest := []) (b := hk0) (q0 := 1) hx hb hml hown hts (c_Walker_forget l D cI cJ cZ _ hk0 wf sd so sr dd on rs fx0 fy0 ax0 ay0 ox0 oy0 ln0 hp hq hc ) (sr_cwV hsub hts k_cd_Walker_forget k_in_Walker k_m_SR_206 k_im_Walker_forget k_se_Walker_forget g_Walker_forget ⟨Nat.le_of_ble_eq_true rfl, Nat.le_of_ble_eq_true rfl⟩) hns_ok hK hN hP hD hS hA [1] [0] rfl (by decide) rfl (by decide) (by decide) rfl rfl rfl hl.1 rfl (Nat.le_of_ble_eq_true rfl) d_SR_forget_4 ⟨Nat.le_of_ble_eq_true rfl, Nat.le_of_ble_eq_true rfl⟩ (fun u H locs hw_4 hP hD hS => ?_)
  have hP : va_P D classes [(hs, .inr (6, [.ref hp, .ref hq, .ref hc, .ref hk0, .ref hg0, .ref hw0, .ref pic, .long kn, .int (iI c1), .int (iI c2), .int (iI c3), .int (iI c4)])), (hk0, .inr (5, [.ref hp, .ref hq, .ref hc, .int (iI 0), .int (iI sd), .int (iI so), .int (iI sr), .int (iI dd), .int (iI on), .int (iI rs), .int (iI fx0), .int (iI fy0), .int (iI ax0), .int (iI ay0), .int (iI ox0), .int (iI oy0), .int (iI ln0)]))] H := hP
  have hD : va_D A [(hs, .inr (6, [.ref hp, .ref hq, .ref hc, .ref hk0, .ref hg0, .ref hw0, .ref pic, .long kn, .int (iI c1), .int (iI c2), .int (iI c3), .int (iI c4)])), (hk0, .inr (5, [.ref hp, .ref hq, .ref hc, .int (iI 0), .int (iI sd), .int (iI so), .int (iI sr), .int (iI dd), .int (iI on), .int (iI rs), .int (iI fx0), .int (iI fy0), .int (iI ax0), .int (iI ay0), .int (iI ox0), .int (iI oy0), .int (iI ln0)]))] := hD
  try dsimp only at hw_4
  refine lv_aload_n hx hb d_SR_forget_7 rfl (lv_at hl 0 rfl) ?_
  refine sr_lconst0 hx hb d_SR_forget_8 ?_
  refine va_put (ty := .long) hx hb ht i_SR t_SR t_SR_ok n_SR hown hK hP hD hS 0 rfl rfl 7 (by decide) (ht _ k_f_SR_190) (fun _ h9 => h9) rfl (t_SR_ok 7 (by decide)) rfl rfl (Nat.le_of_ble_eq_true rfl) d_SR_forget_9 (fun H locs hP hD hS => ?_)
  have hP : va_P D classes [(hs, .inr (6, [.ref hp, .ref hq, .ref hc, .ref hk0, .ref hg0, .ref hw0, .ref pic, .long (lI 0), .int (iI c1), .int (iI c2), .int (iI c3), .int (iI c4)])), (hk0, .inr (5, [.ref hp, .ref hq, .ref hc, .int (iI 0), .int (iI sd), .int (iI so), .int (iI sr), .int (iI dd), .int (iI on), .int (iI rs), .int (iI fx0), .int (iI fy0), .int (iI ax0), .int (iI ay0), .int (iI ox0), .int (iI oy0), .int (iI ln0)]))] H := hP
  have hD : va_D A [(hs, .inr (6, [.ref hp, .ref hq, .ref hc, .ref hk0, .ref hg0, .ref hw0, .ref pic, .long (lI 0), .int (iI c1), .int (iI c2), .int (iI c3), .int (iI c4)])), (hk0, .inr (5, [.ref hp, .ref hq, .ref hc, .int (iI 0), .int (iI sd), .int (iI so), .int (iI sr), .int (iI dd), .int (iI on), .int (iI rs), .int (iI fx0), .int (iI fy0), .int (iI ax0), .int (iI ay0), .int (iI ox0), .int (iI oy0), .int (iI ln0)]))] := hD
  exact sr_vret () hx hb hr hlocks hP hD hS d_SR_forget_12 (trivial)

set_option maxHeartbeats 4000000 in
set_option maxRecDepth 100000 in
theorem c_SR_move (l : Launch) (D : va_G) (cI cJ cZ : ClassId) (sz : Nat) (hs : Nat) (hp : Nat) (hq : Nat) (hc : Nat) (hk0 : Nat) (hg0 : Nat) (hw0 : Nat) (pic : Nat) (kn : Int64) (c1 : Int) (c2 : Int) (c3 : Int) (c4 : Int) (wf : Int) (sd : Int) (so : Int) (sr : Int) (dd : Int) (on : Int) (rs : Int) (fx0 : Int) (fy0 : Int) (ax0 : Int) (ay0 : Int) (ox0 : Int) (oy0 : Int) (ln0 : Int) (pxs : Nat) (pys : Nat) (np : Int) (pfs : Nat) (psh : Nat) (ns : Int) (no : Int) (cap : Nat) (px : Int → Int) (py : Int → Int) (fs : Int → Int) (sh : Int → Int) (x0 : Int) (y0 : Int) (hx0 : -8192 ≤ x0 ∧ x0 ≤ 8191) (hy0 : -8192 ≤ y0 ∧ y0 ≤ 8191) (h0 : 0 ≤ np) (h1 : np < 1024) (h2 : np ≤ cap) (hcq : capP cap) (h3 : 0 ≤ ns) (h4 : ns < 64) : Met l y_SR_move (.code y_SR_move b_SR_move 3 (some .int) :: allw) ({ frames := 4, cells := gF np cap - cap, slots := 4 * (gF np cap - cap), locals := 97 } : Room) (va_Pc [.ref hs, .int (iI x0), .int (iI y0)] (sr_U D classes [(cI, .int), (cJ, .long), (cZ, .boolean)] nestw [(hs, .inr (6, [.ref hp, .ref hq, .ref hc, .ref hk0, .ref hg0, .ref hw0, .ref pic, .long kn, .int (iI c1), .int (iI c2), .int (iI c3), .int (iI c4)])), (hk0, .inr (5, [.ref hp, .ref hq, .ref hc, .int (iI wf), .int (iI sd), .int (iI so), .int (iI sr), .int (iI dd), .int (iI on), .int (iI rs), .int (iI fx0), .int (iI fy0), .int (iI ax0), .int (iI ay0), .int (iI ox0), .int (iI oy0), .int (iI ln0)])), (hp, .inr (2, [.ref pxs, .ref pys, .int (iI np), .ref pfs, .ref psh, .int (iI ns), .int (iI no)])), (pxs, .inl (cI, cap, .inl (zI px))), (pys, .inl (cI, cap, .inl (zI py))), (pfs, .inl (cI, 64, .inl (zI fs))), (psh, .inl (cZ, 64, .inl (zI sh)))] sz)) (va_Qi (fun (r : Int32) => fun (u : Nat × Nat × (Int → Int) × (Int → Int)) => r = iI (ns + 1) ∧ (∀ j, 0 ≤ j → j < np → u.2.2.1 j = px j) ∧ u.2.2.1 np = x0 ∧ (∀ j, 0 ≤ j → j < np → u.2.2.2 j = py j) ∧ u.2.2.2 np = y0) (sr_B D classes (va_A [(hs, .inr (6, [.ref hp, .ref hq, .ref hc, .ref hk0, .ref hg0, .ref hw0, .ref pic, .long kn, .int (iI c1), .int (iI c2), .int (iI c3), .int (iI c4)])), (hk0, .inr (5, [.ref hp, .ref hq, .ref hc, .int (iI wf), .int (iI sd), .int (iI so), .int (iI sr), .int (iI dd), .int (iI on), .int (iI rs), .int (iI fx0), .int (iI fy0), .int (iI ax0), .int (iI ay0), .int (iI ox0), .int (iI oy0), .int (iI ln0)])), (hp, .inr (2, [.ref pxs, .ref pys, .int (iI np), .ref pfs, .ref psh, .int (iI ns), .int (iI no)])), (pxs, .inl (cI, cap, .inl (zI px))), (pys, .inl (cI, cap, .inl (zI py))), (pfs, .inl (cI, 64, .inl (zI fs))), (psh, .inl (cZ, 64, .inl (zI sh)))] sz) (fun (u : Nat × Nat × (Int → Int) × (Int → Int)) => [(hs, .inr (6, [.ref hp, .ref hq, .ref hc, .ref hk0, .ref hg0, .ref hw0, .ref pic, .long (lI 0), .int (iI c1), .int (iI c2), .int (iI c3), .int (iI c4)])), (hk0, .inr (5, [.ref hp, .ref hq, .ref hc, .int (iI 0), .int (iI sd), .int (iI so), .int (iI sr), .int (iI dd), .int (iI on), .int (iI rs), .int (iI fx0), .int (iI fy0), .int (iI ax0), .int (iI ay0), .int (iI ox0), .int (iI oy0), .int (iI ln0)])), (hp, .inr (2, [.ref u.1, .ref u.2.1, .int (iI (np + 1)), .ref pfs, .ref psh, .int (iI (ns + 1)), .int (iI no)])), (u.1, .inl (cI, gF np cap, .inl (zI u.2.2.1))), (u.2.1, .inl (cI, gF np cap, .inl (zI u.2.2.2))), (pfs, .inl (cI, 64, .inl (zI (zup fs ns np)))), (psh, .inl (cZ, 64, .inl (zI (zup sh ns 0))))])) (va_A [(hs, .inr (6, [.ref hp, .ref hq, .ref hc, .ref hk0, .ref hg0, .ref hw0, .ref pic, .long kn, .int (iI c1), .int (iI c2), .int (iI c3), .int (iI c4)])), (hk0, .inr (5, [.ref hp, .ref hq, .ref hc, .int (iI wf), .int (iI sd), .int (iI so), .int (iI sr), .int (iI dd), .int (iI on), .int (iI rs), .int (iI fx0), .int (iI fy0), .int (iI ax0), .int (iI ay0), .int (iI ox0), .int (iI oy0), .int (iI ln0)])), (hp, .inr (2, [.ref pxs, .ref pys, .int (iI np), .ref pfs, .ref psh, .int (iI ns), .int (iI no)])), (pxs, .inl (cI, cap, .inl (zI px))), (pys, .inl (cI, cap, .inl (zI py))), (pfs, .inl (cI, 64, .inl (zI fs))), (psh, .inl (cZ, 64, .inl (zI sh)))] sz)) (gF np cap - cap) (4 * (gF np cap - cap)) (va_A [(hs, .inr (6, [.ref hp, .ref hq, .ref hc, .ref hk0, .ref hg0, .ref hw0, .ref pic, .long kn, .int (iI c1), .int (iI c2), .int (iI c3), .int (iI c4)])), (hk0, .inr (5, [.ref hp, .ref hq, .ref hc, .int (iI wf), .int (iI sd), .int (iI so), .int (iI sr), .int (iI dd), .int (iI on), .int (iI rs), .int (iI fx0), .int (iI fy0), .int (iI ax0), .int (iI ay0), .int (iI ox0), .int (iI oy0), .int (iI ln0)])), (hp, .inr (2, [.ref pxs, .ref pys, .int (iI np), .ref pfs, .ref psh, .int (iI ns), .int (iI no)])), (pxs, .inl (cI, cap, .inl (zI px))), (pys, .inl (cI, cap, .inl (zI py))), (pfs, .inl (cI, 64, .inl (zI fs))), (psh, .inl (cZ, 64, .inl (zI sh)))] sz) := by
  refine sr_enter (Qf := fun A => va_Qi (fun (r : Int32) => fun (u : Nat × Nat × (Int → Int) × (Int → Int)) => r = iI (ns + 1) ∧ (∀ j, 0 ≤ j → j < np → u.2.2.1 j = px j) ∧ u.2.2.1 np = x0 ∧ (∀ j, 0 ≤ j → j < np → u.2.2.2 j = py j) ∧ u.2.2.2 np = y0) (sr_B D classes A (fun (u : Nat × Nat × (Int → Int) × (Int → Int)) => [(hs, .inr (6, [.ref hp, .ref hq, .ref hc, .ref hk0, .ref hg0, .ref hw0, .ref pic, .long (lI 0), .int (iI c1), .int (iI c2), .int (iI c3), .int (iI c4)])), (hk0, .inr (5, [.ref hp, .ref hq, .ref hc, .int (iI 0), .int (iI sd), .int (iI so), .int (iI sr), .int (iI dd), .int (iI on), .int (iI rs), .int (iI fx0), .int (iI fy0), .int (iI ax0), .int (iI ay0), .int (iI ox0), .int (iI oy0), .int (iI ln0)])), (hp, .inr (2, [.ref u.1, .ref u.2.1, .int (iI (np + 1)), .ref pfs, .ref psh, .int (iI (ns + 1)), .int (iI no)])), (u.1, .inl (cI, gF np cap, .inl (zI u.2.2.1))), (u.2.1, .inl (cI, gF np cap, .inl (zI u.2.2.2))), (pfs, .inl (cI, 64, .inl (zI (zup fs ns np)))), (psh, .inl (cZ, 64, .inl (zI (zup sh ns 0))))])) A) (by decide +kernel) rfl (Nat.le_of_ble_eq_true rfl) ?_
  intro p e s m below meth c A ls hx hb hr hml hown hlocks hin hts hsz hP hK hD hN hA hS hl
  have ht : ∀ w ∈ allw, w.before _ s = true := fun w h => hts w (List.mem_cons_of_mem _ h)
  have hsub : ∀ w ∈ allw, w ∈ _ := fun w h => List.mem_cons_of_mem (Cond.code y_SR_move b_SR_move 3 (some .int)) h
  have hl : lv_has ls 3 [(0, .ref hs), (1, .int (iI x0)), (2, .int (iI y0))] := hl
  have hP : va_P D classes [(hs, .inr (6, [.ref hp, .ref hq, .ref hc, .ref hk0, .ref hg0, .ref hw0, .ref pic, .long kn, .int (iI c1), .int (iI c2), .int (iI c3), .int (iI c4)])), (hk0, .inr (5, [.ref hp, .ref hq, .ref hc, .int (iI wf), .int (iI sd), .int (iI so), .int (iI sr), .int (iI dd), .int (iI on), .int (iI rs), .int (iI fx0), .int (iI fy0), .int (iI ax0), .int (iI ay0), .int (iI ox0), .int (iI oy0), .int (iI ln0)])), (hp, .inr (2, [.ref pxs, .ref pys, .int (iI np), .ref pfs, .ref psh, .int (iI ns), .int (iI no)])), (pxs, .inl (cI, cap, .inl (zI px))), (pys, .inl (cI, cap, .inl (zI py))), (pfs, .inl (cI, 64, .inl (zI fs))), (psh, .inl (cZ, 64, .inl (zI sh)))] s.heap := hP
  refine lv_iload_n hx hb d_SR_move_0 rfl (lv_at hl 1 rfl) ?_
  refine sr_cS_i (wr := [(hs, .inr (6, [.ref hp, .ref hq, .ref hc, .ref hk0, .ref hg0, .ref hw0, .ref pic, .long kn, .int (iI c1), .int (iI c2), .int (iI c3), .int (iI c4)])), (hk0, .inr (5, [.ref hp, .ref hq, .ref hc, .int (iI wf), .int (iI sd), .int (iI so), .int (iI sr), .int (iI dd), .int (iI on), .int (iI rs), .int (iI fx0), .int (iI fy0), .int (iI ax0), .int (iI ay0), .int (iI ox0), .int (iI oy0), .int (iI ln0)])), (hp, .inr (2, [.ref pxs, .ref pys, .int (iI np), .ref pfs, .ref psh, .int (iI ns), .int (iI no)])), (pxs, .inl (cI, cap, .inl (zI px))), (pys, .inl (cI, cap, .inl (zI py))), (pfs, .inl (cI, 64, .inl (zI fs))), (psh, .inl (cZ, 64, .inl (zI sh)))]) (As := [.int (iI x0)]) (rest := []) hx hb hml hown hts (c_SR_isCoordinate l D cI cJ cZ _ x0 (by omega)) (sr_cwS hsub hts k_cd_SR_isCoordinate k_in_SR k_m_SR_59 k_st_SR_isCoordinate g_SR_isCoordinate ⟨Nat.le_of_ble_eq_true rfl, Nat.le_of_ble_eq_true rfl⟩) hns_ok hK hN hP hD hS hA [] [0, 1, 2, 3, 4, 5, 6] rfl (by decide) rfl (by decide) (by decide) rfl hl.1 rfl (Nat.le_of_ble_eq_true rfl) d_SR_move_1 ⟨by show _ ≤ gF np cap - cap; omega, by show _ ≤ 4 * (gF np cap - cap); omega⟩ (fun r_1 u H locs hw_1 hP hD hS => ?_)
  have hP : va_P D classes [(hs, .inr (6, [.ref hp, .ref hq, .ref hc, .ref hk0, .ref hg0, .ref hw0, .ref pic, .long kn, .int (iI c1), .int (iI c2), .int (iI c3), .int (iI c4)])), (hk0, .inr (5, [.ref hp, .ref hq, .ref hc, .int (iI wf), .int (iI sd), .int (iI so), .int (iI sr), .int (iI dd), .int (iI on), .int (iI rs), .int (iI fx0), .int (iI fy0), .int (iI ax0), .int (iI ay0), .int (iI ox0), .int (iI oy0), .int (iI ln0)])), (hp, .inr (2, [.ref pxs, .ref pys, .int (iI np), .ref pfs, .ref psh, .int (iI ns), .int (iI no)])), (pxs, .inl (cI, cap, .inl (zI px))), (pys, .inl (cI, cap, .inl (zI py))), (pfs, .inl (cI, 64, .inl (zI fs))), (psh, .inl (cZ, 64, .inl (zI sh)))] H := hP
  have hD : va_D A [(hs, .inr (6, [.ref hp, .ref hq, .ref hc, .ref hk0, .ref hg0, .ref hw0, .ref pic, .long kn, .int (iI c1), .int (iI c2), .int (iI c3), .int (iI c4)])), (hk0, .inr (5, [.ref hp, .ref hq, .ref hc, .int (iI wf), .int (iI sd), .int (iI so), .int (iI sr), .int (iI dd), .int (iI on), .int (iI rs), .int (iI fx0), .int (iI fy0), .int (iI ax0), .int (iI ay0), .int (iI ox0), .int (iI oy0), .int (iI ln0)])), (hp, .inr (2, [.ref pxs, .ref pys, .int (iI np), .ref pfs, .ref psh, .int (iI ns), .int (iI no)])), (pxs, .inl (cI, cap, .inl (zI px))), (pys, .inl (cI, cap, .inl (zI py))), (pfs, .inl (cI, 64, .inl (zI fs))), (psh, .inl (cZ, 64, .inl (zI sh)))] := hD
  try dsimp only at hw_1
  obtain ⟨z_1, rfl, hw_1⟩ := hw_1
  refine sr_if_eq (tgt := 14) hx hb d_SR_move_4 (by decide) (sr_bB hw_1) (fun c_4 => ?_) (fun c_4 => ?_)
  · -- T
    have c_4 := sr_bf hw_1 c_4
    exact absurd hx0 c_4
  · -- F
    have c_4 := sr_bt hw_1 c_4
    refine lv_iload_n hx hb d_SR_move_7 rfl (lv_at hl 2 rfl) ?_
    refine sr_cS_i (wr := [(hs, .inr (6, [.ref hp, .ref hq, .ref hc, .ref hk0, .ref hg0, .ref hw0, .ref pic, .long kn, .int (iI c1), .int (iI c2), .int (iI c3), .int (iI c4)])), (hk0, .inr (5, [.ref hp, .ref hq, .ref hc, .int (iI wf), .int (iI sd), .int (iI so), .int (iI sr), .int (iI dd), .int (iI on), .int (iI rs), .int (iI fx0), .int (iI fy0), .int (iI ax0), .int (iI ay0), .int (iI ox0), .int (iI oy0), .int (iI ln0)])), (hp, .inr (2, [.ref pxs, .ref pys, .int (iI np), .ref pfs, .ref psh, .int (iI ns), .int (iI no)])), (pxs, .inl (cI, cap, .inl (zI px))), (pys, .inl (cI, cap, .inl (zI py))), (pfs, .inl (cI, 64, .inl (zI fs))), (psh, .inl (cZ, 64, .inl (zI sh)))]) (As := [.int (iI y0)]) (rest := []) hx hb hml hown hts (c_SR_isCoordinate l D cI cJ cZ _ y0 (by omega)) (sr_cwS hsub hts k_cd_SR_isCoordinate k_in_SR k_m_SR_59 k_st_SR_isCoordinate g_SR_isCoordinate ⟨Nat.le_of_ble_eq_true rfl, Nat.le_of_ble_eq_true rfl⟩) hns_ok hK hN hP hD hS hA [] [0, 1, 2, 3, 4, 5, 6] rfl (by decide) rfl (by decide) (by decide) rfl hl.1 rfl (Nat.le_of_ble_eq_true rfl) d_SR_move_8 ⟨by show _ ≤ gF np cap - cap; omega, by show _ ≤ 4 * (gF np cap - cap); omega⟩ (fun r_8 u H locs hw_8 hP hD hS => ?_)
    have hP : va_P D classes [(hs, .inr (6, [.ref hp, .ref hq, .ref hc, .ref hk0, .ref hg0, .ref hw0, .ref pic, .long kn, .int (iI c1), .int (iI c2), .int (iI c3), .int (iI c4)])), (hk0, .inr (5, [.ref hp, .ref hq, .ref hc, .int (iI wf), .int (iI sd), .int (iI so), .int (iI sr), .int (iI dd), .int (iI on), .int (iI rs), .int (iI fx0), .int (iI fy0), .int (iI ax0), .int (iI ay0), .int (iI ox0), .int (iI oy0), .int (iI ln0)])), (hp, .inr (2, [.ref pxs, .ref pys, .int (iI np), .ref pfs, .ref psh, .int (iI ns), .int (iI no)])), (pxs, .inl (cI, cap, .inl (zI px))), (pys, .inl (cI, cap, .inl (zI py))), (pfs, .inl (cI, 64, .inl (zI fs))), (psh, .inl (cZ, 64, .inl (zI sh)))] H := hP
    have hD : va_D A [(hs, .inr (6, [.ref hp, .ref hq, .ref hc, .ref hk0, .ref hg0, .ref hw0, .ref pic, .long kn, .int (iI c1), .int (iI c2), .int (iI c3), .int (iI c4)])), (hk0, .inr (5, [.ref hp, .ref hq, .ref hc, .int (iI wf), .int (iI sd), .int (iI so), .int (iI sr), .int (iI dd), .int (iI on), .int (iI rs), .int (iI fx0), .int (iI fy0), .int (iI ax0), .int (iI ay0), .int (iI ox0), .int (iI oy0), .int (iI ln0)])), (hp, .inr (2, [.ref pxs, .ref pys, .int (iI np), .ref pfs, .ref psh, .int (iI ns), .int (iI no)])), (pxs, .inl (cI, cap, .inl (zI px))), (pys, .inl (cI, cap, .inl (zI py))), (pfs, .inl (cI, 64, .inl (zI fs))), (psh, .inl (cZ, 64, .inl (zI sh)))] := hD
    try dsimp only at hw_8
    obtain ⟨z_8, rfl, hw_8⟩ := hw_8
    refine sr_if_ne (tgt := 24) hx hb d_SR_move_11 (by decide) (sr_bB hw_8) (fun c_11 => ?_) (fun c_11 => ?_)
    · -- T
      have c_11 := sr_bt hw_8 c_11
      refine lv_aload_n hx hb d_SR_move_24 rfl (lv_at hl 0 rfl) ?_
      refine va_get hx hb ht i_SR hown hK hP 0 rfl rfl 0 (by decide) (ht _ k_f_SR_10) (fun _ h9 => h9) rfl d_SR_move_25 ?_
      refine va_get hx hb ht i_Path hown hK hP 2 rfl rfl 5 (by decide) (ht _ k_f_SR_70) (fun _ h9 => h9) rfl d_SR_move_28 ?_
      refine sr_bipush hx hb d_SR_move_31 (by decide) ?_
      refine sr_icmp_ge (tgt := 49) hx hb d_SR_move_33 (by decide) (by unfold bI; omega) (by unfold bI; decide) (fun c_33 => ?_) (fun c_33 => ?_)
      · -- T
        exact absurd c_33 (by omega)
      · -- F
        refine lv_aload_n hx hb d_SR_move_36 rfl (lv_at hl 0 rfl) ?_
        refine va_get hx hb ht i_SR hown hK hP 0 rfl rfl 0 (by decide) (ht _ k_f_SR_10) (fun _ h9 => h9) rfl d_SR_move_37 ?_
        refine va_get hx hb ht i_Path hown hK hP 2 rfl rfl 2 (by decide) (ht _ k_f_SR_74) (fun _ h9 => h9) rfl d_SR_move_40 ?_
        refine sr_sipush hx hb d_SR_move_43 (by decide) ?_
        refine sr_icmp_lt (tgt := 59) hx hb d_SR_move_46 (by decide) (by unfold bI; omega) (by unfold bI; decide) (fun c_46 => ?_) (fun c_46 => ?_)
        · -- T
          refine lv_aload_n hx hb d_SR_move_59 rfl (lv_at hl 0 rfl) ?_
          refine va_get hx hb ht i_SR hown hK hP 0 rfl rfl 0 (by decide) (ht _ k_f_SR_10) (fun _ h9 => h9) rfl d_SR_move_60 ?_
          refine lv_iload_n hx hb d_SR_move_63 rfl (lv_at hl 1 rfl) ?_
          refine lv_iload_n hx hb d_SR_move_64 rfl (lv_at hl 2 rfl) ?_
          refine sr_cV_v (wr := [(hs, .inr (6, [.ref hp, .ref hq, .ref hc, .ref hk0, .ref hg0, .ref hw0, .ref pic, .long kn, .int (iI c1), .int (iI c2), .int (iI c3), .int (iI c4)])), (hk0, .inr (5, [.ref hp, .ref hq, .ref hc, .int (iI wf), .int (iI sd), .int (iI so), .int (iI sr), .int (iI dd), .int (iI on), .int (iI rs), .int (iI fx0), .int (iI fy0), .int (iI ax0), .int (iI ay0), .int (iI ox0), .int (iI oy0), .int (iI ln0)]))]) (As := [.int (iI x0), .int (iI y0)]) (rest := []) (b := hp) (q0 := 2) hx hb hml hown hts (c_Path_begin l D cI cJ cZ _ hp pxs pys np pfs psh ns no cap px py fs sh x0 y0 (by omega) (by omega) (by omega) (hcq) (by omega) (by omega)) (sr_cwV hsub hts k_cd_Path_begin k_in_Path k_m_SR_82 k_im_Path_begin k_se_Path_begin g_Path_begin ⟨Nat.le_of_ble_eq_true rfl, Nat.le_of_ble_eq_true rfl⟩) hns_ok hK hN hP hD hS hA [2, 3, 4, 5, 6] [0, 1] rfl (by decide) rfl (by decide) (by decide) rfl rfl rfl hl.1 rfl (Nat.le_of_ble_eq_true rfl) d_SR_move_65 ⟨by show 0 + (gF np cap - cap) ≤ gF np cap - cap; omega, by show 0 + 4 * (gF np cap - cap) ≤ 4 * (gF np cap - cap); omega⟩ (fun u H locs hw_65 hP hD hS => ?_)
          obtain ⟨qx_65, qy_65, gx_65, gy_65⟩ := u
          have hP : va_P D classes [(hs, .inr (6, [.ref hp, .ref hq, .ref hc, .ref hk0, .ref hg0, .ref hw0, .ref pic, .long kn, .int (iI c1), .int (iI c2), .int (iI c3), .int (iI c4)])), (hk0, .inr (5, [.ref hp, .ref hq, .ref hc, .int (iI wf), .int (iI sd), .int (iI so), .int (iI sr), .int (iI dd), .int (iI on), .int (iI rs), .int (iI fx0), .int (iI fy0), .int (iI ax0), .int (iI ay0), .int (iI ox0), .int (iI oy0), .int (iI ln0)])), (hp, .inr (2, [.ref qx_65, .ref qy_65, .int (iI (np + 1)), .ref pfs, .ref psh, .int (iI (ns + 1)), .int (iI no)])), (qx_65, .inl (cI, gF np cap, .inl (zI gx_65))), (qy_65, .inl (cI, gF np cap, .inl (zI gy_65))), (pfs, .inl (cI, 64, .inl (zI (zup fs ns np)))), (psh, .inl (cZ, 64, .inl (zI (zup sh ns 0))))] H := hP
          have hD : va_D A [(hs, .inr (6, [.ref hp, .ref hq, .ref hc, .ref hk0, .ref hg0, .ref hw0, .ref pic, .long kn, .int (iI c1), .int (iI c2), .int (iI c3), .int (iI c4)])), (hk0, .inr (5, [.ref hp, .ref hq, .ref hc, .int (iI wf), .int (iI sd), .int (iI so), .int (iI sr), .int (iI dd), .int (iI on), .int (iI rs), .int (iI fx0), .int (iI fy0), .int (iI ax0), .int (iI ay0), .int (iI ox0), .int (iI oy0), .int (iI ln0)])), (hp, .inr (2, [.ref qx_65, .ref qy_65, .int (iI (np + 1)), .ref pfs, .ref psh, .int (iI (ns + 1)), .int (iI no)])), (qx_65, .inl (cI, gF np cap, .inl (zI gx_65))), (qy_65, .inl (cI, gF np cap, .inl (zI gy_65))), (pfs, .inl (cI, 64, .inl (zI (zup fs ns np)))), (psh, .inl (cZ, 64, .inl (zI (zup sh ns 0))))] := hD
          try dsimp only at hw_65
          refine W.widen (k := gF np cap - cap) (n := 4 * (gF np cap - cap)) (by omega) (by omega) ?_
          refine lv_aload_n hx hb d_SR_move_68 rfl (lv_at hl 0 rfl) ?_
          refine sr_cV_v (wr := [(hp, .inr (2, [.ref qx_65, .ref qy_65, .int (iI (np + 1)), .ref pfs, .ref psh, .int (iI (ns + 1)), .int (iI no)])), (qx_65, .inl (cI, gF np cap, .inl (zI gx_65))), (qy_65, .inl (cI, gF np cap, .inl (zI gy_65))), (pfs, .inl (cI, 64, .inl (zI (zup fs ns np)))), (psh, .inl (cZ, 64, .inl (zI (zup sh ns 0))))]) (As := []) (rest := []) (b := hs) (q0 := 0) hx hb hml hown hts (c_SR_forget l D cI cJ cZ _ hs hp hq hc hk0 hg0 hw0 pic kn c1 c2 c3 c4 wf sd so sr dd on rs fx0 fy0 ax0 ay0 ox0 oy0 ln0 ) (sr_cwV hsub hts k_cd_SR_forget k_in_SR k_m_SR_86 k_im_SR_forget k_se_SR_forget g_SR_forget ⟨Nat.le_of_ble_eq_true rfl, Nat.le_of_ble_eq_true rfl⟩) hns_ok hK hN hP hD hS hA [0, 1] [2, 3, 4, 5, 6] rfl (by decide) rfl (by decide) (by decide) rfl rfl rfl hl.1 rfl (Nat.le_of_ble_eq_true rfl) d_SR_move_69 ⟨by show _ ≤ gF np cap - cap; omega, by show _ ≤ 4 * (gF np cap - cap); omega⟩ (fun u H locs hw_69 hP hD hS => ?_)
          have hP : va_P D classes [(hp, .inr (2, [.ref qx_65, .ref qy_65, .int (iI (np + 1)), .ref pfs, .ref psh, .int (iI (ns + 1)), .int (iI no)])), (qx_65, .inl (cI, gF np cap, .inl (zI gx_65))), (qy_65, .inl (cI, gF np cap, .inl (zI gy_65))), (pfs, .inl (cI, 64, .inl (zI (zup fs ns np)))), (psh, .inl (cZ, 64, .inl (zI (zup sh ns 0)))), (hs, .inr (6, [.ref hp, .ref hq, .ref hc, .ref hk0, .ref hg0, .ref hw0, .ref pic, .long (lI 0), .int (iI c1), .int (iI c2), .int (iI c3), .int (iI c4)])), (hk0, .inr (5, [.ref hp, .ref hq, .ref hc, .int (iI 0), .int (iI sd), .int (iI so), .int (iI sr), .int (iI dd), .int (iI on), .int (iI rs), .int (iI fx0), .int (iI fy0), .int (iI ax0), .int (iI ay0), .int (iI ox0), .int (iI oy0), .int (iI ln0)]))] H := hP
          have hD : va_D A [(hp, .inr (2, [.ref qx_65, .ref qy_65, .int (iI (np + 1)), .ref pfs, .ref psh, .int (iI (ns + 1)), .int (iI no)])), (qx_65, .inl (cI, gF np cap, .inl (zI gx_65))), (qy_65, .inl (cI, gF np cap, .inl (zI gy_65))), (pfs, .inl (cI, 64, .inl (zI (zup fs ns np)))), (psh, .inl (cZ, 64, .inl (zI (zup sh ns 0)))), (hs, .inr (6, [.ref hp, .ref hq, .ref hc, .ref hk0, .ref hg0, .ref hw0, .ref pic, .long (lI 0), .int (iI c1), .int (iI c2), .int (iI c3), .int (iI c4)])), (hk0, .inr (5, [.ref hp, .ref hq, .ref hc, .int (iI 0), .int (iI sd), .int (iI so), .int (iI sr), .int (iI dd), .int (iI on), .int (iI rs), .int (iI fx0), .int (iI fy0), .int (iI ax0), .int (iI ay0), .int (iI ox0), .int (iI oy0), .int (iI ln0)]))] := hD
          try dsimp only at hw_69
          refine lv_aload_n hx hb d_SR_move_72 rfl (lv_at hl 0 rfl) ?_
          refine va_get hx hb ht i_SR hown hK hP 5 rfl rfl 0 (by decide) (ht _ k_f_SR_10) (fun _ h9 => h9) rfl d_SR_move_73 ?_
          refine va_get hx hb ht i_Path hown hK hP 0 rfl rfl 5 (by decide) (ht _ k_f_SR_70) (fun _ h9 => h9) rfl d_SR_move_76 ?_
          exact sr_iret (qx_65, qy_65, gx_65, gy_65) hx hb hr hlocks (hP.sub [5, 6, 0, 1, 2, 3, 4] rfl) (hD.sub [5, 6, 0, 1, 2, 3, 4] (by decide) rfl) hS d_SR_move_79 (⟨rfl, hw_65⟩)
        · -- F
          exact absurd c_46 (by omega)
    · -- F
      have c_11 := sr_bf hw_8 c_11
      exact absurd hy0 c_11

set_option maxHeartbeats 4000000 in
set_option maxRecDepth 100000 in
theorem c_SR_move_IAE (l : Launch) (htr : ∀ e : Env, l.admits e → e.platform.stackTraces = false) (D : va_G) (cI cJ cZ : ClassId) (sz : Nat) (hs : Nat) (x0 : Int) (y0 : Int) (hxb : -2147483648 ≤ x0 ∧ x0 ≤ 2147483647) (hyb : -2147483648 ≤ y0 ∧ y0 ≤ 2147483647) (hbad : ¬ ((-8192 ≤ x0 ∧ x0 ≤ 8191) ∧ (-8192 ≤ y0 ∧ y0 ≤ 8191))) : sr_MetT l y_SR_move (Cond.code y_SR_move b_SR_move 3 (some .int) :: allw) ({ frames := 6, cells := 1, slots := 6, locals := 82 } : Room) (va_Pc [.ref hs, .int (iI x0), .int (iI y0)] (sr_V D classes [(cI, .int), (cJ, .long), (cZ, .boolean)] nestw sr_strs [] sz)) (sr_T sr_IAE D classes (va_A [] sz) []) 1 6 (va_A [] sz) := by
  refine sr_enterT (QT := fun A => sr_T sr_IAE D classes A []) (by decide +kernel) rfl (Nat.le_of_ble_eq_true rfl) ?_
  intro p e s m below meth c A ls hx hb hr hml hown hlocks hin hts hsz hP hK hD hN hA hS hl hout hZ hRs
  have ht : ∀ w ∈ allw, w.before _ s = true := fun w h => hts w (List.mem_cons_of_mem _ h)
  have hsub : ∀ w ∈ allw, w ∈ _ := fun w h => List.mem_cons_of_mem (Cond.code y_SR_move b_SR_move 3 (some .int)) h
  have hl : lv_has ls 3 [(0, .ref hs), (1, .int (iI x0)), (2, .int (iI y0))] := hl
  have hP : va_P D classes [] s.heap := hP
  refine lv_iload_n hx hb d_SR_move_0 rfl (lv_at hl 1 rfl) ?_
  refine sr_cS_i (wr := []) (As := [.int (iI x0)]) (rest := []) hx hb hml hown hts (c_SR_isCoordinate l D cI cJ cZ _ x0 (by omega)) (sr_cwS hsub hts k_cd_SR_isCoordinate k_in_SR k_m_SR_59 k_st_SR_isCoordinate g_SR_isCoordinate ⟨Nat.le_of_ble_eq_true rfl, Nat.le_of_ble_eq_true rfl⟩) hns_ok hK hN hP hD hS hA [] [] rfl (by decide) rfl (by decide) (by decide) rfl hl.1 rfl (Nat.le_of_ble_eq_true rfl) d_SR_move_1 ⟨Nat.le_of_ble_eq_true rfl, Nat.le_of_ble_eq_true rfl⟩ (fun r_1 u H locs hw_1 hP hD hS => ?_)
  have hP : va_P D classes [] H := hP
  have hD : va_D A [] := hD
  try dsimp only at hw_1
  obtain ⟨z_1, rfl, hw_1⟩ := hw_1
  refine sr_if_eq (tgt := 14) hx hb d_SR_move_4 (by decide) (sr_bB hw_1) (fun c_4 => ?_) (fun c_4 => ?_)
  · -- T
    have c_4 := sr_bf hw_1 c_4
    obtain ⟨q_, hq_⟩ := hRs (65, "a coordinate is out of bounds") (by decide)
    exact sr_throw (own := "StrokeRaster") (X0 := sr_IAE) (tx := "a coordinate is out of bounds") (ks := 65) hx hb (hml.trans hl.1.symm) hout hlocks htr hown (by decide +kernel) ht thw_IAE hZ hq_ hP hD hS (Nat.le_of_ble_eq_true rfl) (Nat.le_of_ble_eq_true rfl) rfl rfl (Nat.le_of_ble_eq_true rfl) (Nat.le_of_ble_eq_true rfl) d_SR_move_14 d_SR_move_17 d_SR_move_18 d_SR_move_20 d_SR_move_23
  · -- F
    have c_4 := sr_bt hw_1 c_4
    refine lv_iload_n hx hb d_SR_move_7 rfl (lv_at hl 2 rfl) ?_
    refine sr_cS_i (wr := []) (As := [.int (iI y0)]) (rest := []) hx hb hml hown hts (c_SR_isCoordinate l D cI cJ cZ _ y0 (by omega)) (sr_cwS hsub hts k_cd_SR_isCoordinate k_in_SR k_m_SR_59 k_st_SR_isCoordinate g_SR_isCoordinate ⟨Nat.le_of_ble_eq_true rfl, Nat.le_of_ble_eq_true rfl⟩) hns_ok hK hN hP hD hS hA [] [] rfl (by decide) rfl (by decide) (by decide) rfl hl.1 rfl (Nat.le_of_ble_eq_true rfl) d_SR_move_8 ⟨Nat.le_of_ble_eq_true rfl, Nat.le_of_ble_eq_true rfl⟩ (fun r_8 u H locs hw_8 hP hD hS => ?_)
    have hP : va_P D classes [] H := hP
    have hD : va_D A [] := hD
    try dsimp only at hw_8
    obtain ⟨z_8, rfl, hw_8⟩ := hw_8
    refine sr_if_ne (tgt := 24) hx hb d_SR_move_11 (by decide) (sr_bB hw_8) (fun c_11 => ?_) (fun c_11 => ?_)
    · -- T
      have c_11 := sr_bt hw_8 c_11
      exact absurd ⟨c_4, c_11⟩ hbad
    · -- F
      have c_11 := sr_bf hw_8 c_11
      obtain ⟨q_, hq_⟩ := hRs (65, "a coordinate is out of bounds") (by decide)
      exact sr_throw (own := "StrokeRaster") (X0 := sr_IAE) (tx := "a coordinate is out of bounds") (ks := 65) hx hb (hml.trans hl.1.symm) hout hlocks htr hown (by decide +kernel) ht thw_IAE hZ hq_ hP hD hS (Nat.le_of_ble_eq_true rfl) (Nat.le_of_ble_eq_true rfl) rfl rfl (Nat.le_of_ble_eq_true rfl) (Nat.le_of_ble_eq_true rfl) d_SR_move_14 d_SR_move_17 d_SR_move_18 d_SR_move_20 d_SR_move_23

set_option maxHeartbeats 4000000 in
set_option maxRecDepth 100000 in
theorem c_SR_line_IAE (l : Launch) (htr : ∀ e : Env, l.admits e → e.platform.stackTraces = false) (D : va_G) (cI cJ cZ : ClassId) (sz : Nat) (hs : Nat) (x0 : Int) (y0 : Int) (hxb : -2147483648 ≤ x0 ∧ x0 ≤ 2147483647) (hyb : -2147483648 ≤ y0 ∧ y0 ≤ 2147483647) (hbad : ¬ ((-8192 ≤ x0 ∧ x0 ≤ 8191) ∧ (-8192 ≤ y0 ∧ y0 ≤ 8191))) : sr_MetT l y_SR_line (Cond.code y_SR_line b_SR_line 3 (some .int) :: allw) ({ frames := 6, cells := 1, slots := 6, locals := 82 } : Room) (va_Pc [.ref hs, .int (iI x0), .int (iI y0)] (sr_V D classes [(cI, .int), (cJ, .long), (cZ, .boolean)] nestw sr_strs [] sz)) (sr_T sr_IAE D classes (va_A [] sz) []) 1 6 (va_A [] sz) := by
  refine sr_enterT (QT := fun A => sr_T sr_IAE D classes A []) (by decide +kernel) rfl (Nat.le_of_ble_eq_true rfl) ?_
  intro p e s m below meth c A ls hx hb hr hml hown hlocks hin hts hsz hP hK hD hN hA hS hl hout hZ hRs
  have ht : ∀ w ∈ allw, w.before _ s = true := fun w h => hts w (List.mem_cons_of_mem _ h)
  have hsub : ∀ w ∈ allw, w ∈ _ := fun w h => List.mem_cons_of_mem (Cond.code y_SR_line b_SR_line 3 (some .int)) h
  have hl : lv_has ls 3 [(0, .ref hs), (1, .int (iI x0)), (2, .int (iI y0))] := hl
  have hP : va_P D classes [] s.heap := hP
  refine lv_iload_n hx hb d_SR_line_0 rfl (lv_at hl 1 rfl) ?_
  refine sr_cS_i (wr := []) (As := [.int (iI x0)]) (rest := []) hx hb hml hown hts (c_SR_isCoordinate l D cI cJ cZ _ x0 (by omega)) (sr_cwS hsub hts k_cd_SR_isCoordinate k_in_SR k_m_SR_59 k_st_SR_isCoordinate g_SR_isCoordinate ⟨Nat.le_of_ble_eq_true rfl, Nat.le_of_ble_eq_true rfl⟩) hns_ok hK hN hP hD hS hA [] [] rfl (by decide) rfl (by decide) (by decide) rfl hl.1 rfl (Nat.le_of_ble_eq_true rfl) d_SR_line_1 ⟨Nat.le_of_ble_eq_true rfl, Nat.le_of_ble_eq_true rfl⟩ (fun r_1 u H locs hw_1 hP hD hS => ?_)
  have hP : va_P D classes [] H := hP
  have hD : va_D A [] := hD
  try dsimp only at hw_1
  obtain ⟨z_1, rfl, hw_1⟩ := hw_1
  refine sr_if_eq (tgt := 14) hx hb d_SR_line_4 (by decide) (sr_bB hw_1) (fun c_4 => ?_) (fun c_4 => ?_)
  · -- T
    have c_4 := sr_bf hw_1 c_4
    obtain ⟨q_, hq_⟩ := hRs (65, "a coordinate is out of bounds") (by decide)
    exact sr_throw (own := "StrokeRaster") (X0 := sr_IAE) (tx := "a coordinate is out of bounds") (ks := 65) hx hb (hml.trans hl.1.symm) hout hlocks htr hown (by decide +kernel) ht thw_IAE hZ hq_ hP hD hS (Nat.le_of_ble_eq_true rfl) (Nat.le_of_ble_eq_true rfl) rfl rfl (Nat.le_of_ble_eq_true rfl) (Nat.le_of_ble_eq_true rfl) d_SR_line_14 d_SR_line_17 d_SR_line_18 d_SR_line_20 d_SR_line_23
  · -- F
    have c_4 := sr_bt hw_1 c_4
    refine lv_iload_n hx hb d_SR_line_7 rfl (lv_at hl 2 rfl) ?_
    refine sr_cS_i (wr := []) (As := [.int (iI y0)]) (rest := []) hx hb hml hown hts (c_SR_isCoordinate l D cI cJ cZ _ y0 (by omega)) (sr_cwS hsub hts k_cd_SR_isCoordinate k_in_SR k_m_SR_59 k_st_SR_isCoordinate g_SR_isCoordinate ⟨Nat.le_of_ble_eq_true rfl, Nat.le_of_ble_eq_true rfl⟩) hns_ok hK hN hP hD hS hA [] [] rfl (by decide) rfl (by decide) (by decide) rfl hl.1 rfl (Nat.le_of_ble_eq_true rfl) d_SR_line_8 ⟨Nat.le_of_ble_eq_true rfl, Nat.le_of_ble_eq_true rfl⟩ (fun r_8 u H locs hw_8 hP hD hS => ?_)
    have hP : va_P D classes [] H := hP
    have hD : va_D A [] := hD
    try dsimp only at hw_8
    obtain ⟨z_8, rfl, hw_8⟩ := hw_8
    refine sr_if_ne (tgt := 24) hx hb d_SR_line_11 (by decide) (sr_bB hw_8) (fun c_11 => ?_) (fun c_11 => ?_)
    · -- T
      have c_11 := sr_bt hw_8 c_11
      exact absurd ⟨c_4, c_11⟩ hbad
    · -- F
      have c_11 := sr_bf hw_8 c_11
      obtain ⟨q_, hq_⟩ := hRs (65, "a coordinate is out of bounds") (by decide)
      exact sr_throw (own := "StrokeRaster") (X0 := sr_IAE) (tx := "a coordinate is out of bounds") (ks := 65) hx hb (hml.trans hl.1.symm) hout hlocks htr hown (by decide +kernel) ht thw_IAE hZ hq_ hP hD hS (Nat.le_of_ble_eq_true rfl) (Nat.le_of_ble_eq_true rfl) rfl rfl (Nat.le_of_ble_eq_true rfl) (Nat.le_of_ble_eq_true rfl) d_SR_line_14 d_SR_line_17 d_SR_line_18 d_SR_line_20 d_SR_line_23

set_option maxHeartbeats 4000000 in
set_option maxRecDepth 100000 in
theorem c_SR_curve_IAE (l : Launch) (htr : ∀ e : Env, l.admits e → e.platform.stackTraces = false) (D : va_G) (cI cJ cZ : ClassId) (sz : Nat) (hs : Nat) (x0 : Int) (y0 : Int) (hxb : -2147483648 ≤ x0 ∧ x0 ≤ 2147483647) (hyb : -2147483648 ≤ y0 ∧ y0 ≤ 2147483647) (hbad : ¬ ((-8192 ≤ x0 ∧ x0 ≤ 8191) ∧ (-8192 ≤ y0 ∧ y0 ≤ 8191))) : sr_MetT l y_SR_curve (Cond.code y_SR_curve b_SR_curve 3 (some .int) :: allw) ({ frames := 6, cells := 1, slots := 6, locals := 82 } : Room) (va_Pc [.ref hs, .int (iI x0), .int (iI y0)] (sr_V D classes [(cI, .int), (cJ, .long), (cZ, .boolean)] nestw sr_strs [] sz)) (sr_T sr_IAE D classes (va_A [] sz) []) 1 6 (va_A [] sz) := by
  refine sr_enterT (QT := fun A => sr_T sr_IAE D classes A []) (by decide +kernel) rfl (Nat.le_of_ble_eq_true rfl) ?_
  intro p e s m below meth c A ls hx hb hr hml hown hlocks hin hts hsz hP hK hD hN hA hS hl hout hZ hRs
  have ht : ∀ w ∈ allw, w.before _ s = true := fun w h => hts w (List.mem_cons_of_mem _ h)
  have hsub : ∀ w ∈ allw, w ∈ _ := fun w h => List.mem_cons_of_mem (Cond.code y_SR_curve b_SR_curve 3 (some .int)) h
  have hl : lv_has ls 3 [(0, .ref hs), (1, .int (iI x0)), (2, .int (iI y0))] := hl
  have hP : va_P D classes [] s.heap := hP
  refine lv_iload_n hx hb d_SR_curve_0 rfl (lv_at hl 1 rfl) ?_
  refine sr_cS_i (wr := []) (As := [.int (iI x0)]) (rest := []) hx hb hml hown hts (c_SR_isCoordinate l D cI cJ cZ _ x0 (by omega)) (sr_cwS hsub hts k_cd_SR_isCoordinate k_in_SR k_m_SR_59 k_st_SR_isCoordinate g_SR_isCoordinate ⟨Nat.le_of_ble_eq_true rfl, Nat.le_of_ble_eq_true rfl⟩) hns_ok hK hN hP hD hS hA [] [] rfl (by decide) rfl (by decide) (by decide) rfl hl.1 rfl (Nat.le_of_ble_eq_true rfl) d_SR_curve_1 ⟨Nat.le_of_ble_eq_true rfl, Nat.le_of_ble_eq_true rfl⟩ (fun r_1 u H locs hw_1 hP hD hS => ?_)
  have hP : va_P D classes [] H := hP
  have hD : va_D A [] := hD
  try dsimp only at hw_1
  obtain ⟨z_1, rfl, hw_1⟩ := hw_1
  refine sr_if_eq (tgt := 14) hx hb d_SR_curve_4 (by decide) (sr_bB hw_1) (fun c_4 => ?_) (fun c_4 => ?_)
  · -- T
    have c_4 := sr_bf hw_1 c_4
    obtain ⟨q_, hq_⟩ := hRs (65, "a coordinate is out of bounds") (by decide)
    exact sr_throw (own := "StrokeRaster") (X0 := sr_IAE) (tx := "a coordinate is out of bounds") (ks := 65) hx hb (hml.trans hl.1.symm) hout hlocks htr hown (by decide +kernel) ht thw_IAE hZ hq_ hP hD hS (Nat.le_of_ble_eq_true rfl) (Nat.le_of_ble_eq_true rfl) rfl rfl (Nat.le_of_ble_eq_true rfl) (Nat.le_of_ble_eq_true rfl) d_SR_curve_14 d_SR_curve_17 d_SR_curve_18 d_SR_curve_20 d_SR_curve_23
  · -- F
    have c_4 := sr_bt hw_1 c_4
    refine lv_iload_n hx hb d_SR_curve_7 rfl (lv_at hl 2 rfl) ?_
    refine sr_cS_i (wr := []) (As := [.int (iI y0)]) (rest := []) hx hb hml hown hts (c_SR_isCoordinate l D cI cJ cZ _ y0 (by omega)) (sr_cwS hsub hts k_cd_SR_isCoordinate k_in_SR k_m_SR_59 k_st_SR_isCoordinate g_SR_isCoordinate ⟨Nat.le_of_ble_eq_true rfl, Nat.le_of_ble_eq_true rfl⟩) hns_ok hK hN hP hD hS hA [] [] rfl (by decide) rfl (by decide) (by decide) rfl hl.1 rfl (Nat.le_of_ble_eq_true rfl) d_SR_curve_8 ⟨Nat.le_of_ble_eq_true rfl, Nat.le_of_ble_eq_true rfl⟩ (fun r_8 u H locs hw_8 hP hD hS => ?_)
    have hP : va_P D classes [] H := hP
    have hD : va_D A [] := hD
    try dsimp only at hw_8
    obtain ⟨z_8, rfl, hw_8⟩ := hw_8
    refine sr_if_ne (tgt := 24) hx hb d_SR_curve_11 (by decide) (sr_bB hw_8) (fun c_11 => ?_) (fun c_11 => ?_)
    · -- T
      have c_11 := sr_bt hw_8 c_11
      exact absurd ⟨c_4, c_11⟩ hbad
    · -- F
      have c_11 := sr_bf hw_8 c_11
      obtain ⟨q_, hq_⟩ := hRs (65, "a coordinate is out of bounds") (by decide)
      exact sr_throw (own := "StrokeRaster") (X0 := sr_IAE) (tx := "a coordinate is out of bounds") (ks := 65) hx hb (hml.trans hl.1.symm) hout hlocks htr hown (by decide +kernel) ht thw_IAE hZ hq_ hP hD hS (Nat.le_of_ble_eq_true rfl) (Nat.le_of_ble_eq_true rfl) rfl rfl (Nat.le_of_ble_eq_true rfl) (Nat.le_of_ble_eq_true rfl) d_SR_curve_14 d_SR_curve_17 d_SR_curve_18 d_SR_curve_20 d_SR_curve_23

set_option maxHeartbeats 4000000 in
set_option maxRecDepth 100000 in
theorem c_SR_move_ISE (l : Launch) (htr : ∀ e : Env, l.admits e → e.platform.stackTraces = false) (D : va_G) (cI cJ cZ : ClassId) (sz : Nat) (hs : Nat) (hp : Nat) (hq : Nat) (hc : Nat) (hk0 : Nat) (hg0 : Nat) (hw0 : Nat) (pic : Nat) (kn : Int64) (c1 : Int) (c2 : Int) (c3 : Int) (c4 : Int) (pxs : Nat) (pys : Nat) (np : Int) (pfs : Nat) (psh : Nat) (ns : Int) (no : Int) (x0 : Int) (y0 : Int) (hx0 : -8192 ≤ x0 ∧ x0 ≤ 8191) (hy0 : -8192 ≤ y0 ∧ y0 ≤ 8191) (hns : 0 ≤ ns ∧ ns ≤ 64) (hnp : 0 ≤ np ∧ np ≤ 1024) (hful : ns = 64 ∨ np = 1024) : sr_MetT l y_SR_move (Cond.code y_SR_move b_SR_move 3 (some .int) :: allw) ({ frames := 6, cells := 1, slots := 6, locals := 82 } : Room) (va_Pc [.ref hs, .int (iI x0), .int (iI y0)] (sr_V D classes [(cI, .int), (cJ, .long), (cZ, .boolean)] nestw sr_strs [(hs, .inr (6, [.ref hp, .ref hq, .ref hc, .ref hk0, .ref hg0, .ref hw0, .ref pic, .long kn, .int (iI c1), .int (iI c2), .int (iI c3), .int (iI c4)])), (hp, .inr (2, [.ref pxs, .ref pys, .int (iI np), .ref pfs, .ref psh, .int (iI ns), .int (iI no)]))] sz)) (sr_T sr_ISE D classes (va_A [(hs, .inr (6, [.ref hp, .ref hq, .ref hc, .ref hk0, .ref hg0, .ref hw0, .ref pic, .long kn, .int (iI c1), .int (iI c2), .int (iI c3), .int (iI c4)])), (hp, .inr (2, [.ref pxs, .ref pys, .int (iI np), .ref pfs, .ref psh, .int (iI ns), .int (iI no)]))] sz) [(hs, .inr (6, [.ref hp, .ref hq, .ref hc, .ref hk0, .ref hg0, .ref hw0, .ref pic, .long kn, .int (iI c1), .int (iI c2), .int (iI c3), .int (iI c4)])), (hp, .inr (2, [.ref pxs, .ref pys, .int (iI np), .ref pfs, .ref psh, .int (iI ns), .int (iI no)]))]) 1 6 (va_A [(hs, .inr (6, [.ref hp, .ref hq, .ref hc, .ref hk0, .ref hg0, .ref hw0, .ref pic, .long kn, .int (iI c1), .int (iI c2), .int (iI c3), .int (iI c4)])), (hp, .inr (2, [.ref pxs, .ref pys, .int (iI np), .ref pfs, .ref psh, .int (iI ns), .int (iI no)]))] sz) := by
  refine sr_enterT (QT := fun A => sr_T sr_ISE D classes A [(hs, .inr (6, [.ref hp, .ref hq, .ref hc, .ref hk0, .ref hg0, .ref hw0, .ref pic, .long kn, .int (iI c1), .int (iI c2), .int (iI c3), .int (iI c4)])), (hp, .inr (2, [.ref pxs, .ref pys, .int (iI np), .ref pfs, .ref psh, .int (iI ns), .int (iI no)]))]) (by decide +kernel) rfl (Nat.le_of_ble_eq_true rfl) ?_
  intro p e s m below meth c A ls hx hb hr hml hown hlocks hin hts hsz hP hK hD hN hA hS hl hout hZ hRs
  have ht : ∀ w ∈ allw, w.before _ s = true := fun w h => hts w (List.mem_cons_of_mem _ h)
  have hsub : ∀ w ∈ allw, w ∈ _ := fun w h => List.mem_cons_of_mem (Cond.code y_SR_move b_SR_move 3 (some .int)) h
  have hl : lv_has ls 3 [(0, .ref hs), (1, .int (iI x0)), (2, .int (iI y0))] := hl
  have hP : va_P D classes [(hs, .inr (6, [.ref hp, .ref hq, .ref hc, .ref hk0, .ref hg0, .ref hw0, .ref pic, .long kn, .int (iI c1), .int (iI c2), .int (iI c3), .int (iI c4)])), (hp, .inr (2, [.ref pxs, .ref pys, .int (iI np), .ref pfs, .ref psh, .int (iI ns), .int (iI no)]))] s.heap := hP
  refine lv_iload_n hx hb d_SR_move_0 rfl (lv_at hl 1 rfl) ?_
  refine sr_cS_i (wr := [(hs, .inr (6, [.ref hp, .ref hq, .ref hc, .ref hk0, .ref hg0, .ref hw0, .ref pic, .long kn, .int (iI c1), .int (iI c2), .int (iI c3), .int (iI c4)])), (hp, .inr (2, [.ref pxs, .ref pys, .int (iI np), .ref pfs, .ref psh, .int (iI ns), .int (iI no)]))]) (As := [.int (iI x0)]) (rest := []) hx hb hml hown hts (c_SR_isCoordinate l D cI cJ cZ _ x0 (by omega)) (sr_cwS hsub hts k_cd_SR_isCoordinate k_in_SR k_m_SR_59 k_st_SR_isCoordinate g_SR_isCoordinate ⟨Nat.le_of_ble_eq_true rfl, Nat.le_of_ble_eq_true rfl⟩) hns_ok hK hN hP hD hS hA [] [0, 1] rfl (by decide) rfl (by decide) (by decide) rfl hl.1 rfl (Nat.le_of_ble_eq_true rfl) d_SR_move_1 ⟨Nat.le_of_ble_eq_true rfl, Nat.le_of_ble_eq_true rfl⟩ (fun r_1 u H locs hw_1 hP hD hS => ?_)
  have hP : va_P D classes [(hs, .inr (6, [.ref hp, .ref hq, .ref hc, .ref hk0, .ref hg0, .ref hw0, .ref pic, .long kn, .int (iI c1), .int (iI c2), .int (iI c3), .int (iI c4)])), (hp, .inr (2, [.ref pxs, .ref pys, .int (iI np), .ref pfs, .ref psh, .int (iI ns), .int (iI no)]))] H := hP
  have hD : va_D A [(hs, .inr (6, [.ref hp, .ref hq, .ref hc, .ref hk0, .ref hg0, .ref hw0, .ref pic, .long kn, .int (iI c1), .int (iI c2), .int (iI c3), .int (iI c4)])), (hp, .inr (2, [.ref pxs, .ref pys, .int (iI np), .ref pfs, .ref psh, .int (iI ns), .int (iI no)]))] := hD
  try dsimp only at hw_1
  obtain ⟨z_1, rfl, hw_1⟩ := hw_1
  refine sr_if_eq (tgt := 14) hx hb d_SR_move_4 (by decide) (sr_bB hw_1) (fun c_4 => ?_) (fun c_4 => ?_)
  · -- T
    have c_4 := sr_bf hw_1 c_4
    exact absurd hx0 c_4
  · -- F
    have c_4 := sr_bt hw_1 c_4
    refine lv_iload_n hx hb d_SR_move_7 rfl (lv_at hl 2 rfl) ?_
    refine sr_cS_i (wr := [(hs, .inr (6, [.ref hp, .ref hq, .ref hc, .ref hk0, .ref hg0, .ref hw0, .ref pic, .long kn, .int (iI c1), .int (iI c2), .int (iI c3), .int (iI c4)])), (hp, .inr (2, [.ref pxs, .ref pys, .int (iI np), .ref pfs, .ref psh, .int (iI ns), .int (iI no)]))]) (As := [.int (iI y0)]) (rest := []) hx hb hml hown hts (c_SR_isCoordinate l D cI cJ cZ _ y0 (by omega)) (sr_cwS hsub hts k_cd_SR_isCoordinate k_in_SR k_m_SR_59 k_st_SR_isCoordinate g_SR_isCoordinate ⟨Nat.le_of_ble_eq_true rfl, Nat.le_of_ble_eq_true rfl⟩) hns_ok hK hN hP hD hS hA [] [0, 1] rfl (by decide) rfl (by decide) (by decide) rfl hl.1 rfl (Nat.le_of_ble_eq_true rfl) d_SR_move_8 ⟨Nat.le_of_ble_eq_true rfl, Nat.le_of_ble_eq_true rfl⟩ (fun r_8 u H locs hw_8 hP hD hS => ?_)
    have hP : va_P D classes [(hs, .inr (6, [.ref hp, .ref hq, .ref hc, .ref hk0, .ref hg0, .ref hw0, .ref pic, .long kn, .int (iI c1), .int (iI c2), .int (iI c3), .int (iI c4)])), (hp, .inr (2, [.ref pxs, .ref pys, .int (iI np), .ref pfs, .ref psh, .int (iI ns), .int (iI no)]))] H := hP
    have hD : va_D A [(hs, .inr (6, [.ref hp, .ref hq, .ref hc, .ref hk0, .ref hg0, .ref hw0, .ref pic, .long kn, .int (iI c1), .int (iI c2), .int (iI c3), .int (iI c4)])), (hp, .inr (2, [.ref pxs, .ref pys, .int (iI np), .ref pfs, .ref psh, .int (iI ns), .int (iI no)]))] := hD
    try dsimp only at hw_8
    obtain ⟨z_8, rfl, hw_8⟩ := hw_8
    refine sr_if_ne (tgt := 24) hx hb d_SR_move_11 (by decide) (sr_bB hw_8) (fun c_11 => ?_) (fun c_11 => ?_)
    · -- T
      have c_11 := sr_bt hw_8 c_11
      refine lv_aload_n hx hb d_SR_move_24 rfl (lv_at hl 0 rfl) ?_
      refine va_get hx hb ht i_SR hown hK hP 0 rfl rfl 0 (by decide) (ht _ k_f_SR_10) (fun _ h9 => h9) rfl d_SR_move_25 ?_
      refine va_get hx hb ht i_Path hown hK hP 1 rfl rfl 5 (by decide) (ht _ k_f_SR_70) (fun _ h9 => h9) rfl d_SR_move_28 ?_
      refine sr_bipush hx hb d_SR_move_31 (by decide) ?_
      refine sr_icmp_ge (tgt := 49) hx hb d_SR_move_33 (by decide) (by unfold bI; omega) (by unfold bI; decide) (fun c_33 => ?_) (fun c_33 => ?_)
      · -- T
        obtain ⟨q_, hq_⟩ := hRs (79, "the path is full") (by decide)
        exact sr_throw (own := "StrokeRaster") (X0 := sr_ISE) (tx := "the path is full") (ks := 79) hx hb (hml.trans hl.1.symm) hout hlocks htr hown (by decide +kernel) ht thw_ISE hZ hq_ hP hD hS (Nat.le_of_ble_eq_true rfl) (Nat.le_of_ble_eq_true rfl) rfl rfl (Nat.le_of_ble_eq_true rfl) (Nat.le_of_ble_eq_true rfl) d_SR_move_49 d_SR_move_52 d_SR_move_53 d_SR_move_55 d_SR_move_58
      · -- F
        refine lv_aload_n hx hb d_SR_move_36 rfl (lv_at hl 0 rfl) ?_
        refine va_get hx hb ht i_SR hown hK hP 0 rfl rfl 0 (by decide) (ht _ k_f_SR_10) (fun _ h9 => h9) rfl d_SR_move_37 ?_
        refine va_get hx hb ht i_Path hown hK hP 1 rfl rfl 2 (by decide) (ht _ k_f_SR_74) (fun _ h9 => h9) rfl d_SR_move_40 ?_
        refine sr_sipush hx hb d_SR_move_43 (by decide) ?_
        refine sr_icmp_lt (tgt := 59) hx hb d_SR_move_46 (by decide) (by unfold bI; omega) (by unfold bI; decide) (fun c_46 => ?_) (fun c_46 => ?_)
        · -- T
          exact absurd hful (by omega)
        · -- F
          obtain ⟨q_, hq_⟩ := hRs (79, "the path is full") (by decide)
          exact sr_throw (own := "StrokeRaster") (X0 := sr_ISE) (tx := "the path is full") (ks := 79) hx hb (hml.trans hl.1.symm) hout hlocks htr hown (by decide +kernel) ht thw_ISE hZ hq_ hP hD hS (Nat.le_of_ble_eq_true rfl) (Nat.le_of_ble_eq_true rfl) rfl rfl (Nat.le_of_ble_eq_true rfl) (Nat.le_of_ble_eq_true rfl) d_SR_move_49 d_SR_move_52 d_SR_move_53 d_SR_move_55 d_SR_move_58
    · -- F
      have c_11 := sr_bf hw_8 c_11
      exact absurd hy0 c_11

set_option maxHeartbeats 4000000 in
set_option maxRecDepth 100000 in
theorem c_SR_line_ISE (l : Launch) (htr : ∀ e : Env, l.admits e → e.platform.stackTraces = false) (D : va_G) (cI cJ cZ : ClassId) (sz : Nat) (hs : Nat) (hp : Nat) (hq : Nat) (hc : Nat) (hk0 : Nat) (hg0 : Nat) (hw0 : Nat) (pic : Nat) (kn : Int64) (c1 : Int) (c2 : Int) (c3 : Int) (c4 : Int) (pxs : Nat) (pys : Nat) (np : Int) (pfs : Nat) (psh : Nat) (ns : Int) (no : Int) (sh : Int → Int) (x0 : Int) (y0 : Int) (hx0 : -8192 ≤ x0 ∧ x0 ≤ 8191) (hy0 : -8192 ≤ y0 ∧ y0 ≤ 8191) (hns : 0 ≤ ns ∧ ns ≤ 64) (hsh : ∀ j, sh j = 0 ∨ sh j = 1) (hnp : 0 ≤ np ∧ np ≤ 1024) (hful : ¬ ((0 < ns ∧ sh (ns - 1) = 0) ∧ np + 1 ≤ 1024)) : sr_MetT l y_SR_line (Cond.code y_SR_line b_SR_line 3 (some .int) :: allw) ({ frames := 6, cells := 1, slots := 6, locals := 82 } : Room) (va_Pc [.ref hs, .int (iI x0), .int (iI y0)] (sr_V D classes [(cI, .int), (cJ, .long), (cZ, .boolean)] nestw sr_strs [(hs, .inr (6, [.ref hp, .ref hq, .ref hc, .ref hk0, .ref hg0, .ref hw0, .ref pic, .long kn, .int (iI c1), .int (iI c2), .int (iI c3), .int (iI c4)])), (hp, .inr (2, [.ref pxs, .ref pys, .int (iI np), .ref pfs, .ref psh, .int (iI ns), .int (iI no)])), (psh, .inl (cZ, 64, .inl (zI sh)))] sz)) (sr_T sr_ISE D classes (va_A [(hs, .inr (6, [.ref hp, .ref hq, .ref hc, .ref hk0, .ref hg0, .ref hw0, .ref pic, .long kn, .int (iI c1), .int (iI c2), .int (iI c3), .int (iI c4)])), (hp, .inr (2, [.ref pxs, .ref pys, .int (iI np), .ref pfs, .ref psh, .int (iI ns), .int (iI no)])), (psh, .inl (cZ, 64, .inl (zI sh)))] sz) [(hs, .inr (6, [.ref hp, .ref hq, .ref hc, .ref hk0, .ref hg0, .ref hw0, .ref pic, .long kn, .int (iI c1), .int (iI c2), .int (iI c3), .int (iI c4)])), (hp, .inr (2, [.ref pxs, .ref pys, .int (iI np), .ref pfs, .ref psh, .int (iI ns), .int (iI no)])), (psh, .inl (cZ, 64, .inl (zI sh)))]) 1 6 (va_A [(hs, .inr (6, [.ref hp, .ref hq, .ref hc, .ref hk0, .ref hg0, .ref hw0, .ref pic, .long kn, .int (iI c1), .int (iI c2), .int (iI c3), .int (iI c4)])), (hp, .inr (2, [.ref pxs, .ref pys, .int (iI np), .ref pfs, .ref psh, .int (iI ns), .int (iI no)])), (psh, .inl (cZ, 64, .inl (zI sh)))] sz) := by
  refine sr_enterT (QT := fun A => sr_T sr_ISE D classes A [(hs, .inr (6, [.ref hp, .ref hq, .ref hc, .ref hk0, .ref hg0, .ref hw0, .ref pic, .long kn, .int (iI c1), .int (iI c2), .int (iI c3), .int (iI c4)])), (hp, .inr (2, [.ref pxs, .ref pys, .int (iI np), .ref pfs, .ref psh, .int (iI ns), .int (iI no)])), (psh, .inl (cZ, 64, .inl (zI sh)))]) (by decide +kernel) rfl (Nat.le_of_ble_eq_true rfl) ?_
  intro p e s m below meth c A ls hx hb hr hml hown hlocks hin hts hsz hP hK hD hN hA hS hl hout hZ hRs
  have ht : ∀ w ∈ allw, w.before _ s = true := fun w h => hts w (List.mem_cons_of_mem _ h)
  have hsub : ∀ w ∈ allw, w ∈ _ := fun w h => List.mem_cons_of_mem (Cond.code y_SR_line b_SR_line 3 (some .int)) h
  have hl : lv_has ls 3 [(0, .ref hs), (1, .int (iI x0)), (2, .int (iI y0))] := hl
  have hP : va_P D classes [(hs, .inr (6, [.ref hp, .ref hq, .ref hc, .ref hk0, .ref hg0, .ref hw0, .ref pic, .long kn, .int (iI c1), .int (iI c2), .int (iI c3), .int (iI c4)])), (hp, .inr (2, [.ref pxs, .ref pys, .int (iI np), .ref pfs, .ref psh, .int (iI ns), .int (iI no)])), (psh, .inl (cZ, 64, .inl (zI sh)))] s.heap := hP
  refine lv_iload_n hx hb d_SR_line_0 rfl (lv_at hl 1 rfl) ?_
  refine sr_cS_i (wr := [(hs, .inr (6, [.ref hp, .ref hq, .ref hc, .ref hk0, .ref hg0, .ref hw0, .ref pic, .long kn, .int (iI c1), .int (iI c2), .int (iI c3), .int (iI c4)])), (hp, .inr (2, [.ref pxs, .ref pys, .int (iI np), .ref pfs, .ref psh, .int (iI ns), .int (iI no)])), (psh, .inl (cZ, 64, .inl (zI sh)))]) (As := [.int (iI x0)]) (rest := []) hx hb hml hown hts (c_SR_isCoordinate l D cI cJ cZ _ x0 (by omega)) (sr_cwS hsub hts k_cd_SR_isCoordinate k_in_SR k_m_SR_59 k_st_SR_isCoordinate g_SR_isCoordinate ⟨Nat.le_of_ble_eq_true rfl, Nat.le_of_ble_eq_true rfl⟩) hns_ok hK hN hP hD hS hA [] [0, 1, 2] rfl (by decide) rfl (by decide) (by decide) rfl hl.1 rfl (Nat.le_of_ble_eq_true rfl) d_SR_line_1 ⟨Nat.le_of_ble_eq_true rfl, Nat.le_of_ble_eq_true rfl⟩ (fun r_1 u H locs hw_1 hP hD hS => ?_)
  have hP : va_P D classes [(hs, .inr (6, [.ref hp, .ref hq, .ref hc, .ref hk0, .ref hg0, .ref hw0, .ref pic, .long kn, .int (iI c1), .int (iI c2), .int (iI c3), .int (iI c4)])), (hp, .inr (2, [.ref pxs, .ref pys, .int (iI np), .ref pfs, .ref psh, .int (iI ns), .int (iI no)])), (psh, .inl (cZ, 64, .inl (zI sh)))] H := hP
  have hD : va_D A [(hs, .inr (6, [.ref hp, .ref hq, .ref hc, .ref hk0, .ref hg0, .ref hw0, .ref pic, .long kn, .int (iI c1), .int (iI c2), .int (iI c3), .int (iI c4)])), (hp, .inr (2, [.ref pxs, .ref pys, .int (iI np), .ref pfs, .ref psh, .int (iI ns), .int (iI no)])), (psh, .inl (cZ, 64, .inl (zI sh)))] := hD
  try dsimp only at hw_1
  obtain ⟨z_1, rfl, hw_1⟩ := hw_1
  refine sr_if_eq (tgt := 14) hx hb d_SR_line_4 (by decide) (sr_bB hw_1) (fun c_4 => ?_) (fun c_4 => ?_)
  · -- T
    have c_4 := sr_bf hw_1 c_4
    exact absurd hx0 c_4
  · -- F
    have c_4 := sr_bt hw_1 c_4
    refine lv_iload_n hx hb d_SR_line_7 rfl (lv_at hl 2 rfl) ?_
    refine sr_cS_i (wr := [(hs, .inr (6, [.ref hp, .ref hq, .ref hc, .ref hk0, .ref hg0, .ref hw0, .ref pic, .long kn, .int (iI c1), .int (iI c2), .int (iI c3), .int (iI c4)])), (hp, .inr (2, [.ref pxs, .ref pys, .int (iI np), .ref pfs, .ref psh, .int (iI ns), .int (iI no)])), (psh, .inl (cZ, 64, .inl (zI sh)))]) (As := [.int (iI y0)]) (rest := []) hx hb hml hown hts (c_SR_isCoordinate l D cI cJ cZ _ y0 (by omega)) (sr_cwS hsub hts k_cd_SR_isCoordinate k_in_SR k_m_SR_59 k_st_SR_isCoordinate g_SR_isCoordinate ⟨Nat.le_of_ble_eq_true rfl, Nat.le_of_ble_eq_true rfl⟩) hns_ok hK hN hP hD hS hA [] [0, 1, 2] rfl (by decide) rfl (by decide) (by decide) rfl hl.1 rfl (Nat.le_of_ble_eq_true rfl) d_SR_line_8 ⟨Nat.le_of_ble_eq_true rfl, Nat.le_of_ble_eq_true rfl⟩ (fun r_8 u H locs hw_8 hP hD hS => ?_)
    have hP : va_P D classes [(hs, .inr (6, [.ref hp, .ref hq, .ref hc, .ref hk0, .ref hg0, .ref hw0, .ref pic, .long kn, .int (iI c1), .int (iI c2), .int (iI c3), .int (iI c4)])), (hp, .inr (2, [.ref pxs, .ref pys, .int (iI np), .ref pfs, .ref psh, .int (iI ns), .int (iI no)])), (psh, .inl (cZ, 64, .inl (zI sh)))] H := hP
    have hD : va_D A [(hs, .inr (6, [.ref hp, .ref hq, .ref hc, .ref hk0, .ref hg0, .ref hw0, .ref pic, .long kn, .int (iI c1), .int (iI c2), .int (iI c3), .int (iI c4)])), (hp, .inr (2, [.ref pxs, .ref pys, .int (iI np), .ref pfs, .ref psh, .int (iI ns), .int (iI no)])), (psh, .inl (cZ, 64, .inl (zI sh)))] := hD
    try dsimp only at hw_8
    obtain ⟨z_8, rfl, hw_8⟩ := hw_8
    refine sr_if_ne (tgt := 24) hx hb d_SR_line_11 (by decide) (sr_bB hw_8) (fun c_11 => ?_) (fun c_11 => ?_)
    · -- T
      have c_11 := sr_bt hw_8 c_11
      refine lv_aload_n hx hb d_SR_line_24 rfl (lv_at hl 0 rfl) ?_
      refine va_get hx hb ht i_SR hown hK hP 0 rfl rfl 0 (by decide) (ht _ k_f_SR_10) (fun _ h9 => h9) rfl d_SR_line_25 ?_
      refine sr_iconst hx hb d_SR_line_28 ?_
      refine sr_cV_i (wr := [(hs, .inr (6, [.ref hp, .ref hq, .ref hc, .ref hk0, .ref hg0, .ref hw0, .ref pic, .long kn, .int (iI c1), .int (iI c2), .int (iI c3), .int (iI c4)]))]) (As := [.int (iI 1)]) (rest := []) (b := hp) (q0 := 1) hx hb hml hown hts (c_Path_takes l D cI cJ cZ _ hp pxs pys np pfs psh ns no sh 1 (by omega) (by omega) (hsh) (by omega) (by omega)) (sr_cwV hsub hts k_cd_Path_takes k_in_Path k_m_SR_89 k_im_Path_takes k_se_Path_takes g_Path_takes ⟨Nat.le_of_ble_eq_true rfl, Nat.le_of_ble_eq_true rfl⟩) hns_ok hK hN hP hD hS hA [1, 2] [0] rfl (by decide) rfl (by decide) (by decide) rfl rfl rfl hl.1 rfl (Nat.le_of_ble_eq_true rfl) d_SR_line_29 ⟨Nat.le_of_ble_eq_true rfl, Nat.le_of_ble_eq_true rfl⟩ (fun r_29 u H locs hw_29 hP hD hS => ?_)
      have hP : va_P D classes [(hs, .inr (6, [.ref hp, .ref hq, .ref hc, .ref hk0, .ref hg0, .ref hw0, .ref pic, .long kn, .int (iI c1), .int (iI c2), .int (iI c3), .int (iI c4)])), (hp, .inr (2, [.ref pxs, .ref pys, .int (iI np), .ref pfs, .ref psh, .int (iI ns), .int (iI no)])), (psh, .inl (cZ, 64, .inl (zI sh)))] H := hP
      have hD : va_D A [(hs, .inr (6, [.ref hp, .ref hq, .ref hc, .ref hk0, .ref hg0, .ref hw0, .ref pic, .long kn, .int (iI c1), .int (iI c2), .int (iI c3), .int (iI c4)])), (hp, .inr (2, [.ref pxs, .ref pys, .int (iI np), .ref pfs, .ref psh, .int (iI ns), .int (iI no)])), (psh, .inl (cZ, 64, .inl (zI sh)))] := hD
      try dsimp only at hw_29
      obtain ⟨z_29, rfl, hw_29⟩ := hw_29
      refine sr_if_ne (tgt := 45) hx hb d_SR_line_32 (by decide) (sr_bB hw_29) (fun c_32 => ?_) (fun c_32 => ?_)
      · -- T
        have c_32 := sr_bt hw_29 c_32
        exact absurd c_32 hful
      · -- F
        have c_32 := sr_bf hw_29 c_32
        obtain ⟨q_, hq_⟩ := hRs (92, "no open subpath, or too many points") (by decide)
        exact sr_throw (own := "StrokeRaster") (X0 := sr_ISE) (tx := "no open subpath, or too many points") (ks := 92) hx hb (hml.trans hl.1.symm) hout hlocks htr hown (by decide +kernel) ht thw_ISE hZ hq_ hP hD hS (Nat.le_of_ble_eq_true rfl) (Nat.le_of_ble_eq_true rfl) rfl rfl (Nat.le_of_ble_eq_true rfl) (Nat.le_of_ble_eq_true rfl) d_SR_line_35 d_SR_line_38 d_SR_line_39 d_SR_line_41 d_SR_line_44
    · -- F
      have c_11 := sr_bf hw_8 c_11
      exact absurd hy0 c_11

set_option maxHeartbeats 4000000 in
set_option maxRecDepth 100000 in
theorem c_SR_curve_ISE (l : Launch) (htr : ∀ e : Env, l.admits e → e.platform.stackTraces = false) (D : va_G) (cI cJ cZ : ClassId) (sz : Nat) (hs : Nat) (hp : Nat) (hq : Nat) (hc : Nat) (hk0 : Nat) (hg0 : Nat) (hw0 : Nat) (pic : Nat) (kn : Int64) (c1 : Int) (c2 : Int) (c3 : Int) (c4 : Int) (pxs : Nat) (pys : Nat) (np : Int) (pfs : Nat) (psh : Nat) (ns : Int) (no : Int) (sh : Int → Int) (x0 : Int) (y0 : Int) (hx0 : -8192 ≤ x0 ∧ x0 ≤ 8191) (hy0 : -8192 ≤ y0 ∧ y0 ≤ 8191) (hns : 0 ≤ ns ∧ ns ≤ 64) (hsh : ∀ j, sh j = 0 ∨ sh j = 1) (hnp : 0 ≤ np ∧ np ≤ 1024) (hful : ¬ ((0 < ns ∧ sh (ns - 1) = 0) ∧ np + 16 ≤ 1024)) : sr_MetT l y_SR_curve (Cond.code y_SR_curve b_SR_curve 3 (some .int) :: allw) ({ frames := 6, cells := 1, slots := 6, locals := 82 } : Room) (va_Pc [.ref hs, .int (iI x0), .int (iI y0)] (sr_V D classes [(cI, .int), (cJ, .long), (cZ, .boolean)] nestw sr_strs [(hs, .inr (6, [.ref hp, .ref hq, .ref hc, .ref hk0, .ref hg0, .ref hw0, .ref pic, .long kn, .int (iI c1), .int (iI c2), .int (iI c3), .int (iI c4)])), (hp, .inr (2, [.ref pxs, .ref pys, .int (iI np), .ref pfs, .ref psh, .int (iI ns), .int (iI no)])), (psh, .inl (cZ, 64, .inl (zI sh)))] sz)) (sr_T sr_ISE D classes (va_A [(hs, .inr (6, [.ref hp, .ref hq, .ref hc, .ref hk0, .ref hg0, .ref hw0, .ref pic, .long kn, .int (iI c1), .int (iI c2), .int (iI c3), .int (iI c4)])), (hp, .inr (2, [.ref pxs, .ref pys, .int (iI np), .ref pfs, .ref psh, .int (iI ns), .int (iI no)])), (psh, .inl (cZ, 64, .inl (zI sh)))] sz) [(hs, .inr (6, [.ref hp, .ref hq, .ref hc, .ref hk0, .ref hg0, .ref hw0, .ref pic, .long kn, .int (iI c1), .int (iI c2), .int (iI c3), .int (iI c4)])), (hp, .inr (2, [.ref pxs, .ref pys, .int (iI np), .ref pfs, .ref psh, .int (iI ns), .int (iI no)])), (psh, .inl (cZ, 64, .inl (zI sh)))]) 1 6 (va_A [(hs, .inr (6, [.ref hp, .ref hq, .ref hc, .ref hk0, .ref hg0, .ref hw0, .ref pic, .long kn, .int (iI c1), .int (iI c2), .int (iI c3), .int (iI c4)])), (hp, .inr (2, [.ref pxs, .ref pys, .int (iI np), .ref pfs, .ref psh, .int (iI ns), .int (iI no)])), (psh, .inl (cZ, 64, .inl (zI sh)))] sz) := by
  refine sr_enterT (QT := fun A => sr_T sr_ISE D classes A [(hs, .inr (6, [.ref hp, .ref hq, .ref hc, .ref hk0, .ref hg0, .ref hw0, .ref pic, .long kn, .int (iI c1), .int (iI c2), .int (iI c3), .int (iI c4)])), (hp, .inr (2, [.ref pxs, .ref pys, .int (iI np), .ref pfs, .ref psh, .int (iI ns), .int (iI no)])), (psh, .inl (cZ, 64, .inl (zI sh)))]) (by decide +kernel) rfl (Nat.le_of_ble_eq_true rfl) ?_
  intro p e s m below meth c A ls hx hb hr hml hown hlocks hin hts hsz hP hK hD hN hA hS hl hout hZ hRs
  have ht : ∀ w ∈ allw, w.before _ s = true := fun w h => hts w (List.mem_cons_of_mem _ h)
  have hsub : ∀ w ∈ allw, w ∈ _ := fun w h => List.mem_cons_of_mem (Cond.code y_SR_curve b_SR_curve 3 (some .int)) h
  have hl : lv_has ls 3 [(0, .ref hs), (1, .int (iI x0)), (2, .int (iI y0))] := hl
  have hP : va_P D classes [(hs, .inr (6, [.ref hp, .ref hq, .ref hc, .ref hk0, .ref hg0, .ref hw0, .ref pic, .long kn, .int (iI c1), .int (iI c2), .int (iI c3), .int (iI c4)])), (hp, .inr (2, [.ref pxs, .ref pys, .int (iI np), .ref pfs, .ref psh, .int (iI ns), .int (iI no)])), (psh, .inl (cZ, 64, .inl (zI sh)))] s.heap := hP
  refine lv_iload_n hx hb d_SR_curve_0 rfl (lv_at hl 1 rfl) ?_
  refine sr_cS_i (wr := [(hs, .inr (6, [.ref hp, .ref hq, .ref hc, .ref hk0, .ref hg0, .ref hw0, .ref pic, .long kn, .int (iI c1), .int (iI c2), .int (iI c3), .int (iI c4)])), (hp, .inr (2, [.ref pxs, .ref pys, .int (iI np), .ref pfs, .ref psh, .int (iI ns), .int (iI no)])), (psh, .inl (cZ, 64, .inl (zI sh)))]) (As := [.int (iI x0)]) (rest := []) hx hb hml hown hts (c_SR_isCoordinate l D cI cJ cZ _ x0 (by omega)) (sr_cwS hsub hts k_cd_SR_isCoordinate k_in_SR k_m_SR_59 k_st_SR_isCoordinate g_SR_isCoordinate ⟨Nat.le_of_ble_eq_true rfl, Nat.le_of_ble_eq_true rfl⟩) hns_ok hK hN hP hD hS hA [] [0, 1, 2] rfl (by decide) rfl (by decide) (by decide) rfl hl.1 rfl (Nat.le_of_ble_eq_true rfl) d_SR_curve_1 ⟨Nat.le_of_ble_eq_true rfl, Nat.le_of_ble_eq_true rfl⟩ (fun r_1 u H locs hw_1 hP hD hS => ?_)
  have hP : va_P D classes [(hs, .inr (6, [.ref hp, .ref hq, .ref hc, .ref hk0, .ref hg0, .ref hw0, .ref pic, .long kn, .int (iI c1), .int (iI c2), .int (iI c3), .int (iI c4)])), (hp, .inr (2, [.ref pxs, .ref pys, .int (iI np), .ref pfs, .ref psh, .int (iI ns), .int (iI no)])), (psh, .inl (cZ, 64, .inl (zI sh)))] H := hP
  have hD : va_D A [(hs, .inr (6, [.ref hp, .ref hq, .ref hc, .ref hk0, .ref hg0, .ref hw0, .ref pic, .long kn, .int (iI c1), .int (iI c2), .int (iI c3), .int (iI c4)])), (hp, .inr (2, [.ref pxs, .ref pys, .int (iI np), .ref pfs, .ref psh, .int (iI ns), .int (iI no)])), (psh, .inl (cZ, 64, .inl (zI sh)))] := hD
  try dsimp only at hw_1
  obtain ⟨z_1, rfl, hw_1⟩ := hw_1
  refine sr_if_eq (tgt := 14) hx hb d_SR_curve_4 (by decide) (sr_bB hw_1) (fun c_4 => ?_) (fun c_4 => ?_)
  · -- T
    have c_4 := sr_bf hw_1 c_4
    exact absurd hx0 c_4
  · -- F
    have c_4 := sr_bt hw_1 c_4
    refine lv_iload_n hx hb d_SR_curve_7 rfl (lv_at hl 2 rfl) ?_
    refine sr_cS_i (wr := [(hs, .inr (6, [.ref hp, .ref hq, .ref hc, .ref hk0, .ref hg0, .ref hw0, .ref pic, .long kn, .int (iI c1), .int (iI c2), .int (iI c3), .int (iI c4)])), (hp, .inr (2, [.ref pxs, .ref pys, .int (iI np), .ref pfs, .ref psh, .int (iI ns), .int (iI no)])), (psh, .inl (cZ, 64, .inl (zI sh)))]) (As := [.int (iI y0)]) (rest := []) hx hb hml hown hts (c_SR_isCoordinate l D cI cJ cZ _ y0 (by omega)) (sr_cwS hsub hts k_cd_SR_isCoordinate k_in_SR k_m_SR_59 k_st_SR_isCoordinate g_SR_isCoordinate ⟨Nat.le_of_ble_eq_true rfl, Nat.le_of_ble_eq_true rfl⟩) hns_ok hK hN hP hD hS hA [] [0, 1, 2] rfl (by decide) rfl (by decide) (by decide) rfl hl.1 rfl (Nat.le_of_ble_eq_true rfl) d_SR_curve_8 ⟨Nat.le_of_ble_eq_true rfl, Nat.le_of_ble_eq_true rfl⟩ (fun r_8 u H locs hw_8 hP hD hS => ?_)
    have hP : va_P D classes [(hs, .inr (6, [.ref hp, .ref hq, .ref hc, .ref hk0, .ref hg0, .ref hw0, .ref pic, .long kn, .int (iI c1), .int (iI c2), .int (iI c3), .int (iI c4)])), (hp, .inr (2, [.ref pxs, .ref pys, .int (iI np), .ref pfs, .ref psh, .int (iI ns), .int (iI no)])), (psh, .inl (cZ, 64, .inl (zI sh)))] H := hP
    have hD : va_D A [(hs, .inr (6, [.ref hp, .ref hq, .ref hc, .ref hk0, .ref hg0, .ref hw0, .ref pic, .long kn, .int (iI c1), .int (iI c2), .int (iI c3), .int (iI c4)])), (hp, .inr (2, [.ref pxs, .ref pys, .int (iI np), .ref pfs, .ref psh, .int (iI ns), .int (iI no)])), (psh, .inl (cZ, 64, .inl (zI sh)))] := hD
    try dsimp only at hw_8
    obtain ⟨z_8, rfl, hw_8⟩ := hw_8
    refine sr_if_ne (tgt := 24) hx hb d_SR_curve_11 (by decide) (sr_bB hw_8) (fun c_11 => ?_) (fun c_11 => ?_)
    · -- T
      have c_11 := sr_bt hw_8 c_11
      refine lv_aload_n hx hb d_SR_curve_24 rfl (lv_at hl 0 rfl) ?_
      refine va_get hx hb ht i_SR hown hK hP 0 rfl rfl 0 (by decide) (ht _ k_f_SR_10) (fun _ h9 => h9) rfl d_SR_curve_25 ?_
      refine sr_bipush hx hb d_SR_curve_28 (by decide) ?_
      refine sr_cV_i (wr := [(hs, .inr (6, [.ref hp, .ref hq, .ref hc, .ref hk0, .ref hg0, .ref hw0, .ref pic, .long kn, .int (iI c1), .int (iI c2), .int (iI c3), .int (iI c4)]))]) (As := [.int (iI 16)]) (rest := []) (b := hp) (q0 := 1) hx hb hml hown hts (c_Path_takes l D cI cJ cZ _ hp pxs pys np pfs psh ns no sh 16 (by omega) (by omega) (hsh) (by omega) (by omega)) (sr_cwV hsub hts k_cd_Path_takes k_in_Path k_m_SR_89 k_im_Path_takes k_se_Path_takes g_Path_takes ⟨Nat.le_of_ble_eq_true rfl, Nat.le_of_ble_eq_true rfl⟩) hns_ok hK hN hP hD hS hA [1, 2] [0] rfl (by decide) rfl (by decide) (by decide) rfl rfl rfl hl.1 rfl (Nat.le_of_ble_eq_true rfl) d_SR_curve_30 ⟨Nat.le_of_ble_eq_true rfl, Nat.le_of_ble_eq_true rfl⟩ (fun r_30 u H locs hw_30 hP hD hS => ?_)
      have hP : va_P D classes [(hs, .inr (6, [.ref hp, .ref hq, .ref hc, .ref hk0, .ref hg0, .ref hw0, .ref pic, .long kn, .int (iI c1), .int (iI c2), .int (iI c3), .int (iI c4)])), (hp, .inr (2, [.ref pxs, .ref pys, .int (iI np), .ref pfs, .ref psh, .int (iI ns), .int (iI no)])), (psh, .inl (cZ, 64, .inl (zI sh)))] H := hP
      have hD : va_D A [(hs, .inr (6, [.ref hp, .ref hq, .ref hc, .ref hk0, .ref hg0, .ref hw0, .ref pic, .long kn, .int (iI c1), .int (iI c2), .int (iI c3), .int (iI c4)])), (hp, .inr (2, [.ref pxs, .ref pys, .int (iI np), .ref pfs, .ref psh, .int (iI ns), .int (iI no)])), (psh, .inl (cZ, 64, .inl (zI sh)))] := hD
      try dsimp only at hw_30
      obtain ⟨z_30, rfl, hw_30⟩ := hw_30
      refine sr_if_ne (tgt := 46) hx hb d_SR_curve_33 (by decide) (sr_bB hw_30) (fun c_33 => ?_) (fun c_33 => ?_)
      · -- T
        have c_33 := sr_bt hw_30 c_33
        exact absurd c_33 hful
      · -- F
        have c_33 := sr_bf hw_30 c_33
        obtain ⟨q_, hq_⟩ := hRs (92, "no open subpath, or too many points") (by decide)
        exact sr_throw (own := "StrokeRaster") (X0 := sr_ISE) (tx := "no open subpath, or too many points") (ks := 92) hx hb (hml.trans hl.1.symm) hout hlocks htr hown (by decide +kernel) ht thw_ISE hZ hq_ hP hD hS (Nat.le_of_ble_eq_true rfl) (Nat.le_of_ble_eq_true rfl) rfl rfl (Nat.le_of_ble_eq_true rfl) (Nat.le_of_ble_eq_true rfl) d_SR_curve_36 d_SR_curve_39 d_SR_curve_40 d_SR_curve_42 d_SR_curve_45
    · -- F
      have c_11 := sr_bf hw_8 c_11
      exact absurd hy0 c_11

set_option maxHeartbeats 4000000 in
set_option maxRecDepth 100000 in
theorem c_SR_close_ISE (l : Launch) (htr : ∀ e : Env, l.admits e → e.platform.stackTraces = false) (D : va_G) (cI cJ cZ : ClassId) (sz : Nat) (hs : Nat) (hp : Nat) (hq : Nat) (hc : Nat) (hk0 : Nat) (hg0 : Nat) (hw0 : Nat) (pic : Nat) (kn : Int64) (c1 : Int) (c2 : Int) (c3 : Int) (c4 : Int) (pxs : Nat) (pys : Nat) (np : Int) (pfs : Nat) (psh : Nat) (ns : Int) (no : Int) (sh : Int → Int) (hns : 0 ≤ ns ∧ ns ≤ 64) (hsh : ∀ j, sh j = 0 ∨ sh j = 1) (hful : ¬ (0 < ns ∧ sh (ns - 1) = 0)) : sr_MetT l y_SR_close (Cond.code y_SR_close b_SR_close 1 (some .int) :: allw) ({ frames := 6, cells := 1, slots := 6, locals := 82 } : Room) (va_Pc [.ref hs] (sr_V D classes [(cI, .int), (cJ, .long), (cZ, .boolean)] nestw sr_strs [(hs, .inr (6, [.ref hp, .ref hq, .ref hc, .ref hk0, .ref hg0, .ref hw0, .ref pic, .long kn, .int (iI c1), .int (iI c2), .int (iI c3), .int (iI c4)])), (hp, .inr (2, [.ref pxs, .ref pys, .int (iI np), .ref pfs, .ref psh, .int (iI ns), .int (iI no)])), (psh, .inl (cZ, 64, .inl (zI sh)))] sz)) (sr_T sr_ISE D classes (va_A [(hs, .inr (6, [.ref hp, .ref hq, .ref hc, .ref hk0, .ref hg0, .ref hw0, .ref pic, .long kn, .int (iI c1), .int (iI c2), .int (iI c3), .int (iI c4)])), (hp, .inr (2, [.ref pxs, .ref pys, .int (iI np), .ref pfs, .ref psh, .int (iI ns), .int (iI no)])), (psh, .inl (cZ, 64, .inl (zI sh)))] sz) [(hs, .inr (6, [.ref hp, .ref hq, .ref hc, .ref hk0, .ref hg0, .ref hw0, .ref pic, .long kn, .int (iI c1), .int (iI c2), .int (iI c3), .int (iI c4)])), (hp, .inr (2, [.ref pxs, .ref pys, .int (iI np), .ref pfs, .ref psh, .int (iI ns), .int (iI no)])), (psh, .inl (cZ, 64, .inl (zI sh)))]) 1 6 (va_A [(hs, .inr (6, [.ref hp, .ref hq, .ref hc, .ref hk0, .ref hg0, .ref hw0, .ref pic, .long kn, .int (iI c1), .int (iI c2), .int (iI c3), .int (iI c4)])), (hp, .inr (2, [.ref pxs, .ref pys, .int (iI np), .ref pfs, .ref psh, .int (iI ns), .int (iI no)])), (psh, .inl (cZ, 64, .inl (zI sh)))] sz) := by
  refine sr_enterT (QT := fun A => sr_T sr_ISE D classes A [(hs, .inr (6, [.ref hp, .ref hq, .ref hc, .ref hk0, .ref hg0, .ref hw0, .ref pic, .long kn, .int (iI c1), .int (iI c2), .int (iI c3), .int (iI c4)])), (hp, .inr (2, [.ref pxs, .ref pys, .int (iI np), .ref pfs, .ref psh, .int (iI ns), .int (iI no)])), (psh, .inl (cZ, 64, .inl (zI sh)))]) (by decide +kernel) rfl (Nat.le_of_ble_eq_true rfl) ?_
  intro p e s m below meth c A ls hx hb hr hml hown hlocks hin hts hsz hP hK hD hN hA hS hl hout hZ hRs
  have ht : ∀ w ∈ allw, w.before _ s = true := fun w h => hts w (List.mem_cons_of_mem _ h)
  have hsub : ∀ w ∈ allw, w ∈ _ := fun w h => List.mem_cons_of_mem (Cond.code y_SR_close b_SR_close 1 (some .int)) h
  have hl : lv_has ls 1 [(0, .ref hs)] := hl
  have hP : va_P D classes [(hs, .inr (6, [.ref hp, .ref hq, .ref hc, .ref hk0, .ref hg0, .ref hw0, .ref pic, .long kn, .int (iI c1), .int (iI c2), .int (iI c3), .int (iI c4)])), (hp, .inr (2, [.ref pxs, .ref pys, .int (iI np), .ref pfs, .ref psh, .int (iI ns), .int (iI no)])), (psh, .inl (cZ, 64, .inl (zI sh)))] s.heap := hP
  refine lv_aload_n hx hb d_SR_close_0 rfl (lv_at hl 0 rfl) ?_
  refine va_get hx hb ht i_SR hown hK hP 0 rfl rfl 0 (by decide) (ht _ k_f_SR_10) (fun _ h9 => h9) rfl d_SR_close_1 ?_
  refine sr_cV_i (wr := [(hs, .inr (6, [.ref hp, .ref hq, .ref hc, .ref hk0, .ref hg0, .ref hw0, .ref pic, .long kn, .int (iI c1), .int (iI c2), .int (iI c3), .int (iI c4)]))]) (As := []) (rest := []) (b := hp) (q0 := 1) hx hb hml hown hts (c_Path_isOpen l D cI cJ cZ _ hp pxs pys np pfs psh ns no sh (by omega) (by omega) (hsh)) (sr_cwV hsub hts k_cd_Path_isOpen k_in_Path k_m_SR_113 k_im_Path_isOpen k_se_Path_isOpen g_Path_isOpen ⟨Nat.le_of_ble_eq_true rfl, Nat.le_of_ble_eq_true rfl⟩) hns_ok hK hN hP hD hS hA [1, 2] [0] rfl (by decide) rfl (by decide) (by decide) rfl rfl rfl hl.1 rfl (Nat.le_of_ble_eq_true rfl) d_SR_close_4 ⟨Nat.le_of_ble_eq_true rfl, Nat.le_of_ble_eq_true rfl⟩ (fun r_4 u H locs hw_4 hP hD hS => ?_)
  have hP : va_P D classes [(hs, .inr (6, [.ref hp, .ref hq, .ref hc, .ref hk0, .ref hg0, .ref hw0, .ref pic, .long kn, .int (iI c1), .int (iI c2), .int (iI c3), .int (iI c4)])), (hp, .inr (2, [.ref pxs, .ref pys, .int (iI np), .ref pfs, .ref psh, .int (iI ns), .int (iI no)])), (psh, .inl (cZ, 64, .inl (zI sh)))] H := hP
  have hD : va_D A [(hs, .inr (6, [.ref hp, .ref hq, .ref hc, .ref hk0, .ref hg0, .ref hw0, .ref pic, .long kn, .int (iI c1), .int (iI c2), .int (iI c3), .int (iI c4)])), (hp, .inr (2, [.ref pxs, .ref pys, .int (iI np), .ref pfs, .ref psh, .int (iI ns), .int (iI no)])), (psh, .inl (cZ, 64, .inl (zI sh)))] := hD
  try dsimp only at hw_4
  obtain ⟨z_4, rfl, hw_4⟩ := hw_4
  refine sr_if_ne (tgt := 20) hx hb d_SR_close_7 (by decide) (sr_bB hw_4) (fun c_7 => ?_) (fun c_7 => ?_)
  · -- T
    have c_7 := sr_bt hw_4 c_7
    exact absurd c_7 hful
  · -- F
    have c_7 := sr_bf hw_4 c_7
    obtain ⟨q_, hq_⟩ := hRs (117, "no open subpath") (by decide)
    exact sr_throw (own := "StrokeRaster") (X0 := sr_ISE) (tx := "no open subpath") (ks := 117) hx hb (hml.trans hl.1.symm) hout hlocks htr hown (by decide +kernel) ht thw_ISE hZ hq_ hP hD hS (Nat.le_of_ble_eq_true rfl) (Nat.le_of_ble_eq_true rfl) rfl rfl (Nat.le_of_ble_eq_true rfl) (Nat.le_of_ble_eq_true rfl) d_SR_close_10 d_SR_close_13 d_SR_close_14 d_SR_close_16 d_SR_close_19

set_option maxHeartbeats 4000000 in
set_option maxRecDepth 100000 in
theorem c_SR_line (l : Launch) (D : va_G) (cI cJ cZ : ClassId) (sz : Nat) (hs : Nat) (hp : Nat) (hq : Nat) (hc : Nat) (hk0 : Nat) (hg0 : Nat) (hw0 : Nat) (pic : Nat) (kn : Int64) (c1 : Int) (c2 : Int) (c3 : Int) (c4 : Int) (wf : Int) (sd : Int) (so : Int) (sr : Int) (dd : Int) (on : Int) (rs : Int) (fx0 : Int) (fy0 : Int) (ax0 : Int) (ay0 : Int) (ox0 : Int) (oy0 : Int) (ln0 : Int) (pxs : Nat) (pys : Nat) (np : Int) (pfs : Nat) (psh : Nat) (ns : Int) (no : Int) (cap : Nat) (px : Int → Int) (py : Int → Int) (sh : Int → Int) (x0 : Int) (y0 : Int) (hx0 : -8192 ≤ x0 ∧ x0 ≤ 8191) (hy0 : -8192 ≤ y0 ∧ y0 ≤ 8191) (h0 : 0 ≤ np) (h1 : np < 1024) (h2 : np ≤ cap) (hcq : capP cap) (hns : 0 ≤ ns ∧ ns ≤ 64) (hsh : ∀ j, sh j = 0 ∨ sh j = 1) (hop : (0 < ns ∧ sh (ns - 1) = 0)) : Met l y_SR_line (.code y_SR_line b_SR_line 3 (some .int) :: allw) ({ frames := 3, cells := gF np cap - cap, slots := 4 * (gF np cap - cap), locals := 75 } : Room) (va_Pc [.ref hs, .int (iI x0), .int (iI y0)] (sr_U D classes [(cI, .int), (cJ, .long), (cZ, .boolean)] nestw [(hs, .inr (6, [.ref hp, .ref hq, .ref hc, .ref hk0, .ref hg0, .ref hw0, .ref pic, .long kn, .int (iI c1), .int (iI c2), .int (iI c3), .int (iI c4)])), (hk0, .inr (5, [.ref hp, .ref hq, .ref hc, .int (iI wf), .int (iI sd), .int (iI so), .int (iI sr), .int (iI dd), .int (iI on), .int (iI rs), .int (iI fx0), .int (iI fy0), .int (iI ax0), .int (iI ay0), .int (iI ox0), .int (iI oy0), .int (iI ln0)])), (hp, .inr (2, [.ref pxs, .ref pys, .int (iI np), .ref pfs, .ref psh, .int (iI ns), .int (iI no)])), (pxs, .inl (cI, cap, .inl (zI px))), (pys, .inl (cI, cap, .inl (zI py))), (psh, .inl (cZ, 64, .inl (zI sh)))] sz)) (va_Qi (fun (r : Int32) => fun (u : Nat × Nat × (Int → Int) × (Int → Int)) => r = iI (np + 1) ∧ (∀ j, 0 ≤ j → j < np → u.2.2.1 j = px j) ∧ u.2.2.1 np = x0 ∧ (∀ j, 0 ≤ j → j < np → u.2.2.2 j = py j) ∧ u.2.2.2 np = y0) (sr_B D classes (va_A [(hs, .inr (6, [.ref hp, .ref hq, .ref hc, .ref hk0, .ref hg0, .ref hw0, .ref pic, .long kn, .int (iI c1), .int (iI c2), .int (iI c3), .int (iI c4)])), (hk0, .inr (5, [.ref hp, .ref hq, .ref hc, .int (iI wf), .int (iI sd), .int (iI so), .int (iI sr), .int (iI dd), .int (iI on), .int (iI rs), .int (iI fx0), .int (iI fy0), .int (iI ax0), .int (iI ay0), .int (iI ox0), .int (iI oy0), .int (iI ln0)])), (hp, .inr (2, [.ref pxs, .ref pys, .int (iI np), .ref pfs, .ref psh, .int (iI ns), .int (iI no)])), (pxs, .inl (cI, cap, .inl (zI px))), (pys, .inl (cI, cap, .inl (zI py))), (psh, .inl (cZ, 64, .inl (zI sh)))] sz) (fun (u : Nat × Nat × (Int → Int) × (Int → Int)) => [(hs, .inr (6, [.ref hp, .ref hq, .ref hc, .ref hk0, .ref hg0, .ref hw0, .ref pic, .long (lI 0), .int (iI c1), .int (iI c2), .int (iI c3), .int (iI c4)])), (hk0, .inr (5, [.ref hp, .ref hq, .ref hc, .int (iI 0), .int (iI sd), .int (iI so), .int (iI sr), .int (iI dd), .int (iI on), .int (iI rs), .int (iI fx0), .int (iI fy0), .int (iI ax0), .int (iI ay0), .int (iI ox0), .int (iI oy0), .int (iI ln0)])), (hp, .inr (2, [.ref u.1, .ref u.2.1, .int (iI (np + 1)), .ref pfs, .ref psh, .int (iI ns), .int (iI no)])), (u.1, .inl (cI, gF np cap, .inl (zI u.2.2.1))), (u.2.1, .inl (cI, gF np cap, .inl (zI u.2.2.2))), (psh, .inl (cZ, 64, .inl (zI sh)))])) (va_A [(hs, .inr (6, [.ref hp, .ref hq, .ref hc, .ref hk0, .ref hg0, .ref hw0, .ref pic, .long kn, .int (iI c1), .int (iI c2), .int (iI c3), .int (iI c4)])), (hk0, .inr (5, [.ref hp, .ref hq, .ref hc, .int (iI wf), .int (iI sd), .int (iI so), .int (iI sr), .int (iI dd), .int (iI on), .int (iI rs), .int (iI fx0), .int (iI fy0), .int (iI ax0), .int (iI ay0), .int (iI ox0), .int (iI oy0), .int (iI ln0)])), (hp, .inr (2, [.ref pxs, .ref pys, .int (iI np), .ref pfs, .ref psh, .int (iI ns), .int (iI no)])), (pxs, .inl (cI, cap, .inl (zI px))), (pys, .inl (cI, cap, .inl (zI py))), (psh, .inl (cZ, 64, .inl (zI sh)))] sz)) (gF np cap - cap) (4 * (gF np cap - cap)) (va_A [(hs, .inr (6, [.ref hp, .ref hq, .ref hc, .ref hk0, .ref hg0, .ref hw0, .ref pic, .long kn, .int (iI c1), .int (iI c2), .int (iI c3), .int (iI c4)])), (hk0, .inr (5, [.ref hp, .ref hq, .ref hc, .int (iI wf), .int (iI sd), .int (iI so), .int (iI sr), .int (iI dd), .int (iI on), .int (iI rs), .int (iI fx0), .int (iI fy0), .int (iI ax0), .int (iI ay0), .int (iI ox0), .int (iI oy0), .int (iI ln0)])), (hp, .inr (2, [.ref pxs, .ref pys, .int (iI np), .ref pfs, .ref psh, .int (iI ns), .int (iI no)])), (pxs, .inl (cI, cap, .inl (zI px))), (pys, .inl (cI, cap, .inl (zI py))), (psh, .inl (cZ, 64, .inl (zI sh)))] sz) := by
  refine sr_enter (Qf := fun A => va_Qi (fun (r : Int32) => fun (u : Nat × Nat × (Int → Int) × (Int → Int)) => r = iI (np + 1) ∧ (∀ j, 0 ≤ j → j < np → u.2.2.1 j = px j) ∧ u.2.2.1 np = x0 ∧ (∀ j, 0 ≤ j → j < np → u.2.2.2 j = py j) ∧ u.2.2.2 np = y0) (sr_B D classes A (fun (u : Nat × Nat × (Int → Int) × (Int → Int)) => [(hs, .inr (6, [.ref hp, .ref hq, .ref hc, .ref hk0, .ref hg0, .ref hw0, .ref pic, .long (lI 0), .int (iI c1), .int (iI c2), .int (iI c3), .int (iI c4)])), (hk0, .inr (5, [.ref hp, .ref hq, .ref hc, .int (iI 0), .int (iI sd), .int (iI so), .int (iI sr), .int (iI dd), .int (iI on), .int (iI rs), .int (iI fx0), .int (iI fy0), .int (iI ax0), .int (iI ay0), .int (iI ox0), .int (iI oy0), .int (iI ln0)])), (hp, .inr (2, [.ref u.1, .ref u.2.1, .int (iI (np + 1)), .ref pfs, .ref psh, .int (iI ns), .int (iI no)])), (u.1, .inl (cI, gF np cap, .inl (zI u.2.2.1))), (u.2.1, .inl (cI, gF np cap, .inl (zI u.2.2.2))), (psh, .inl (cZ, 64, .inl (zI sh)))])) A) (by decide +kernel) rfl (Nat.le_of_ble_eq_true rfl) ?_
  intro p e s m below meth c A ls hx hb hr hml hown hlocks hin hts hsz hP hK hD hN hA hS hl
  have ht : ∀ w ∈ allw, w.before _ s = true := fun w h => hts w (List.mem_cons_of_mem _ h)
  have hsub : ∀ w ∈ allw, w ∈ _ := fun w h => List.mem_cons_of_mem (Cond.code y_SR_line b_SR_line 3 (some .int)) h
  have hl : lv_has ls 3 [(0, .ref hs), (1, .int (iI x0)), (2, .int (iI y0))] := hl
  have hP : va_P D classes [(hs, .inr (6, [.ref hp, .ref hq, .ref hc, .ref hk0, .ref hg0, .ref hw0, .ref pic, .long kn, .int (iI c1), .int (iI c2), .int (iI c3), .int (iI c4)])), (hk0, .inr (5, [.ref hp, .ref hq, .ref hc, .int (iI wf), .int (iI sd), .int (iI so), .int (iI sr), .int (iI dd), .int (iI on), .int (iI rs), .int (iI fx0), .int (iI fy0), .int (iI ax0), .int (iI ay0), .int (iI ox0), .int (iI oy0), .int (iI ln0)])), (hp, .inr (2, [.ref pxs, .ref pys, .int (iI np), .ref pfs, .ref psh, .int (iI ns), .int (iI no)])), (pxs, .inl (cI, cap, .inl (zI px))), (pys, .inl (cI, cap, .inl (zI py))), (psh, .inl (cZ, 64, .inl (zI sh)))] s.heap := hP
  refine lv_iload_n hx hb d_SR_line_0 rfl (lv_at hl 1 rfl) ?_
  refine sr_cS_i (wr := [(hs, .inr (6, [.ref hp, .ref hq, .ref hc, .ref hk0, .ref hg0, .ref hw0, .ref pic, .long kn, .int (iI c1), .int (iI c2), .int (iI c3), .int (iI c4)])), (hk0, .inr (5, [.ref hp, .ref hq, .ref hc, .int (iI wf), .int (iI sd), .int (iI so), .int (iI sr), .int (iI dd), .int (iI on), .int (iI rs), .int (iI fx0), .int (iI fy0), .int (iI ax0), .int (iI ay0), .int (iI ox0), .int (iI oy0), .int (iI ln0)])), (hp, .inr (2, [.ref pxs, .ref pys, .int (iI np), .ref pfs, .ref psh, .int (iI ns), .int (iI no)])), (pxs, .inl (cI, cap, .inl (zI px))), (pys, .inl (cI, cap, .inl (zI py))), (psh, .inl (cZ, 64, .inl (zI sh)))]) (As := [.int (iI x0)]) (rest := []) hx hb hml hown hts (c_SR_isCoordinate l D cI cJ cZ _ x0 (by omega)) (sr_cwS hsub hts k_cd_SR_isCoordinate k_in_SR k_m_SR_59 k_st_SR_isCoordinate g_SR_isCoordinate ⟨Nat.le_of_ble_eq_true rfl, Nat.le_of_ble_eq_true rfl⟩) hns_ok hK hN hP hD hS hA [] [0, 1, 2, 3, 4, 5] rfl (by decide) rfl (by decide) (by decide) rfl hl.1 rfl (Nat.le_of_ble_eq_true rfl) d_SR_line_1 ⟨by show _ ≤ gF np cap - cap; omega, by show _ ≤ 4 * (gF np cap - cap); omega⟩ (fun r_1 u H locs hw_1 hP hD hS => ?_)
  have hP : va_P D classes [(hs, .inr (6, [.ref hp, .ref hq, .ref hc, .ref hk0, .ref hg0, .ref hw0, .ref pic, .long kn, .int (iI c1), .int (iI c2), .int (iI c3), .int (iI c4)])), (hk0, .inr (5, [.ref hp, .ref hq, .ref hc, .int (iI wf), .int (iI sd), .int (iI so), .int (iI sr), .int (iI dd), .int (iI on), .int (iI rs), .int (iI fx0), .int (iI fy0), .int (iI ax0), .int (iI ay0), .int (iI ox0), .int (iI oy0), .int (iI ln0)])), (hp, .inr (2, [.ref pxs, .ref pys, .int (iI np), .ref pfs, .ref psh, .int (iI ns), .int (iI no)])), (pxs, .inl (cI, cap, .inl (zI px))), (pys, .inl (cI, cap, .inl (zI py))), (psh, .inl (cZ, 64, .inl (zI sh)))] H := hP
  have hD : va_D A [(hs, .inr (6, [.ref hp, .ref hq, .ref hc, .ref hk0, .ref hg0, .ref hw0, .ref pic, .long kn, .int (iI c1), .int (iI c2), .int (iI c3), .int (iI c4)])), (hk0, .inr (5, [.ref hp, .ref hq, .ref hc, .int (iI wf), .int (iI sd), .int (iI so), .int (iI sr), .int (iI dd), .int (iI on), .int (iI rs), .int (iI fx0), .int (iI fy0), .int (iI ax0), .int (iI ay0), .int (iI ox0), .int (iI oy0), .int (iI ln0)])), (hp, .inr (2, [.ref pxs, .ref pys, .int (iI np), .ref pfs, .ref psh, .int (iI ns), .int (iI no)])), (pxs, .inl (cI, cap, .inl (zI px))), (pys, .inl (cI, cap, .inl (zI py))), (psh, .inl (cZ, 64, .inl (zI sh)))] := hD
  try dsimp only at hw_1
  obtain ⟨z_1, rfl, hw_1⟩ := hw_1
  refine sr_if_eq (tgt := 14) hx hb d_SR_line_4 (by decide) (sr_bB hw_1) (fun c_4 => ?_) (fun c_4 => ?_)
  · -- T
    have c_4 := sr_bf hw_1 c_4
    exact absurd hx0 c_4
  · -- F
    have c_4 := sr_bt hw_1 c_4
    refine lv_iload_n hx hb d_SR_line_7 rfl (lv_at hl 2 rfl) ?_
    refine sr_cS_i (wr := [(hs, .inr (6, [.ref hp, .ref hq, .ref hc, .ref hk0, .ref hg0, .ref hw0, .ref pic, .long kn, .int (iI c1), .int (iI c2), .int (iI c3), .int (iI c4)])), (hk0, .inr (5, [.ref hp, .ref hq, .ref hc, .int (iI wf), .int (iI sd), .int (iI so), .int (iI sr), .int (iI dd), .int (iI on), .int (iI rs), .int (iI fx0), .int (iI fy0), .int (iI ax0), .int (iI ay0), .int (iI ox0), .int (iI oy0), .int (iI ln0)])), (hp, .inr (2, [.ref pxs, .ref pys, .int (iI np), .ref pfs, .ref psh, .int (iI ns), .int (iI no)])), (pxs, .inl (cI, cap, .inl (zI px))), (pys, .inl (cI, cap, .inl (zI py))), (psh, .inl (cZ, 64, .inl (zI sh)))]) (As := [.int (iI y0)]) (rest := []) hx hb hml hown hts (c_SR_isCoordinate l D cI cJ cZ _ y0 (by omega)) (sr_cwS hsub hts k_cd_SR_isCoordinate k_in_SR k_m_SR_59 k_st_SR_isCoordinate g_SR_isCoordinate ⟨Nat.le_of_ble_eq_true rfl, Nat.le_of_ble_eq_true rfl⟩) hns_ok hK hN hP hD hS hA [] [0, 1, 2, 3, 4, 5] rfl (by decide) rfl (by decide) (by decide) rfl hl.1 rfl (Nat.le_of_ble_eq_true rfl) d_SR_line_8 ⟨by show _ ≤ gF np cap - cap; omega, by show _ ≤ 4 * (gF np cap - cap); omega⟩ (fun r_8 u H locs hw_8 hP hD hS => ?_)
    have hP : va_P D classes [(hs, .inr (6, [.ref hp, .ref hq, .ref hc, .ref hk0, .ref hg0, .ref hw0, .ref pic, .long kn, .int (iI c1), .int (iI c2), .int (iI c3), .int (iI c4)])), (hk0, .inr (5, [.ref hp, .ref hq, .ref hc, .int (iI wf), .int (iI sd), .int (iI so), .int (iI sr), .int (iI dd), .int (iI on), .int (iI rs), .int (iI fx0), .int (iI fy0), .int (iI ax0), .int (iI ay0), .int (iI ox0), .int (iI oy0), .int (iI ln0)])), (hp, .inr (2, [.ref pxs, .ref pys, .int (iI np), .ref pfs, .ref psh, .int (iI ns), .int (iI no)])), (pxs, .inl (cI, cap, .inl (zI px))), (pys, .inl (cI, cap, .inl (zI py))), (psh, .inl (cZ, 64, .inl (zI sh)))] H := hP
    have hD : va_D A [(hs, .inr (6, [.ref hp, .ref hq, .ref hc, .ref hk0, .ref hg0, .ref hw0, .ref pic, .long kn, .int (iI c1), .int (iI c2), .int (iI c3), .int (iI c4)])), (hk0, .inr (5, [.ref hp, .ref hq, .ref hc, .int (iI wf), .int (iI sd), .int (iI so), .int (iI sr), .int (iI dd), .int (iI on), .int (iI rs), .int (iI fx0), .int (iI fy0), .int (iI ax0), .int (iI ay0), .int (iI ox0), .int (iI oy0), .int (iI ln0)])), (hp, .inr (2, [.ref pxs, .ref pys, .int (iI np), .ref pfs, .ref psh, .int (iI ns), .int (iI no)])), (pxs, .inl (cI, cap, .inl (zI px))), (pys, .inl (cI, cap, .inl (zI py))), (psh, .inl (cZ, 64, .inl (zI sh)))] := hD
    try dsimp only at hw_8
    obtain ⟨z_8, rfl, hw_8⟩ := hw_8
    refine sr_if_ne (tgt := 24) hx hb d_SR_line_11 (by decide) (sr_bB hw_8) (fun c_11 => ?_) (fun c_11 => ?_)
    · -- T
      have c_11 := sr_bt hw_8 c_11
      refine lv_aload_n hx hb d_SR_line_24 rfl (lv_at hl 0 rfl) ?_
      refine va_get hx hb ht i_SR hown hK hP 0 rfl rfl 0 (by decide) (ht _ k_f_SR_10) (fun _ h9 => h9) rfl d_SR_line_25 ?_
      refine sr_iconst hx hb d_SR_line_28 ?_
      refine sr_cV_i (wr := [(hs, .inr (6, [.ref hp, .ref hq, .ref hc, .ref hk0, .ref hg0, .ref hw0, .ref pic, .long kn, .int (iI c1), .int (iI c2), .int (iI c3), .int (iI c4)])), (hk0, .inr (5, [.ref hp, .ref hq, .ref hc, .int (iI wf), .int (iI sd), .int (iI so), .int (iI sr), .int (iI dd), .int (iI on), .int (iI rs), .int (iI fx0), .int (iI fy0), .int (iI ax0), .int (iI ay0), .int (iI ox0), .int (iI oy0), .int (iI ln0)])), (pxs, .inl (cI, cap, .inl (zI px))), (pys, .inl (cI, cap, .inl (zI py)))]) (As := [.int (iI 1)]) (rest := []) (b := hp) (q0 := 2) hx hb hml hown hts (c_Path_takes l D cI cJ cZ _ hp pxs pys np pfs psh ns no sh 1 (by omega) (by omega) (hsh) (by omega) (by omega)) (sr_cwV hsub hts k_cd_Path_takes k_in_Path k_m_SR_89 k_im_Path_takes k_se_Path_takes g_Path_takes ⟨Nat.le_of_ble_eq_true rfl, Nat.le_of_ble_eq_true rfl⟩) hns_ok hK hN hP hD hS hA [2, 5] [0, 1, 3, 4] rfl (by decide) rfl (by decide) (by decide) rfl rfl rfl hl.1 rfl (Nat.le_of_ble_eq_true rfl) d_SR_line_29 ⟨by show _ ≤ gF np cap - cap; omega, by show _ ≤ 4 * (gF np cap - cap); omega⟩ (fun r_29 u H locs hw_29 hP hD hS => ?_)
      have hP : va_P D classes [(hs, .inr (6, [.ref hp, .ref hq, .ref hc, .ref hk0, .ref hg0, .ref hw0, .ref pic, .long kn, .int (iI c1), .int (iI c2), .int (iI c3), .int (iI c4)])), (hk0, .inr (5, [.ref hp, .ref hq, .ref hc, .int (iI wf), .int (iI sd), .int (iI so), .int (iI sr), .int (iI dd), .int (iI on), .int (iI rs), .int (iI fx0), .int (iI fy0), .int (iI ax0), .int (iI ay0), .int (iI ox0), .int (iI oy0), .int (iI ln0)])), (pxs, .inl (cI, cap, .inl (zI px))), (pys, .inl (cI, cap, .inl (zI py))), (hp, .inr (2, [.ref pxs, .ref pys, .int (iI np), .ref pfs, .ref psh, .int (iI ns), .int (iI no)])), (psh, .inl (cZ, 64, .inl (zI sh)))] H := hP
      have hD : va_D A [(hs, .inr (6, [.ref hp, .ref hq, .ref hc, .ref hk0, .ref hg0, .ref hw0, .ref pic, .long kn, .int (iI c1), .int (iI c2), .int (iI c3), .int (iI c4)])), (hk0, .inr (5, [.ref hp, .ref hq, .ref hc, .int (iI wf), .int (iI sd), .int (iI so), .int (iI sr), .int (iI dd), .int (iI on), .int (iI rs), .int (iI fx0), .int (iI fy0), .int (iI ax0), .int (iI ay0), .int (iI ox0), .int (iI oy0), .int (iI ln0)])), (pxs, .inl (cI, cap, .inl (zI px))), (pys, .inl (cI, cap, .inl (zI py))), (hp, .inr (2, [.ref pxs, .ref pys, .int (iI np), .ref pfs, .ref psh, .int (iI ns), .int (iI no)])), (psh, .inl (cZ, 64, .inl (zI sh)))] := hD
      try dsimp only at hw_29
      obtain ⟨z_29, rfl, hw_29⟩ := hw_29
      refine sr_if_ne (tgt := 45) hx hb d_SR_line_32 (by decide) (sr_bB hw_29) (fun c_32 => ?_) (fun c_32 => ?_)
      · -- T
        have c_32 := sr_bt hw_29 c_32
        refine lv_aload_n hx hb d_SR_line_45 rfl (lv_at hl 0 rfl) ?_
        refine va_get hx hb ht i_SR hown hK hP 0 rfl rfl 0 (by decide) (ht _ k_f_SR_10) (fun _ h9 => h9) rfl d_SR_line_46 ?_
        refine lv_iload_n hx hb d_SR_line_49 rfl (lv_at hl 1 rfl) ?_
        refine lv_iload_n hx hb d_SR_line_50 rfl (lv_at hl 2 rfl) ?_
        refine sr_cV_v (wr := [(hs, .inr (6, [.ref hp, .ref hq, .ref hc, .ref hk0, .ref hg0, .ref hw0, .ref pic, .long kn, .int (iI c1), .int (iI c2), .int (iI c3), .int (iI c4)])), (hk0, .inr (5, [.ref hp, .ref hq, .ref hc, .int (iI wf), .int (iI sd), .int (iI so), .int (iI sr), .int (iI dd), .int (iI on), .int (iI rs), .int (iI fx0), .int (iI fy0), .int (iI ax0), .int (iI ay0), .int (iI ox0), .int (iI oy0), .int (iI ln0)])), (psh, .inl (cZ, 64, .inl (zI sh)))]) (As := [.int (iI x0), .int (iI y0)]) (rest := []) (b := hp) (q0 := 4) hx hb hml hown hts (c_Path_put l D cI cJ cZ _ hp pxs pys np pfs psh ns no cap px py x0 y0 (by omega) (by omega) (by omega) (hcq)) (sr_cwV hsub hts k_cd_Path_put k_in_Path k_m_SR_94 k_im_Path_put k_se_Path_put g_Path_put ⟨Nat.le_of_ble_eq_true rfl, Nat.le_of_ble_eq_true rfl⟩) hns_ok hK hN hP hD hS hA [4, 2, 3] [0, 1, 5] rfl (by decide) rfl (by decide) (by decide) rfl rfl rfl hl.1 rfl (Nat.le_of_ble_eq_true rfl) d_SR_line_51 ⟨by show 0 + (gF np cap - cap) ≤ gF np cap - cap; omega, by show 0 + 4 * (gF np cap - cap) ≤ 4 * (gF np cap - cap); omega⟩ (fun u H locs hw_51 hP hD hS => ?_)
        obtain ⟨qx_51, qy_51, gx_51, gy_51⟩ := u
        have hP : va_P D classes [(hs, .inr (6, [.ref hp, .ref hq, .ref hc, .ref hk0, .ref hg0, .ref hw0, .ref pic, .long kn, .int (iI c1), .int (iI c2), .int (iI c3), .int (iI c4)])), (hk0, .inr (5, [.ref hp, .ref hq, .ref hc, .int (iI wf), .int (iI sd), .int (iI so), .int (iI sr), .int (iI dd), .int (iI on), .int (iI rs), .int (iI fx0), .int (iI fy0), .int (iI ax0), .int (iI ay0), .int (iI ox0), .int (iI oy0), .int (iI ln0)])), (psh, .inl (cZ, 64, .inl (zI sh))), (hp, .inr (2, [.ref qx_51, .ref qy_51, .int (iI (np + 1)), .ref pfs, .ref psh, .int (iI ns), .int (iI no)])), (qx_51, .inl (cI, gF np cap, .inl (zI gx_51))), (qy_51, .inl (cI, gF np cap, .inl (zI gy_51)))] H := hP
        have hD : va_D A [(hs, .inr (6, [.ref hp, .ref hq, .ref hc, .ref hk0, .ref hg0, .ref hw0, .ref pic, .long kn, .int (iI c1), .int (iI c2), .int (iI c3), .int (iI c4)])), (hk0, .inr (5, [.ref hp, .ref hq, .ref hc, .int (iI wf), .int (iI sd), .int (iI so), .int (iI sr), .int (iI dd), .int (iI on), .int (iI rs), .int (iI fx0), .int (iI fy0), .int (iI ax0), .int (iI ay0), .int (iI ox0), .int (iI oy0), .int (iI ln0)])), (psh, .inl (cZ, 64, .inl (zI sh))), (hp, .inr (2, [.ref qx_51, .ref qy_51, .int (iI (np + 1)), .ref pfs, .ref psh, .int (iI ns), .int (iI no)])), (qx_51, .inl (cI, gF np cap, .inl (zI gx_51))), (qy_51, .inl (cI, gF np cap, .inl (zI gy_51)))] := hD
        try dsimp only at hw_51
        refine W.widen (k := gF np cap - cap) (n := 4 * (gF np cap - cap)) (by omega) (by omega) ?_
        refine lv_aload_n hx hb d_SR_line_54 rfl (lv_at hl 0 rfl) ?_
        refine sr_cV_v (wr := [(psh, .inl (cZ, 64, .inl (zI sh))), (hp, .inr (2, [.ref qx_51, .ref qy_51, .int (iI (np + 1)), .ref pfs, .ref psh, .int (iI ns), .int (iI no)])), (qx_51, .inl (cI, gF np cap, .inl (zI gx_51))), (qy_51, .inl (cI, gF np cap, .inl (zI gy_51)))]) (As := []) (rest := []) (b := hs) (q0 := 0) hx hb hml hown hts (c_SR_forget l D cI cJ cZ _ hs hp hq hc hk0 hg0 hw0 pic kn c1 c2 c3 c4 wf sd so sr dd on rs fx0 fy0 ax0 ay0 ox0 oy0 ln0 ) (sr_cwV hsub hts k_cd_SR_forget k_in_SR k_m_SR_86 k_im_SR_forget k_se_SR_forget g_SR_forget ⟨Nat.le_of_ble_eq_true rfl, Nat.le_of_ble_eq_true rfl⟩) hns_ok hK hN hP hD hS hA [0, 1] [2, 3, 4, 5] rfl (by decide) rfl (by decide) (by decide) rfl rfl rfl hl.1 rfl (Nat.le_of_ble_eq_true rfl) d_SR_line_55 ⟨by show _ ≤ gF np cap - cap; omega, by show _ ≤ 4 * (gF np cap - cap); omega⟩ (fun u H locs hw_55 hP hD hS => ?_)
        have hP : va_P D classes [(psh, .inl (cZ, 64, .inl (zI sh))), (hp, .inr (2, [.ref qx_51, .ref qy_51, .int (iI (np + 1)), .ref pfs, .ref psh, .int (iI ns), .int (iI no)])), (qx_51, .inl (cI, gF np cap, .inl (zI gx_51))), (qy_51, .inl (cI, gF np cap, .inl (zI gy_51))), (hs, .inr (6, [.ref hp, .ref hq, .ref hc, .ref hk0, .ref hg0, .ref hw0, .ref pic, .long (lI 0), .int (iI c1), .int (iI c2), .int (iI c3), .int (iI c4)])), (hk0, .inr (5, [.ref hp, .ref hq, .ref hc, .int (iI 0), .int (iI sd), .int (iI so), .int (iI sr), .int (iI dd), .int (iI on), .int (iI rs), .int (iI fx0), .int (iI fy0), .int (iI ax0), .int (iI ay0), .int (iI ox0), .int (iI oy0), .int (iI ln0)]))] H := hP
        have hD : va_D A [(psh, .inl (cZ, 64, .inl (zI sh))), (hp, .inr (2, [.ref qx_51, .ref qy_51, .int (iI (np + 1)), .ref pfs, .ref psh, .int (iI ns), .int (iI no)])), (qx_51, .inl (cI, gF np cap, .inl (zI gx_51))), (qy_51, .inl (cI, gF np cap, .inl (zI gy_51))), (hs, .inr (6, [.ref hp, .ref hq, .ref hc, .ref hk0, .ref hg0, .ref hw0, .ref pic, .long (lI 0), .int (iI c1), .int (iI c2), .int (iI c3), .int (iI c4)])), (hk0, .inr (5, [.ref hp, .ref hq, .ref hc, .int (iI 0), .int (iI sd), .int (iI so), .int (iI sr), .int (iI dd), .int (iI on), .int (iI rs), .int (iI fx0), .int (iI fy0), .int (iI ax0), .int (iI ay0), .int (iI ox0), .int (iI oy0), .int (iI ln0)]))] := hD
        try dsimp only at hw_55
        refine lv_aload_n hx hb d_SR_line_58 rfl (lv_at hl 0 rfl) ?_
        refine va_get hx hb ht i_SR hown hK hP 4 rfl rfl 0 (by decide) (ht _ k_f_SR_10) (fun _ h9 => h9) rfl d_SR_line_59 ?_
        refine va_get hx hb ht i_Path hown hK hP 1 rfl rfl 2 (by decide) (ht _ k_f_SR_74) (fun _ h9 => h9) rfl d_SR_line_62 ?_
        exact sr_iret (qx_51, qy_51, gx_51, gy_51) hx hb hr hlocks (hP.sub [4, 5, 1, 2, 3, 0] rfl) (hD.sub [4, 5, 1, 2, 3, 0] (by decide) rfl) hS d_SR_line_65 (⟨rfl, hw_51⟩)
      · -- F
        have c_32 := sr_bf hw_29 c_32
        exact absurd ⟨hop, by omega⟩ c_32
    · -- F
      have c_11 := sr_bf hw_8 c_11
      exact absurd hy0 c_11

set_option maxHeartbeats 4000000 in
set_option maxRecDepth 100000 in
theorem c_SR_curve (l : Launch) (D : va_G) (cI cJ cZ : ClassId) (sz : Nat) (hs : Nat) (hp : Nat) (hq : Nat) (hc : Nat) (hk0 : Nat) (hg0 : Nat) (hw0 : Nat) (pic : Nat) (kn : Int64) (c1 : Int) (c2 : Int) (c3 : Int) (c4 : Int) (wf : Int) (sd : Int) (so : Int) (sr : Int) (dd : Int) (on : Int) (rs : Int) (fx0 : Int) (fy0 : Int) (ax0 : Int) (ay0 : Int) (ox0 : Int) (oy0 : Int) (ln0 : Int) (pxs : Nat) (pys : Nat) (np : Int) (pfs : Nat) (psh : Nat) (ns : Int) (no : Int) (cap : Nat) (px : Int → Int) (py : Int → Int) (sh : Int → Int) (x0 : Int) (y0 : Int) (hx0 : -8192 ≤ x0 ∧ x0 ≤ 8191) (hy0 : -8192 ≤ y0 ∧ y0 ≤ 8191) (h0 : 0 ≤ np) (h0b : 1 ≤ np) (h1 : np + 16 ≤ 1024) (h2 : np ≤ cap) (hcq : capP cap) (hns : 0 ≤ ns ∧ ns ≤ 64) (hsh : ∀ j, sh j = 0 ∨ sh j = 1) (hop : (0 < ns ∧ sh (ns - 1) = 0)) (hcx : coP c1 ∧ coP c2 ∧ coP c3 ∧ coP c4) (hpx : coP (px (np - 1)) ∧ coP (py (np - 1))) : Met l y_SR_curve (.code y_SR_curve b_SR_curve 3 (some .int) :: allw) ({ frames := 4, cells := gFn np cap 16 - cap, slots := 4 * (gFn np cap 16 - cap), locals := 104 } : Room) (va_Pc [.ref hs, .int (iI x0), .int (iI y0)] (sr_U D classes [(cI, .int), (cJ, .long), (cZ, .boolean)] nestw [(hs, .inr (6, [.ref hp, .ref hq, .ref hc, .ref hk0, .ref hg0, .ref hw0, .ref pic, .long kn, .int (iI c1), .int (iI c2), .int (iI c3), .int (iI c4)])), (hk0, .inr (5, [.ref hp, .ref hq, .ref hc, .int (iI wf), .int (iI sd), .int (iI so), .int (iI sr), .int (iI dd), .int (iI on), .int (iI rs), .int (iI fx0), .int (iI fy0), .int (iI ax0), .int (iI ay0), .int (iI ox0), .int (iI oy0), .int (iI ln0)])), (hp, .inr (2, [.ref pxs, .ref pys, .int (iI np), .ref pfs, .ref psh, .int (iI ns), .int (iI no)])), (pxs, .inl (cI, cap, .inl (zI px))), (pys, .inl (cI, cap, .inl (zI py))), (psh, .inl (cZ, 64, .inl (zI sh)))] sz)) (va_Qi (fun (r : Int32) => fun (u : Nat × Nat × (Int → Int) × (Int → Int)) => r = iI (np + 16) ∧ (∀ j, 0 ≤ j → j < np → u.2.2.1 j = px j) ∧ (∀ i, 1 ≤ i → i < 17 → u.2.2.1 (np + (i - 1)) = bez (px (np - 1)) c1 c3 x0 i) ∧ (∀ j, 0 ≤ j → j < np → u.2.2.2 j = py j) ∧ (∀ i, 1 ≤ i → i < 17 → u.2.2.2 (np + (i - 1)) = bez (py (np - 1)) c2 c4 y0 i)) (sr_B D classes (va_A [(hs, .inr (6, [.ref hp, .ref hq, .ref hc, .ref hk0, .ref hg0, .ref hw0, .ref pic, .long kn, .int (iI c1), .int (iI c2), .int (iI c3), .int (iI c4)])), (hk0, .inr (5, [.ref hp, .ref hq, .ref hc, .int (iI wf), .int (iI sd), .int (iI so), .int (iI sr), .int (iI dd), .int (iI on), .int (iI rs), .int (iI fx0), .int (iI fy0), .int (iI ax0), .int (iI ay0), .int (iI ox0), .int (iI oy0), .int (iI ln0)])), (hp, .inr (2, [.ref pxs, .ref pys, .int (iI np), .ref pfs, .ref psh, .int (iI ns), .int (iI no)])), (pxs, .inl (cI, cap, .inl (zI px))), (pys, .inl (cI, cap, .inl (zI py))), (psh, .inl (cZ, 64, .inl (zI sh)))] sz) (fun (u : Nat × Nat × (Int → Int) × (Int → Int)) => [(hs, .inr (6, [.ref hp, .ref hq, .ref hc, .ref hk0, .ref hg0, .ref hw0, .ref pic, .long (lI 0), .int (iI c1), .int (iI c2), .int (iI c3), .int (iI c4)])), (hk0, .inr (5, [.ref hp, .ref hq, .ref hc, .int (iI 0), .int (iI sd), .int (iI so), .int (iI sr), .int (iI dd), .int (iI on), .int (iI rs), .int (iI fx0), .int (iI fy0), .int (iI ax0), .int (iI ay0), .int (iI ox0), .int (iI oy0), .int (iI ln0)])), (hp, .inr (2, [.ref u.1, .ref u.2.1, .int (iI (np + 16)), .ref pfs, .ref psh, .int (iI ns), .int (iI no)])), (u.1, .inl (cI, gFn np cap 16, .inl (zI u.2.2.1))), (u.2.1, .inl (cI, gFn np cap 16, .inl (zI u.2.2.2))), (psh, .inl (cZ, 64, .inl (zI sh)))])) (va_A [(hs, .inr (6, [.ref hp, .ref hq, .ref hc, .ref hk0, .ref hg0, .ref hw0, .ref pic, .long kn, .int (iI c1), .int (iI c2), .int (iI c3), .int (iI c4)])), (hk0, .inr (5, [.ref hp, .ref hq, .ref hc, .int (iI wf), .int (iI sd), .int (iI so), .int (iI sr), .int (iI dd), .int (iI on), .int (iI rs), .int (iI fx0), .int (iI fy0), .int (iI ax0), .int (iI ay0), .int (iI ox0), .int (iI oy0), .int (iI ln0)])), (hp, .inr (2, [.ref pxs, .ref pys, .int (iI np), .ref pfs, .ref psh, .int (iI ns), .int (iI no)])), (pxs, .inl (cI, cap, .inl (zI px))), (pys, .inl (cI, cap, .inl (zI py))), (psh, .inl (cZ, 64, .inl (zI sh)))] sz)) (gFn np cap 16 - cap) (4 * (gFn np cap 16 - cap)) (va_A [(hs, .inr (6, [.ref hp, .ref hq, .ref hc, .ref hk0, .ref hg0, .ref hw0, .ref pic, .long kn, .int (iI c1), .int (iI c2), .int (iI c3), .int (iI c4)])), (hk0, .inr (5, [.ref hp, .ref hq, .ref hc, .int (iI wf), .int (iI sd), .int (iI so), .int (iI sr), .int (iI dd), .int (iI on), .int (iI rs), .int (iI fx0), .int (iI fy0), .int (iI ax0), .int (iI ay0), .int (iI ox0), .int (iI oy0), .int (iI ln0)])), (hp, .inr (2, [.ref pxs, .ref pys, .int (iI np), .ref pfs, .ref psh, .int (iI ns), .int (iI no)])), (pxs, .inl (cI, cap, .inl (zI px))), (pys, .inl (cI, cap, .inl (zI py))), (psh, .inl (cZ, 64, .inl (zI sh)))] sz) := by
  refine sr_enter (Qf := fun A => va_Qi (fun (r : Int32) => fun (u : Nat × Nat × (Int → Int) × (Int → Int)) => r = iI (np + 16) ∧ (∀ j, 0 ≤ j → j < np → u.2.2.1 j = px j) ∧ (∀ i, 1 ≤ i → i < 17 → u.2.2.1 (np + (i - 1)) = bez (px (np - 1)) c1 c3 x0 i) ∧ (∀ j, 0 ≤ j → j < np → u.2.2.2 j = py j) ∧ (∀ i, 1 ≤ i → i < 17 → u.2.2.2 (np + (i - 1)) = bez (py (np - 1)) c2 c4 y0 i)) (sr_B D classes A (fun (u : Nat × Nat × (Int → Int) × (Int → Int)) => [(hs, .inr (6, [.ref hp, .ref hq, .ref hc, .ref hk0, .ref hg0, .ref hw0, .ref pic, .long (lI 0), .int (iI c1), .int (iI c2), .int (iI c3), .int (iI c4)])), (hk0, .inr (5, [.ref hp, .ref hq, .ref hc, .int (iI 0), .int (iI sd), .int (iI so), .int (iI sr), .int (iI dd), .int (iI on), .int (iI rs), .int (iI fx0), .int (iI fy0), .int (iI ax0), .int (iI ay0), .int (iI ox0), .int (iI oy0), .int (iI ln0)])), (hp, .inr (2, [.ref u.1, .ref u.2.1, .int (iI (np + 16)), .ref pfs, .ref psh, .int (iI ns), .int (iI no)])), (u.1, .inl (cI, gFn np cap 16, .inl (zI u.2.2.1))), (u.2.1, .inl (cI, gFn np cap 16, .inl (zI u.2.2.2))), (psh, .inl (cZ, 64, .inl (zI sh)))])) A) (by decide +kernel) rfl (Nat.le_of_ble_eq_true rfl) ?_
  intro p e s m below meth c A ls hx hb hr hml hown hlocks hin hts hsz hP hK hD hN hA hS hl
  have ht : ∀ w ∈ allw, w.before _ s = true := fun w h => hts w (List.mem_cons_of_mem _ h)
  have hsub : ∀ w ∈ allw, w ∈ _ := fun w h => List.mem_cons_of_mem (Cond.code y_SR_curve b_SR_curve 3 (some .int)) h
  have hl : lv_has ls 3 [(0, .ref hs), (1, .int (iI x0)), (2, .int (iI y0))] := hl
  have hP : va_P D classes [(hs, .inr (6, [.ref hp, .ref hq, .ref hc, .ref hk0, .ref hg0, .ref hw0, .ref pic, .long kn, .int (iI c1), .int (iI c2), .int (iI c3), .int (iI c4)])), (hk0, .inr (5, [.ref hp, .ref hq, .ref hc, .int (iI wf), .int (iI sd), .int (iI so), .int (iI sr), .int (iI dd), .int (iI on), .int (iI rs), .int (iI fx0), .int (iI fy0), .int (iI ax0), .int (iI ay0), .int (iI ox0), .int (iI oy0), .int (iI ln0)])), (hp, .inr (2, [.ref pxs, .ref pys, .int (iI np), .ref pfs, .ref psh, .int (iI ns), .int (iI no)])), (pxs, .inl (cI, cap, .inl (zI px))), (pys, .inl (cI, cap, .inl (zI py))), (psh, .inl (cZ, 64, .inl (zI sh)))] s.heap := hP
  refine lv_iload_n hx hb d_SR_curve_0 rfl (lv_at hl 1 rfl) ?_
  refine sr_cS_i (wr := [(hs, .inr (6, [.ref hp, .ref hq, .ref hc, .ref hk0, .ref hg0, .ref hw0, .ref pic, .long kn, .int (iI c1), .int (iI c2), .int (iI c3), .int (iI c4)])), (hk0, .inr (5, [.ref hp, .ref hq, .ref hc, .int (iI wf), .int (iI sd), .int (iI so), .int (iI sr), .int (iI dd), .int (iI on), .int (iI rs), .int (iI fx0), .int (iI fy0), .int (iI ax0), .int (iI ay0), .int (iI ox0), .int (iI oy0), .int (iI ln0)])), (hp, .inr (2, [.ref pxs, .ref pys, .int (iI np), .ref pfs, .ref psh, .int (iI ns), .int (iI no)])), (pxs, .inl (cI, cap, .inl (zI px))), (pys, .inl (cI, cap, .inl (zI py))), (psh, .inl (cZ, 64, .inl (zI sh)))]) (As := [.int (iI x0)]) (rest := []) hx hb hml hown hts (c_SR_isCoordinate l D cI cJ cZ _ x0 (by omega)) (sr_cwS hsub hts k_cd_SR_isCoordinate k_in_SR k_m_SR_59 k_st_SR_isCoordinate g_SR_isCoordinate ⟨Nat.le_of_ble_eq_true rfl, Nat.le_of_ble_eq_true rfl⟩) hns_ok hK hN hP hD hS hA [] [0, 1, 2, 3, 4, 5] rfl (by decide) rfl (by decide) (by decide) rfl hl.1 rfl (Nat.le_of_ble_eq_true rfl) d_SR_curve_1 ⟨by show _ ≤ gFn np cap 16 - cap; omega, by show _ ≤ 4 * (gFn np cap 16 - cap); omega⟩ (fun r_1 u H locs hw_1 hP hD hS => ?_)
  have hP : va_P D classes [(hs, .inr (6, [.ref hp, .ref hq, .ref hc, .ref hk0, .ref hg0, .ref hw0, .ref pic, .long kn, .int (iI c1), .int (iI c2), .int (iI c3), .int (iI c4)])), (hk0, .inr (5, [.ref hp, .ref hq, .ref hc, .int (iI wf), .int (iI sd), .int (iI so), .int (iI sr), .int (iI dd), .int (iI on), .int (iI rs), .int (iI fx0), .int (iI fy0), .int (iI ax0), .int (iI ay0), .int (iI ox0), .int (iI oy0), .int (iI ln0)])), (hp, .inr (2, [.ref pxs, .ref pys, .int (iI np), .ref pfs, .ref psh, .int (iI ns), .int (iI no)])), (pxs, .inl (cI, cap, .inl (zI px))), (pys, .inl (cI, cap, .inl (zI py))), (psh, .inl (cZ, 64, .inl (zI sh)))] H := hP
  have hD : va_D A [(hs, .inr (6, [.ref hp, .ref hq, .ref hc, .ref hk0, .ref hg0, .ref hw0, .ref pic, .long kn, .int (iI c1), .int (iI c2), .int (iI c3), .int (iI c4)])), (hk0, .inr (5, [.ref hp, .ref hq, .ref hc, .int (iI wf), .int (iI sd), .int (iI so), .int (iI sr), .int (iI dd), .int (iI on), .int (iI rs), .int (iI fx0), .int (iI fy0), .int (iI ax0), .int (iI ay0), .int (iI ox0), .int (iI oy0), .int (iI ln0)])), (hp, .inr (2, [.ref pxs, .ref pys, .int (iI np), .ref pfs, .ref psh, .int (iI ns), .int (iI no)])), (pxs, .inl (cI, cap, .inl (zI px))), (pys, .inl (cI, cap, .inl (zI py))), (psh, .inl (cZ, 64, .inl (zI sh)))] := hD
  try dsimp only at hw_1
  obtain ⟨z_1, rfl, hw_1⟩ := hw_1
  refine sr_if_eq (tgt := 14) hx hb d_SR_curve_4 (by decide) (sr_bB hw_1) (fun c_4 => ?_) (fun c_4 => ?_)
  · -- T
    have c_4 := sr_bf hw_1 c_4
    exact absurd hx0 c_4
  · -- F
    have c_4 := sr_bt hw_1 c_4
    refine lv_iload_n hx hb d_SR_curve_7 rfl (lv_at hl 2 rfl) ?_
    refine sr_cS_i (wr := [(hs, .inr (6, [.ref hp, .ref hq, .ref hc, .ref hk0, .ref hg0, .ref hw0, .ref pic, .long kn, .int (iI c1), .int (iI c2), .int (iI c3), .int (iI c4)])), (hk0, .inr (5, [.ref hp, .ref hq, .ref hc, .int (iI wf), .int (iI sd), .int (iI so), .int (iI sr), .int (iI dd), .int (iI on), .int (iI rs), .int (iI fx0), .int (iI fy0), .int (iI ax0), .int (iI ay0), .int (iI ox0), .int (iI oy0), .int (iI ln0)])), (hp, .inr (2, [.ref pxs, .ref pys, .int (iI np), .ref pfs, .ref psh, .int (iI ns), .int (iI no)])), (pxs, .inl (cI, cap, .inl (zI px))), (pys, .inl (cI, cap, .inl (zI py))), (psh, .inl (cZ, 64, .inl (zI sh)))]) (As := [.int (iI y0)]) (rest := []) hx hb hml hown hts (c_SR_isCoordinate l D cI cJ cZ _ y0 (by omega)) (sr_cwS hsub hts k_cd_SR_isCoordinate k_in_SR k_m_SR_59 k_st_SR_isCoordinate g_SR_isCoordinate ⟨Nat.le_of_ble_eq_true rfl, Nat.le_of_ble_eq_true rfl⟩) hns_ok hK hN hP hD hS hA [] [0, 1, 2, 3, 4, 5] rfl (by decide) rfl (by decide) (by decide) rfl hl.1 rfl (Nat.le_of_ble_eq_true rfl) d_SR_curve_8 ⟨by show _ ≤ gFn np cap 16 - cap; omega, by show _ ≤ 4 * (gFn np cap 16 - cap); omega⟩ (fun r_8 u H locs hw_8 hP hD hS => ?_)
    have hP : va_P D classes [(hs, .inr (6, [.ref hp, .ref hq, .ref hc, .ref hk0, .ref hg0, .ref hw0, .ref pic, .long kn, .int (iI c1), .int (iI c2), .int (iI c3), .int (iI c4)])), (hk0, .inr (5, [.ref hp, .ref hq, .ref hc, .int (iI wf), .int (iI sd), .int (iI so), .int (iI sr), .int (iI dd), .int (iI on), .int (iI rs), .int (iI fx0), .int (iI fy0), .int (iI ax0), .int (iI ay0), .int (iI ox0), .int (iI oy0), .int (iI ln0)])), (hp, .inr (2, [.ref pxs, .ref pys, .int (iI np), .ref pfs, .ref psh, .int (iI ns), .int (iI no)])), (pxs, .inl (cI, cap, .inl (zI px))), (pys, .inl (cI, cap, .inl (zI py))), (psh, .inl (cZ, 64, .inl (zI sh)))] H := hP
    have hD : va_D A [(hs, .inr (6, [.ref hp, .ref hq, .ref hc, .ref hk0, .ref hg0, .ref hw0, .ref pic, .long kn, .int (iI c1), .int (iI c2), .int (iI c3), .int (iI c4)])), (hk0, .inr (5, [.ref hp, .ref hq, .ref hc, .int (iI wf), .int (iI sd), .int (iI so), .int (iI sr), .int (iI dd), .int (iI on), .int (iI rs), .int (iI fx0), .int (iI fy0), .int (iI ax0), .int (iI ay0), .int (iI ox0), .int (iI oy0), .int (iI ln0)])), (hp, .inr (2, [.ref pxs, .ref pys, .int (iI np), .ref pfs, .ref psh, .int (iI ns), .int (iI no)])), (pxs, .inl (cI, cap, .inl (zI px))), (pys, .inl (cI, cap, .inl (zI py))), (psh, .inl (cZ, 64, .inl (zI sh)))] := hD
    try dsimp only at hw_8
    obtain ⟨z_8, rfl, hw_8⟩ := hw_8
    refine sr_if_ne (tgt := 24) hx hb d_SR_curve_11 (by decide) (sr_bB hw_8) (fun c_11 => ?_) (fun c_11 => ?_)
    · -- T
      have c_11 := sr_bt hw_8 c_11
      refine lv_aload_n hx hb d_SR_curve_24 rfl (lv_at hl 0 rfl) ?_
      refine va_get hx hb ht i_SR hown hK hP 0 rfl rfl 0 (by decide) (ht _ k_f_SR_10) (fun _ h9 => h9) rfl d_SR_curve_25 ?_
      refine sr_bipush hx hb d_SR_curve_28 (by decide) ?_
      refine sr_cV_i (wr := [(hs, .inr (6, [.ref hp, .ref hq, .ref hc, .ref hk0, .ref hg0, .ref hw0, .ref pic, .long kn, .int (iI c1), .int (iI c2), .int (iI c3), .int (iI c4)])), (hk0, .inr (5, [.ref hp, .ref hq, .ref hc, .int (iI wf), .int (iI sd), .int (iI so), .int (iI sr), .int (iI dd), .int (iI on), .int (iI rs), .int (iI fx0), .int (iI fy0), .int (iI ax0), .int (iI ay0), .int (iI ox0), .int (iI oy0), .int (iI ln0)])), (pxs, .inl (cI, cap, .inl (zI px))), (pys, .inl (cI, cap, .inl (zI py)))]) (As := [.int (iI 16)]) (rest := []) (b := hp) (q0 := 2) hx hb hml hown hts (c_Path_takes l D cI cJ cZ _ hp pxs pys np pfs psh ns no sh 16 (by omega) (by omega) (hsh) (by omega) (by omega)) (sr_cwV hsub hts k_cd_Path_takes k_in_Path k_m_SR_89 k_im_Path_takes k_se_Path_takes g_Path_takes ⟨Nat.le_of_ble_eq_true rfl, Nat.le_of_ble_eq_true rfl⟩) hns_ok hK hN hP hD hS hA [2, 5] [0, 1, 3, 4] rfl (by decide) rfl (by decide) (by decide) rfl rfl rfl hl.1 rfl (Nat.le_of_ble_eq_true rfl) d_SR_curve_30 ⟨by show _ ≤ gFn np cap 16 - cap; omega, by show _ ≤ 4 * (gFn np cap 16 - cap); omega⟩ (fun r_30 u H locs hw_30 hP hD hS => ?_)
      have hP : va_P D classes [(hs, .inr (6, [.ref hp, .ref hq, .ref hc, .ref hk0, .ref hg0, .ref hw0, .ref pic, .long kn, .int (iI c1), .int (iI c2), .int (iI c3), .int (iI c4)])), (hk0, .inr (5, [.ref hp, .ref hq, .ref hc, .int (iI wf), .int (iI sd), .int (iI so), .int (iI sr), .int (iI dd), .int (iI on), .int (iI rs), .int (iI fx0), .int (iI fy0), .int (iI ax0), .int (iI ay0), .int (iI ox0), .int (iI oy0), .int (iI ln0)])), (pxs, .inl (cI, cap, .inl (zI px))), (pys, .inl (cI, cap, .inl (zI py))), (hp, .inr (2, [.ref pxs, .ref pys, .int (iI np), .ref pfs, .ref psh, .int (iI ns), .int (iI no)])), (psh, .inl (cZ, 64, .inl (zI sh)))] H := hP
      have hD : va_D A [(hs, .inr (6, [.ref hp, .ref hq, .ref hc, .ref hk0, .ref hg0, .ref hw0, .ref pic, .long kn, .int (iI c1), .int (iI c2), .int (iI c3), .int (iI c4)])), (hk0, .inr (5, [.ref hp, .ref hq, .ref hc, .int (iI wf), .int (iI sd), .int (iI so), .int (iI sr), .int (iI dd), .int (iI on), .int (iI rs), .int (iI fx0), .int (iI fy0), .int (iI ax0), .int (iI ay0), .int (iI ox0), .int (iI oy0), .int (iI ln0)])), (pxs, .inl (cI, cap, .inl (zI px))), (pys, .inl (cI, cap, .inl (zI py))), (hp, .inr (2, [.ref pxs, .ref pys, .int (iI np), .ref pfs, .ref psh, .int (iI ns), .int (iI no)])), (psh, .inl (cZ, 64, .inl (zI sh)))] := hD
      try dsimp only at hw_30
      obtain ⟨z_30, rfl, hw_30⟩ := hw_30
      refine sr_if_ne (tgt := 46) hx hb d_SR_curve_33 (by decide) (sr_bB hw_30) (fun c_33 => ?_) (fun c_33 => ?_)
      · -- T
        have c_33 := sr_bt hw_30 c_33
        refine lv_aload_n hx hb d_SR_curve_46 rfl (lv_at hl 0 rfl) ?_
        refine va_get hx hb ht i_SR hown hK hP 0 rfl rfl 0 (by decide) (ht _ k_f_SR_10) (fun _ h9 => h9) rfl d_SR_curve_47 ?_
        refine lv_aload_n hx hb d_SR_curve_50 rfl (lv_at hl 0 rfl) ?_
        refine va_get hx hb ht i_SR hown hK hP 0 rfl rfl 8 (by decide) (ht _ k_f_SR_97) (fun _ h9 => h9) rfl d_SR_curve_51 ?_
        refine lv_aload_n hx hb d_SR_curve_54 rfl (lv_at hl 0 rfl) ?_
        refine va_get hx hb ht i_SR hown hK hP 0 rfl rfl 9 (by decide) (ht _ k_f_SR_100) (fun _ h9 => h9) rfl d_SR_curve_55 ?_
        refine lv_aload_n hx hb d_SR_curve_58 rfl (lv_at hl 0 rfl) ?_
        refine va_get hx hb ht i_SR hown hK hP 0 rfl rfl 10 (by decide) (ht _ k_f_SR_103) (fun _ h9 => h9) rfl d_SR_curve_59 ?_
        refine lv_aload_n hx hb d_SR_curve_62 rfl (lv_at hl 0 rfl) ?_
        refine va_get hx hb ht i_SR hown hK hP 0 rfl rfl 11 (by decide) (ht _ k_f_SR_106) (fun _ h9 => h9) rfl d_SR_curve_63 ?_
        refine lv_iload_n hx hb d_SR_curve_66 rfl (lv_at hl 1 rfl) ?_
        refine lv_iload_n hx hb d_SR_curve_67 rfl (lv_at hl 2 rfl) ?_
        refine sr_cV_v (wr := [(hs, .inr (6, [.ref hp, .ref hq, .ref hc, .ref hk0, .ref hg0, .ref hw0, .ref pic, .long kn, .int (iI c1), .int (iI c2), .int (iI c3), .int (iI c4)])), (hk0, .inr (5, [.ref hp, .ref hq, .ref hc, .int (iI wf), .int (iI sd), .int (iI so), .int (iI sr), .int (iI dd), .int (iI on), .int (iI rs), .int (iI fx0), .int (iI fy0), .int (iI ax0), .int (iI ay0), .int (iI ox0), .int (iI oy0), .int (iI ln0)])), (psh, .inl (cZ, 64, .inl (zI sh)))]) (As := [.int (iI c1), .int (iI c2), .int (iI c3), .int (iI c4), .int (iI x0), .int (iI y0)]) (rest := []) (b := hp) (q0 := 4) hx hb hml hown hts (c_Path_bend l D cI cJ cZ _ hp pxs pys np pfs psh ns no cap px py c1 c2 c3 c4 x0 y0 (by omega) (by omega) (by omega) (by omega) (hcq) (hcx.1) (hcx.2.1) (hcx.2.2.1) (hcx.2.2.2) (hx0) (hy0) (hpx.1) (hpx.2)) (sr_cwV hsub hts k_cd_Path_bend k_in_Path k_m_SR_109 k_im_Path_bend k_se_Path_bend g_Path_bend ⟨Nat.le_of_ble_eq_true rfl, Nat.le_of_ble_eq_true rfl⟩) hns_ok hK hN hP hD hS hA [4, 2, 3] [0, 1, 5] rfl (by decide) rfl (by decide) (by decide) rfl rfl rfl hl.1 rfl (Nat.le_of_ble_eq_true rfl) d_SR_curve_68 ⟨by show 0 + (gFn np cap 16 - cap) ≤ gFn np cap 16 - cap; omega, by show 0 + 4 * (gFn np cap 16 - cap) ≤ 4 * (gFn np cap 16 - cap); omega⟩ (fun u H locs hw_68 hP hD hS => ?_)
        obtain ⟨qx_68, qy_68, gx_68, gy_68⟩ := u
        have hP : va_P D classes [(hs, .inr (6, [.ref hp, .ref hq, .ref hc, .ref hk0, .ref hg0, .ref hw0, .ref pic, .long kn, .int (iI c1), .int (iI c2), .int (iI c3), .int (iI c4)])), (hk0, .inr (5, [.ref hp, .ref hq, .ref hc, .int (iI wf), .int (iI sd), .int (iI so), .int (iI sr), .int (iI dd), .int (iI on), .int (iI rs), .int (iI fx0), .int (iI fy0), .int (iI ax0), .int (iI ay0), .int (iI ox0), .int (iI oy0), .int (iI ln0)])), (psh, .inl (cZ, 64, .inl (zI sh))), (hp, .inr (2, [.ref qx_68, .ref qy_68, .int (iI (np + 16)), .ref pfs, .ref psh, .int (iI ns), .int (iI no)])), (qx_68, .inl (cI, gFn np cap 16, .inl (zI gx_68))), (qy_68, .inl (cI, gFn np cap 16, .inl (zI gy_68)))] H := hP
        have hD : va_D A [(hs, .inr (6, [.ref hp, .ref hq, .ref hc, .ref hk0, .ref hg0, .ref hw0, .ref pic, .long kn, .int (iI c1), .int (iI c2), .int (iI c3), .int (iI c4)])), (hk0, .inr (5, [.ref hp, .ref hq, .ref hc, .int (iI wf), .int (iI sd), .int (iI so), .int (iI sr), .int (iI dd), .int (iI on), .int (iI rs), .int (iI fx0), .int (iI fy0), .int (iI ax0), .int (iI ay0), .int (iI ox0), .int (iI oy0), .int (iI ln0)])), (psh, .inl (cZ, 64, .inl (zI sh))), (hp, .inr (2, [.ref qx_68, .ref qy_68, .int (iI (np + 16)), .ref pfs, .ref psh, .int (iI ns), .int (iI no)])), (qx_68, .inl (cI, gFn np cap 16, .inl (zI gx_68))), (qy_68, .inl (cI, gFn np cap 16, .inl (zI gy_68)))] := hD
        try dsimp only at hw_68
        refine W.widen (k := gFn np cap 16 - cap) (n := 4 * (gFn np cap 16 - cap)) (by omega) (by omega) ?_
        refine lv_aload_n hx hb d_SR_curve_71 rfl (lv_at hl 0 rfl) ?_
        refine sr_cV_v (wr := [(psh, .inl (cZ, 64, .inl (zI sh))), (hp, .inr (2, [.ref qx_68, .ref qy_68, .int (iI (np + 16)), .ref pfs, .ref psh, .int (iI ns), .int (iI no)])), (qx_68, .inl (cI, gFn np cap 16, .inl (zI gx_68))), (qy_68, .inl (cI, gFn np cap 16, .inl (zI gy_68)))]) (As := []) (rest := []) (b := hs) (q0 := 0) hx hb hml hown hts (c_SR_forget l D cI cJ cZ _ hs hp hq hc hk0 hg0 hw0 pic kn c1 c2 c3 c4 wf sd so sr dd on rs fx0 fy0 ax0 ay0 ox0 oy0 ln0 ) (sr_cwV hsub hts k_cd_SR_forget k_in_SR k_m_SR_86 k_im_SR_forget k_se_SR_forget g_SR_forget ⟨Nat.le_of_ble_eq_true rfl, Nat.le_of_ble_eq_true rfl⟩) hns_ok hK hN hP hD hS hA [0, 1] [2, 3, 4, 5] rfl (by decide) rfl (by decide) (by decide) rfl rfl rfl hl.1 rfl (Nat.le_of_ble_eq_true rfl) d_SR_curve_72 ⟨by show _ ≤ gFn np cap 16 - cap; omega, by show _ ≤ 4 * (gFn np cap 16 - cap); omega⟩ (fun u H locs hw_72 hP hD hS => ?_)
        have hP : va_P D classes [(psh, .inl (cZ, 64, .inl (zI sh))), (hp, .inr (2, [.ref qx_68, .ref qy_68, .int (iI (np + 16)), .ref pfs, .ref psh, .int (iI ns), .int (iI no)])), (qx_68, .inl (cI, gFn np cap 16, .inl (zI gx_68))), (qy_68, .inl (cI, gFn np cap 16, .inl (zI gy_68))), (hs, .inr (6, [.ref hp, .ref hq, .ref hc, .ref hk0, .ref hg0, .ref hw0, .ref pic, .long (lI 0), .int (iI c1), .int (iI c2), .int (iI c3), .int (iI c4)])), (hk0, .inr (5, [.ref hp, .ref hq, .ref hc, .int (iI 0), .int (iI sd), .int (iI so), .int (iI sr), .int (iI dd), .int (iI on), .int (iI rs), .int (iI fx0), .int (iI fy0), .int (iI ax0), .int (iI ay0), .int (iI ox0), .int (iI oy0), .int (iI ln0)]))] H := hP
        have hD : va_D A [(psh, .inl (cZ, 64, .inl (zI sh))), (hp, .inr (2, [.ref qx_68, .ref qy_68, .int (iI (np + 16)), .ref pfs, .ref psh, .int (iI ns), .int (iI no)])), (qx_68, .inl (cI, gFn np cap 16, .inl (zI gx_68))), (qy_68, .inl (cI, gFn np cap 16, .inl (zI gy_68))), (hs, .inr (6, [.ref hp, .ref hq, .ref hc, .ref hk0, .ref hg0, .ref hw0, .ref pic, .long (lI 0), .int (iI c1), .int (iI c2), .int (iI c3), .int (iI c4)])), (hk0, .inr (5, [.ref hp, .ref hq, .ref hc, .int (iI 0), .int (iI sd), .int (iI so), .int (iI sr), .int (iI dd), .int (iI on), .int (iI rs), .int (iI fx0), .int (iI fy0), .int (iI ax0), .int (iI ay0), .int (iI ox0), .int (iI oy0), .int (iI ln0)]))] := hD
        try dsimp only at hw_72
        refine lv_aload_n hx hb d_SR_curve_75 rfl (lv_at hl 0 rfl) ?_
        refine va_get hx hb ht i_SR hown hK hP 4 rfl rfl 0 (by decide) (ht _ k_f_SR_10) (fun _ h9 => h9) rfl d_SR_curve_76 ?_
        refine va_get hx hb ht i_Path hown hK hP 1 rfl rfl 2 (by decide) (ht _ k_f_SR_74) (fun _ h9 => h9) rfl d_SR_curve_79 ?_
        exact sr_iret (qx_68, qy_68, gx_68, gy_68) hx hb hr hlocks (hP.sub [4, 5, 1, 2, 3, 0] rfl) (hD.sub [4, 5, 1, 2, 3, 0] (by decide) rfl) hS d_SR_curve_82 (⟨rfl, hw_68⟩)
      · -- F
        have c_33 := sr_bf hw_30 c_33
        exact absurd ⟨hop, by omega⟩ c_33
    · -- F
      have c_11 := sr_bf hw_8 c_11
      exact absurd hy0 c_11

set_option maxHeartbeats 4000000 in
set_option maxRecDepth 100000 in
theorem c_SR_close (l : Launch) (D : va_G) (cI cJ cZ : ClassId) (sz : Nat) (hs : Nat) (hp : Nat) (hq : Nat) (hc : Nat) (hk0 : Nat) (hg0 : Nat) (hw0 : Nat) (pic : Nat) (kn : Int64) (c1 : Int) (c2 : Int) (c3 : Int) (c4 : Int) (wf : Int) (sd : Int) (so : Int) (sr : Int) (dd : Int) (on : Int) (rs : Int) (fx0 : Int) (fy0 : Int) (ax0 : Int) (ay0 : Int) (ox0 : Int) (oy0 : Int) (ln0 : Int) (pxs : Nat) (pys : Nat) (np : Int) (pfs : Nat) (psh : Nat) (ns : Int) (no : Int) (sh : Int → Int) (hns : 0 ≤ ns ∧ ns ≤ 64) (hsh : ∀ j, sh j = 0 ∨ sh j = 1) (hop : (0 < ns ∧ sh (ns - 1) = 0)) : Met l y_SR_close (.code y_SR_close b_SR_close 1 (some .int) :: allw) ({ frames := 2, cells := 0, slots := 0, locals := 40 } : Room) (va_Pc [.ref hs] (sr_U D classes [(cI, .int), (cJ, .long), (cZ, .boolean)] nestw [(hs, .inr (6, [.ref hp, .ref hq, .ref hc, .ref hk0, .ref hg0, .ref hw0, .ref pic, .long kn, .int (iI c1), .int (iI c2), .int (iI c3), .int (iI c4)])), (hk0, .inr (5, [.ref hp, .ref hq, .ref hc, .int (iI wf), .int (iI sd), .int (iI so), .int (iI sr), .int (iI dd), .int (iI on), .int (iI rs), .int (iI fx0), .int (iI fy0), .int (iI ax0), .int (iI ay0), .int (iI ox0), .int (iI oy0), .int (iI ln0)])), (hp, .inr (2, [.ref pxs, .ref pys, .int (iI np), .ref pfs, .ref psh, .int (iI ns), .int (iI no)])), (psh, .inl (cZ, 64, .inl (zI sh)))] sz)) (va_Qi (fun (r : Int32) => fun (_ : Unit) => r = iI (no + 1)) (sr_B D classes (va_A [(hs, .inr (6, [.ref hp, .ref hq, .ref hc, .ref hk0, .ref hg0, .ref hw0, .ref pic, .long kn, .int (iI c1), .int (iI c2), .int (iI c3), .int (iI c4)])), (hk0, .inr (5, [.ref hp, .ref hq, .ref hc, .int (iI wf), .int (iI sd), .int (iI so), .int (iI sr), .int (iI dd), .int (iI on), .int (iI rs), .int (iI fx0), .int (iI fy0), .int (iI ax0), .int (iI ay0), .int (iI ox0), .int (iI oy0), .int (iI ln0)])), (hp, .inr (2, [.ref pxs, .ref pys, .int (iI np), .ref pfs, .ref psh, .int (iI ns), .int (iI no)])), (psh, .inl (cZ, 64, .inl (zI sh)))] sz) (fun (_ : Unit) => [(hs, .inr (6, [.ref hp, .ref hq, .ref hc, .ref hk0, .ref hg0, .ref hw0, .ref pic, .long (lI 0), .int (iI c1), .int (iI c2), .int (iI c3), .int (iI c4)])), (hk0, .inr (5, [.ref hp, .ref hq, .ref hc, .int (iI 0), .int (iI sd), .int (iI so), .int (iI sr), .int (iI dd), .int (iI on), .int (iI rs), .int (iI fx0), .int (iI fy0), .int (iI ax0), .int (iI ay0), .int (iI ox0), .int (iI oy0), .int (iI ln0)])), (hp, .inr (2, [.ref pxs, .ref pys, .int (iI np), .ref pfs, .ref psh, .int (iI ns), .int (iI (no + 1))])), (psh, .inl (cZ, 64, .inl (zI (zup sh (ns - 1) 1))))])) (va_A [(hs, .inr (6, [.ref hp, .ref hq, .ref hc, .ref hk0, .ref hg0, .ref hw0, .ref pic, .long kn, .int (iI c1), .int (iI c2), .int (iI c3), .int (iI c4)])), (hk0, .inr (5, [.ref hp, .ref hq, .ref hc, .int (iI wf), .int (iI sd), .int (iI so), .int (iI sr), .int (iI dd), .int (iI on), .int (iI rs), .int (iI fx0), .int (iI fy0), .int (iI ax0), .int (iI ay0), .int (iI ox0), .int (iI oy0), .int (iI ln0)])), (hp, .inr (2, [.ref pxs, .ref pys, .int (iI np), .ref pfs, .ref psh, .int (iI ns), .int (iI no)])), (psh, .inl (cZ, 64, .inl (zI sh)))] sz)) 0 0 (va_A [(hs, .inr (6, [.ref hp, .ref hq, .ref hc, .ref hk0, .ref hg0, .ref hw0, .ref pic, .long kn, .int (iI c1), .int (iI c2), .int (iI c3), .int (iI c4)])), (hk0, .inr (5, [.ref hp, .ref hq, .ref hc, .int (iI wf), .int (iI sd), .int (iI so), .int (iI sr), .int (iI dd), .int (iI on), .int (iI rs), .int (iI fx0), .int (iI fy0), .int (iI ax0), .int (iI ay0), .int (iI ox0), .int (iI oy0), .int (iI ln0)])), (hp, .inr (2, [.ref pxs, .ref pys, .int (iI np), .ref pfs, .ref psh, .int (iI ns), .int (iI no)])), (psh, .inl (cZ, 64, .inl (zI sh)))] sz) := by
  refine sr_enter (Qf := fun A => va_Qi (fun (r : Int32) => fun (_ : Unit) => r = iI (no + 1)) (sr_B D classes A (fun (_ : Unit) => [(hs, .inr (6, [.ref hp, .ref hq, .ref hc, .ref hk0, .ref hg0, .ref hw0, .ref pic, .long (lI 0), .int (iI c1), .int (iI c2), .int (iI c3), .int (iI c4)])), (hk0, .inr (5, [.ref hp, .ref hq, .ref hc, .int (iI 0), .int (iI sd), .int (iI so), .int (iI sr), .int (iI dd), .int (iI on), .int (iI rs), .int (iI fx0), .int (iI fy0), .int (iI ax0), .int (iI ay0), .int (iI ox0), .int (iI oy0), .int (iI ln0)])), (hp, .inr (2, [.ref pxs, .ref pys, .int (iI np), .ref pfs, .ref psh, .int (iI ns), .int (iI (no + 1))])), (psh, .inl (cZ, 64, .inl (zI (zup sh (ns - 1) 1))))])) A) (by decide +kernel) rfl (Nat.le_of_ble_eq_true rfl) ?_
  intro p e s m below meth c A ls hx hb hr hml hown hlocks hin hts hsz hP hK hD hN hA hS hl
  have ht : ∀ w ∈ allw, w.before _ s = true := fun w h => hts w (List.mem_cons_of_mem _ h)
  have hsub : ∀ w ∈ allw, w ∈ _ := fun w h => List.mem_cons_of_mem (Cond.code y_SR_close b_SR_close 1 (some .int)) h
  have hl : lv_has ls 1 [(0, .ref hs)] := hl
  have hP : va_P D classes [(hs, .inr (6, [.ref hp, .ref hq, .ref hc, .ref hk0, .ref hg0, .ref hw0, .ref pic, .long kn, .int (iI c1), .int (iI c2), .int (iI c3), .int (iI c4)])), (hk0, .inr (5, [.ref hp, .ref hq, .ref hc, .int (iI wf), .int (iI sd), .int (iI so), .int (iI sr), .int (iI dd), .int (iI on), .int (iI rs), .int (iI fx0), .int (iI fy0), .int (iI ax0), .int (iI ay0), .int (iI ox0), .int (iI oy0), .int (iI ln0)])), (hp, .inr (2, [.ref pxs, .ref pys, .int (iI np), .ref pfs, .ref psh, .int (iI ns), .int (iI no)])), (psh, .inl (cZ, 64, .inl (zI sh)))] s.heap := hP
  refine lv_aload_n hx hb d_SR_close_0 rfl (lv_at hl 0 rfl) ?_
  refine va_get hx hb ht i_SR hown hK hP 0 rfl rfl 0 (by decide) (ht _ k_f_SR_10) (fun _ h9 => h9) rfl d_SR_close_1 ?_
  refine sr_cV_i (wr := [(hs, .inr (6, [.ref hp, .ref hq, .ref hc, .ref hk0, .ref hg0, .ref hw0, .ref pic, .long kn, .int (iI c1), .int (iI c2), .int (iI c3), .int (iI c4)])), (hk0, .inr (5, [.ref hp, .ref hq, .ref hc, .int (iI wf), .int (iI sd), .int (iI so), .int (iI sr), .int (iI dd), .int (iI on), .int (iI rs), .int (iI fx0), .int (iI fy0), .int (iI ax0), .int (iI ay0), .int (iI ox0), .int (iI oy0), .int (iI ln0)]))]) (As := []) (rest := []) (b := hp) (q0 := 2) hx hb hml hown hts (c_Path_isOpen l D cI cJ cZ _ hp pxs pys np pfs psh ns no sh (by omega) (by omega) (hsh)) (sr_cwV hsub hts k_cd_Path_isOpen k_in_Path k_m_SR_113 k_im_Path_isOpen k_se_Path_isOpen g_Path_isOpen ⟨Nat.le_of_ble_eq_true rfl, Nat.le_of_ble_eq_true rfl⟩) hns_ok hK hN hP hD hS hA [2, 3] [0, 1] rfl (by decide) rfl (by decide) (by decide) rfl rfl rfl hl.1 rfl (Nat.le_of_ble_eq_true rfl) d_SR_close_4 ⟨Nat.le_of_ble_eq_true rfl, Nat.le_of_ble_eq_true rfl⟩ (fun r_4 u H locs hw_4 hP hD hS => ?_)
  have hP : va_P D classes [(hs, .inr (6, [.ref hp, .ref hq, .ref hc, .ref hk0, .ref hg0, .ref hw0, .ref pic, .long kn, .int (iI c1), .int (iI c2), .int (iI c3), .int (iI c4)])), (hk0, .inr (5, [.ref hp, .ref hq, .ref hc, .int (iI wf), .int (iI sd), .int (iI so), .int (iI sr), .int (iI dd), .int (iI on), .int (iI rs), .int (iI fx0), .int (iI fy0), .int (iI ax0), .int (iI ay0), .int (iI ox0), .int (iI oy0), .int (iI ln0)])), (hp, .inr (2, [.ref pxs, .ref pys, .int (iI np), .ref pfs, .ref psh, .int (iI ns), .int (iI no)])), (psh, .inl (cZ, 64, .inl (zI sh)))] H := hP
  have hD : va_D A [(hs, .inr (6, [.ref hp, .ref hq, .ref hc, .ref hk0, .ref hg0, .ref hw0, .ref pic, .long kn, .int (iI c1), .int (iI c2), .int (iI c3), .int (iI c4)])), (hk0, .inr (5, [.ref hp, .ref hq, .ref hc, .int (iI wf), .int (iI sd), .int (iI so), .int (iI sr), .int (iI dd), .int (iI on), .int (iI rs), .int (iI fx0), .int (iI fy0), .int (iI ax0), .int (iI ay0), .int (iI ox0), .int (iI oy0), .int (iI ln0)])), (hp, .inr (2, [.ref pxs, .ref pys, .int (iI np), .ref pfs, .ref psh, .int (iI ns), .int (iI no)])), (psh, .inl (cZ, 64, .inl (zI sh)))] := hD
  try dsimp only at hw_4
  obtain ⟨z_4, rfl, hw_4⟩ := hw_4
  refine sr_if_ne (tgt := 20) hx hb d_SR_close_7 (by decide) (sr_bB hw_4) (fun c_7 => ?_) (fun c_7 => ?_)
  · -- T
    have c_7 := sr_bt hw_4 c_7
    refine lv_aload_n hx hb d_SR_close_20 rfl (lv_at hl 0 rfl) ?_
    refine va_get hx hb ht i_SR hown hK hP 0 rfl rfl 0 (by decide) (ht _ k_f_SR_10) (fun _ h9 => h9) rfl d_SR_close_21 ?_
    refine sr_cV_v (wr := [(hs, .inr (6, [.ref hp, .ref hq, .ref hc, .ref hk0, .ref hg0, .ref hw0, .ref pic, .long kn, .int (iI c1), .int (iI c2), .int (iI c3), .int (iI c4)])), (hk0, .inr (5, [.ref hp, .ref hq, .ref hc, .int (iI wf), .int (iI sd), .int (iI so), .int (iI sr), .int (iI dd), .int (iI on), .int (iI rs), .int (iI fx0), .int (iI fy0), .int (iI ax0), .int (iI ay0), .int (iI ox0), .int (iI oy0), .int (iI ln0)]))]) (As := []) (rest := []) (b := hp) (q0 := 2) hx hb hml hown hts (c_Path_shutLast l D cI cJ cZ _ hp pxs pys np pfs psh ns no sh (hop.1) (by omega) (hsh) (hop.2)) (sr_cwV hsub hts k_cd_Path_shutLast k_in_Path k_m_SR_119 k_im_Path_shutLast k_se_Path_shutLast g_Path_shutLast ⟨Nat.le_of_ble_eq_true rfl, Nat.le_of_ble_eq_true rfl⟩) hns_ok hK hN hP hD hS hA [2, 3] [0, 1] rfl (by decide) rfl (by decide) (by decide) rfl rfl rfl hl.1 rfl (Nat.le_of_ble_eq_true rfl) d_SR_close_24 ⟨Nat.le_of_ble_eq_true rfl, Nat.le_of_ble_eq_true rfl⟩ (fun u H locs hw_24 hP hD hS => ?_)
    have hP : va_P D classes [(hs, .inr (6, [.ref hp, .ref hq, .ref hc, .ref hk0, .ref hg0, .ref hw0, .ref pic, .long kn, .int (iI c1), .int (iI c2), .int (iI c3), .int (iI c4)])), (hk0, .inr (5, [.ref hp, .ref hq, .ref hc, .int (iI wf), .int (iI sd), .int (iI so), .int (iI sr), .int (iI dd), .int (iI on), .int (iI rs), .int (iI fx0), .int (iI fy0), .int (iI ax0), .int (iI ay0), .int (iI ox0), .int (iI oy0), .int (iI ln0)])), (hp, .inr (2, [.ref pxs, .ref pys, .int (iI np), .ref pfs, .ref psh, .int (iI ns), .int (iI (no + 1))])), (psh, .inl (cZ, 64, .inl (zI (zup sh (ns - 1) 1))))] H := hP
    have hD : va_D A [(hs, .inr (6, [.ref hp, .ref hq, .ref hc, .ref hk0, .ref hg0, .ref hw0, .ref pic, .long kn, .int (iI c1), .int (iI c2), .int (iI c3), .int (iI c4)])), (hk0, .inr (5, [.ref hp, .ref hq, .ref hc, .int (iI wf), .int (iI sd), .int (iI so), .int (iI sr), .int (iI dd), .int (iI on), .int (iI rs), .int (iI fx0), .int (iI fy0), .int (iI ax0), .int (iI ay0), .int (iI ox0), .int (iI oy0), .int (iI ln0)])), (hp, .inr (2, [.ref pxs, .ref pys, .int (iI np), .ref pfs, .ref psh, .int (iI ns), .int (iI (no + 1))])), (psh, .inl (cZ, 64, .inl (zI (zup sh (ns - 1) 1))))] := hD
    try dsimp only at hw_24
    refine lv_aload_n hx hb d_SR_close_27 rfl (lv_at hl 0 rfl) ?_
    refine sr_cV_v (wr := [(hp, .inr (2, [.ref pxs, .ref pys, .int (iI np), .ref pfs, .ref psh, .int (iI ns), .int (iI (no + 1))])), (psh, .inl (cZ, 64, .inl (zI (zup sh (ns - 1) 1))))]) (As := []) (rest := []) (b := hs) (q0 := 0) hx hb hml hown hts (c_SR_forget l D cI cJ cZ _ hs hp hq hc hk0 hg0 hw0 pic kn c1 c2 c3 c4 wf sd so sr dd on rs fx0 fy0 ax0 ay0 ox0 oy0 ln0 ) (sr_cwV hsub hts k_cd_SR_forget k_in_SR k_m_SR_86 k_im_SR_forget k_se_SR_forget g_SR_forget ⟨Nat.le_of_ble_eq_true rfl, Nat.le_of_ble_eq_true rfl⟩) hns_ok hK hN hP hD hS hA [0, 1] [2, 3] rfl (by decide) rfl (by decide) (by decide) rfl rfl rfl hl.1 rfl (Nat.le_of_ble_eq_true rfl) d_SR_close_28 ⟨Nat.le_of_ble_eq_true rfl, Nat.le_of_ble_eq_true rfl⟩ (fun u H locs hw_28 hP hD hS => ?_)
    have hP : va_P D classes [(hp, .inr (2, [.ref pxs, .ref pys, .int (iI np), .ref pfs, .ref psh, .int (iI ns), .int (iI (no + 1))])), (psh, .inl (cZ, 64, .inl (zI (zup sh (ns - 1) 1)))), (hs, .inr (6, [.ref hp, .ref hq, .ref hc, .ref hk0, .ref hg0, .ref hw0, .ref pic, .long (lI 0), .int (iI c1), .int (iI c2), .int (iI c3), .int (iI c4)])), (hk0, .inr (5, [.ref hp, .ref hq, .ref hc, .int (iI 0), .int (iI sd), .int (iI so), .int (iI sr), .int (iI dd), .int (iI on), .int (iI rs), .int (iI fx0), .int (iI fy0), .int (iI ax0), .int (iI ay0), .int (iI ox0), .int (iI oy0), .int (iI ln0)]))] H := hP
    have hD : va_D A [(hp, .inr (2, [.ref pxs, .ref pys, .int (iI np), .ref pfs, .ref psh, .int (iI ns), .int (iI (no + 1))])), (psh, .inl (cZ, 64, .inl (zI (zup sh (ns - 1) 1)))), (hs, .inr (6, [.ref hp, .ref hq, .ref hc, .ref hk0, .ref hg0, .ref hw0, .ref pic, .long (lI 0), .int (iI c1), .int (iI c2), .int (iI c3), .int (iI c4)])), (hk0, .inr (5, [.ref hp, .ref hq, .ref hc, .int (iI 0), .int (iI sd), .int (iI so), .int (iI sr), .int (iI dd), .int (iI on), .int (iI rs), .int (iI fx0), .int (iI fy0), .int (iI ax0), .int (iI ay0), .int (iI ox0), .int (iI oy0), .int (iI ln0)]))] := hD
    try dsimp only at hw_28
    refine lv_aload_n hx hb d_SR_close_31 rfl (lv_at hl 0 rfl) ?_
    refine va_get hx hb ht i_SR hown hK hP 2 rfl rfl 0 (by decide) (ht _ k_f_SR_10) (fun _ h9 => h9) rfl d_SR_close_32 ?_
    refine va_get hx hb ht i_Path hown hK hP 0 rfl rfl 6 (by decide) (ht _ k_f_SR_122) (fun _ h9 => h9) rfl d_SR_close_35 ?_
    exact sr_iret () hx hb hr hlocks (hP.sub [2, 3, 0, 1] rfl) (hD.sub [2, 3, 0, 1] (by decide) rfl) hS d_SR_close_38 (rfl)
  · -- F
    have c_7 := sr_bf hw_4 c_7
    exact absurd hop c_7

set_option maxHeartbeats 4000000 in
set_option maxRecDepth 100000 in
theorem c_SR_clear (l : Launch) (D : va_G) (cI cJ cZ : ClassId) (sz : Nat) (hs : Nat) (hp : Nat) (hq : Nat) (hc : Nat) (hk0 : Nat) (hg0 : Nat) (hw0 : Nat) (pic : Nat) (kn : Int64) (c1 : Int) (c2 : Int) (c3 : Int) (c4 : Int) (wf : Int) (sd : Int) (so : Int) (sr : Int) (dd : Int) (on : Int) (rs : Int) (fx0 : Int) (fy0 : Int) (ax0 : Int) (ay0 : Int) (ox0 : Int) (oy0 : Int) (ln0 : Int) (pxs : Nat) (pys : Nat) (np : Int) (pfs : Nat) (psh : Nat) (ns : Int) (no : Int)  : Met l y_SR_clear (.code y_SR_clear b_SR_clear 2 (some .int) :: allw) ({ frames := 2, cells := 0, slots := 0, locals := 40 } : Room) (va_Pc [.ref hs] (sr_U D classes [(cI, .int), (cJ, .long), (cZ, .boolean)] nestw [(hs, .inr (6, [.ref hp, .ref hq, .ref hc, .ref hk0, .ref hg0, .ref hw0, .ref pic, .long kn, .int (iI c1), .int (iI c2), .int (iI c3), .int (iI c4)])), (hk0, .inr (5, [.ref hp, .ref hq, .ref hc, .int (iI wf), .int (iI sd), .int (iI so), .int (iI sr), .int (iI dd), .int (iI on), .int (iI rs), .int (iI fx0), .int (iI fy0), .int (iI ax0), .int (iI ay0), .int (iI ox0), .int (iI oy0), .int (iI ln0)])), (hp, .inr (2, [.ref pxs, .ref pys, .int (iI np), .ref pfs, .ref psh, .int (iI ns), .int (iI no)]))] sz)) (va_Qi (fun (r : Int32) => fun (_ : Unit) => r = iI ns) (sr_B D classes (va_A [(hs, .inr (6, [.ref hp, .ref hq, .ref hc, .ref hk0, .ref hg0, .ref hw0, .ref pic, .long kn, .int (iI c1), .int (iI c2), .int (iI c3), .int (iI c4)])), (hk0, .inr (5, [.ref hp, .ref hq, .ref hc, .int (iI wf), .int (iI sd), .int (iI so), .int (iI sr), .int (iI dd), .int (iI on), .int (iI rs), .int (iI fx0), .int (iI fy0), .int (iI ax0), .int (iI ay0), .int (iI ox0), .int (iI oy0), .int (iI ln0)])), (hp, .inr (2, [.ref pxs, .ref pys, .int (iI np), .ref pfs, .ref psh, .int (iI ns), .int (iI no)]))] sz) (fun (_ : Unit) => [(hs, .inr (6, [.ref hp, .ref hq, .ref hc, .ref hk0, .ref hg0, .ref hw0, .ref pic, .long (lI 0), .int (iI c1), .int (iI c2), .int (iI c3), .int (iI c4)])), (hk0, .inr (5, [.ref hp, .ref hq, .ref hc, .int (iI 0), .int (iI sd), .int (iI so), .int (iI sr), .int (iI dd), .int (iI on), .int (iI rs), .int (iI fx0), .int (iI fy0), .int (iI ax0), .int (iI ay0), .int (iI ox0), .int (iI oy0), .int (iI ln0)])), (hp, .inr (2, [.ref pxs, .ref pys, .int (iI 0), .ref pfs, .ref psh, .int (iI 0), .int (iI 0)]))])) (va_A [(hs, .inr (6, [.ref hp, .ref hq, .ref hc, .ref hk0, .ref hg0, .ref hw0, .ref pic, .long kn, .int (iI c1), .int (iI c2), .int (iI c3), .int (iI c4)])), (hk0, .inr (5, [.ref hp, .ref hq, .ref hc, .int (iI wf), .int (iI sd), .int (iI so), .int (iI sr), .int (iI dd), .int (iI on), .int (iI rs), .int (iI fx0), .int (iI fy0), .int (iI ax0), .int (iI ay0), .int (iI ox0), .int (iI oy0), .int (iI ln0)])), (hp, .inr (2, [.ref pxs, .ref pys, .int (iI np), .ref pfs, .ref psh, .int (iI ns), .int (iI no)]))] sz)) 0 0 (va_A [(hs, .inr (6, [.ref hp, .ref hq, .ref hc, .ref hk0, .ref hg0, .ref hw0, .ref pic, .long kn, .int (iI c1), .int (iI c2), .int (iI c3), .int (iI c4)])), (hk0, .inr (5, [.ref hp, .ref hq, .ref hc, .int (iI wf), .int (iI sd), .int (iI so), .int (iI sr), .int (iI dd), .int (iI on), .int (iI rs), .int (iI fx0), .int (iI fy0), .int (iI ax0), .int (iI ay0), .int (iI ox0), .int (iI oy0), .int (iI ln0)])), (hp, .inr (2, [.ref pxs, .ref pys, .int (iI np), .ref pfs, .ref psh, .int (iI ns), .int (iI no)]))] sz) := by
  refine sr_enter (Qf := fun A => va_Qi (fun (r : Int32) => fun (_ : Unit) => r = iI ns) (sr_B D classes A (fun (_ : Unit) => [(hs, .inr (6, [.ref hp, .ref hq, .ref hc, .ref hk0, .ref hg0, .ref hw0, .ref pic, .long (lI 0), .int (iI c1), .int (iI c2), .int (iI c3), .int (iI c4)])), (hk0, .inr (5, [.ref hp, .ref hq, .ref hc, .int (iI 0), .int (iI sd), .int (iI so), .int (iI sr), .int (iI dd), .int (iI on), .int (iI rs), .int (iI fx0), .int (iI fy0), .int (iI ax0), .int (iI ay0), .int (iI ox0), .int (iI oy0), .int (iI ln0)])), (hp, .inr (2, [.ref pxs, .ref pys, .int (iI 0), .ref pfs, .ref psh, .int (iI 0), .int (iI 0)]))])) A) (by decide +kernel) rfl (Nat.le_of_ble_eq_true rfl) ?_
  intro p e s m below meth c A ls hx hb hr hml hown hlocks hin hts hsz hP hK hD hN hA hS hl
  have ht : ∀ w ∈ allw, w.before _ s = true := fun w h => hts w (List.mem_cons_of_mem _ h)
  have hsub : ∀ w ∈ allw, w ∈ _ := fun w h => List.mem_cons_of_mem (Cond.code y_SR_clear b_SR_clear 2 (some .int)) h
  have hl : lv_has ls 2 [(0, .ref hs)] := hl
  have hP : va_P D classes [(hs, .inr (6, [.ref hp, .ref hq, .ref hc, .ref hk0, .ref hg0, .ref hw0, .ref pic, .long kn, .int (iI c1), .int (iI c2), .int (iI c3), .int (iI c4)])), (hk0, .inr (5, [.ref hp, .ref hq, .ref hc, .int (iI wf), .int (iI sd), .int (iI so), .int (iI sr), .int (iI dd), .int (iI on), .int (iI rs), .int (iI fx0), .int (iI fy0), .int (iI ax0), .int (iI ay0), .int (iI ox0), .int (iI oy0), .int (iI ln0)])), (hp, .inr (2, [.ref pxs, .ref pys, .int (iI np), .ref pfs, .ref psh, .int (iI ns), .int (iI no)]))] s.heap := hP
  refine lv_aload_n hx hb d_SR_clear_0 rfl (lv_at hl 0 rfl) ?_
  refine va_get hx hb ht i_SR hown hK hP 0 rfl rfl 0 (by decide) (ht _ k_f_SR_10) (fun _ h9 => h9) rfl d_SR_clear_1 ?_
  refine va_get hx hb ht i_Path hown hK hP 2 rfl rfl 5 (by decide) (ht _ k_f_SR_70) (fun _ h9 => h9) rfl d_SR_clear_4 ?_
  refine lv_istore_n (lv' := [(1, .int (iI ns)), (0, .ref hs)]) hx hb d_SR_clear_7 rfl hl (by decide) rfl (fun ls hl => ?_)
  refine lv_aload_n hx hb d_SR_clear_8 rfl (lv_at hl 1 rfl) ?_
  refine va_get hx hb ht i_SR hown hK hP 0 rfl rfl 0 (by decide) (ht _ k_f_SR_10) (fun _ h9 => h9) rfl d_SR_clear_9 ?_
  refine sr_cV_v (wr := [(hs, .inr (6, [.ref hp, .ref hq, .ref hc, .ref hk0, .ref hg0, .ref hw0, .ref pic, .long kn, .int (iI c1), .int (iI c2), .int (iI c3), .int (iI c4)])), (hk0, .inr (5, [.ref hp, .ref hq, .ref hc, .int (iI wf), .int (iI sd), .int (iI so), .int (iI sr), .int (iI dd), .int (iI on), .int (iI rs), .int (iI fx0), .int (iI fy0), .int (iI ax0), .int (iI ay0), .int (iI ox0), .int (iI oy0), .int (iI ln0)]))]) (As := []) (rest := []) (b := hp) (q0 := 2) hx hb hml hown hts (c_Path_drop l D cI cJ cZ _ hp pxs pys np pfs psh ns no ) (sr_cwV hsub hts k_cd_Path_drop k_in_Path k_m_SR_125 k_im_Path_drop k_se_Path_drop g_Path_drop ⟨Nat.le_of_ble_eq_true rfl, Nat.le_of_ble_eq_true rfl⟩) hns_ok hK hN hP hD hS hA [2] [0, 1] rfl (by decide) rfl (by decide) (by decide) rfl rfl rfl hl.1 rfl (Nat.le_of_ble_eq_true rfl) d_SR_clear_12 ⟨Nat.le_of_ble_eq_true rfl, Nat.le_of_ble_eq_true rfl⟩ (fun u H locs hw_12 hP hD hS => ?_)
  have hP : va_P D classes [(hs, .inr (6, [.ref hp, .ref hq, .ref hc, .ref hk0, .ref hg0, .ref hw0, .ref pic, .long kn, .int (iI c1), .int (iI c2), .int (iI c3), .int (iI c4)])), (hk0, .inr (5, [.ref hp, .ref hq, .ref hc, .int (iI wf), .int (iI sd), .int (iI so), .int (iI sr), .int (iI dd), .int (iI on), .int (iI rs), .int (iI fx0), .int (iI fy0), .int (iI ax0), .int (iI ay0), .int (iI ox0), .int (iI oy0), .int (iI ln0)])), (hp, .inr (2, [.ref pxs, .ref pys, .int (iI 0), .ref pfs, .ref psh, .int (iI 0), .int (iI 0)]))] H := hP
  have hD : va_D A [(hs, .inr (6, [.ref hp, .ref hq, .ref hc, .ref hk0, .ref hg0, .ref hw0, .ref pic, .long kn, .int (iI c1), .int (iI c2), .int (iI c3), .int (iI c4)])), (hk0, .inr (5, [.ref hp, .ref hq, .ref hc, .int (iI wf), .int (iI sd), .int (iI so), .int (iI sr), .int (iI dd), .int (iI on), .int (iI rs), .int (iI fx0), .int (iI fy0), .int (iI ax0), .int (iI ay0), .int (iI ox0), .int (iI oy0), .int (iI ln0)])), (hp, .inr (2, [.ref pxs, .ref pys, .int (iI 0), .ref pfs, .ref psh, .int (iI 0), .int (iI 0)]))] := hD
  try dsimp only at hw_12
  refine lv_aload_n hx hb d_SR_clear_15 rfl (lv_at hl 1 rfl) ?_
  refine sr_cV_v (wr := [(hp, .inr (2, [.ref pxs, .ref pys, .int (iI 0), .ref pfs, .ref psh, .int (iI 0), .int (iI 0)]))]) (As := []) (rest := []) (b := hs) (q0 := 0) hx hb hml hown hts (c_SR_forget l D cI cJ cZ _ hs hp hq hc hk0 hg0 hw0 pic kn c1 c2 c3 c4 wf sd so sr dd on rs fx0 fy0 ax0 ay0 ox0 oy0 ln0 ) (sr_cwV hsub hts k_cd_SR_forget k_in_SR k_m_SR_86 k_im_SR_forget k_se_SR_forget g_SR_forget ⟨Nat.le_of_ble_eq_true rfl, Nat.le_of_ble_eq_true rfl⟩) hns_ok hK hN hP hD hS hA [0, 1] [2] rfl (by decide) rfl (by decide) (by decide) rfl rfl rfl hl.1 rfl (Nat.le_of_ble_eq_true rfl) d_SR_clear_16 ⟨Nat.le_of_ble_eq_true rfl, Nat.le_of_ble_eq_true rfl⟩ (fun u H locs hw_16 hP hD hS => ?_)
  have hP : va_P D classes [(hp, .inr (2, [.ref pxs, .ref pys, .int (iI 0), .ref pfs, .ref psh, .int (iI 0), .int (iI 0)])), (hs, .inr (6, [.ref hp, .ref hq, .ref hc, .ref hk0, .ref hg0, .ref hw0, .ref pic, .long (lI 0), .int (iI c1), .int (iI c2), .int (iI c3), .int (iI c4)])), (hk0, .inr (5, [.ref hp, .ref hq, .ref hc, .int (iI 0), .int (iI sd), .int (iI so), .int (iI sr), .int (iI dd), .int (iI on), .int (iI rs), .int (iI fx0), .int (iI fy0), .int (iI ax0), .int (iI ay0), .int (iI ox0), .int (iI oy0), .int (iI ln0)]))] H := hP
  have hD : va_D A [(hp, .inr (2, [.ref pxs, .ref pys, .int (iI 0), .ref pfs, .ref psh, .int (iI 0), .int (iI 0)])), (hs, .inr (6, [.ref hp, .ref hq, .ref hc, .ref hk0, .ref hg0, .ref hw0, .ref pic, .long (lI 0), .int (iI c1), .int (iI c2), .int (iI c3), .int (iI c4)])), (hk0, .inr (5, [.ref hp, .ref hq, .ref hc, .int (iI 0), .int (iI sd), .int (iI so), .int (iI sr), .int (iI dd), .int (iI on), .int (iI rs), .int (iI fx0), .int (iI fy0), .int (iI ax0), .int (iI ay0), .int (iI ox0), .int (iI oy0), .int (iI ln0)]))] := hD
  try dsimp only at hw_16
  refine lv_iload_n hx hb d_SR_clear_19 rfl (lv_at hl 0 rfl) ?_
  exact sr_iret () hx hb hr hlocks (hP.sub [1, 2, 0] rfl) (hD.sub [1, 2, 0] (by decide) rfl) hS d_SR_clear_20 (rfl)

set_option maxHeartbeats 4000000 in
set_option maxRecDepth 100000 in
theorem c_SR_control (l : Launch) (D : va_G) (cI cJ cZ : ClassId) (sz : Nat) (hs : Nat) (hp : Nat) (hq : Nat) (hc : Nat) (hk0 : Nat) (hg0 : Nat) (hw0 : Nat) (pic : Nat) (kn : Int64) (c1 : Int) (c2 : Int) (c3 : Int) (c4 : Int) (p1 : Int) (p2 : Int) (p3 : Int) (p4 : Int) (h1 : -8192 ≤ p1 ∧ p1 ≤ 8191) (h2 : -8192 ≤ p2 ∧ p2 ≤ 8191) (h3 : -8192 ≤ p3 ∧ p3 ≤ 8191) (h4 : -8192 ≤ p4 ∧ p4 ≤ 8191) : Met l y_SR_control (.code y_SR_control b_SR_control 5 none :: allw) ({ frames := 1, cells := 0, slots := 0, locals := 20 } : Room) (va_Pc [.ref hs, .int (iI p1), .int (iI p2), .int (iI p3), .int (iI p4)] (sr_U D classes [(cI, .int), (cJ, .long), (cZ, .boolean)] nestw [(hs, .inr (6, [.ref hp, .ref hq, .ref hc, .ref hk0, .ref hg0, .ref hw0, .ref pic, .long kn, .int (iI c1), .int (iI c2), .int (iI c3), .int (iI c4)]))] sz)) (va_Qv (fun (_ : Unit) => True) (sr_B D classes (va_A [(hs, .inr (6, [.ref hp, .ref hq, .ref hc, .ref hk0, .ref hg0, .ref hw0, .ref pic, .long kn, .int (iI c1), .int (iI c2), .int (iI c3), .int (iI c4)]))] sz) (fun (_ : Unit) => [(hs, .inr (6, [.ref hp, .ref hq, .ref hc, .ref hk0, .ref hg0, .ref hw0, .ref pic, .long kn, .int (iI p1), .int (iI p2), .int (iI p3), .int (iI p4)]))])) (va_A [(hs, .inr (6, [.ref hp, .ref hq, .ref hc, .ref hk0, .ref hg0, .ref hw0, .ref pic, .long kn, .int (iI c1), .int (iI c2), .int (iI c3), .int (iI c4)]))] sz)) 0 0 (va_A [(hs, .inr (6, [.ref hp, .ref hq, .ref hc, .ref hk0, .ref hg0, .ref hw0, .ref pic, .long kn, .int (iI c1), .int (iI c2), .int (iI c3), .int (iI c4)]))] sz) := by
  refine sr_enter (Qf := fun A => va_Qv (fun (_ : Unit) => True) (sr_B D classes A (fun (_ : Unit) => [(hs, .inr (6, [.ref hp, .ref hq, .ref hc, .ref hk0, .ref hg0, .ref hw0, .ref pic, .long kn, .int (iI p1), .int (iI p2), .int (iI p3), .int (iI p4)]))])) A) (by decide +kernel) rfl (Nat.le_of_ble_eq_true rfl) ?_
  intro p e s m below meth c A ls hx hb hr hml hown hlocks hin hts hsz hP hK hD hN hA hS hl
  have ht : ∀ w ∈ allw, w.before _ s = true := fun w h => hts w (List.mem_cons_of_mem _ h)
  have hsub : ∀ w ∈ allw, w ∈ _ := fun w h => List.mem_cons_of_mem (Cond.code y_SR_control b_SR_control 5 none) h
  have hl : lv_has ls 5 [(0, .ref hs), (1, .int (iI p1)), (2, .int (iI p2)), (3, .int (iI p3)), (4, .int (iI p4))] := hl
  have hP : va_P D classes [(hs, .inr (6, [.ref hp, .ref hq, .ref hc, .ref hk0, .ref hg0, .ref hw0, .ref pic, .long kn, .int (iI c1), .int (iI c2), .int (iI c3), .int (iI c4)]))] s.heap := hP
  refine lv_iload_n hx hb d_SR_control_0 rfl (lv_at hl 1 rfl) ?_
  refine sr_cS_i (wr := [(hs, .inr (6, [.ref hp, .ref hq, .ref hc, .ref hk0, .ref hg0, .ref hw0, .ref pic, .long kn, .int (iI c1), .int (iI c2), .int (iI c3), .int (iI c4)]))]) (As := [.int (iI p1)]) (rest := []) hx hb hml hown hts (c_SR_isCoordinate l D cI cJ cZ _ p1 (by omega)) (sr_cwS hsub hts k_cd_SR_isCoordinate k_in_SR k_m_SR_59 k_st_SR_isCoordinate g_SR_isCoordinate ⟨Nat.le_of_ble_eq_true rfl, Nat.le_of_ble_eq_true rfl⟩) hns_ok hK hN hP hD hS hA [] [0] rfl (by decide) rfl (by decide) (by decide) rfl hl.1 rfl (Nat.le_of_ble_eq_true rfl) d_SR_control_1 ⟨Nat.le_of_ble_eq_true rfl, Nat.le_of_ble_eq_true rfl⟩ (fun r_1 u H locs hw_1 hP hD hS => ?_)
  have hP : va_P D classes [(hs, .inr (6, [.ref hp, .ref hq, .ref hc, .ref hk0, .ref hg0, .ref hw0, .ref pic, .long kn, .int (iI c1), .int (iI c2), .int (iI c3), .int (iI c4)]))] H := hP
  have hD : va_D A [(hs, .inr (6, [.ref hp, .ref hq, .ref hc, .ref hk0, .ref hg0, .ref hw0, .ref pic, .long kn, .int (iI c1), .int (iI c2), .int (iI c3), .int (iI c4)]))] := hD
  try dsimp only at hw_1
  obtain ⟨z_1, rfl, hw_1⟩ := hw_1
  refine sr_if_eq (tgt := 29) hx hb d_SR_control_4 (by decide) (sr_bB hw_1) (fun c_4 => ?_) (fun c_4 => ?_)
  · -- T
    have c_4 := sr_bf hw_1 c_4
    exact absurd h1 c_4
  · -- F
    have c_4 := sr_bt hw_1 c_4
    refine lv_iload_n hx hb d_SR_control_7 rfl (lv_at hl 2 rfl) ?_
    refine sr_cS_i (wr := [(hs, .inr (6, [.ref hp, .ref hq, .ref hc, .ref hk0, .ref hg0, .ref hw0, .ref pic, .long kn, .int (iI c1), .int (iI c2), .int (iI c3), .int (iI c4)]))]) (As := [.int (iI p2)]) (rest := []) hx hb hml hown hts (c_SR_isCoordinate l D cI cJ cZ _ p2 (by omega)) (sr_cwS hsub hts k_cd_SR_isCoordinate k_in_SR k_m_SR_59 k_st_SR_isCoordinate g_SR_isCoordinate ⟨Nat.le_of_ble_eq_true rfl, Nat.le_of_ble_eq_true rfl⟩) hns_ok hK hN hP hD hS hA [] [0] rfl (by decide) rfl (by decide) (by decide) rfl hl.1 rfl (Nat.le_of_ble_eq_true rfl) d_SR_control_8 ⟨Nat.le_of_ble_eq_true rfl, Nat.le_of_ble_eq_true rfl⟩ (fun r_8 u H locs hw_8 hP hD hS => ?_)
    have hP : va_P D classes [(hs, .inr (6, [.ref hp, .ref hq, .ref hc, .ref hk0, .ref hg0, .ref hw0, .ref pic, .long kn, .int (iI c1), .int (iI c2), .int (iI c3), .int (iI c4)]))] H := hP
    have hD : va_D A [(hs, .inr (6, [.ref hp, .ref hq, .ref hc, .ref hk0, .ref hg0, .ref hw0, .ref pic, .long kn, .int (iI c1), .int (iI c2), .int (iI c3), .int (iI c4)]))] := hD
    try dsimp only at hw_8
    obtain ⟨z_8, rfl, hw_8⟩ := hw_8
    refine sr_if_eq (tgt := 29) hx hb d_SR_control_11 (by decide) (sr_bB hw_8) (fun c_11 => ?_) (fun c_11 => ?_)
    · -- T
      have c_11 := sr_bf hw_8 c_11
      exact absurd h2 c_11
    · -- F
      have c_11 := sr_bt hw_8 c_11
      refine lv_iload_n hx hb d_SR_control_14 rfl (lv_at hl 3 rfl) ?_
      refine sr_cS_i (wr := [(hs, .inr (6, [.ref hp, .ref hq, .ref hc, .ref hk0, .ref hg0, .ref hw0, .ref pic, .long kn, .int (iI c1), .int (iI c2), .int (iI c3), .int (iI c4)]))]) (As := [.int (iI p3)]) (rest := []) hx hb hml hown hts (c_SR_isCoordinate l D cI cJ cZ _ p3 (by omega)) (sr_cwS hsub hts k_cd_SR_isCoordinate k_in_SR k_m_SR_59 k_st_SR_isCoordinate g_SR_isCoordinate ⟨Nat.le_of_ble_eq_true rfl, Nat.le_of_ble_eq_true rfl⟩) hns_ok hK hN hP hD hS hA [] [0] rfl (by decide) rfl (by decide) (by decide) rfl hl.1 rfl (Nat.le_of_ble_eq_true rfl) d_SR_control_15 ⟨Nat.le_of_ble_eq_true rfl, Nat.le_of_ble_eq_true rfl⟩ (fun r_15 u H locs hw_15 hP hD hS => ?_)
      have hP : va_P D classes [(hs, .inr (6, [.ref hp, .ref hq, .ref hc, .ref hk0, .ref hg0, .ref hw0, .ref pic, .long kn, .int (iI c1), .int (iI c2), .int (iI c3), .int (iI c4)]))] H := hP
      have hD : va_D A [(hs, .inr (6, [.ref hp, .ref hq, .ref hc, .ref hk0, .ref hg0, .ref hw0, .ref pic, .long kn, .int (iI c1), .int (iI c2), .int (iI c3), .int (iI c4)]))] := hD
      try dsimp only at hw_15
      obtain ⟨z_15, rfl, hw_15⟩ := hw_15
      refine sr_if_eq (tgt := 29) hx hb d_SR_control_18 (by decide) (sr_bB hw_15) (fun c_18 => ?_) (fun c_18 => ?_)
      · -- T
        have c_18 := sr_bf hw_15 c_18
        exact absurd h3 c_18
      · -- F
        have c_18 := sr_bt hw_15 c_18
        refine lv_iload hx hb d_SR_control_21 (lv_at hl 4 rfl) ?_
        refine sr_cS_i (wr := [(hs, .inr (6, [.ref hp, .ref hq, .ref hc, .ref hk0, .ref hg0, .ref hw0, .ref pic, .long kn, .int (iI c1), .int (iI c2), .int (iI c3), .int (iI c4)]))]) (As := [.int (iI p4)]) (rest := []) hx hb hml hown hts (c_SR_isCoordinate l D cI cJ cZ _ p4 (by omega)) (sr_cwS hsub hts k_cd_SR_isCoordinate k_in_SR k_m_SR_59 k_st_SR_isCoordinate g_SR_isCoordinate ⟨Nat.le_of_ble_eq_true rfl, Nat.le_of_ble_eq_true rfl⟩) hns_ok hK hN hP hD hS hA [] [0] rfl (by decide) rfl (by decide) (by decide) rfl hl.1 rfl (Nat.le_of_ble_eq_true rfl) d_SR_control_23 ⟨Nat.le_of_ble_eq_true rfl, Nat.le_of_ble_eq_true rfl⟩ (fun r_23 u H locs hw_23 hP hD hS => ?_)
        have hP : va_P D classes [(hs, .inr (6, [.ref hp, .ref hq, .ref hc, .ref hk0, .ref hg0, .ref hw0, .ref pic, .long kn, .int (iI c1), .int (iI c2), .int (iI c3), .int (iI c4)]))] H := hP
        have hD : va_D A [(hs, .inr (6, [.ref hp, .ref hq, .ref hc, .ref hk0, .ref hg0, .ref hw0, .ref pic, .long kn, .int (iI c1), .int (iI c2), .int (iI c3), .int (iI c4)]))] := hD
        try dsimp only at hw_23
        obtain ⟨z_23, rfl, hw_23⟩ := hw_23
        refine sr_if_ne (tgt := 39) hx hb d_SR_control_26 (by decide) (sr_bB hw_23) (fun c_26 => ?_) (fun c_26 => ?_)
        · -- T
          have c_26 := sr_bt hw_23 c_26
          refine lv_aload_n hx hb d_SR_control_39 rfl (lv_at hl 0 rfl) ?_
          refine lv_iload_n hx hb d_SR_control_40 rfl (lv_at hl 1 rfl) ?_
          refine va_put (ty := .int) hx hb ht i_SR t_SR t_SR_ok n_SR hown hK hP hD hS 0 rfl rfl 8 (by decide) (ht _ k_f_SR_97) (fun _ h9 => h9) rfl (t_SR_ok 8 (by decide)) rfl rfl (Nat.le_of_ble_eq_true rfl) d_SR_control_41 (fun H locs hP hD hS => ?_)
          have hP : va_P D classes [(hs, .inr (6, [.ref hp, .ref hq, .ref hc, .ref hk0, .ref hg0, .ref hw0, .ref pic, .long kn, .int (iI p1), .int (iI c2), .int (iI c3), .int (iI c4)]))] H := hP
          have hD : va_D A [(hs, .inr (6, [.ref hp, .ref hq, .ref hc, .ref hk0, .ref hg0, .ref hw0, .ref pic, .long kn, .int (iI p1), .int (iI c2), .int (iI c3), .int (iI c4)]))] := hD
          refine lv_aload_n hx hb d_SR_control_44 rfl (lv_at hl 0 rfl) ?_
          refine lv_iload_n hx hb d_SR_control_45 rfl (lv_at hl 2 rfl) ?_
          refine va_put (ty := .int) hx hb ht i_SR t_SR t_SR_ok n_SR hown hK hP hD hS 0 rfl rfl 9 (by decide) (ht _ k_f_SR_100) (fun _ h9 => h9) rfl (t_SR_ok 9 (by decide)) rfl rfl (Nat.le_of_ble_eq_true rfl) d_SR_control_46 (fun H locs hP hD hS => ?_)
          have hP : va_P D classes [(hs, .inr (6, [.ref hp, .ref hq, .ref hc, .ref hk0, .ref hg0, .ref hw0, .ref pic, .long kn, .int (iI p1), .int (iI p2), .int (iI c3), .int (iI c4)]))] H := hP
          have hD : va_D A [(hs, .inr (6, [.ref hp, .ref hq, .ref hc, .ref hk0, .ref hg0, .ref hw0, .ref pic, .long kn, .int (iI p1), .int (iI p2), .int (iI c3), .int (iI c4)]))] := hD
          refine lv_aload_n hx hb d_SR_control_49 rfl (lv_at hl 0 rfl) ?_
          refine lv_iload_n hx hb d_SR_control_50 rfl (lv_at hl 3 rfl) ?_
          refine va_put (ty := .int) hx hb ht i_SR t_SR t_SR_ok n_SR hown hK hP hD hS 0 rfl rfl 10 (by decide) (ht _ k_f_SR_103) (fun _ h9 => h9) rfl (t_SR_ok 10 (by decide)) rfl rfl (Nat.le_of_ble_eq_true rfl) d_SR_control_51 (fun H locs hP hD hS => ?_)
          have hP : va_P D classes [(hs, .inr (6, [.ref hp, .ref hq, .ref hc, .ref hk0, .ref hg0, .ref hw0, .ref pic, .long kn, .int (iI p1), .int (iI p2), .int (iI p3), .int (iI c4)]))] H := hP
          have hD : va_D A [(hs, .inr (6, [.ref hp, .ref hq, .ref hc, .ref hk0, .ref hg0, .ref hw0, .ref pic, .long kn, .int (iI p1), .int (iI p2), .int (iI p3), .int (iI c4)]))] := hD
          refine lv_aload_n hx hb d_SR_control_54 rfl (lv_at hl 0 rfl) ?_
          refine lv_iload hx hb d_SR_control_55 (lv_at hl 4 rfl) ?_
          refine va_put (ty := .int) hx hb ht i_SR t_SR t_SR_ok n_SR hown hK hP hD hS 0 rfl rfl 11 (by decide) (ht _ k_f_SR_106) (fun _ h9 => h9) rfl (t_SR_ok 11 (by decide)) rfl rfl (Nat.le_of_ble_eq_true rfl) d_SR_control_57 (fun H locs hP hD hS => ?_)
          have hP : va_P D classes [(hs, .inr (6, [.ref hp, .ref hq, .ref hc, .ref hk0, .ref hg0, .ref hw0, .ref pic, .long kn, .int (iI p1), .int (iI p2), .int (iI p3), .int (iI p4)]))] H := hP
          have hD : va_D A [(hs, .inr (6, [.ref hp, .ref hq, .ref hc, .ref hk0, .ref hg0, .ref hw0, .ref pic, .long kn, .int (iI p1), .int (iI p2), .int (iI p3), .int (iI p4)]))] := hD
          exact sr_vret () hx hb hr hlocks hP hD hS d_SR_control_60 (trivial)
        · -- F
          have c_26 := sr_bf hw_23 c_26
          exact absurd h4 c_26

set_option maxHeartbeats 4000000 in
set_option maxRecDepth 100000 in
theorem c_SR_control_IAE (l : Launch) (htr : ∀ e : Env, l.admits e → e.platform.stackTraces = false) (D : va_G) (cI cJ cZ : ClassId) (sz : Nat) (hs : Nat) (p1 : Int) (p2 : Int) (p3 : Int) (p4 : Int) (h1 : -2147483648 ≤ p1 ∧ p1 ≤ 2147483647) (h2 : -2147483648 ≤ p2 ∧ p2 ≤ 2147483647) (h3 : -2147483648 ≤ p3 ∧ p3 ≤ 2147483647) (h4 : -2147483648 ≤ p4 ∧ p4 ≤ 2147483647) (hbad : ¬ ((-8192 ≤ p1 ∧ p1 ≤ 8191) ∧ (-8192 ≤ p2 ∧ p2 ≤ 8191) ∧ (-8192 ≤ p3 ∧ p3 ≤ 8191) ∧ (-8192 ≤ p4 ∧ p4 ≤ 8191))) : sr_MetT l y_SR_control (Cond.code y_SR_control b_SR_control 5 none :: allw) ({ frames := 6, cells := 1, slots := 6, locals := 82 } : Room) (va_Pc [.ref hs, .int (iI p1), .int (iI p2), .int (iI p3), .int (iI p4)] (sr_V D classes [(cI, .int), (cJ, .long), (cZ, .boolean)] nestw sr_strs [] sz)) (sr_T sr_IAE D classes (va_A [] sz) []) 1 6 (va_A [] sz) := by
  refine sr_enterT (QT := fun A => sr_T sr_IAE D classes A []) (by decide +kernel) rfl (Nat.le_of_ble_eq_true rfl) ?_
  intro p e s m below meth c A ls hx hb hr hml hown hlocks hin hts hsz hP hK hD hN hA hS hl hout hZ hRs
  have ht : ∀ w ∈ allw, w.before _ s = true := fun w h => hts w (List.mem_cons_of_mem _ h)
  have hsub : ∀ w ∈ allw, w ∈ _ := fun w h => List.mem_cons_of_mem (Cond.code y_SR_control b_SR_control 5 none) h
  have hl : lv_has ls 5 [(0, .ref hs), (1, .int (iI p1)), (2, .int (iI p2)), (3, .int (iI p3)), (4, .int (iI p4))] := hl
  have hP : va_P D classes [] s.heap := hP
  refine lv_iload_n hx hb d_SR_control_0 rfl (lv_at hl 1 rfl) ?_
  refine sr_cS_i (wr := []) (As := [.int (iI p1)]) (rest := []) hx hb hml hown hts (c_SR_isCoordinate l D cI cJ cZ _ p1 (by omega)) (sr_cwS hsub hts k_cd_SR_isCoordinate k_in_SR k_m_SR_59 k_st_SR_isCoordinate g_SR_isCoordinate ⟨Nat.le_of_ble_eq_true rfl, Nat.le_of_ble_eq_true rfl⟩) hns_ok hK hN hP hD hS hA [] [] rfl (by decide) rfl (by decide) (by decide) rfl hl.1 rfl (Nat.le_of_ble_eq_true rfl) d_SR_control_1 ⟨Nat.le_of_ble_eq_true rfl, Nat.le_of_ble_eq_true rfl⟩ (fun r_1 u H locs hw_1 hP hD hS => ?_)
  have hP : va_P D classes [] H := hP
  have hD : va_D A [] := hD
  try dsimp only at hw_1
  obtain ⟨z_1, rfl, hw_1⟩ := hw_1
  refine sr_if_eq (tgt := 29) hx hb d_SR_control_4 (by decide) (sr_bB hw_1) (fun c_4 => ?_) (fun c_4 => ?_)
  · -- T
    have c_4 := sr_bf hw_1 c_4
    obtain ⟨q_, hq_⟩ := hRs (65, "a coordinate is out of bounds") (by decide)
    exact sr_throw (own := "StrokeRaster") (X0 := sr_IAE) (tx := "a coordinate is out of bounds") (ks := 65) hx hb (hml.trans hl.1.symm) hout hlocks htr hown (by decide +kernel) ht thw_IAE hZ hq_ hP hD hS (Nat.le_of_ble_eq_true rfl) (Nat.le_of_ble_eq_true rfl) rfl rfl (Nat.le_of_ble_eq_true rfl) (Nat.le_of_ble_eq_true rfl) d_SR_control_29 d_SR_control_32 d_SR_control_33 d_SR_control_35 d_SR_control_38
  · -- F
    have c_4 := sr_bt hw_1 c_4
    refine lv_iload_n hx hb d_SR_control_7 rfl (lv_at hl 2 rfl) ?_
    refine sr_cS_i (wr := []) (As := [.int (iI p2)]) (rest := []) hx hb hml hown hts (c_SR_isCoordinate l D cI cJ cZ _ p2 (by omega)) (sr_cwS hsub hts k_cd_SR_isCoordinate k_in_SR k_m_SR_59 k_st_SR_isCoordinate g_SR_isCoordinate ⟨Nat.le_of_ble_eq_true rfl, Nat.le_of_ble_eq_true rfl⟩) hns_ok hK hN hP hD hS hA [] [] rfl (by decide) rfl (by decide) (by decide) rfl hl.1 rfl (Nat.le_of_ble_eq_true rfl) d_SR_control_8 ⟨Nat.le_of_ble_eq_true rfl, Nat.le_of_ble_eq_true rfl⟩ (fun r_8 u H locs hw_8 hP hD hS => ?_)
    have hP : va_P D classes [] H := hP
    have hD : va_D A [] := hD
    try dsimp only at hw_8
    obtain ⟨z_8, rfl, hw_8⟩ := hw_8
    refine sr_if_eq (tgt := 29) hx hb d_SR_control_11 (by decide) (sr_bB hw_8) (fun c_11 => ?_) (fun c_11 => ?_)
    · -- T
      have c_11 := sr_bf hw_8 c_11
      obtain ⟨q_, hq_⟩ := hRs (65, "a coordinate is out of bounds") (by decide)
      exact sr_throw (own := "StrokeRaster") (X0 := sr_IAE) (tx := "a coordinate is out of bounds") (ks := 65) hx hb (hml.trans hl.1.symm) hout hlocks htr hown (by decide +kernel) ht thw_IAE hZ hq_ hP hD hS (Nat.le_of_ble_eq_true rfl) (Nat.le_of_ble_eq_true rfl) rfl rfl (Nat.le_of_ble_eq_true rfl) (Nat.le_of_ble_eq_true rfl) d_SR_control_29 d_SR_control_32 d_SR_control_33 d_SR_control_35 d_SR_control_38
    · -- F
      have c_11 := sr_bt hw_8 c_11
      refine lv_iload_n hx hb d_SR_control_14 rfl (lv_at hl 3 rfl) ?_
      refine sr_cS_i (wr := []) (As := [.int (iI p3)]) (rest := []) hx hb hml hown hts (c_SR_isCoordinate l D cI cJ cZ _ p3 (by omega)) (sr_cwS hsub hts k_cd_SR_isCoordinate k_in_SR k_m_SR_59 k_st_SR_isCoordinate g_SR_isCoordinate ⟨Nat.le_of_ble_eq_true rfl, Nat.le_of_ble_eq_true rfl⟩) hns_ok hK hN hP hD hS hA [] [] rfl (by decide) rfl (by decide) (by decide) rfl hl.1 rfl (Nat.le_of_ble_eq_true rfl) d_SR_control_15 ⟨Nat.le_of_ble_eq_true rfl, Nat.le_of_ble_eq_true rfl⟩ (fun r_15 u H locs hw_15 hP hD hS => ?_)
      have hP : va_P D classes [] H := hP
      have hD : va_D A [] := hD
      try dsimp only at hw_15
      obtain ⟨z_15, rfl, hw_15⟩ := hw_15
      refine sr_if_eq (tgt := 29) hx hb d_SR_control_18 (by decide) (sr_bB hw_15) (fun c_18 => ?_) (fun c_18 => ?_)
      · -- T
        have c_18 := sr_bf hw_15 c_18
        obtain ⟨q_, hq_⟩ := hRs (65, "a coordinate is out of bounds") (by decide)
        exact sr_throw (own := "StrokeRaster") (X0 := sr_IAE) (tx := "a coordinate is out of bounds") (ks := 65) hx hb (hml.trans hl.1.symm) hout hlocks htr hown (by decide +kernel) ht thw_IAE hZ hq_ hP hD hS (Nat.le_of_ble_eq_true rfl) (Nat.le_of_ble_eq_true rfl) rfl rfl (Nat.le_of_ble_eq_true rfl) (Nat.le_of_ble_eq_true rfl) d_SR_control_29 d_SR_control_32 d_SR_control_33 d_SR_control_35 d_SR_control_38
      · -- F
        have c_18 := sr_bt hw_15 c_18
        refine lv_iload hx hb d_SR_control_21 (lv_at hl 4 rfl) ?_
        refine sr_cS_i (wr := []) (As := [.int (iI p4)]) (rest := []) hx hb hml hown hts (c_SR_isCoordinate l D cI cJ cZ _ p4 (by omega)) (sr_cwS hsub hts k_cd_SR_isCoordinate k_in_SR k_m_SR_59 k_st_SR_isCoordinate g_SR_isCoordinate ⟨Nat.le_of_ble_eq_true rfl, Nat.le_of_ble_eq_true rfl⟩) hns_ok hK hN hP hD hS hA [] [] rfl (by decide) rfl (by decide) (by decide) rfl hl.1 rfl (Nat.le_of_ble_eq_true rfl) d_SR_control_23 ⟨Nat.le_of_ble_eq_true rfl, Nat.le_of_ble_eq_true rfl⟩ (fun r_23 u H locs hw_23 hP hD hS => ?_)
        have hP : va_P D classes [] H := hP
        have hD : va_D A [] := hD
        try dsimp only at hw_23
        obtain ⟨z_23, rfl, hw_23⟩ := hw_23
        refine sr_if_ne (tgt := 39) hx hb d_SR_control_26 (by decide) (sr_bB hw_23) (fun c_26 => ?_) (fun c_26 => ?_)
        · -- T
          have c_26 := sr_bt hw_23 c_26
          exact absurd ⟨c_4, c_11, c_18, c_26⟩ hbad
        · -- F
          have c_26 := sr_bf hw_23 c_26
          obtain ⟨q_, hq_⟩ := hRs (65, "a coordinate is out of bounds") (by decide)
          exact sr_throw (own := "StrokeRaster") (X0 := sr_IAE) (tx := "a coordinate is out of bounds") (ks := 65) hx hb (hml.trans hl.1.symm) hout hlocks htr hown (by decide +kernel) ht thw_IAE hZ hq_ hP hD hS (Nat.le_of_ble_eq_true rfl) (Nat.le_of_ble_eq_true rfl) rfl rfl (Nat.le_of_ble_eq_true rfl) (Nat.le_of_ble_eq_true rfl) d_SR_control_29 d_SR_control_32 d_SR_control_33 d_SR_control_35 d_SR_control_38

set_option maxHeartbeats 4000000 in
set_option maxRecDepth 100000 in
theorem c_SR_pen (l : Launch) (D : va_G) (cI cJ cZ : ClassId) (sz : Nat) (hs : Nat) (hp : Nat) (hq : Nat) (hc : Nat) (hk0 : Nat) (hg0 : Nat) (hw0 : Nat) (pic : Nat) (kn : Int64) (c1 : Int) (c2 : Int) (c3 : Int) (c4 : Int) (wf : Int) (sd : Int) (so : Int) (sr : Int) (dd : Int) (on : Int) (rs : Int) (fx0 : Int) (fy0 : Int) (ax0 : Int) (ay0 : Int) (ox0 : Int) (oy0 : Int) (ln0 : Int) (hf : Int) (cp : Int) (jn : Int) (lm : Int) (pln : Nat) (nd : Int) (ph : Int) (wl : Int) (p1 : Int) (p2 : Int) (p3 : Int) (p4 : Int) (hok : (1 ≤ p1 ∧ p1 ≤ 4096) ∧ (0 ≤ p2 ∧ p2 ≤ 2) ∧ (0 ≤ p3 ∧ p3 ≤ 2) ∧ (64 ≤ p4 ∧ p4 ≤ 8192)) : Met l y_SR_pen (.code y_SR_pen b_SR_pen 5 none :: allw) ({ frames := 2, cells := 0, slots := 0, locals := 40 } : Room) (va_Pc [.ref hs, .int (iI p1), .int (iI p2), .int (iI p3), .int (iI p4)] (sr_U D classes [(cI, .int), (cJ, .long), (cZ, .boolean)] nestw [(hs, .inr (6, [.ref hp, .ref hq, .ref hc, .ref hk0, .ref hg0, .ref hw0, .ref pic, .long kn, .int (iI c1), .int (iI c2), .int (iI c3), .int (iI c4)])), (hk0, .inr (5, [.ref hp, .ref hq, .ref hc, .int (iI wf), .int (iI sd), .int (iI so), .int (iI sr), .int (iI dd), .int (iI on), .int (iI rs), .int (iI fx0), .int (iI fy0), .int (iI ax0), .int (iI ay0), .int (iI ox0), .int (iI oy0), .int (iI ln0)])), (hq, .inr (3, [.int (iI hf), .int (iI cp), .int (iI jn), .int (iI lm), .ref pln, .int (iI nd), .int (iI ph), .int (iI wl)]))] sz)) (va_Qv (fun (_ : Unit) => True) (sr_B D classes (va_A [(hs, .inr (6, [.ref hp, .ref hq, .ref hc, .ref hk0, .ref hg0, .ref hw0, .ref pic, .long kn, .int (iI c1), .int (iI c2), .int (iI c3), .int (iI c4)])), (hk0, .inr (5, [.ref hp, .ref hq, .ref hc, .int (iI wf), .int (iI sd), .int (iI so), .int (iI sr), .int (iI dd), .int (iI on), .int (iI rs), .int (iI fx0), .int (iI fy0), .int (iI ax0), .int (iI ay0), .int (iI ox0), .int (iI oy0), .int (iI ln0)])), (hq, .inr (3, [.int (iI hf), .int (iI cp), .int (iI jn), .int (iI lm), .ref pln, .int (iI nd), .int (iI ph), .int (iI wl)]))] sz) (fun (_ : Unit) => [(hs, .inr (6, [.ref hp, .ref hq, .ref hc, .ref hk0, .ref hg0, .ref hw0, .ref pic, .long (lI 0), .int (iI c1), .int (iI c2), .int (iI c3), .int (iI c4)])), (hk0, .inr (5, [.ref hp, .ref hq, .ref hc, .int (iI 0), .int (iI sd), .int (iI so), .int (iI sr), .int (iI dd), .int (iI on), .int (iI rs), .int (iI fx0), .int (iI fy0), .int (iI ax0), .int (iI ay0), .int (iI ox0), .int (iI oy0), .int (iI ln0)])), (hq, .inr (3, [.int (iI (8 * p1)), .int (iI p2), .int (iI p3), .int (iI p4), .ref pln, .int (iI nd), .int (iI ph), .int (iI wl)]))])) (va_A [(hs, .inr (6, [.ref hp, .ref hq, .ref hc, .ref hk0, .ref hg0, .ref hw0, .ref pic, .long kn, .int (iI c1), .int (iI c2), .int (iI c3), .int (iI c4)])), (hk0, .inr (5, [.ref hp, .ref hq, .ref hc, .int (iI wf), .int (iI sd), .int (iI so), .int (iI sr), .int (iI dd), .int (iI on), .int (iI rs), .int (iI fx0), .int (iI fy0), .int (iI ax0), .int (iI ay0), .int (iI ox0), .int (iI oy0), .int (iI ln0)])), (hq, .inr (3, [.int (iI hf), .int (iI cp), .int (iI jn), .int (iI lm), .ref pln, .int (iI nd), .int (iI ph), .int (iI wl)]))] sz)) 0 0 (va_A [(hs, .inr (6, [.ref hp, .ref hq, .ref hc, .ref hk0, .ref hg0, .ref hw0, .ref pic, .long kn, .int (iI c1), .int (iI c2), .int (iI c3), .int (iI c4)])), (hk0, .inr (5, [.ref hp, .ref hq, .ref hc, .int (iI wf), .int (iI sd), .int (iI so), .int (iI sr), .int (iI dd), .int (iI on), .int (iI rs), .int (iI fx0), .int (iI fy0), .int (iI ax0), .int (iI ay0), .int (iI ox0), .int (iI oy0), .int (iI ln0)])), (hq, .inr (3, [.int (iI hf), .int (iI cp), .int (iI jn), .int (iI lm), .ref pln, .int (iI nd), .int (iI ph), .int (iI wl)]))] sz) := by
  refine sr_enter (Qf := fun A => va_Qv (fun (_ : Unit) => True) (sr_B D classes A (fun (_ : Unit) => [(hs, .inr (6, [.ref hp, .ref hq, .ref hc, .ref hk0, .ref hg0, .ref hw0, .ref pic, .long (lI 0), .int (iI c1), .int (iI c2), .int (iI c3), .int (iI c4)])), (hk0, .inr (5, [.ref hp, .ref hq, .ref hc, .int (iI 0), .int (iI sd), .int (iI so), .int (iI sr), .int (iI dd), .int (iI on), .int (iI rs), .int (iI fx0), .int (iI fy0), .int (iI ax0), .int (iI ay0), .int (iI ox0), .int (iI oy0), .int (iI ln0)])), (hq, .inr (3, [.int (iI (8 * p1)), .int (iI p2), .int (iI p3), .int (iI p4), .ref pln, .int (iI nd), .int (iI ph), .int (iI wl)]))])) A) (by decide +kernel) rfl (Nat.le_of_ble_eq_true rfl) ?_
  intro p e s m below meth c A ls hx hb hr hml hown hlocks hin hts hsz hP hK hD hN hA hS hl
  have ht : ∀ w ∈ allw, w.before _ s = true := fun w h => hts w (List.mem_cons_of_mem _ h)
  have hsub : ∀ w ∈ allw, w ∈ _ := fun w h => List.mem_cons_of_mem (Cond.code y_SR_pen b_SR_pen 5 none) h
  have hl : lv_has ls 5 [(0, .ref hs), (1, .int (iI p1)), (2, .int (iI p2)), (3, .int (iI p3)), (4, .int (iI p4))] := hl
  have hP : va_P D classes [(hs, .inr (6, [.ref hp, .ref hq, .ref hc, .ref hk0, .ref hg0, .ref hw0, .ref pic, .long kn, .int (iI c1), .int (iI c2), .int (iI c3), .int (iI c4)])), (hk0, .inr (5, [.ref hp, .ref hq, .ref hc, .int (iI wf), .int (iI sd), .int (iI so), .int (iI sr), .int (iI dd), .int (iI on), .int (iI rs), .int (iI fx0), .int (iI fy0), .int (iI ax0), .int (iI ay0), .int (iI ox0), .int (iI oy0), .int (iI ln0)])), (hq, .inr (3, [.int (iI hf), .int (iI cp), .int (iI jn), .int (iI lm), .ref pln, .int (iI nd), .int (iI ph), .int (iI wl)]))] s.heap := hP
  refine lv_iload_n hx hb d_SR_pen_0 rfl (lv_at hl 1 rfl) ?_
  refine sr_iconst hx hb d_SR_pen_1 ?_
  refine sr_icmp_lt (tgt := 45) hx hb d_SR_pen_2 (by decide) (by unfold bI; omega) (by unfold bI; decide) (fun c_2 => ?_) (fun c_2 => ?_)
  · -- T
    exfalso
    omega
  · -- F
    refine lv_iload_n hx hb d_SR_pen_5 rfl (lv_at hl 1 rfl) ?_
    refine sr_sipush hx hb d_SR_pen_6 (by decide) ?_
    refine sr_icmp_gt (tgt := 45) hx hb d_SR_pen_9 (by decide) (by unfold bI; omega) (by unfold bI; decide) (fun c_9 => ?_) (fun c_9 => ?_)
    · -- T
      exfalso
      omega
    · -- F
      refine lv_iload_n hx hb d_SR_pen_12 rfl (lv_at hl 2 rfl) ?_
      refine sr_if_lt (tgt := 45) hx hb d_SR_pen_13 (by decide) (by unfold bI; omega) (fun c_13 => ?_) (fun c_13 => ?_)
      · -- T
        exfalso
        omega
      · -- F
        refine lv_iload_n hx hb d_SR_pen_16 rfl (lv_at hl 2 rfl) ?_
        refine sr_iconst hx hb d_SR_pen_17 ?_
        refine sr_icmp_gt (tgt := 45) hx hb d_SR_pen_18 (by decide) (by unfold bI; omega) (by unfold bI; decide) (fun c_18 => ?_) (fun c_18 => ?_)
        · -- T
          exfalso
          omega
        · -- F
          refine lv_iload_n hx hb d_SR_pen_21 rfl (lv_at hl 3 rfl) ?_
          refine sr_if_lt (tgt := 45) hx hb d_SR_pen_22 (by decide) (by unfold bI; omega) (fun c_22 => ?_) (fun c_22 => ?_)
          · -- T
            exfalso
            omega
          · -- F
            refine lv_iload_n hx hb d_SR_pen_25 rfl (lv_at hl 3 rfl) ?_
            refine sr_iconst hx hb d_SR_pen_26 ?_
            refine sr_icmp_gt (tgt := 45) hx hb d_SR_pen_27 (by decide) (by unfold bI; omega) (by unfold bI; decide) (fun c_27 => ?_) (fun c_27 => ?_)
            · -- T
              exfalso
              omega
            · -- F
              refine lv_iload hx hb d_SR_pen_30 (lv_at hl 4 rfl) ?_
              refine sr_bipush hx hb d_SR_pen_32 (by decide) ?_
              refine sr_icmp_lt (tgt := 45) hx hb d_SR_pen_34 (by decide) (by unfold bI; omega) (by unfold bI; decide) (fun c_34 => ?_) (fun c_34 => ?_)
              · -- T
                exfalso
                omega
              · -- F
                refine lv_iload hx hb d_SR_pen_37 (lv_at hl 4 rfl) ?_
                refine sr_sipush hx hb d_SR_pen_39 (by decide) ?_
                refine sr_icmp_le (tgt := 55) hx hb d_SR_pen_42 (by decide) (by unfold bI; omega) (by unfold bI; decide) (fun c_42 => ?_) (fun c_42 => ?_)
                · -- T
                  refine lv_aload_n hx hb d_SR_pen_55 rfl (lv_at hl 0 rfl) ?_
                  refine va_get hx hb ht i_SR hown hK hP 0 rfl rfl 1 (by decide) (ht _ k_f_SR_19) (fun _ h9 => h9) rfl d_SR_pen_56 ?_
                  refine lv_iload_n hx hb d_SR_pen_59 rfl (lv_at hl 1 rfl) ?_
                  refine lv_iload_n hx hb d_SR_pen_60 rfl (lv_at hl 2 rfl) ?_
                  refine lv_iload_n hx hb d_SR_pen_61 rfl (lv_at hl 3 rfl) ?_
                  refine lv_iload hx hb d_SR_pen_62 (lv_at hl 4 rfl) ?_
                  refine sr_cV_v (wr := [(hs, .inr (6, [.ref hp, .ref hq, .ref hc, .ref hk0, .ref hg0, .ref hw0, .ref pic, .long kn, .int (iI c1), .int (iI c2), .int (iI c3), .int (iI c4)])), (hk0, .inr (5, [.ref hp, .ref hq, .ref hc, .int (iI wf), .int (iI sd), .int (iI so), .int (iI sr), .int (iI dd), .int (iI on), .int (iI rs), .int (iI fx0), .int (iI fy0), .int (iI ax0), .int (iI ay0), .int (iI ox0), .int (iI oy0), .int (iI ln0)]))]) (As := [.int (iI p1), .int (iI p2), .int (iI p3), .int (iI p4)]) (rest := []) (b := hq) (q0 := 2) hx hb hml hown hts (c_Pen_shape l D cI cJ cZ _ hq hf cp jn lm pln nd ph wl p1 p2 p3 p4 ) (sr_cwV hsub hts k_cd_Pen_shape k_in_Pen k_m_SR_130 k_im_Pen_shape k_se_Pen_shape g_Pen_shape ⟨Nat.le_of_ble_eq_true rfl, Nat.le_of_ble_eq_true rfl⟩) hns_ok hK hN hP hD hS hA [2] [0, 1] rfl (by decide) rfl (by decide) (by decide) rfl rfl rfl hl.1 rfl (Nat.le_of_ble_eq_true rfl) d_SR_pen_64 ⟨Nat.le_of_ble_eq_true rfl, Nat.le_of_ble_eq_true rfl⟩ (fun u H locs hw_64 hP hD hS => ?_)
                  have hP : va_P D classes [(hs, .inr (6, [.ref hp, .ref hq, .ref hc, .ref hk0, .ref hg0, .ref hw0, .ref pic, .long kn, .int (iI c1), .int (iI c2), .int (iI c3), .int (iI c4)])), (hk0, .inr (5, [.ref hp, .ref hq, .ref hc, .int (iI wf), .int (iI sd), .int (iI so), .int (iI sr), .int (iI dd), .int (iI on), .int (iI rs), .int (iI fx0), .int (iI fy0), .int (iI ax0), .int (iI ay0), .int (iI ox0), .int (iI oy0), .int (iI ln0)])), (hq, .inr (3, [.int (iI (8 * p1)), .int (iI p2), .int (iI p3), .int (iI p4), .ref pln, .int (iI nd), .int (iI ph), .int (iI wl)]))] H := hP
                  have hD : va_D A [(hs, .inr (6, [.ref hp, .ref hq, .ref hc, .ref hk0, .ref hg0, .ref hw0, .ref pic, .long kn, .int (iI c1), .int (iI c2), .int (iI c3), .int (iI c4)])), (hk0, .inr (5, [.ref hp, .ref hq, .ref hc, .int (iI wf), .int (iI sd), .int (iI so), .int (iI sr), .int (iI dd), .int (iI on), .int (iI rs), .int (iI fx0), .int (iI fy0), .int (iI ax0), .int (iI ay0), .int (iI ox0), .int (iI oy0), .int (iI ln0)])), (hq, .inr (3, [.int (iI (8 * p1)), .int (iI p2), .int (iI p3), .int (iI p4), .ref pln, .int (iI nd), .int (iI ph), .int (iI wl)]))] := hD
                  try dsimp only at hw_64
                  refine lv_aload_n hx hb d_SR_pen_67 rfl (lv_at hl 0 rfl) ?_
                  refine sr_cV_v (wr := [(hq, .inr (3, [.int (iI (8 * p1)), .int (iI p2), .int (iI p3), .int (iI p4), .ref pln, .int (iI nd), .int (iI ph), .int (iI wl)]))]) (As := []) (rest := []) (b := hs) (q0 := 0) hx hb hml hown hts (c_SR_forget l D cI cJ cZ _ hs hp hq hc hk0 hg0 hw0 pic kn c1 c2 c3 c4 wf sd so sr dd on rs fx0 fy0 ax0 ay0 ox0 oy0 ln0 ) (sr_cwV hsub hts k_cd_SR_forget k_in_SR k_m_SR_86 k_im_SR_forget k_se_SR_forget g_SR_forget ⟨Nat.le_of_ble_eq_true rfl, Nat.le_of_ble_eq_true rfl⟩) hns_ok hK hN hP hD hS hA [0, 1] [2] rfl (by decide) rfl (by decide) (by decide) rfl rfl rfl hl.1 rfl (Nat.le_of_ble_eq_true rfl) d_SR_pen_68 ⟨Nat.le_of_ble_eq_true rfl, Nat.le_of_ble_eq_true rfl⟩ (fun u H locs hw_68 hP hD hS => ?_)
                  have hP : va_P D classes [(hq, .inr (3, [.int (iI (8 * p1)), .int (iI p2), .int (iI p3), .int (iI p4), .ref pln, .int (iI nd), .int (iI ph), .int (iI wl)])), (hs, .inr (6, [.ref hp, .ref hq, .ref hc, .ref hk0, .ref hg0, .ref hw0, .ref pic, .long (lI 0), .int (iI c1), .int (iI c2), .int (iI c3), .int (iI c4)])), (hk0, .inr (5, [.ref hp, .ref hq, .ref hc, .int (iI 0), .int (iI sd), .int (iI so), .int (iI sr), .int (iI dd), .int (iI on), .int (iI rs), .int (iI fx0), .int (iI fy0), .int (iI ax0), .int (iI ay0), .int (iI ox0), .int (iI oy0), .int (iI ln0)]))] H := hP
                  have hD : va_D A [(hq, .inr (3, [.int (iI (8 * p1)), .int (iI p2), .int (iI p3), .int (iI p4), .ref pln, .int (iI nd), .int (iI ph), .int (iI wl)])), (hs, .inr (6, [.ref hp, .ref hq, .ref hc, .ref hk0, .ref hg0, .ref hw0, .ref pic, .long (lI 0), .int (iI c1), .int (iI c2), .int (iI c3), .int (iI c4)])), (hk0, .inr (5, [.ref hp, .ref hq, .ref hc, .int (iI 0), .int (iI sd), .int (iI so), .int (iI sr), .int (iI dd), .int (iI on), .int (iI rs), .int (iI fx0), .int (iI fy0), .int (iI ax0), .int (iI ay0), .int (iI ox0), .int (iI oy0), .int (iI ln0)]))] := hD
                  try dsimp only at hw_68
                  exact sr_vret () hx hb hr hlocks (hP.sub [1, 2, 0] rfl) (hD.sub [1, 2, 0] (by decide) rfl) hS d_SR_pen_71 (trivial)
                · -- F
                  exfalso
                  omega

set_option maxHeartbeats 4000000 in
set_option maxRecDepth 100000 in
theorem c_SR_pen_IAE (l : Launch) (htr : ∀ e : Env, l.admits e → e.platform.stackTraces = false) (D : va_G) (cI cJ cZ : ClassId) (sz : Nat) (hs : Nat) (p1 : Int) (p2 : Int) (p3 : Int) (p4 : Int) (h1 : -2147483648 ≤ p1 ∧ p1 ≤ 2147483647) (h2 : -2147483648 ≤ p2 ∧ p2 ≤ 2147483647) (h3 : -2147483648 ≤ p3 ∧ p3 ≤ 2147483647) (h4 : -2147483648 ≤ p4 ∧ p4 ≤ 2147483647) (hbad : ¬ ((1 ≤ p1 ∧ p1 ≤ 4096) ∧ (0 ≤ p2 ∧ p2 ≤ 2) ∧ (0 ≤ p3 ∧ p3 ≤ 2) ∧ (64 ≤ p4 ∧ p4 ≤ 8192))) : sr_MetT l y_SR_pen (Cond.code y_SR_pen b_SR_pen 5 none :: allw) ({ frames := 6, cells := 1, slots := 6, locals := 82 } : Room) (va_Pc [.ref hs, .int (iI p1), .int (iI p2), .int (iI p3), .int (iI p4)] (sr_V D classes [(cI, .int), (cJ, .long), (cZ, .boolean)] nestw sr_strs [] sz)) (sr_T sr_IAE D classes (va_A [] sz) []) 1 6 (va_A [] sz) := by
  refine sr_enterT (QT := fun A => sr_T sr_IAE D classes A []) (by decide +kernel) rfl (Nat.le_of_ble_eq_true rfl) ?_
  intro p e s m below meth c A ls hx hb hr hml hown hlocks hin hts hsz hP hK hD hN hA hS hl hout hZ hRs
  have ht : ∀ w ∈ allw, w.before _ s = true := fun w h => hts w (List.mem_cons_of_mem _ h)
  have hsub : ∀ w ∈ allw, w ∈ _ := fun w h => List.mem_cons_of_mem (Cond.code y_SR_pen b_SR_pen 5 none) h
  have hl : lv_has ls 5 [(0, .ref hs), (1, .int (iI p1)), (2, .int (iI p2)), (3, .int (iI p3)), (4, .int (iI p4))] := hl
  have hP : va_P D classes [] s.heap := hP
  refine lv_iload_n hx hb d_SR_pen_0 rfl (lv_at hl 1 rfl) ?_
  refine sr_iconst hx hb d_SR_pen_1 ?_
  refine sr_icmp_lt (tgt := 45) hx hb d_SR_pen_2 (by decide) (by unfold bI; omega) (by unfold bI; decide) (fun c_2 => ?_) (fun c_2 => ?_)
  · -- T
    obtain ⟨q_, hq_⟩ := hRs (128, "the pen is out of bounds") (by decide)
    exact sr_throw (own := "StrokeRaster") (X0 := sr_IAE) (tx := "the pen is out of bounds") (ks := 128) hx hb (hml.trans hl.1.symm) hout hlocks htr hown (by decide +kernel) ht thw_IAE hZ hq_ hP hD hS (Nat.le_of_ble_eq_true rfl) (Nat.le_of_ble_eq_true rfl) rfl rfl (Nat.le_of_ble_eq_true rfl) (Nat.le_of_ble_eq_true rfl) d_SR_pen_45 d_SR_pen_48 d_SR_pen_49 d_SR_pen_51 d_SR_pen_54
  · -- F
    refine lv_iload_n hx hb d_SR_pen_5 rfl (lv_at hl 1 rfl) ?_
    refine sr_sipush hx hb d_SR_pen_6 (by decide) ?_
    refine sr_icmp_gt (tgt := 45) hx hb d_SR_pen_9 (by decide) (by unfold bI; omega) (by unfold bI; decide) (fun c_9 => ?_) (fun c_9 => ?_)
    · -- T
      obtain ⟨q_, hq_⟩ := hRs (128, "the pen is out of bounds") (by decide)
      exact sr_throw (own := "StrokeRaster") (X0 := sr_IAE) (tx := "the pen is out of bounds") (ks := 128) hx hb (hml.trans hl.1.symm) hout hlocks htr hown (by decide +kernel) ht thw_IAE hZ hq_ hP hD hS (Nat.le_of_ble_eq_true rfl) (Nat.le_of_ble_eq_true rfl) rfl rfl (Nat.le_of_ble_eq_true rfl) (Nat.le_of_ble_eq_true rfl) d_SR_pen_45 d_SR_pen_48 d_SR_pen_49 d_SR_pen_51 d_SR_pen_54
    · -- F
      refine lv_iload_n hx hb d_SR_pen_12 rfl (lv_at hl 2 rfl) ?_
      refine sr_if_lt (tgt := 45) hx hb d_SR_pen_13 (by decide) (by unfold bI; omega) (fun c_13 => ?_) (fun c_13 => ?_)
      · -- T
        obtain ⟨q_, hq_⟩ := hRs (128, "the pen is out of bounds") (by decide)
        exact sr_throw (own := "StrokeRaster") (X0 := sr_IAE) (tx := "the pen is out of bounds") (ks := 128) hx hb (hml.trans hl.1.symm) hout hlocks htr hown (by decide +kernel) ht thw_IAE hZ hq_ hP hD hS (Nat.le_of_ble_eq_true rfl) (Nat.le_of_ble_eq_true rfl) rfl rfl (Nat.le_of_ble_eq_true rfl) (Nat.le_of_ble_eq_true rfl) d_SR_pen_45 d_SR_pen_48 d_SR_pen_49 d_SR_pen_51 d_SR_pen_54
      · -- F
        refine lv_iload_n hx hb d_SR_pen_16 rfl (lv_at hl 2 rfl) ?_
        refine sr_iconst hx hb d_SR_pen_17 ?_
        refine sr_icmp_gt (tgt := 45) hx hb d_SR_pen_18 (by decide) (by unfold bI; omega) (by unfold bI; decide) (fun c_18 => ?_) (fun c_18 => ?_)
        · -- T
          obtain ⟨q_, hq_⟩ := hRs (128, "the pen is out of bounds") (by decide)
          exact sr_throw (own := "StrokeRaster") (X0 := sr_IAE) (tx := "the pen is out of bounds") (ks := 128) hx hb (hml.trans hl.1.symm) hout hlocks htr hown (by decide +kernel) ht thw_IAE hZ hq_ hP hD hS (Nat.le_of_ble_eq_true rfl) (Nat.le_of_ble_eq_true rfl) rfl rfl (Nat.le_of_ble_eq_true rfl) (Nat.le_of_ble_eq_true rfl) d_SR_pen_45 d_SR_pen_48 d_SR_pen_49 d_SR_pen_51 d_SR_pen_54
        · -- F
          refine lv_iload_n hx hb d_SR_pen_21 rfl (lv_at hl 3 rfl) ?_
          refine sr_if_lt (tgt := 45) hx hb d_SR_pen_22 (by decide) (by unfold bI; omega) (fun c_22 => ?_) (fun c_22 => ?_)
          · -- T
            obtain ⟨q_, hq_⟩ := hRs (128, "the pen is out of bounds") (by decide)
            exact sr_throw (own := "StrokeRaster") (X0 := sr_IAE) (tx := "the pen is out of bounds") (ks := 128) hx hb (hml.trans hl.1.symm) hout hlocks htr hown (by decide +kernel) ht thw_IAE hZ hq_ hP hD hS (Nat.le_of_ble_eq_true rfl) (Nat.le_of_ble_eq_true rfl) rfl rfl (Nat.le_of_ble_eq_true rfl) (Nat.le_of_ble_eq_true rfl) d_SR_pen_45 d_SR_pen_48 d_SR_pen_49 d_SR_pen_51 d_SR_pen_54
          · -- F
            refine lv_iload_n hx hb d_SR_pen_25 rfl (lv_at hl 3 rfl) ?_
            refine sr_iconst hx hb d_SR_pen_26 ?_
            refine sr_icmp_gt (tgt := 45) hx hb d_SR_pen_27 (by decide) (by unfold bI; omega) (by unfold bI; decide) (fun c_27 => ?_) (fun c_27 => ?_)
            · -- T
              obtain ⟨q_, hq_⟩ := hRs (128, "the pen is out of bounds") (by decide)
              exact sr_throw (own := "StrokeRaster") (X0 := sr_IAE) (tx := "the pen is out of bounds") (ks := 128) hx hb (hml.trans hl.1.symm) hout hlocks htr hown (by decide +kernel) ht thw_IAE hZ hq_ hP hD hS (Nat.le_of_ble_eq_true rfl) (Nat.le_of_ble_eq_true rfl) rfl rfl (Nat.le_of_ble_eq_true rfl) (Nat.le_of_ble_eq_true rfl) d_SR_pen_45 d_SR_pen_48 d_SR_pen_49 d_SR_pen_51 d_SR_pen_54
            · -- F
              refine lv_iload hx hb d_SR_pen_30 (lv_at hl 4 rfl) ?_
              refine sr_bipush hx hb d_SR_pen_32 (by decide) ?_
              refine sr_icmp_lt (tgt := 45) hx hb d_SR_pen_34 (by decide) (by unfold bI; omega) (by unfold bI; decide) (fun c_34 => ?_) (fun c_34 => ?_)
              · -- T
                obtain ⟨q_, hq_⟩ := hRs (128, "the pen is out of bounds") (by decide)
                exact sr_throw (own := "StrokeRaster") (X0 := sr_IAE) (tx := "the pen is out of bounds") (ks := 128) hx hb (hml.trans hl.1.symm) hout hlocks htr hown (by decide +kernel) ht thw_IAE hZ hq_ hP hD hS (Nat.le_of_ble_eq_true rfl) (Nat.le_of_ble_eq_true rfl) rfl rfl (Nat.le_of_ble_eq_true rfl) (Nat.le_of_ble_eq_true rfl) d_SR_pen_45 d_SR_pen_48 d_SR_pen_49 d_SR_pen_51 d_SR_pen_54
              · -- F
                refine lv_iload hx hb d_SR_pen_37 (lv_at hl 4 rfl) ?_
                refine sr_sipush hx hb d_SR_pen_39 (by decide) ?_
                refine sr_icmp_le (tgt := 55) hx hb d_SR_pen_42 (by decide) (by unfold bI; omega) (by unfold bI; decide) (fun c_42 => ?_) (fun c_42 => ?_)
                · -- T
                  exact absurd hbad (by omega)
                · -- F
                  obtain ⟨q_, hq_⟩ := hRs (128, "the pen is out of bounds") (by decide)
                  exact sr_throw (own := "StrokeRaster") (X0 := sr_IAE) (tx := "the pen is out of bounds") (ks := 128) hx hb (hml.trans hl.1.symm) hout hlocks htr hown (by decide +kernel) ht thw_IAE hZ hq_ hP hD hS (Nat.le_of_ble_eq_true rfl) (Nat.le_of_ble_eq_true rfl) rfl rfl (Nat.le_of_ble_eq_true rfl) (Nat.le_of_ble_eq_true rfl) d_SR_pen_45 d_SR_pen_48 d_SR_pen_49 d_SR_pen_51 d_SR_pen_54

set_option maxHeartbeats 4000000 in
set_option maxRecDepth 100000 in
theorem c_SR_dash (l : Launch) (D : va_G) (cI cJ cZ : ClassId) (sz : Nat) (hs : Nat) (hp : Nat) (hq : Nat) (hc : Nat) (hk0 : Nat) (hg0 : Nat) (hw0 : Nat) (pic : Nat) (kn : Int64) (c1 : Int) (c2 : Int) (c3 : Int) (c4 : Int) (wf : Int) (sd : Int) (so : Int) (sr : Int) (dd : Int) (on : Int) (rs : Int) (fx0 : Int) (fy0 : Int) (ax0 : Int) (ay0 : Int) (ox0 : Int) (oy0 : Int) (ln0 : Int) (hf : Int) (cp : Int) (jn : Int) (lm : Int) (pln : Nat) (nd : Int) (ph : Int) (wl : Int) (ln : Int → Int) (p1 : Int) (hok : 0 ≤ p1 ∧ p1 ≤ 8192) (h0 : 0 ≤ nd) (h1 : nd < 8) : Met l y_SR_dash (.code y_SR_dash b_SR_dash 2 (some .int) :: allw) ({ frames := 2, cells := 0, slots := 0, locals := 40 } : Room) (va_Pc [.ref hs, .int (iI p1)] (sr_U D classes [(cI, .int), (cJ, .long), (cZ, .boolean)] nestw [(hs, .inr (6, [.ref hp, .ref hq, .ref hc, .ref hk0, .ref hg0, .ref hw0, .ref pic, .long kn, .int (iI c1), .int (iI c2), .int (iI c3), .int (iI c4)])), (hk0, .inr (5, [.ref hp, .ref hq, .ref hc, .int (iI wf), .int (iI sd), .int (iI so), .int (iI sr), .int (iI dd), .int (iI on), .int (iI rs), .int (iI fx0), .int (iI fy0), .int (iI ax0), .int (iI ay0), .int (iI ox0), .int (iI oy0), .int (iI ln0)])), (hq, .inr (3, [.int (iI hf), .int (iI cp), .int (iI jn), .int (iI lm), .ref pln, .int (iI nd), .int (iI ph), .int (iI wl)])), (pln, .inl (cI, 8, .inl (zI ln)))] sz)) (va_Qi (fun (r : Int32) => fun (_ : Unit) => r = iI (nd + 1)) (sr_B D classes (va_A [(hs, .inr (6, [.ref hp, .ref hq, .ref hc, .ref hk0, .ref hg0, .ref hw0, .ref pic, .long kn, .int (iI c1), .int (iI c2), .int (iI c3), .int (iI c4)])), (hk0, .inr (5, [.ref hp, .ref hq, .ref hc, .int (iI wf), .int (iI sd), .int (iI so), .int (iI sr), .int (iI dd), .int (iI on), .int (iI rs), .int (iI fx0), .int (iI fy0), .int (iI ax0), .int (iI ay0), .int (iI ox0), .int (iI oy0), .int (iI ln0)])), (hq, .inr (3, [.int (iI hf), .int (iI cp), .int (iI jn), .int (iI lm), .ref pln, .int (iI nd), .int (iI ph), .int (iI wl)])), (pln, .inl (cI, 8, .inl (zI ln)))] sz) (fun (_ : Unit) => [(hs, .inr (6, [.ref hp, .ref hq, .ref hc, .ref hk0, .ref hg0, .ref hw0, .ref pic, .long (lI 0), .int (iI c1), .int (iI c2), .int (iI c3), .int (iI c4)])), (hk0, .inr (5, [.ref hp, .ref hq, .ref hc, .int (iI 0), .int (iI sd), .int (iI so), .int (iI sr), .int (iI dd), .int (iI on), .int (iI rs), .int (iI fx0), .int (iI fy0), .int (iI ax0), .int (iI ay0), .int (iI ox0), .int (iI oy0), .int (iI ln0)])), (hq, .inr (3, [.int (iI hf), .int (iI cp), .int (iI jn), .int (iI lm), .ref pln, .int (iI (nd + 1)), .int (iI ph), .int (iI (wl + p1))])), (pln, .inl (cI, 8, .inl (zI (zup ln nd p1))))])) (va_A [(hs, .inr (6, [.ref hp, .ref hq, .ref hc, .ref hk0, .ref hg0, .ref hw0, .ref pic, .long kn, .int (iI c1), .int (iI c2), .int (iI c3), .int (iI c4)])), (hk0, .inr (5, [.ref hp, .ref hq, .ref hc, .int (iI wf), .int (iI sd), .int (iI so), .int (iI sr), .int (iI dd), .int (iI on), .int (iI rs), .int (iI fx0), .int (iI fy0), .int (iI ax0), .int (iI ay0), .int (iI ox0), .int (iI oy0), .int (iI ln0)])), (hq, .inr (3, [.int (iI hf), .int (iI cp), .int (iI jn), .int (iI lm), .ref pln, .int (iI nd), .int (iI ph), .int (iI wl)])), (pln, .inl (cI, 8, .inl (zI ln)))] sz)) 0 0 (va_A [(hs, .inr (6, [.ref hp, .ref hq, .ref hc, .ref hk0, .ref hg0, .ref hw0, .ref pic, .long kn, .int (iI c1), .int (iI c2), .int (iI c3), .int (iI c4)])), (hk0, .inr (5, [.ref hp, .ref hq, .ref hc, .int (iI wf), .int (iI sd), .int (iI so), .int (iI sr), .int (iI dd), .int (iI on), .int (iI rs), .int (iI fx0), .int (iI fy0), .int (iI ax0), .int (iI ay0), .int (iI ox0), .int (iI oy0), .int (iI ln0)])), (hq, .inr (3, [.int (iI hf), .int (iI cp), .int (iI jn), .int (iI lm), .ref pln, .int (iI nd), .int (iI ph), .int (iI wl)])), (pln, .inl (cI, 8, .inl (zI ln)))] sz) := by
  refine sr_enter (Qf := fun A => va_Qi (fun (r : Int32) => fun (_ : Unit) => r = iI (nd + 1)) (sr_B D classes A (fun (_ : Unit) => [(hs, .inr (6, [.ref hp, .ref hq, .ref hc, .ref hk0, .ref hg0, .ref hw0, .ref pic, .long (lI 0), .int (iI c1), .int (iI c2), .int (iI c3), .int (iI c4)])), (hk0, .inr (5, [.ref hp, .ref hq, .ref hc, .int (iI 0), .int (iI sd), .int (iI so), .int (iI sr), .int (iI dd), .int (iI on), .int (iI rs), .int (iI fx0), .int (iI fy0), .int (iI ax0), .int (iI ay0), .int (iI ox0), .int (iI oy0), .int (iI ln0)])), (hq, .inr (3, [.int (iI hf), .int (iI cp), .int (iI jn), .int (iI lm), .ref pln, .int (iI (nd + 1)), .int (iI ph), .int (iI (wl + p1))])), (pln, .inl (cI, 8, .inl (zI (zup ln nd p1))))])) A) (by decide +kernel) rfl (Nat.le_of_ble_eq_true rfl) ?_
  intro p e s m below meth c A ls hx hb hr hml hown hlocks hin hts hsz hP hK hD hN hA hS hl
  have ht : ∀ w ∈ allw, w.before _ s = true := fun w h => hts w (List.mem_cons_of_mem _ h)
  have hsub : ∀ w ∈ allw, w ∈ _ := fun w h => List.mem_cons_of_mem (Cond.code y_SR_dash b_SR_dash 2 (some .int)) h
  have hl : lv_has ls 2 [(0, .ref hs), (1, .int (iI p1))] := hl
  have hP : va_P D classes [(hs, .inr (6, [.ref hp, .ref hq, .ref hc, .ref hk0, .ref hg0, .ref hw0, .ref pic, .long kn, .int (iI c1), .int (iI c2), .int (iI c3), .int (iI c4)])), (hk0, .inr (5, [.ref hp, .ref hq, .ref hc, .int (iI wf), .int (iI sd), .int (iI so), .int (iI sr), .int (iI dd), .int (iI on), .int (iI rs), .int (iI fx0), .int (iI fy0), .int (iI ax0), .int (iI ay0), .int (iI ox0), .int (iI oy0), .int (iI ln0)])), (hq, .inr (3, [.int (iI hf), .int (iI cp), .int (iI jn), .int (iI lm), .ref pln, .int (iI nd), .int (iI ph), .int (iI wl)])), (pln, .inl (cI, 8, .inl (zI ln)))] s.heap := hP
  refine lv_iload_n hx hb d_SR_dash_0 rfl (lv_at hl 1 rfl) ?_
  refine sr_if_lt (tgt := 11) hx hb d_SR_dash_1 (by decide) (by unfold bI; omega) (fun c_1 => ?_) (fun c_1 => ?_)
  · -- T
    exfalso
    omega
  · -- F
    refine lv_iload_n hx hb d_SR_dash_4 rfl (lv_at hl 1 rfl) ?_
    refine sr_sipush hx hb d_SR_dash_5 (by decide) ?_
    refine sr_icmp_le (tgt := 21) hx hb d_SR_dash_8 (by decide) (by unfold bI; omega) (by unfold bI; decide) (fun c_8 => ?_) (fun c_8 => ?_)
    · -- T
      refine lv_aload_n hx hb d_SR_dash_21 rfl (lv_at hl 0 rfl) ?_
      refine va_get hx hb ht i_SR hown hK hP 0 rfl rfl 1 (by decide) (ht _ k_f_SR_19) (fun _ h9 => h9) rfl d_SR_dash_22 ?_
      refine va_get hx hb ht i_Pen hown hK hP 2 rfl rfl 5 (by decide) (ht _ k_f_SR_136) (fun _ h9 => h9) rfl d_SR_dash_25 ?_
      refine sr_bipush hx hb d_SR_dash_28 (by decide) ?_
      refine sr_icmp_lt (tgt := 43) hx hb d_SR_dash_30 (by decide) (by unfold bI; omega) (by unfold bI; decide) (fun c_30 => ?_) (fun c_30 => ?_)
      · -- T
        refine lv_aload_n hx hb d_SR_dash_43 rfl (lv_at hl 0 rfl) ?_
        refine va_get hx hb ht i_SR hown hK hP 0 rfl rfl 1 (by decide) (ht _ k_f_SR_19) (fun _ h9 => h9) rfl d_SR_dash_44 ?_
        refine lv_iload_n hx hb d_SR_dash_47 rfl (lv_at hl 1 rfl) ?_
        refine sr_cV_v (wr := [(hs, .inr (6, [.ref hp, .ref hq, .ref hc, .ref hk0, .ref hg0, .ref hw0, .ref pic, .long kn, .int (iI c1), .int (iI c2), .int (iI c3), .int (iI c4)])), (hk0, .inr (5, [.ref hp, .ref hq, .ref hc, .int (iI wf), .int (iI sd), .int (iI so), .int (iI sr), .int (iI dd), .int (iI on), .int (iI rs), .int (iI fx0), .int (iI fy0), .int (iI ax0), .int (iI ay0), .int (iI ox0), .int (iI oy0), .int (iI ln0)]))]) (As := [.int (iI p1)]) (rest := []) (b := hq) (q0 := 2) hx hb hml hown hts (c_Pen_addDash l D cI cJ cZ _ hq hf cp jn lm pln nd ph wl ln p1 (by omega) (by omega)) (sr_cwV hsub hts k_cd_Pen_addDash k_in_Pen k_m_SR_141 k_im_Pen_addDash k_se_Pen_addDash g_Pen_addDash ⟨Nat.le_of_ble_eq_true rfl, Nat.le_of_ble_eq_true rfl⟩) hns_ok hK hN hP hD hS hA [2, 3] [0, 1] rfl (by decide) rfl (by decide) (by decide) rfl rfl rfl hl.1 rfl (Nat.le_of_ble_eq_true rfl) d_SR_dash_48 ⟨Nat.le_of_ble_eq_true rfl, Nat.le_of_ble_eq_true rfl⟩ (fun u H locs hw_48 hP hD hS => ?_)
        have hP : va_P D classes [(hs, .inr (6, [.ref hp, .ref hq, .ref hc, .ref hk0, .ref hg0, .ref hw0, .ref pic, .long kn, .int (iI c1), .int (iI c2), .int (iI c3), .int (iI c4)])), (hk0, .inr (5, [.ref hp, .ref hq, .ref hc, .int (iI wf), .int (iI sd), .int (iI so), .int (iI sr), .int (iI dd), .int (iI on), .int (iI rs), .int (iI fx0), .int (iI fy0), .int (iI ax0), .int (iI ay0), .int (iI ox0), .int (iI oy0), .int (iI ln0)])), (hq, .inr (3, [.int (iI hf), .int (iI cp), .int (iI jn), .int (iI lm), .ref pln, .int (iI (nd + 1)), .int (iI ph), .int (iI (wl + p1))])), (pln, .inl (cI, 8, .inl (zI (zup ln nd p1))))] H := hP
        have hD : va_D A [(hs, .inr (6, [.ref hp, .ref hq, .ref hc, .ref hk0, .ref hg0, .ref hw0, .ref pic, .long kn, .int (iI c1), .int (iI c2), .int (iI c3), .int (iI c4)])), (hk0, .inr (5, [.ref hp, .ref hq, .ref hc, .int (iI wf), .int (iI sd), .int (iI so), .int (iI sr), .int (iI dd), .int (iI on), .int (iI rs), .int (iI fx0), .int (iI fy0), .int (iI ax0), .int (iI ay0), .int (iI ox0), .int (iI oy0), .int (iI ln0)])), (hq, .inr (3, [.int (iI hf), .int (iI cp), .int (iI jn), .int (iI lm), .ref pln, .int (iI (nd + 1)), .int (iI ph), .int (iI (wl + p1))])), (pln, .inl (cI, 8, .inl (zI (zup ln nd p1))))] := hD
        try dsimp only at hw_48
        refine lv_aload_n hx hb d_SR_dash_51 rfl (lv_at hl 0 rfl) ?_
        refine sr_cV_v (wr := [(hq, .inr (3, [.int (iI hf), .int (iI cp), .int (iI jn), .int (iI lm), .ref pln, .int (iI (nd + 1)), .int (iI ph), .int (iI (wl + p1))])), (pln, .inl (cI, 8, .inl (zI (zup ln nd p1))))]) (As := []) (rest := []) (b := hs) (q0 := 0) hx hb hml hown hts (c_SR_forget l D cI cJ cZ _ hs hp hq hc hk0 hg0 hw0 pic kn c1 c2 c3 c4 wf sd so sr dd on rs fx0 fy0 ax0 ay0 ox0 oy0 ln0 ) (sr_cwV hsub hts k_cd_SR_forget k_in_SR k_m_SR_86 k_im_SR_forget k_se_SR_forget g_SR_forget ⟨Nat.le_of_ble_eq_true rfl, Nat.le_of_ble_eq_true rfl⟩) hns_ok hK hN hP hD hS hA [0, 1] [2, 3] rfl (by decide) rfl (by decide) (by decide) rfl rfl rfl hl.1 rfl (Nat.le_of_ble_eq_true rfl) d_SR_dash_52 ⟨Nat.le_of_ble_eq_true rfl, Nat.le_of_ble_eq_true rfl⟩ (fun u H locs hw_52 hP hD hS => ?_)
        have hP : va_P D classes [(hq, .inr (3, [.int (iI hf), .int (iI cp), .int (iI jn), .int (iI lm), .ref pln, .int (iI (nd + 1)), .int (iI ph), .int (iI (wl + p1))])), (pln, .inl (cI, 8, .inl (zI (zup ln nd p1)))), (hs, .inr (6, [.ref hp, .ref hq, .ref hc, .ref hk0, .ref hg0, .ref hw0, .ref pic, .long (lI 0), .int (iI c1), .int (iI c2), .int (iI c3), .int (iI c4)])), (hk0, .inr (5, [.ref hp, .ref hq, .ref hc, .int (iI 0), .int (iI sd), .int (iI so), .int (iI sr), .int (iI dd), .int (iI on), .int (iI rs), .int (iI fx0), .int (iI fy0), .int (iI ax0), .int (iI ay0), .int (iI ox0), .int (iI oy0), .int (iI ln0)]))] H := hP
        have hD : va_D A [(hq, .inr (3, [.int (iI hf), .int (iI cp), .int (iI jn), .int (iI lm), .ref pln, .int (iI (nd + 1)), .int (iI ph), .int (iI (wl + p1))])), (pln, .inl (cI, 8, .inl (zI (zup ln nd p1)))), (hs, .inr (6, [.ref hp, .ref hq, .ref hc, .ref hk0, .ref hg0, .ref hw0, .ref pic, .long (lI 0), .int (iI c1), .int (iI c2), .int (iI c3), .int (iI c4)])), (hk0, .inr (5, [.ref hp, .ref hq, .ref hc, .int (iI 0), .int (iI sd), .int (iI so), .int (iI sr), .int (iI dd), .int (iI on), .int (iI rs), .int (iI fx0), .int (iI fy0), .int (iI ax0), .int (iI ay0), .int (iI ox0), .int (iI oy0), .int (iI ln0)]))] := hD
        try dsimp only at hw_52
        refine lv_aload_n hx hb d_SR_dash_55 rfl (lv_at hl 0 rfl) ?_
        refine va_get hx hb ht i_SR hown hK hP 2 rfl rfl 1 (by decide) (ht _ k_f_SR_19) (fun _ h9 => h9) rfl d_SR_dash_56 ?_
        refine va_get hx hb ht i_Pen hown hK hP 0 rfl rfl 5 (by decide) (ht _ k_f_SR_136) (fun _ h9 => h9) rfl d_SR_dash_59 ?_
        exact sr_iret () hx hb hr hlocks (hP.sub [2, 3, 0, 1] rfl) (hD.sub [2, 3, 0, 1] (by decide) rfl) hS d_SR_dash_62 (rfl)
      · -- F
        exfalso
        omega
    · -- F
      exfalso
      omega

set_option maxHeartbeats 4000000 in
set_option maxRecDepth 100000 in
theorem c_SR_dash_IAE (l : Launch) (htr : ∀ e : Env, l.admits e → e.platform.stackTraces = false) (D : va_G) (cI cJ cZ : ClassId) (sz : Nat) (hs : Nat) (p1 : Int) (hb : -2147483648 ≤ p1 ∧ p1 ≤ 2147483647) (hbad : ¬ (0 ≤ p1 ∧ p1 ≤ 8192)) : sr_MetT l y_SR_dash (Cond.code y_SR_dash b_SR_dash 2 (some .int) :: allw) ({ frames := 6, cells := 1, slots := 6, locals := 82 } : Room) (va_Pc [.ref hs, .int (iI p1)] (sr_V D classes [(cI, .int), (cJ, .long), (cZ, .boolean)] nestw sr_strs [] sz)) (sr_T sr_IAE D classes (va_A [] sz) []) 1 6 (va_A [] sz) := by
  refine sr_enterT (QT := fun A => sr_T sr_IAE D classes A []) (by decide +kernel) rfl (Nat.le_of_ble_eq_true rfl) ?_
  intro p e s m below meth c A ls hx hb hr hml hown hlocks hin hts hsz hP hK hD hN hA hS hl hout hZ hRs
  have ht : ∀ w ∈ allw, w.before _ s = true := fun w h => hts w (List.mem_cons_of_mem _ h)
  have hsub : ∀ w ∈ allw, w ∈ _ := fun w h => List.mem_cons_of_mem (Cond.code y_SR_dash b_SR_dash 2 (some .int)) h
  have hl : lv_has ls 2 [(0, .ref hs), (1, .int (iI p1))] := hl
  have hP : va_P D classes [] s.heap := hP
  refine lv_iload_n hx hb d_SR_dash_0 rfl (lv_at hl 1 rfl) ?_
  refine sr_if_lt (tgt := 11) hx hb d_SR_dash_1 (by decide) (by unfold bI; omega) (fun c_1 => ?_) (fun c_1 => ?_)
  · -- T
    obtain ⟨q_, hq_⟩ := hRs (134, "the dash is out of bounds") (by decide)
    exact sr_throw (own := "StrokeRaster") (X0 := sr_IAE) (tx := "the dash is out of bounds") (ks := 134) hx hb (hml.trans hl.1.symm) hout hlocks htr hown (by decide +kernel) ht thw_IAE hZ hq_ hP hD hS (Nat.le_of_ble_eq_true rfl) (Nat.le_of_ble_eq_true rfl) rfl rfl (Nat.le_of_ble_eq_true rfl) (Nat.le_of_ble_eq_true rfl) d_SR_dash_11 d_SR_dash_14 d_SR_dash_15 d_SR_dash_17 d_SR_dash_20
  · -- F
    refine lv_iload_n hx hb d_SR_dash_4 rfl (lv_at hl 1 rfl) ?_
    refine sr_sipush hx hb d_SR_dash_5 (by decide) ?_
    refine sr_icmp_le (tgt := 21) hx hb d_SR_dash_8 (by decide) (by unfold bI; omega) (by unfold bI; decide) (fun c_8 => ?_) (fun c_8 => ?_)
    · -- T
      exact absurd hbad (by omega)
    · -- F
      obtain ⟨q_, hq_⟩ := hRs (134, "the dash is out of bounds") (by decide)
      exact sr_throw (own := "StrokeRaster") (X0 := sr_IAE) (tx := "the dash is out of bounds") (ks := 134) hx hb (hml.trans hl.1.symm) hout hlocks htr hown (by decide +kernel) ht thw_IAE hZ hq_ hP hD hS (Nat.le_of_ble_eq_true rfl) (Nat.le_of_ble_eq_true rfl) rfl rfl (Nat.le_of_ble_eq_true rfl) (Nat.le_of_ble_eq_true rfl) d_SR_dash_11 d_SR_dash_14 d_SR_dash_15 d_SR_dash_17 d_SR_dash_20

set_option maxHeartbeats 4000000 in
set_option maxRecDepth 100000 in
theorem c_SR_dash_ISE (l : Launch) (htr : ∀ e : Env, l.admits e → e.platform.stackTraces = false) (D : va_G) (cI cJ cZ : ClassId) (sz : Nat) (hs : Nat) (hp : Nat) (hq : Nat) (hc : Nat) (hk0 : Nat) (hg0 : Nat) (hw0 : Nat) (pic : Nat) (kn : Int64) (c1 : Int) (c2 : Int) (c3 : Int) (c4 : Int) (hf : Int) (cp : Int) (jn : Int) (lm : Int) (pln : Nat) (nd : Int) (ph : Int) (wl : Int) (p1 : Int) (hok : 0 ≤ p1 ∧ p1 ≤ 8192) (hful : nd = 8) : sr_MetT l y_SR_dash (Cond.code y_SR_dash b_SR_dash 2 (some .int) :: allw) ({ frames := 6, cells := 1, slots := 6, locals := 82 } : Room) (va_Pc [.ref hs, .int (iI p1)] (sr_V D classes [(cI, .int), (cJ, .long), (cZ, .boolean)] nestw sr_strs [(hs, .inr (6, [.ref hp, .ref hq, .ref hc, .ref hk0, .ref hg0, .ref hw0, .ref pic, .long kn, .int (iI c1), .int (iI c2), .int (iI c3), .int (iI c4)])), (hq, .inr (3, [.int (iI hf), .int (iI cp), .int (iI jn), .int (iI lm), .ref pln, .int (iI nd), .int (iI ph), .int (iI wl)]))] sz)) (sr_T sr_ISE D classes (va_A [(hs, .inr (6, [.ref hp, .ref hq, .ref hc, .ref hk0, .ref hg0, .ref hw0, .ref pic, .long kn, .int (iI c1), .int (iI c2), .int (iI c3), .int (iI c4)])), (hq, .inr (3, [.int (iI hf), .int (iI cp), .int (iI jn), .int (iI lm), .ref pln, .int (iI nd), .int (iI ph), .int (iI wl)]))] sz) [(hs, .inr (6, [.ref hp, .ref hq, .ref hc, .ref hk0, .ref hg0, .ref hw0, .ref pic, .long kn, .int (iI c1), .int (iI c2), .int (iI c3), .int (iI c4)])), (hq, .inr (3, [.int (iI hf), .int (iI cp), .int (iI jn), .int (iI lm), .ref pln, .int (iI nd), .int (iI ph), .int (iI wl)]))]) 1 6 (va_A [(hs, .inr (6, [.ref hp, .ref hq, .ref hc, .ref hk0, .ref hg0, .ref hw0, .ref pic, .long kn, .int (iI c1), .int (iI c2), .int (iI c3), .int (iI c4)])), (hq, .inr (3, [.int (iI hf), .int (iI cp), .int (iI jn), .int (iI lm), .ref pln, .int (iI nd), .int (iI ph), .int (iI wl)]))] sz) := by
  refine sr_enterT (QT := fun A => sr_T sr_ISE D classes A [(hs, .inr (6, [.ref hp, .ref hq, .ref hc, .ref hk0, .ref hg0, .ref hw0, .ref pic, .long kn, .int (iI c1), .int (iI c2), .int (iI c3), .int (iI c4)])), (hq, .inr (3, [.int (iI hf), .int (iI cp), .int (iI jn), .int (iI lm), .ref pln, .int (iI nd), .int (iI ph), .int (iI wl)]))]) (by decide +kernel) rfl (Nat.le_of_ble_eq_true rfl) ?_
  intro p e s m below meth c A ls hx hb hr hml hown hlocks hin hts hsz hP hK hD hN hA hS hl hout hZ hRs
  have ht : ∀ w ∈ allw, w.before _ s = true := fun w h => hts w (List.mem_cons_of_mem _ h)
  have hsub : ∀ w ∈ allw, w ∈ _ := fun w h => List.mem_cons_of_mem (Cond.code y_SR_dash b_SR_dash 2 (some .int)) h
  have hl : lv_has ls 2 [(0, .ref hs), (1, .int (iI p1))] := hl
  have hP : va_P D classes [(hs, .inr (6, [.ref hp, .ref hq, .ref hc, .ref hk0, .ref hg0, .ref hw0, .ref pic, .long kn, .int (iI c1), .int (iI c2), .int (iI c3), .int (iI c4)])), (hq, .inr (3, [.int (iI hf), .int (iI cp), .int (iI jn), .int (iI lm), .ref pln, .int (iI nd), .int (iI ph), .int (iI wl)]))] s.heap := hP
  refine lv_iload_n hx hb d_SR_dash_0 rfl (lv_at hl 1 rfl) ?_
  refine sr_if_lt (tgt := 11) hx hb d_SR_dash_1 (by decide) (by unfold bI; omega) (fun c_1 => ?_) (fun c_1 => ?_)
  · -- T
    exfalso
    omega
  · -- F
    refine lv_iload_n hx hb d_SR_dash_4 rfl (lv_at hl 1 rfl) ?_
    refine sr_sipush hx hb d_SR_dash_5 (by decide) ?_
    refine sr_icmp_le (tgt := 21) hx hb d_SR_dash_8 (by decide) (by unfold bI; omega) (by unfold bI; decide) (fun c_8 => ?_) (fun c_8 => ?_)
    · -- T
      refine lv_aload_n hx hb d_SR_dash_21 rfl (lv_at hl 0 rfl) ?_
      refine va_get hx hb ht i_SR hown hK hP 0 rfl rfl 1 (by decide) (ht _ k_f_SR_19) (fun _ h9 => h9) rfl d_SR_dash_22 ?_
      refine va_get hx hb ht i_Pen hown hK hP 1 rfl rfl 5 (by decide) (ht _ k_f_SR_136) (fun _ h9 => h9) rfl d_SR_dash_25 ?_
      refine sr_bipush hx hb d_SR_dash_28 (by decide) ?_
      refine sr_icmp_lt (tgt := 43) hx hb d_SR_dash_30 (by decide) (by unfold bI; omega) (by unfold bI; decide) (fun c_30 => ?_) (fun c_30 => ?_)
      · -- T
        exact absurd hful (by omega)
      · -- F
        obtain ⟨q_, hq_⟩ := hRs (139, "there are eight dashes") (by decide)
        exact sr_throw (own := "StrokeRaster") (X0 := sr_ISE) (tx := "there are eight dashes") (ks := 139) hx hb (hml.trans hl.1.symm) hout hlocks htr hown (by decide +kernel) ht thw_ISE hZ hq_ hP hD hS (Nat.le_of_ble_eq_true rfl) (Nat.le_of_ble_eq_true rfl) rfl rfl (Nat.le_of_ble_eq_true rfl) (Nat.le_of_ble_eq_true rfl) d_SR_dash_33 d_SR_dash_36 d_SR_dash_37 d_SR_dash_39 d_SR_dash_42
    · -- F
      exfalso
      omega

set_option maxHeartbeats 4000000 in
set_option maxRecDepth 100000 in
theorem c_SR_plain (l : Launch) (D : va_G) (cI cJ cZ : ClassId) (sz : Nat) (hs : Nat) (hp : Nat) (hq : Nat) (hc : Nat) (hk0 : Nat) (hg0 : Nat) (hw0 : Nat) (pic : Nat) (kn : Int64) (c1 : Int) (c2 : Int) (c3 : Int) (c4 : Int) (wf : Int) (sd : Int) (so : Int) (sr : Int) (dd : Int) (on : Int) (rs : Int) (fx0 : Int) (fy0 : Int) (ax0 : Int) (ay0 : Int) (ox0 : Int) (oy0 : Int) (ln0 : Int) (hf : Int) (cp : Int) (jn : Int) (lm : Int) (pln : Nat) (nd : Int) (ph : Int) (wl : Int) (p1 : Int) (hok : 0 ≤ p1 ∧ p1 ≤ 65535) : Met l y_SR_plain (.code y_SR_plain b_SR_plain 3 (some .int) :: allw) ({ frames := 2, cells := 0, slots := 0, locals := 40 } : Room) (va_Pc [.ref hs, .int (iI p1)] (sr_U D classes [(cI, .int), (cJ, .long), (cZ, .boolean)] nestw [(hs, .inr (6, [.ref hp, .ref hq, .ref hc, .ref hk0, .ref hg0, .ref hw0, .ref pic, .long kn, .int (iI c1), .int (iI c2), .int (iI c3), .int (iI c4)])), (hk0, .inr (5, [.ref hp, .ref hq, .ref hc, .int (iI wf), .int (iI sd), .int (iI so), .int (iI sr), .int (iI dd), .int (iI on), .int (iI rs), .int (iI fx0), .int (iI fy0), .int (iI ax0), .int (iI ay0), .int (iI ox0), .int (iI oy0), .int (iI ln0)])), (hq, .inr (3, [.int (iI hf), .int (iI cp), .int (iI jn), .int (iI lm), .ref pln, .int (iI nd), .int (iI ph), .int (iI wl)]))] sz)) (va_Qi (fun (r : Int32) => fun (_ : Unit) => r = iI nd) (sr_B D classes (va_A [(hs, .inr (6, [.ref hp, .ref hq, .ref hc, .ref hk0, .ref hg0, .ref hw0, .ref pic, .long kn, .int (iI c1), .int (iI c2), .int (iI c3), .int (iI c4)])), (hk0, .inr (5, [.ref hp, .ref hq, .ref hc, .int (iI wf), .int (iI sd), .int (iI so), .int (iI sr), .int (iI dd), .int (iI on), .int (iI rs), .int (iI fx0), .int (iI fy0), .int (iI ax0), .int (iI ay0), .int (iI ox0), .int (iI oy0), .int (iI ln0)])), (hq, .inr (3, [.int (iI hf), .int (iI cp), .int (iI jn), .int (iI lm), .ref pln, .int (iI nd), .int (iI ph), .int (iI wl)]))] sz) (fun (_ : Unit) => [(hs, .inr (6, [.ref hp, .ref hq, .ref hc, .ref hk0, .ref hg0, .ref hw0, .ref pic, .long (lI 0), .int (iI c1), .int (iI c2), .int (iI c3), .int (iI c4)])), (hk0, .inr (5, [.ref hp, .ref hq, .ref hc, .int (iI 0), .int (iI sd), .int (iI so), .int (iI sr), .int (iI dd), .int (iI on), .int (iI rs), .int (iI fx0), .int (iI fy0), .int (iI ax0), .int (iI ay0), .int (iI ox0), .int (iI oy0), .int (iI ln0)])), (hq, .inr (3, [.int (iI hf), .int (iI cp), .int (iI jn), .int (iI lm), .ref pln, .int (iI 0), .int (iI p1), .int (iI 0)]))])) (va_A [(hs, .inr (6, [.ref hp, .ref hq, .ref hc, .ref hk0, .ref hg0, .ref hw0, .ref pic, .long kn, .int (iI c1), .int (iI c2), .int (iI c3), .int (iI c4)])), (hk0, .inr (5, [.ref hp, .ref hq, .ref hc, .int (iI wf), .int (iI sd), .int (iI so), .int (iI sr), .int (iI dd), .int (iI on), .int (iI rs), .int (iI fx0), .int (iI fy0), .int (iI ax0), .int (iI ay0), .int (iI ox0), .int (iI oy0), .int (iI ln0)])), (hq, .inr (3, [.int (iI hf), .int (iI cp), .int (iI jn), .int (iI lm), .ref pln, .int (iI nd), .int (iI ph), .int (iI wl)]))] sz)) 0 0 (va_A [(hs, .inr (6, [.ref hp, .ref hq, .ref hc, .ref hk0, .ref hg0, .ref hw0, .ref pic, .long kn, .int (iI c1), .int (iI c2), .int (iI c3), .int (iI c4)])), (hk0, .inr (5, [.ref hp, .ref hq, .ref hc, .int (iI wf), .int (iI sd), .int (iI so), .int (iI sr), .int (iI dd), .int (iI on), .int (iI rs), .int (iI fx0), .int (iI fy0), .int (iI ax0), .int (iI ay0), .int (iI ox0), .int (iI oy0), .int (iI ln0)])), (hq, .inr (3, [.int (iI hf), .int (iI cp), .int (iI jn), .int (iI lm), .ref pln, .int (iI nd), .int (iI ph), .int (iI wl)]))] sz) := by
  refine sr_enter (Qf := fun A => va_Qi (fun (r : Int32) => fun (_ : Unit) => r = iI nd) (sr_B D classes A (fun (_ : Unit) => [(hs, .inr (6, [.ref hp, .ref hq, .ref hc, .ref hk0, .ref hg0, .ref hw0, .ref pic, .long (lI 0), .int (iI c1), .int (iI c2), .int (iI c3), .int (iI c4)])), (hk0, .inr (5, [.ref hp, .ref hq, .ref hc, .int (iI 0), .int (iI sd), .int (iI so), .int (iI sr), .int (iI dd), .int (iI on), .int (iI rs), .int (iI fx0), .int (iI fy0), .int (iI ax0), .int (iI ay0), .int (iI ox0), .int (iI oy0), .int (iI ln0)])), (hq, .inr (3, [.int (iI hf), .int (iI cp), .int (iI jn), .int (iI lm), .ref pln, .int (iI 0), .int (iI p1), .int (iI 0)]))])) A) (by decide +kernel) rfl (Nat.le_of_ble_eq_true rfl) ?_
  intro p e s m below meth c A ls hx hb hr hml hown hlocks hin hts hsz hP hK hD hN hA hS hl
  have ht : ∀ w ∈ allw, w.before _ s = true := fun w h => hts w (List.mem_cons_of_mem _ h)
  have hsub : ∀ w ∈ allw, w ∈ _ := fun w h => List.mem_cons_of_mem (Cond.code y_SR_plain b_SR_plain 3 (some .int)) h
  have hl : lv_has ls 3 [(0, .ref hs), (1, .int (iI p1))] := hl
  have hP : va_P D classes [(hs, .inr (6, [.ref hp, .ref hq, .ref hc, .ref hk0, .ref hg0, .ref hw0, .ref pic, .long kn, .int (iI c1), .int (iI c2), .int (iI c3), .int (iI c4)])), (hk0, .inr (5, [.ref hp, .ref hq, .ref hc, .int (iI wf), .int (iI sd), .int (iI so), .int (iI sr), .int (iI dd), .int (iI on), .int (iI rs), .int (iI fx0), .int (iI fy0), .int (iI ax0), .int (iI ay0), .int (iI ox0), .int (iI oy0), .int (iI ln0)])), (hq, .inr (3, [.int (iI hf), .int (iI cp), .int (iI jn), .int (iI lm), .ref pln, .int (iI nd), .int (iI ph), .int (iI wl)]))] s.heap := hP
  refine lv_iload_n hx hb d_SR_plain_0 rfl (lv_at hl 1 rfl) ?_
  refine sr_if_lt (tgt := 10) hx hb d_SR_plain_1 (by decide) (by unfold bI; omega) (fun c_1 => ?_) (fun c_1 => ?_)
  · -- T
    exfalso
    omega
  · -- F
    refine lv_iload_n hx hb d_SR_plain_4 rfl (lv_at hl 1 rfl) ?_
    refine lv_ldc hx hb hown (ht _ k_k_SR_145) d_SR_plain_5 ?_
    refine sr_eqI (z := 65535) (by decide) ?_
    refine sr_icmp_le (tgt := 20) hx hb d_SR_plain_7 (by decide) (by unfold bI; omega) (by unfold bI; decide) (fun c_7 => ?_) (fun c_7 => ?_)
    · -- T
      refine lv_aload_n hx hb d_SR_plain_20 rfl (lv_at hl 0 rfl) ?_
      refine va_get hx hb ht i_SR hown hK hP 0 rfl rfl 1 (by decide) (ht _ k_f_SR_19) (fun _ h9 => h9) rfl d_SR_plain_21 ?_
      refine va_get hx hb ht i_Pen hown hK hP 2 rfl rfl 5 (by decide) (ht _ k_f_SR_136) (fun _ h9 => h9) rfl d_SR_plain_24 ?_
      refine lv_istore_n (lv' := [(2, .int (iI nd)), (0, .ref hs), (1, .int (iI p1))]) hx hb d_SR_plain_27 rfl hl (by decide) rfl (fun ls hl => ?_)
      refine lv_aload_n hx hb d_SR_plain_28 rfl (lv_at hl 1 rfl) ?_
      refine va_get hx hb ht i_SR hown hK hP 0 rfl rfl 1 (by decide) (ht _ k_f_SR_19) (fun _ h9 => h9) rfl d_SR_plain_29 ?_
      refine lv_iload_n hx hb d_SR_plain_32 rfl (lv_at hl 2 rfl) ?_
      refine sr_cV_v (wr := [(hs, .inr (6, [.ref hp, .ref hq, .ref hc, .ref hk0, .ref hg0, .ref hw0, .ref pic, .long kn, .int (iI c1), .int (iI c2), .int (iI c3), .int (iI c4)])), (hk0, .inr (5, [.ref hp, .ref hq, .ref hc, .int (iI wf), .int (iI sd), .int (iI so), .int (iI sr), .int (iI dd), .int (iI on), .int (iI rs), .int (iI fx0), .int (iI fy0), .int (iI ax0), .int (iI ay0), .int (iI ox0), .int (iI oy0), .int (iI ln0)]))]) (As := [.int (iI p1)]) (rest := []) (b := hq) (q0 := 2) hx hb hml hown hts (c_Pen_dropDashes l D cI cJ cZ _ hq hf cp jn lm pln nd ph wl p1 ) (sr_cwV hsub hts k_cd_Pen_dropDashes k_in_Pen k_m_SR_148 k_im_Pen_dropDashes k_se_Pen_dropDashes g_Pen_dropDashes ⟨Nat.le_of_ble_eq_true rfl, Nat.le_of_ble_eq_true rfl⟩) hns_ok hK hN hP hD hS hA [2] [0, 1] rfl (by decide) rfl (by decide) (by decide) rfl rfl rfl hl.1 rfl (Nat.le_of_ble_eq_true rfl) d_SR_plain_33 ⟨Nat.le_of_ble_eq_true rfl, Nat.le_of_ble_eq_true rfl⟩ (fun u H locs hw_33 hP hD hS => ?_)
      have hP : va_P D classes [(hs, .inr (6, [.ref hp, .ref hq, .ref hc, .ref hk0, .ref hg0, .ref hw0, .ref pic, .long kn, .int (iI c1), .int (iI c2), .int (iI c3), .int (iI c4)])), (hk0, .inr (5, [.ref hp, .ref hq, .ref hc, .int (iI wf), .int (iI sd), .int (iI so), .int (iI sr), .int (iI dd), .int (iI on), .int (iI rs), .int (iI fx0), .int (iI fy0), .int (iI ax0), .int (iI ay0), .int (iI ox0), .int (iI oy0), .int (iI ln0)])), (hq, .inr (3, [.int (iI hf), .int (iI cp), .int (iI jn), .int (iI lm), .ref pln, .int (iI 0), .int (iI p1), .int (iI 0)]))] H := hP
      have hD : va_D A [(hs, .inr (6, [.ref hp, .ref hq, .ref hc, .ref hk0, .ref hg0, .ref hw0, .ref pic, .long kn, .int (iI c1), .int (iI c2), .int (iI c3), .int (iI c4)])), (hk0, .inr (5, [.ref hp, .ref hq, .ref hc, .int (iI wf), .int (iI sd), .int (iI so), .int (iI sr), .int (iI dd), .int (iI on), .int (iI rs), .int (iI fx0), .int (iI fy0), .int (iI ax0), .int (iI ay0), .int (iI ox0), .int (iI oy0), .int (iI ln0)])), (hq, .inr (3, [.int (iI hf), .int (iI cp), .int (iI jn), .int (iI lm), .ref pln, .int (iI 0), .int (iI p1), .int (iI 0)]))] := hD
      try dsimp only at hw_33
      refine lv_aload_n hx hb d_SR_plain_36 rfl (lv_at hl 1 rfl) ?_
      refine sr_cV_v (wr := [(hq, .inr (3, [.int (iI hf), .int (iI cp), .int (iI jn), .int (iI lm), .ref pln, .int (iI 0), .int (iI p1), .int (iI 0)]))]) (As := []) (rest := []) (b := hs) (q0 := 0) hx hb hml hown hts (c_SR_forget l D cI cJ cZ _ hs hp hq hc hk0 hg0 hw0 pic kn c1 c2 c3 c4 wf sd so sr dd on rs fx0 fy0 ax0 ay0 ox0 oy0 ln0 ) (sr_cwV hsub hts k_cd_SR_forget k_in_SR k_m_SR_86 k_im_SR_forget k_se_SR_forget g_SR_forget ⟨Nat.le_of_ble_eq_true rfl, Nat.le_of_ble_eq_true rfl⟩) hns_ok hK hN hP hD hS hA [0, 1] [2] rfl (by decide) rfl (by decide) (by decide) rfl rfl rfl hl.1 rfl (Nat.le_of_ble_eq_true rfl) d_SR_plain_37 ⟨Nat.le_of_ble_eq_true rfl, Nat.le_of_ble_eq_true rfl⟩ (fun u H locs hw_37 hP hD hS => ?_)
      have hP : va_P D classes [(hq, .inr (3, [.int (iI hf), .int (iI cp), .int (iI jn), .int (iI lm), .ref pln, .int (iI 0), .int (iI p1), .int (iI 0)])), (hs, .inr (6, [.ref hp, .ref hq, .ref hc, .ref hk0, .ref hg0, .ref hw0, .ref pic, .long (lI 0), .int (iI c1), .int (iI c2), .int (iI c3), .int (iI c4)])), (hk0, .inr (5, [.ref hp, .ref hq, .ref hc, .int (iI 0), .int (iI sd), .int (iI so), .int (iI sr), .int (iI dd), .int (iI on), .int (iI rs), .int (iI fx0), .int (iI fy0), .int (iI ax0), .int (iI ay0), .int (iI ox0), .int (iI oy0), .int (iI ln0)]))] H := hP
      have hD : va_D A [(hq, .inr (3, [.int (iI hf), .int (iI cp), .int (iI jn), .int (iI lm), .ref pln, .int (iI 0), .int (iI p1), .int (iI 0)])), (hs, .inr (6, [.ref hp, .ref hq, .ref hc, .ref hk0, .ref hg0, .ref hw0, .ref pic, .long (lI 0), .int (iI c1), .int (iI c2), .int (iI c3), .int (iI c4)])), (hk0, .inr (5, [.ref hp, .ref hq, .ref hc, .int (iI 0), .int (iI sd), .int (iI so), .int (iI sr), .int (iI dd), .int (iI on), .int (iI rs), .int (iI fx0), .int (iI fy0), .int (iI ax0), .int (iI ay0), .int (iI ox0), .int (iI oy0), .int (iI ln0)]))] := hD
      try dsimp only at hw_37
      refine lv_iload_n hx hb d_SR_plain_40 rfl (lv_at hl 0 rfl) ?_
      exact sr_iret () hx hb hr hlocks (hP.sub [1, 2, 0] rfl) (hD.sub [1, 2, 0] (by decide) rfl) hS d_SR_plain_41 (rfl)
    · -- F
      exfalso
      omega

set_option maxHeartbeats 4000000 in
set_option maxRecDepth 100000 in
theorem c_SR_plain_IAE (l : Launch) (htr : ∀ e : Env, l.admits e → e.platform.stackTraces = false) (D : va_G) (cI cJ cZ : ClassId) (sz : Nat) (hs : Nat) (p1 : Int) (hb : -2147483648 ≤ p1 ∧ p1 ≤ 2147483647) (hbad : ¬ (0 ≤ p1 ∧ p1 ≤ 65535)) : sr_MetT l y_SR_plain (Cond.code y_SR_plain b_SR_plain 3 (some .int) :: allw) ({ frames := 6, cells := 1, slots := 6, locals := 82 } : Room) (va_Pc [.ref hs, .int (iI p1)] (sr_V D classes [(cI, .int), (cJ, .long), (cZ, .boolean)] nestw sr_strs [] sz)) (sr_T sr_IAE D classes (va_A [] sz) []) 1 6 (va_A [] sz) := by
  refine sr_enterT (QT := fun A => sr_T sr_IAE D classes A []) (by decide +kernel) rfl (Nat.le_of_ble_eq_true rfl) ?_
  intro p e s m below meth c A ls hx hb hr hml hown hlocks hin hts hsz hP hK hD hN hA hS hl hout hZ hRs
  have ht : ∀ w ∈ allw, w.before _ s = true := fun w h => hts w (List.mem_cons_of_mem _ h)
  have hsub : ∀ w ∈ allw, w ∈ _ := fun w h => List.mem_cons_of_mem (Cond.code y_SR_plain b_SR_plain 3 (some .int)) h
  have hl : lv_has ls 3 [(0, .ref hs), (1, .int (iI p1))] := hl
  have hP : va_P D classes [] s.heap := hP
  refine lv_iload_n hx hb d_SR_plain_0 rfl (lv_at hl 1 rfl) ?_
  refine sr_if_lt (tgt := 10) hx hb d_SR_plain_1 (by decide) (by unfold bI; omega) (fun c_1 => ?_) (fun c_1 => ?_)
  · -- T
    obtain ⟨q_, hq_⟩ := hRs (146, "the phase is out of bounds") (by decide)
    exact sr_throw (own := "StrokeRaster") (X0 := sr_IAE) (tx := "the phase is out of bounds") (ks := 146) hx hb (hml.trans hl.1.symm) hout hlocks htr hown (by decide +kernel) ht thw_IAE hZ hq_ hP hD hS (Nat.le_of_ble_eq_true rfl) (Nat.le_of_ble_eq_true rfl) rfl rfl (Nat.le_of_ble_eq_true rfl) (Nat.le_of_ble_eq_true rfl) d_SR_plain_10 d_SR_plain_13 d_SR_plain_14 d_SR_plain_16 d_SR_plain_19
  · -- F
    refine lv_iload_n hx hb d_SR_plain_4 rfl (lv_at hl 1 rfl) ?_
    refine lv_ldc hx hb hown (ht _ k_k_SR_145) d_SR_plain_5 ?_
    refine sr_eqI (z := 65535) (by decide) ?_
    refine sr_icmp_le (tgt := 20) hx hb d_SR_plain_7 (by decide) (by unfold bI; omega) (by unfold bI; decide) (fun c_7 => ?_) (fun c_7 => ?_)
    · -- T
      exact absurd hbad (by omega)
    · -- F
      obtain ⟨q_, hq_⟩ := hRs (146, "the phase is out of bounds") (by decide)
      exact sr_throw (own := "StrokeRaster") (X0 := sr_IAE) (tx := "the phase is out of bounds") (ks := 146) hx hb (hml.trans hl.1.symm) hout hlocks htr hown (by decide +kernel) ht thw_IAE hZ hq_ hP hD hS (Nat.le_of_ble_eq_true rfl) (Nat.le_of_ble_eq_true rfl) rfl rfl (Nat.le_of_ble_eq_true rfl) (Nat.le_of_ble_eq_true rfl) d_SR_plain_10 d_SR_plain_13 d_SR_plain_14 d_SR_plain_16 d_SR_plain_19

set_option maxHeartbeats 4000000 in
set_option maxRecDepth 100000 in
theorem c_SR_has_IAE (l : Launch) (htr : ∀ e : Env, l.admits e → e.platform.stackTraces = false) (D : va_G) (cI cJ cZ : ClassId) (sz : Nat) (hs : Nat) (x0 : Int) (y0 : Int) (hxb : -2147483648 ≤ x0 ∧ x0 ≤ 2147483647) (hyb : -2147483648 ≤ y0 ∧ y0 ≤ 2147483647) (hbad : ¬ ((-16384 ≤ x0 ∧ x0 ≤ 16383) ∧ (-16384 ≤ y0 ∧ y0 ≤ 16383))) : sr_MetT l y_SR_has (Cond.code y_SR_has b_SR_has 3 (some .boolean) :: allw) ({ frames := 6, cells := 1, slots := 6, locals := 82 } : Room) (va_Pc [.ref hs, .int (iI x0), .int (iI y0)] (sr_V D classes [(cI, .int), (cJ, .long), (cZ, .boolean)] nestw sr_strs [] sz)) (sr_T sr_IAE D classes (va_A [] sz) []) 1 6 (va_A [] sz) := by
  refine sr_enterT (QT := fun A => sr_T sr_IAE D classes A []) (by decide +kernel) rfl (Nat.le_of_ble_eq_true rfl) ?_
  intro p e s m below meth c A ls hx hb hr hml hown hlocks hin hts hsz hP hK hD hN hA hS hl hout hZ hRs
  have ht : ∀ w ∈ allw, w.before _ s = true := fun w h => hts w (List.mem_cons_of_mem _ h)
  have hsub : ∀ w ∈ allw, w ∈ _ := fun w h => List.mem_cons_of_mem (Cond.code y_SR_has b_SR_has 3 (some .boolean)) h
  have hl : lv_has ls 3 [(0, .ref hs), (1, .int (iI x0)), (2, .int (iI y0))] := hl
  have hP : va_P D classes [] s.heap := hP
  refine lv_iload_n hx hb d_SR_has_0 rfl (lv_at hl 1 rfl) ?_
  refine sr_sipush hx hb d_SR_has_1 (by decide) ?_
  refine sr_icmp_lt (tgt := 28) hx hb d_SR_has_4 (by decide) (by unfold bI; omega) (by unfold bI; decide) (fun c_4 => ?_) (fun c_4 => ?_)
  · -- T
    obtain ⟨q_, hq_⟩ := hRs (65, "a coordinate is out of bounds") (by decide)
    exact sr_throw (own := "StrokeRaster") (X0 := sr_IAE) (tx := "a coordinate is out of bounds") (ks := 65) hx hb (hml.trans hl.1.symm) hout hlocks htr hown (by decide +kernel) ht thw_IAE hZ hq_ hP hD hS (Nat.le_of_ble_eq_true rfl) (Nat.le_of_ble_eq_true rfl) rfl rfl (Nat.le_of_ble_eq_true rfl) (Nat.le_of_ble_eq_true rfl) d_SR_has_28 d_SR_has_31 d_SR_has_32 d_SR_has_34 d_SR_has_37
  · -- F
    refine lv_iload_n hx hb d_SR_has_7 rfl (lv_at hl 1 rfl) ?_
    refine sr_sipush hx hb d_SR_has_8 (by decide) ?_
    refine sr_icmp_ge (tgt := 28) hx hb d_SR_has_11 (by decide) (by unfold bI; omega) (by unfold bI; decide) (fun c_11 => ?_) (fun c_11 => ?_)
    · -- T
      obtain ⟨q_, hq_⟩ := hRs (65, "a coordinate is out of bounds") (by decide)
      exact sr_throw (own := "StrokeRaster") (X0 := sr_IAE) (tx := "a coordinate is out of bounds") (ks := 65) hx hb (hml.trans hl.1.symm) hout hlocks htr hown (by decide +kernel) ht thw_IAE hZ hq_ hP hD hS (Nat.le_of_ble_eq_true rfl) (Nat.le_of_ble_eq_true rfl) rfl rfl (Nat.le_of_ble_eq_true rfl) (Nat.le_of_ble_eq_true rfl) d_SR_has_28 d_SR_has_31 d_SR_has_32 d_SR_has_34 d_SR_has_37
    · -- F
      refine lv_iload_n hx hb d_SR_has_14 rfl (lv_at hl 2 rfl) ?_
      refine sr_sipush hx hb d_SR_has_15 (by decide) ?_
      refine sr_icmp_lt (tgt := 28) hx hb d_SR_has_18 (by decide) (by unfold bI; omega) (by unfold bI; decide) (fun c_18 => ?_) (fun c_18 => ?_)
      · -- T
        obtain ⟨q_, hq_⟩ := hRs (65, "a coordinate is out of bounds") (by decide)
        exact sr_throw (own := "StrokeRaster") (X0 := sr_IAE) (tx := "a coordinate is out of bounds") (ks := 65) hx hb (hml.trans hl.1.symm) hout hlocks htr hown (by decide +kernel) ht thw_IAE hZ hq_ hP hD hS (Nat.le_of_ble_eq_true rfl) (Nat.le_of_ble_eq_true rfl) rfl rfl (Nat.le_of_ble_eq_true rfl) (Nat.le_of_ble_eq_true rfl) d_SR_has_28 d_SR_has_31 d_SR_has_32 d_SR_has_34 d_SR_has_37
      · -- F
        refine lv_iload_n hx hb d_SR_has_21 rfl (lv_at hl 2 rfl) ?_
        refine sr_sipush hx hb d_SR_has_22 (by decide) ?_
        refine sr_icmp_lt (tgt := 38) hx hb d_SR_has_25 (by decide) (by unfold bI; omega) (by unfold bI; decide) (fun c_25 => ?_) (fun c_25 => ?_)
        · -- T
          exact absurd hbad (by omega)
        · -- F
          obtain ⟨q_, hq_⟩ := hRs (65, "a coordinate is out of bounds") (by decide)
          exact sr_throw (own := "StrokeRaster") (X0 := sr_IAE) (tx := "a coordinate is out of bounds") (ks := 65) hx hb (hml.trans hl.1.symm) hout hlocks htr hown (by decide +kernel) ht thw_IAE hZ hq_ hP hD hS (Nat.le_of_ble_eq_true rfl) (Nat.le_of_ble_eq_true rfl) rfl rfl (Nat.le_of_ble_eq_true rfl) (Nat.le_of_ble_eq_true rfl) d_SR_has_28 d_SR_has_31 d_SR_has_32 d_SR_has_34 d_SR_has_37

set_option maxHeartbeats 4000000 in
set_option maxRecDepth 100000 in
theorem c_SR_row_IOE (l : Launch) (htr : ∀ e : Env, l.admits e → e.platform.stackTraces = false) (D : va_G) (cI cJ cZ : ClassId) (sz : Nat) (hs : Nat) (x0 : Int) (hb : -2147483648 ≤ x0 ∧ x0 ≤ 2147483647) (hbad : ¬ (0 ≤ x0 ∧ x0 ≤ 63)) : sr_MetT l y_SR_row (Cond.code y_SR_row b_SR_row 2 (some .long) :: allw) ({ frames := 6, cells := 1, slots := 6, locals := 82 } : Room) (va_Pc [.ref hs, .int (iI x0)] (sr_V D classes [(cI, .int), (cJ, .long), (cZ, .boolean)] nestw sr_strs [] sz)) (sr_T sr_IOE D classes (va_A [] sz) []) 1 6 (va_A [] sz) := by
  refine sr_enterT (QT := fun A => sr_T sr_IOE D classes A []) (by decide +kernel) rfl (Nat.le_of_ble_eq_true rfl) ?_
  intro p e s m below meth c A ls hx hb hr hml hown hlocks hin hts hsz hP hK hD hN hA hS hl hout hZ hRs
  have ht : ∀ w ∈ allw, w.before _ s = true := fun w h => hts w (List.mem_cons_of_mem _ h)
  have hsub : ∀ w ∈ allw, w ∈ _ := fun w h => List.mem_cons_of_mem (Cond.code y_SR_row b_SR_row 2 (some .long)) h
  have hl : lv_has ls 2 [(0, .ref hs), (1, .int (iI x0))] := hl
  have hP : va_P D classes [] s.heap := hP
  refine lv_iload_n hx hb d_SR_row_0 rfl (lv_at hl 1 rfl) ?_
  refine sr_cS_i (wr := []) (As := [.int (iI x0)]) (rest := []) hx hb hml hown hts (c_SR_isInPicture l D cI cJ cZ _ x0 (by omega)) (sr_cwS hsub hts k_cd_SR_isInPicture k_in_SR k_m_SR_182 k_st_SR_isInPicture g_SR_isInPicture ⟨Nat.le_of_ble_eq_true rfl, Nat.le_of_ble_eq_true rfl⟩) hns_ok hK hN hP hD hS hA [] [] rfl (by decide) rfl (by decide) (by decide) rfl hl.1 rfl (Nat.le_of_ble_eq_true rfl) d_SR_row_1 ⟨Nat.le_of_ble_eq_true rfl, Nat.le_of_ble_eq_true rfl⟩ (fun r_1 u H locs hw_1 hP hD hS => ?_)
  have hP : va_P D classes [] H := hP
  have hD : va_D A [] := hD
  try dsimp only at hw_1
  obtain ⟨z_1, rfl, hw_1⟩ := hw_1
  refine sr_if_ne (tgt := 17) hx hb d_SR_row_4 (by decide) (sr_bB hw_1) (fun c_4 => ?_) (fun c_4 => ?_)
  · -- T
    have c_4 := sr_bt hw_1 c_4
    exact absurd c_4 hbad
  · -- F
    have c_4 := sr_bf hw_1 c_4
    obtain ⟨q_, hq_⟩ := hRs (187, "no such row") (by decide)
    exact sr_throw (own := "StrokeRaster") (X0 := sr_IOE) (tx := "no such row") (ks := 187) hx hb (hml.trans hl.1.symm) hout hlocks htr hown (by decide +kernel) ht thw_IOE hZ hq_ hP hD hS (Nat.le_of_ble_eq_true rfl) (Nat.le_of_ble_eq_true rfl) rfl rfl (Nat.le_of_ble_eq_true rfl) (Nat.le_of_ble_eq_true rfl) d_SR_row_7 d_SR_row_10 d_SR_row_11 d_SR_row_13 d_SR_row_16

set_option maxHeartbeats 4000000 in
set_option maxRecDepth 100000 in
theorem c_SR_share_IOE (l : Launch) (htr : ∀ e : Env, l.admits e → e.platform.stackTraces = false) (D : va_G) (cI cJ cZ : ClassId) (sz : Nat) (hs : Nat) (x0 : Int) (y0 : Int) (hxb : -2147483648 ≤ x0 ∧ x0 ≤ 2147483647) (hyb : -2147483648 ≤ y0 ∧ y0 ≤ 2147483647) (hbad : ¬ ((0 ≤ x0 ∧ x0 ≤ 63) ∧ (0 ≤ y0 ∧ y0 ≤ 63))) : sr_MetT l y_SR_share (Cond.code y_SR_share b_SR_share 5 (some .int) :: allw) ({ frames := 6, cells := 1, slots := 6, locals := 82 } : Room) (va_Pc [.ref hs, .int (iI x0), .int (iI y0)] (sr_V D classes [(cI, .int), (cJ, .long), (cZ, .boolean)] nestw sr_strs [] sz)) (sr_T sr_IOE D classes (va_A [] sz) []) 1 6 (va_A [] sz) := by
  refine sr_enterT (QT := fun A => sr_T sr_IOE D classes A []) (by decide +kernel) rfl (Nat.le_of_ble_eq_true rfl) ?_
  intro p e s m below meth c A ls hx hb hr hml hown hlocks hin hts hsz hP hK hD hN hA hS hl hout hZ hRs
  have ht : ∀ w ∈ allw, w.before _ s = true := fun w h => hts w (List.mem_cons_of_mem _ h)
  have hsub : ∀ w ∈ allw, w ∈ _ := fun w h => List.mem_cons_of_mem (Cond.code y_SR_share b_SR_share 5 (some .int)) h
  have hl : lv_has ls 5 [(0, .ref hs), (1, .int (iI x0)), (2, .int (iI y0))] := hl
  have hP : va_P D classes [] s.heap := hP
  refine lv_iload_n hx hb d_SR_share_0 rfl (lv_at hl 1 rfl) ?_
  refine sr_cS_i (wr := []) (As := [.int (iI x0)]) (rest := []) hx hb hml hown hts (c_SR_isInPicture l D cI cJ cZ _ x0 (by omega)) (sr_cwS hsub hts k_cd_SR_isInPicture k_in_SR k_m_SR_182 k_st_SR_isInPicture g_SR_isInPicture ⟨Nat.le_of_ble_eq_true rfl, Nat.le_of_ble_eq_true rfl⟩) hns_ok hK hN hP hD hS hA [] [] rfl (by decide) rfl (by decide) (by decide) rfl hl.1 rfl (Nat.le_of_ble_eq_true rfl) d_SR_share_1 ⟨Nat.le_of_ble_eq_true rfl, Nat.le_of_ble_eq_true rfl⟩ (fun r_1 u H locs hw_1 hP hD hS => ?_)
  have hP : va_P D classes [] H := hP
  have hD : va_D A [] := hD
  try dsimp only at hw_1
  obtain ⟨z_1, rfl, hw_1⟩ := hw_1
  refine sr_if_eq (tgt := 14) hx hb d_SR_share_4 (by decide) (sr_bB hw_1) (fun c_4 => ?_) (fun c_4 => ?_)
  · -- T
    have c_4 := sr_bf hw_1 c_4
    obtain ⟨q_, hq_⟩ := hRs (198, "no such pixel") (by decide)
    exact sr_throw (own := "StrokeRaster") (X0 := sr_IOE) (tx := "no such pixel") (ks := 198) hx hb (hml.trans hl.1.symm) hout hlocks htr hown (by decide +kernel) ht thw_IOE hZ hq_ hP hD hS (Nat.le_of_ble_eq_true rfl) (Nat.le_of_ble_eq_true rfl) rfl rfl (Nat.le_of_ble_eq_true rfl) (Nat.le_of_ble_eq_true rfl) d_SR_share_14 d_SR_share_17 d_SR_share_18 d_SR_share_20 d_SR_share_23
  · -- F
    have c_4 := sr_bt hw_1 c_4
    refine lv_iload_n hx hb d_SR_share_7 rfl (lv_at hl 2 rfl) ?_
    refine sr_cS_i (wr := []) (As := [.int (iI y0)]) (rest := []) hx hb hml hown hts (c_SR_isInPicture l D cI cJ cZ _ y0 (by omega)) (sr_cwS hsub hts k_cd_SR_isInPicture k_in_SR k_m_SR_182 k_st_SR_isInPicture g_SR_isInPicture ⟨Nat.le_of_ble_eq_true rfl, Nat.le_of_ble_eq_true rfl⟩) hns_ok hK hN hP hD hS hA [] [] rfl (by decide) rfl (by decide) (by decide) rfl hl.1 rfl (Nat.le_of_ble_eq_true rfl) d_SR_share_8 ⟨Nat.le_of_ble_eq_true rfl, Nat.le_of_ble_eq_true rfl⟩ (fun r_8 u H locs hw_8 hP hD hS => ?_)
    have hP : va_P D classes [] H := hP
    have hD : va_D A [] := hD
    try dsimp only at hw_8
    obtain ⟨z_8, rfl, hw_8⟩ := hw_8
    refine sr_if_ne (tgt := 24) hx hb d_SR_share_11 (by decide) (sr_bB hw_8) (fun c_11 => ?_) (fun c_11 => ?_)
    · -- T
      have c_11 := sr_bt hw_8 c_11
      exact absurd ⟨c_4, c_11⟩ hbad
    · -- F
      have c_11 := sr_bf hw_8 c_11
      obtain ⟨q_, hq_⟩ := hRs (198, "no such pixel") (by decide)
      exact sr_throw (own := "StrokeRaster") (X0 := sr_IOE) (tx := "no such pixel") (ks := 198) hx hb (hml.trans hl.1.symm) hout hlocks htr hown (by decide +kernel) ht thw_IOE hZ hq_ hP hD hS (Nat.le_of_ble_eq_true rfl) (Nat.le_of_ble_eq_true rfl) rfl rfl (Nat.le_of_ble_eq_true rfl) (Nat.le_of_ble_eq_true rfl) d_SR_share_14 d_SR_share_17 d_SR_share_18 d_SR_share_20 d_SR_share_23

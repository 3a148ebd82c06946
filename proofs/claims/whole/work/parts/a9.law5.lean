set_option maxHeartbeats 8000000 in
set_option maxRecDepth 100000 in
theorem law_loop {p : Program} {l : Launch} {e : Env} {s : State} {m : MethodId} {below : List Frame} {meth : Method} {c : Code} {b : Nat} {L : Nat} {xs : Nat → Int32} {A : Nat → Prop} {D : va_G} {cI : ClassId} {cJ : ClassId} {cZ : ClassId} (C : lawC p l e s m below meth c b L xs A D cI cJ cZ) : ∀ n_ : Nat, lawL p l e s m below meth c b L xs A D cI cJ cZ n_ := by
  have CC := C
  obtain ⟨hx, hb, hr, hml, hown, hts, hX, hbl, hlocks, hbA, hA, hK, hN, hZ, hRs, hNc, hL, hAb, htr⟩ := CC
  intro n_
  induction n_ with
  | zero => intro i hs hp hq hc hk0 hg0 hw0 pic kn c1 c2 c3 c4 wf sd so sr dd on rs fx0 fy0 ax0 ay0 ox0 oy0 ln0 pxs pys np pfs psh ns no cp jn lm pln nd ph wl s1 s2 s3 s4 s5 s6 s7 s8 hd fu la cap f1 f2 f3 f4 f5 f6 f7 f8 pcp px py fs sh ln pr grw sx tx wd sy ty hi wr fr gxs gys nc ogx ogy tu grf gxf gyf hm mf axs ays abg acl ago act mw aln mlf alx aly mpc aa1 aa2 aa3 aa4 aa5 aa6 aif ail aca aid mda mon mrs mic mox moy acx acy X0 Y0 BG GO CT LX LY A1 A2 A3 A4 A5 A6 IF0 IL0 CA0 ID0 mcx mcy ao ov hm_; exact absurd hm_ (Nat.not_lt_zero _)
  | succ n_ ih_23 =>
    intro i hs hp hq hc hk0 hg0 hw0 pic kn c1 c2 c3 c4 wf sd so sr dd on rs fx0 fy0 ax0 ay0 ox0 oy0 ln0 pxs pys np pfs psh ns no cp jn lm pln nd ph wl s1 s2 s3 s4 s5 s6 s7 s8 hd fu la cap f1 f2 f3 f4 f5 f6 f7 f8 pcp px py fs sh ln pr grw sx tx wd sy ty hi wr fr gxs gys nc ogx ogy tu grf gxf gyf hm mf axs ays abg acl ago act mw aln mlf alx aly mpc aa1 aa2 aa3 aa4 aa5 aa6 aif ail aca aid mda mon mrs mic mox moy acx acy X0 Y0 BG GO CT LX LY A1 A2 A3 A4 A5 A6 IF0 IL0 CA0 ID0 mcx mcy ao ov hm_ hi0 hLP hqI hw hcq hwf hfr hkw hkn hco hct H locs ls hP hD hS hl
    have ha4 := capP_le hLP.1.2.2.2.1
    have hcp2 : 16 ≤ cap ∧ cap ≤ 2000 := by unfold capQ at hcq; omega
    have hv0 := sI_bd xs i
    refine lv_iload hx hb d_La_law_23 (lv_at hl 4 rfl) ?_
    refine lv_aload_n hx hb d_La_law_25 rfl (lv_at hl 0 rfl) ?_
    refine sr_slen hx hb hX hbl hbA hS d_La_law_26 ?_
    refine sr_iconst hx hb d_La_law_27 ?_
    refine sr_isub hx hb d_La_law_28 ?_
    refine sr_icmp_gt (tgt := 850) hx hb d_La_law_29 (by decide) (by unfold bI; omega) (by unfold bI; omega) (fun c_29 => ?_) (fun c_29 => ?_)
    · -- T
      refine lv_iconst (v := 1) hx hb d_La_law_850 (by decide) ?_
      refine va_forget (fun q hq => hAb _ (hS.2.2 q hq)) ?_
      refine W.widen (k := 601024) (n := 7293034) (by omega) (by omega) ?_
      exact lw_ret hx hb hr hlocks d_La_law_851
    · -- F
      refine lv_aload_n hx hb d_La_law_32 rfl (lv_at hl 0 rfl) ?_
      refine lv_iload hx hb d_La_law_33 (lv_at hl 4 rfl) ?_
      refine sr_sld hx hb hX hbl hbA hS (by omega) (by omega) hL d_La_law_35 ?_
      refine sr_bipush hx hb d_La_law_36 (by decide) ?_
      obtain ⟨kk, hkk0, hkk1, hkE⟩ := and15 (iI (sI xs i))
      refine lv_iand hx hb d_La_law_38 ?_
      refine sr_eqI (z := kk) hkE ?_
      by_cases c_39o : kk < 0 ∨ 12 < kk
      · -- out
        refine lv_tableOut (tgt := 844) hx hb d_La_law_39 (by rw [iI_toInt (by unfold bI; omega)]; exact c_39o) (by decide) ?_
        exact law_c13 C ih_23 i hs hp hq hc hk0 hg0 hw0 pic kn c1 c2 c3 c4 wf sd so sr dd on rs fx0 fy0 ax0 ay0 ox0 oy0 ln0 pxs pys np pfs psh ns no cp jn lm pln nd ph wl s1 s2 s3 s4 s5 s6 s7 s8 hd fu la cap f1 f2 f3 f4 f5 f6 f7 f8 pcp px py fs sh ln pr grw sx tx wd sy ty hi wr fr gxs gys nc ogx ogy tu grf gxf gyf hm mf axs ays abg acl ago act mw aln mlf alx aly mpc aa1 aa2 aa3 aa4 aa5 aa6 aif ail aca aid mda mon mrs mic mox moy acx acy X0 Y0 BG GO CT LX LY A1 A2 A3 A4 A5 A6 IF0 IL0 CA0 ID0 mcx mcy ao ov hm_ hi0 hLP hqI hw hcq hwf hfr hkw hkn hco hct (by omega) H locs ls hP hD hS (lv_sub hl [0, 1, 2, 3, 4] rfl)
      · -- not out
        by_cases c_39_0 : kk = 0
        · -- 0
          refine lv_tableIn (tgt := 104) hx hb d_La_law_39 (by rw [iI_toInt (by unfold bI; omega)]; omega) (by rw [iI_toInt (by unfold bI; omega)]; omega) (by rw [iI_toInt (by unfold bI; omega), c_39_0]; rfl) (by decide) ?_
          exact law_c0 C ih_23 i hs hp hq hc hk0 hg0 hw0 pic kn c1 c2 c3 c4 wf sd so sr dd on rs fx0 fy0 ax0 ay0 ox0 oy0 ln0 pxs pys np pfs psh ns no cp jn lm pln nd ph wl s1 s2 s3 s4 s5 s6 s7 s8 hd fu la cap f1 f2 f3 f4 f5 f6 f7 f8 pcp px py fs sh ln pr grw sx tx wd sy ty hi wr fr gxs gys nc ogx ogy tu grf gxf gyf hm mf axs ays abg acl ago act mw aln mlf alx aly mpc aa1 aa2 aa3 aa4 aa5 aa6 aif ail aca aid mda mon mrs mic mox moy acx acy X0 Y0 BG GO CT LX LY A1 A2 A3 A4 A5 A6 IF0 IL0 CA0 ID0 mcx mcy ao ov hm_ hi0 hLP hqI hw hcq hwf hfr hkw hkn hco hct (by omega) H locs ls hP hD hS (lv_sub hl [0, 1, 2, 3, 4] rfl)
        · -- not out
          by_cases c_39_1 : kk = 1
          · -- 1
            refine lv_tableIn (tgt := 172) hx hb d_La_law_39 (by rw [iI_toInt (by unfold bI; omega)]; omega) (by rw [iI_toInt (by unfold bI; omega)]; omega) (by rw [iI_toInt (by unfold bI; omega), c_39_1]; rfl) (by decide) ?_
            exact law_c1 C ih_23 i hs hp hq hc hk0 hg0 hw0 pic kn c1 c2 c3 c4 wf sd so sr dd on rs fx0 fy0 ax0 ay0 ox0 oy0 ln0 pxs pys np pfs psh ns no cp jn lm pln nd ph wl s1 s2 s3 s4 s5 s6 s7 s8 hd fu la cap f1 f2 f3 f4 f5 f6 f7 f8 pcp px py fs sh ln pr grw sx tx wd sy ty hi wr fr gxs gys nc ogx ogy tu grf gxf gyf hm mf axs ays abg acl ago act mw aln mlf alx aly mpc aa1 aa2 aa3 aa4 aa5 aa6 aif ail aca aid mda mon mrs mic mox moy acx acy X0 Y0 BG GO CT LX LY A1 A2 A3 A4 A5 A6 IF0 IL0 CA0 ID0 mcx mcy ao ov hm_ hi0 hLP hqI hw hcq hwf hfr hkw hkn hco hct (by omega) H locs ls hP hD hS (lv_sub hl [0, 1, 2, 3, 4] rfl)
          · -- not out
            by_cases c_39_2 : kk = 2
            · -- 2
              refine lv_tableIn (tgt := 240) hx hb d_La_law_39 (by rw [iI_toInt (by unfold bI; omega)]; omega) (by rw [iI_toInt (by unfold bI; omega)]; omega) (by rw [iI_toInt (by unfold bI; omega), c_39_2]; rfl) (by decide) ?_
              exact law_c2 C ih_23 i hs hp hq hc hk0 hg0 hw0 pic kn c1 c2 c3 c4 wf sd so sr dd on rs fx0 fy0 ax0 ay0 ox0 oy0 ln0 pxs pys np pfs psh ns no cp jn lm pln nd ph wl s1 s2 s3 s4 s5 s6 s7 s8 hd fu la cap f1 f2 f3 f4 f5 f6 f7 f8 pcp px py fs sh ln pr grw sx tx wd sy ty hi wr fr gxs gys nc ogx ogy tu grf gxf gyf hm mf axs ays abg acl ago act mw aln mlf alx aly mpc aa1 aa2 aa3 aa4 aa5 aa6 aif ail aca aid mda mon mrs mic mox moy acx acy X0 Y0 BG GO CT LX LY A1 A2 A3 A4 A5 A6 IF0 IL0 CA0 ID0 mcx mcy ao ov hm_ hi0 hLP hqI hw hcq hwf hfr hkw hkn hco hct (by omega) H locs ls hP hD hS (lv_sub hl [0, 1, 2, 3, 4] rfl)
            · -- not out
              by_cases c_39_3 : kk = 3
              · -- 3
                refine lv_tableIn (tgt := 312) hx hb d_La_law_39 (by rw [iI_toInt (by unfold bI; omega)]; omega) (by rw [iI_toInt (by unfold bI; omega)]; omega) (by rw [iI_toInt (by unfold bI; omega), c_39_3]; rfl) (by decide) ?_
                exact law_c3 C ih_23 i hs hp hq hc hk0 hg0 hw0 pic kn c1 c2 c3 c4 wf sd so sr dd on rs fx0 fy0 ax0 ay0 ox0 oy0 ln0 pxs pys np pfs psh ns no cp jn lm pln nd ph wl s1 s2 s3 s4 s5 s6 s7 s8 hd fu la cap f1 f2 f3 f4 f5 f6 f7 f8 pcp px py fs sh ln pr grw sx tx wd sy ty hi wr fr gxs gys nc ogx ogy tu grf gxf gyf hm mf axs ays abg acl ago act mw aln mlf alx aly mpc aa1 aa2 aa3 aa4 aa5 aa6 aif ail aca aid mda mon mrs mic mox moy acx acy X0 Y0 BG GO CT LX LY A1 A2 A3 A4 A5 A6 IF0 IL0 CA0 ID0 mcx mcy ao ov hm_ hi0 hLP hqI hw hcq hwf hfr hkw hkn hco hct (by omega) H locs ls hP hD hS (lv_sub hl [0, 1, 2, 3, 4] rfl)
              · -- not out
                by_cases c_39_4 : kk = 4
                · -- 4
                  refine lv_tableIn (tgt := 380) hx hb d_La_law_39 (by rw [iI_toInt (by unfold bI; omega)]; omega) (by rw [iI_toInt (by unfold bI; omega)]; omega) (by rw [iI_toInt (by unfold bI; omega), c_39_4]; rfl) (by decide) ?_
                  exact law_c4 C ih_23 i hs hp hq hc hk0 hg0 hw0 pic kn c1 c2 c3 c4 wf sd so sr dd on rs fx0 fy0 ax0 ay0 ox0 oy0 ln0 pxs pys np pfs psh ns no cp jn lm pln nd ph wl s1 s2 s3 s4 s5 s6 s7 s8 hd fu la cap f1 f2 f3 f4 f5 f6 f7 f8 pcp px py fs sh ln pr grw sx tx wd sy ty hi wr fr gxs gys nc ogx ogy tu grf gxf gyf hm mf axs ays abg acl ago act mw aln mlf alx aly mpc aa1 aa2 aa3 aa4 aa5 aa6 aif ail aca aid mda mon mrs mic mox moy acx acy X0 Y0 BG GO CT LX LY A1 A2 A3 A4 A5 A6 IF0 IL0 CA0 ID0 mcx mcy ao ov hm_ hi0 hLP hqI hw hcq hwf hfr hkw hkn hco hct (by omega) H locs ls hP hD hS (lv_sub hl [0, 1, 2, 3, 4] rfl)
                · -- not out
                  by_cases c_39_5 : kk = 5
                  · -- 5
                    refine lv_tableIn (tgt := 424) hx hb d_La_law_39 (by rw [iI_toInt (by unfold bI; omega)]; omega) (by rw [iI_toInt (by unfold bI; omega)]; omega) (by rw [iI_toInt (by unfold bI; omega), c_39_5]; rfl) (by decide) ?_
                    exact law_c5 C ih_23 i hs hp hq hc hk0 hg0 hw0 pic kn c1 c2 c3 c4 wf sd so sr dd on rs fx0 fy0 ax0 ay0 ox0 oy0 ln0 pxs pys np pfs psh ns no cp jn lm pln nd ph wl s1 s2 s3 s4 s5 s6 s7 s8 hd fu la cap f1 f2 f3 f4 f5 f6 f7 f8 pcp px py fs sh ln pr grw sx tx wd sy ty hi wr fr gxs gys nc ogx ogy tu grf gxf gyf hm mf axs ays abg acl ago act mw aln mlf alx aly mpc aa1 aa2 aa3 aa4 aa5 aa6 aif ail aca aid mda mon mrs mic mox moy acx acy X0 Y0 BG GO CT LX LY A1 A2 A3 A4 A5 A6 IF0 IL0 CA0 ID0 mcx mcy ao ov hm_ hi0 hLP hqI hw hcq hwf hfr hkw hkn hco hct (by omega) H locs ls hP hD hS (lv_sub hl [0, 1, 2, 3, 4] rfl)
                  · -- not out
                    by_cases c_39_6 : kk = 6
                    · -- 6
                      refine lv_tableIn (tgt := 437) hx hb d_La_law_39 (by rw [iI_toInt (by unfold bI; omega)]; omega) (by rw [iI_toInt (by unfold bI; omega)]; omega) (by rw [iI_toInt (by unfold bI; omega), c_39_6]; rfl) (by decide) ?_
                      exact law_c6 C ih_23 i hs hp hq hc hk0 hg0 hw0 pic kn c1 c2 c3 c4 wf sd so sr dd on rs fx0 fy0 ax0 ay0 ox0 oy0 ln0 pxs pys np pfs psh ns no cp jn lm pln nd ph wl s1 s2 s3 s4 s5 s6 s7 s8 hd fu la cap f1 f2 f3 f4 f5 f6 f7 f8 pcp px py fs sh ln pr grw sx tx wd sy ty hi wr fr gxs gys nc ogx ogy tu grf gxf gyf hm mf axs ays abg acl ago act mw aln mlf alx aly mpc aa1 aa2 aa3 aa4 aa5 aa6 aif ail aca aid mda mon mrs mic mox moy acx acy X0 Y0 BG GO CT LX LY A1 A2 A3 A4 A5 A6 IF0 IL0 CA0 ID0 mcx mcy ao ov hm_ hi0 hLP hqI hw hcq hwf hfr hkw hkn hco hct (by omega) H locs ls hP hD hS (lv_sub hl [0, 1, 2, 3, 4] rfl)
                    · -- not out
                      by_cases c_39_7 : kk = 7
                      · -- 7
                        refine lv_tableIn (tgt := 509) hx hb d_La_law_39 (by rw [iI_toInt (by unfold bI; omega)]; omega) (by rw [iI_toInt (by unfold bI; omega)]; omega) (by rw [iI_toInt (by unfold bI; omega), c_39_7]; rfl) (by decide) ?_
                        exact law_c7 C ih_23 i hs hp hq hc hk0 hg0 hw0 pic kn c1 c2 c3 c4 wf sd so sr dd on rs fx0 fy0 ax0 ay0 ox0 oy0 ln0 pxs pys np pfs psh ns no cp jn lm pln nd ph wl s1 s2 s3 s4 s5 s6 s7 s8 hd fu la cap f1 f2 f3 f4 f5 f6 f7 f8 pcp px py fs sh ln pr grw sx tx wd sy ty hi wr fr gxs gys nc ogx ogy tu grf gxf gyf hm mf axs ays abg acl ago act mw aln mlf alx aly mpc aa1 aa2 aa3 aa4 aa5 aa6 aif ail aca aid mda mon mrs mic mox moy acx acy X0 Y0 BG GO CT LX LY A1 A2 A3 A4 A5 A6 IF0 IL0 CA0 ID0 mcx mcy ao ov hm_ hi0 hLP hqI hw hcq hwf hfr hkw hkn hco hct (by omega) H locs ls hP hD hS (lv_sub hl [0, 1, 2, 3, 4] rfl)
                      · -- not out
                        by_cases c_39_8 : kk = 8
                        · -- 8
                          refine lv_tableIn (tgt := 565) hx hb d_La_law_39 (by rw [iI_toInt (by unfold bI; omega)]; omega) (by rw [iI_toInt (by unfold bI; omega)]; omega) (by rw [iI_toInt (by unfold bI; omega), c_39_8]; rfl) (by decide) ?_
                          exact law_c8 C ih_23 i hs hp hq hc hk0 hg0 hw0 pic kn c1 c2 c3 c4 wf sd so sr dd on rs fx0 fy0 ax0 ay0 ox0 oy0 ln0 pxs pys np pfs psh ns no cp jn lm pln nd ph wl s1 s2 s3 s4 s5 s6 s7 s8 hd fu la cap f1 f2 f3 f4 f5 f6 f7 f8 pcp px py fs sh ln pr grw sx tx wd sy ty hi wr fr gxs gys nc ogx ogy tu grf gxf gyf hm mf axs ays abg acl ago act mw aln mlf alx aly mpc aa1 aa2 aa3 aa4 aa5 aa6 aif ail aca aid mda mon mrs mic mox moy acx acy X0 Y0 BG GO CT LX LY A1 A2 A3 A4 A5 A6 IF0 IL0 CA0 ID0 mcx mcy ao ov hm_ hi0 hLP hqI hw hcq hwf hfr hkw hkn hco hct (by omega) H locs ls hP hD hS (lv_sub hl [0, 1, 2, 3, 4] rfl)
                        · -- not out
                          by_cases c_39_9 : kk = 9
                          · -- 9
                            refine lv_tableIn (tgt := 621) hx hb d_La_law_39 (by rw [iI_toInt (by unfold bI; omega)]; omega) (by rw [iI_toInt (by unfold bI; omega)]; omega) (by rw [iI_toInt (by unfold bI; omega), c_39_9]; rfl) (by decide) ?_
                            exact law_c9 C ih_23 i hs hp hq hc hk0 hg0 hw0 pic kn c1 c2 c3 c4 wf sd so sr dd on rs fx0 fy0 ax0 ay0 ox0 oy0 ln0 pxs pys np pfs psh ns no cp jn lm pln nd ph wl s1 s2 s3 s4 s5 s6 s7 s8 hd fu la cap f1 f2 f3 f4 f5 f6 f7 f8 pcp px py fs sh ln pr grw sx tx wd sy ty hi wr fr gxs gys nc ogx ogy tu grf gxf gyf hm mf axs ays abg acl ago act mw aln mlf alx aly mpc aa1 aa2 aa3 aa4 aa5 aa6 aif ail aca aid mda mon mrs mic mox moy acx acy X0 Y0 BG GO CT LX LY A1 A2 A3 A4 A5 A6 IF0 IL0 CA0 ID0 mcx mcy ao ov hm_ hi0 hLP hqI hw hcq hwf hfr hkw hkn hco hct (by omega) H locs ls hP hD hS (lv_sub hl [0, 1, 2, 3, 4] rfl)
                          · -- not out
                            by_cases c_39_10 : kk = 10
                            · -- 10
                              refine lv_tableIn (tgt := 646) hx hb d_La_law_39 (by rw [iI_toInt (by unfold bI; omega)]; omega) (by rw [iI_toInt (by unfold bI; omega)]; omega) (by rw [iI_toInt (by unfold bI; omega), c_39_10]; rfl) (by decide) ?_
                              exact law_c10 C ih_23 i hs hp hq hc hk0 hg0 hw0 pic kn c1 c2 c3 c4 wf sd so sr dd on rs fx0 fy0 ax0 ay0 ox0 oy0 ln0 pxs pys np pfs psh ns no cp jn lm pln nd ph wl s1 s2 s3 s4 s5 s6 s7 s8 hd fu la cap f1 f2 f3 f4 f5 f6 f7 f8 pcp px py fs sh ln pr grw sx tx wd sy ty hi wr fr gxs gys nc ogx ogy tu grf gxf gyf hm mf axs ays abg acl ago act mw aln mlf alx aly mpc aa1 aa2 aa3 aa4 aa5 aa6 aif ail aca aid mda mon mrs mic mox moy acx acy X0 Y0 BG GO CT LX LY A1 A2 A3 A4 A5 A6 IF0 IL0 CA0 ID0 mcx mcy ao ov hm_ hi0 hLP hqI hw hcq hwf hfr hkw hkn hco hct (by omega) H locs ls hP hD hS (lv_sub hl [0, 1, 2, 3, 4] rfl)
                            · -- not out
                              by_cases c_39_11 : kk = 11
                              · -- 11
                                refine lv_tableIn (tgt := 721) hx hb d_La_law_39 (by rw [iI_toInt (by unfold bI; omega)]; omega) (by rw [iI_toInt (by unfold bI; omega)]; omega) (by rw [iI_toInt (by unfold bI; omega), c_39_11]; rfl) (by decide) ?_
                                exact law_c11 C ih_23 i hs hp hq hc hk0 hg0 hw0 pic kn c1 c2 c3 c4 wf sd so sr dd on rs fx0 fy0 ax0 ay0 ox0 oy0 ln0 pxs pys np pfs psh ns no cp jn lm pln nd ph wl s1 s2 s3 s4 s5 s6 s7 s8 hd fu la cap f1 f2 f3 f4 f5 f6 f7 f8 pcp px py fs sh ln pr grw sx tx wd sy ty hi wr fr gxs gys nc ogx ogy tu grf gxf gyf hm mf axs ays abg acl ago act mw aln mlf alx aly mpc aa1 aa2 aa3 aa4 aa5 aa6 aif ail aca aid mda mon mrs mic mox moy acx acy X0 Y0 BG GO CT LX LY A1 A2 A3 A4 A5 A6 IF0 IL0 CA0 ID0 mcx mcy ao ov hm_ hi0 hLP hqI hw hcq hwf hfr hkw hkn hco hct (by omega) H locs ls hP hD hS (lv_sub hl [0, 1, 2, 3, 4] rfl)
                              · -- 12
                                have c_39_12 : kk = 12 := by omega
                                refine lv_tableIn (tgt := 776) hx hb d_La_law_39 (by rw [iI_toInt (by unfold bI; omega)]; omega) (by rw [iI_toInt (by unfold bI; omega)]; omega) (by rw [iI_toInt (by unfold bI; omega), c_39_12]; rfl) (by decide) ?_
                                exact law_c12 C ih_23 i hs hp hq hc hk0 hg0 hw0 pic kn c1 c2 c3 c4 wf sd so sr dd on rs fx0 fy0 ax0 ay0 ox0 oy0 ln0 pxs pys np pfs psh ns no cp jn lm pln nd ph wl s1 s2 s3 s4 s5 s6 s7 s8 hd fu la cap f1 f2 f3 f4 f5 f6 f7 f8 pcp px py fs sh ln pr grw sx tx wd sy ty hi wr fr gxs gys nc ogx ogy tu grf gxf gyf hm mf axs ays abg acl ago act mw aln mlf alx aly mpc aa1 aa2 aa3 aa4 aa5 aa6 aif ail aca aid mda mon mrs mic mox moy acx acy X0 Y0 BG GO CT LX LY A1 A2 A3 A4 A5 A6 IF0 IL0 CA0 ID0 mcx mcy ao ov hm_ hi0 hLP hqI hw hcq hwf hfr hkw hkn hco hct (by omega) H locs ls hP hD hS (lv_sub hl [0, 1, 2, 3, 4] rfl)

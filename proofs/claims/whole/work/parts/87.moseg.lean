/-! the reference's segments -/
theorem mo_row {a g : MA} {p p2 v1 v2 v3 v4 v5 v6 f : Int} {il : Int → Int} (hG : g = maU a p v1 v2 v3 v4 v5 v6 f 0) (hp : p2 = p + 1) (hil : il = zup g.IL (p2 - 1) 1) : (g.1, g.2.1, g.2.2.1, g.2.2.2.1, g.2.2.2.2.1, g.2.2.2.2.2.1, g.IF, il, g.CA, g.ID) = maE (maU a p v1 v2 v3 v4 v5 v6 f 0) p := by
  subst hG hil hp
  rw [show p + 1 - 1 = p by omega]
  rfl
/-- a dash that is on, and ends -/
theorem sg_on {g : SG} {a b : MA} {F : Int → Pc8} {fu : Nat} {CF : CS} {t dd on rs N L p p2 ic : Int} {il : Int → Int} (hR : moR a F N L) (hp : p = N ∧ N ≤ 2001) (hlt : p < 2001) (hic : (ic = 1 ∧ 0 ≤ L) ∨ (ic = 0 ∧ L < 0))
    (hg : pcR a b p p2 (fnA g.l g.fx g.ax t) (fnA g.l g.fy g.ay t) (fnA g.l g.fx g.ax (t + rs)) (fnA g.l g.fy g.ay (t + rs)) g.ox g.oy (1 - ic)) (hil : il = zup b.IL (p2 - 1) 1) (ho : on = 1)
    (hC : ctM g fu (t + rs, nxt g.nd dd, 1 - on, 256 * g.ln (nxt g.nd dd), if on = 1 then N + 1 else N, -1, if on = 1 then fend (fup F N (ctP g t (t + rs) L)) N 1 else fend F L 1) = CF) :
    moR (b.1, b.2.1, b.2.2.1, b.2.2.2.1, b.2.2.2.2.1, b.2.2.2.2.2.1, b.IF, il, b.CA, b.ID) (fend (fup F N (ctP g t (t + rs) L)) N 1) (N + 1) (-1) ∧ p2 = N + 1 ∧ N + 1 ≤ 2001 ∧ ctM g fu (t + rs, nxt g.nd dd, 0, 256 * g.ln (nxt g.nd dd), N + 1, -1, fend (fup F N (ctP g t (t + rs) L)) N 1) = CF := by
  obtain ⟨g1, g2, g3⟩ := hg.resolve_right (fun z => by omega)
  subst ho
  rw [if_pos rfl, if_pos rfl] at hC
  obtain ⟨e, hp⟩ := hp
  subst e
  refine ⟨?_, g2, by omega, hC⟩
  rw [mo_row g3 g2 hil]
  exact mo_one hR (by omega)
theorem sg_off {g : SG} {F : Int → Pc8} {fu : Nat} {CF : CS} {t dd on rs N L : Int} (ho : on = 0) (hL : L = -1)
    (hC : ctM g fu (t + rs, nxt g.nd dd, 1 - on, 256 * g.ln (nxt g.nd dd), if on = 1 then N + 1 else N, -1, if on = 1 then fend (fup F N (ctP g t (t + rs) L)) N 1 else fend F L 1) = CF) : ctM g fu (t + rs, nxt g.nd dd, 1, 256 * g.ln (nxt g.nd dd), N, -1, F) = CF := by
  subst ho hL
  rw [if_neg (by decide), if_neg (by decide), fend_m1] at hC
  exact hC
/-- too many -/
theorem sg_full {g : SG} {a : MA} {F : Int → Pc8} {fu : Nat} {CF : CS} {t dd on rs N L P d o r ic : Int} (hC : ctM g fu (t, dd, on, rs, N, L, F) = CF) (hN : 2001 ≤ N) (hP : P = 2001) : moS a CF.dd CF.on CF.rs CF.N CF.L CF.F P d o r ic := by
  have h := ctM_N g fu (t, dd, on, rs, N, L, F)
  rw [hC] at h
  have h : N ≤ CF.N := h
  exact Or.inr ⟨hP, by omega⟩
/-- the end of a segment, nothing more to paint -/
theorem sg_out {g : SG} {a : MA} {F : Int → Pc8} {fu : Nat} {CF : CS} {t dd on rs N L p ic : Int} (hC : ctM g fu (t, dd, on, rs, N, L, F) = CF) (hE : CF.t = g.l ∧ 0 < CF.rs) (h : ¬ rs ≤ g.l - t) (ht : t ≤ g.l) (ho : on = 0 ∨ on = 1) (hn : ¬ (on = 1 ∧ t < g.l)) (hR : moR a F N L) (hp : p = N ∧ N ≤ 2001) (hic : (ic = 1 ∧ 0 ≤ L) ∨ (ic = 0 ∧ L < 0)) : moS a CF.dd CF.on CF.rs CF.N CF.L CF.F p dd on (rs - (g.l - t)) ic := by
  have e := md_out hC hE h ht ho
  rw [if_neg hn, if_neg hn, if_neg hn] at e
  rw [e]
  exact Or.inl ⟨hp.2, hp.1, hR, rfl, rfl, rfl, hic⟩
theorem sg_last {g : SG} {a b : MA} {F : Int → Pc8} {fu : Nat} {CF : CS} {t dd on rs N L p p2 ic : Int} (hC : ctM g fu (t, dd, on, rs, N, L, F) = CF) (hE : CF.t = g.l ∧ 0 < CF.rs) (h : ¬ rs ≤ g.l - t) (ht : t ≤ g.l) (ho : on = 0 ∨ on = 1) (hn : on = 1 ∧ t < g.l) (hR : moR a F N L) (hp : p = N ∧ N ≤ 2001) (hic : (ic = 1 ∧ 0 ≤ L) ∨ (ic = 0 ∧ L < 0))
    (hg : pcR a b p p2 (fnA g.l g.fx g.ax t) (fnA g.l g.fy g.ay t) (fnA g.l g.fx g.ax g.l) (fnA g.l g.fy g.ay g.l) g.ox g.oy (1 - ic)) : moS b CF.dd CF.on CF.rs CF.N CF.L CF.F p2 dd on (rs - (g.l - t)) 1 := by
  have e := md_out hC hE h ht ho
  rw [if_pos hn, if_pos hn, if_pos hn] at e
  rw [e]
  obtain ⟨e1, hp⟩ := hp
  subst e1
  rcases hg with ⟨g1, g2, g3⟩ | ⟨g1, g2, g3⟩
  · refine Or.inl ⟨by show p + 1 ≤ 2001; omega, g2, ?_, rfl, rfl, rfl, Or.inl ⟨rfl, hR.1⟩⟩
    rw [g3]
    exact mo_add hR (by omega)
  · exact Or.inr ⟨g2, by show 2001 ≤ p + 1; omega⟩
/-- the end of a subpath with dashes -/
theorem sg_end {a : MA} {F : Int → Pc8} {dd on rs N L P d o r ic : Int} {il : Int → Int} (h : moS a dd on rs N L F P d o r ic) (hil : (ic = 1 ∧ 0 < P ∧ il = zup a.IL (P - 1) 1) ∨ (¬ (ic = 1 ∧ 0 < P) ∧ il = a.IL)) : moT (a.1, a.2.1, a.2.2.1, a.2.2.2.1, a.2.2.2.2.1, a.2.2.2.2.2.1, a.IF, il, a.CA, a.ID) N (fend F L 1) P := by
  rcases h with ⟨h1, h2, h3, -, -, -, h7⟩ | h
  · subst h2
    rcases h7 with ⟨i1, i2⟩ | ⟨i1, i2⟩
    · obtain ⟨z1, -⟩ : L = P - 1 ∧ 0 ≤ L := by have := h3.2.1; omega
      have hP : 0 < P := by omega
      have e := (hil.resolve_right (fun z => z.1 ⟨i1, hP⟩)).2.2
      subst e
      rw [← z1]
      exact Or.inl ⟨h1, rfl, mo_end h3 i2⟩
    · have e := (hil.resolve_left (fun z => by omega)).2
      subst e
      have eL : L = -1 := by have := h3.2.1; omega
      subst eL
      rw [fend_m1]
      exact Or.inl ⟨h1, rfl, h3⟩
  · exact Or.inr h
theorem sg_endF {a : MA} {F G : Int → Pc8} {N P M : Int} (hP : P = 2001) (hN : 2001 ≤ N) (hM : N ≤ M) : moT a M G P := Or.inr ⟨hP, by omega⟩
theorem sgD_1 {w : SW} {lx ly : Int → Int} {m : Int} {n : Nat} {c : CS} (hn : 0 < n) (hz : ¬ (lx (nxt m 0) - lx 0 = 0 ∧ ly (nxt m 0) - ly 0 = 0)) : (sgD w lx ly m n 0 c).t = 1 := by
  obtain ⟨k, rfl⟩ : ∃ k, n = k + 1 := ⟨n - 1, by omega⟩
  show (sgD w lx ly m k (0 + 1) (sgT w (lx 0) (ly 0) (lx (nxt m 0)) (ly (nxt m 0)) c)).t = 1
  refine sgD_t1 _ _ _ _ _ _ _ ?_
  unfold sgT
  rw [if_neg hz]
  split <;> rfl
theorem dp_0 {a : MA} {N P sd so sr : Int} {F : Int → Pc8} (h : moT a N F P) : moS a sd so sr N (-1) F P sd so sr 0 := by
  rcases h with ⟨h1, h2, h3⟩ | h
  · exact Or.inl ⟨h1, h2, h3, rfl, rfl, rfl, Or.inr ⟨rfl, by omega⟩⟩
  · exact Or.inr h
theorem dp_ex {a : MA} {dd on rs N L P d o r ic : Int} {F : Int → Pc8} (h : moS a dd on rs N L F P d o r ic) (hp : P < 2001) : N ≤ 2001 ∧ P = N ∧ moR a F N L ∧ d = dd ∧ o = on ∧ r = rs ∧ ((ic = 1 ∧ 0 ≤ L) ∨ (ic = 0 ∧ L < 0)) := h.resolve_right (fun z => by omega)
theorem dp_N {a : MA} {dd on rs N L P d o r ic : Int} {F : Int → Pc8} (h : moS a dd on rs N L F P d o r ic) (hp : 2001 ≤ P) : 2001 ≤ N := by
  rcases h with ⟨h1, h2, -⟩ | h <;> omega
theorem ctS_of {g : SG} {c : CS} (h : c.on = 0 → c.L = -1) (ho : c.on = 0 ∨ c.on = 1) : ((ctS g c).on = 0 → (ctS g c).L = -1) ∧ ((ctS g c).on = 0 ∨ (ctS g c).on = 1) := by
  obtain ⟨t, dd, on, rs, N, L, F⟩ := c
  have h : on = 0 → L = -1 := h
  have ho : on = 0 ∨ on = 1 := ho
  by_cases q : rs ≤ g.l - t
  · rw [ctS_e q ho]
    exact ⟨fun _ => rfl, by show 1 - on = 0 ∨ 1 - on = 1; omega⟩
  · rw [ctS_o q ho]
    refine ⟨fun z => ?_, ho⟩
    have z : on = 0 := z
    show (if on = 1 then N else L) = -1
    rw [if_neg (by omega)]
    exact h z
theorem ctM_of (g : SG) : ∀ (n : Nat) (c : CS), (c.on = 0 → c.L = -1) → (c.on = 0 ∨ c.on = 1) → ((ctM g n c).on = 0 → (ctM g n c).L = -1) := by
  intro n
  induction n with
  | zero => intro c h _; exact h
  | succ n ih =>
    intro c h ho
    unfold ctM
    split
    · obtain ⟨a, b⟩ := ctS_of (g := g) h ho
      exact ih _ a b
    · exact h

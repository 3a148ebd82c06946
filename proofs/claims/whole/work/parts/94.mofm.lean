/-! the reference: subpath by subpath -/
def fsM (BG : Int → Int) : Int → Int := fun s => if s = 0 then 0 else BG s
theorem fsM_bv {BG : Int → Int} {mn mp s : Int} (h0 : 0 ≤ s) (h1 : s < mn) (hm : 0 < mn → BG mn = mp) : bvF (fsM BG) mn mp s = BG (s + 1) := by
  unfold bvF fsM
  by_cases q : s + 1 < mn
  · rw [if_pos q, if_neg (by omega)]
  · rw [if_neg q, show s + 1 = mn by omega, hm (by omega)]
theorem WM_ex {px py fs sh ln : Int → Int} {ns np hf nd wl ph : Int} {WM : Int × (Int → Pc8)} (h : WMf px py fs sh ns np hf nd ln wl ph = WM) : ∃ sd so sr, wkM ((px, py, hf, nd, ln, wl, 1000000) : SW) fs sh ns np sd so sr (ns - 0).toNat 0 (0, z8) = WM ∧ (0 < wl → sd = (phM nd ln 16 (ph % (2 * wl)) 0 1).2.1 ∧ so = (phM nd ln 16 (ph % (2 * wl)) 0 1).2.2 ∧ sr = 256 * (ln (phM nd ln 16 (ph % (2 * wl)) 0 1).2.1 - (phM nd ln 16 (ph % (2 * wl)) 0 1).1)) := by
  rw [Int.sub_zero]
  unfold WMf at h
  by_cases q : 0 < wl
  · rw [if_pos q] at h
    exact ⟨_, _, _, h, fun _ => ⟨rfl, rfl, rfl⟩⟩
  · rw [if_neg q] at h
    exact ⟨_, _, _, h, fun z => absurd z q⟩
/-- a subpath of one point -/
theorem sub_dot {px py lx ly : Int → Int} {r : Int × Int × (Int → Int) × Int × Nat} {fv bv shv m sd so sr N : Int} {F : Int → Pc8} (h : lvE px py lx ly fv bv shv m) (hm : m = 1) (hd : shv = 1 ∨ 1 < bv - fv) : subM (px, py, r) fv bv shv sd so sr N F = (N + 1, fup F N (16 * lx 0, 16 * ly 0, 16 * lx 0, 16 * ly 0, 0, 0, -1, 2)) := by
  unfold subM
  rw [h.2.2.2.2.2.1 hm r (0, sd, so, sr, N, -1, F)]
  show sbD (px, py, r) fv bv shv N 0 N (-1) F = _
  unfold sbD
  rw [if_pos ⟨rfl, hd⟩, sbC_m1, h.2.2.1.1, h.2.2.1.2]
theorem sub_none {px py lx ly : Int → Int} {r : Int × Int × (Int → Int) × Int × Nat} {fv bv shv m sd so sr N : Int} {F : Int → Pc8} (h : lvE px py lx ly fv bv shv m) (hm : m = 1) (hd : ¬ (shv = 1 ∨ 1 < bv - fv)) : subM (px, py, r) fv bv shv sd so sr N F = (N, F) := by
  unfold subM
  rw [h.2.2.2.2.2.1 hm r (0, sd, so, sr, N, -1, F)]
  show sbD (px, py, r) fv bv shv N 0 N (-1) F = _
  unfold sbD
  rw [if_neg (fun z => hd z.2), sbC_m1]
theorem sub_many {px py lx ly : Int → Int} {r : Int × Int × (Int → Int) × Int × Nat} {fv bv shv m sd so sr N : Int} {F : Int → Pc8} (h : lvE px py lx ly fv bv shv m) (hm : 1 < m) : ∃ FC : CS, sgD (px, py, r) lx ly m (if shv = 1 then m else m - 1).toNat 0 (0, sd, so, sr, N, -1, F) = FC ∧ subM (px, py, r) fv bv shv sd so sr N F = sbC shv (SW.wl (px, py, r)) N FC.N FC.L FC.F := by
  refine ⟨_, rfl, ?_⟩
  unfold subM
  rw [h.2.2.2.2.2.2 hm r (0, sd, so, sr, N, -1, F)]
  have ht := sgD_1 (w := (px, py, r)) (lx := lx) (ly := ly) (m := m) (n := (if shv = 1 then m else m - 1).toNat) (c := (0, sd, so, sr, N, -1, F)) (by split <;> omega) (h.2.2.2.2.1 0 (Int.le_refl _) (by split <;> omega) hm)
  exact sbD_1 (L := 0) (F := F) ht
/-- the row of a dot -/
theorem mo_dotR {a g : MA} {p p2 v1 v2 v3 v4 : Int} {id : Int → Int} {N : Int} {F : Int → Pc8} (hT : moT a N F p) (hg : pcR a g p p2 v1 v2 v3 v4 0 0 0) (hid : id = zup g.ID (p2 - 1) 1) : moT (g.1, g.2.1, g.2.2.1, g.2.2.2.1, g.2.2.2.2.1, g.2.2.2.2.2.1, g.IF, g.IL, g.CA, id) (N + 1) (fup F N (v1, v2, v3, v4, 0, 0, -1, 2)) p2 := by
  rcases hg with ⟨g1, g2, g3⟩ | ⟨g1, g2, g3⟩
  · obtain ⟨h1, h2, h3⟩ := hT.resolve_right (fun z => by omega)
    subst h2
    have e : id = zup a.ID p 1 := by
      subst hid g3
      funext j
      show zup (zup a.ID p 0) (p2 - 1) 1 j = zup a.ID p 1 j
      unfold zup
      by_cases q : j = p
      · rw [if_pos (by omega), if_pos q]
      · rw [if_neg (by omega), if_neg q, if_neg q]
    subst e g3
    exact Or.inl ⟨by omega, g2, mo_dot h3⟩
  · refine Or.inr ⟨g2, ?_⟩
    rcases hT with h | h <;> omega
theorem moT_end {a : MA} {N P : Int} {F : Int → Pc8} (h : moT a N F P) : (P ≤ 2000 → N ≤ 2000 ∧ P = N ∧ moR a F N (-1)) ∧ (2000 < P → 2000 < N) := by
  rcases h with ⟨h1, h2, h3⟩ | h
  · exact ⟨fun q => ⟨by omega, h2, h3⟩, fun q => by omega⟩
  · exact ⟨fun q => by omega, fun q => by omega⟩

/-! the stroke of a path and a pen, and which points it covers -/
def shF (F : Int → Pc8) (cp jn lm H j x y : Int) : Prop := shC (fun j => (F j).1) (fun j => (F j).2.1) (fun j => (F j).2.2.1) (fun j => (F j).2.2.2.1) (fun j => (F j).2.2.2.2.1) (fun j => (F j).2.2.2.2.2.1) (fun j => pcBf (F j)) (fun j => pcKd (F j)) cp jn lm H j x y
def cvW (cp jn lm H : Int) (WM : Int × (Int → Pc8)) (x y : Int) : Prop := WM.1 ≤ 2000 ∧ ∃ j, 0 ≤ j ∧ j < WM.1 ∧ shF WM.2 cp jn lm H j x y
def z8 : Int → Pc8 := fun _ => (0, 0, 0, 0, 0, 0, 0, 0)
def WMf (px py fs sh : Int → Int) (ns np hf nd : Int) (ln : Int → Int) (wl ph : Int) : Int × (Int → Pc8) :=
  if 0 < wl then wkM (px, py, hf, nd, ln, wl, 1000000) fs sh ns np (phM nd ln 16 (ph % (2 * wl)) 0 1).2.1 (phM nd ln 16 (ph % (2 * wl)) 0 1).2.2 (256 * (ln (phM nd ln 16 (ph % (2 * wl)) 0 1).2.1 - (phM nd ln 16 (ph % (2 * wl)) 0 1).1)) ns.toNat 0 (0, z8)
  else wkM (px, py, hf, nd, ln, wl, 1000000) fs sh ns np 0 1 0 ns.toNat 0 (0, z8)
/-- without dashes their rest counts for nothing -/
def eqX (c d : CS) : Prop := c.t = d.t ∧ c.N = d.N ∧ c.L = d.L ∧ c.F = d.F
theorem sgT_X {w : SW} {x1 y1 x2 y2 : Int} {c d : CS} (hw : ¬ 0 < w.wl) (h : eqX c d) : eqX (sgT w x1 y1 x2 y2 c) (sgT w x1 y1 x2 y2 d) := by
  unfold sgT
  by_cases q : x2 - x1 = 0 ∧ y2 - y1 = 0
  · rw [if_pos q, if_pos q]; exact h
  · rw [if_neg q, if_neg q, if_neg hw, if_neg hw]
    obtain ⟨a, b, e, f⟩ := h
    refine ⟨rfl, ?_, ?_, ?_⟩
    · show c.N + 1 = d.N + 1; rw [b]
    · exact b
    · show fup c.F c.N _ = fup d.F d.N _
      rw [b, e, f]
theorem sgs_X {w : SW} {fv bv : Int} (hw : ¬ 0 < w.wl) : ∀ (n : Nat) (i : Int) (c d : CS), eqX c d → eqX (sgs w fv bv n i c) (sgs w fv bv n i d) := by
  intro n
  induction n with
  | zero => intro i c d h; exact h
  | succ n ih => intro i c d h; exact ih _ _ _ (sgT_X hw h)
theorem subM_X {w : SW} {fv bv shv sd so sr sr2 N : Int} {F : Int → Pc8} (hw : ¬ 0 < w.wl) : subM w fv bv shv sd so sr N F = subM w fv bv shv sd so sr2 N F := by
  unfold subM
  obtain ⟨a, b, e, f⟩ := sgs_X (fv := fv) (bv := bv) hw (sbL bv shv - fv).toNat (fv + 1) (0, sd, so, sr, N, -1, F) (0, sd, so, sr2, N, -1, F) ⟨rfl, rfl, rfl, rfl⟩
  rw [a, b, e, f]
theorem wkM_X {w : SW} {fs sh : Int → Int} {ns np sd so sr sr2 : Int} (hw : ¬ 0 < w.wl) : ∀ (n : Nat) (s : Int) (c : Int × (Int → Pc8)), wkM w fs sh ns np sd so sr n s c = wkM w fs sh ns np sd so sr2 n s c := by
  intro n
  induction n with
  | zero => intro s c; rfl
  | succ n ih =>
    intro s c
    show wkM w fs sh ns np sd so sr n (s + 1) _ = wkM w fs sh ns np sd so sr2 n (s + 1) _
    rw [subM_X (sr2 := sr2) hw]
    exact ih _ _
theorem WM_ok {px py fs sh ln : Int → Int} {ns np hf nd wl ph sr : Int} {PF : Int × Int × Int} {fl : Nat} (hfl : fl = 1000000) (hPF : PF = phM nd ln 16 (ph % (2 * wl)) 0 1) : (0 < wl → wkM ((px, py, hf, nd, ln, wl, fl) : SW) fs sh ns np PF.2.1 PF.2.2 (256 * (ln PF.2.1 - PF.1)) ns.toNat 0 (0, fun _ => (0, 0, 0, 0, 0, 0, 0, 0)) = WMf px py fs sh ns np hf nd ln wl ph) ∧ (¬ 0 < wl → wkM ((px, py, hf, nd, ln, wl, fl) : SW) fs sh ns np 0 1 sr ns.toNat 0 (0, fun _ => (0, 0, 0, 0, 0, 0, 0, 0)) = WMf px py fs sh ns np hf nd ln wl ph) := by
  subst hfl hPF
  constructor
  · intro h; unfold WMf; rw [if_pos h]; rfl
  · intro h; unfold WMf; rw [if_neg h]; exact wkM_X h _ _ _
/-- the path, the pen: what they keep -/
def pathI (px py fs sh : Int → Int) (pcp : Nat) (np ns : Int) : Prop := (0 ≤ ns ∧ ns ≤ 64) ∧ (∀ s, 0 ≤ s → s < ns → 0 ≤ fs s ∧ fs s < bvF fs ns np s ∧ bvF fs ns np s ≤ np) ∧ (0 ≤ np ∧ np ≤ pcp) ∧ capP pcp ∧ (∀ j, 0 ≤ j → j < np → coP (px j) ∧ coP (py j)) ∧ (∀ j, sh j = 0 ∨ sh j = 1) ∧ (ns = 0 → np = 0)
def penI (hf cp jn lm nd ph wl : Int) (ln : Int → Int) : Prop := (8 ≤ hf ∧ hf ≤ 32768) ∧ (0 ≤ cp ∧ cp ≤ 2) ∧ (0 ≤ jn ∧ jn ≤ 2) ∧ (64 ≤ lm ∧ lm ≤ 8192) ∧ (0 ≤ nd ∧ nd ≤ 8) ∧ (∀ j, 0 ≤ j → j < nd → 0 ≤ ln j ∧ ln j ≤ 8192) ∧ wl = sm ln nd.toNat ∧ (0 ≤ ph ∧ ph ≤ 65535)
theorem sm_bd {ln : Int → Int} : ∀ n : Nat, (∀ j, 0 ≤ j → j < (n : Int) → 0 ≤ ln j ∧ ln j ≤ 8192) → 0 ≤ sm ln n ∧ sm ln n ≤ 8192 * n := by
  intro n
  induction n with
  | zero => intro _; exact ⟨Int.le_refl _, Int.le_refl _⟩
  | succ n ih =>
    intro h
    have a := ih (fun j x y => h j x (by omega))
    have b := h n (by omega) (by omega)
    show 0 ≤ sm ln n + ln n ∧ sm ln n + ln n ≤ 8192 * ((n + 1 : Nat) : Int)
    omega
theorem pen_wl {hf cp jn lm nd ph wl : Int} {ln : Int → Int} (h : penI hf cp jn lm nd ph wl ln) : (0 ≤ wl ∧ wl ≤ 65536) ∧ (0 < wl → 0 < nd) := by
  obtain ⟨-, -, -, -, h5, h6, h7, -⟩ := h
  have b := sm_bd (ln := ln) nd.toNat (fun j x y => h6 j x (by omega))
  refine ⟨by omega, fun q => ?_⟩
  rcases Int.lt_or_le 0 nd with z | z
  · exact z
  · rw [show nd.toNat = 0 by omega] at h7
    have : sm ln 0 = 0 := rfl
    omega
theorem path_pc {px py fs sh : Int → Int} {pcp : Nat} {np ns : Int} (h : pathI px py fs sh pcp np ns) : np ≤ pcp ∧ pcp ≤ 1024 := by
  have := capP_le h.2.2.2.1
  have := h.2.2.1
  omega
theorem WM_I {px py fs sh ln : Int → Int} {pcp : Nat} {ns np hf cp jn lm nd wl ph : Int} (hp : pathI px py fs sh pcp np ns) (hq : penI hf cp jn lm nd ph wl ln) : INV hf (WMf px py fs sh ns np hf nd ln wl ph).1 (-1) (WMf px py fs sh ns np hf nd ln wl ph).2 := by
  obtain ⟨a1, a2, a3, a4, a5, a6, -⟩ := hp
  have hwl := pen_wl hq
  obtain ⟨b1, b2, b3, b4, b5, b6, b7, b8⟩ := hq
  have hw : swV ((px, py, hf, nd, ln, wl, 1000000) : SW) := ⟨b1, b5, b6, b7, rfl⟩
  unfold WMf
  by_cases q : 0 < wl
  · rw [if_pos q]
    have hd := ph_ds (lf := (phM nd ln 16 (ph % (2 * wl)) 0 1).1) (sd := (phM nd ln 16 (ph % (2 * wl)) 0 1).2.1) (so := (phM nd ln 16 (ph % (2 * wl)) 0 1).2.2) b6 ⟨hwl.2 q, b5.2⟩ b7 q rfl
    exact wkM_I (w := (px, py, hf, nd, ln, wl, 1000000)) hw a6 a2 a5 (fun _ => hd.1) ns.toNat 0 (0, z8) (Int.le_refl _) (by omega) INV_0
  · rw [if_neg q]
    exact wkM_I (w := (px, py, hf, nd, ln, wl, 1000000)) hw a6 a2 a5 (fun z => absurd z q) ns.toNat 0 (0, z8) (Int.le_refl _) (by omega) INV_0
/-- what painting asks of the rows -/
theorem wk_paint {f1 f2 f3 f4 f5 f6 f7 f8 : Int → Int} {hd fu la H : Int} {WM : Int × (Int → Pc8)} {cap : Nat} (h : wkS f1 f2 f3 f4 f5 f6 f7 f8 hd fu la WM.1 (-1) WM.2) (hI : INV H WM.1 (-1) WM.2) (hc : capQ cap) : 0 ≤ hd ∧ hd ≤ capN cap 0 WM.1.toNat ∧ capN cap 0 WM.1.toNat ≤ 2000 ∧ ∀ n, 0 ≤ n → n < hd → pcV f1 f2 f3 f4 f5 f6 f7 f8 H hd n := by
  have hk := wk_cap (hd0 := 0) h hc (Int.le_refl _) (Int.natCast_nonneg cap) hI.1 rfl
  rw [Int.sub_zero] at hk
  have hl := wk_la h
  refine ⟨by omega, by omega, by omega, ?_⟩
  rcases h with ⟨-, e, -, -, -, -, -, hr⟩ | ⟨-, e, -⟩
  · subst e
    exact INV_pcV hI hr
  · intro n n0 n1; omega
theorem wk_cv {f1 f2 f3 f4 f5 f6 f7 f8 : Int → Int} {hd fu la cp jn lm H x y : Int} {WM : Int × (Int → Pc8)} (h : wkS f1 f2 f3 f4 f5 f6 f7 f8 hd fu la WM.1 (-1) WM.2) (hI : INV H WM.1 (-1) WM.2) : (∃ j, 0 ≤ j ∧ j < hd ∧ shC f1 f2 f3 f4 f5 f6 f7 f8 cp jn lm H j x y) ↔ cvW cp jn lm H WM x y := by
  unfold cvW
  rcases h with ⟨-, e, -, -, hN, -, -, hr⟩ | ⟨-, e, -, hN⟩
  · subst e
    have hq : ∀ j, 0 ≤ j → j < WM.1 → f1 j = (WM.2 j).1 ∧ f2 j = (WM.2 j).2.1 ∧ f3 j = (WM.2 j).2.2.1 ∧ f4 j = (WM.2 j).2.2.2.1 ∧ f5 j = (WM.2 j).2.2.2.2.1 ∧ f6 j = (WM.2 j).2.2.2.2.2.1 ∧ f7 j = pcBf (WM.2 j) ∧ f8 j = pcKd (WM.2 j) := by
      intro j a b
      rw [← hr j a b]
      exact ⟨rfl, rfl, rfl, rfl, rfl, rfl, rfl, rfl⟩
    have key : ∀ j, 0 ≤ j → j < WM.1 → (shC f1 f2 f3 f4 f5 f6 f7 f8 cp jn lm H j x y ↔ shF WM.2 cp jn lm H j x y) := by
      intro j a b
      obtain ⟨q1, q2, q3, q4, q5, q6, q7, q8⟩ := hq j a b
      have hL := (hI.2.2.2.2 j a b).2.2
      unfold shF shC
      rw [q1, q2, q3, q4, q5, q6, q7, q8]
      by_cases z : 0 ≤ pcBf (WM.2 j)
      · obtain ⟨-, -, -, -, r5, r6, -, -⟩ := hq (pcBf (WM.2 j)) z hL.2.1
        rw [r5, r6]
      · simp only [z, false_and, and_false, or_false]
    constructor
    · rintro ⟨j, a, b, d⟩; exact ⟨hN, j, a, b, (key j a b).mp d⟩
    · rintro ⟨_, j, a, b, d⟩; exact ⟨j, a, b, (key j a b).mpr d⟩
  · constructor
    · rintro ⟨j, a, b, d⟩; omega
    · rintro ⟨a, b⟩; omega
/-- rows that were empty -/
theorem rw_bit {g rw : Nat → Int64} {hi wd : Int} {In : Int → Int → Prop} (h : rwI g rw hi wd (fun _ => True) In) (hz : ∀ j : Nat, j < 64 → rw j = lI 0) (hh : hi ≤ 64) {i : Nat} (hi0 : (i : Int) < hi) {k : Int} (k0 : 0 ≤ k) (k1 : k < 64) : btL (g i) k ↔ k < wd ∧ In k i := by
  rw [h i hi0 k k0 k1, hz i (by omega)]
  constructor
  · rintro (q | ⟨_, q⟩)
    · exact absurd q (btL_0 k)
    · exact q
  · intro q; exact Or.inr ⟨trivial, q⟩
theorem rw_sub {rw : Nat → Int64} {hi wd : Int} (hz : ∀ j : Nat, j < 64 → rw j = lI 0) (hh : hi ≤ 64) : subW rw hi wd := by
  intro i a k k0 k1 hb
  rw [hz i (by omega)] at hb
  exact absurd hb (btL_0 k)
theorem rw_0 {x : Int64} {In : Prop} (h : ∀ k : Int, 0 ≤ k → k < 64 → (btL x k ↔ k < 1 ∧ In)) : x = lI 0 ↔ ¬ In := by
  constructor
  · intro e q
    have := (h 0 (by omega) (by omega)).mpr ⟨by omega, q⟩
    rw [e] at this
    exact btL_0 0 this
  · intro q
    apply btL_ext
    intro k k0 k1
    rw [h k k0 k1]
    exact ⟨fun z => absurd z.2 q, fun z => absurd z (btL_0 k)⟩
theorem has_bit {g : Nat → Int64} {wd : Int} {In : Int → Int → Prop} {P : Prop} (h : ∀ k : Int, 0 ≤ k → k < 64 → (btL (g 0) k ↔ k < wd ∧ In k ((0 : Nat) : Int))) (hw : wd = 1) (hP : In 0 ((0 : Nat) : Int) ↔ P) : g 0 = lI 0 ↔ ¬ P := by
  refine rw_0 (fun k k0 k1 => (h k k0 k1).trans ⟨fun z => ⟨by omega, ?_⟩, fun z => ⟨by omega, ?_⟩⟩)
  · have e : k = 0 := by omega
    rw [e] at z
    exact hP.mp z.2
  · have e : k = 0 := by omega
    rw [e]
    exact hP.mpr z.2
theorem share_row {x : Int64} {In : Int → Prop} (h : ∀ k : Int, 0 ≤ k → k < 64 → (btL x k ↔ k < 4 ∧ In k)) : (pcN 64 (uN x) : Int) = cnt In 4 := by
  rw [pcN_btL, show (64 : Nat) = 4 + 60 from rfl, cnt_add]
  have e1 : cnt (fun k => btL x (((4 : Nat) : Int) + k)) 60 = 0 := by
    have e2 : ∀ n : Nat, n ≤ 60 → cnt (fun k => btL x (((4 : Nat) : Int) + k)) n = 0 := by
      intro n
      induction n with
      | zero => intro _; rfl
      | succ n ih =>
        intro hn
        show cnt _ n + bz (btL x (((4 : Nat) : Int) + (n : Int))) = 0
        rw [ih (by omega), bz_0 (fun q => by have := (h _ (by omega) (by omega)).mp q; omega)]
        rfl
    exact e2 60 (Nat.le_refl _)
  rw [e1, Int.add_zero]
  refine cnt_cg 4 (fun k a b => (h k a (by omega)).trans ⟨fun z => z.2, fun z => ⟨by omega, z⟩⟩)
/-- what painting leaves in rows that were empty -/
theorem row_cv {g rw : Nat → Int64} {f1 f2 f3 f4 f5 f6 f7 f8 : Int → Int} {hi wd sx tx sy ty hd fu la cp jn lm H tx2 ty2 wd2 hi2 : Int} {WM : Int × (Int → Pc8)} (hw : rwI g rw hi wd (fun _ => True) (fun k i => ∃ j, 0 ≤ j ∧ j < hd ∧ shC f1 f2 f3 f4 f5 f6 f7 f8 cp jn lm H j (sx + k * tx) (sy + i * ty))) (hz : ∀ j : Nat, j < 64 → rw j = lI 0) (hwk : wkS f1 f2 f3 f4 f5 f6 f7 f8 hd fu la WM.1 (-1) WM.2) (hI : INV H WM.1 (-1) WM.2)
    (e1 : tx = tx2) (e2 : ty = ty2) (e3 : wd = wd2) (e4 : hi = hi2) (hh : hi2 ≤ 64) : ∀ (i : Nat), (i : Int) < hi2 → ∀ k : Int, 0 ≤ k → k < 64 → (btL (g i) k ↔ k < wd2 ∧ cvW cp jn lm H WM (sx + k * tx2) (sy + i * ty2)) := by
  subst e1 e2 e3 e4
  intro i h8 k h9 h10
  rw [rw_bit hw hz hh h8 h9 h10]
  exact and_congr Iff.rfl (wk_cv hwk hI)

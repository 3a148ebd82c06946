/-! class and reference side by side -/
def LwP (px py fs sh : Int → Int) (pcp : Nat) (np ns no : Int) (X0 Y0 BG GO : Int → Int) : Prop :=
  pathI px py fs sh pcp np ns ∧ (∀ j, 0 ≤ j → j < np → px j = X0 j ∧ py j = Y0 j) ∧ (∀ k, 0 ≤ k → k < ns → fs k = fsM BG k) ∧ (0 < ns → BG ns = np) ∧ (∀ k, 0 ≤ k → k < ns → (GO k = 1 ∧ 1 < BG (k + 1) - fsM BG k) ∨ (GO k = 0 ∧ ¬ 1 < BG (k + 1) - fsM BG k)) ∧ no = sm sh ns.toNat
theorem LwP_np {px py fs sh : Int → Int} {pcp : Nat} {np ns no : Int} {X0 Y0 BG GO : Int → Int} (h : LwP px py fs sh pcp np ns no X0 Y0 BG GO) (hn : 0 < ns) : 1 ≤ np ∧ fs (ns - 1) < np := by
  have h1 := h.1.2.1 (ns - 1) (by omega) (by omega)
  unfold bvF at h1
  rw [if_neg (by omega)] at h1
  omega
theorem sm_01 {sh : Int → Int} (h : ∀ j, sh j = 0 ∨ sh j = 1) : ∀ n : Nat, 0 ≤ sm sh n ∧ sm sh n ≤ n := by
  intro n
  induction n with
  | zero => exact ⟨Int.le_refl _, Int.le_refl _⟩
  | succ n ih =>
    have h1 := h (n : Int)
    show 0 ≤ sm sh n + sh n ∧ sm sh n + sh n ≤ ((n + 1 : Nat) : Int)
    omega
theorem LwP_no {px py fs sh : Int → Int} {pcp : Nat} {np ns no : Int} {X0 Y0 BG GO : Int → Int} (h : LwP px py fs sh pcp np ns no X0 Y0 BG GO) : 0 ≤ no ∧ no ≤ 64 := by
  have h1 := sm_01 h.1.2.2.2.2.2.1 ns.toNat
  have h2 := h.2.2.2.2.2
  have h3 := h.1.1
  omega
theorem fsM_n {BG : Int → Int} {k v j : Int} (h : j ≠ k) : fsM (zup BG k v) j = fsM BG j := by
  unfold fsM
  split
  · rfl
  · exact zup_n h
theorem LwP_move {px py fs sh gx gy : Int → Int} {pcp : Nat} {np ns no x y : Int} {X0 Y0 BG GO : Int → Int} (h : LwP px py fs sh pcp np ns no X0 Y0 BG GO) (hn : ns < 64) (hp : np < 1024) (hx : coP x) (hy : coP y)
    (hP : (∀ j, 0 ≤ j → j < np → gx j = px j) ∧ gx np = x ∧ (∀ j, 0 ≤ j → j < np → gy j = py j) ∧ gy np = y) : LwP gx gy (zup fs ns np) (zup sh ns 0) (gF np pcp) (np + 1) (ns + 1) no (zup X0 np x) (zup Y0 np y) (zup BG (ns + 1) (np + 1)) (zup GO ns 0) := by
  obtain ⟨⟨a1, a2, a3, a4, a5, a6, a7⟩, b1, b2, b3, b4, b5⟩ := h
  obtain ⟨p1, p2, p3, p4⟩ := hP
  have g := gF_ok a4 a3.1 hp (by omega)
  have ef : ∀ k, k ≠ ns → zup fs ns np k = fs k := fun k q => zup_n q
  have es : zup fs ns np ns = np := zup_s _ _ _
  refine ⟨⟨by omega, ?_, by omega, g.1, ?_, ?_, by omega⟩, ?_, ?_, fun _ => zup_s _ _ _, ?_, ?_⟩
  · intro k k0 k1
    unfold bvF
    by_cases e : k = ns
    · rw [e, es, if_neg (by omega)]; omega
    · rw [ef k e, if_pos (by omega)]
      have q := a2 k k0 (by omega)
      unfold bvF at q
      by_cases e2 : k + 1 = ns
      · rw [e2, es]
        rw [if_neg (by omega)] at q
        omega
      · rw [ef _ e2]
        rw [if_pos (by omega)] at q
        omega
  · intro j j0 j1
    by_cases e : j = np
    · rw [e, p2, p4]; exact ⟨hx, hy⟩
    · rw [p1 j j0 (by omega), p3 j j0 (by omega)]; exact a5 j j0 (by omega)
  · intro j
    by_cases e : j = ns
    · rw [e]; exact Or.inl (zup_s _ _ _)
    · rw [zup_n e]; exact a6 j
  · intro j j0 j1
    by_cases e : j = np
    · rw [e, p2, p4]; exact ⟨(zup_s _ _ _).symm, (zup_s _ _ _).symm⟩
    · rw [p1 j j0 (by omega), p3 j j0 (by omega), zup_n e, zup_n e]; exact b1 j j0 (by omega)
  · intro k k0 k1
    rw [fsM_n (by omega)]
    by_cases e : k = ns
    · rw [e, es]
      unfold fsM
      by_cases z : ns = 0
      · rw [if_pos z]; exact a7 z
      · rw [if_neg z]; exact (b3 (by omega)).symm
    · rw [ef k e]; exact b2 k k0 (by omega)
  · intro k k0 k1
    rw [fsM_n (by omega)]
    by_cases e : k = ns
    · subst e
      right
      refine ⟨zup_s _ _ _, ?_⟩
      rw [zup_s]
      unfold fsM
      by_cases z : k = 0
      · rw [if_pos z]; have := a7 z; omega
      · rw [if_neg z, b3 (by omega)]; omega
    · rw [zup_n e, zup_n (by omega)]; exact b4 k k0 (by omega)
  · rw [show (ns + 1).toNat = ns.toNat + 1 by omega]
    show no = sm (zup sh ns 0) ns.toNat + zup sh ns 0 ((ns.toNat : Nat) : Int)
    rw [show ((ns.toNat : Nat) : Int) = ns by omega, zup_s, sm_cg ns.toNat (l2 := sh) (fun j j0 j1 => zup_n (by omega))]
    omega
/-- more points of the open subpath -/
theorem LwP_ext {px py fs sh gx gy kx ky kb : Int → Int} {pcp pc2 : Nat} {np ns no n : Int} {X0 Y0 BG GO : Int → Int} (h : LwP px py fs sh pcp np ns no X0 Y0 BG GO) (ho : 0 < ns) (hn : 1 ≤ n) (hc : capP pc2) (hl : np + n ≤ pc2)
    (h1 : ∀ j, 0 ≤ j → j < np → gx j = px j ∧ gy j = py j ∧ kx j = X0 j ∧ ky j = Y0 j) (h2 : ∀ j, np ≤ j → j < np + n → gx j = kx j ∧ gy j = ky j ∧ coP (gx j) ∧ coP (gy j)) (hb : ∀ j, ¬ j = ns → kb j = BG j) (hbn : kb ns = np + n) :
    LwP gx gy fs sh pc2 (np + n) ns no kx ky kb (zup GO (ns - 1) 1) := by
  have hq := LwP_np h ho
  obtain ⟨⟨a1, a2, a3, a4, a5, a6, a7⟩, b1, b2, b3, b4, b5⟩ := h
  have ef : ∀ k, 0 ≤ k → k < ns → fsM kb k = fsM BG k := by
    intro k k0 k1
    unfold fsM
    split
    · rfl
    · exact hb k (by omega)
  refine ⟨⟨a1, ?_, by omega, hc, ?_, a6, by omega⟩, ?_, ?_, fun _ => hbn, ?_, b5⟩
  · intro k k0 k1
    have q := a2 k k0 k1
    unfold bvF at q ⊢
    by_cases e : k + 1 < ns
    · rw [if_pos e] at q ⊢; omega
    · rw [if_neg e] at q ⊢; omega
  · intro j j0 j1
    by_cases e : j < np
    · have q := h1 j j0 e
      rw [q.1, q.2.1]; exact a5 j j0 e
    · have q := h2 j (by omega) j1
      exact q.2.2
  · intro j j0 j1
    by_cases e : j < np
    · have q := h1 j j0 e
      rw [q.1, q.2.1, q.2.2.1, q.2.2.2]; exact b1 j j0 e
    · have q := h2 j (by omega) j1
      exact ⟨q.1, q.2.1⟩
  · intro k k0 k1
    rw [ef k k0 k1]; exact b2 k k0 k1
  · intro k k0 k1
    rw [ef k k0 k1]
    by_cases e : k = ns - 1
    · left
      rw [e, zup_s, show ns - 1 + 1 = ns by omega, hbn, ← b2 (ns - 1) (by omega) (by omega)]
      exact ⟨rfl, by omega⟩
    · rw [zup_n e, hb (k + 1) (by omega)]; exact b4 k k0 k1
theorem LwP_line {px py fs sh gx gy : Int → Int} {pcp : Nat} {np ns no x y : Int} {X0 Y0 BG GO : Int → Int} (h : LwP px py fs sh pcp np ns no X0 Y0 BG GO) (ho : 0 < ns) (hp : np < 1024) (hx : coP x) (hy : coP y)
    (hP : (∀ j, 0 ≤ j → j < np → gx j = px j) ∧ gx np = x ∧ (∀ j, 0 ≤ j → j < np → gy j = py j) ∧ gy np = y) : LwP gx gy fs sh (gF np pcp) (np + 1) ns no (zup X0 np x) (zup Y0 np y) (zup BG ns (np + 1)) (zup GO (ns - 1) 1) := by
  obtain ⟨p1, p2, p3, p4⟩ := hP
  have h0 := h.1.2.2.1
  have g := gF_ok h.1.2.2.2.1 h0.1 hp (by omega)
  refine LwP_ext h ho (by omega) g.1 (by omega) ?_ ?_ (fun j q => zup_n q) (zup_s _ _ _)
  · intro j j0 j1
    exact ⟨p1 j j0 j1, p3 j j0 j1, zup_n (by omega), zup_n (by omega)⟩
  · intro j j0 j1
    have e : j = np := by omega
    rw [e, p2, p4, zup_s, zup_s]
    exact ⟨rfl, rfl, hx, hy⟩
theorem LwP_curve {px py fs sh gx gy kx ky kb CT : Int → Int} {pcp : Nat} {np ns no x y c1 c2 c3 c4 : Int} {X0 Y0 BG GO : Int → Int} (h : LwP px py fs sh pcp np ns no X0 Y0 BG GO) (ho : 0 < ns) (hp : np + 16 ≤ 1024) (hx : coP x) (hy : coP y) (hc : coP c1 ∧ coP c2 ∧ coP c3 ∧ coP c4) (hct : CT 0 = c1 ∧ CT 1 = c2 ∧ CT 2 = c3 ∧ CT 3 = c4)
    (hP : (∀ j, 0 ≤ j → j < np → gx j = px j) ∧ (∀ i, 1 ≤ i → i < 17 → gx (np + (i - 1)) = bez (px (np - 1)) c1 c3 x i) ∧ (∀ j, 0 ≤ j → j < np → gy j = py j) ∧ (∀ i, 1 ≤ i → i < 17 → gy (np + (i - 1)) = bez (py (np - 1)) c2 c4 y i))
    (hQ : ((∀ j, 0 ≤ j → j < np → kx j = X0 j) ∧ (∀ i, 1 ≤ i → i < 17 → kx (np + (i - 1)) = bez (X0 (np - 1)) (CT 0) (CT 2) x i)) ∧ ((∀ j, 0 ≤ j → j < np → ky j = Y0 j) ∧ (∀ i, 1 ≤ i → i < 17 → ky (np + (i - 1)) = bez (Y0 (np - 1)) (CT 1) (CT 3) y i)) ∧ (∀ j, ¬ j = ns → kb j = BG j) ∧ kb ns = np + 16) :
    LwP gx gy fs sh (gFn np pcp 16) (np + 16) ns no kx ky kb (zup GO (ns - 1) 1) := by
  have hq := LwP_np h ho
  obtain ⟨p1, p2, p3, p4⟩ := hP
  obtain ⟨⟨q1, q2⟩, ⟨q3, q4⟩, q5, q6⟩ := hQ
  have h0 := h.1.2.2.1
  have g := gFn_ok h.1.2.2.2.1 h0.1 (by omega) 16 (by omega)
  have hb := h.2.1 (np - 1) (by omega) (by omega)
  have hd := h.1.2.2.2.2.1 (np - 1) (by omega) (by omega)
  refine LwP_ext h ho (by omega) g.1 (by omega) ?_ ?_ q5 q6
  · intro j j0 j1
    exact ⟨p1 j j0 j1, p3 j j0 j1, q1 j j0 j1, q3 j j0 j1⟩
  · intro j j0 j1
    have e : j = np + ((j - np + 1) - 1) := by omega
    rw [e, p2 _ (by omega) (by omega), p4 _ (by omega) (by omega), q2 _ (by omega) (by omega), q4 _ (by omega) (by omega), ← hb.1, ← hb.2, hct.1, hct.2.1, hct.2.2.1, hct.2.2.2]
    exact ⟨rfl, rfl, bez_co hd.1 hc.1 hc.2.2.1 hx (by omega) (by omega), bez_co hd.2 hc.2.1 hc.2.2.2 hy (by omega) (by omega)⟩
theorem sm_close {sh : Int → Int} {ns : Int} (h0 : 0 < ns) (h1 : sh (ns - 1) = 0) : sm (zup sh (ns - 1) 1) ns.toNat = sm sh ns.toNat + 1 := by
  obtain ⟨k, e⟩ : ∃ k : Nat, ns.toNat = k + 1 := ⟨ns.toNat - 1, by omega⟩
  rw [e]
  show sm (zup sh (ns - 1) 1) k + zup sh (ns - 1) 1 (k : Int) = sm sh k + sh (k : Int) + 1
  rw [show (k : Int) = ns - 1 by omega, zup_s, h1, sm_cg k (l2 := sh) (fun j j0 j1 => zup_n (by omega))]
  omega
theorem LwP_close {px py fs sh : Int → Int} {pcp : Nat} {np ns no : Int} {X0 Y0 BG GO : Int → Int} (h : LwP px py fs sh pcp np ns no X0 Y0 BG GO) (ho : 0 < ns ∧ sh (ns - 1) = 0) : LwP px py fs (zup sh (ns - 1) 1) pcp np ns (no + 1) X0 Y0 BG GO := by
  obtain ⟨⟨a1, a2, a3, a4, a5, a6, a7⟩, b1, b2, b3, b4, b5⟩ := h
  refine ⟨⟨a1, a2, a3, a4, a5, ?_, a7⟩, b1, b2, b3, b4, ?_⟩
  · intro j
    by_cases e : j = ns - 1
    · rw [e]; exact Or.inr (zup_s _ _ _)
    · rw [zup_n e]; exact a6 j
  · rw [sm_close ho.1 ho.2, b5]
theorem LwP_clear {px py fs sh : Int → Int} {pcp : Nat} {np ns no : Int} {X0 Y0 BG GO : Int → Int} (h : LwP px py fs sh pcp np ns no X0 Y0 BG GO) : LwP px py fs sh pcp 0 0 0 X0 Y0 BG GO := by
  obtain ⟨⟨a1, a2, a3, a4, a5, a6, a7⟩, -⟩ := h
  exact ⟨⟨by omega, fun s q r => by omega, by omega, a4, fun j q r => by omega, a6, fun _ => rfl⟩, fun j q r => by omega, fun j q r => by omega, fun q => by omega, fun j q r => by omega, rfl⟩
theorem LwP_0 : LwP (fun _ => 0) (fun _ => 0) (fun _ => 0) (fun _ => 0) 16 0 0 0 (fun _ => 0) (fun _ => 0) (fun _ => 0) (fun _ => 0) :=
  ⟨⟨by omega, fun s q r => by omega, by omega, Or.inl rfl, fun j q r => by omega, fun _ => Or.inl rfl, fun _ => rfl⟩, fun j q r => by omega, fun j q r => by omega, fun q => by omega, fun j q r => by omega, rfl⟩
/-- what the reference's questions want -/
theorem LwP_W {px py fs sh ln : Int → Int} {pcp : Nat} {np ns no hf cp jn lm nd ph wl : Int} {X0 Y0 BG GO : Int → Int} (h : LwP px py fs sh pcp np ns no X0 Y0 BG GO) (hq : penI hf cp jn lm nd ph wl ln) : WMf X0 Y0 (fsM BG) sh ns np hf nd ln wl ph = WMf px py fs sh ns np hf nd ln wl ph :=
  (WMf_cg h.1 hq h.2.1 (fun s a b => ⟨h.2.2.1 s a b, rfl⟩) (fun _ _ _ => rfl)).symm
theorem LwP_pt {px py fs sh : Int → Int} {pcp : Nat} {np ns no : Int} {X0 Y0 BG GO : Int → Int} (h : LwP px py fs sh pcp np ns no X0 Y0 BG GO) : ∀ s, 0 ≤ s → s < ns → 0 ≤ (fsM BG) s ∧ (fsM BG) s < BG (s + 1) ∧ BG (s + 1) ≤ np := by
  intro s s0 s1
  obtain ⟨⟨a1, a2, a3, a4, a5, a6, a7⟩, b1, b2, b3, b4, b5⟩ := h
  have q := a2 s s0 s1
  have e : bvF fs ns np s = BG (s + 1) := by
    unfold bvF
    by_cases z : s + 1 < ns
    · rw [if_pos z, b2 (s + 1) (by omega) z]
      unfold fsM
      rw [if_neg (by omega)]
    · rw [if_neg z, show s + 1 = ns by omega, b3 (by omega)]
  rw [e, b2 s s0 s1] at q
  exact q
theorem LwP_co {px py fs sh : Int → Int} {pcp : Nat} {np ns no : Int} {X0 Y0 BG GO : Int → Int} (h : LwP px py fs sh pcp np ns no X0 Y0 BG GO) : ∀ j, 0 ≤ j → j < np → coP (X0 j) ∧ coP (Y0 j) := by
  intro j j0 j1
  have q := h.2.1 j j0 j1
  rw [← q.1, ← q.2]
  exact h.1.2.2.2.2.1 j j0 j1
/-- pens -/
theorem LQ_pen {mw cp jn lm nd ph wl p1 p2 p3 p4 : Int} {ln : Int → Int} (h : penI (8 * mw) cp jn lm nd ph wl ln) (hp : (1 ≤ p1 ∧ p1 ≤ 4096) ∧ (0 ≤ p2 ∧ p2 ≤ 2) ∧ (0 ≤ p3 ∧ p3 ≤ 2) ∧ (64 ≤ p4 ∧ p4 ≤ 8192)) : penI (8 * p1) p2 p3 p4 nd ph wl ln := by
  obtain ⟨a1, a2, a3, a4, a5, a6, a7, a8⟩ := h
  exact ⟨by omega, hp.2.1, hp.2.2.1, hp.2.2.2, a5, a6, a7, a8⟩
theorem LQ_dash {hf cp jn lm nd ph wl p1 : Int} {ln : Int → Int} (h : penI hf cp jn lm nd ph wl ln) (hp : 0 ≤ p1 ∧ p1 ≤ 8192) (hn : nd < 8) : penI hf cp jn lm (nd + 1) ph (wl + p1) (zup ln nd p1) := by
  obtain ⟨a1, a2, a3, a4, a5, a6, a7, a8⟩ := h
  refine ⟨a1, a2, a3, a4, by omega, ?_, ?_, a8⟩
  · intro j j0 j1
    by_cases e : j = nd
    · rw [e, zup_s]; exact hp
    · rw [zup_n e]; exact a6 j j0 (by omega)
  · rw [show (nd + 1).toNat = nd.toNat + 1 by omega]
    show wl + p1 = sm (zup ln nd p1) nd.toNat + zup ln nd p1 ((nd.toNat : Nat) : Int)
    rw [show ((nd.toNat : Nat) : Int) = nd by omega, zup_s, sm_cg nd.toNat (l2 := ln) (fun j j0 j1 => zup_n (by omega)), a7]
theorem LQ_plain {hf cp jn lm nd ph wl p1 : Int} {ln : Int → Int} (h : penI hf cp jn lm nd ph wl ln) (hp : 0 ≤ p1 ∧ p1 ≤ 65535) : penI hf cp jn lm 0 p1 0 ln := by
  obtain ⟨a1, a2, a3, a4, a5, a6, a7, a8⟩ := h
  exact ⟨a1, a2, a3, a4, by omega, fun j q r => by omega, rfl, hp⟩
theorem LQ_0 : penI (8 * 64) 0 0 640 0 0 0 (fun _ => 0) := ⟨by omega, by omega, by omega, by omega, by omega, fun j q r => by omega, rfl, by omega⟩

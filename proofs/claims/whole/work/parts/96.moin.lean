/-! the reference: points in shapes -/
theorem side_bd2 {xs ys : Int → Int} {nc i x y : Int} (hx : coB xs nc) (hy : coB ys nc) (h0 : 0 ≤ i) (h1 : i < nc) (px : -300000 ≤ x ∧ x ≤ 300000) (py : -300000 ≤ y ∧ y ≤ 300000) : -2000000000000000000 ≤ side xs ys nc i x y ∧ side xs ys nc i x y ≤ 2000000000000000000 := by
  have n := nxt_in h0 h1
  have a1 := hx i h0 h1
  have a2 := hx _ n.1 n.2
  have b1 := hy i h0 h1
  have b2 := hy _ n.1 n.2
  unfold side
  have m1 := mul_bd (a := xs (nxt nc i) - xs i) (b := y - ys i) (A := 1200000000) (B := 600300000) (by omega) (by omega)
  have m2 := mul_bd (a := ys (nxt nc i) - ys i) (b := x - xs i) (A := 1200000000) (B := 600300000) (by omega) (by omega)
  omega
/-- all the sides so far are not below, not above -/
def sdA (xs ys : Int → Int) (nc x y k z : Int) : Prop := (z = 1 ∧ ∀ i, 0 ≤ i → i < k → 0 ≤ side xs ys nc i x y) ∨ (z = 0 ∧ ¬ ∀ i, 0 ≤ i → i < k → 0 ≤ side xs ys nc i x y)
def sdB (xs ys : Int → Int) (nc x y k z : Int) : Prop := (z = 1 ∧ ∀ i, 0 ≤ i → i < k → side xs ys nc i x y ≤ 0) ∨ (z = 0 ∧ ¬ ∀ i, 0 ≤ i → i < k → side xs ys nc i x y ≤ 0)
theorem sdA_0 {xs ys : Int → Int} {nc x y : Int} : sdA xs ys nc x y 0 1 := Or.inl ⟨rfl, fun i a b => by omega⟩
theorem sdB_0 {xs ys : Int → Int} {nc x y : Int} : sdB xs ys nc x y 0 1 := Or.inl ⟨rfl, fun i a b => by omega⟩
theorem sdA_1 {xs ys : Int → Int} {nc x y k z : Int} (h : sdA xs ys nc x y k z) (hz : ¬ z = 0) (hs : 0 ≤ side xs ys nc k x y) : sdA xs ys nc x y (k + 1) 1 := by
  have h := (h.resolve_right (fun q => hz q.1)).2
  exact Or.inl ⟨rfl, fun i a b => if e : i = k then by rw [e]; exact hs else h i a (by omega)⟩
theorem sdA_n {xs ys : Int → Int} {nc x y k z : Int} (hk : 0 ≤ k) (h : sdA xs ys nc x y k z) (hz : z = 0 ∨ ¬ 0 ≤ side xs ys nc k x y) : sdA xs ys nc x y (k + 1) 0 := by
  refine Or.inr ⟨rfl, fun q => ?_⟩
  rcases hz with e | e
  · rcases h with h | h
    · omega
    · exact h.2 (fun i a b => q i a (by omega))
  · exact e (q k hk (by omega))
theorem sdB_1 {xs ys : Int → Int} {nc x y k z : Int} (h : sdB xs ys nc x y k z) (hz : ¬ z = 0) (hs : side xs ys nc k x y ≤ 0) : sdB xs ys nc x y (k + 1) 1 := by
  have h := (h.resolve_right (fun q => hz q.1)).2
  exact Or.inl ⟨rfl, fun i a b => if e : i = k then by rw [e]; exact hs else h i a (by omega)⟩
theorem sdB_n {xs ys : Int → Int} {nc x y k z : Int} (hk : 0 ≤ k) (h : sdB xs ys nc x y k z) (hz : z = 0 ∨ ¬ side xs ys nc k x y ≤ 0) : sdB xs ys nc x y (k + 1) 0 := by
  refine Or.inr ⟨rfl, fun q => ?_⟩
  rcases hz with e | e
  · rcases h with h | h
    · omega
    · exact h.2 (fun i a b => q i a (by omega))
  · exact e (q k hk (by omega))
theorem sdA_b {xs ys : Int → Int} {nc x y k z : Int} (h : sdA xs ys nc x y k z) : z = 0 ∨ z = 1 := by rcases h with h | h <;> omega
theorem sdB_b {xs ys : Int → Int} {nc x y k z : Int} (h : sdB xs ys nc x y k z) : z = 0 ∨ z = 1 := by rcases h with h | h <;> omega
theorem sd_in {xs ys : Int → Int} {nc x y a b : Int} (ha : sdA xs ys nc x y nc a) (hb : sdB xs ys nc x y nc b) : (¬ a = 0 ∨ ¬ b = 0 → inPg xs ys nc x y) ∧ (a = 0 → b = 0 → ¬ inPg xs ys nc x y) := by
  constructor
  · rintro (q | q)
    · exact Or.inl (ha.resolve_right (fun z => q z.1)).2
    · exact Or.inr (hb.resolve_right (fun z => q z.1)).2
  · intro p q h
    rcases h with h | h
    · rcases ha with z | z
      · omega
      · exact z.2 h
    · rcases hb with z | z
      · omega
      · exact z.2 h
theorem bool_iff {z : Int} {P Q : Prop} (h : z = 1 ∧ P ∨ z = 0 ∧ ¬ P) (e : P ↔ Q) : z = 1 ∧ Q ∨ z = 0 ∧ ¬ Q := by
  rcases h with ⟨a, b⟩ | ⟨a, b⟩
  · exact Or.inl ⟨a, e.mp b⟩
  · exact Or.inr ⟨a, fun q => b (e.mpr q)⟩
theorem capM_0 {cp ex ey ox oy w H x y : Int} (h : cp = 0) : ¬ capM cp ex ey ox oy w H x y := by
  rintro (q | q) <;> omega
theorem capM_1 {cp ex ey ox oy w H x y : Int} (h : cp = 1) : discP ex ey H x y ↔ capM cp ex ey ox oy w H x y := by
  constructor
  · intro q; exact Or.inl ⟨h, q⟩
  · rintro (q | q)
    · exact q.2
    · omega
theorem capM_2 {cp ex ey ox oy w H x y : Int} (h : cp = 2) : sqP ex ey ox oy w x y ↔ capM cp ex ey ox oy w H x y := by
  constructor
  · intro q; exact Or.inr ⟨h, q⟩
  · rintro (q | q)
    · omega
    · exact q.2
theorem joinM_1 {jn lm vx vy o1 o2 p1 p2 H x y : Int} (h : jn = 1) : discP vx vy H x y ↔ joinM jn lm vx vy o1 o2 p1 p2 H x y := by
  constructor
  · intro q; exact Or.inl (Or.inl ⟨h, q⟩)
  · rintro (q | q)
    · rcases q with q | q
      · exact q.2
      · exact absurd h q.1
    · omega
theorem joinM_0 {jn lm vx vy o1 o2 p1 p2 H x y : Int} (h : ¬ jn = 1) (hs : o1 * p2 - o2 * p1 = 0) : ¬ joinM jn lm vx vy o1 o2 p1 p2 H x y := by
  rintro (q | q)
  · rcases q with q | q
    · exact h q.1
    · exact q.2.1 hs
  · exact q.2.1 hs
abbrev triP (vx vy o1 o2 p1 p2 x y : Int) : Prop := inPg (q4 vx (vx + mitS o1 o2 p1 p2 * o1) (vx + mitS o1 o2 p1 p2 * p1) 0) (q4 vy (vy + mitS o1 o2 p1 p2 * o2) (vy + mitS o1 o2 p1 p2 * p2) 0) 3 x y
theorem joinM_t {jn lm vx vy o1 o2 p1 p2 H x y : Int} (h : ¬ jn = 1) (hs : ¬ o1 * p2 - o2 * p1 = 0) (ht : triP vx vy o1 o2 p1 p2 x y) : joinM jn lm vx vy o1 o2 p1 p2 H x y := Or.inl (Or.inr ⟨h, hs, ht⟩)
theorem joinM_n {jn lm vx vy o1 o2 p1 p2 H x y : Int} (h : ¬ jn = 1) (ht : ¬ triP vx vy o1 o2 p1 p2 x y) (hm : ¬ (jn = 0 ∧ 8192 * (H * H) ≤ lm * lm * mitA (mitS o1 o2 p1 p2) o1 o2 p1 p2 H)) : ¬ joinM jn lm vx vy o1 o2 p1 p2 H x y := by
  rintro (q | q)
  · rcases q with q | q
    · exact h q.1
    · exact ht q.2.2
  · exact hm ⟨q.1, q.2.2.2.1⟩
theorem joinM_m {jn lm vx vy o1 o2 p1 p2 H x y : Int} (h : ¬ jn = 1) (hs : ¬ o1 * p2 - o2 * p1 = 0) (ht : ¬ triP vx vy o1 o2 p1 p2 x y) (hj : jn = 0) (hp : 0 < mitA (mitS o1 o2 p1 p2) o1 o2 p1 p2 H) (hm : 8192 * (H * H) ≤ lm * lm * mitA (mitS o1 o2 p1 p2) o1 o2 p1 p2 H) : inPg (q4 vx (vx + mitS o1 o2 p1 p2 * o1) (vx + ((mitS o1 o2 p1 p2 * o1 + mitS o1 o2 p1 p2 * p1) * (H * H)) / mitA (mitS o1 o2 p1 p2) o1 o2 p1 p2 H) (vx + mitS o1 o2 p1 p2 * p1))
    (q4 vy (vy + mitS o1 o2 p1 p2 * o2) (vy + ((mitS o1 o2 p1 p2 * o2 + mitS o1 o2 p1 p2 * p2) * (H * H)) / mitA (mitS o1 o2 p1 p2) o1 o2 p1 p2 H) (vy + mitS o1 o2 p1 p2 * p2)) 4 x y ↔ joinM jn lm vx vy o1 o2 p1 p2 H x y := by
  constructor
  · intro q; exact Or.inr ⟨hj, hs, hp, hm, q⟩
  · rintro (q | q)
    · rcases q with q | q
      · exact absurd q.1 h
      · exact absurd q.2.2 ht
    · exact q.2.2.2.2
theorem z5_at (f : Int → Int) (a b c d g : Int) : ∀ i, 0 ≤ i → i < 4 → zup (zup (zup (zup (zup f 0 a) 1 b) 2 g) 3 d) 2 c i = q4 a b c d i := by
  rw [i_4]
  unfold zup q4
  refine ⟨?_, ?_, ?_, ?_⟩ <;> simp
theorem zq5 {f g : Int → Int} {a b c d e a2 b2 c2 d2 e2 x y : Int} : inPg (zup (zup (zup (zup (zup f 0 a) 1 b) 2 e) 3 d) 2 c) (zup (zup (zup (zup (zup g 0 a2) 1 b2) 2 e2) 3 d2) 2 c2) 4 x y ↔ inPg (q4 a b c d) (q4 a2 b2 c2 d2) 4 x y := inPg_congr (by decide) (z5_at f a b c d e) (z5_at g a2 b2 c2 d2 e2)
theorem coB5 {f : Int → Int} {a b c d e : Int} (ha : nB a) (hb : nB b) (hc : nB c) (hd : nB d) : coB (zup (zup (zup (zup (zup f 0 a) 1 b) 2 e) 3 d) 2 c) 4 := by
  intro i h0 h1
  rw [z5_at f a b c d e i h0 h1]
  unfold q4
  unfold nB at *
  split
  · exact ha
  · split
    · exact hb
    · split
      · exact hc
      · exact hd
theorem mitA_pos {lm H A : Int} (hH : 8 ≤ H) (h : 8192 * (H * H) ≤ lm * lm * A) : 0 < A := by
  have h1 := Int.mul_le_mul hH hH (by decide) (show 0 ≤ H by omega)
  have h2 := sq_nn lm
  rcases Int.lt_or_le 0 A with q | q
  · exact q
  · have h3 : lm * lm * A ≤ 0 := by
      have h4 := Int.mul_le_mul_of_nonneg_left q h2
      omega
    omega
theorem mitS_sq {o1 o2 p1 p2 : Int} (h : ¬ o1 * p2 - o2 * p1 = 0) : mitS o1 o2 p1 p2 = 1 ∨ mitS o1 o2 p1 p2 = -1 := by
  unfold mitS
  rcases sign_3 (o1 * p2 - o2 * p1) with q | q | q <;> omega
theorem mitA_eq {s o1 o2 p1 p2 H : Int} (h : s = 1 ∨ s = -1) : mitA s o1 o2 p1 p2 H = H * H + o1 * p1 + o2 * p2 := by
  unfold mitA
  rcases h with rfl | rfl <;> grind

/-- what the rows hold, as numbers -/
def moB (a : MA) (N H : Int) : Prop := ∀ j, 0 ≤ j → j < N → pcB (a.1 j) (a.2.1 j) (a.2.2.1 j) (a.2.2.2.1 j) (a.2.2.2.2.1 j) (a.2.2.2.2.2.1 j) H ∧ ((a.ID j = 0 ∨ a.ID j = 1) ∧ (a.IL j = 0 ∨ a.IL j = 1) ∧ (a.IF j = 0 ∨ a.IF j = 1) ∧ -1 ≤ a.CA j ∧ a.CA j < N) ∧ (¬ a.ID j = 1 → -1 ≤ moX a j ∧ moX a j < N)
theorem moB_of {a : MA} {F : Int → Pc8} {N H : Int} (h : moR a F N (-1)) (hI : INV H N (-1) F) : moB a N H := by
  intro j j0 j1
  obtain ⟨⟨e1, e2, e3, e4, e5, e6⟩, ⟨g1, g2, g3, g4⟩, n1, n2, n3⟩ := h.2.2 j j0 j1
  obtain ⟨v1, v2, -⟩ := hI.2.2.2.2 j j0 j1
  refine ⟨?_, ⟨by omega, by omega, by omega, g4, ?_⟩, fun hd => ?_⟩
  · rw [e1, e2, e3, e4, e5, e6]; exact v1.1
  · by_cases q : 0 ≤ a.CA j
    · have := n2 q; omega
    · omega
  · unfold moX
    by_cases q : 0 ≤ a.CA j
    · rw [if_pos q]; have := n2 q; omega
    · rw [if_neg q]
      by_cases q2 : a.IL j = 1
      · rw [if_pos q2]; omega
      · rw [if_neg q2]
        have kd : pcKd (F j) = 0 := by
          rcases v2 with z | z
          · omega
          · omega
        have := n3 (by omega) kd
        omega
theorem moI_no {a : MA} {cp jn lm H k x y : Int} (nd : ¬ a.ID k = 1) (h1 : ¬ bodyP (a.1 k) (a.2.1 k) (a.2.2.1 k) (a.2.2.2.1 k) (a.2.2.2.2.1 k) (a.2.2.2.2.2.1 k) x y) (h2 : ¬ (a.IF k = 1 ∧ capM cp (a.1 k) (a.2.1 k) (a.2.2.2.2.1 k) (a.2.2.2.2.2.1 k) (-1) H x y)) (h3 : ¬ (a.IL k = 1 ∧ capM cp (a.2.2.1 k) (a.2.2.2.1 k) (a.2.2.2.2.1 k) (a.2.2.2.2.2.1 k) 1 H x y))
    (h4 : ¬ (0 ≤ moX a k ∧ joinM jn lm (a.2.2.1 k) (a.2.2.2.1 k) (a.2.2.2.2.1 k) (a.2.2.2.2.2.1 k) (a.2.2.2.2.1 (moX a k)) (a.2.2.2.2.2.1 (moX a k)) H x y)) : ¬ moI a cp jn lm H k x y := by
  rintro (q | ⟨-, q | q | q | q⟩)
  · exact nd q.1
  · exact h1 q
  · exact h2 q
  · exact h3 q
  · exact h4 q
/-- what the finding of pieces leaves -/
def moF (a : MA) (WM : Int × (Int → Pc8)) (p : Int) : Prop := (WM.1 ≤ 2000 ∧ p = WM.1 ∧ moR a WM.2 WM.1 (-1)) ∨ (2000 < WM.1 ∧ p = -2)
theorem moF_B {a : MA} {WM : Int × (Int → Pc8)} {p H : Int} (h : moF a WM p) (hI : INV H WM.1 (-1) WM.2) : moB a p H ∧ -2 ≤ p ∧ p ≤ 2000 := by
  rcases h with ⟨h1, h2, h3⟩ | ⟨h1, h2⟩
  · rw [h2]; exact ⟨moB_of h3 hI, by have := h3.1; omega, h1⟩
  · exact ⟨fun j j0 j1 => by omega, by omega, by omega⟩
theorem moF_yes {a : MA} {WM : Int × (Int → Pc8)} {p cp jn lm H k x y : Int} (h : moF a WM p) (hI : INV H WM.1 (-1) WM.2) (hcp : 0 ≤ cp ∧ cp ≤ 2) (h0 : 0 ≤ k) (h1 : k < p) (hk : moI a cp jn lm H k x y) : cvW cp jn lm H WM x y := by
  rcases h with ⟨g1, g2, g3⟩ | ⟨g1, g2⟩
  · exact ⟨g1, (mo_cover g3 hI hcp).mp ⟨k, h0, by omega, hk⟩⟩
  · omega
theorem moF_no {a : MA} {WM : Int × (Int → Pc8)} {p cp jn lm H x y : Int} (h : moF a WM p) (hI : INV H WM.1 (-1) WM.2) (hcp : 0 ≤ cp ∧ cp ≤ 2) (hk : ∀ k, 0 ≤ k → k < p → ¬ moI a cp jn lm H k x y) : ¬ cvW cp jn lm H WM x y := by
  rintro ⟨q1, q2⟩
  rcases h with ⟨g1, g2, g3⟩ | ⟨g1, g2⟩
  · obtain ⟨k, k0, k1, k2⟩ := (mo_cover g3 hI hcp).mpr q2
    exact hk k k0 (by omega) k2
  · omega

/-! what the reference covers: the same points -/
def capM (cp ex ey ox oy w H x y : Int) : Prop := (cp = 1 ∧ discP ex ey H x y) ∨ (cp = 2 ∧ sqP ex ey ox oy w x y)
def joinM (jn lm vx vy o1 o2 p1 p2 H x y : Int) : Prop := joinP jn vx vy o1 o2 p1 p2 H x y ∨ (jn = 0 ∧ mitP vx vy o1 o2 p1 p2 H lm x y)
def moX (a : MA) (k : Int) : Int := if 0 ≤ a.CA k then a.CA k else if a.IL k = 1 then -1 else k + 1
def moI (a : MA) (cp jn lm H k x y : Int) : Prop :=
  (a.ID k = 1 ∧ cp = 1 ∧ discP (a.1 k) (a.2.1 k) H x y) ∨ (¬ a.ID k = 1 ∧ (bodyP (a.1 k) (a.2.1 k) (a.2.2.1 k) (a.2.2.2.1 k) (a.2.2.2.2.1 k) (a.2.2.2.2.2.1 k) x y ∨ (a.IF k = 1 ∧ capM cp (a.1 k) (a.2.1 k) (a.2.2.2.2.1 k) (a.2.2.2.2.2.1 k) (-1) H x y) ∨ (a.IL k = 1 ∧ capM cp (a.2.2.1 k) (a.2.2.2.1 k) (a.2.2.2.2.1 k) (a.2.2.2.2.2.1 k) 1 H x y) ∨
    (0 ≤ moX a k ∧ joinM jn lm (a.2.2.1 k) (a.2.2.2.1 k) (a.2.2.2.2.1 k) (a.2.2.2.2.2.1 k) (a.2.2.2.2.1 (moX a k)) (a.2.2.2.2.2.1 (moX a k)) H x y)))
theorem mo_cover {a : MA} {F : Int → Pc8} {N cp jn lm H x y : Int} (h : moR a F N (-1)) (hI : INV H N (-1) F) (hcp : 0 ≤ cp ∧ cp ≤ 2) : (∃ k, 0 ≤ k ∧ k < N ∧ moI a cp jn lm H k x y) ↔ ∃ j, 0 ≤ j ∧ j < N ∧ shF F cp jn lm H j x y := by
  obtain ⟨h0, -, h2⟩ := h
  obtain ⟨-, -, -, -, hV⟩ := hI
  constructor
  · rintro ⟨k, k0, k1, hk⟩
    obtain ⟨⟨e1, e2, e3, e4, e5, e6⟩, ⟨g1, g2, g3, g4⟩, n1, n2, n3⟩ := h2 k k0 k1
    obtain ⟨v1, v2, v3⟩ := hV k k0 k1
    rcases hk with ⟨d, hc, hd⟩ | ⟨d, hb | hf | hl | ⟨x0, hj⟩⟩
    · have kd : pcKd (F k) = 2 := by omega
      refine ⟨k, k0, k1, Or.inr (Or.inl (Or.inl ⟨?_, Or.inl ⟨hc, ?_⟩⟩))⟩
      · show pcBf (F k) < 0
        rcases v2 with q | q
        · rw [q.2.1]; decide
        · omega
      · show discP (F k).1 (F k).2.1 H x y
        rw [← e1, ← e2]; exact hd
    · refine ⟨k, k0, k1, Or.inl ?_⟩
      show bodyP (F k).1 (F k).2.1 (F k).2.2.1 (F k).2.2.2.1 (F k).2.2.2.2.1 (F k).2.2.2.2.2.1 x y
      rw [← e1, ← e2, ← e3, ← e4, ← e5, ← e6]; exact hb
    · have q : pcBf (F k) < 0 ∧ ¬ pcKd (F k) = 2 := by omega
      refine ⟨k, k0, k1, Or.inr (Or.inl (Or.inl ⟨q.1, ?_⟩))⟩
      show capP1 cp (pcKd (F k)) (F k).1 (F k).2.1 (F k).2.2.2.2.1 (F k).2.2.2.2.2.1 (-1) H x y
      rw [← e1, ← e2, ← e5, ← e6]
      rcases hf.2 with z | z
      · exact Or.inl z
      · exact Or.inr ⟨z.1, q.2, z.2⟩
    · have q : pcKd (F k) = 1 := by omega
      refine ⟨k, k0, k1, Or.inr (Or.inl (Or.inr ⟨q, ?_⟩))⟩
      show capP1 cp (pcKd (F k)) (F k).2.2.1 (F k).2.2.2.1 (F k).2.2.2.2.1 (F k).2.2.2.2.2.1 1 H x y
      rw [← e3, ← e4, ← e5, ← e6]
      rcases hl.2 with z | z
      · exact Or.inl z
      · exact Or.inr ⟨z.1, by omega, z.2⟩
    · have key : 0 ≤ moX a k ∧ moX a k < N ∧ pcBf (F (moX a k)) = k := by
        unfold moX at x0 ⊢
        by_cases q : 0 ≤ a.CA k
        · rw [if_pos q] at x0 ⊢
          have z := n2 q
          exact ⟨q, by omega, z.2.1⟩
        · rw [if_neg q] at x0 ⊢
          by_cases q2 : a.IL k = 1
          · rw [if_pos q2] at x0; omega
          · rw [if_neg q2] at x0 ⊢
            have kd : pcKd (F k) = 0 := by
              rcases v2 with z | z
              · omega
              · omega
            rcases n3 (by omega) kd with z | z
            · omega
            · exact ⟨x0, z.1, z.2⟩
      generalize moX a k = n at x0 hj key
      obtain ⟨m1, m2, m3⟩ := key
      obtain ⟨⟨-, -, -, -, q5, q6⟩, -⟩ := h2 n m1 m2
      obtain ⟨-, -, w1, w2, w3⟩ := hV n m1 m2
      rw [m3] at w3
      have w := w3 k0
      rw [e3, e4, e5, e6, q5, q6, w.1, w.2] at hj
      have hb0 : 0 ≤ pcBf (F n) := by omega
      refine ⟨n, m1, m2, ?_⟩
      rcases hj with z | z
      · refine Or.inr (Or.inr (Or.inl ⟨hb0, ?_⟩))
        show joinP jn (F n).1 (F n).2.1 (F (pcBf (F n))).2.2.2.2.1 (F (pcBf (F n))).2.2.2.2.2.1 (F n).2.2.2.2.1 (F n).2.2.2.2.2.1 H x y
        rw [m3]; exact z
      · refine Or.inr (Or.inr (Or.inr ⟨z.1, hb0, ?_⟩))
        show mitP (F n).1 (F n).2.1 (F (pcBf (F n))).2.2.2.2.1 (F (pcBf (F n))).2.2.2.2.2.1 (F n).2.2.2.2.1 (F n).2.2.2.2.2.1 H lm x y
        rw [m3]; exact z.2
  · rintro ⟨n, m1, m2, hn⟩
    obtain ⟨⟨e1, e2, e3, e4, e5, e6⟩, ⟨g1, g2, g3, g4⟩, n1, n2, n3⟩ := h2 n m1 m2
    obtain ⟨v1, v2, w1, w2, w3⟩ := hV n m1 m2
    have join : 0 ≤ pcBf (F n) → joinM jn lm (F n).1 (F n).2.1 (F (pcBf (F n))).2.2.2.2.1 (F (pcBf (F n))).2.2.2.2.2.1 (F n).2.2.2.2.1 (F n).2.2.2.2.2.1 H x y → ∃ k, 0 ≤ k ∧ k < N ∧ moI a cp jn lm H k x y := by
      intro hb hj
      have w := w3 hb
      have key : ∃ k, pcBf (F n) = k ∧ 0 ≤ k ∧ k < N ∧ moX a k = n ∧ ¬ a.ID k = 1 := by
        rcases n1 hb with z | z
        · refine ⟨n - 1, z.1, by omega, by omega, ?_, ?_⟩
          · obtain ⟨-, ⟨-, y2, -, -⟩, -⟩ := h2 (n - 1) (by omega) (by omega)
            unfold moX
            rw [if_neg (by omega), if_neg (by omega)]
            omega
          · obtain ⟨-, ⟨y1, -, -, -⟩, -⟩ := h2 (n - 1) (by omega) (by omega)
            omega
        · refine ⟨pcBf (F n), rfl, hb, z.2.2, ?_, ?_⟩
          · unfold moX
            rw [if_pos (by omega), z.1]
          · obtain ⟨-, ⟨y1, -, -, -⟩, -, y3, -⟩ := h2 (pcBf (F n)) hb z.2.2
            have := y3 (by omega)
            omega
      obtain ⟨k, kb, k0, k1, kx, kd⟩ := key
      obtain ⟨⟨-, -, q3, q4, q5, q6⟩, -⟩ := h2 k k0 k1
      refine ⟨k, k0, k1, Or.inr ⟨kd, Or.inr (Or.inr (Or.inr ⟨by omega, ?_⟩))⟩⟩
      rw [kx, q3, q4, q5, q6, e5, e6]
      rw [kb] at w hj
      rw [w.1, w.2]
      exact hj
    rcases hn with hb | (⟨hf, hc⟩ | ⟨hl, hc⟩) | ⟨hb, hj⟩ | ⟨hj0, hb, hj⟩
    · have hb : bodyP (F n).1 (F n).2.1 (F n).2.2.1 (F n).2.2.2.1 (F n).2.2.2.2.1 (F n).2.2.2.2.2.1 x y := hb
      have nd : ¬ a.ID n = 1 := by
        intro q
        rcases v2 with z | z
        · exact hb.1 ⟨z.2.2.1, z.2.2.2⟩
        · omega
      rw [← e1, ← e2, ← e3, ← e4, ← e5, ← e6] at hb
      exact ⟨n, m1, m2, Or.inr ⟨nd, Or.inl hb⟩⟩
    · have hf : pcBf (F n) < 0 := hf
      have hc : capP1 cp (pcKd (F n)) (F n).1 (F n).2.1 (F n).2.2.2.2.1 (F n).2.2.2.2.2.1 (-1) H x y := hc
      rw [← e1, ← e2, ← e5, ← e6] at hc
      by_cases kd : pcKd (F n) = 2
      · rcases hc with z | z
        · exact ⟨n, m1, m2, Or.inl ⟨by omega, z.1, z.2⟩⟩
        · exact absurd kd z.2.1
      · refine ⟨n, m1, m2, Or.inr ⟨by omega, Or.inr (Or.inl ⟨by omega, ?_⟩)⟩⟩
        rcases hc with z | z
        · exact Or.inl z
        · exact Or.inr ⟨z.1, z.2.2⟩
    · have hl : pcKd (F n) = 1 := hl
      have hc : capP1 cp (pcKd (F n)) (F n).2.2.1 (F n).2.2.2.1 (F n).2.2.2.2.1 (F n).2.2.2.2.2.1 1 H x y := hc
      rw [← e3, ← e4, ← e5, ← e6] at hc
      refine ⟨n, m1, m2, Or.inr ⟨by omega, Or.inr (Or.inr (Or.inl ⟨by omega, ?_⟩))⟩⟩
      rcases hc with z | z
      · exact Or.inl z
      · exact Or.inr ⟨z.1, z.2.2⟩
    · exact join hb (Or.inl hj)
    · exact join hb (Or.inr ⟨hj0, hj⟩)

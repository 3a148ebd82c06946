/-! the pieces, as a mathematical value: how many, the last of the chain that goes on, and each piece -/
abbrev Pc8 : Type := Int × Int × Int × Int × Int × Int × Int × Int
def fup (F : Int → Pc8) (N : Int) (v : Pc8) : Int → Pc8 := fun j => if j = N then v else F j
def fkd (v : Pc8) (k : Int) : Pc8 := (v.1, v.2.1, v.2.2.1, v.2.2.2.1, v.2.2.2.2.1, v.2.2.2.2.2.1, v.2.2.2.2.2.2.1, k)
def fbf (v : Pc8) (k : Int) : Pc8 := (v.1, v.2.1, v.2.2.1, v.2.2.2.1, v.2.2.2.2.1, v.2.2.2.2.2.1, k, v.2.2.2.2.2.2.2)
def fend (F : Int → Pc8) (L k : Int) : Int → Pc8 := if 0 ≤ L then fup F L (fkd (F L) k) else F
def rpC (f1 f2 f3 f4 f5 f6 f7 f8 : Int → Int) (F : Int → Pc8) (N : Int) : Prop := ∀ j, 0 ≤ j → j < N → (f1 j, f2 j, f3 j, f4 j, f5 j, f6 j, f7 j, f8 j) = F j
/-- where the rows stand: they hold the pieces, or there are too many -/
def wkS (f1 f2 f3 f4 f5 f6 f7 f8 : Int → Int) (hd fu la N L : Int) (F : Int → Pc8) : Prop := (fu = 0 ∧ hd = N ∧ la = L ∧ 0 ≤ N ∧ N ≤ 2000 ∧ -1 ≤ L ∧ L < N ∧ rpC f1 f2 f3 f4 f5 f6 f7 f8 F N) ∨ (fu = 1 ∧ hd = 0 ∧ la = -1 ∧ 2000 < N)
theorem wk_add {f1 f2 f3 f4 f5 f6 f7 f8 g1 g2 g3 g4 g5 g6 g7 g8 : Int → Int} {hd fu la hd2 fu2 la2 N L v1 v2 v3 v4 v5 v6 : Int} {F : Int → Pc8} (h : wkS f1 f2 f3 f4 f5 f6 f7 f8 hd fu la N L F) (hfu : fu = 0)
    (hp : (hd < 2000 ∧ fu2 = 0 ∧ hd2 = hd + 1 ∧ la2 = hd ∧ (∀ j, 0 ≤ j → j < hd → g1 j = f1 j) ∧ g1 hd = v1 ∧ (∀ j, 0 ≤ j → j < hd → g2 j = f2 j) ∧ g2 hd = v2 ∧ (∀ j, 0 ≤ j → j < hd → g3 j = f3 j) ∧ g3 hd = v3 ∧ (∀ j, 0 ≤ j → j < hd → g4 j = f4 j) ∧ g4 hd = v4 ∧ (∀ j, 0 ≤ j → j < hd → g5 j = f5 j) ∧ g5 hd = v5 ∧ (∀ j, 0 ≤ j → j < hd → g6 j = f6 j) ∧ g6 hd = v6 ∧ (∀ j, 0 ≤ j → j < hd → g7 j = f7 j) ∧ g7 hd = la ∧ (∀ j, 0 ≤ j → j < hd → g8 j = f8 j) ∧ g8 hd = 0) ∨ (hd = 2000 ∧ fu2 = 1 ∧ hd2 = 0 ∧ la2 = -1)) : wkS g1 g2 g3 g4 g5 g6 g7 g8 hd2 fu2 la2 (N + 1) N (fup F N (v1, v2, v3, v4, v5, v6, L, 0)) := by
  rcases h with ⟨-, e1, e2, h0, h1, h2, h3, hr⟩ | ⟨q, -⟩
  · subst e1 e2
    rcases hp with ⟨p0, pf, ph, pl, a1, b1, a2, b2, a3, b3, a4, b4, a5, b5, a6, b6, a7, b7, a8, b8⟩ | ⟨p0, p1, p2, p3⟩
    · refine Or.inl ⟨pf, ph, pl, by omega, by omega, by omega, by omega, ?_⟩
      intro j j0 j1
      unfold fup
      by_cases e : j = hd
      · rw [if_pos e, e, b1, b2, b3, b4, b5, b6, b7, b8]
      · rw [if_neg e, a1 j j0 (by omega), a2 j j0 (by omega), a3 j j0 (by omega), a4 j j0 (by omega), a5 j j0 (by omega), a6 j j0 (by omega), a7 j j0 (by omega), a8 j j0 (by omega)]
        exact hr j j0 (by omega)
    · exact Or.inr ⟨p1, p2, p3, by omega⟩
  · omega
theorem wk_end {f1 f2 f3 f4 f5 f6 f7 f8 : Int → Int} {hd fu la N L k : Int} {F : Int → Pc8} (h : wkS f1 f2 f3 f4 f5 f6 f7 f8 hd fu la N L F) : wkS f1 f2 f3 f4 f5 f6 f7 (if 0 ≤ la then zup f8 la k else f8) hd fu (-1) N (-1) (fend F L k) := by
  rcases h with ⟨q, e1, e2, h0, h1, h2, h3, hr⟩ | ⟨q1, q2, q3, q4⟩
  · subst e1 e2
    refine Or.inl ⟨q, rfl, rfl, h0, h1, by omega, by omega, ?_⟩
    unfold fend
    split
    · intro j j0 j1
      unfold fup zup
      by_cases e : j = la
      · rw [if_pos e, if_pos e]
        have h9 := hr la (by omega) (by omega)
        rw [← h9, e]
        rfl
      · rw [if_neg e, if_neg e]
        exact hr j j0 j1
    · exact hr
  · exact Or.inr ⟨q1, q2, rfl, q4⟩
theorem wk_la {f1 f2 f3 f4 f5 f6 f7 f8 : Int → Int} {hd fu la N L : Int} {F : Int → Pc8} (h : wkS f1 f2 f3 f4 f5 f6 f7 f8 hd fu la N L F) : -1 ≤ la ∧ la < 2000 ∧ 0 ≤ hd ∧ hd ≤ 2000 ∧ (fu = 0 ∨ fu = 1) := by
  rcases h with h | h <;> omega
/-- how the rows of the pieces grow as k more come behind h -/
def capN (cap : Nat) (h : Int) : Nat → Nat
  | 0 => cap
  | k + 1 => gP (h + k) (capN cap h k)
theorem capN_mono {cap : Nat} {h : Int} (k : Nat) : capN cap h k ≤ capN cap h (k + 1) := by
  show capN cap h k ≤ gP (h + k) (capN cap h k)
  unfold gP
  split
  · exact Nat.le_refl _
  · rename_i q
    omega

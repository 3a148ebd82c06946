/-! polygons: sides, areas, and which columns of a row they hold -/
def nxt (nc i : Int) : Int := if i + 1 < nc then i + 1 else 0
def side (xs ys : Int → Int) (nc i x y : Int) : Int := (xs (nxt nc i) - xs i) * (y - ys i) - (ys (nxt nc i) - ys i) * (x - xs i)
def shoe (xs ys : Int → Int) (nc : Int) : Nat → Int
  | 0 => 0
  | k + 1 => shoe xs ys nc k + (xs k * ys (nxt nc k) - ys k * xs (nxt nc k))
theorem nxt_in {nc i : Int} (h0 : 0 ≤ i) (h1 : i < nc) : 0 ≤ nxt nc i ∧ nxt nc i < nc := by unfold nxt; split <;> omega
theorem mul_bd {a b A B : Int} (ha : -A ≤ a ∧ a ≤ A) (hb : -B ≤ b ∧ b ≤ B) : -(A * B) ≤ a * b ∧ a * b ≤ A * B := by
  have h1 : a.natAbs * b.natAbs ≤ A.natAbs * B.natAbs := Nat.mul_le_mul (by omega) (by omega)
  have h2 : (a * b).natAbs = a.natAbs * b.natAbs := Int.natAbs_mul a b
  have h3 : ((A.natAbs * B.natAbs : Nat) : Int) = A * B := by
    rw [Int.natCast_mul, Int.natAbs_of_nonneg (by omega), Int.natAbs_of_nonneg (by omega)]
  omega
theorem tu_bd {t x M : Int} (ht : t = 1 ∨ t = -1) (h : -M ≤ x ∧ x ≤ M) : -M ≤ t * x ∧ t * x ≤ M := by
  rcases ht with rfl | rfl <;> omega
theorem col_eq (t dx dy y yi sx k tx xi : Int) : t * (dx * (y - yi) - dy * (sx + k * tx - xi)) = t * (dx * (y - yi) - dy * (sx - xi)) + k * ((-t) * dy * tx) := by grind
theorem col_pos {a m k : Int} (hm : 0 < m) : 0 ≤ a + k * m ↔ -(a / m) ≤ k := by
  have h := Int.le_ediv_iff_mul_le (a := -k) (b := a) hm
  rw [Int.neg_mul] at h
  omega
theorem col_neg {a m k : Int} (hm : m < 0) : 0 ≤ a + k * m ↔ k ≤ a / (-m) := by
  have h := Int.le_ediv_iff_mul_le (a := k) (b := a) (show 0 < -m by omega)
  rw [Int.mul_neg] at h
  omega
/-- the columns that the first i sides leave -/
def clI (xs ys : Int → Int) (nc tu sx tx y wd i fi la : Int) : Prop := ∀ k, 0 ≤ k → k < wd → ((fi ≤ k ∧ k ≤ la) ↔ ∀ j, 0 ≤ j → j < i → 0 ≤ tu * side xs ys nc j (sx + k * tx) y)
theorem clI_0 {xs ys : Int → Int} {nc tu sx tx y wd : Int} : clI xs ys nc tu sx tx y wd 0 0 (wd - 1) := fun k h0 h1 => ⟨fun _ j a b => by omega, fun _ => by omega⟩
theorem clI_s {xs ys : Int → Int} {nc tu sx tx y wd i fi la fi2 la2 : Int} (h : clI xs ys nc tu sx tx y wd i fi la) (h0 : 0 ≤ i) (hs : ∀ k, 0 ≤ k → k < wd → ((fi2 ≤ k ∧ k ≤ la2) ↔ ((fi ≤ k ∧ k ≤ la) ∧ 0 ≤ tu * side xs ys nc i (sx + k * tx) y))) : clI xs ys nc tu sx tx y wd (i + 1) fi2 la2 := by
  intro k a b
  rw [hs k a b, h k a b]
  constructor
  · rintro ⟨u, v⟩ j j0 j1
    by_cases e : j = i
    · rw [e]; exact v
    · exact u j j0 (by omega)
  · intro u
    exact ⟨fun j j0 j1 => u j j0 (by omega), u i h0 (by omega)⟩
/-- a polygon holds a point: it lies to one side of all sides -/
def inPg (xs ys : Int → Int) (nc x y : Int) : Prop := (∀ i, 0 ≤ i → i < nc → 0 ≤ side xs ys nc i x y) ∨ (∀ i, 0 ≤ i → i < nc → side xs ys nc i x y ≤ 0)
theorem shoe_3 (xs ys : Int → Int) (x y : Int) : shoe xs ys 3 3 = side xs ys 3 0 x y + side xs ys 3 1 x y + side xs ys 3 2 x y := by
  have e0 : nxt 3 0 = 1 := by decide
  have e1 : nxt 3 1 = 2 := by decide
  have e2 : nxt 3 2 = 0 := by decide
  simp only [shoe, side]
  simp only [Int.natCast_zero, Int.natCast_one, Int.cast_ofNat_Int, e0, e1, e2]
  grind
theorem shoe_4 (xs ys : Int → Int) (x y : Int) : shoe xs ys 4 4 = side xs ys 4 0 x y + side xs ys 4 1 x y + side xs ys 4 2 x y + side xs ys 4 3 x y := by
  have e0 : nxt 4 0 = 1 := by decide
  have e1 : nxt 4 1 = 2 := by decide
  have e2 : nxt 4 2 = 3 := by decide
  have e3 : nxt 4 3 = 0 := by decide
  simp only [shoe, side]
  simp only [Int.natCast_zero, Int.natCast_one, Int.cast_ofNat_Int, e0, e1, e2, e3]
  grind

/-! shapes of the stroke -/
def q4 (a b c d : Int) : Int → Int := fun i => if i = 0 then a else if i = 1 then b else if i = 2 then c else d
theorem inPg_congr {xs ys xs2 ys2 : Int → Int} {nc x y : Int} (hn : 1 ≤ nc) (hx : ∀ i, 0 ≤ i → i < nc → xs i = xs2 i) (hy : ∀ i, 0 ≤ i → i < nc → ys i = ys2 i) : inPg xs ys nc x y ↔ inPg xs2 ys2 nc x y := by
  have e : ∀ i, 0 ≤ i → i < nc → side xs ys nc i x y = side xs2 ys2 nc i x y := by
    intro i a b
    have n := nxt_in a b
    unfold side
    rw [hx i a b, hy i a b, hx _ n.1 n.2, hy _ n.1 n.2]
  unfold inPg
  constructor
  · rintro (h | h)
    · exact Or.inl (fun i a b => by rw [← e i a b]; exact h i a b)
    · exact Or.inr (fun i a b => by rw [← e i a b]; exact h i a b)
  · rintro (h | h)
    · exact Or.inl (fun i a b => by rw [e i a b]; exact h i a b)
    · exact Or.inr (fun i a b => by rw [e i a b]; exact h i a b)
theorem z4_at (f : Int → Int) (a b c d : Int) : ∀ i, 0 ≤ i → i < 4 → zup (zup (zup (zup f 0 a) 1 b) 2 c) 3 d i = q4 a b c d i := by
  rw [i_4]
  unfold zup q4
  refine ⟨?_, ?_, ?_, ?_⟩ <;> simp
theorem z3_at (f : Int → Int) (a b c : Int) : ∀ i, 0 ≤ i → i < 3 → zup (zup (zup f 0 a) 1 b) 2 c i = q4 a b c 0 i := by
  rw [i_3]
  unfold zup q4
  refine ⟨?_, ?_, ?_⟩ <;> simp
theorem zq4 {f g : Int → Int} {a b c d a2 b2 c2 d2 x y : Int} : inPg (zup (zup (zup (zup f 0 a) 1 b) 2 c) 3 d) (zup (zup (zup (zup g 0 a2) 1 b2) 2 c2) 3 d2) 4 x y ↔ inPg (q4 a b c d) (q4 a2 b2 c2 d2) 4 x y := inPg_congr (by decide) (z4_at f a b c d) (z4_at g a2 b2 c2 d2)
theorem zq3 {f g : Int → Int} {a b c a2 b2 c2 x y : Int} : inPg (zup (zup (zup f 0 a) 1 b) 2 c) (zup (zup (zup g 0 a2) 1 b2) 2 c2) 3 x y ↔ inPg (q4 a b c 0) (q4 a2 b2 c2 0) 3 x y := inPg_congr (by decide) (z3_at f a b c) (z3_at g a2 b2 c2)
def nB (a : Int) : Prop := -600000000 ≤ a ∧ a ≤ 600000000
theorem coB4 {f : Int → Int} {a b c d : Int} (ha : nB a) (hb : nB b) (hc : nB c) (hd : nB d) : coB (zup (zup (zup (zup f 0 a) 1 b) 2 c) 3 d) 4 := by
  intro i h0 h1
  rw [z4_at f a b c d i h0 h1]
  unfold q4
  unfold nB at *
  split
  · exact ha
  · split
    · exact hb
    · split
      · exact hc
      · exact hd
theorem coB3 {f : Int → Int} {a b c : Int} (ha : nB a) (hb : nB b) (hc : nB c) : coB (zup (zup (zup f 0 a) 1 b) 2 c) 3 := by
  intro i h0 h1
  rw [z3_at f a b c i h0 h1]
  unfold q4
  unfold nB at *
  split
  · exact ha
  · split
    · exact hb
    · split
      · exact hc
      · omega
/-- the bounds of a piece: its ends, its offset, H -/
def pcB (a b c d e f H : Int) : Prop := (-140000 ≤ a ∧ a ≤ 140000) ∧ (-140000 ≤ b ∧ b ≤ 140000) ∧ (-140000 ≤ c ∧ c ≤ 140000) ∧ (-140000 ≤ d ∧ d ≤ 140000) ∧ (-H ≤ e ∧ e ≤ H) ∧ (-H ≤ f ∧ f ≤ H) ∧ 8 ≤ H ∧ H ≤ 32768
/-- the body of a piece from A to B with the OFFSET o -/
def bodyP (ax ay bx bz ox oy x y : Int) : Prop := ¬ (ax = bx ∧ ay = bz) ∧ inPg (q4 (ax + ox) (bx + ox) (bx - ox) (ax - ox)) (q4 (ay + oy) (bz + oy) (bz - oy) (ay - oy)) 4 x y
def discP (ex ey H x y : Int) : Prop := (x - ex) * (x - ex) + (y - ey) * (y - ey) ≤ H * H
/-- a square cap at E, f being FORWARD of o times w -/
def sqP (ex ey ox oy w x y : Int) : Prop := inPg (q4 (ex + ox) (ex + ox + -oy * w) (ex - ox + -oy * w) (ex - ox)) (q4 (ey + oy) (ey + oy + ox * w) (ey - oy + ox * w) (ey - oy)) 4 x y
theorem rwI_tr {g g1 rw : Nat → Int64} {hi wd : Int} {In1 In2 : Int → Int → Prop} (h1 : rwI g1 rw hi wd (fun _ => True) In1) (h2 : rwI g g1 hi wd (fun _ => True) In2) : rwI g rw hi wd (fun _ => True) (fun k i => In1 k i ∨ In2 k i) := by
  intro i a k k0 k1
  rw [h2 i a k k0 k1, h1 i a k k0 k1]
  constructor
  · rintro ((u | ⟨_, u, v⟩) | ⟨_, u, v⟩)
    · exact Or.inl u
    · exact Or.inr ⟨trivial, u, Or.inl v⟩
    · exact Or.inr ⟨trivial, u, Or.inr v⟩
  · rintro (u | ⟨_, u, v | v⟩)
    · exact Or.inl (Or.inl u)
    · exact Or.inl (Or.inr ⟨trivial, u, v⟩)
    · exact Or.inr ⟨trivial, u, v⟩
theorem rwI_cg {g rw : Nat → Int64} {hi wd : Int} {Q : Int → Prop} {In1 In2 : Int → Int → Prop} (h1 : rwI g rw hi wd Q In1) (hc : ∀ k i : Int, 0 ≤ k → k < wd → 0 ≤ i → i < hi → (In1 k i ↔ In2 k i)) : rwI g rw hi wd Q In2 := by
  intro i a k k0 k1
  rw [h1 i a k k0 k1]
  constructor
  · rintro (u | ⟨u, v, w⟩)
    · exact Or.inl u
    · exact Or.inr ⟨u, v, (hc k i k0 v (by omega) a).mp w⟩
  · rintro (u | ⟨u, v, w⟩)
    · exact Or.inl u
    · exact Or.inr ⟨u, v, (hc k i k0 v (by omega) a).mpr w⟩
theorem rwI_n {rw : Nat → Int64} {hi wd : Int} {In : Int → Int → Prop} (h : ∀ k i : Int, 0 ≤ k → k < wd → 0 ≤ i → i < hi → ¬ In k i) : rwI rw rw hi wd (fun _ => True) In := rwI_0 (fun i h1 k k0 k1 _ => h k i k0 k1 (by omega) h1)

theorem body_zq {f g : Int → Int} {a b c d a2 b2 c2 d2 x y ax ay bx bz ox oy : Int} (hne : ¬ (ax = bx ∧ ay = bz)) (e0 : a = ax + ox) (e1 : b = bx + ox) (e2 : c = bx - ox) (e3 : d = ax - ox) (k0 : a2 = ay + oy) (k1 : b2 = bz + oy) (k2 : c2 = bz - oy) (k3 : d2 = ay - oy) : inPg (zup (zup (zup (zup f 0 a) 1 b) 2 c) 3 d) (zup (zup (zup (zup g 0 a2) 1 b2) 2 c2) 3 d2) 4 x y ↔ bodyP ax ay bx bz ox oy x y := by
  subst e0 e1 e2 e3 k0 k1 k2 k3
  exact zq4.trans ⟨fun h => ⟨hne, h⟩, fun h => h.2⟩
theorem cap_zq {f g : Int → Int} {a b c d a2 b2 c2 d2 x y ex ey ox oy w : Int} (e0 : a = ex + ox) (e1 : b = ex + ox + -oy * w) (e2 : c = ex - ox + -oy * w) (e3 : d = ex - ox) (k0 : a2 = ey + oy) (k1 : b2 = ey + oy + ox * w) (k2 : c2 = ey - oy + ox * w) (k3 : d2 = ey - oy) : inPg (zup (zup (zup (zup f 0 a) 1 b) 2 c) 3 d) (zup (zup (zup (zup g 0 a2) 1 b2) 2 c2) 3 d2) 4 x y ↔ sqP ex ey ox oy w x y := by
  subst e0 e1 e2 e3 k0 k1 k2 k3
  exact zq4
/-- a cap at E: round, or square (but not of a dot) -/
def capP1 (caps kind ex ey ox oy w H x y : Int) : Prop := (caps = 1 ∧ discP ex ey H x y) ∨ (caps = 2 ∧ ¬ kind = 2 ∧ sqP ex ey ox oy w x y)
/-- both caps of a piece -/
def capsP (caps bef kind ax ay bx bz ox oy H x y : Int) : Prop := (bef < 0 ∧ capP1 caps kind ax ay ox oy (-1) H x y) ∨ (kind = 1 ∧ capP1 caps kind bx bz ox oy 1 H x y)
/-- the triangle of a join, and a round one -/
def joinP (joins vx vy ox oy px py H x y : Int) : Prop := (joins = 1 ∧ discP vx vy H x y) ∨ (¬ joins = 1 ∧ ¬ ox * py - oy * px = 0 ∧ inPg (q4 vx (vx + Int.sign (ox * py - oy * px) * ox) (vx + Int.sign (ox * py - oy * px) * px) 0) (q4 vy (vy + Int.sign (ox * py - oy * px) * oy) (vy + Int.sign (ox * py - oy * px) * py) 0) 3 x y)
theorem join_zq {f g : Int → Int} {a b c a2 b2 c2 x y A B C A2 B2 C2 : Int} (e0 : a = A) (e1 : b = B) (e2 : c = C) (k0 : a2 = A2) (k1 : b2 = B2) (k2 : c2 = C2) : inPg (zup (zup (zup f 0 a) 1 b) 2 c) (zup (zup (zup g 0 a2) 1 b2) 2 c2) 3 x y ↔ inPg (q4 A B C 0) (q4 A2 B2 C2 0) 3 x y := by
  subst e0 e1 e2 k0 k1 k2
  exact zq3

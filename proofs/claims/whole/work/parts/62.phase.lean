/-! the phase -/
def phM (nd : Int) (ln : Int → Int) : Nat → Int → Int → Int → Int × Int × Int
  | 0, o, d, w => (o, d, w)
  | n + 1, o, d, w => if ln d ≤ o then phM nd ln n (o - ln d) (nxt nd d) (1 - w) else (o, d, w)
theorem phM_stop {nd : Int} {ln : Int → Int} {n : Nat} {o d w : Int} (h : ¬ ln d ≤ o) : phM nd ln n o d w = (o, d, w) := by
  cases n with
  | zero => rfl
  | succ n => unfold phM; rw [if_neg h]
theorem phM_go {nd : Int} {ln : Int → Int} {k o d w w2 : Int} (h0 : 0 ≤ k) (hk : k < 16) (h : ln d ≤ o) (hw : 1 - w = w2) : phM nd ln (16 - k).toNat o d w = phM nd ln (16 - (k + 1)).toNat (o - ln d) (nxt nd d) w2 := by
  subst hw
  have e : (16 - k).toNat = (16 - (k + 1)).toNat + 1 := by omega
  rw [e]
  show (if ln d ≤ o then _ else _) = _
  rw [if_pos h]
/-- two rounds later -/
theorem phM_sum {nd : Int} {ln : Int → Int} : ∀ (n m : Nat) (o d w : Int), (∀ o2 d2 w2, phM nd ln n o d w = (o2, d2, w2) → ln d2 ≤ o2 → True) → phM nd ln (n + m) o d w = phM nd ln m (phM nd ln n o d w).1 (phM nd ln n o d w).2.1 (phM nd ln n o d w).2.2 := by
  intro n
  induction n with
  | zero => intro m o d w _; rw [Nat.zero_add]; rfl
  | succ n ih =>
    intro m o d w hh
    rw [show n + 1 + m = (n + m) + 1 by omega]
    by_cases q : ln d ≤ o
    · have e1 : phM nd ln (n + m + 1) o d w = phM nd ln (n + m) (o - ln d) (nxt nd d) (1 - w) := if_pos q
      have e2 : phM nd ln (n + 1) o d w = phM nd ln n (o - ln d) (nxt nd d) (1 - w) := if_pos q
      rw [e1, e2]
      exact ih m _ _ _ (fun _ _ _ _ _ => True.intro)
    · rw [phM_stop q, phM_stop q, phM_stop q]

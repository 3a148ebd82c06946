theorem pcB_o {a b c d e f H : Int} (h : pcB a b c d e f H) : (-H ≤ e ∧ e ≤ H) ∧ (-H ≤ f ∧ f ≤ H) := ⟨h.2.2.2.2.1, h.2.2.2.2.2.1⟩
theorem pcB_4 {a b c d e f H : Int} (h : pcB a b c d e f H) : (-140000 ≤ a ∧ a ≤ 140000) ∧ (-140000 ≤ b ∧ b ≤ 140000) ∧ (-140000 ≤ c ∧ c ≤ 140000) ∧ (-140000 ≤ d ∧ d ≤ 140000) := ⟨h.1, h.2.1, h.2.2.1, h.2.2.2.1⟩
section ShC
variable {f1 f2 f3 f4 f5 f6 f7 f8 : Int → Int} {cp jn lm hf n x y : Int}
theorem shC_d (h : jn = 0) : (((bodyP (f1 n) (f2 n) (f3 n) (f4 n) (f5 n) (f6 n) x y ∨ capsP cp (f7 n) (f8 n) (f1 n) (f2 n) (f3 n) (f4 n) (f5 n) (f6 n) hf x y) ∨ (0 ≤ f7 n ∧ joinP jn (f1 n) (f2 n) (f5 (f7 n)) (f6 (f7 n)) (f5 n) (f6 n) hf x y)) ∨ (0 ≤ f7 n ∧ mitP (f1 n) (f2 n) (f5 (f7 n)) (f6 (f7 n)) (f5 n) (f6 n) hf lm x y)) ↔ shC f1 f2 f3 f4 f5 f6 f7 f8 cp jn lm hf n x y := by
  subst h
  unfold shC
  simp only [or_assoc, true_and]
theorem shC_c (h : ¬ jn = 0) : ((bodyP (f1 n) (f2 n) (f3 n) (f4 n) (f5 n) (f6 n) x y ∨ capsP cp (f7 n) (f8 n) (f1 n) (f2 n) (f3 n) (f4 n) (f5 n) (f6 n) hf x y) ∨ (0 ≤ f7 n ∧ joinP jn (f1 n) (f2 n) (f5 (f7 n)) (f6 (f7 n)) (f5 n) (f6 n) hf x y)) ↔ shC f1 f2 f3 f4 f5 f6 f7 f8 cp jn lm hf n x y := by
  unfold shC
  simp only [or_assoc, h, false_and, or_false]
theorem shC_far {hd : Int} (hV : pcV f1 f2 f3 f4 f5 f6 f7 f8 hf hd n) (hb : 0 ≤ f7 n → (-hf ≤ f5 (f7 n) ∧ f5 (f7 n) ≤ hf) ∧ (-hf ≤ f6 (f7 n) ∧ f6 (f7 n) ≤ hf)) (ho : outB x y (min (f1 n) (f3 n) - 2 * hf) (max (f1 n) (f3 n) + 2 * hf) (min (f2 n) (f4 n) - 2 * hf) (max (f2 n) (f4 n) + 2 * hf)) : (jn = 0 ∧ 0 ≤ f7 n ∧ mitP (f1 n) (f2 n) (f5 (f7 n)) (f6 (f7 n)) (f5 n) (f6 n) hf lm x y) ↔ shC f1 f2 f3 f4 f5 f6 f7 f8 cp jn lm hf n x y := by
  obtain ⟨v1, v2, v3, v4, v5⟩ := hV
  unfold shC
  constructor
  · exact fun h => Or.inr (Or.inr (Or.inr h))
  · rintro (h | h | h | h)
    · exact absurd h (body_far v1 v4 ho)
    · exact absurd h (caps_far v1 v5 ho)
    · exact absurd h.2 (join_far v1 (hb h.1).1 (hb h.1).2 ho)
    · exact h
end ShC
theorem rwI_ex {g g1 rw : Nat → Int64} {hi wd n : Int} {In : Int → Int → Prop} {P : Int → Int → Int → Prop} (hn : 0 ≤ n) (h : rwI g1 rw hi wd (fun _ => True) (fun k i => ∃ j, 0 ≤ j ∧ j < n ∧ P j k i)) (h2 : rwI g g1 hi wd (fun _ => True) In) (hc : ∀ k i : Int, 0 ≤ k → k < wd → 0 ≤ i → i < hi → (In k i ↔ P n k i)) : rwI g rw hi wd (fun _ => True) (fun k i => ∃ j, 0 ≤ j ∧ j < n + 1 ∧ P j k i) :=
  rwI_cg (rwI_tr h h2) (fun k i a b c d => (or_congr Iff.rfl (hc k i a b c d)).trans (ex_s hn).symm)
theorem rwI_rf {rw : Nat → Int64} {hi wd : Int} : rwI rw rw hi wd (fun _ => True) (fun _ _ => False) := rwI_n (fun _ _ _ _ _ _ h => h)

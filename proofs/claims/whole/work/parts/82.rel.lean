/-! the reference's rows of pieces beside the pieces -/
abbrev MA : Type := (Int → Int) × (Int → Int) × (Int → Int) × (Int → Int) × (Int → Int) × (Int → Int) × (Int → Int) × (Int → Int) × (Int → Int) × (Int → Int)
abbrev MA.IF (a : MA) : Int → Int := a.2.2.2.2.2.2.1
abbrev MA.IL (a : MA) : Int → Int := a.2.2.2.2.2.2.2.1
abbrev MA.CA (a : MA) : Int → Int := a.2.2.2.2.2.2.2.2.1
abbrev MA.ID (a : MA) : Int → Int := a.2.2.2.2.2.2.2.2.2
/-- row j with the first six numbers of piece j -/
def mo6 (a : MA) (F : Int → Pc8) (j : Int) : Prop := a.1 j = (F j).1 ∧ a.2.1 j = (F j).2.1 ∧ a.2.2.1 j = (F j).2.2.1 ∧ a.2.2.2.1 j = (F j).2.2.2.1 ∧ a.2.2.2.2.1 j = (F j).2.2.2.2.1 ∧ a.2.2.2.2.2.1 j = (F j).2.2.2.2.2.1
def mo4 (a : MA) (F : Int → Pc8) (j : Int) : Prop := ((a.ID j = 1 ∧ pcKd (F j) = 2) ∨ (a.ID j = 0 ∧ ¬ pcKd (F j) = 2)) ∧ ((a.IL j = 1 ∧ pcKd (F j) = 1) ∨ (a.IL j = 0 ∧ ¬ pcKd (F j) = 1)) ∧ ((a.IF j = 1 ∧ (pcBf (F j) < 0 ∧ ¬ pcKd (F j) = 2)) ∨ (a.IF j = 0 ∧ ¬ (pcBf (F j) < 0 ∧ ¬ pcKd (F j) = 2))) ∧ -1 ≤ a.CA j
/-- which piece follows which -/
def moN (a : MA) (F : Int → Pc8) (N L j : Int) : Prop :=
  (0 ≤ pcBf (F j) → (pcBf (F j) = j - 1 ∧ a.CA (j - 1) = -1 ∧ pcKd (F (j - 1)) = 0) ∨ (a.CA (pcBf (F j)) = j ∧ j ≤ pcBf (F j) ∧ pcBf (F j) < N)) ∧
  (0 ≤ a.CA j → a.CA j ≤ j ∧ pcBf (F (a.CA j)) = j ∧ pcKd (F j) = 0) ∧
  (a.CA j = -1 → pcKd (F j) = 0 → j = L ∨ (j + 1 < N ∧ pcBf (F (j + 1)) = j))
def moR (a : MA) (F : Int → Pc8) (N L : Int) : Prop :=
  0 ≤ N ∧ (L = -1 ∨ (L = N - 1 ∧ 0 ≤ L ∧ a.CA L = -1 ∧ pcKd (F L) = 0)) ∧ ∀ j, 0 ≤ j → j < N → mo6 a F j ∧ mo4 a F j ∧ moN a F N L j
theorem moR_0 {a : MA} {F : Int → Pc8} : moR a F 0 (-1) := ⟨Int.le_refl _, Or.inl rfl, fun j h0 h1 => by omega⟩
/-- the rows with one more piece -/
def maU (a : MA) (N v1 v2 v3 v4 v5 v6 f d : Int) : MA := (zup a.1 N v1, zup a.2.1 N v2, zup a.2.2.1 N v3, zup a.2.2.2.1 N v4, zup a.2.2.2.2.1 N v5, zup a.2.2.2.2.2.1 N v6, zup a.IF N f, zup a.IL N 0, zup a.CA N (-1), zup a.ID N d)
theorem zu_s (f : Int → Int) (N v : Int) : zup f N v N = v := if_pos rfl
theorem zu_n {f : Int → Int} {N v j : Int} (h : ¬ j = N) : zup f N v j = f j := if_neg h
theorem mo_add {a : MA} {F : Int → Pc8} {N L v1 v2 v3 v4 v5 v6 f : Int} (h : moR a F N L) (hf : (f = 1 ∧ L < 0) ∨ (f = 0 ∧ ¬ L < 0)) : moR (maU a N v1 v2 v3 v4 v5 v6 f 0) (fup F N (v1, v2, v3, v4, v5, v6, L, 0)) (N + 1) N := by
  obtain ⟨h0, h1, h2⟩ := h
  have fs : fup F N (v1, v2, v3, v4, v5, v6, L, 0) N = (v1, v2, v3, v4, v5, v6, L, 0) := fup_s _ _ _
  have fn : ∀ j, ¬ j = N → fup F N (v1, v2, v3, v4, v5, v6, L, 0) j = F j := fun j q => fup_n q
  refine ⟨by omega, Or.inr ⟨by omega, h0, zu_s _ _ _, by rw [fs]⟩, ?_⟩
  intro j j0 j1
  by_cases e : j = N
  · subst e
    refine ⟨?_, ?_, ?_, ?_, ?_⟩
    · unfold mo6; rw [fs]; exact ⟨zu_s _ _ _, zu_s _ _ _, zu_s _ _ _, zu_s _ _ _, zu_s _ _ _, zu_s _ _ _⟩
    · unfold mo4
      rw [fs]
      show ((zup a.ID j 0 j = 1 ∧ (0 : Int) = 2) ∨ (zup a.ID j 0 j = 0 ∧ ¬ (0 : Int) = 2)) ∧ ((zup a.IL j 0 j = 1 ∧ (0 : Int) = 1) ∨ (zup a.IL j 0 j = 0 ∧ ¬ (0 : Int) = 1)) ∧ ((zup a.IF j f j = 1 ∧ (L < 0 ∧ ¬ (0 : Int) = 2)) ∨ (zup a.IF j f j = 0 ∧ ¬ (L < 0 ∧ ¬ (0 : Int) = 2))) ∧ -1 ≤ zup a.CA j (-1) j
      rw [zu_s, zu_s, zu_s, zu_s]
      omega
    · rw [fs]
      intro q
      left
      have q : 0 ≤ L := q
      have hL : L = j - 1 ∧ 0 ≤ L ∧ a.CA L = -1 ∧ pcKd (F L) = 0 := by omega
      refine ⟨hL.1, ?_, ?_⟩
      · show zup a.CA j (-1) (j - 1) = -1
        rw [zu_n (by omega), ← hL.1]; exact hL.2.2.1
      · rw [fn _ (by omega), ← hL.1]; exact hL.2.2.2
    · intro q
      have q : 0 ≤ zup a.CA j (-1) j := q
      rw [zu_s] at q
      omega
    · intro _ _; exact Or.inl rfl
  · obtain ⟨b6, b4, b1, b2, b3⟩ := h2 j j0 (by omega)
    refine ⟨?_, ?_, ?_, ?_, ?_⟩
    · unfold mo6; rw [fn j e]; exact ⟨(zu_n e).trans b6.1, (zu_n e).trans b6.2.1, (zu_n e).trans b6.2.2.1, (zu_n e).trans b6.2.2.2.1, (zu_n e).trans b6.2.2.2.2.1, (zu_n e).trans b6.2.2.2.2.2⟩
    · unfold mo4
      rw [fn j e]
      show ((zup a.ID N 0 j = 1 ∧ _) ∨ (zup a.ID N 0 j = 0 ∧ _)) ∧ ((zup a.IL N 0 j = 1 ∧ _) ∨ (zup a.IL N 0 j = 0 ∧ _)) ∧ ((zup a.IF N f j = 1 ∧ _) ∨ (zup a.IF N f j = 0 ∧ _)) ∧ -1 ≤ zup a.CA N (-1) j
      rw [zu_n e, zu_n e, zu_n e, zu_n e]
      exact b4
    · rw [fn j e]
      intro q
      rcases b1 q with z | z
      · left
        refine ⟨z.1, ?_, ?_⟩
        · show zup a.CA N (-1) (j - 1) = -1
          rw [zu_n (by omega)]; exact z.2.1
        · rw [fn _ (by omega)]; exact z.2.2
      · right
        refine ⟨?_, z.2.1, by omega⟩
        show zup a.CA N (-1) (pcBf (F j)) = j
        rw [zu_n (by omega)]; exact z.1
    · intro q
      have q : 0 ≤ zup a.CA N (-1) j := q
      rw [zu_n e] at q
      have z := b2 q
      show zup a.CA N (-1) j ≤ j ∧ pcBf (fup F N _ (zup a.CA N (-1) j)) = j ∧ _
      rw [zu_n e, fn j e, fn _ (by omega)]
      exact z
    · intro q
      have q : zup a.CA N (-1) j = -1 := q
      rw [zu_n e] at q
      rw [fn j e]
      intro k
      right
      rcases b3 q k with z | z
      · refine ⟨by omega, ?_⟩
        have hL : j + 1 = N := by omega
        rw [hL, fs]
        exact z.symm
      · refine ⟨by omega, ?_⟩
        rw [fn _ (by omega)]; exact z.2
theorem mo_dot {a : MA} {F : Int → Pc8} {N v1 v2 v3 v4 v5 v6 : Int} (h : moR a F N (-1)) : moR (maU a N v1 v2 v3 v4 v5 v6 0 1) (fup F N (v1, v2, v3, v4, v5, v6, -1, 2)) (N + 1) (-1) := by
  obtain ⟨h0, h1, h2⟩ := h
  have fs : fup F N (v1, v2, v3, v4, v5, v6, -1, 2) N = (v1, v2, v3, v4, v5, v6, -1, 2) := fup_s _ _ _
  have fn : ∀ j, ¬ j = N → fup F N (v1, v2, v3, v4, v5, v6, -1, 2) j = F j := fun j q => fup_n q
  refine ⟨by omega, Or.inl rfl, ?_⟩
  intro j j0 j1
  by_cases e : j = N
  · subst e
    refine ⟨?_, ?_, ?_, ?_, ?_⟩
    · unfold mo6; rw [fs]; exact ⟨zu_s _ _ _, zu_s _ _ _, zu_s _ _ _, zu_s _ _ _, zu_s _ _ _, zu_s _ _ _⟩
    · unfold mo4
      rw [fs]
      show ((zup a.ID j 1 j = 1 ∧ (2 : Int) = 2) ∨ (zup a.ID j 1 j = 0 ∧ ¬ (2 : Int) = 2)) ∧ ((zup a.IL j 0 j = 1 ∧ (2 : Int) = 1) ∨ (zup a.IL j 0 j = 0 ∧ ¬ (2 : Int) = 1)) ∧ ((zup a.IF j 0 j = 1 ∧ ((-1 : Int) < 0 ∧ ¬ (2 : Int) = 2)) ∨ (zup a.IF j 0 j = 0 ∧ ¬ ((-1 : Int) < 0 ∧ ¬ (2 : Int) = 2))) ∧ -1 ≤ zup a.CA j (-1) j
      rw [zu_s, zu_s, zu_s, zu_s]
      omega
    · rw [fs]
      intro (q : (0 : Int) ≤ -1)
      omega
    · intro q
      have q : 0 ≤ zup a.CA j (-1) j := q
      rw [zu_s] at q
      omega
    · intro _; rw [fs]; intro (q : (2 : Int) = 0); omega
  · obtain ⟨b6, b4, b1, b2, b3⟩ := h2 j j0 (by omega)
    refine ⟨?_, ?_, ?_, ?_, ?_⟩
    · unfold mo6; rw [fn j e]; exact ⟨(zu_n e).trans b6.1, (zu_n e).trans b6.2.1, (zu_n e).trans b6.2.2.1, (zu_n e).trans b6.2.2.2.1, (zu_n e).trans b6.2.2.2.2.1, (zu_n e).trans b6.2.2.2.2.2⟩
    · unfold mo4
      rw [fn j e]
      show ((zup a.ID N 1 j = 1 ∧ _) ∨ (zup a.ID N 1 j = 0 ∧ _)) ∧ ((zup a.IL N 0 j = 1 ∧ _) ∨ (zup a.IL N 0 j = 0 ∧ _)) ∧ ((zup a.IF N 0 j = 1 ∧ _) ∨ (zup a.IF N 0 j = 0 ∧ _)) ∧ -1 ≤ zup a.CA N (-1) j
      rw [zu_n e, zu_n e, zu_n e, zu_n e]
      exact b4
    · rw [fn j e]
      intro q
      rcases b1 q with z | z
      · left
        refine ⟨z.1, ?_, ?_⟩
        · show zup a.CA N (-1) (j - 1) = -1
          rw [zu_n (by omega)]; exact z.2.1
        · rw [fn _ (by omega)]; exact z.2.2
      · right
        refine ⟨?_, z.2.1, by omega⟩
        show zup a.CA N (-1) (pcBf (F j)) = j
        rw [zu_n (by omega)]; exact z.1
    · intro q
      have q : 0 ≤ zup a.CA N (-1) j := q
      rw [zu_n e] at q
      have z := b2 q
      show zup a.CA N (-1) j ≤ j ∧ pcBf (fup F N _ (zup a.CA N (-1) j)) = j ∧ _
      rw [zu_n e, fn j e, fn _ (by omega)]
      exact z
    · intro q
      have q : zup a.CA N (-1) j = -1 := q
      rw [zu_n e] at q
      rw [fn j e]
      intro k
      rcases b3 q k with z | z
      · left; omega
      · right
        refine ⟨by omega, ?_⟩
        rw [fn _ (by omega)]; exact z.2
/-- a chain ends -/
def maE (a : MA) (L : Int) : MA := (a.1, a.2.1, a.2.2.1, a.2.2.2.1, a.2.2.2.2.1, a.2.2.2.2.2.1, a.IF, zup a.IL L 1, a.CA, a.ID)
theorem mo_end {a : MA} {F : Int → Pc8} {N L : Int} (h : moR a F N L) (hL : 0 ≤ L) : moR (maE a L) (fend F L 1) N (-1) := by
  obtain ⟨h0, h1, h2⟩ := h
  have fs : fend F L 1 L = fkd (F L) 1 := by unfold fend; rw [if_pos hL]; exact fup_s _ _ _
  have fn : ∀ j, ¬ j = L → fend F L 1 j = F j := fun j q => by unfold fend; rw [if_pos hL]; exact fup_n q
  have fb : ∀ j, pcBf (fend F L 1 j) = pcBf (F j) := fun j => by
    by_cases e : j = L
    · rw [e, fs]; rfl
    · rw [fn j e]
  have hL1 : L = N - 1 ∧ a.CA L = -1 ∧ pcKd (F L) = 0 := by omega
  refine ⟨h0, Or.inl rfl, ?_⟩
  intro j j0 j1
  obtain ⟨b6, b4, b1, b2, b3⟩ := h2 j j0 j1
  by_cases e : j = L
  · subst e
    refine ⟨?_, ?_, ?_, ?_, ?_⟩
    · unfold mo6; rw [fs]; exact b6
    · unfold mo4 at b4 ⊢
      rw [fs]
      show ((a.ID j = 1 ∧ (1 : Int) = 2) ∨ (a.ID j = 0 ∧ ¬ (1 : Int) = 2)) ∧ ((zup a.IL j 1 j = 1 ∧ (1 : Int) = 1) ∨ (zup a.IL j 1 j = 0 ∧ ¬ (1 : Int) = 1)) ∧ ((a.IF j = 1 ∧ (pcBf (F j) < 0 ∧ ¬ (1 : Int) = 2)) ∨ (a.IF j = 0 ∧ ¬ (pcBf (F j) < 0 ∧ ¬ (1 : Int) = 2))) ∧ -1 ≤ a.CA j
      rw [zu_s]
      omega
    · rw [fb]
      intro q
      rcases b1 q with z | z
      · exact Or.inl ⟨z.1, z.2.1, by rw [fn _ (by omega)]; exact z.2.2⟩
      · exact Or.inr z
    · intro q
      have q : 0 ≤ a.CA j := q
      omega
    · intro _; rw [fs]; intro (q : (1 : Int) = 0); omega
  · refine ⟨?_, ?_, ?_, ?_, ?_⟩
    · unfold mo6; rw [fn j e]; exact b6
    · unfold mo4 at b4 ⊢
      rw [fn j e]
      show (_ ∨ _) ∧ ((zup a.IL L 1 j = 1 ∧ _) ∨ (zup a.IL L 1 j = 0 ∧ _)) ∧ _
      rw [zu_n e]
      exact b4
    · rw [fn j e]
      intro q
      rcases b1 q with z | z
      · refine Or.inl ⟨z.1, z.2.1, ?_⟩
        rw [fn _ (by omega)]; exact z.2.2
      · exact Or.inr z
    · intro q
      rw [fb, fn j e]
      exact b2 q
    · intro q
      rw [fn j e]
      intro k
      rcases b3 q k with z | z
      · omega
      · exact Or.inr ⟨z.1, by rw [fb]; exact z.2⟩
/-- a closed subpath under way: rows from g on -/
def moC (a : MA) (F : Int → Pc8) (g N : Int) : Prop := 0 ≤ g ∧ g ≤ N ∧ (∀ j, 0 ≤ j → j < g → mo6 a F j ∧ mo4 a F j ∧ moN a F g (-1) j) ∧ ∀ j, g ≤ j → j < N → mo6 a F j ∧ pcKd (F j) = 0 ∧ pcBf (F j) = (if j = g then -1 else j - 1) ∧ a.IF j = 0 ∧ a.IL j = 0 ∧ a.CA j = -1 ∧ a.ID j = 0
theorem mo_C0 {a : MA} {F : Int → Pc8} {N : Int} (h : moR a F N (-1)) : moC a F N N := ⟨h.1, Int.le_refl _, h.2.2, fun j a b => by omega⟩
theorem mo_Cadd {a : MA} {F : Int → Pc8} {g N L v1 v2 v3 v4 v5 v6 : Int} (h : moC a F g N) (hL : L = if N = g then -1 else N - 1) : moC (maU a N v1 v2 v3 v4 v5 v6 0 0) (fup F N (v1, v2, v3, v4, v5, v6, L, 0)) g (N + 1) := by
  obtain ⟨h0, h1, h2, h3⟩ := h
  have fs : fup F N (v1, v2, v3, v4, v5, v6, L, 0) N = (v1, v2, v3, v4, v5, v6, L, 0) := fup_s _ _ _
  have fn : ∀ j, ¬ j = N → fup F N (v1, v2, v3, v4, v5, v6, L, 0) j = F j := fun j q => fup_n q
  refine ⟨h0, by omega, ?_, ?_⟩
  · intro j j0 j1
    have e : ¬ j = N := by omega
    obtain ⟨b6, b4, b1, b2, b3⟩ := h2 j j0 j1
    refine ⟨?_, ?_, ?_, ?_, ?_⟩
    · unfold mo6; rw [fn j e]; exact ⟨(zu_n e).trans b6.1, (zu_n e).trans b6.2.1, (zu_n e).trans b6.2.2.1, (zu_n e).trans b6.2.2.2.1, (zu_n e).trans b6.2.2.2.2.1, (zu_n e).trans b6.2.2.2.2.2⟩
    · unfold mo4
      rw [fn j e]
      show ((zup a.ID N 0 j = 1 ∧ _) ∨ (zup a.ID N 0 j = 0 ∧ _)) ∧ ((zup a.IL N 0 j = 1 ∧ _) ∨ (zup a.IL N 0 j = 0 ∧ _)) ∧ ((zup a.IF N 0 j = 1 ∧ _) ∨ (zup a.IF N 0 j = 0 ∧ _)) ∧ -1 ≤ zup a.CA N (-1) j
      rw [zu_n e, zu_n e, zu_n e, zu_n e]
      exact b4
    · rw [fn j e]
      intro q
      rcases b1 q with z | z
      · left
        refine ⟨z.1, ?_, ?_⟩
        · show zup a.CA N (-1) (j - 1) = -1
          rw [zu_n (by omega)]; exact z.2.1
        · rw [fn _ (by omega)]; exact z.2.2
      · right
        refine ⟨?_, z.2.1, z.2.2⟩
        show zup a.CA N (-1) (pcBf (F j)) = j
        rw [zu_n (by omega)]; exact z.1
    · intro q
      have q : 0 ≤ zup a.CA N (-1) j := q
      rw [zu_n e] at q
      have z := b2 q
      show zup a.CA N (-1) j ≤ j ∧ pcBf (fup F N _ (zup a.CA N (-1) j)) = j ∧ _
      rw [zu_n e, fn j e, fn _ (by omega)]
      exact z
    · intro q
      have q : zup a.CA N (-1) j = -1 := q
      rw [zu_n e] at q
      rw [fn j e]
      intro k
      rcases b3 q k with z | z
      · left; omega
      · right
        refine ⟨z.1, ?_⟩
        rw [fn _ (by omega)]; exact z.2
  · intro j j0 j1
    by_cases e : j = N
    · subst e
      refine ⟨?_, ?_, ?_, zu_s _ _ _, zu_s _ _ _, zu_s _ _ _, zu_s _ _ _⟩
      · unfold mo6; rw [fs]; exact ⟨zu_s _ _ _, zu_s _ _ _, zu_s _ _ _, zu_s _ _ _, zu_s _ _ _, zu_s _ _ _⟩
      · rw [fs]
      · rw [fs]; exact hL
    · obtain ⟨b6, b7⟩ := h3 j j0 (by omega)
      refine ⟨?_, ?_, ?_, (zu_n e).trans b7.2.2.1, (zu_n e).trans b7.2.2.2.1, (zu_n e).trans b7.2.2.2.2.1, (zu_n e).trans b7.2.2.2.2.2⟩
      · unfold mo6; rw [fn j e]; exact ⟨(zu_n e).trans b6.1, (zu_n e).trans b6.2.1, (zu_n e).trans b6.2.2.1, (zu_n e).trans b6.2.2.2.1, (zu_n e).trans b6.2.2.2.2.1, (zu_n e).trans b6.2.2.2.2.2⟩
      · rw [fn j e]; exact b7.1
      · rw [fn j e]; exact b7.2.1
/-- ... and closed -/
def maC (a : MA) (N g : Int) : MA := (a.1, a.2.1, a.2.2.1, a.2.2.2.1, a.2.2.2.2.1, a.2.2.2.2.2.1, a.IF, zup a.IL (N - 1) 0, zup a.CA (N - 1) g, a.ID)
theorem mo_close {a : MA} {F : Int → Pc8} {g N : Int} (h : moC a F g N) (hN : g < N) : moR (maC a N g) (clF F g (N - 1)) N (-1) := by
  obtain ⟨h0, h1, h2, h3⟩ := h
  have fs : clF F g (N - 1) g = fbf (F g) (N - 1) := by unfold clF; rw [if_pos (by omega)]; exact fup_s _ _ _
  have fn : ∀ j, ¬ j = g → clF F g (N - 1) j = F j := fun j q => by unfold clF; rw [if_pos (by omega)]; exact fup_n q
  have fk : ∀ j, pcKd (clF F g (N - 1) j) = pcKd (F j) := fun j => by
    by_cases e : j = g
    · rw [e, fs]; rfl
    · rw [fn j e]
  have f6 : ∀ j, mo6 a F j → mo6 (maC a N g) (clF F g (N - 1)) j := fun j q => by
    unfold mo6
    by_cases e : j = g
    · rw [e, fs]; rw [e] at q; exact q
    · rw [fn j e]; exact q
  refine ⟨by omega, Or.inl rfl, ?_⟩
  intro j j0 j1
  by_cases e : j < g
  · obtain ⟨b6, b4, b1, b2, b3⟩ := h2 j j0 e
    have en : ¬ j = N - 1 := by omega
    refine ⟨f6 j b6, ?_, ?_, ?_, ?_⟩
    · unfold mo4
      rw [fn j (by omega)]
      show (_ ∨ _) ∧ ((zup a.IL (N - 1) 0 j = 1 ∧ _) ∨ (zup a.IL (N - 1) 0 j = 0 ∧ _)) ∧ _ ∧ -1 ≤ zup a.CA (N - 1) g j
      rw [zu_n en, zu_n en]
      exact b4
    · rw [fn j (by omega)]
      intro q
      rcases b1 q with z | z
      · left
        refine ⟨z.1, ?_, ?_⟩
        · show zup a.CA (N - 1) g (j - 1) = -1
          rw [zu_n (by omega)]; exact z.2.1
        · rw [fk]; exact z.2.2
      · right
        refine ⟨?_, z.2.1, by omega⟩
        show zup a.CA (N - 1) g (pcBf (F j)) = j
        rw [zu_n (by omega)]; exact z.1
    · intro q
      have q : 0 ≤ zup a.CA (N - 1) g j := q
      rw [zu_n en] at q
      have z := b2 q
      show zup a.CA (N - 1) g j ≤ j ∧ pcBf (clF F g (N - 1) (zup a.CA (N - 1) g j)) = j ∧ _
      rw [zu_n en, fk, fn _ (by omega)]
      exact z
    · intro q
      have q : zup a.CA (N - 1) g j = -1 := q
      rw [zu_n en] at q
      rw [fk]
      intro k
      rcases b3 q k with z | z
      · left; omega
      · right
        refine ⟨by omega, ?_⟩
        rw [fn _ (by omega)]; exact z.2
  · obtain ⟨b6, b7, b8, b9, b10, b11, b12⟩ := h3 j (by omega) j1
    have hbf : pcBf (clF F g (N - 1) j) = if j = g then N - 1 else j - 1 := by
      by_cases q : j = g
      · rw [q, fs, if_pos rfl]; rfl
      · rw [fn j q, if_neg q, b8, if_neg q]
    refine ⟨f6 j b6, ?_, ?_, ?_, ?_⟩
    · have hb0 : ¬ pcBf (clF F g (N - 1) j) < 0 := by rw [hbf]; split <;> omega
      have hil : zup a.IL (N - 1) 0 j = 0 := by
        by_cases q : j = N - 1
        · rw [q]; exact zu_s _ _ _
        · rw [zu_n q]; exact b10
      have hca : -1 ≤ zup a.CA (N - 1) g j := by
        by_cases q : j = N - 1
        · rw [q, zu_s]; omega
        · rw [zu_n q]; omega
      unfold mo4
      rw [fk, b7]
      refine ⟨Or.inr ⟨b12, by omega⟩, Or.inr ⟨hil, by omega⟩, Or.inr ⟨b9, fun q => hb0 q.1⟩, hca⟩
    · rw [hbf]
      intro q
      by_cases z : j = g
      · rw [if_pos z]
        right
        refine ⟨?_, by omega, by omega⟩
        show zup a.CA (N - 1) g (N - 1) = j
        rw [zu_s, z]
      · rw [if_neg z]
        left
        obtain ⟨-, d7, -, -, -, d11, -⟩ := h3 (j - 1) (by omega) (by omega)
        refine ⟨rfl, ?_, ?_⟩
        · show zup a.CA (N - 1) g (j - 1) = -1
          rw [zu_n (by omega)]; exact d11
        · rw [fk]; exact d7
    · intro q
      have q : 0 ≤ zup a.CA (N - 1) g j := q
      by_cases z : j = N - 1
      · show zup a.CA (N - 1) g j ≤ j ∧ pcBf (clF F g (N - 1) (zup a.CA (N - 1) g j)) = j ∧ _
        rw [z, zu_s, fs, fk, ← z]
        exact ⟨by omega, rfl, b7⟩
      · rw [zu_n z] at q; omega
    · intro q
      have q : zup a.CA (N - 1) g j = -1 := q
      by_cases z : j = N - 1
      · rw [z, zu_s] at q; omega
      · intro _
        right
        refine ⟨by omega, ?_⟩
        obtain ⟨-, -, d8, -⟩ := h3 (j + 1) (by omega) (by omega)
        rw [fn _ (by omega), d8, if_neg (by omega)]
        omega

/-! the cutting of a segment ends -/
theorem sm_nn {ln : Int → Int} {nd : Nat} (hln : ∀ j, 0 ≤ j → j < (nd : Int) → 0 ≤ ln j ∧ ln j ≤ 8192) : ∀ k : Nat, k ≤ nd → 0 ≤ sm ln k ∧ sm ln k ≤ 8192 * k := by
  intro k
  induction k with
  | zero => intro _; exact ⟨Int.le_refl _, by show (0 : Int) ≤ _; omega⟩
  | succ k ih =>
    intro h
    have h1 := ih (by omega)
    have h2 := hln k (by omega) (by omega)
    show 0 ≤ sm ln k + ln k ∧ sm ln k + ln k ≤ _
    omega
theorem sm_le {ln : Int → Int} {nd : Nat} (hln : ∀ j, 0 ≤ j → j < (nd : Int) → 0 ≤ ln j ∧ ln j ≤ 8192) : ∀ (k m : Nat), k + m ≤ nd → sm ln k ≤ sm ln (k + m) := by
  intro k m
  induction m with
  | zero => intro _; exact Int.le_refl _
  | succ m ih =>
    intro h
    have h1 := ih (by omega)
    have h2 := hln ((k + m : Nat) : Int) (by omega) (by omega)
    show sm ln k ≤ sm ln (k + m) + ln ((k + m : Nat) : Int)
    omega
/-- where the round of the dashes begins that holds the one at hand -/
def ctB (g : SG) (c : CS) : Int := c.t + c.rs - 256 * sm g.ln (c.dd.toNat + 1)
theorem ctB_s {g : SG} {t dd on rs N L : Int} {F : Int → Pc8} (hln : ∀ j, 0 ≤ j → j < g.nd → 0 ≤ g.ln j ∧ g.ln j ≤ 8192) (hd : 0 ≤ dd ∧ dd < g.nd) (hw : 0 < sm g.ln g.nd.toNat) : (nxt g.nd dd = dd + 1 ∧ ctB g (t + rs, nxt g.nd dd, 1 - on, 256 * g.ln (nxt g.nd dd), N, L, F) = ctB g (t, dd, on, rs, N, L, F)) ∨ (nxt g.nd dd = 0 ∧ ctB g (t, dd, on, rs, N, L, F) + 256 ≤ ctB g (t + rs, nxt g.nd dd, 1 - on, 256 * g.ln (nxt g.nd dd), N, L, F)) := by
  unfold ctB
  show (_ ∧ t + rs + 256 * g.ln (nxt g.nd dd) - 256 * sm g.ln ((nxt g.nd dd).toNat + 1) = t + rs - 256 * sm g.ln (dd.toNat + 1)) ∨ (_ ∧ t + rs - 256 * sm g.ln (dd.toNat + 1) + 256 ≤ t + rs + 256 * g.ln (nxt g.nd dd) - 256 * sm g.ln ((nxt g.nd dd).toNat + 1))
  by_cases q : dd + 1 < g.nd
  · have e : nxt g.nd dd = dd + 1 := if_pos q
    left
    refine ⟨e, ?_⟩
    rw [e]
    have e2 : sm g.ln ((dd + 1).toNat + 1) = sm g.ln (dd + 1).toNat + g.ln ((dd + 1).toNat : Int) := rfl
    have e3 : (dd + 1).toNat = dd.toNat + 1 := by omega
    rw [e2, Int.toNat_of_nonneg (by omega), e3]
    omega
  · have e : nxt g.nd dd = 0 := if_neg q
    right
    refine ⟨e, ?_⟩
    rw [e]
    have e2 : sm g.ln ((0 : Int).toNat + 1) = 0 + g.ln 0 := rfl
    have e3 : dd.toNat + 1 = g.nd.toNat := by omega
    rw [e2, e3]
    omega
def ctC (g : SG) (c : CS) : Prop := c.t < g.l ∨ c.rs ≤ 0
theorem ctM_fin {g : SG} (hln : ∀ j, 0 ≤ j → j < g.nd → 0 ≤ g.ln j ∧ g.ln j ≤ 8192) (hn8 : g.nd ≤ 8) (hw : 0 < sm g.ln g.nd.toNat) : ∀ (n : Nat) (c : CS), dsB g.nd c.dd c.on c.rs → c.t ≤ g.l → 1 ≤ n → 8 * ((g.l - ctB g c) / 256) + 9 - c.dd ≤ n → ¬ ctC g (ctM g n c) := by
  intro n
  induction n with
  | zero => intro c _ _ h; omega
  | succ n ih =>
    intro c hb ht h1 h2
    have e0 : ctM g (n + 1) c = if c.t < g.l ∨ c.rs ≤ 0 then ctM g n (ctS g c) else c := rfl
    by_cases q : c.t < g.l ∨ c.rs ≤ 0
    · rw [e0, if_pos q]
      have hb2 := ctS_bd hln hb ht
      obtain ⟨t, dd, on, rs, N, L, F⟩ := c
      obtain ⟨⟨d1, d2⟩, d3, d4, d5⟩ := hb
      have d1 : 0 ≤ dd := d1
      have d2 : dd < g.nd := d2
      have d4 : 0 ≤ rs := d4
      have ht : t ≤ g.l := ht
      have q : t < g.l ∨ rs ≤ 0 := q
      have h2 : 8 * ((g.l - ctB g (t, dd, on, rs, N, L, F)) / 256) + 9 - dd ≤ (n : Int) + 1 := by
        have := h2
        push_cast at this
        exact this
      have key : ∃ N2 L2 F2, ctS g (t, dd, on, rs, N, L, F) = ctE g (min g.l (t + rs)) (t, dd, on, rs, N2, L2, F2) := by
        by_cases o : on = 1
        · exact ⟨_, _, _, ctS_on o rfl⟩
        · exact ⟨_, _, _, ctS_off o rfl⟩
      obtain ⟨N2, L2, F2, ek⟩ := key
      have hB0 : ctB g (t, dd, on, rs, N, L, F) ≤ t + rs := by
        have hs := (sm_nn (ln := g.ln) (nd := g.nd.toNat) (fun j a b => hln j a (by omega)) (dd.toNat + 1) (by omega)).1
        show t + rs - 256 * sm g.ln (dd.toNat + 1) ≤ t + rs
        omega
      by_cases w : t + rs ≤ g.l
      · have em : min g.l (t + rs) = t + rs := by omega
        rw [em] at ek
        rw [ctE_e (by omega) rfl] at ek
        rw [ek] at hb2 ⊢
        have hs := ctB_s (t := t) (dd := dd) (on := on) (rs := rs) (N := N2) (L := -1) (F := fend F2 L2 1) hln ⟨d1, d2⟩ hw
        have e9 : ctB g (t, dd, on, rs, N2, -1, fend F2 L2 1) = ctB g (t, dd, on, rs, N, L, F) := rfl
        rw [e9] at hs
        apply ih _ hb2.1 hb2.2
        · omega
        · show 8 * ((g.l - ctB g _) / 256) + 9 - nxt g.nd dd ≤ (n : Int)
          rcases hs with ⟨a, b⟩ | ⟨a, b⟩
          · rw [b]; omega
          · omega
      · have em : min g.l (t + rs) = g.l := by omega
        rw [em, ctE_on (by omega)] at ek
        rw [ek]
        rw [ctM_stop (by show ¬ (g.l < g.l ∨ rs - (g.l - t) ≤ 0); omega)]
        show ¬ (g.l < g.l ∨ rs - (g.l - t) ≤ 0)
        omega
    · rw [e0, if_neg q]
      exact q
theorem ctM_end {g : SG} {fl : Nat} {dd on rs N L : Int} {F : Int → Pc8} (hln : ∀ j, 0 ≤ j → j < g.nd → 0 ≤ g.ln j ∧ g.ln j ≤ 8192) (hn8 : g.nd ≤ 8) (hw : 0 < sm g.ln g.nd.toNat) (hb : dsB g.nd dd on rs) (hl : 0 < g.l ∧ g.l ≤ 6000000) (hfl : fl = 1000000) : (ctM g fl (0, dd, on, rs, N, L, F)).t = g.l ∧ 0 < (ctM g fl (0, dd, on, rs, N, L, F)).rs := by
  obtain ⟨⟨d1, d2⟩, d3, d4, d5⟩ := hb
  have hs := sm_nn (ln := g.ln) (nd := g.nd.toNat) (fun j a b => hln j a (by omega)) (dd.toNat + 1) (by omega)
  have h := ctM_fin hln hn8 hw fl (0, dd, on, rs, N, L, F) ⟨⟨d1, d2⟩, d3, d4, d5⟩ (by show (0 : Int) ≤ g.l; omega) (by omega) (by
    show 8 * ((g.l - (0 + rs - 256 * sm g.ln (dd.toNat + 1))) / 256) + 9 - dd ≤ (fl : Int)
    omega)
  have h3 := (ctM_bd hln fl (0, dd, on, rs, N, L, F) ⟨⟨d1, d2⟩, d3, d4, d5⟩ (by show (0 : Int) ≤ g.l; omega)).2
  unfold ctC at h
  omega

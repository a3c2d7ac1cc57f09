/-! the program's own reads, writes, ways -/
def gc_va (x : Int32) : Prop := ∃ j : Nat, j < 8 ∧ x = nI j
def gc_pl (x : Int32) : Prop := ∃ j : Nat, j < 32 ∧ x = nI j
def gc_wy (x : Int32) : Prop := ∃ j : Nat, 1 ≤ j ∧ j ≤ 4 ∧ x = nI j
def gc_ok (o a b c : Int32) : Prop :=
  (o = 0 ∧ gc_va a) ∨ (o = 1 ∧ gc_va a ∧ gc_va b) ∨ (o = 2 ∧ gc_va a ∧ gc_va b ∧ gc_va c) ∨ (o = 3 ∧ gc_va a ∧ gc_va b ∧ gc_va c) ∨
  (o = 4 ∧ gc_va a ∧ gc_va b ∧ gc_va c) ∨ (o = 5 ∧ gc_va a ∧ gc_va b ∧ gc_va c) ∨ (o = 6 ∧ gc_va a) ∨ (o = 7 ∧ gc_pl a) ∨
  (o = 8 ∧ gc_va a ∧ gc_pl b) ∨ (o = 9 ∧ gc_va a ∧ gc_pl b ∧ gc_wy c) ∨ o = 10
def gc_wf (o a b c : Nat → Int32) : Prop := ∀ i, gc_ok (o i) (a i) (b i) (c i)
def gc_R (o a b c : Nat → Int32) (v i : Nat) : Prop :=
  ((o i = 6 ∨ o i = 8 ∨ o i = 9) ∧ a i = nI v) ∨ ((1 ≤ o i ∧ o i ≤ 5) ∧ (b i = nI v ∨ (2 ≤ o i ∧ c i = nI v)))
def gc_W (o a : Nat → Int32) (v i : Nat) : Prop := o i ≤ 5 ∧ a i = nI v
def gc_E (o a b c : Nat → Int32) (i j : Nat) : Prop :=
  (o i = 7 ∧ nI j = a i) ∨ (o i ≠ 7 ∧ o i ≠ 10 ∧ (j = i + 1 ∨ (o i = 8 ∧ nI j = b i) ∨ (o i = 9 ∧ b i ≤ nI j ∧ nI j < b i + c i)))
def gc_LV (n : Nat) (o a b c : Nat → Int32) (v i : Nat) : Prop := gc_Live n (gc_R o a b c v) (gc_W o a v) (gc_E o a b c) i
theorem gc_va_iff (x : Int32) : gc_va x ↔ ¬ x < 0 ∧ x < 8 := by
  constructor
  · rintro ⟨j, hj, rfl⟩
    exact ⟨nI_pos (by omega), nI_lt (b := 8) hj (by decide)⟩
  · rintro ⟨h0, h8⟩
    rcases pk_ix x (n := 8) (by decide) with h | h | ⟨j, hj, e⟩
    · exact absurd h h0
    · exact absurd h8 (Int32.not_lt.mpr h)
    · exact ⟨j, hj, e⟩
theorem gc_pl_iff (x : Int32) : gc_pl x ↔ ¬ x < 0 ∧ x < 32 := by
  constructor
  · rintro ⟨j, hj, rfl⟩
    exact ⟨nI_pos (by omega), nI_lt (b := 32) hj (by decide)⟩
  · rintro ⟨h0, h8⟩
    rcases pk_ix x (n := 32) (by decide) with h | h | ⟨j, hj, e⟩
    · exact absurd h h0
    · exact absurd h8 (Int32.not_lt.mpr h)
    · exact ⟨j, hj, e⟩
theorem gc_wy_iff (x : Int32) : gc_wy x ↔ 1 ≤ x ∧ x ≤ 4 := by
  constructor
  · rintro ⟨j, h1, h4, rfl⟩
    exact ⟨nI_le (a := 1) h1 (by omega), nI_le (b := 4) h4 (by decide)⟩
  · rintro ⟨h1, h4⟩
    rcases pk_ix x (n := 5) (by decide) with h | h | ⟨j, hj, e⟩
    · exact absurd (Int32.lt_of_lt_of_le h (by decide : (0 : Int32) ≤ 1)) (Int32.not_lt.mpr h1)
    · exact absurd (Int32.le_trans h h4) (by decide)
    · refine ⟨j, ?_, by omega, e⟩
      rcases Nat.eq_zero_or_pos j with z | z
      · subst z
        rw [e] at h1
        exact absurd h1 (by decide)
      · exact z

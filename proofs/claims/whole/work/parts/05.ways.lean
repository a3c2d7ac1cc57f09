/-! the ways out of an instruction, by its kind; bits -/
theorem gc_bit2 {y v : Nat} (hy : y < 32) (hv : v < 32) : bt ((1 : Int32) <<< (nI y &&& 31)) v = true ↔ nI y = nI v := by
  rw [gc_bit y hy v hv, decide_eq_true_iff, nI_eq (by omega) (by omega)]
  exact eq_comm
section
variable {o a b c : Nat → Int32} {m i : Nat} {P : Nat → Prop}
theorem gc_E7 {t : Nat} (e : o i = 7) (ea : a i = nI t) (ht : t < 32) (hm : m ≤ 32) : (∃ j, j < m ∧ gc_E o a b c i j ∧ P j) ↔ (t < m ∧ P t) := by
  constructor
  · rintro ⟨j, hj, hE, hp⟩
    rcases hE with ⟨_, he⟩ | ⟨h7, _⟩
    · rw [ea, nI_eq (by omega) (by omega)] at he
      subst he
      exact ⟨hj, hp⟩
    · exact absurd e h7
  · rintro ⟨ht', hp⟩
    exact ⟨t, ht', Or.inl ⟨e, ea.symm⟩, hp⟩
theorem gc_E10 (e : o i = 10) : ¬ (∃ j, j < m ∧ gc_E o a b c i j ∧ P j) := by
  rintro ⟨j, hj, hE, hp⟩
  rcases hE with ⟨h, _⟩ | ⟨_, h, _⟩
  · rw [e] at h
    exact absurd h (by decide)
  · exact h e
theorem gc_E8 {t : Nat} (e : o i = 8) (eb : b i = nI t) (ht : t < 32) (hm : m ≤ 32) : (∃ j, j < m ∧ gc_E o a b c i j ∧ P j) ↔ ((i + 1 < m ∧ P (i + 1)) ∨ (t < m ∧ P t)) := by
  have e7 : o i ≠ 7 := by rw [e]; decide
  have e10 : o i ≠ 10 := by rw [e]; decide
  constructor
  · rintro ⟨j, hj, hE, hp⟩
    rcases hE with ⟨h, _⟩ | ⟨_, _, h | ⟨_, h⟩ | ⟨h, _⟩⟩
    · exact absurd h e7
    · subst h
      exact Or.inl ⟨hj, hp⟩
    · rw [eb, nI_eq (by omega) (by omega)] at h
      subst h
      exact Or.inr ⟨hj, hp⟩
    · rw [e] at h
      exact absurd h (by decide)
  · rintro (⟨h, hp⟩ | ⟨h, hp⟩)
    · exact ⟨i + 1, h, Or.inr ⟨e7, e10, Or.inl rfl⟩, hp⟩
    · exact ⟨t, h, Or.inr ⟨e7, e10, Or.inr (Or.inl ⟨e, eb.symm⟩)⟩, hp⟩
theorem gc_E9 {t w : Nat} (e : o i = 9) (eb : b i = nI t) (ec : c i = nI w) (ht : t < 32) (hw : w ≤ 4) (hm : m ≤ 32) :
    (∃ j, j < m ∧ gc_E o a b c i j ∧ P j) ↔ ((i + 1 < m ∧ P (i + 1)) ∨ (∃ k, k < w ∧ t + k < m ∧ P (t + k))) := by
  have e7 : o i ≠ 7 := by rw [e]; decide
  have e10 : o i ≠ 10 := by rw [e]; decide
  constructor
  · rintro ⟨j, hj, hE, hp⟩
    rcases hE with ⟨h, _⟩ | ⟨_, _, h | ⟨h, _⟩ | ⟨_, h1, h2⟩⟩
    · exact absurd h e7
    · subst h
      exact Or.inl ⟨hj, hp⟩
    · rw [e] at h
      exact absurd h (by decide)
    · rw [eb, nI_leI (by omega) (by omega)] at h1
      rw [eb, ec, nI_add, nI_ltI (by omega) (by omega)] at h2
      obtain ⟨k, rfl⟩ : ∃ k, j = t + k := ⟨j - t, by omega⟩
      exact Or.inr ⟨k, by omega, hj, hp⟩
  · rintro (⟨h, hp⟩ | ⟨k, hk, h, hp⟩)
    · exact ⟨i + 1, h, Or.inr ⟨e7, e10, Or.inl rfl⟩, hp⟩
    · refine ⟨t + k, h, Or.inr ⟨e7, e10, Or.inr (Or.inr ⟨e, ?_, ?_⟩)⟩, hp⟩
      · rw [eb]
        exact nI_le (by omega) (by omega)
      · rw [eb, ec, nI_add]
        exact nI_lt (by omega) (by omega)
theorem gc_Es (e7 : o i ≠ 7) (e8 : o i ≠ 8) (e9 : o i ≠ 9) (e10 : o i ≠ 10) : (∃ j, j < m ∧ gc_E o a b c i j ∧ P j) ↔ (i + 1 < m ∧ P (i + 1)) := by
  constructor
  · rintro ⟨j, hj, hE, hp⟩
    rcases hE with ⟨h, _⟩ | ⟨_, _, h | ⟨h, _⟩ | ⟨h, _⟩⟩
    · exact absurd h e7
    · subst h
      exact ⟨hj, hp⟩
    · exact absurd h e8
    · exact absurd h e9
  · rintro ⟨h, hp⟩
    exact ⟨i + 1, h, Or.inr ⟨e7, e10, Or.inl rfl⟩, hp⟩
end
theorem gc_dm (k : Nat) : nI k + (-1) = nI k - 1 := (Int32.sub_eq_add_neg _ _).symm
theorem gc_z1 : nI 0 - 1 < 0 := by decide
/-- what a set holds at an instruction, nothing beyond the program -/
def gc_at (m : Nat) (L : Nat → Int32) (j : Nat) : Int32 := if j < m then L j else 0
theorem gc_at_b {m : Nat} {L : Nat → Int32} {j v : Nat} : bt (gc_at m L j) v = true ↔ (j < m ∧ bt (L j) v = true) := by
  unfold gc_at
  by_cases h : j < m
  · rw [if_pos h]
    exact ⟨fun z => ⟨h, z⟩, fun z => z.2⟩
  · rw [if_neg h, b_0]
    exact ⟨fun z => absurd z (by decide), fun z => absurd z.1 h⟩
theorem gc_or_b {x y : Int32} {v : Nat} : bt (x ||| y) v = true ↔ (bt x v = true ∨ bt y v = true) := by
  rw [b_or, Bool.or_eq_true]
theorem gc_new_b {x y z : Int32} {v : Nat} (hv : v < 32) : bt (x ||| (y &&& (z ^^^ (-1)))) v = true ↔ (bt x v = true ∨ (¬ bt z v = true ∧ bt y v = true)) := by
  rw [b_or, b_and, b_xor, b_m1 v hv]
  cases bt x v <;> cases bt y v <;> cases bt z v <;> decide

/-! one widening, by its two loops; one bit asked -/
theorem gc_b1 : ∀ t, t < 32 → bt 1 t = decide (t = 0) := by decide +kernel
theorem gc_tst (s : Int32) {i : Nat} (hi : i < 32) : ((s.toUInt32 >>> ((nI i).toUInt32 &&& Int32.toUInt32 31)).toInt32 &&& 1) = 1 ↔ bt s i = true := by
  have e : ∀ t, bt ((s.toUInt32 >>> ((nI i).toUInt32 &&& Int32.toUInt32 31)).toInt32 &&& 1) t = (bt s (i + t) && bt 1 t) := fun t => by
    rw [b_and, b_ushr i hi]
  constructor
  · intro h
    have h0 := e 0
    rw [h, gc_b1 0 (by decide), Nat.add_zero] at h0
    cases hb : bt s i
    · rw [hb] at h0
      exact absurd h0 (by decide)
    · rfl
  · intro h
    refine b_ext fun t ht => ?_
    rw [e t, gc_b1 t ht]
    by_cases z : t = 0
    · subst z
      rw [Nat.add_zero, h]
      rfl
    · rw [decide_eq_false z, Bool.and_false]
def gc_Q (s : Int32) (W : Nat → Prop) (E : Nat → Nat → Prop) (i t : Nat) : Prop := bt s i = true ∧ ¬ W i ∧ E i t
def gc_O (m : Nat) (s : Int32) (W : Nat → Prop) (E : Nat → Nat → Prop) (i : Nat) (x : Int32) : Prop :=
  ∀ t, t < 32 → (bt x t = true ↔ (bt s t = true ∨ (t < m ∧ ∃ k, k < i ∧ gc_Q s W E k t)))
def gc_N (m : Nat) (s : Int32) (W : Nat → Prop) (E : Nat → Nat → Prop) (i j : Nat) (x : Int32) : Prop :=
  ∀ t, t < 32 → (bt x t = true ↔ (bt s t = true ∨ (t < m ∧ ∃ k, k < i ∧ gc_Q s W E k t) ∨ (t < j ∧ gc_Q s W E i t)))
section
variable {m i j : Nat} {s x : Int32} {W : Nat → Prop} {E : Nat → Nat → Prop}
theorem gc_O_0 : gc_O m s W E 0 s := fun t _ => ⟨Or.inl, fun z => z.elim id fun ⟨_, k, hk, _⟩ => absurd hk (Nat.not_lt_zero k)⟩
theorem gc_N_0 (h : gc_O m s W E i x) : gc_N m s W E i 0 x := fun t ht => (h t ht).trans
  ⟨fun z => z.elim Or.inl fun q => Or.inr (Or.inl q), fun z => z.elim Or.inl fun q => q.elim Or.inr fun r => absurd r.1 (Nat.not_lt_zero t)⟩
theorem gc_N_s (h : gc_N m s W E i j x) (hj : j < 32) (hq : gc_Q s W E i j) : gc_N m s W E i (j + 1) (x ||| (1 : Int32) <<< (nI j &&& 31)) := by
  intro t ht
  rw [gc_or_b, h t ht, gc_bit2 hj ht, nI_eq (by omega) (by omega)]
  constructor
  · rintro ((z | z | z) | z)
    · exact Or.inl z
    · exact Or.inr (Or.inl z)
    · exact Or.inr (Or.inr ⟨by omega, z.2⟩)
    · subst z
      exact Or.inr (Or.inr ⟨by omega, hq⟩)
  · rintro (z | z | z)
    · exact Or.inl (Or.inl z)
    · exact Or.inl (Or.inr (Or.inl z))
    · rcases Nat.lt_or_ge t j with y | y
      · exact Or.inl (Or.inr (Or.inr ⟨y, z.2⟩))
      · exact Or.inr (by omega)
theorem gc_N_k (h : gc_N m s W E i j x) (hq : ¬ gc_Q s W E i j) : gc_N m s W E i (j + 1) x := by
  intro t ht
  rw [h t ht]
  constructor
  · rintro (z | z | z)
    · exact Or.inl z
    · exact Or.inr (Or.inl z)
    · exact Or.inr (Or.inr ⟨by omega, z.2⟩)
  · rintro (z | z | z)
    · exact Or.inl z
    · exact Or.inr (Or.inl z)
    · rcases Nat.lt_or_ge t j with y | y
      · exact Or.inr (Or.inr ⟨y, z.2⟩)
      · have e : t = j := by omega
        subst e
        exact absurd z.2 hq
theorem gc_N_e (h : gc_N m s W E i m x) : gc_O m s W E (i + 1) x := by
  intro t ht
  rw [h t ht]
  constructor
  · rintro (z | ⟨z, k, hk, q⟩ | ⟨z, q⟩)
    · exact Or.inl z
    · exact Or.inr ⟨z, k, by omega, q⟩
    · exact Or.inr ⟨z, i, by omega, q⟩
  · rintro (z | ⟨z, k, hk, q⟩)
    · exact Or.inl z
    · rcases Nat.lt_or_ge k i with y | y
      · exact Or.inr (Or.inl ⟨z, k, y, q⟩)
      · have e : k = i := by omega
        subst e
        exact Or.inr (Or.inr ⟨z, q⟩)
theorem gc_O_e (h : gc_O m s W E m x) : gc_Wd m W E s x := fun t ht => (h t ht).trans
  ⟨fun z => z.elim Or.inl fun ⟨a, k, b, c⟩ => Or.inr ⟨a, k, b, c.1, c.2.1, c.2.2⟩, fun z => z.elim Or.inl fun ⟨a, k, b, c1, c2, c3⟩ => Or.inr ⟨a, k, b, c1, c2, c3⟩⟩
end

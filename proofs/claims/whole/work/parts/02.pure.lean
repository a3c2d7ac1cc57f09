/-! counting, the pigeonhole, liveness as a least set -/
noncomputable def gc_b (P : Prop) : Nat := @ite Nat P (Classical.propDecidable P) 1 0
theorem gc_b_t {P : Prop} (h : P) : gc_b P = 1 := by unfold gc_b; rw [if_pos h]
theorem gc_b_f {P : Prop} (h : ¬ P) : gc_b P = 0 := by unfold gc_b; rw [if_neg h]
theorem gc_b_le (P : Prop) : gc_b P ≤ 1 := by
  rcases Classical.em P with h | h
  · rw [gc_b_t h]; omega
  · rw [gc_b_f h]; omega
theorem gc_b_mono {P Q : Prop} (h : P → Q) : gc_b P ≤ gc_b Q := by
  rcases Classical.em P with hp | hp
  · rw [gc_b_t hp, gc_b_t (h hp)]; omega
  · rw [gc_b_f hp]; omega
noncomputable def gc_cn (P : Nat → Prop) : Nat → Nat
  | 0 => 0
  | k + 1 => gc_cn P k + gc_b (P k)
theorem gc_cn_mono {P Q : Nat → Prop} : ∀ {N : Nat}, (∀ k, k < N → P k → Q k) → gc_cn P N ≤ gc_cn Q N
  | 0, _ => Nat.le_refl _
  | N + 1, h => by
    have a := gc_cn_mono (P := P) (Q := Q) (N := N) (fun k hk => h k (by omega))
    have b := gc_b_mono (h N (by omega))
    simp only [gc_cn]; omega
theorem gc_cn_lt {P Q : Nat → Prop} {a : Nat} (hp : ¬ P a) (hq : Q a) : ∀ {N : Nat}, (∀ k, k < N → P k → Q k) → a < N → gc_cn P N < gc_cn Q N
  | 0, _, h => by omega
  | N + 1, h, ha => by
    simp only [gc_cn]
    rcases Nat.lt_or_ge a N with z | z
    · have x := gc_cn_lt hp hq (N := N) (fun k hk => h k (by omega)) z
      have b := gc_b_mono (h N (by omega))
      omega
    · have e : a = N := by omega
      subst e
      have x := gc_cn_mono (P := P) (Q := Q) (N := a) (fun k hk => h k (by omega))
      rw [gc_b_t hq, gc_b_f hp]; omega
theorem gc_cn_le (P : Nat → Prop) : ∀ N, gc_cn P N ≤ N
  | 0 => Nat.le_refl _
  | N + 1 => by have := gc_cn_le P N; have := gc_b_le (P N); simp only [gc_cn]; omega
theorem gc_cn_pos {P : Nat → Prop} {a N : Nat} (h : P a) (ha : a < N) : 0 < gc_cn P N :=
  Nat.lt_of_le_of_lt (Nat.zero_le _) (gc_cn_lt (P := fun _ => False) (fun z => z) h (fun _ _ z => z.elim) ha)
theorem gc_pig (f : Nat → Nat → Prop) (n : Nat) (mono : ∀ k i, f k i → f (k + 1) i)
    (st : ∀ k, (∀ i, i < n → f (k + 1) i → f k i) → ∀ i, i < n → f (k + 2) i → f (k + 1) i) :
    ∀ k i, i < n → f k i → f n i := by
  have ex : ∀ k, (∀ i, i < n → f (k + 1) i → f k i) ∨ gc_cn (f k) n < gc_cn (f (k + 1)) n := by
    intro k
    rcases Classical.em (∀ i, i < n → f (k + 1) i → f k i) with h | h
    · exact Or.inl h
    · refine Or.inr ?_
      have ⟨i, hi, h1, h2⟩ : ∃ i, i < n ∧ f (k + 1) i ∧ ¬ f k i :=
        Classical.byContradiction fun z => h fun i hi h1 => Classical.byContradiction fun h2 => z ⟨i, hi, h1, h2⟩
      exact gc_cn_lt h2 h1 (fun j _ => mono k j) hi
  have A : ∀ k, (∀ i, i < n → f (k + 1) i → f k i) ∨ k + 1 ≤ gc_cn (f (k + 1)) n := by
    intro k
    induction k with
    | zero =>
      rcases ex 0 with h | h
      · exact Or.inl h
      · exact Or.inr (Nat.lt_of_le_of_lt (Nat.zero_le _) h)
    | succ k ih =>
      rcases ih with h | h
      · exact Or.inl (st k h)
      · rcases ex (k + 1) with h1 | h1
        · exact Or.inl h1
        · exact Or.inr (Nat.lt_of_le_of_lt h h1)
  have hn : ∀ i, i < n → f (n + 1) i → f n i := by
    rcases A n with h | h
    · exact h
    · have := gc_cn_le (f (n + 1)) n
      omega
  have S : ∀ m, ∀ i, i < n → f (n + m + 1) i → f (n + m) i := by
    intro m
    induction m with
    | zero => exact hn
    | succ m ih => exact st (n + m) ih
  have T : ∀ m i, i < n → f (n + m) i → f n i := by
    intro m
    induction m with
    | zero => intro i _ h; exact h
    | succ m ih => intro i hi h; exact ih i hi (S m i hi h)
  have U : ∀ m k i, f k i → f (k + m) i := by
    intro m
    induction m with
    | zero => intro k i h; exact h
    | succ m ih => intro k i h; exact mono _ _ (ih k i h)
  intro k i hi h
  rcases Nat.le_total k n with hk | hk
  · have e : k + (n - k) = n := by omega
    have := U (n - k) k i h
    rw [e] at this
    exact this
  · have e : n + (k - n) = k := by omega
    rw [← e] at h
    exact T (k - n) i hi h
/-- live within k instructions -/
def gc_Lv (n : Nat) (R W : Nat → Prop) (E : Nat → Nat → Prop) : Nat → Nat → Prop
  | 0 => fun _ => False
  | k + 1 => fun i => R i ∨ (¬ W i ∧ ∃ j, j < n ∧ E i j ∧ gc_Lv n R W E k j)
def gc_Live (n : Nat) (R W : Nat → Prop) (E : Nat → Nat → Prop) (i : Nat) : Prop := ∃ k, gc_Lv n R W E k i
theorem gc_Lv_mono {n : Nat} {R W : Nat → Prop} {E : Nat → Nat → Prop} : ∀ k i, gc_Lv n R W E k i → gc_Lv n R W E (k + 1) i := by
  intro k
  induction k with
  | zero => intro i h; exact False.elim h
  | succ k ih =>
    intro i h
    rcases h with h | ⟨hw, j, hj, he, hl⟩
    · exact Or.inl h
    · exact Or.inr ⟨hw, j, hj, he, ih j hl⟩
theorem gc_Lv_all {n : Nat} {R W : Nat → Prop} {E : Nat → Nat → Prop} {i : Nat} (hi : i < n) (h : gc_Live n R W E i) : gc_Lv n R W E n i := by
  obtain ⟨k, hk⟩ := h
  refine gc_pig (gc_Lv n R W E) n gc_Lv_mono ?_ k i hi hk
  intro k hs i _ h
  rcases h with h | ⟨hw, j, hj, he, hl⟩
  · exact Or.inl h
  · exact Or.inr ⟨hw, j, hj, he, hs j hj hl⟩
theorem gc_Live_R {n : Nat} {R W : Nat → Prop} {E : Nat → Nat → Prop} {i : Nat} (h : R i) : gc_Live n R W E i := ⟨1, Or.inl h⟩
theorem gc_Live_E {n : Nat} {R W : Nat → Prop} {E : Nat → Nat → Prop} {i j : Nat} (hw : ¬ W i) (hj : j < n) (he : E i j) (h : gc_Live n R W E j) : gc_Live n R W E i := by
  obtain ⟨k, hk⟩ := h
  exact ⟨k + 1, Or.inr ⟨hw, j, hj, he, hk⟩⟩
theorem gc_closed {n : Nat} {R W T : Nat → Prop} {E : Nat → Nat → Prop} (hT : ∀ i j, i < n → T i → ¬ W i → j < n → E i j → T j) :
    ∀ k i, i < n → T i → gc_Lv n R W E k i → ∃ j, j < n ∧ T j ∧ R j := by
  intro k
  induction k with
  | zero => intro i _ _ h; exact False.elim h
  | succ k ih =>
    intro i hi ht h
    rcases h with h | ⟨hw, j, hj, he, hl⟩
    · exact ⟨i, hi, ht, h⟩
    · exact ih j hj (hT i j hi ht hw hj he) hl
theorem gc_noR {n : Nat} {R W : Nat → Prop} {E : Nat → Nat → Prop} (hR : ∀ i, ¬ R i) : ∀ k i, ¬ gc_Lv n R W E k i := by
  intro k
  induction k with
  | zero => intro i h; exact h
  | succ k ih =>
    intro i h
    rcases h with h | ⟨hw, j, hj, he, hl⟩
    · exact hR i h
    · exact ih j hl

/-! the sweep's sets and the search's set against the least set -/
theorem gc_bit : ∀ y, y < 32 → ∀ v, v < 32 → bt ((1 : Int32) <<< (nI y &&& 31)) v = decide (v = y) := by decide +kernel
def gc_Inv (n : Nat) (R W : Nat → Nat → Prop) (E : Nat → Nat → Prop) (p i : Nat) (L : Nat → Int32) : Prop :=
  (∀ j v, j < n → v < 32 → bt (L j) v = true → gc_Live n (R v) (W v) E j) ∧
  (∀ j v, j < n → v < 32 → gc_Lv n (R v) (W v) E p j → bt (L j) v = true) ∧
  (∀ j v, i ≤ j → j < n → v < 32 → gc_Lv n (R v) (W v) E (p + 1) j → bt (L j) v = true)
theorem gc_Inv0 {n : Nat} {R W : Nat → Nat → Prop} {E : Nat → Nat → Prop} {L : Nat → Int32} (h : ∀ j, j < n → L j = 0) : gc_Inv n R W E 0 n L :=
  ⟨fun j v hj _ hb => by rw [h j hj, b_0] at hb; exact absurd hb (by decide), fun j v _ _ z => False.elim z, fun j v h1 h2 => absurd h2 (Nat.not_lt.mpr h1)⟩
theorem gc_InvS {n p i : Nat} {R W : Nat → Nat → Prop} {E : Nat → Nat → Prop} {L : Nat → Int32} {x : Int32} (h : gc_Inv n R W E p (i + 1) L)
    (hx : ∀ v, v < 32 → (bt x v = true ↔ R v i ∨ (¬ W v i ∧ ∃ j, j < n ∧ E i j ∧ bt (L j) v = true))) : gc_Inv n R W E p i (upd L i x) := by
  obtain ⟨h1, h2, h3⟩ := h
  have key : ∀ v, v < 32 → gc_Lv n (R v) (W v) E (p + 1) i → bt x v = true := by
    intro v hv hl
    refine (hx v hv).mpr ?_
    rcases hl with hl | ⟨hw, j, hj, he, hl⟩
    · exact Or.inl hl
    · exact Or.inr ⟨hw, j, hj, he, h2 j v hj hv hl⟩
  refine ⟨fun j v hj hv hb => ?_, fun j v hj hv hl => ?_, fun j v hij hj hv hl => ?_⟩
  · by_cases e : j = i
    · subst e
      rw [pk_us] at hb
      rcases (hx v hv).mp hb with hr | ⟨hw, k, hk, he, hb'⟩
      · exact gc_Live_R hr
      · exact gc_Live_E hw hk he (h1 k v hk hv hb')
    · rw [pk_un e] at hb
      exact h1 j v hj hv hb
  · by_cases e : j = i
    · subst e
      rw [pk_us]
      exact key v hv (gc_Lv_mono _ _ hl)
    · rw [pk_un e]
      exact h2 j v hj hv hl
  · by_cases e : j = i
    · subst e
      rw [pk_us]
      exact key v hv hl
    · rw [pk_un e]
      exact h3 j v (by omega) hj hv hl
theorem gc_InvP {n p : Nat} {R W : Nat → Nat → Prop} {E : Nat → Nat → Prop} {L : Nat → Int32} (h : gc_Inv n R W E p 0 L) : gc_Inv n R W E (p + 1) n L :=
  ⟨h.1, fun j v hj hv hl => h.2.2 j v (Nat.zero_le _) hj hv hl, fun j v h1 h2 => absurd h2 (Nat.not_lt.mpr h1)⟩
theorem gc_InvE {n : Nat} {R W : Nat → Nat → Prop} {E : Nat → Nat → Prop} {L : Nat → Int32} (h : gc_Inv n R W E n n L) {j v : Nat} (hj : j < n) (hv : v < 32) :
    bt (L j) v = true ↔ gc_Live n (R v) (W v) E j := ⟨h.1 j v hj hv, fun z => h.2.1 j v hj hv (gc_Lv_all hj z)⟩
/-- m is s widened by one step -/
def gc_Wd (n : Nat) (W : Nat → Prop) (E : Nat → Nat → Prop) (s m : Int32) : Prop :=
  ∀ j, j < 32 → (bt m j = true ↔ bt s j = true ∨ (j < n ∧ ∃ i, i < n ∧ bt s i = true ∧ ¬ W i ∧ E i j))
def gc_J (n : Nat) (R W : Nat → Prop) (E : Nat → Nat → Prop) (i0 r : Nat) (s l : Int32) : Prop :=
  bt s i0 = true ∧ (∀ j, j < 32 → bt s j = true → j < n ∧ (gc_Live n R W E j → gc_Live n R W E i0)) ∧
  (s = l → ∀ i j, i < n → bt s i = true → ¬ W i → j < n → E i j → bt s j = true) ∧
  (s ≠ l → r + 1 ≤ gc_cn (fun j => bt s j = true) 32)
theorem gc_J0 {n : Nat} {R W : Nat → Prop} {E : Nat → Nat → Prop} {i0 : Nat} (hn : n ≤ 32) (hi : i0 < n) : gc_J n R W E i0 0 ((1 : Int32) <<< (nI i0 &&& 31)) 0 := by
  have hb : bt ((1 : Int32) <<< (nI i0 &&& 31)) i0 = true := by
    rw [gc_bit i0 (by omega) i0 (by omega)]
    exact decide_eq_true rfl
  refine ⟨hb, fun j hj h => ?_, fun e => ?_, fun _ => gc_cn_pos hb (by omega)⟩
  · rw [gc_bit i0 (by omega) j hj] at h
    have e := of_decide_eq_true h
    subst e
    exact ⟨hi, fun z => z⟩
  · rw [e, b_0] at hb
    exact absurd hb (by decide)
theorem gc_JS {n : Nat} {R W : Nat → Prop} {E : Nat → Nat → Prop} {i0 r : Nat} {s l m : Int32} (hn : n ≤ 32) (h : gc_J n R W E i0 r s l) (hi : i0 < n) (hne : s ≠ l) (hm : gc_Wd n W E s m) :
    gc_J n R W E i0 (r + 1) m s := by
  obtain ⟨h1, h2, _, h4⟩ := h
  refine ⟨(hm i0 (by omega)).mpr (Or.inl h1), fun j hj hb => ?_, fun e i j hi hb hw hj he => ?_, fun e => ?_⟩
  · rcases (hm j hj).mp hb with hb | ⟨hjn, i, hin, hb, hw, he⟩
    · exact h2 j hj hb
    · exact ⟨hjn, fun z => (h2 i (by omega) hb).2 (gc_Live_E hw hjn he z)⟩
  · subst e
    exact (hm j (by omega)).mpr (Or.inr ⟨hj, i, hi, hb, hw, he⟩)
  · have ⟨j, hj, hb⟩ : ∃ j, j < 32 ∧ bt m j ≠ bt s j :=
      Classical.byContradiction fun z => e (b_ext fun j hj => Classical.byContradiction fun q => z ⟨j, hj, q⟩)
    have hs : bt s j ≠ true := fun z => hb ((((hm j hj).mpr (Or.inl z))).trans z.symm)
    have hmj : bt m j = true := by
      cases hq : bt m j
      · exact absurd (hq.trans (Bool.eq_false_iff.mpr hs).symm) hb
      · rfl
    have := gc_cn_lt (P := fun j => bt s j = true) (Q := fun j => bt m j = true) hs hmj (N := 32) (fun k hk z => (hm k hk).mpr (Or.inl z)) hj
    have := h4 hne
    omega
theorem gc_JE {n : Nat} {R W : Nat → Prop} {E : Nat → Nat → Prop} {i0 r : Nat} {s l : Int32} (hn : n ≤ 32) (hi : i0 < n) (h : gc_J n R W E i0 r s l) (he : s = l ∨ 32 ≤ r) :
    (∃ j, j < n ∧ bt s j = true ∧ R j) ↔ gc_Live n R W E i0 := by
  obtain ⟨h1, h2, h3, h4⟩ := h
  have e : s = l := by
    rcases Classical.em (s = l) with z | z
    · exact z
    · have := h4 z
      have := gc_cn_le (fun j => bt s j = true) 32
      rcases he with he | he
      · exact he
      · omega
  constructor
  · rintro ⟨j, hj, hb, hr⟩
    exact (h2 j (by omega) hb).2 (gc_Live_R hr)
  · rintro ⟨k, hk⟩
    exact gc_closed (T := fun j => bt s j = true) (h3 e) k i0 hi h1 hk

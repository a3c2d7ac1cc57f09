section
/-! rows pasted from the kit (kit/rows) -/
theorem pk_us {f : Nat → Int32} {k : Nat} {x : Int32} : upd f k x k = x := if_pos rfl
theorem pk_un {f : Nat → Int32} {k j : Nat} {x : Int32} (h : j ≠ k) : upd f k x j = f j := if_neg h
theorem pk_sub {a b : Nat} (h : b ≤ a) : nI a - nI b = nI (a - b) := by
  obtain ⟨c, rfl⟩ : ∃ c, a = c + b := ⟨a - b, by omega⟩
  rw [← nI_add, Int32.add_sub_cancel, Nat.add_sub_cancel]
theorem pk_m1 (n : Nat) : nI (n + 1) + (-1) = nI n := by
  rw [← nI_1, Int32.add_assoc, show (1 : Int32) + (-1) = 0 from rfl, Int32.add_zero]
theorem pk_ix (x : Int32) {n : Nat} (hn : n < 2 ^ 31) : x < 0 ∨ nI n ≤ x ∨ ∃ j : Nat, j < n ∧ x = nI j := by
  by_cases h : x < 0
  · exact Or.inl h
  · obtain ⟨j, hj, rfl⟩ := nI_of h
    by_cases h2 : j < n
    · exact Or.inr (Or.inr ⟨j, h2, rfl⟩)
    · exact Or.inr (Or.inl (nI_le (by omega) hj))
theorem pk_le {x y : Int32} {A B : Prop} (a b : Nat) (f : a ≤ b → A) (g : b < a → B) (hx : x = nI a := by rfl) (hy : y = nI b := by rfl) (ha : a < 2 ^ 31 := by omega) (hb : b < 2 ^ 31 := by omega) : (x ≤ y → A) ∧ (¬ x ≤ y → B) := by
  subst hx hy
  rw [nI_leI ha hb]
  exact ⟨f, fun z => g (by omega)⟩
theorem pk_lt {x y : Int32} {A B : Prop} (a b : Nat) (f : a < b → A) (g : b ≤ a → B) (hx : x = nI a := by rfl) (hy : y = nI b := by rfl) (ha : a < 2 ^ 31 := by omega) (hb : b < 2 ^ 31 := by omega) : (x < y → A) ∧ (¬ x < y → B) := by
  subst hx hy
  rw [nI_ltI ha hb]
  exact ⟨f, fun z => g (by omega)⟩
theorem pk_eq {x y : Int32} {A B : Prop} (a b : Nat) (f : a = b → A) (g : a ≠ b → B) (hx : x = nI a := by rfl) (hy : y = nI b := by rfl) (ha : a < 2 ^ 31 := by omega) (hb : b < 2 ^ 31 := by omega) : (x = y → A) ∧ (¬ x = y → B) := by
  subst hx hy
  rw [nI_eq ha hb]
  exact ⟨f, g⟩
theorem pk_in {x : Int32} (n N : Nat) (h : n < N) (hx : x = nI n := by rfl) (hN : N < 2 ^ 31 := by omega) : vp_in x N := by
  subst hx
  exact vp_in_nI h hN
theorem pk_cl {x : Int32} (n : Nat) (hx : x = nI n := by rfl) (h : n < 2 ^ 31 := by omega) : x.toNatClampNeg = n := by
  subst hx
  exact nI_clamp h
theorem pk_loop {σ : Type} (W : Nat → Nat → σ → Prop) (I : Nat → σ → Prop) (e i0 : Nat) (s : σ) (hi : i0 ≤ e) (h0 : I i0 s) (hx : ∀ n s, I e s → W (n + 1) e s)
    (hs : ∀ n i s, i < e → I i s → (∀ s', I (i + 1) s' → W n (i + 1) s') → W (n + 1) i s) : ∃ n, W n i0 s :=
  ⟨e + 1, loop_i W I e hx hs (e + 1) i0 s hi (by omega) h0⟩
theorem pk_loopD {σ : Type} (W : Nat → Nat → σ → Prop) (I : Nat → σ → Prop) (hx : ∀ n s, I 0 s → W (n + 1) 0 s)
    (hs : ∀ n i s, I (i + 1) s → (∀ s', I i s' → W n i s') → W (n + 1) (i + 1) s) : ∀ (e : Nat) (s : σ), I e s → W (e + 1) e s := by
  intro e
  induction e with
  | zero => exact fun s h => hx 0 s h
  | succ e ih => exact fun s h => hs (e + 1) e s h (fun s' h' => ih s' h')
def bt (x : Int32) (i : Nat) : Bool := x.toBitVec.getLsbD i
theorem b_ext {x y : Int32} (h : ∀ i, i < 32 → bt x i = bt y i) : x = y := Int32.toBitVec_inj.mp (BitVec.eq_of_getLsbD_eq (fun i hi => h i hi))
theorem b_or (x y : Int32) (i : Nat) : bt (x ||| y) i = (bt x i || bt y i) := by unfold bt; rw [Int32.toBitVec_or, BitVec.getLsbD_or]
theorem b_and (x y : Int32) (i : Nat) : bt (x &&& y) i = (bt x i && bt y i) := by unfold bt; rw [Int32.toBitVec_and, BitVec.getLsbD_and]
theorem b_xor (x y : Int32) (i : Nat) : bt (x ^^^ y) i = (bt x i ^^ bt y i) := by unfold bt; rw [Int32.toBitVec_xor, BitVec.getLsbD_xor]
theorem b_big {x : Int32} {i : Nat} (h : 32 ≤ i) : bt x i = false := BitVec.getLsbD_of_ge _ _ h
theorem b_m1 : ∀ i, i < 32 → bt (-1) i = true := by decide +kernel
theorem b_0 (i : Nat) : bt 0 i = false := BitVec.getLsbD_zero
theorem s_l : ∀ n, n < 32 → ((nI n &&& 31).toBitVec.smod 32).toNat = n := by decide +kernel
theorem s_u : ∀ n, n < 32 → (((nI n).toUInt32 &&& Int32.toUInt32 31).toBitVec % 32).toNat = n := by decide +kernel
theorem b_shl (n : Nat) (hn : n < 32) (x : Int32) {i : Nat} (hi : i < 32) : bt (x <<< (nI n &&& 31)) i = (decide (n ≤ i) && bt x (i - n)) := by
  unfold bt
  rw [Int32.toBitVec_shiftLeft]
  show (x.toBitVec <<< ((nI n &&& 31).toBitVec.smod 32).toNat).getLsbD i = _
  rw [s_l n hn, BitVec.getLsbD_shiftLeft]
  rcases Nat.lt_or_ge i n with h | h
  · simp [h, Nat.not_le.mpr h]
  · simp [hi, h, Nat.not_lt.mpr h]
theorem b_ushr (n : Nat) (hn : n < 32) (x : Int32) (i : Nat) : bt ((x.toUInt32 >>> ((nI n).toUInt32 &&& Int32.toUInt32 31)).toInt32) i = bt x (n + i) := by
  show (x.toUInt32 >>> ((nI n).toUInt32 &&& Int32.toUInt32 31)).toBitVec.getLsbD i = x.toUInt32.toBitVec.getLsbD (n + i)
  rw [UInt32.toBitVec_shiftRight]
  show (x.toUInt32.toBitVec >>> (((nI n).toUInt32 &&& Int32.toUInt32 31).toBitVec % 32).toNat).getLsbD i = _
  rw [s_u n hn, BitVec.getLsbD_ushiftRight]
end
section
/-! counting, the pigeonhole, liveness as a least set -/
noncomputable def gc_b (P : Prop) : Nat := @ite Nat P (Classical.propDecidable P) 1 0
theorem gc_b_t {P : Prop} (h : P) : gc_b P = 1 := by unfold gc_b; rw [if_pos h]
theorem gc_b_f {P : Prop} (h : ¬ P) : gc_b P = 0 := by unfold gc_b; rw [if_neg h]
theorem gc_b_le (P : Prop) : gc_b P ≤ 1 := by
  rcases Classical.em P with h | h
  · rw [gc_b_t h]; omega
  · rw [gc_b_f h]; omega
theorem gc_b_mono {P Q : Prop} (h : P → Q) : gc_b P ≤ gc_b Q := by
  rcases Classical.em P with hp | hp
  · rw [gc_b_t hp, gc_b_t (h hp)]; omega
  · rw [gc_b_f hp]; omega
noncomputable def gc_cn (P : Nat → Prop) : Nat → Nat
  | 0 => 0
  | k + 1 => gc_cn P k + gc_b (P k)
theorem gc_cn_mono {P Q : Nat → Prop} : ∀ {N : Nat}, (∀ k, k < N → P k → Q k) → gc_cn P N ≤ gc_cn Q N
  | 0, _ => Nat.le_refl _
  | N + 1, h => by
    have a := gc_cn_mono (P := P) (Q := Q) (N := N) (fun k hk => h k (by omega))
    have b := gc_b_mono (h N (by omega))
    simp only [gc_cn]; omega
theorem gc_cn_lt {P Q : Nat → Prop} {a : Nat} (hp : ¬ P a) (hq : Q a) : ∀ {N : Nat}, (∀ k, k < N → P k → Q k) → a < N → gc_cn P N < gc_cn Q N
  | 0, _, h => by omega
  | N + 1, h, ha => by
    simp only [gc_cn]
    rcases Nat.lt_or_ge a N with z | z
    · have x := gc_cn_lt hp hq (N := N) (fun k hk => h k (by omega)) z
      have b := gc_b_mono (h N (by omega))
      omega
    · have e : a = N := by omega
      subst e
      have x := gc_cn_mono (P := P) (Q := Q) (N := a) (fun k hk => h k (by omega))
      rw [gc_b_t hq, gc_b_f hp]; omega
theorem gc_cn_le (P : Nat → Prop) : ∀ N, gc_cn P N ≤ N
  | 0 => Nat.le_refl _
  | N + 1 => by have := gc_cn_le P N; have := gc_b_le (P N); simp only [gc_cn]; omega
theorem gc_cn_pos {P : Nat → Prop} {a N : Nat} (h : P a) (ha : a < N) : 0 < gc_cn P N :=
  Nat.lt_of_le_of_lt (Nat.zero_le _) (gc_cn_lt (P := fun _ => False) (fun z => z) h (fun _ _ z => z.elim) ha)
theorem gc_pig (f : Nat → Nat → Prop) (n : Nat) (mono : ∀ k i, f k i → f (k + 1) i)
    (st : ∀ k, (∀ i, i < n → f (k + 1) i → f k i) → ∀ i, i < n → f (k + 2) i → f (k + 1) i) :
    ∀ k i, i < n → f k i → f n i := by
  have ex : ∀ k, (∀ i, i < n → f (k + 1) i → f k i) ∨ gc_cn (f k) n < gc_cn (f (k + 1)) n := by
    intro k
    rcases Classical.em (∀ i, i < n → f (k + 1) i → f k i) with h | h
    · exact Or.inl h
    · refine Or.inr ?_
      have ⟨i, hi, h1, h2⟩ : ∃ i, i < n ∧ f (k + 1) i ∧ ¬ f k i :=
        Classical.byContradiction fun z => h fun i hi h1 => Classical.byContradiction fun h2 => z ⟨i, hi, h1, h2⟩
      exact gc_cn_lt h2 h1 (fun j _ => mono k j) hi
  have A : ∀ k, (∀ i, i < n → f (k + 1) i → f k i) ∨ k + 1 ≤ gc_cn (f (k + 1)) n := by
    intro k
    induction k with
    | zero =>
      rcases ex 0 with h | h
      · exact Or.inl h
      · exact Or.inr (Nat.lt_of_le_of_lt (Nat.zero_le _) h)
    | succ k ih =>
      rcases ih with h | h
      · exact Or.inl (st k h)
      · rcases ex (k + 1) with h1 | h1
        · exact Or.inl h1
        · exact Or.inr (Nat.lt_of_le_of_lt h h1)
  have hn : ∀ i, i < n → f (n + 1) i → f n i := by
    rcases A n with h | h
    · exact h
    · have := gc_cn_le (f (n + 1)) n
      omega
  have S : ∀ m, ∀ i, i < n → f (n + m + 1) i → f (n + m) i := by
    intro m
    induction m with
    | zero => exact hn
    | succ m ih => exact st (n + m) ih
  have T : ∀ m i, i < n → f (n + m) i → f n i := by
    intro m
    induction m with
    | zero => intro i _ h; exact h
    | succ m ih => intro i hi h; exact ih i hi (S m i hi h)
  have U : ∀ m k i, f k i → f (k + m) i := by
    intro m
    induction m with
    | zero => intro k i h; exact h
    | succ m ih => intro k i h; exact mono _ _ (ih k i h)
  intro k i hi h
  rcases Nat.le_total k n with hk | hk
  · have e : k + (n - k) = n := by omega
    have := U (n - k) k i h
    rw [e] at this
    exact this
  · have e : n + (k - n) = k := by omega
    rw [← e] at h
    exact T (k - n) i hi h
/-- live within k instructions -/
def gc_Lv (n : Nat) (R W : Nat → Prop) (E : Nat → Nat → Prop) : Nat → Nat → Prop
  | 0 => fun _ => False
  | k + 1 => fun i => R i ∨ (¬ W i ∧ ∃ j, j < n ∧ E i j ∧ gc_Lv n R W E k j)
def gc_Live (n : Nat) (R W : Nat → Prop) (E : Nat → Nat → Prop) (i : Nat) : Prop := ∃ k, gc_Lv n R W E k i
theorem gc_Lv_mono {n : Nat} {R W : Nat → Prop} {E : Nat → Nat → Prop} : ∀ k i, gc_Lv n R W E k i → gc_Lv n R W E (k + 1) i := by
  intro k
  induction k with
  | zero => intro i h; exact False.elim h
  | succ k ih =>
    intro i h
    rcases h with h | ⟨hw, j, hj, he, hl⟩
    · exact Or.inl h
    · exact Or.inr ⟨hw, j, hj, he, ih j hl⟩
theorem gc_Lv_all {n : Nat} {R W : Nat → Prop} {E : Nat → Nat → Prop} {i : Nat} (hi : i < n) (h : gc_Live n R W E i) : gc_Lv n R W E n i := by
  obtain ⟨k, hk⟩ := h
  refine gc_pig (gc_Lv n R W E) n gc_Lv_mono ?_ k i hi hk
  intro k hs i _ h
  rcases h with h | ⟨hw, j, hj, he, hl⟩
  · exact Or.inl h
  · exact Or.inr ⟨hw, j, hj, he, hs j hj hl⟩
theorem gc_Live_R {n : Nat} {R W : Nat → Prop} {E : Nat → Nat → Prop} {i : Nat} (h : R i) : gc_Live n R W E i := ⟨1, Or.inl h⟩
theorem gc_Live_E {n : Nat} {R W : Nat → Prop} {E : Nat → Nat → Prop} {i j : Nat} (hw : ¬ W i) (hj : j < n) (he : E i j) (h : gc_Live n R W E j) : gc_Live n R W E i := by
  obtain ⟨k, hk⟩ := h
  exact ⟨k + 1, Or.inr ⟨hw, j, hj, he, hk⟩⟩
theorem gc_closed {n : Nat} {R W T : Nat → Prop} {E : Nat → Nat → Prop} (hT : ∀ i j, i < n → T i → ¬ W i → j < n → E i j → T j) :
    ∀ k i, i < n → T i → gc_Lv n R W E k i → ∃ j, j < n ∧ T j ∧ R j := by
  intro k
  induction k with
  | zero => intro i _ _ h; exact False.elim h
  | succ k ih =>
    intro i hi ht h
    rcases h with h | ⟨hw, j, hj, he, hl⟩
    · exact ⟨i, hi, ht, h⟩
    · exact ih j hj (hT i j hi ht hw hj he) hl
theorem gc_noR {n : Nat} {R W : Nat → Prop} {E : Nat → Nat → Prop} (hR : ∀ i, ¬ R i) : ∀ k i, ¬ gc_Lv n R W E k i := by
  intro k
  induction k with
  | zero => intro i h; exact h
  | succ k ih =>
    intro i h
    rcases h with h | ⟨hw, j, hj, he, hl⟩
    · exact hR i h
    · exact ih j hl
end
section
/-! the sweep's sets and the search's set against the least set -/
theorem gc_bit : ∀ y, y < 32 → ∀ v, v < 32 → bt ((1 : Int32) <<< (nI y &&& 31)) v = decide (v = y) := by decide +kernel
def gc_Inv (n : Nat) (R W : Nat → Nat → Prop) (E : Nat → Nat → Prop) (p i : Nat) (L : Nat → Int32) : Prop :=
  (∀ j v, j < n → v < 32 → bt (L j) v = true → gc_Live n (R v) (W v) E j) ∧
  (∀ j v, j < n → v < 32 → gc_Lv n (R v) (W v) E p j → bt (L j) v = true) ∧
  (∀ j v, i ≤ j → j < n → v < 32 → gc_Lv n (R v) (W v) E (p + 1) j → bt (L j) v = true)
theorem gc_Inv0 {n : Nat} {R W : Nat → Nat → Prop} {E : Nat → Nat → Prop} {L : Nat → Int32} (h : ∀ j, j < n → L j = 0) : gc_Inv n R W E 0 n L :=
  ⟨fun j v hj _ hb => by rw [h j hj, b_0] at hb; exact absurd hb (by decide), fun j v _ _ z => False.elim z, fun j v h1 h2 => absurd h2 (Nat.not_lt.mpr h1)⟩
theorem gc_InvS {n p i : Nat} {R W : Nat → Nat → Prop} {E : Nat → Nat → Prop} {L : Nat → Int32} {x : Int32} (h : gc_Inv n R W E p (i + 1) L)
    (hx : ∀ v, v < 32 → (bt x v = true ↔ R v i ∨ (¬ W v i ∧ ∃ j, j < n ∧ E i j ∧ bt (L j) v = true))) : gc_Inv n R W E p i (upd L i x) := by
  obtain ⟨h1, h2, h3⟩ := h
  have key : ∀ v, v < 32 → gc_Lv n (R v) (W v) E (p + 1) i → bt x v = true := by
    intro v hv hl
    refine (hx v hv).mpr ?_
    rcases hl with hl | ⟨hw, j, hj, he, hl⟩
    · exact Or.inl hl
    · exact Or.inr ⟨hw, j, hj, he, h2 j v hj hv hl⟩
  refine ⟨fun j v hj hv hb => ?_, fun j v hj hv hl => ?_, fun j v hij hj hv hl => ?_⟩
  · by_cases e : j = i
    · subst e
      rw [pk_us] at hb
      rcases (hx v hv).mp hb with hr | ⟨hw, k, hk, he, hb'⟩
      · exact gc_Live_R hr
      · exact gc_Live_E hw hk he (h1 k v hk hv hb')
    · rw [pk_un e] at hb
      exact h1 j v hj hv hb
  · by_cases e : j = i
    · subst e
      rw [pk_us]
      exact key v hv (gc_Lv_mono _ _ hl)
    · rw [pk_un e]
      exact h2 j v hj hv hl
  · by_cases e : j = i
    · subst e
      rw [pk_us]
      exact key v hv hl
    · rw [pk_un e]
      exact h3 j v (by omega) hj hv hl
theorem gc_InvP {n p : Nat} {R W : Nat → Nat → Prop} {E : Nat → Nat → Prop} {L : Nat → Int32} (h : gc_Inv n R W E p 0 L) : gc_Inv n R W E (p + 1) n L :=
  ⟨h.1, fun j v hj hv hl => h.2.2 j v (Nat.zero_le _) hj hv hl, fun j v h1 h2 => absurd h2 (Nat.not_lt.mpr h1)⟩
theorem gc_InvE {n : Nat} {R W : Nat → Nat → Prop} {E : Nat → Nat → Prop} {L : Nat → Int32} (h : gc_Inv n R W E n n L) {j v : Nat} (hj : j < n) (hv : v < 32) :
    bt (L j) v = true ↔ gc_Live n (R v) (W v) E j := ⟨h.1 j v hj hv, fun z => h.2.1 j v hj hv (gc_Lv_all hj z)⟩
/-- m is s widened by one step -/
def gc_Wd (n : Nat) (W : Nat → Prop) (E : Nat → Nat → Prop) (s m : Int32) : Prop :=
  ∀ j, j < 32 → (bt m j = true ↔ bt s j = true ∨ (j < n ∧ ∃ i, i < n ∧ bt s i = true ∧ ¬ W i ∧ E i j))
def gc_J (n : Nat) (R W : Nat → Prop) (E : Nat → Nat → Prop) (i0 r : Nat) (s l : Int32) : Prop :=
  bt s i0 = true ∧ (∀ j, j < 32 → bt s j = true → j < n ∧ (gc_Live n R W E j → gc_Live n R W E i0)) ∧
  (s = l → ∀ i j, i < n → bt s i = true → ¬ W i → j < n → E i j → bt s j = true) ∧
  (s ≠ l → r + 1 ≤ gc_cn (fun j => bt s j = true) 32)
theorem gc_J0 {n : Nat} {R W : Nat → Prop} {E : Nat → Nat → Prop} {i0 : Nat} (hn : n ≤ 32) (hi : i0 < n) : gc_J n R W E i0 0 ((1 : Int32) <<< (nI i0 &&& 31)) 0 := by
  have hb : bt ((1 : Int32) <<< (nI i0 &&& 31)) i0 = true := by
    rw [gc_bit i0 (by omega) i0 (by omega)]
    exact decide_eq_true rfl
  refine ⟨hb, fun j hj h => ?_, fun e => ?_, fun _ => gc_cn_pos hb (by omega)⟩
  · rw [gc_bit i0 (by omega) j hj] at h
    have e := of_decide_eq_true h
    subst e
    exact ⟨hi, fun z => z⟩
  · rw [e, b_0] at hb
    exact absurd hb (by decide)
theorem gc_JS {n : Nat} {R W : Nat → Prop} {E : Nat → Nat → Prop} {i0 r : Nat} {s l m : Int32} (hn : n ≤ 32) (h : gc_J n R W E i0 r s l) (hi : i0 < n) (hne : s ≠ l) (hm : gc_Wd n W E s m) :
    gc_J n R W E i0 (r + 1) m s := by
  obtain ⟨h1, h2, _, h4⟩ := h
  refine ⟨(hm i0 (by omega)).mpr (Or.inl h1), fun j hj hb => ?_, fun e i j hi hb hw hj he => ?_, fun e => ?_⟩
  · rcases (hm j hj).mp hb with hb | ⟨hjn, i, hin, hb, hw, he⟩
    · exact h2 j hj hb
    · exact ⟨hjn, fun z => (h2 i (by omega) hb).2 (gc_Live_E hw hjn he z)⟩
  · subst e
    exact (hm j (by omega)).mpr (Or.inr ⟨hj, i, hi, hb, hw, he⟩)
  · have ⟨j, hj, hb⟩ : ∃ j, j < 32 ∧ bt m j ≠ bt s j :=
      Classical.byContradiction fun z => e (b_ext fun j hj => Classical.byContradiction fun q => z ⟨j, hj, q⟩)
    have hs : bt s j ≠ true := fun z => hb ((((hm j hj).mpr (Or.inl z))).trans z.symm)
    have hmj : bt m j = true := by
      cases hq : bt m j
      · exact absurd (hq.trans (Bool.eq_false_iff.mpr hs).symm) hb
      · rfl
    have := gc_cn_lt (P := fun j => bt s j = true) (Q := fun j => bt m j = true) hs hmj (N := 32) (fun k hk z => (hm k hk).mpr (Or.inl z)) hj
    have := h4 hne
    omega
theorem gc_JE {n : Nat} {R W : Nat → Prop} {E : Nat → Nat → Prop} {i0 r : Nat} {s l : Int32} (hn : n ≤ 32) (hi : i0 < n) (h : gc_J n R W E i0 r s l) (he : s = l ∨ 32 ≤ r) :
    (∃ j, j < n ∧ bt s j = true ∧ R j) ↔ gc_Live n R W E i0 := by
  obtain ⟨h1, h2, h3, h4⟩ := h
  have e : s = l := by
    rcases Classical.em (s = l) with z | z
    · exact z
    · have := h4 z
      have := gc_cn_le (fun j => bt s j = true) 32
      rcases he with he | he
      · exact he
      · omega
  constructor
  · rintro ⟨j, hj, hb, hr⟩
    exact (h2 j (by omega) hb).2 (gc_Live_R hr)
  · rintro ⟨k, hk⟩
    exact gc_closed (T := fun j => bt s j = true) (h3 e) k i0 hi h1 hk
end
section
/-! the program's own reads, writes, ways -/
def gc_va (x : Int32) : Prop := ∃ j : Nat, j < 8 ∧ x = nI j
def gc_pl (x : Int32) : Prop := ∃ j : Nat, j < 32 ∧ x = nI j
def gc_wy (x : Int32) : Prop := ∃ j : Nat, 1 ≤ j ∧ j ≤ 4 ∧ x = nI j
def gc_ok (o a b c : Int32) : Prop :=
  (o = 0 ∧ gc_va a) ∨ (o = 1 ∧ gc_va a ∧ gc_va b) ∨ (o = 2 ∧ gc_va a ∧ gc_va b ∧ gc_va c) ∨ (o = 3 ∧ gc_va a ∧ gc_va b ∧ gc_va c) ∨
  (o = 4 ∧ gc_va a ∧ gc_va b ∧ gc_va c) ∨ (o = 5 ∧ gc_va a ∧ gc_va b ∧ gc_va c) ∨ (o = 6 ∧ gc_va a) ∨ (o = 7 ∧ gc_pl a) ∨
  (o = 8 ∧ gc_va a ∧ gc_pl b) ∨ (o = 9 ∧ gc_va a ∧ gc_pl b ∧ gc_wy c) ∨ o = 10
def gc_wf (o a b c : Nat → Int32) : Prop := ∀ i, gc_ok (o i) (a i) (b i) (c i)
def gc_R (o a b c : Nat → Int32) (v i : Nat) : Prop :=
  ((o i = 6 ∨ o i = 8 ∨ o i = 9) ∧ a i = nI v) ∨ ((1 ≤ o i ∧ o i ≤ 5) ∧ (b i = nI v ∨ (2 ≤ o i ∧ c i = nI v)))
def gc_W (o a : Nat → Int32) (v i : Nat) : Prop := o i ≤ 5 ∧ a i = nI v
def gc_E (o a b c : Nat → Int32) (i j : Nat) : Prop :=
  (o i = 7 ∧ nI j = a i) ∨ (o i ≠ 7 ∧ o i ≠ 10 ∧ (j = i + 1 ∨ (o i = 8 ∧ nI j = b i) ∨ (o i = 9 ∧ b i ≤ nI j ∧ nI j < b i + c i)))
def gc_LV (n : Nat) (o a b c : Nat → Int32) (v i : Nat) : Prop := gc_Live n (gc_R o a b c v) (gc_W o a v) (gc_E o a b c) i
theorem gc_va_iff (x : Int32) : gc_va x ↔ ¬ x < 0 ∧ x < 8 := by
  constructor
  · rintro ⟨j, hj, rfl⟩
    exact ⟨nI_pos (by omega), nI_lt (b := 8) hj (by decide)⟩
  · rintro ⟨h0, h8⟩
    rcases pk_ix x (n := 8) (by decide) with h | h | ⟨j, hj, e⟩
    · exact absurd h h0
    · exact absurd h8 (Int32.not_lt.mpr h)
    · exact ⟨j, hj, e⟩
theorem gc_pl_iff (x : Int32) : gc_pl x ↔ ¬ x < 0 ∧ x < 32 := by
  constructor
  · rintro ⟨j, hj, rfl⟩
    exact ⟨nI_pos (by omega), nI_lt (b := 32) hj (by decide)⟩
  · rintro ⟨h0, h8⟩
    rcases pk_ix x (n := 32) (by decide) with h | h | ⟨j, hj, e⟩
    · exact absurd h h0
    · exact absurd h8 (Int32.not_lt.mpr h)
    · exact ⟨j, hj, e⟩
theorem gc_wy_iff (x : Int32) : gc_wy x ↔ 1 ≤ x ∧ x ≤ 4 := by
  constructor
  · rintro ⟨j, h1, h4, rfl⟩
    exact ⟨nI_le (a := 1) h1 (by omega), nI_le (b := 4) h4 (by decide)⟩
  · rintro ⟨h1, h4⟩
    rcases pk_ix x (n := 5) (by decide) with h | h | ⟨j, hj, e⟩
    · exact absurd (Int32.lt_of_lt_of_le h (by decide : (0 : Int32) ≤ 1)) (Int32.not_lt.mpr h1)
    · exact absurd (Int32.le_trans h h4) (by decide)
    · refine ⟨j, ?_, by omega, e⟩
      rcases Nat.eq_zero_or_pos j with z | z
      · subst z
        rw [e] at h1
        exact absurd h1 (by decide)
      · exact z
end
section
/-! the ways out of an instruction, by its kind; bits -/
theorem gc_bit2 {y v : Nat} (hy : y < 32) (hv : v < 32) : bt ((1 : Int32) <<< (nI y &&& 31)) v = true ↔ nI y = nI v := by
  rw [gc_bit y hy v hv, decide_eq_true_iff, nI_eq (by omega) (by omega)]
  exact eq_comm
section
variable {o a b c : Nat → Int32} {m i : Nat} {P : Nat → Prop}
theorem gc_E7 {t : Nat} (e : o i = 7) (ea : a i = nI t) (ht : t < 32) (hm : m ≤ 32) : (∃ j, j < m ∧ gc_E o a b c i j ∧ P j) ↔ (t < m ∧ P t) := by
  constructor
  · rintro ⟨j, hj, hE, hp⟩
    rcases hE with ⟨_, he⟩ | ⟨h7, _⟩
    · rw [ea, nI_eq (by omega) (by omega)] at he
      subst he
      exact ⟨hj, hp⟩
    · exact absurd e h7
  · rintro ⟨ht', hp⟩
    exact ⟨t, ht', Or.inl ⟨e, ea.symm⟩, hp⟩
theorem gc_E10 (e : o i = 10) : ¬ (∃ j, j < m ∧ gc_E o a b c i j ∧ P j) := by
  rintro ⟨j, hj, hE, hp⟩
  rcases hE with ⟨h, _⟩ | ⟨_, h, _⟩
  · rw [e] at h
    exact absurd h (by decide)
  · exact h e
theorem gc_E8 {t : Nat} (e : o i = 8) (eb : b i = nI t) (ht : t < 32) (hm : m ≤ 32) : (∃ j, j < m ∧ gc_E o a b c i j ∧ P j) ↔ ((i + 1 < m ∧ P (i + 1)) ∨ (t < m ∧ P t)) := by
  have e7 : o i ≠ 7 := by rw [e]; decide
  have e10 : o i ≠ 10 := by rw [e]; decide
  constructor
  · rintro ⟨j, hj, hE, hp⟩
    rcases hE with ⟨h, _⟩ | ⟨_, _, h | ⟨_, h⟩ | ⟨h, _⟩⟩
    · exact absurd h e7
    · subst h
      exact Or.inl ⟨hj, hp⟩
    · rw [eb, nI_eq (by omega) (by omega)] at h
      subst h
      exact Or.inr ⟨hj, hp⟩
    · rw [e] at h
      exact absurd h (by decide)
  · rintro (⟨h, hp⟩ | ⟨h, hp⟩)
    · exact ⟨i + 1, h, Or.inr ⟨e7, e10, Or.inl rfl⟩, hp⟩
    · exact ⟨t, h, Or.inr ⟨e7, e10, Or.inr (Or.inl ⟨e, eb.symm⟩)⟩, hp⟩
theorem gc_E9 {t w : Nat} (e : o i = 9) (eb : b i = nI t) (ec : c i = nI w) (ht : t < 32) (hw : w ≤ 4) (hm : m ≤ 32) :
    (∃ j, j < m ∧ gc_E o a b c i j ∧ P j) ↔ ((i + 1 < m ∧ P (i + 1)) ∨ (∃ k, k < w ∧ t + k < m ∧ P (t + k))) := by
  have e7 : o i ≠ 7 := by rw [e]; decide
  have e10 : o i ≠ 10 := by rw [e]; decide
  constructor
  · rintro ⟨j, hj, hE, hp⟩
    rcases hE with ⟨h, _⟩ | ⟨_, _, h | ⟨h, _⟩ | ⟨_, h1, h2⟩⟩
    · exact absurd h e7
    · subst h
      exact Or.inl ⟨hj, hp⟩
    · rw [e] at h
      exact absurd h (by decide)
    · rw [eb, nI_leI (by omega) (by omega)] at h1
      rw [eb, ec, nI_add, nI_ltI (by omega) (by omega)] at h2
      obtain ⟨k, rfl⟩ : ∃ k, j = t + k := ⟨j - t, by omega⟩
      exact Or.inr ⟨k, by omega, hj, hp⟩
  · rintro (⟨h, hp⟩ | ⟨k, hk, h, hp⟩)
    · exact ⟨i + 1, h, Or.inr ⟨e7, e10, Or.inl rfl⟩, hp⟩
    · refine ⟨t + k, h, Or.inr ⟨e7, e10, Or.inr (Or.inr ⟨e, ?_, ?_⟩)⟩, hp⟩
      · rw [eb]
        exact nI_le (by omega) (by omega)
      · rw [eb, ec, nI_add]
        exact nI_lt (by omega) (by omega)
theorem gc_Es (e7 : o i ≠ 7) (e8 : o i ≠ 8) (e9 : o i ≠ 9) (e10 : o i ≠ 10) : (∃ j, j < m ∧ gc_E o a b c i j ∧ P j) ↔ (i + 1 < m ∧ P (i + 1)) := by
  constructor
  · rintro ⟨j, hj, hE, hp⟩
    rcases hE with ⟨h, _⟩ | ⟨_, _, h | ⟨h, _⟩ | ⟨h, _⟩⟩
    · exact absurd h e7
    · subst h
      exact ⟨hj, hp⟩
    · exact absurd h e8
    · exact absurd h e9
  · rintro ⟨h, hp⟩
    exact ⟨i + 1, h, Or.inr ⟨e7, e10, Or.inl rfl⟩, hp⟩
end
theorem gc_dm (k : Nat) : nI k + (-1) = nI k - 1 := (Int32.sub_eq_add_neg _ _).symm
theorem gc_z1 : nI 0 - 1 < 0 := by decide
/-- what a set holds at an instruction, nothing beyond the program -/
def gc_at (m : Nat) (L : Nat → Int32) (j : Nat) : Int32 := if j < m then L j else 0
theorem gc_at_b {m : Nat} {L : Nat → Int32} {j v : Nat} : bt (gc_at m L j) v = true ↔ (j < m ∧ bt (L j) v = true) := by
  unfold gc_at
  by_cases h : j < m
  · rw [if_pos h]
    exact ⟨fun z => ⟨h, z⟩, fun z => z.2⟩
  · rw [if_neg h, b_0]
    exact ⟨fun z => absurd z (by decide), fun z => absurd z.1 h⟩
theorem gc_or_b {x y : Int32} {v : Nat} : bt (x ||| y) v = true ↔ (bt x v = true ∨ bt y v = true) := by
  rw [b_or, Bool.or_eq_true]
theorem gc_new_b {x y z : Int32} {v : Nat} (hv : v < 32) : bt (x ||| (y &&& (z ^^^ (-1)))) v = true ↔ (bt x v = true ∨ (¬ bt z v = true ∧ bt y v = true)) := by
  rw [b_or, b_and, b_xor, b_m1 v hv]
  cases bt x v <;> cases bt y v <;> cases bt z v <;> decide
end
section
/-! one widening, by its two loops; one bit asked -/
theorem gc_b1 : ∀ t, t < 32 → bt 1 t = decide (t = 0) := by decide +kernel
theorem gc_tst (s : Int32) {i : Nat} (hi : i < 32) : ((s.toUInt32 >>> ((nI i).toUInt32 &&& Int32.toUInt32 31)).toInt32 &&& 1) = 1 ↔ bt s i = true := by
  have e : ∀ t, bt ((s.toUInt32 >>> ((nI i).toUInt32 &&& Int32.toUInt32 31)).toInt32 &&& 1) t = (bt s (i + t) && bt 1 t) := fun t => by
    rw [b_and, b_ushr i hi]
  constructor
  · intro h
    have h0 := e 0
    rw [h, gc_b1 0 (by decide), Nat.add_zero] at h0
    cases hb : bt s i
    · rw [hb] at h0
      exact absurd h0 (by decide)
    · rfl
  · intro h
    refine b_ext fun t ht => ?_
    rw [e t, gc_b1 t ht]
    by_cases z : t = 0
    · subst z
      rw [Nat.add_zero, h]
      rfl
    · rw [decide_eq_false z, Bool.and_false]
def gc_Q (s : Int32) (W : Nat → Prop) (E : Nat → Nat → Prop) (i t : Nat) : Prop := bt s i = true ∧ ¬ W i ∧ E i t
def gc_O (m : Nat) (s : Int32) (W : Nat → Prop) (E : Nat → Nat → Prop) (i : Nat) (x : Int32) : Prop :=
  ∀ t, t < 32 → (bt x t = true ↔ (bt s t = true ∨ (t < m ∧ ∃ k, k < i ∧ gc_Q s W E k t)))
def gc_N (m : Nat) (s : Int32) (W : Nat → Prop) (E : Nat → Nat → Prop) (i j : Nat) (x : Int32) : Prop :=
  ∀ t, t < 32 → (bt x t = true ↔ (bt s t = true ∨ (t < m ∧ ∃ k, k < i ∧ gc_Q s W E k t) ∨ (t < j ∧ gc_Q s W E i t)))
section
variable {m i j : Nat} {s x : Int32} {W : Nat → Prop} {E : Nat → Nat → Prop}
theorem gc_O_0 : gc_O m s W E 0 s := fun t _ => ⟨Or.inl, fun z => z.elim id fun ⟨_, k, hk, _⟩ => absurd hk (Nat.not_lt_zero k)⟩
theorem gc_N_0 (h : gc_O m s W E i x) : gc_N m s W E i 0 x := fun t ht => (h t ht).trans
  ⟨fun z => z.elim Or.inl fun q => Or.inr (Or.inl q), fun z => z.elim Or.inl fun q => q.elim Or.inr fun r => absurd r.1 (Nat.not_lt_zero t)⟩
theorem gc_N_s (h : gc_N m s W E i j x) (hj : j < 32) (hq : gc_Q s W E i j) : gc_N m s W E i (j + 1) (x ||| (1 : Int32) <<< (nI j &&& 31)) := by
  intro t ht
  rw [gc_or_b, h t ht, gc_bit2 hj ht, nI_eq (by omega) (by omega)]
  constructor
  · rintro ((z | z | z) | z)
    · exact Or.inl z
    · exact Or.inr (Or.inl z)
    · exact Or.inr (Or.inr ⟨by omega, z.2⟩)
    · subst z
      exact Or.inr (Or.inr ⟨by omega, hq⟩)
  · rintro (z | z | z)
    · exact Or.inl (Or.inl z)
    · exact Or.inl (Or.inr (Or.inl z))
    · rcases Nat.lt_or_ge t j with y | y
      · exact Or.inl (Or.inr (Or.inr ⟨y, z.2⟩))
      · exact Or.inr (by omega)
theorem gc_N_k (h : gc_N m s W E i j x) (hq : ¬ gc_Q s W E i j) : gc_N m s W E i (j + 1) x := by
  intro t ht
  rw [h t ht]
  constructor
  · rintro (z | z | z)
    · exact Or.inl z
    · exact Or.inr (Or.inl z)
    · exact Or.inr (Or.inr ⟨by omega, z.2⟩)
  · rintro (z | z | z)
    · exact Or.inl z
    · exact Or.inr (Or.inl z)
    · rcases Nat.lt_or_ge t j with y | y
      · exact Or.inr (Or.inr ⟨y, z.2⟩)
      · have e : t = j := by omega
        subst e
        exact absurd z.2 hq
theorem gc_N_e (h : gc_N m s W E i m x) : gc_O m s W E (i + 1) x := by
  intro t ht
  rw [h t ht]
  constructor
  · rintro (z | ⟨z, k, hk, q⟩ | ⟨z, q⟩)
    · exact Or.inl z
    · exact Or.inr ⟨z, k, by omega, q⟩
    · exact Or.inr ⟨z, i, by omega, q⟩
  · rintro (z | ⟨z, k, hk, q⟩)
    · exact Or.inl z
    · rcases Nat.lt_or_ge k i with y | y
      · exact Or.inr (Or.inl ⟨z, k, y, q⟩)
      · have e : k = i := by omega
        subst e
        exact Or.inr (Or.inr ⟨z, q⟩)
theorem gc_O_e (h : gc_O m s W E m x) : gc_Wd m W E s x := fun t ht => (h t ht).trans
  ⟨fun z => z.elim Or.inl fun ⟨a, k, b, c⟩ => Or.inr ⟨a, k, b, c.1, c.2.1, c.2.2⟩, fun z => z.elim Or.inl fun ⟨a, k, b, c1, c2, c3⟩ => Or.inr ⟨a, k, b, c1, c2, c3⟩⟩
end
end
section
/-! a run's beginning, its fuel, its next place; what emit keeps -/
def gc_cp (sv vl : Nat → Int32) : Nat → Nat → Int32
  | 0 => vl
  | k + 1 => upd (gc_cp sv vl k) k (sv k)
def gc_cl (p : Int32) : Int32 := if p < 0 then 0 else if 250 < p then 250 else p
theorem gc_cl_n (p : Int32) : ∃ q : Nat, q ≤ 250 ∧ gc_cl p = nI q := by
  unfold gc_cl
  rcases pk_ix p (n := 251) (by decide) with h | h | ⟨j, hj, rfl⟩
  · exact ⟨0, by decide, by rw [if_pos h, nI_0]⟩
  · have h0 : ¬ p < 0 := Int32.not_lt.mpr (Int32.le_trans (by decide : (0 : Int32) ≤ nI 251) h)
    have h1 : 250 < p := Int32.lt_of_lt_of_le (by decide : (250 : Int32) < nI 251) h
    exact ⟨250, by decide, by rw [if_neg h0, if_pos h1]; decide⟩
  · have h1 : ¬ (250 : Int32) < nI j := nI_nlt (a := 250) (by omega) (by decide)
    exact ⟨j, by omega, by rw [if_neg (nI_pos (by omega)), if_neg h1]⟩
def gc_nx (m : Nat) (x y : Int32) : Prop := (∃ j : Nat, j < 64 ∧ x = nI j ∧ y = nI j) ∨ (x = nI m ∧ y = -1)
theorem gc_wf_0 : gc_wf (fun _ => 0) (fun _ => 0) (fun _ => 0) (fun _ => 0) := fun _ => Or.inl ⟨rfl, 0, by decide, nI_0.symm⟩
theorem gc_wf_u {o a b c : Nat → Int32} (h : gc_wf o a b c) {k : Nat} {p q r s : Int32} (hk : gc_ok p q r s) : gc_wf (upd o k p) (upd a k q) (upd b k r) (upd c k s) := by
  intro i
  by_cases e : i = k
  · subst e
    rw [pk_us, pk_us, pk_us, pk_us]
    exact hk
  · rw [pk_un e, pk_un e, pk_un e, pk_un e]
    exact h i
theorem gc_ok_rng {o a b c : Int32} (h : gc_ok o a b c) : ∃ j : Nat, j < 11 ∧ o = nI j := by
  rcases h with ⟨e, _⟩ | ⟨e, _⟩ | ⟨e, _⟩ | ⟨e, _⟩ | ⟨e, _⟩ | ⟨e, _⟩ | ⟨e, _⟩ | ⟨e, _⟩ | ⟨e, _⟩ | ⟨e, _⟩ | e
  · exact ⟨0, by decide, e⟩
  · exact ⟨1, by decide, e⟩
  · exact ⟨2, by decide, e⟩
  · exact ⟨3, by decide, e⟩
  · exact ⟨4, by decide, e⟩
  · exact ⟨5, by decide, e⟩
  · exact ⟨6, by decide, e⟩
  · exact ⟨7, by decide, e⟩
  · exact ⟨8, by decide, e⟩
  · exact ⟨9, by decide, e⟩
  · exact ⟨10, by decide, e⟩
/-- the numbers that no variable has are read nowhere -/
theorem gc_R_8 {o a b c : Nat → Int32} (hw : gc_wf o a b c) {v : Nat} (h8 : 8 ≤ v) (hv : v < 32) (i : Nat) : ¬ gc_R o a b c v i := by
  have no : ∀ x : Int32, gc_va x → x ≠ nI v := by
    rintro x ⟨j, hj, rfl⟩ e
    rw [nI_eq (by omega) (by omega)] at e
    omega
  intro h
  rcases hw i with ⟨e, _⟩ | ⟨e, _, y⟩ | ⟨e, _, y, z⟩ | ⟨e, _, y, z⟩ | ⟨e, _, y, z⟩ | ⟨e, _, y, z⟩ | ⟨e, x⟩ | ⟨e, _⟩ | ⟨e, x, _⟩ | ⟨e, x, _⟩ | e
  all_goals rcases h with ⟨h1, h2⟩ | ⟨h1, h2⟩
  all_goals rw [e] at h1
  all_goals first
    | exact absurd h1 (by decide)
    | exact no _ x h2
    | (rcases h2 with h2 | ⟨h2, h3⟩
       · exact no _ y h2
       · first
         | exact no _ z h3
         | (rw [e] at h2; exact absurd h2 (by decide)))
theorem gc_LV_8 {o a b c : Nat → Int32} (hw : gc_wf o a b c) {m v : Nat} (h8 : 8 ≤ v) (hv : v < 32) (i : Nat) : ¬ gc_LV m o a b c v i :=
  fun ⟨k, hk⟩ => gc_noR (gc_R_8 hw h8 hv) k i hk
end
section
/-! what emit lets in, on both sides -/
theorem gc_n1 : narrow .boolean (.int 1) = .int 1 := rfl
theorem gc_n0 : narrow .boolean (.int 0) = .int 0 := rfl
theorem gc_sw {V c1 c2 p0 p1 : Prop} (h : V ↔ (¬ c1 ∧ ¬ c2)) : ((c1 → p0) ∧ (¬ c1 → ((c2 → p0) ∧ (¬ c2 → p1)))) ↔ ((V → p1) ∧ (¬ V → p0)) := by
  rw [h]
  by_cases h1 : c1 <;> by_cases h2 : c2 <;> simp [h1, h2]
theorem gc_le8 (x : Int32) : x < 8 ↔ ¬ 7 < x := by
  rw [Int32.not_lt, Int32.lt_iff_toInt_lt, Int32.le_iff_toInt_le, show (8 : Int32).toInt = 8 from by decide, show (7 : Int32).toInt = 7 from by decide]
  omega
theorem gc_le32 (x : Int32) : x < 32 ↔ ¬ 31 < x := by
  rw [Int32.not_lt, Int32.lt_iff_toInt_lt, Int32.le_iff_toInt_le, show (32 : Int32).toInt = 32 from by decide, show (31 : Int32).toInt = 31 from by decide]
  omega
theorem gc_va_X (x : Int32) : gc_va x ↔ (¬ x < 0 ∧ ¬ 8 ≤ x) := by rw [gc_va_iff, Int32.not_le]
theorem gc_va_Y (x : Int32) : gc_va x ↔ (¬ x < 0 ∧ ¬ 7 < x) := by rw [gc_va_iff, gc_le8]
theorem gc_pl_X (x : Int32) : gc_pl x ↔ (¬ x < 0 ∧ ¬ 32 ≤ x) := by rw [gc_pl_iff, Int32.not_le]
theorem gc_pl_Y (x : Int32) : gc_pl x ↔ (¬ x < 0 ∧ ¬ 31 < x) := by rw [gc_pl_iff, gc_le32]
theorem gc_wy_X (x : Int32) : gc_wy x ↔ (¬ x < 1 ∧ ¬ 4 < x) := by rw [gc_wy_iff, Int32.not_lt, Int32.not_lt]
theorem gx_V (post : Int32 → Prop) (x : Int32) : wpX_isVariable post x ↔ ((gc_va x → post 1) ∧ (¬ gc_va x → post 0)) := gc_sw (gc_va_X x)
theorem gx_T (post : Int32 → Prop) (x : Int32) : wpX_isTarget post x ↔ ((gc_pl x → post 1) ∧ (¬ gc_pl x → post 0)) := gc_sw (gc_pl_X x)
theorem gx_Vc {A B : Prop} {x : Int32} (hB : gc_va x → B) (hA : ¬ gc_va x → A) : wpX_isVariable (fun r => ((r = 0 → A) ∧ (¬ r = 0 → B))) x :=
  (gx_V _ x).mpr ⟨fun h => br_f (by decide) (hB h), fun h => br_t rfl (hA h)⟩
theorem gx_Tc {A B : Prop} {x : Int32} (hB : gc_pl x → B) (hA : ¬ gc_pl x → A) : wpX_isTarget (fun r => ((r = 0 → A) ∧ (¬ r = 0 → B))) x :=
  (gx_T _ x).mpr ⟨fun h => br_f (by decide) (hB h), fun h => br_t rfl (hA h)⟩
theorem gx_Wc {A B : Prop} {x : Int32} (hB : gc_wy x → B) (hA : ¬ gc_wy x → A) : (x < 1 → A) ∧ (¬ x < 1 → ((4 < x → A) ∧ (¬ 4 < x → B))) :=
  (gc_sw (gc_wy_X x)).mpr ⟨hB, hA⟩
section
variable {f1 f2 f3 : Int32} {o a b c s v k : Nat → Int32}
theorem gy_V (post : Int32 → Prop) (x : Int32) : wpY_isVariable post (f1, f2, f3, o, a, b, c, s, v, k) x ↔ ((gc_va x → post 1) ∧ (¬ gc_va x → post 0)) := gc_sw (gc_va_Y x)
theorem gy_P (post : Int32 → Prop) (x : Int32) : wpY_isPlace post (f1, f2, f3, o, a, b, c, s, v, k) x ↔ ((gc_pl x → post 1) ∧ (¬ gc_pl x → post 0)) := gc_sw (gc_pl_Y x)
theorem gy_Vc {A B : Prop} {x : Int32} (hB : gc_va x → B) (hA : ¬ gc_va x → A) : wpY_isVariable (fun r => ((r = 0 → A) ∧ (¬ r = 0 → B))) (f1, f2, f3, o, a, b, c, s, v, k) x :=
  (gy_V _ x).mpr ⟨fun h => br_f (by decide) (hB h), fun h => br_t rfl (hA h)⟩
theorem gy_Pc {A B : Prop} {x : Int32} (hB : gc_pl x → B) (hA : ¬ gc_pl x → A) : wpY_isPlace (fun r => ((r = 0 → A) ∧ (¬ r = 0 → B))) (f1, f2, f3, o, a, b, c, s, v, k) x :=
  (gy_P _ x).mpr ⟨fun h => br_f (by decide) (hB h), fun h => br_t rfl (hA h)⟩
end
theorem gc_11 (p : Int32) : p < 0 ∨ 10 < p ∨ p = 0 ∨ p = 1 ∨ p = 2 ∨ p = 3 ∨ p = 4 ∨ p = 5 ∨ p = 6 ∨ p = 7 ∨ p = 8 ∨ p = 9 ∨ p = 10 := by
  rcases pk_ix p (n := 11) (by decide) with h | h | ⟨j, hj, rfl⟩
  · exact Or.inl h
  · exact Or.inr (Or.inl (Int32.lt_of_lt_of_le (by decide : (10 : Int32) < nI 11) h))
  · exact (by decide +kernel : ∀ j, j < 11 → nI j < 0 ∨ 10 < nI j ∨ nI j = 0 ∨ nI j = 1 ∨ nI j = 2 ∨ nI j = 3 ∨ nI j = 4 ∨ nI j = 5 ∨ nI j = 6 ∨ nI j = 7 ∨ nI j = 8 ∨ nI j = 9 ∨ nI j = 10) j hj
section
variable {q r s : Int32}
theorem gc_ok_0 : gc_ok 0 q r s ↔ gc_va q := by simp [gc_ok]
theorem gc_ok_1 : gc_ok 1 q r s ↔ (gc_va q ∧ gc_va r) := by simp [gc_ok]
theorem gc_ok_2 : gc_ok 2 q r s ↔ (gc_va q ∧ gc_va r ∧ gc_va s) := by simp [gc_ok]
theorem gc_ok_3 : gc_ok 3 q r s ↔ (gc_va q ∧ gc_va r ∧ gc_va s) := by simp [gc_ok]
theorem gc_ok_4 : gc_ok 4 q r s ↔ (gc_va q ∧ gc_va r ∧ gc_va s) := by simp [gc_ok]
theorem gc_ok_5 : gc_ok 5 q r s ↔ (gc_va q ∧ gc_va r ∧ gc_va s) := by simp [gc_ok]
theorem gc_ok_6 : gc_ok 6 q r s ↔ gc_va q := by simp [gc_ok]
theorem gc_ok_7 : gc_ok 7 q r s ↔ gc_pl q := by simp [gc_ok]
theorem gc_ok_8 : gc_ok 8 q r s ↔ (gc_va q ∧ gc_pl r) := by simp [gc_ok]
theorem gc_ok_9 : gc_ok 9 q r s ↔ (gc_va q ∧ gc_pl r ∧ gc_wy s) := by simp [gc_ok]
theorem gc_ok_10 : gc_ok 10 q r s := by simp [gc_ok]
end
theorem gc_ok_lo {p q r s : Int32} (h : p < 0) : ¬ gc_ok p q r s := fun z => by
  obtain ⟨j, hj, rfl⟩ := gc_ok_rng z
  exact nI_pos (by omega) h
theorem gc_ok_hi {p q r s : Int32} (h : 10 < p) : ¬ gc_ok p q r s := fun z => by
  obtain ⟨j, hj, rfl⟩ := gc_ok_rng z
  exact nI_nlt (a := 10) (b := j) (by omega) (by decide) h
theorem gx_I {post : Int32 → Prop} {p q r s : Int32} (h1 : gc_ok p q r s → post 1) (h0 : ¬ gc_ok p q r s → post 0) : wpX_isInstruction post p q r s := by
  have v3 : (gc_va q ∧ gc_va r ∧ gc_va s → post 1) → (¬ (gc_va q ∧ gc_va r ∧ gc_va s) → post 0) → wX_isInstruction_85 post q r s := fun k1 k0 =>
    gx_Vc (fun x => gx_Vc (fun y => gx_Vc (fun z => k1 ⟨x, y, z⟩) (fun n => k0 fun w => n w.2.2)) (fun n => k0 fun w => n w.2.1)) (fun n => k0 fun w => n w.1)
  have v1 : (gc_va q → post 1) → (¬ gc_va q → post 0) → wX_isInstruction_60 post q := fun k1 k0 =>
    (gx_V _ q).mpr ⟨fun h => ⟨gc_n1, k1 h⟩, fun h => ⟨gc_n0, k0 h⟩⟩
  rcases gc_11 p with h | h | rfl | rfl | rfl | rfl | rfl | rfl | rfl | rfl | rfl | rfl | rfl
  · exact br_t h (h0 (gc_ok_lo h))
  · exact br_f (fun z => absurd (Int32.lt_trans h z) (by decide)) (br_t h (h0 (gc_ok_hi h)))
  · rw [gc_ok_0] at h1 h0
    exact br_f (by decide) (br_f (by decide) (br_t (by decide) (v1 h1 h0)))
  · rw [gc_ok_1] at h1 h0
    exact br_f (by decide) (br_f (by decide) (br_f (by decide) (br_t (by decide)
      (gx_Vc (fun x => gx_Vc (fun y => h1 ⟨x, y⟩) (fun n => h0 fun w => n w.2)) (fun n => h0 fun w => n w.1)))))
  · rw [gc_ok_2] at h1 h0
    exact br_f (by decide) (br_f (by decide) (br_f (by decide) (br_f (by decide) (br_t (by decide) (v3 h1 h0)))))
  · rw [gc_ok_3] at h1 h0
    exact br_f (by decide) (br_f (by decide) (br_f (by decide) (br_f (by decide) (br_f (by decide) (br_t (by decide) (v3 h1 h0))))))
  · rw [gc_ok_4] at h1 h0
    exact br_f (by decide) (br_f (by decide) (br_f (by decide) (br_f (by decide) (br_f (by decide) (br_f (by decide) (br_t (by decide) (v3 h1 h0)))))))
  · rw [gc_ok_5] at h1 h0
    exact br_f (by decide) (br_f (by decide) (br_f (by decide) (br_f (by decide) (br_f (by decide) (br_f (by decide) (br_f (by decide) (br_t (by decide) (v3 h1 h0))))))))
  · rw [gc_ok_6] at h1 h0
    exact br_f (by decide) (br_f (by decide) (br_f (by decide) (br_f (by decide) (br_f (by decide) (br_f (by decide) (br_f (by decide) (br_f (by decide) (br_t (by decide) (v1 h1 h0)))))))))
  · rw [gc_ok_7] at h1 h0
    exact br_f (by decide) (br_f (by decide) (br_f (by decide) (br_f (by decide) (br_f (by decide) (br_f (by decide) (br_f (by decide) (br_f (by decide) (br_f (by decide) (br_t (by decide)
      ((gx_T _ q).mpr ⟨fun h => ⟨gc_n1, h1 h⟩, fun h => ⟨gc_n0, h0 h⟩⟩))))))))))
  · rw [gc_ok_8] at h1 h0
    exact br_f (by decide) (br_f (by decide) (br_f (by decide) (br_f (by decide) (br_f (by decide) (br_f (by decide) (br_f (by decide) (br_f (by decide) (br_f (by decide) (br_f (by decide) (br_t (by decide)
      (gx_Vc (fun x => gx_Tc (fun y => h1 ⟨x, y⟩) (fun n => h0 fun w => n w.2)) (fun n => h0 fun w => n w.1))))))))))))
  · rw [gc_ok_9] at h1 h0
    exact br_f (by decide) (br_f (by decide) (br_f (by decide) (br_f (by decide) (br_f (by decide) (br_f (by decide) (br_f (by decide) (br_f (by decide) (br_f (by decide) (br_f (by decide) (br_f (by decide) (br_t (by decide)
      (gx_Vc (fun x => gx_Tc (fun y => gx_Wc (fun z => h1 ⟨x, y, z⟩) (fun n => h0 fun w => n w.2.2)) (fun n => h0 fun w => n w.2.1)) (fun n => h0 fun w => n w.1)))))))))))))
  · exact br_f (by decide) (br_f (by decide) (br_f (by decide) (br_f (by decide) (br_f (by decide) (br_f (by decide) (br_f (by decide) (br_f (by decide) (br_f (by decide) (br_f (by decide) (br_f (by decide) (br_f (by decide) (br_t (by decide)
      (h1 gc_ok_10)))))))))))))
section
variable {f1 f2 f3 : Int32} {o a b c sv vl ko : Nat → Int32}
theorem gy_F {post : Int32 → Prop} {p q r s : Int32} (h1 : gc_ok p q r s → post 1) (h0 : ¬ gc_ok p q r s → post 0) : wpY_fits post (f1, f2, f3, o, a, b, c, sv, vl, ko) p q r s := by
  rcases gc_11 p with h | h | rfl | rfl | rfl | rfl | rfl | rfl | rfl | rfl | rfl | rfl | rfl
  · exact br_t h (h0 (gc_ok_lo h))
  · exact br_f (fun z => absurd (Int32.lt_trans h z) (by decide)) (br_f (Int32.not_le.mpr h) (h0 (gc_ok_hi h)))
  · rw [gc_ok_0] at h1 h0
    exact br_f (by decide) (br_t (by decide) (br_f (by decide) (br_f (by decide) (gy_Vc (fun x => br_t (by decide)
      (br_t (by decide) (br_t (by decide) (br_f (by decide) (h1 x))))) h0))))
  · rw [gc_ok_1] at h1 h0
    exact br_f (by decide) (br_t (by decide) (br_f (by decide) (br_f (by decide) (gy_Vc (fun x => br_f (by decide) (br_f (by decide)
      (gy_Vc (fun y => br_t (by decide) (br_t (by decide) (br_f (by decide) (h1 ⟨x, y⟩)))) (fun n => h0 fun w => n w.2)))) (fun n => h0 fun w => n w.1)))))
  · rw [gc_ok_2] at h1 h0
    exact br_f (by decide) (br_t (by decide) (br_f (by decide) (br_f (by decide) (gy_Vc (fun x => br_f (by decide) (br_f (by decide)
      (gy_Vc (fun y => br_f (by decide) (br_f (by decide) (gy_Vc (fun z => br_t (by decide) (br_f (by decide) (h1 ⟨x, y, z⟩))) (fun n => h0 fun w => n w.2.2)))) (fun n => h0 fun w => n w.2.1)))) (fun n => h0 fun w => n w.1)))))
  · rw [gc_ok_3] at h1 h0
    exact br_f (by decide) (br_t (by decide) (br_f (by decide) (br_f (by decide) (gy_Vc (fun x => br_f (by decide) (br_f (by decide)
      (gy_Vc (fun y => br_f (by decide) (br_f (by decide) (gy_Vc (fun z => br_t (by decide) (br_f (by decide) (h1 ⟨x, y, z⟩))) (fun n => h0 fun w => n w.2.2)))) (fun n => h0 fun w => n w.2.1)))) (fun n => h0 fun w => n w.1)))))
  · rw [gc_ok_4] at h1 h0
    exact br_f (by decide) (br_t (by decide) (br_f (by decide) (br_f (by decide) (gy_Vc (fun x => br_f (by decide) (br_f (by decide)
      (gy_Vc (fun y => br_f (by decide) (br_f (by decide) (gy_Vc (fun z => br_t (by decide) (br_f (by decide) (h1 ⟨x, y, z⟩))) (fun n => h0 fun w => n w.2.2)))) (fun n => h0 fun w => n w.2.1)))) (fun n => h0 fun w => n w.1)))))
  · rw [gc_ok_5] at h1 h0
    exact br_f (by decide) (br_t (by decide) (br_f (by decide) (br_f (by decide) (gy_Vc (fun x => br_f (by decide) (br_f (by decide)
      (gy_Vc (fun y => br_f (by decide) (br_f (by decide) (gy_Vc (fun z => br_t (by decide) (br_f (by decide) (h1 ⟨x, y, z⟩))) (fun n => h0 fun w => n w.2.2)))) (fun n => h0 fun w => n w.2.1)))) (fun n => h0 fun w => n w.1)))))
  · rw [gc_ok_6] at h1 h0
    exact br_f (by decide) (br_t (by decide) (br_f (by decide) (br_f (by decide) (gy_Vc (fun x => br_f (by decide) (br_t (by decide)
      (br_f (by decide) (br_t (by decide) (br_t (by decide) (br_f (by decide) (h1 x))))))) h0))))
  · rw [gc_ok_7] at h1 h0
    exact br_f (by decide) (br_t (by decide) (br_f (by decide) (br_t (by decide) ((gy_P _ q).mpr ⟨fun h => ⟨gc_n1, h1 h⟩, fun h => ⟨gc_n0, h0 h⟩⟩))))
  · rw [gc_ok_8] at h1 h0
    exact br_f (by decide) (br_t (by decide) (br_f (by decide) (br_f (by decide) (gy_Vc (fun x => br_f (by decide) (br_t (by decide)
      (br_f (by decide) (br_t (by decide) (br_f (by decide) (gy_Pc (fun y => br_f (by decide) (h1 ⟨x, y⟩)) (fun n => h0 fun w => n w.2))))))) (fun n => h0 fun w => n w.1)))))
  · rw [gc_ok_9] at h1 h0
    exact br_f (by decide) (br_t (by decide) (br_f (by decide) (br_f (by decide) (gy_Vc (fun x => br_f (by decide) (br_t (by decide)
      (br_f (by decide) (br_t (by decide) (br_f (by decide) (gy_Pc (fun y => br_t (by decide) (gx_Wc (fun z => h1 ⟨x, y, z⟩) (fun n => h0 fun w => n w.2.2))) (fun n => h0 fun w => n w.2.1))))))) (fun n => h0 fun w => n w.1)))))
  · exact br_f (by decide) (br_t (by decide) (br_t (by decide) (h1 gc_ok_10)))
end
end
section
/-! the component's live sets -/
section
variable {ex pr : Int32} {o a b c sv vl ko L : Nat → Int32} {m i : Nat}
theorem gx_rd (hw : gc_wf o a b c) (hi : i < 32) {post : Int32 → Prop} (h : ∀ r, (∀ v, v < 32 → (bt r v = true ↔ gc_R o a b c v i)) → post r) :
    wpX_readBy post (nI m, ex, pr, o, a, b, c, sv, vl, ko, L) (nI i) := by
  have l1 : vp_in (nI i) 32 := vp_in_nI hi (by omega)
  have l2 : (nI i).toNatClampNeg = i := nI_clamp (by omega)
  have z0 : (∀ v, v < 32 → ¬ gc_R o a b c v i) → post 0 := fun hz => h 0 fun v hv => by
    rw [b_0]
    exact ⟨fun z => absurd z (by decide), fun z => absurd z (hz v hv)⟩
  have z1 : ∀ x y : Nat, x < 32 → y < 32 → (∀ v, v < 32 → (gc_R o a b c v i ↔ (nI x = nI v ∨ nI y = nI v))) → post ((1 : Int32) <<< (nI x &&& 31) ||| (1 : Int32) <<< (nI y &&& 31)) := fun x y hx hy hz => h _ fun v hv => by
    rw [gc_or_b, gc_bit2 hx hv, gc_bit2 hy hv, hz v hv]
  have z2 : ∀ x : Nat, x < 32 → (∀ v, v < 32 → (gc_R o a b c v i ↔ nI x = nI v)) → post ((1 : Int32) <<< (nI x &&& 31)) := fun x hx hz => h _ fun v hv => by
    rw [gc_bit2 hx hv, hz v hv]
  rcases hw i with ⟨e, _⟩ | ⟨e, _, y, hy, ey⟩ | ⟨e, _, ⟨y, hy, ey⟩, z, hz, ez⟩ | ⟨e, _, ⟨y, hy, ey⟩, z, hz, ez⟩ | ⟨e, _, ⟨y, hy, ey⟩, z, hz, ez⟩ | ⟨e, _, ⟨y, hy, ey⟩, z, hz, ez⟩ | ⟨e, x, hx, ea⟩ | ⟨e, _⟩ | ⟨e, ⟨x, hx, ea⟩, _⟩ | ⟨e, ⟨x, hx, ea⟩, _⟩ | e
  · have := z0 (fun v hv => by simp [gc_R, e])
    simpa [wpX_readBy, l1, l2, e] using this
  · have := z2 y (by omega) (fun v hv => by simp [gc_R, e, ey])
    simp only [wpX_readBy, l2, e, ey]
    exact ⟨l1, nm_e (br_f (by decide) (br_f (by decide) (br_t (by decide) ⟨l1, this⟩)))⟩
  · have := z1 y z (by omega) (by omega) (fun v hv => by simp [gc_R, e, ey, ez])
    simp only [wpX_readBy, wX_readBy_65, l2, e, ey, ez]
    exact ⟨l1, nm_e (br_f (by decide) (br_f (by decide) (br_f (by decide) (br_t (by decide) ⟨l1, l1, this⟩))))⟩
  · have := z1 y z (by omega) (by omega) (fun v hv => by simp [gc_R, e, ey, ez])
    simp only [wpX_readBy, wX_readBy_65, l2, e, ey, ez]
    exact ⟨l1, nm_e (br_f (by decide) (br_f (by decide) (br_f (by decide) (br_f (by decide) (br_t (by decide) ⟨l1, l1, this⟩)))))⟩
  · have := z1 y z (by omega) (by omega) (fun v hv => by simp [gc_R, e, ey, ez])
    simp only [wpX_readBy, wX_readBy_65, l2, e, ey, ez]
    exact ⟨l1, nm_e (br_f (by decide) (br_f (by decide) (br_f (by decide) (br_f (by decide) (br_f (by decide) (br_t (by decide) ⟨l1, l1, this⟩))))))⟩
  · have := z1 y z (by omega) (by omega) (fun v hv => by simp [gc_R, e, ey, ez])
    simp only [wpX_readBy, wX_readBy_65, l2, e, ey, ez]
    exact ⟨l1, nm_e (br_f (by decide) (br_f (by decide) (br_f (by decide) (br_f (by decide) (br_f (by decide) (br_f (by decide) (br_t (by decide) ⟨l1, l1, this⟩)))))))⟩
  · have := z2 x (by omega) (fun v hv => by simp [gc_R, e, ea])
    simp only [wpX_readBy, l2, e, ea]
    exact ⟨l1, nm_e (br_f (by decide) (br_f (by decide) (br_f (by decide) (br_f (by decide) (br_f (by decide) (br_f (by decide) (br_f (by decide) (br_t (by decide) ⟨l1, this⟩))))))))⟩
  · have := z0 (fun v hv => by simp [gc_R, e])
    simp only [wpX_readBy, l2, e]
    exact ⟨l1, nm_e (br_f (by decide) (br_f (by decide) (br_f (by decide) (br_f (by decide) (br_f (by decide) (br_f (by decide) (br_f (by decide) (br_f (by decide) (br_t (by decide) this)))))))))⟩
  · have := z2 x (by omega) (fun v hv => by simp [gc_R, e, ea])
    simp only [wpX_readBy, l2, e, ea]
    exact ⟨l1, nm_e (br_f (by decide) (br_f (by decide) (br_f (by decide) (br_f (by decide) (br_f (by decide) (br_f (by decide) (br_f (by decide) (br_f (by decide) (br_f (by decide) (br_t (by decide) ⟨l1, this⟩))))))))))⟩
  · have := z2 x (by omega) (fun v hv => by simp [gc_R, e, ea])
    simp only [wpX_readBy, l2, e, ea]
    exact ⟨l1, nm_e (br_f (by decide) (br_f (by decide) (br_f (by decide) (br_f (by decide) (br_f (by decide) (br_f (by decide) (br_f (by decide) (br_f (by decide) (br_f (by decide) (br_f (by decide) (br_t (by decide) ⟨l1, this⟩)))))))))))⟩
  · have := z0 (fun v hv => by simp [gc_R, e])
    simp only [wpX_readBy, l2, e]
    exact ⟨l1, nm_e (br_f (by decide) (br_t (by decide) this))⟩
theorem gx_wr (hw : gc_wf o a b c) (hi : i < 32) {post : Int32 → Prop} (h : ∀ r, (∀ v, v < 32 → (bt r v = true ↔ gc_W o a v i)) → post r) :
    wpX_writtenBy post (nI m, ex, pr, o, a, b, c, sv, vl, ko, L) (nI i) := by
  have l1 : vp_in (nI i) 32 := vp_in_nI hi (by omega)
  have l2 : (nI i).toNatClampNeg = i := nI_clamp (by omega)
  have go : wpX_writtenBy post (nI m, ex, pr, o, a, b, c, sv, vl, ko, L) (nI i) = (vp_in (nI i) 32 ∧ ((5 < o i → post 0) ∧ (¬ 5 < o i → (vp_in (nI i) 32 ∧ post ((1 : Int32) <<< (a i &&& 31)))))) := by
    simp only [wpX_writtenBy, l2]
  rw [go]
  refine ⟨l1, br_c (fun h5 => h 0 fun v hv => ?_) (fun h5 => ⟨l1, ?_⟩)⟩
  · rw [b_0]
    exact ⟨fun z => absurd z (by decide), fun z => absurd z.1 (Int32.not_le.mpr h5)⟩
  · have hx : gc_va (a i) := by
      rcases hw i with ⟨_, x⟩ | ⟨_, x, _⟩ | ⟨_, x, _⟩ | ⟨_, x, _⟩ | ⟨_, x, _⟩ | ⟨_, x, _⟩ | ⟨e, _⟩ | ⟨e, _⟩ | ⟨e, _⟩ | ⟨e, _⟩ | e
      · exact x
      · exact x
      · exact x
      · exact x
      · exact x
      · exact x
      all_goals
        rw [e] at h5
        exact absurd (by decide) h5
    obtain ⟨x, hx, ea⟩ := hx
    rw [ea]
    refine h _ fun v hv => ?_
    rw [gc_bit2 (by omega) hv, ← ea]
    exact ⟨fun z => ⟨Int32.not_lt.mp h5, z⟩, fun z => z.2⟩
theorem gx_at {j : Nat} (hm : m ≤ 32) (hj : j < 64) {post : Int32 → Prop} (h : post (gc_at m L j)) : wpX_liveSetAt post (nI m, ex, pr, o, a, b, c, sv, vl, ko, L) (nI j) := by
  unfold gc_at at h
  by_cases z : j < m
  · rw [if_pos z] at h
    have l2 : (nI j).toNatClampNeg = j := nI_clamp (by omega)
    refine br_f (nI_ge z (by omega)) ⟨vp_in_nI (by omega) (by omega), ?_⟩
    rw [l2]
    exact h
  · rw [if_neg z] at h
    exact br_t (nI_le (by omega) (by omega)) h
theorem gx_ways {t w : Nat} (hm : m ≤ 32) (ht : t < 32) (hw : w ≤ 4) {post : Int32 → Prop} (h : ∀ r, (∀ v, v < 32 → (bt r v = true ↔ ∃ k, k < w ∧ t + k < m ∧ bt (L (t + k)) v = true)) → post r) :
    wpX_liveAtWays post (nI m, ex, pr, o, a, b, c, sv, vl, ko, L) (nI t) (nI w) := by
  have key : ∀ d k r, k + d = w → (∀ v, v < 32 → (bt r v = true ↔ ∃ q, q < k ∧ t + q < m ∧ bt (L (t + q)) v = true)) →
      wX_liveAtWays_5 post (nI t) (nI w) (nI m) ex pr o a b c sv vl ko L (d + 1) r (nI k) := by
    intro d
    induction d with
    | zero =>
      intro k r hk hr
      have e : k = w := by omega
      subst e
      exact br_t (nI_le (Nat.le_refl _) (by omega)) (h r hr)
    | succ d ih =>
      intro k r hk hr
      refine br_f (nI_ge (by omega) (by omega)) ?_
      rw [nI_add]
      refine gx_at hm (by omega) (nm_e (nm_r (nI_1 k) (ih (k + 1) _ (by omega) fun v hv => ?_)))
      rw [gc_or_b, gc_at_b, hr v hv]
      constructor
      · rintro (⟨q, h1, h2⟩ | h2)
        · exact ⟨q, by omega, h2⟩
        · exact ⟨k, by omega, h2⟩
      · rintro ⟨q, h1, h2⟩
        rcases Nat.lt_or_ge q k with z | z
        · exact Or.inl ⟨q, z, h2⟩
        · have e : q = k := by omega
          subst e
          exact Or.inr h2
  refine ⟨w + 1, key w 0 0 (by omega) fun v hv => ?_⟩
  rw [b_0]
  exact ⟨fun z => absurd z (by decide), fun ⟨q, z, _⟩ => absurd z (Nat.not_lt_zero q)⟩
theorem gx_la (hw : gc_wf o a b c) (hm : m ≤ 32) (hi : i < 32) {post : Int32 → Prop} (h : ∀ r, (∀ v, v < 32 → (bt r v = true ↔ ∃ j, j < m ∧ gc_E o a b c i j ∧ bt (L j) v = true)) → post r) :
    wpX_liveAfter post (nI m, ex, pr, o, a, b, c, sv, vl, ko, L) (nI i) := by
  have l1 : vp_in (nI i) 32 := vp_in_nI hi (by omega)
  have l2 : (nI i).toNatClampNeg = i := nI_clamp (by omega)
  have z0 : o i ≠ 7 → o i ≠ 8 → o i ≠ 9 → o i ≠ 10 → o i < 7 → wpX_liveAfter post (nI m, ex, pr, o, a, b, c, sv, vl, ko, L) (nI i) := fun e7 e8 e9 e10 lt => by
    simp only [wpX_liveAfter, l2]
    refine ⟨l1, nm_e (br_t lt ?_)⟩
    rw [nI_1]
    refine gx_at hm (by omega) (h _ fun v hv => ?_)
    rw [gc_at_b, gc_Es e7 e8 e9 e10]
  rcases hw i with ⟨e, _⟩ | ⟨e, _⟩ | ⟨e, _⟩ | ⟨e, _⟩ | ⟨e, _⟩ | ⟨e, _⟩ | ⟨e, _⟩ | ⟨e, t, ht, ea⟩ | ⟨e, _, t, ht, eb⟩ | ⟨e, _, ⟨t, ht, eb⟩, w, hw1, hw4, ec⟩ | e
  case inr.inr.inr.inr.inr.inr.inr.inl =>
    simp only [wpX_liveAfter, l2]
    refine ⟨l1, nm_e (br_f (by rw [e]; decide) (br_f (by rw [e]; decide) (br_t e ⟨l1, ?_⟩)))⟩
    rw [ea]
    refine gx_at hm (by omega) (h _ fun v hv => ?_)
    rw [gc_at_b, gc_E7 e ea ht hm]
  case inr.inr.inr.inr.inr.inr.inr.inr.inl =>
    simp only [wpX_liveAfter, l2]
    refine ⟨l1, nm_e (br_f (by rw [e]; decide) (br_f (by rw [e]; decide) (br_f (by rw [e]; decide) (br_t e ?_))))⟩
    rw [nI_1]
    refine gx_at hm (by omega) ⟨l1, ?_⟩
    rw [eb]
    refine gx_at hm (by omega) (h _ fun v hv => ?_)
    rw [gc_or_b, gc_at_b, gc_at_b, gc_E8 e eb ht hm]
  case inr.inr.inr.inr.inr.inr.inr.inr.inr.inl =>
    simp only [wpX_liveAfter, l2]
    refine ⟨l1, nm_e (br_f (by rw [e]; decide) (br_f (by rw [e]; decide) (br_f (by rw [e]; decide) (br_f (by rw [e]; decide) (br_t e ?_)))))⟩
    rw [nI_1]
    refine gx_at hm (by omega) ⟨l1, l1, ?_⟩
    rw [eb, ec]
    refine gx_ways hm ht hw4 fun r hr => h _ fun v hv => ?_
    rw [gc_or_b, gc_at_b, hr v hv, gc_E9 e eb ec ht hw4 hm]
  case inr.inr.inr.inr.inr.inr.inr.inr.inr.inr =>
    simp only [wpX_liveAfter, l2]
    refine ⟨l1, nm_e (br_f (by rw [e]; decide) (br_f (by rw [e]; decide) (br_f (by rw [e]; decide) (br_f (by rw [e]; decide) (br_f (by rw [e]; decide) (br_t e ?_))))))⟩
    refine h 0 fun v hv => ?_
    rw [b_0]
    exact ⟨fun z => absurd z (by decide), fun z => absurd z (gc_E10 e)⟩
  all_goals exact z0 (by rw [e]; decide) (by rw [e]; decide) (by rw [e]; decide) (by rw [e]; decide) (by rw [e]; decide)
end
end
section
/-! the component's sweeps -/
section
variable {ex pr : Int32} {o a b c sv vl ko : Nat → Int32} {m : Nat}
theorem gx_40 (hw : gc_wf o a b c) (hm : m ≤ 32) {p : Nat} {post : SX → Prop} {x1 : Int32}
    {J : Int32 → (Nat → Int32) → (Nat → Int32) → (Nat → Int32) → (Nat → Int32) → (Nat → Int32) → (Nat → Int32) → (Nat → Int32) → (Nat → Int32) → Prop}
    (hJ : ∀ L, gc_Inv m (gc_R o a b c) (gc_W o a) (gc_E o a b c) p 0 L → J (x1 + 1) o a b c sv vl ko L) :
    ∀ k L, k ≤ m → gc_Inv m (gc_R o a b c) (gc_W o a) (gc_E o a b c) p k L → wX_findLiveSets_40 post J x1 (nI m) ex pr (k + 1) (nI k - 1) o a b c sv vl ko L := by
  intro k
  induction k with
  | zero =>
    intro L _ h
    exact br_t gc_z1 (nm_e (hJ L h))
  | succ k ih =>
    intro L hk h
    rw [nI_pred]
    refine br_f (nI_pos (by omega)) (gx_rd hw (by omega) fun r1 h1 => gx_la hw hm (by omega) fun r2 h2 => gx_wr hw (by omega) fun r3 h3 => ⟨vp_in_nI (by omega) (by omega), ?_⟩)
    rw [nI_clamp (by omega : k < 2 ^ 31)]
    refine nm_e (nm_r (gc_dm k) (ih _ (by omega) (gc_InvS h fun v hv => ?_)))
    rw [gc_new_b hv, h1 v hv, h2 v hv, h3 v hv]
theorem gx_25 (hw : gc_wf o a b c) (hm : m ≤ 32) {post : SX → Prop}
    (hp : ∀ L, gc_Inv m (gc_R o a b c) (gc_W o a) (gc_E o a b c) m m L → post (nI m, ex, pr, o, a, b, c, sv, vl, ko, L)) :
    ∀ d p L, p + d = m → gc_Inv m (gc_R o a b c) (gc_W o a) (gc_E o a b c) p m L → wX_findLiveSets_25 post (nI m) ex pr (d + 1) (nI p) o a b c sv vl ko L := by
  intro d
  induction d with
  | zero =>
    intro p L e h
    have e : p = m := by omega
    subst e
    exact br_t (nI_le (Nat.le_refl _) (by omega)) (hp L h)
  | succ d ih =>
    intro p L e h
    refine br_f (nI_ge (by omega) (by omega)) (nm_e ⟨m + 1, gx_40 hw hm (fun L' h' => ?_) m L (Nat.le_refl _) h⟩)
    rw [nI_1]
    exact ih (p + 1) L' (by omega) (gc_InvP h')
theorem gx_2 (hw : gc_wf o a b c) (hm : m ≤ 32) {post : SX → Prop}
    (hp : ∀ L, gc_Inv m (gc_R o a b c) (gc_W o a) (gc_E o a b c) m m L → post (nI m, ex, pr, o, a, b, c, sv, vl, ko, L)) :
    ∀ d k L, k + d = m → (∀ j, j < k → L j = 0) → wX_findLiveSets_2 post (nI m) ex pr (d + 1) (nI k) o a b c sv vl ko L := by
  intro d
  induction d with
  | zero =>
    intro k L e h
    have e : k = m := by omega
    subst e
    exact br_t (nI_le (Nat.le_refl _) (by omega)) ⟨k + 1, gx_25 hw hm hp k 0 L (by omega) (gc_Inv0 h)⟩
  | succ d ih =>
    intro k L e h
    refine br_f (nI_ge (by omega) (by omega)) ⟨vp_in_nI (by omega) (by omega), ?_⟩
    rw [nI_clamp (by omega : k < 2 ^ 31)]
    refine nm_e (nm_r (nI_1 k) (ih (k + 1) _ (by omega) fun j hj => ?_))
    by_cases z : j = k
    · subst z
      exact pk_us
    · rw [pk_un z]
      exact h j (by omega)
theorem gx_find (hw : gc_wf o a b c) (hm : m ≤ 32) {L : Nat → Int32} {post : SX → Prop}
    (hp : ∀ L, (∀ j v, j < m → v < 32 → (bt (L j) v = true ↔ gc_LV m o a b c v j)) → post (nI m, ex, pr, o, a, b, c, sv, vl, ko, L)) :
    wpX_findLiveSets post (nI m, ex, pr, o, a, b, c, sv, vl, ko, L) :=
  ⟨m + 1, gx_2 hw hm (fun L h => hp L fun j v hj hv => gc_InvE h hj hv) m 0 L (by omega) fun j hj => absurd hj (Nat.not_lt_zero j)⟩
end
end
section
/-! the reference's search -/
section
variable {pr ex : Int32} {o a b c sv vl ko : Nat → Int32} {m i j v : Nat} {post : Int32 → Prop}
theorem gy_rd (hi : i < 32) (h1 : gc_R o a b c v i → post 1) (h0 : ¬ gc_R o a b c v i → post 0) : wpY_reads post (nI m, pr, ex, o, a, b, c, sv, vl, ko) (nI i) (nI v) := by
  have l1 : vp_in (nI i) 32 := vp_in_nI hi (by omega)
  have l2 : (nI i).toNatClampNeg = i := nI_clamp (by omega)
  have l3 : (o i = 6 ∨ o i = 8 ∨ o i = 9) → wY_reads_33 post (nI i) (nI v) (nI m) pr ex o a b c sv vl ko := fun e => by
    simp only [wY_reads_33, l2]
    refine ⟨l1, br_c (fun h => h1 (Or.inl ⟨e, h⟩)) (fun h => h0 fun z => ?_)⟩
    rcases z with z | z
    · exact h z.2
    · have z5 := z.1.2
      rcases e with e | e | e
      all_goals
        rw [e] at z5
        exact absurd z5 (by decide)
  simp only [wpY_reads, l2]
  refine ⟨l1, br_c (fun e => l3 (Or.inl e)) (fun e6 => ⟨l1, br_c (fun e => l3 (Or.inr (Or.inl e))) (fun e8 => ⟨l1, br_c (fun e => l3 (Or.inr (Or.inr e))) (fun e9 => ⟨l1, ?_⟩)⟩)⟩)⟩
  have no : ¬ (o i = 6 ∨ o i = 8 ∨ o i = 9) := fun z => z.elim e6 fun z => z.elim e8 e9
  refine br_c (fun q1 => h0 fun z => ?_) (fun q1 => ⟨l1, br_c (fun q5 => h0 fun z => ?_) (fun q5 => ⟨l1, br_c (fun hb => h1 (Or.inr ⟨⟨Int32.not_lt.mp q1, Int32.not_lt.mp q5⟩, Or.inl hb⟩)) (fun hb => ⟨l1, br_c (fun q2 => h0 fun z => ?_) (fun q2 => ⟨l1, br_c (fun hc => h1 (Or.inr ⟨⟨Int32.not_lt.mp q1, Int32.not_lt.mp q5⟩, Or.inr ⟨Int32.not_lt.mp q2, hc⟩⟩)) (fun hc => h0 fun z => ?_)⟩)⟩)⟩)⟩)
  · rcases z with z | z
    · exact no z.1
    · exact absurd q1 (Int32.not_lt.mpr z.1.1)
  · rcases z with z | z
    · exact no z.1
    · exact absurd q5 (Int32.not_lt.mpr z.1.2)
  · rcases z with z | ⟨_, z | z⟩
    · exact no z.1
    · exact hb z
    · exact absurd q2 (Int32.not_lt.mpr z.1)
  · rcases z with z | ⟨_, z | z⟩
    · exact no z.1
    · exact hb z
    · exact hc z.2
theorem gy_wr (hi : i < 32) (h1 : gc_W o a v i → post 1) (h0 : ¬ gc_W o a v i → post 0) : wpY_writes post (nI m, pr, ex, o, a, b, c, sv, vl, ko) (nI i) (nI v) := by
  have l1 : vp_in (nI i) 32 := vp_in_nI hi (by omega)
  have l2 : (nI i).toNatClampNeg = i := nI_clamp (by omega)
  simp only [wpY_writes, l2]
  exact ⟨l1, br_c (fun q5 => h0 fun z => absurd q5 (Int32.not_lt.mpr z.1)) (fun q5 => ⟨l1, br_c (fun h => h1 ⟨Int32.not_lt.mp q5, h⟩) (fun h => h0 fun z => h z.2)⟩)⟩
theorem gy_cf (hi : i < 32) (hj : j < 32) (h1 : gc_E o a b c i j → post 1) (h0 : ¬ gc_E o a b c i j → post 0) : wpY_canFollow post (nI m, pr, ex, o, a, b, c, sv, vl, ko) (nI i) (nI j) := by
  have l1 : vp_in (nI i) 32 := vp_in_nI hi (by omega)
  have l2 : (nI i).toNatClampNeg = i := nI_clamp (by omega)
  have hs : nI j = nI i + 1 ↔ j = i + 1 := by rw [nI_1, nI_eq (by omega) (by omega)]
  simp only [wpY_canFollow, l2]
  refine ⟨l1, br_c (fun e7 => ⟨l1, br_c (fun h => h1 (Or.inl ⟨e7, h⟩)) (fun h => h0 fun z => ?_)⟩) (fun e7 => ⟨l1, br_c (fun e10 => h0 fun z => ?_) (fun e10 => br_c (fun h => h1 (Or.inr ⟨e7, e10, Or.inl (hs.mp h)⟩)) (fun h => ⟨l1, br_c (fun e8 => ⟨l1, br_c (fun g => h1 (Or.inr ⟨e7, e10, Or.inr (Or.inl ⟨e8, g⟩)⟩)) (fun g => h0 fun z => ?_)⟩) (fun e8 => ⟨l1, br_c (fun e9 => ⟨l1, br_c (fun g => h0 fun z => ?_) (fun g => ⟨l1, l1, br_c (fun g2 => h0 fun z => ?_) (fun g2 => h1 (Or.inr ⟨e7, e10, Or.inr (Or.inr ⟨e9, Int32.not_lt.mp g, Int32.not_le.mp g2⟩)⟩))⟩)⟩) (fun e9 => h0 fun z => ?_)⟩)⟩))⟩)⟩
  · rcases z with z | z
    · exact h z.2
    · exact z.1 e7
  · rcases z with z | z
    · exact e7 z.1
    · exact z.2.1 e10
  · rcases z with z | ⟨_, _, z | z | z⟩
    · exact e7 z.1
    · exact h (hs.mpr z)
    · exact g z.2
    · have z9 := z.1
      rw [e8] at z9
      exact absurd z9 (by decide)
  · rcases z with z | ⟨_, _, z | z | z⟩
    · exact e7 z.1
    · exact h (hs.mpr z)
    · exact e8 z.1
    · exact absurd g (Int32.not_lt.mpr z.2.1)
  · rcases z with z | ⟨_, _, z | z | z⟩
    · exact e7 z.1
    · exact h (hs.mpr z)
    · exact e8 z.1
    · exact absurd z.2.2 (Int32.not_lt.mpr g2)
  · rcases z with z | ⟨_, _, z | z | z⟩
    · exact e7 z.1
    · exact h (hs.mpr z)
    · exact e8 z.1
    · exact e9 z.1
theorem gy_17 (hm : m ≤ 32) (hi : i < m) {s : Int32} {J : Int32 → Int32 → Prop} (hJ : ∀ x, gc_O m s (gc_W o a v) (gc_E o a b c) (i + 1) x → J x (nI (i + 1))) :
    ∀ d j x, j + d = m → gc_N m s (gc_W o a v) (gc_E o a b c) i j x → wY_widened_17 post J s (nI v) (nI i) (nI m) pr ex o a b c sv vl ko (d + 1) x (nI j) := by
  intro d
  induction d with
  | zero =>
    intro j x e h
    have e : j = m := by omega
    subst e
    exact br_t (nI_le (Nat.le_refl _) (by omega)) (nm_r (nI_1 i) (hJ x (gc_N_e h)))
  | succ d ih =>
    intro j x e h
    have keep : ¬ gc_Q s (gc_W o a v) (gc_E o a b c) i j → wY_widened_17 post J s (nI v) (nI i) (nI m) pr ex o a b c sv vl ko (d + 1) x (nI (j + 1)) := fun z => ih (j + 1) x (by omega) (gc_N_k h z)
    refine br_f (nI_ge (by omega) (by omega)) (br_c (fun hb => ?_) (fun hb => nm_r (nI_1 j) (keep fun z => hb ((gc_tst s (by omega)).mpr z.1))))
    have hb' := (gc_tst s (by omega)).mp hb
    refine gy_wr (by omega) (fun w => br_f (by decide) (nm_r (nI_1 j) (keep fun z => z.2.1 w))) (fun w => br_t rfl ?_)
    refine gy_cf (by omega) (by omega) (fun f => br_f (by decide) (nm_e (nm_r (nI_1 j) (ih (j + 1) _ (by omega) (gc_N_s h (by omega) ⟨hb', w, f⟩))))) (fun f => br_t rfl (nm_r (nI_1 j) (keep fun z => f z.2.2)))
theorem gy_5 (hm : m ≤ 32) {s : Int32} (hp : ∀ x, gc_Wd m (gc_W o a v) (gc_E o a b c) s x → post x) :
    ∀ d i x, i + d = m → gc_O m s (gc_W o a v) (gc_E o a b c) i x → wY_widened_5 post s (nI v) (nI m) pr ex o a b c sv vl ko (d + 1) x (nI i) := by
  intro d
  induction d with
  | zero =>
    intro i x e h
    have e : i = m := by omega
    subst e
    exact br_t (nI_le (Nat.le_refl _) (by omega)) (hp x (gc_O_e h))
  | succ d ih =>
    intro i x e h
    exact br_f (nI_ge (by omega) (by omega)) ⟨m + 1, gy_17 hm (by omega) (fun x' h' => ih (i + 1) x' (by omega) h') m 0 x (by omega) (gc_N_0 h)⟩
theorem gy_wd (hm : m ≤ 32) {s : Int32} (hp : ∀ x, gc_Wd m (gc_W o a v) (gc_E o a b c) s x → post x) : wpY_widened post (nI m, pr, ex, o, a, b, c, sv, vl, ko) s (nI v) :=
  ⟨m + 1, gy_5 hm hp m 0 s (by omega) gc_O_0⟩
theorem gy_42 (hm : m ≤ 32) {s : Int32} (h1 : (∃ j, j < m ∧ bt s j = true ∧ gc_R o a b c v j) → post 1) (h0 : ¬ (∃ j, j < m ∧ bt s j = true ∧ gc_R o a b c v j) → post 0) :
    ∀ d j, j + d = m → (∀ t, t < j → ¬ (bt s t = true ∧ gc_R o a b c v t)) → wY_isLive_42 post (nI v) s (nI m) pr ex o a b c sv vl ko (d + 1) (nI j) := by
  intro d
  induction d with
  | zero =>
    intro j e h
    have e : j = m := by omega
    subst e
    exact br_t (nI_le (Nat.le_refl _) (by omega)) (h0 fun ⟨t, ht, z⟩ => h t ht z)
  | succ d ih =>
    intro j e h
    have keep : ¬ (bt s j = true ∧ gc_R o a b c v j) → wY_isLive_42 post (nI v) s (nI m) pr ex o a b c sv vl ko (d + 1) (nI (j + 1)) := fun z => ih (j + 1) (by omega) fun t ht => by
      rcases Nat.lt_or_ge t j with y | y
      · exact h t y
      · have e : t = j := by omega
        subst e
        exact z
    refine br_f (nI_ge (by omega) (by omega)) (br_c (fun hb => ?_) (fun hb => nm_r (nI_1 j) (keep fun z => hb ((gc_tst s (by omega)).mpr z.1))))
    have hb' := (gc_tst s (by omega)).mp hb
    exact gy_rd (by omega) (fun r => br_f (by decide) (h1 ⟨j, by omega, hb', r⟩)) (fun r => br_t rfl (nm_r (nI_1 j) (keep fun z => r z.2)))
theorem gy_10 (hm : m ≤ 32) (hi : i < m) (h1 : gc_LV m o a b c v i → post 1) (h0 : ¬ gc_LV m o a b c v i → post 0) :
    ∀ d r s l, r + d = 33 → gc_J m (gc_R o a b c v) (gc_W o a v) (gc_E o a b c) i r s l → wY_isLive_10 post (nI v) (nI m) pr ex o a b c sv vl ko (d + 1) s l (nI r) := by
  intro d
  have fin : ∀ r s l, gc_J m (gc_R o a b c v) (gc_W o a v) (gc_E o a b c) i r s l → (s = l ∨ 32 ≤ r) → ∃ n : Nat, wY_isLive_42 post (nI v) s (nI m) pr ex o a b c sv vl ko n 0 := fun r s l h he =>
    ⟨m + 1, gy_42 hm (fun z => h1 ((gc_JE hm hi h he).mp z)) (fun z => h0 fun y => z ((gc_JE hm hi h he).mpr y)) m 0 (by omega) fun t ht => absurd ht (Nat.not_lt_zero t)⟩
  induction d with
  | zero =>
    intro r s l e h
    have e : r = 33 := by omega
    subst e
    exact br_t (by decide) (fin 33 s l h (Or.inr (by decide)))
  | succ d ih =>
    intro r s l e h
    refine br_f (nI_ge (b := 33) (by omega) (by decide)) (br_c (fun z => fin r s l h (Or.inl z)) (fun z => ?_))
    exact gy_wd hm fun x hx => nm_r (nI_1 r) (ih (r + 1) x s (by omega) (gc_JS hm h hi z hx))
theorem gy_il (hm : m ≤ 32) (hi : i < m) (h1 : gc_LV m o a b c v i → post 1) (h0 : ¬ gc_LV m o a b c v i → post 0) : wpY_isLive post (nI m, pr, ex, o, a, b, c, sv, vl, ko) (nI i) (nI v) :=
  nm_e ⟨34, gy_10 hm hi h1 h0 33 0 _ 0 (by omega) (gc_J0 hm hi)⟩
theorem gy_ilc {A B : Prop} (hm : m ≤ 32) (hi : i < m) (h1 : gc_LV m o a b c v i → B) (h0 : ¬ gc_LV m o a b c v i → A) : wpY_isLive (fun r => ((r = 0 → A) ∧ (¬ r = 0 → B))) (nI m, pr, ex, o, a, b, c, sv, vl, ko) (nI i) (nI v) :=
  gy_il hm hi (fun h => br_f (by decide) (h1 h)) (fun h => br_t rfl (h0 h))
theorem gy_In {A B : Prop} {x : Int32} (h : x < 0 ∨ nI m ≤ x) (hA : A) : wpY_isInstruction (fun r => ((r = 0 → A) ∧ (¬ r = 0 → B))) (nI m, pr, ex, o, a, b, c, sv, vl, ko) x := by
  by_cases z : x < 0
  · exact br_t z (br_t rfl hA)
  · exact br_f z (br_t (h.resolve_left z) (br_t rfl hA))
theorem gy_Iy {A B : Prop} (hm : m ≤ 32) (hj : j < m) (hB : B) : wpY_isInstruction (fun r => ((r = 0 → A) ∧ (¬ r = 0 → B))) (nI m, pr, ex, o, a, b, c, sv, vl, ko) (nI j) :=
  br_f (nI_pos (by omega)) (br_f (nI_ge hj (by omega)) (br_f (by decide) hB))
theorem gy_live_n {x : Int32} (h : x < 0 ∨ nI m ≤ x) (hp : post 0) : wpY_live post (nI m, pr, ex, o, a, b, c, sv, vl, ko) x := by
  have key : ∀ d k, k + d = 8 → wY_live_4 post x (nI m) pr ex o a b c sv vl ko (d + 1) 0 (nI k) := by
    intro d
    induction d with
    | zero =>
      intro k e
      have e : k = 8 := by omega
      subst e
      exact br_t (by decide) hp
    | succ d ih =>
      intro k e
      exact br_f (nI_ge (b := 8) (by omega) (by decide)) (gy_In h (nm_r (nI_1 k) (ih (k + 1) (by omega))))
  exact ⟨9, key 8 0 rfl⟩
theorem gy_live_y (hm : m ≤ 32) (hi : i < m) (hp : ∀ r, (∀ v, v < 32 → (bt r v = true ↔ (v < 8 ∧ gc_LV m o a b c v i))) → post r) : wpY_live post (nI m, pr, ex, o, a, b, c, sv, vl, ko) (nI i) := by
  have key : ∀ d k r, k + d = 8 → (∀ v, v < 32 → (bt r v = true ↔ (v < k ∧ gc_LV m o a b c v i))) → wY_live_4 post (nI i) (nI m) pr ex o a b c sv vl ko (d + 1) r (nI k) := by
    intro d
    induction d with
    | zero =>
      intro k r e h
      have e : k = 8 := by omega
      subst e
      exact br_t (by decide) (hp r h)
    | succ d ih =>
      intro k r e h
      refine br_f (nI_ge (b := 8) (by omega) (by decide)) (gy_Iy hm hi (gy_ilc hm hi (fun z => nm_e (nm_r (nI_1 k) (ih (k + 1) _ (by omega) fun v hv => ?_))) (fun z => nm_r (nI_1 k) (ih (k + 1) r (by omega) fun v hv => ?_))))
      · rw [gc_or_b, h v hv, gc_bit2 (by omega) hv, nI_eq (by omega) (by omega)]
        constructor
        · rintro (y | y)
          · exact ⟨by omega, y.2⟩
          · subst y
            exact ⟨by omega, z⟩
        · rintro ⟨y, q⟩
          rcases Nat.lt_or_ge v k with w | w
          · exact Or.inl ⟨w, q⟩
          · exact Or.inr (by omega)
      · rw [h v hv]
        constructor
        · rintro ⟨y, q⟩
          exact ⟨by omega, q⟩
        · rintro ⟨y, q⟩
          rcases Nat.lt_or_ge v k with w | w
          · exact ⟨w, q⟩
          · have e : v = k := by omega
            subst e
            exact absurd q z
  refine ⟨9, key 8 0 0 rfl fun v hv => ?_⟩
  rw [b_0]
  exact ⟨fun z => absurd z (by decide), fun z => absurd z.1 (Nat.not_lt_zero v)⟩
end
end
section
/-! one executed instruction, on both sides -/
def gc_Step (m i p : Nat) (o a b c sv vl ko : Nat → Int32) : Prop :=
  ∃ (x y : Int32) (q : Nat) (vl' ko' : Nat → Int32), q ≤ p + 1 ∧ gc_nx m x y ∧
  (∀ (ex : Int32) (L : Nat → Int32) (post : Int32 → SX → Prop), post x (nI m, ex, nI q, o, a, b, c, sv, vl', ko', L) → wpX_execute post (nI m, ex, nI p, o, a, b, c, sv, vl, ko, L) (nI i)) ∧
  (∀ (ex : Int32) (post : Int32 → SY → Prop), post y (nI m, nI q, ex, o, a, b, c, sv, vl', ko') → wpY_step post (nI m, nI p, ex, o, a, b, c, sv, vl, ko) (nI i))
section
variable {m i p : Nat} {o a b c sv vl ko : Nat → Int32}
theorem gs_tail {f1 f2 f3 : Int32} {post : Int32 → SY → Prop} (hi : i < 32) (e : o i ≤ 5) (h : post (nI (i + 1)) (f1, f2, f3, o, a, b, c, sv, vl, ko)) : wY_step_15 post (nI i) f1 f2 f3 o a b c sv vl ko := by
  have l1 : vp_in (nI i) 32 := vp_in_nI hi (by omega)
  have l2 : (nI i).toNatClampNeg = i := nI_clamp (by omega)
  rw [← l2] at e
  have ne : ∀ k : Int32, 5 < k → ¬ o (nI i).toNatClampNeg = k := fun k hk z => absurd (Int32.lt_of_lt_of_le hk (z ▸ e)) Int32.lt_irrefl
  rw [← nI_1] at h
  exact ⟨l1, br_f (ne _ (by decide)) ⟨l1, br_f (ne _ (by decide)) ⟨l1, br_f (ne _ (by decide)) ⟨l1, br_f (ne _ (by decide)) ⟨l1, br_f (ne _ (by decide)) h⟩⟩⟩⟩⟩
theorem gk_0 {f1 f2 f3 : Int32} {post : SY → Prop} (hi : i < 32) (e : o i = 0) {x : Nat} (hx : x < 8) (ea : a i = nI x) (h : post (f1, f2, f3, o, a, b, c, sv, upd vl x (b i), ko)) : wpY_calculate post (f1, f2, f3, o, a, b, c, sv, vl, ko) (nI i) := by
  have l1 : vp_in (nI i) 32 := vp_in_nI hi (by omega)
  have l2 : (nI i).toNatClampNeg = i := nI_clamp (by omega)
  rw [← l2] at e
  have cx : (nI x).toNatClampNeg = x := nI_clamp (by omega)
  have wx : vp_in (a (nI i).toNatClampNeg) 8 := by rw [l2, ea]; exact vp_in_nI hx (by omega)
  exact ⟨l1, br_t (by rw [e]; decide) ⟨l1, br_t (by rw [e]; decide) ⟨l1, br_t e ⟨l1, l1, wx, (nm_r (by rw [l2, ea, cx]) ⟨l1, br_f (by rw [e]; decide) ⟨l1, br_f (by rw [e]; decide) ⟨l1, br_f (by rw [e]; decide) ⟨l1, br_f (by rw [e]; decide) ⟨l1, br_f (by rw [e]; decide) h⟩⟩⟩⟩⟩)⟩⟩⟩⟩
theorem gk_1 {f1 f2 f3 : Int32} {post : SY → Prop} (hi : i < 32) (e : o i = 1) {x : Nat} (hx : x < 8) (ea : a i = nI x) {y : Nat} (hy : y < 8) (eb : b i = nI y) (h : post (f1, f2, f3, o, a, b, c, sv, upd vl x (vl y), ko)) : wpY_calculate post (f1, f2, f3, o, a, b, c, sv, vl, ko) (nI i) := by
  have l1 : vp_in (nI i) 32 := vp_in_nI hi (by omega)
  have l2 : (nI i).toNatClampNeg = i := nI_clamp (by omega)
  rw [← l2] at e
  have cx : (nI x).toNatClampNeg = x := nI_clamp (by omega)
  have wx : vp_in (a (nI i).toNatClampNeg) 8 := by rw [l2, ea]; exact vp_in_nI hx (by omega)
  have cy : (nI y).toNatClampNeg = y := nI_clamp (by omega)
  have wy : vp_in (b (nI i).toNatClampNeg) 8 := by rw [l2, eb]; exact vp_in_nI hy (by omega)
  exact ⟨l1, br_f (by rw [e]; decide) ⟨l1, wy, ⟨l1, br_t (by rw [e]; decide) ⟨l1, br_f (by rw [e]; decide) ⟨l1, br_t e ⟨l1, wx, (nm_r (by rw [l2, ea, eb, cx, cy]) ⟨l1, br_f (by rw [e]; decide) ⟨l1, br_f (by rw [e]; decide) ⟨l1, br_f (by rw [e]; decide) ⟨l1, br_f (by rw [e]; decide) h⟩⟩⟩⟩)⟩⟩⟩⟩⟩⟩
theorem gk_2 {f1 f2 f3 : Int32} {post : SY → Prop} (hi : i < 32) (e : o i = 2) {x : Nat} (hx : x < 8) (ea : a i = nI x) {y : Nat} (hy : y < 8) (eb : b i = nI y) {z : Nat} (hz : z < 8) (ec : c i = nI z) (h : post (f1, f2, f3, o, a, b, c, sv, upd vl x (vl y + vl z), ko)) : wpY_calculate post (f1, f2, f3, o, a, b, c, sv, vl, ko) (nI i) := by
  have l1 : vp_in (nI i) 32 := vp_in_nI hi (by omega)
  have l2 : (nI i).toNatClampNeg = i := nI_clamp (by omega)
  rw [← l2] at e
  have cx : (nI x).toNatClampNeg = x := nI_clamp (by omega)
  have wx : vp_in (a (nI i).toNatClampNeg) 8 := by rw [l2, ea]; exact vp_in_nI hx (by omega)
  have cy : (nI y).toNatClampNeg = y := nI_clamp (by omega)
  have wy : vp_in (b (nI i).toNatClampNeg) 8 := by rw [l2, eb]; exact vp_in_nI hy (by omega)
  have cz : (nI z).toNatClampNeg = z := nI_clamp (by omega)
  have wz : vp_in (c (nI i).toNatClampNeg) 8 := by rw [l2, ec]; exact vp_in_nI hz (by omega)
  exact ⟨l1, br_f (by rw [e]; decide) ⟨l1, wy, ⟨l1, br_f (by rw [e]; decide) ⟨l1, wz, ⟨l1, br_f (by rw [e]; decide) ⟨l1, br_f (by rw [e]; decide) ⟨l1, br_t e ⟨l1, wx, (nm_r (by rw [l2, ea, eb, ec, cx, cy, cz]) ⟨l1, br_f (by rw [e]; decide) ⟨l1, br_f (by rw [e]; decide) ⟨l1, br_f (by rw [e]; decide) h⟩⟩⟩)⟩⟩⟩⟩⟩⟩⟩⟩
theorem gk_3 {f1 f2 f3 : Int32} {post : SY → Prop} (hi : i < 32) (e : o i = 3) {x : Nat} (hx : x < 8) (ea : a i = nI x) {y : Nat} (hy : y < 8) (eb : b i = nI y) {z : Nat} (hz : z < 8) (ec : c i = nI z) (h : post (f1, f2, f3, o, a, b, c, sv, upd vl x (vl y - vl z), ko)) : wpY_calculate post (f1, f2, f3, o, a, b, c, sv, vl, ko) (nI i) := by
  have l1 : vp_in (nI i) 32 := vp_in_nI hi (by omega)
  have l2 : (nI i).toNatClampNeg = i := nI_clamp (by omega)
  rw [← l2] at e
  have cx : (nI x).toNatClampNeg = x := nI_clamp (by omega)
  have wx : vp_in (a (nI i).toNatClampNeg) 8 := by rw [l2, ea]; exact vp_in_nI hx (by omega)
  have cy : (nI y).toNatClampNeg = y := nI_clamp (by omega)
  have wy : vp_in (b (nI i).toNatClampNeg) 8 := by rw [l2, eb]; exact vp_in_nI hy (by omega)
  have cz : (nI z).toNatClampNeg = z := nI_clamp (by omega)
  have wz : vp_in (c (nI i).toNatClampNeg) 8 := by rw [l2, ec]; exact vp_in_nI hz (by omega)
  exact ⟨l1, br_f (by rw [e]; decide) ⟨l1, wy, ⟨l1, br_f (by rw [e]; decide) ⟨l1, wz, ⟨l1, br_f (by rw [e]; decide) ⟨l1, br_f (by rw [e]; decide) ⟨l1, br_f (by rw [e]; decide) ⟨l1, br_t e ⟨l1, wx, (nm_r (by rw [l2, ea, eb, ec, cx, cy, cz]) ⟨l1, br_f (by rw [e]; decide) ⟨l1, br_f (by rw [e]; decide) h⟩⟩)⟩⟩⟩⟩⟩⟩⟩⟩⟩
theorem gk_4 {f1 f2 f3 : Int32} {post : SY → Prop} (hi : i < 32) (e : o i = 4) {x : Nat} (hx : x < 8) (ea : a i = nI x) {y : Nat} (hy : y < 8) (eb : b i = nI y) {z : Nat} (hz : z < 8) (ec : c i = nI z) (h : post (f1, f2, f3, o, a, b, c, sv, upd vl x (vl y * vl z), ko)) : wpY_calculate post (f1, f2, f3, o, a, b, c, sv, vl, ko) (nI i) := by
  have l1 : vp_in (nI i) 32 := vp_in_nI hi (by omega)
  have l2 : (nI i).toNatClampNeg = i := nI_clamp (by omega)
  rw [← l2] at e
  have cx : (nI x).toNatClampNeg = x := nI_clamp (by omega)
  have wx : vp_in (a (nI i).toNatClampNeg) 8 := by rw [l2, ea]; exact vp_in_nI hx (by omega)
  have cy : (nI y).toNatClampNeg = y := nI_clamp (by omega)
  have wy : vp_in (b (nI i).toNatClampNeg) 8 := by rw [l2, eb]; exact vp_in_nI hy (by omega)
  have cz : (nI z).toNatClampNeg = z := nI_clamp (by omega)
  have wz : vp_in (c (nI i).toNatClampNeg) 8 := by rw [l2, ec]; exact vp_in_nI hz (by omega)
  exact ⟨l1, br_f (by rw [e]; decide) ⟨l1, wy, ⟨l1, br_f (by rw [e]; decide) ⟨l1, wz, ⟨l1, br_f (by rw [e]; decide) ⟨l1, br_f (by rw [e]; decide) ⟨l1, br_f (by rw [e]; decide) ⟨l1, br_f (by rw [e]; decide) ⟨l1, br_t e ⟨l1, wx, (nm_r (by rw [l2, ea, eb, ec, cx, cy, cz]) ⟨l1, br_f (by rw [e]; decide) h⟩)⟩⟩⟩⟩⟩⟩⟩⟩⟩⟩
theorem gk_5 {f1 f2 f3 : Int32} {post : SY → Prop} (hi : i < 32) (e : o i = 5) {x : Nat} (hx : x < 8) (ea : a i = nI x) {y : Nat} (hy : y < 8) (eb : b i = nI y) {z : Nat} (hz : z < 8) (ec : c i = nI z) (h1 : vl z ≤ vl y → post (f1, f2, f3, o, a, b, c, sv, upd vl x 0, ko)) (h0 : ¬ vl z ≤ vl y → post (f1, f2, f3, o, a, b, c, sv, upd vl x 1, ko)) : wpY_calculate post (f1, f2, f3, o, a, b, c, sv, vl, ko) (nI i) := by
  have l1 : vp_in (nI i) 32 := vp_in_nI hi (by omega)
  have l2 : (nI i).toNatClampNeg = i := nI_clamp (by omega)
  rw [← l2] at e
  have cx : (nI x).toNatClampNeg = x := nI_clamp (by omega)
  have wx : vp_in (a (nI i).toNatClampNeg) 8 := by rw [l2, ea]; exact vp_in_nI hx (by omega)
  have cy : (nI y).toNatClampNeg = y := nI_clamp (by omega)
  have wy : vp_in (b (nI i).toNatClampNeg) 8 := by rw [l2, eb]; exact vp_in_nI hy (by omega)
  have cz : (nI z).toNatClampNeg = z := nI_clamp (by omega)
  have wz : vp_in (c (nI i).toNatClampNeg) 8 := by rw [l2, ec]; exact vp_in_nI hz (by omega)
  have q : vl (c (nI i).toNatClampNeg).toNatClampNeg ≤ vl (b (nI i).toNatClampNeg).toNatClampNeg ↔ vl z ≤ vl y := by rw [l2, eb, ec, cy, cz]
  exact ⟨l1, br_f (by rw [e]; decide) ⟨l1, wy, ⟨l1, br_f (by rw [e]; decide) ⟨l1, wz, ⟨l1, br_f (by rw [e]; decide) ⟨l1, br_f (by rw [e]; decide) ⟨l1, br_f (by rw [e]; decide) ⟨l1, br_f (by rw [e]; decide) ⟨l1, br_f (by rw [e]; decide) ⟨l1, br_t e ⟨l1, br_c (fun g => ⟨wx, nm_r (by rw [l2, ea, cx]) (h1 (q.mp g))⟩) (fun g => ⟨wx, nm_r (by rw [l2, ea, cx]) (h0 fun z => g (q.mpr z))⟩)⟩⟩⟩⟩⟩⟩⟩⟩⟩⟩⟩
theorem gs_0 (hi : i < 32) (e : o i = 0) {x : Nat} (hx : x < 8) (ea : a i = nI x) : gc_Step m i p o a b c sv vl ko := by
  have l1 : vp_in (nI i) 32 := vp_in_nI hi (by omega)
  have l2 : (nI i).toNatClampNeg = i := nI_clamp (by omega)
  have vx : vp_in (nI x) 8 := vp_in_nI hx (by omega)
  have cx : (nI x).toNatClampNeg = x := nI_clamp (by omega)
  refine ⟨nI (i + 1), nI (i + 1), p, upd vl x (b i), ko, by omega, Or.inl ⟨i + 1, by omega, rfl, rfl⟩, fun ex L post h => ?_, fun ex post h => ?_⟩
  · simpa [wpX_execute, l1, l2, e, ea, vx, cx, nI_1] using h
  · exact ⟨l1, br_f (by rw [l2, e]; decide) (gk_0 hi e hx ea (gs_tail hi (by rw [e]; decide) h))⟩
theorem gs_1 (hi : i < 32) (e : o i = 1) {x : Nat} (hx : x < 8) (ea : a i = nI x) {y : Nat} (hy : y < 8) (eb : b i = nI y) : gc_Step m i p o a b c sv vl ko := by
  have l1 : vp_in (nI i) 32 := vp_in_nI hi (by omega)
  have l2 : (nI i).toNatClampNeg = i := nI_clamp (by omega)
  have vx : vp_in (nI x) 8 := vp_in_nI hx (by omega)
  have cx : (nI x).toNatClampNeg = x := nI_clamp (by omega)
  have vy : vp_in (nI y) 8 := vp_in_nI hy (by omega)
  have cy : (nI y).toNatClampNeg = y := nI_clamp (by omega)
  refine ⟨nI (i + 1), nI (i + 1), p, upd vl x (vl y), ko, by omega, Or.inl ⟨i + 1, by omega, rfl, rfl⟩, fun ex L post h => ?_, fun ex post h => ?_⟩
  · simpa [wpX_execute, l1, l2, e, ea, eb, vx, cx, vy, cy, nI_1] using h
  · exact ⟨l1, br_f (by rw [l2, e]; decide) (gk_1 hi e hx ea hy eb (gs_tail hi (by rw [e]; decide) h))⟩
theorem gs_2 (hi : i < 32) (e : o i = 2) {x : Nat} (hx : x < 8) (ea : a i = nI x) {y : Nat} (hy : y < 8) (eb : b i = nI y) {z : Nat} (hz : z < 8) (ec : c i = nI z) : gc_Step m i p o a b c sv vl ko := by
  have l1 : vp_in (nI i) 32 := vp_in_nI hi (by omega)
  have l2 : (nI i).toNatClampNeg = i := nI_clamp (by omega)
  have vx : vp_in (nI x) 8 := vp_in_nI hx (by omega)
  have cx : (nI x).toNatClampNeg = x := nI_clamp (by omega)
  have vy : vp_in (nI y) 8 := vp_in_nI hy (by omega)
  have cy : (nI y).toNatClampNeg = y := nI_clamp (by omega)
  have vz : vp_in (nI z) 8 := vp_in_nI hz (by omega)
  have cz : (nI z).toNatClampNeg = z := nI_clamp (by omega)
  refine ⟨nI (i + 1), nI (i + 1), p, upd vl x (vl y + vl z), ko, by omega, Or.inl ⟨i + 1, by omega, rfl, rfl⟩, fun ex L post h => ?_, fun ex post h => ?_⟩
  · simpa [wpX_execute, l1, l2, e, ea, eb, ec, vx, cx, vy, cy, vz, cz, nI_1] using h
  · exact ⟨l1, br_f (by rw [l2, e]; decide) (gk_2 hi e hx ea hy eb hz ec (gs_tail hi (by rw [e]; decide) h))⟩
theorem gs_3 (hi : i < 32) (e : o i = 3) {x : Nat} (hx : x < 8) (ea : a i = nI x) {y : Nat} (hy : y < 8) (eb : b i = nI y) {z : Nat} (hz : z < 8) (ec : c i = nI z) : gc_Step m i p o a b c sv vl ko := by
  have l1 : vp_in (nI i) 32 := vp_in_nI hi (by omega)
  have l2 : (nI i).toNatClampNeg = i := nI_clamp (by omega)
  have vx : vp_in (nI x) 8 := vp_in_nI hx (by omega)
  have cx : (nI x).toNatClampNeg = x := nI_clamp (by omega)
  have vy : vp_in (nI y) 8 := vp_in_nI hy (by omega)
  have cy : (nI y).toNatClampNeg = y := nI_clamp (by omega)
  have vz : vp_in (nI z) 8 := vp_in_nI hz (by omega)
  have cz : (nI z).toNatClampNeg = z := nI_clamp (by omega)
  refine ⟨nI (i + 1), nI (i + 1), p, upd vl x (vl y - vl z), ko, by omega, Or.inl ⟨i + 1, by omega, rfl, rfl⟩, fun ex L post h => ?_, fun ex post h => ?_⟩
  · simpa [wpX_execute, l1, l2, e, ea, eb, ec, vx, cx, vy, cy, vz, cz, nI_1] using h
  · exact ⟨l1, br_f (by rw [l2, e]; decide) (gk_3 hi e hx ea hy eb hz ec (gs_tail hi (by rw [e]; decide) h))⟩
theorem gs_4 (hi : i < 32) (e : o i = 4) {x : Nat} (hx : x < 8) (ea : a i = nI x) {y : Nat} (hy : y < 8) (eb : b i = nI y) {z : Nat} (hz : z < 8) (ec : c i = nI z) : gc_Step m i p o a b c sv vl ko := by
  have l1 : vp_in (nI i) 32 := vp_in_nI hi (by omega)
  have l2 : (nI i).toNatClampNeg = i := nI_clamp (by omega)
  have vx : vp_in (nI x) 8 := vp_in_nI hx (by omega)
  have cx : (nI x).toNatClampNeg = x := nI_clamp (by omega)
  have vy : vp_in (nI y) 8 := vp_in_nI hy (by omega)
  have cy : (nI y).toNatClampNeg = y := nI_clamp (by omega)
  have vz : vp_in (nI z) 8 := vp_in_nI hz (by omega)
  have cz : (nI z).toNatClampNeg = z := nI_clamp (by omega)
  refine ⟨nI (i + 1), nI (i + 1), p, upd vl x (vl y * vl z), ko, by omega, Or.inl ⟨i + 1, by omega, rfl, rfl⟩, fun ex L post h => ?_, fun ex post h => ?_⟩
  · simpa [wpX_execute, l1, l2, e, ea, eb, ec, vx, cx, vy, cy, vz, cz, nI_1] using h
  · exact ⟨l1, br_f (by rw [l2, e]; decide) (gk_4 hi e hx ea hy eb hz ec (gs_tail hi (by rw [e]; decide) h))⟩
theorem gs_5 (hi : i < 32) (e : o i = 5) {x : Nat} (hx : x < 8) (ea : a i = nI x) {y : Nat} (hy : y < 8) (eb : b i = nI y) {z : Nat} (hz : z < 8) (ec : c i = nI z) : gc_Step m i p o a b c sv vl ko := by
  have l1 : vp_in (nI i) 32 := vp_in_nI hi (by omega)
  have l2 : (nI i).toNatClampNeg = i := nI_clamp (by omega)
  have vx : vp_in (nI x) 8 := vp_in_nI hx (by omega)
  have cx : (nI x).toNatClampNeg = x := nI_clamp (by omega)
  have vy : vp_in (nI y) 8 := vp_in_nI hy (by omega)
  have cy : (nI y).toNatClampNeg = y := nI_clamp (by omega)
  have vz : vp_in (nI z) 8 := vp_in_nI hz (by omega)
  have cz : (nI z).toNatClampNeg = z := nI_clamp (by omega)
  by_cases g : vl z ≤ vl y
  · refine ⟨nI (i + 1), nI (i + 1), p, upd vl x 0, ko, by omega, Or.inl ⟨i + 1, by omega, rfl, rfl⟩, fun ex L post h => ?_, fun ex post h => ?_⟩
    · simpa [wpX_execute, l1, l2, e, ea, eb, ec, vx, cx, vy, cy, vz, cz, nI_1, g, Int32.not_lt.mpr g] using h
    · exact ⟨l1, br_f (by rw [l2, e]; decide) (gk_5 hi e hx ea hy eb hz ec (fun _ => gs_tail hi (by rw [e]; decide) h) (fun n => absurd g n))⟩
  · refine ⟨nI (i + 1), nI (i + 1), p, upd vl x 1, ko, by omega, Or.inl ⟨i + 1, by omega, rfl, rfl⟩, fun ex L post h => ?_, fun ex post h => ?_⟩
    · simpa [wpX_execute, l1, l2, e, ea, eb, ec, vx, cx, vy, cy, vz, cz, nI_1, g, Int32.not_le.mp g] using h
    · exact ⟨l1, br_f (by rw [l2, e]; decide) (gk_5 hi e hx ea hy eb hz ec (fun y => absurd y g) (fun _ => gs_tail hi (by rw [e]; decide) h))⟩
theorem gs_6 (hi : i < 32) (hp : p ≤ 250) (e : o i = 6) {x : Nat} (hx : x < 8) (ea : a i = nI x) : gc_Step m i p o a b c sv vl ko := by
  have l1 : vp_in (nI i) 32 := vp_in_nI hi (by omega)
  have l2 : (nI i).toNatClampNeg = i := nI_clamp (by omega)
  have vx : vp_in (nI x) 8 := vp_in_nI hx (by omega)
  have cx : (nI x).toNatClampNeg = x := nI_clamp (by omega)
  rcases Nat.lt_or_ge p 32 with g | g
  · have g1 : ¬ (32 : Int32) ≤ nI p := nI_ge (b := 32) g (by decide)
    have g2 : nI p < (32 : Int32) := nI_lt (b := 32) g (by decide)
    have g3 : vp_in (nI p) 32 := vp_in_nI g (by omega)
    have g4 : (nI p).toNatClampNeg = p := nI_clamp (by omega)
    refine ⟨nI (i + 1), nI (i + 1), p + 1, vl, upd ko p (vl x), by omega, Or.inl ⟨i + 1, by omega, rfl, rfl⟩, fun ex L post h => ?_, fun ex post h => ?_⟩
    · simpa [wpX_execute, wpX_print, l1, l2, e, ea, vx, cx, nI_1, g1, g2, g3, g4] using h
    · simpa [wpY_step, wY_step_15, wY_step_55, wY_step_65, wY_step_115, wY_step_179, l1, l2, e, ea, vx, cx, nI_1, g1, g2, g3, g4] using h
  · have g1 : (32 : Int32) ≤ nI p := nI_le (a := 32) g (by omega)
    have g2 : ¬ nI p < (32 : Int32) := Int32.not_lt.mpr g1
    refine ⟨nI (i + 1), nI (i + 1), p + 1, vl, ko, by omega, Or.inl ⟨i + 1, by omega, rfl, rfl⟩, fun ex L post h => ?_, fun ex post h => ?_⟩
    · simpa [wpX_execute, wpX_print, l1, l2, e, ea, vx, cx, nI_1, g1, g2] using h
    · simpa [wpY_step, wY_step_15, wY_step_55, wY_step_65, wY_step_115, wY_step_179, l1, l2, e, ea, vx, cx, nI_1, g1, g2] using h
theorem gs_7 (hi : i < 32) (e : o i = 7) {x : Nat} (hx : x < 32) (ea : a i = nI x) : gc_Step m i p o a b c sv vl ko := by
  have l1 : vp_in (nI i) 32 := vp_in_nI hi (by omega)
  have l2 : (nI i).toNatClampNeg = i := nI_clamp (by omega)
  refine ⟨nI x, nI x, p, vl, ko, by omega, Or.inl ⟨x, by omega, rfl, rfl⟩, fun ex L post h => ?_, fun ex post h => ?_⟩
  · simpa [wpX_execute, l1, l2, e, ea] using h
  · simpa [wpY_step, wY_step_15, wY_step_55, wY_step_65, wY_step_115, wY_step_179, l1, l2, e, ea] using h
theorem gs_8 (hi : i < 32) (e : o i = 8) {x : Nat} (hx : x < 8) (ea : a i = nI x) {y : Nat} (hy : y < 32) (eb : b i = nI y) : gc_Step m i p o a b c sv vl ko := by
  have l1 : vp_in (nI i) 32 := vp_in_nI hi (by omega)
  have l2 : (nI i).toNatClampNeg = i := nI_clamp (by omega)
  have vx : vp_in (nI x) 8 := vp_in_nI hx (by omega)
  have cx : (nI x).toNatClampNeg = x := nI_clamp (by omega)
  by_cases g : vl x = 0
  · refine ⟨nI (i + 1), nI (i + 1), p, vl, ko, by omega, Or.inl ⟨i + 1, by omega, rfl, rfl⟩, fun ex L post h => ?_, fun ex post h => ?_⟩
    · simpa [wpX_execute, l1, l2, e, ea, eb, vx, cx, nI_1, g] using h
    · simpa [wpY_step, wY_step_15, wY_step_55, wY_step_65, wY_step_115, wY_step_179, l1, l2, e, ea, eb, vx, cx, nI_1, g] using h
  · refine ⟨nI y, nI y, p, vl, ko, by omega, Or.inl ⟨y, by omega, rfl, rfl⟩, fun ex L post h => ?_, fun ex post h => ?_⟩
    · simpa [wpX_execute, l1, l2, e, ea, eb, vx, cx, nI_1, g] using h
    · simpa [wpY_step, wY_step_15, wY_step_55, wY_step_65, wY_step_115, wY_step_179, l1, l2, e, ea, eb, vx, cx, nI_1, g] using h
theorem gs_9 (hi : i < 32) (e : o i = 9) {x : Nat} (hx : x < 8) (ea : a i = nI x) {y : Nat} (hy : y < 32) (eb : b i = nI y) {z : Nat} (hz : z ≤ 4) (ec : c i = nI z) : gc_Step m i p o a b c sv vl ko := by
  have l1 : vp_in (nI i) 32 := vp_in_nI hi (by omega)
  have l2 : (nI i).toNatClampNeg = i := nI_clamp (by omega)
  have vx : vp_in (nI x) 8 := vp_in_nI hx (by omega)
  have cx : (nI x).toNatClampNeg = x := nI_clamp (by omega)
  rcases pk_ix (vl x) (n := z) (by omega) with g | g | ⟨k, hk, g⟩
  · refine ⟨nI (i + 1), nI (i + 1), p, vl, ko, by omega, Or.inl ⟨i + 1, by omega, rfl, rfl⟩, fun ex L post h => ?_, fun ex post h => ?_⟩
    · simpa [wpX_execute, l1, l2, e, ea, eb, ec, vx, cx, nI_1, g, Int32.not_le.mpr g] using h
    · simpa [wpY_step, wY_step_15, wY_step_55, wY_step_65, wY_step_115, wY_step_179, l1, l2, e, ea, eb, ec, vx, cx, nI_1, g, Int32.not_le.mpr g] using h
  · have g0 : (0 : Int32) ≤ vl x := Int32.le_trans (nI_pos' (n := z) (by omega)) g
    refine ⟨nI (i + 1), nI (i + 1), p, vl, ko, by omega, Or.inl ⟨i + 1, by omega, rfl, rfl⟩, fun ex L post h => ?_, fun ex post h => ?_⟩
    · simpa [wpX_execute, l1, l2, e, ea, eb, ec, vx, cx, nI_1, g, g0, Int32.not_lt.mpr g, Int32.not_lt.mpr g0] using h
    · simpa [wpY_step, wY_step_15, wY_step_55, wY_step_65, wY_step_115, wY_step_179, l1, l2, e, ea, eb, ec, vx, cx, nI_1, g, g0, Int32.not_lt.mpr g, Int32.not_lt.mpr g0] using h
  · have g0 : ¬ nI k < 0 := nI_pos (by omega)
    have g1 : ¬ nI z ≤ nI k := nI_ge hk (by omega)
    have g2 : (0 : Int32) ≤ nI k := Int32.not_lt.mp g0
    have g3 : nI k < nI z := Int32.not_le.mp g1
    refine ⟨nI (y + k), nI (y + k), p, vl, ko, by omega, Or.inl ⟨y + k, by omega, rfl, rfl⟩, fun ex L post h => ?_, fun ex post h => ?_⟩
    · simpa [wpX_execute, l1, l2, e, ea, eb, ec, vx, cx, nI_1, nI_add, g, g0, g1, g2, g3] using h
    · simpa [wpY_step, wY_step_15, wY_step_55, wY_step_65, wY_step_115, wY_step_179, l1, l2, e, ea, eb, ec, vx, cx, nI_1, nI_add, g, g0, g1, g2, g3] using h
theorem gs_10 (hi : i < 32) (e : o i = 10) : gc_Step m i p o a b c sv vl ko := by
  have l1 : vp_in (nI i) 32 := vp_in_nI hi (by omega)
  have l2 : (nI i).toNatClampNeg = i := nI_clamp (by omega)
  refine ⟨nI m, -1, p, vl, ko, by omega, Or.inr ⟨rfl, rfl⟩, fun ex L post h => ?_, fun ex post h => ?_⟩
  · simpa [wpX_execute, l1, l2, e] using h
  · simpa [wpY_step, wY_step_15, wY_step_55, wY_step_65, wY_step_115, wY_step_179, l1, l2, e] using h
theorem gs_all (hw : gc_wf o a b c) (hi : i < 32) (hp : p ≤ 250) : gc_Step m i p o a b c sv vl ko := by
  rcases hw i with ⟨e, x, hx, ea⟩ | ⟨e, ⟨x, hx, ea⟩, y, hy, eb⟩ | ⟨e, ⟨x, hx, ea⟩, ⟨y, hy, eb⟩, z, hz, ec⟩ | ⟨e, ⟨x, hx, ea⟩, ⟨y, hy, eb⟩, z, hz, ec⟩ | ⟨e, ⟨x, hx, ea⟩, ⟨y, hy, eb⟩, z, hz, ec⟩ | ⟨e, ⟨x, hx, ea⟩, ⟨y, hy, eb⟩, z, hz, ec⟩ | ⟨e, x, hx, ea⟩ | ⟨e, x, hx, ea⟩ | ⟨e, ⟨x, hx, ea⟩, y, hy, eb⟩ | ⟨e, ⟨x, hx, ea⟩, ⟨y, hy, eb⟩, z, _, hz, ec⟩ | e
  · exact gs_0 hi e hx ea
  · exact gs_1 hi e hx ea hy eb
  · exact gs_2 hi e hx ea hy eb hz ec
  · exact gs_3 hi e hx ea hy eb hz ec
  · exact gs_4 hi e hx ea hy eb hz ec
  · exact gs_5 hi e hx ea hy eb hz ec
  · exact gs_6 hi hp e hx ea
  · exact gs_7 hi e hx ea
  · exact gs_8 hi e hx ea hy eb
  · exact gs_9 hi e hx ea hy eb hz ec
  · exact gs_10 hi e
end
end
section
/-! a run, in lockstep -/
section
variable {m : Nat} {o a b c sv : Nat → Int32}
theorem gr_end (hm : m ≤ 32) {jx jy : Int32} (h : gc_nx m jx jy) : ∃ r : Int32,
    (∀ (ex pr : Int32) (vl ko L : Nat → Int32) (post : Int32 → SX → Prop), post r (nI m, ex, pr, o, a, b, c, sv, vl, ko, L) → wX_run_50 post jx (nI m) ex pr o a b c sv vl ko L) ∧
    (∀ (ex pr : Int32) (vl ko : Nat → Int32) (post : Int32 → SY → Prop), post r (nI m, pr, ex, o, a, b, c, sv, vl, ko) → wY_run_100 post jy (nI m) pr ex o a b c sv vl ko) := by
  rcases h with ⟨j, hj, rfl, rfl⟩ | ⟨rfl, rfl⟩
  · rcases Nat.lt_or_ge j m with z | z
    · exact ⟨2, fun ex pr vl ko L post h => br_f (nI_ge z (by omega)) h, fun ex pr vl ko post h => gy_Iy hm z h⟩
    · exact ⟨1, fun ex pr vl ko L post h => br_t (nI_le z (by omega)) h, fun ex pr vl ko post h => gy_In (Or.inr (nI_le z (by omega))) h⟩
  · exact ⟨1, fun ex pr vl ko L post h => br_t (nI_le (Nat.le_refl _) (by omega)) h, fun ex pr vl ko post h => gy_In (Or.inl (by decide)) h⟩
theorem gr_loop (hw : gc_wf o a b c) (hm : m ≤ 32) {q : Nat} (hq : q ≤ 250) : ∀ (d k p : Nat) (jx jy ex : Int32) (vl ko : Nat → Int32), k + d = q → p ≤ k → gc_nx m jx jy →
    ∃ (r ex' pr' : Int32) (vl' ko' : Nat → Int32),
    (∀ (L : Nat → Int32) (post : Int32 → SX → Prop), post r (nI m, ex', pr', o, a, b, c, sv, vl', ko', L) → wX_run_14 post (nI q) (d + 1) jx (nI k) (nI m) ex (nI p) o a b c sv vl ko L) ∧
    (∀ (post : Int32 → SY → Prop), post r (nI m, pr', ex', o, a, b, c, sv, vl', ko') → wY_run_64 post (nI q) (d + 1) jy (nI k) (nI m) (nI p) ex o a b c sv vl ko) := by
  intro d
  induction d with
  | zero =>
    intro k p jx jy ex vl ko e hp hn
    obtain ⟨r, hX, hY⟩ := gr_end (o := o) (a := a) (b := b) (c := c) (sv := sv) hm hn
    have e : nI q ≤ nI k := nI_le (by omega) (by omega)
    exact ⟨r, ex, nI p, vl, ko, fun L post h => br_t e (hX _ _ _ _ _ _ h), fun post h => br_t e (hY _ _ _ _ _ h)⟩
  | succ d ih =>
    intro k p jx jy ex vl ko e hp hn
    have f : ¬ nI q ≤ nI k := nI_ge (by omega) (by omega)
    rcases hn with ⟨j, hj, rfl, rfl⟩ | ⟨rfl, rfl⟩
    · rcases Nat.lt_or_ge j m with z | z
      · obtain ⟨x, y, p', vl', ko', hp', hn', sX, sY⟩ := gs_all (m := m) (i := j) (p := p) (sv := sv) (vl := vl) (ko := ko) hw (by omega) (by omega)
        obtain ⟨r, ex2, pr2, vl2, ko2, hX, hY⟩ := ih (k + 1) p' x y (ex + 1) vl' ko' (by omega) (by omega) hn'
        refine ⟨r, ex2, pr2, vl2, ko2, fun L post h => br_f f (br_f (nI_ge z (by omega)) (sX ex L _ (nm_e (nm_r (nI_1 k) (hX L post h))))), fun post h => br_f f (gy_Iy hm z (sY ex _ (nm_e (nm_r (nI_1 k) (hY post h)))))⟩
      · obtain ⟨r, hX, hY⟩ := gr_end (o := o) (a := a) (b := b) (c := c) (sv := sv) hm (Or.inl ⟨j, hj, rfl, rfl⟩)
        have g : nI m ≤ nI j := nI_le z (by omega)
        exact ⟨r, ex, nI p, vl, ko, fun L post h => br_f f (br_t g (hX _ _ _ _ _ _ h)), fun post h => br_f f (gy_In (Or.inr g) (hY _ _ _ _ _ h))⟩
    · obtain ⟨r, hX, hY⟩ := gr_end (o := o) (a := a) (b := b) (c := c) (sv := sv) hm (Or.inr ⟨rfl, rfl⟩)
      exact ⟨r, ex, nI p, vl, ko, fun L post h => br_f f (br_t (nI_le (Nat.le_refl _) (by omega)) (hX _ _ _ _ _ _ h)), fun post h => br_f f (gy_In (Or.inl (by decide)) (hY _ _ _ _ _ h))⟩
theorem gr_begX {ex pr : Int32} {vl ko L : Nat → Int32} {post : SX → Prop} (h : post (nI m, 0, 0, o, a, b, c, sv, gc_cp sv vl 8, ko, L)) : wpX_beginRun post (nI m, ex, pr, o, a, b, c, sv, vl, ko, L) := by
  have key : ∀ d k, k + d = 8 → wX_beginRun_2 post (nI m) ex pr (d + 1) (nI k) o a b c sv (gc_cp sv vl k) ko L := by
    intro d
    induction d with
    | zero =>
      intro k e
      have e : k = 8 := by omega
      subst e
      exact br_t (by decide) h
    | succ d ih =>
      intro k e
      have l1 : vp_in (nI k) 8 := vp_in_nI (by omega) (by omega)
      have l2 : (nI k).toNatClampNeg = k := nI_clamp (by omega)
      exact br_f (nI_ge (b := 8) (by omega) (by decide)) ⟨l1, l1, nm_r (by rw [l2]; rfl) (nm_r (nI_1 k) (ih (k + 1) (by omega)))⟩
  exact ⟨9, key 8 0 rfl⟩
theorem gr_begY {ex pr x2 : Int32} {vl ko : Nat → Int32} {post : Int32 → SY → Prop} (h : ∃ n : Nat, wY_run_64 post x2 n 0 0 (nI m) 0 0 o a b c sv (gc_cp sv vl 8) ko) : ∃ n : Nat, wY_run_25 post x2 (nI m) pr ex n 0 o a b c sv vl ko := by
  have key : ∀ d k, k + d = 8 → wY_run_25 post x2 (nI m) pr ex (d + 1) (nI k) o a b c sv (gc_cp sv vl k) ko := by
    intro d
    induction d with
    | zero =>
      intro k e
      have e : k = 8 := by omega
      subst e
      exact br_t (by decide) h
    | succ d ih =>
      intro k e
      have l1 : vp_in (nI k) 8 := vp_in_nI (by omega) (by omega)
      have l2 : (nI k).toNatClampNeg = k := nI_clamp (by omega)
      exact br_f (nI_ge (b := 8) (by omega) (by decide)) ⟨l1, l1, nm_r (by rw [l2]; rfl) (nm_r (nI_1 k) (ih (k + 1) (by omega)))⟩
  exact ⟨9, key 8 0 rfl⟩
theorem gr_clX {x y : Int32} {post : Int32 → Prop} (e : gc_cl x = y) (h : post y) : wpX_clampFuel post x := by
  subst e
  unfold gc_cl at h
  by_cases h0 : x < 0
  · rw [if_pos h0] at h
    exact br_f (Int32.not_le.mpr h0) h
  · rw [if_neg h0] at h
    by_cases h1 : 250 < x
    · rw [if_pos h1] at h
      exact br_t (Int32.not_lt.mp h0) (br_f (Int32.not_le.mpr h1) h)
    · rw [if_neg h1] at h
      exact br_t (Int32.not_lt.mp h0) (br_t (Int32.not_lt.mp h1) h)
theorem gr_clY {x y ex pr : Int32} {vl ko : Nat → Int32} {post : Int32 → SY → Prop} (e : gc_cl x = y) (h : ∃ n : Nat, wY_run_25 post y (nI m) pr ex n 0 o a b c sv vl ko) : wpY_run post (nI m, pr, ex, o, a, b, c, sv, vl, ko) x := by
  subst e
  unfold gc_cl at h
  by_cases h0 : x < 0
  · rw [if_pos h0] at h
    exact br_f (Int32.not_le.mpr h0) h
  · rw [if_neg h0] at h
    by_cases h1 : 250 < x
    · rw [if_pos h1] at h
      exact br_t (Int32.not_lt.mp h0) (br_f (Int32.not_le.mpr h1) h)
    · rw [if_neg h1] at h
      exact br_t (Int32.not_lt.mp h0) (br_t (Int32.not_lt.mp h1) h)
theorem gr_run (hw : gc_wf o a b c) (hm : m ≤ 32) (x : Int32) (vl ko : Nat → Int32) : ∃ (r ex' pr' : Int32) (vl' ko' : Nat → Int32),
    (∀ (ex pr : Int32) (L : Nat → Int32) (post : Int32 → SX → Prop), post r (nI m, ex', pr', o, a, b, c, sv, vl', ko', L) → wpX_run post (nI m, ex, pr, o, a, b, c, sv, vl, ko, L) x) ∧
    (∀ (ex pr : Int32) (post : Int32 → SY → Prop), post r (nI m, pr', ex', o, a, b, c, sv, vl', ko') → wpY_run post (nI m, pr, ex, o, a, b, c, sv, vl, ko) x) := by
  obtain ⟨q, hq, e⟩ := gc_cl_n x
  obtain ⟨r, ex', pr', vl', ko', hX, hY⟩ := gr_loop (sv := sv) hw hm hq q 0 0 0 0 0 (gc_cp sv vl 8) ko (by omega) (by omega) (Or.inl ⟨0, by omega, rfl, rfl⟩)
  refine ⟨r, ex', pr', vl', ko', fun ex pr L post h => ?_, fun ex pr post h => gr_clY e (gr_begY ⟨q + 1, hY post h⟩)⟩
  unfold wpX_run
  dsimp only
  refine gr_clX e ?_
  refine gr_begX ?_
  exact ⟨q + 1, hX L post h⟩
end
end
section
/-! what is owed -/
def i_Rel (k : Nat) (u : SX) (v : SY) : Prop :=
  ∃ (m : Nat) (ex pr : Int32) (o a b c sv vl ko L : Nat → Int32), m ≤ 32 ∧ gc_wf o a b c ∧ u = (nI m, ex, pr, o, a, b, c, sv, vl, ko, L) ∧ v = (nI m, pr, ex, o, a, b, c, sv, vl, ko)
theorem i_up {k : Nat} {u : SX} {v : SY} (h : i_Rel k u v) : i_Rel (k + 5) u v := h
theorem i_vc0 : wpX_init (fun u => wpY_init (fun v => i_Rel 0 u v)) :=
  ⟨0, 0, 0, _, _, _, _, _, _, _, _, by decide, gc_wf_0, rfl, rfl⟩
theorem i_vc_emit {k : Nat} {u : SX} {v : SY} (I : i_Rel k u v) (hk : k + 5 ≤ 2560) (v1 : Int32) (v2 : Int32) (v3 : Int32) (v4 : Int32) : wpX_emit (fun r u' => wpY_emit (fun r' v' => r' = r ∧ i_Rel (k + 5) u' v') v v1 v2 v3 v4) u v1 v2 v3 v4 := by
  obtain ⟨m, ex, pr, o, a, b, c, sv, vl, ko, L, hm, hw, rfl, rfl⟩ := I
  rcases Nat.lt_or_ge m 32 with h | h
  · have hX : nI m < (32 : Int32) := nI_lt (b := 32) h (by decide)
    have hY : ¬ nI m = (32 : Int32) := fun z => by
      have := (nI_eq (a := m) (b := 32) (by omega) (by decide)).mp z
      omega
    have hv : vp_in (nI m) 32 := vp_in_nI h (by omega)
    refine br_t hX (gx_I (fun ok => ?_) (fun nok => ?_))
    · refine br_f (by decide) ⟨hv, nm_e ⟨hv, nm_e ⟨hv, nm_e ⟨hv, nm_e (nm_e ?_)⟩⟩⟩⟩
      refine br_f hY (gy_F (fun _ => ?_) (fun n => absurd ok n))
      refine br_f (by decide) ⟨hv, nm_e ⟨hv, nm_e ⟨hv, nm_e ⟨hv, nm_e (nm_e ⟨rfl, ?_⟩)⟩⟩⟩⟩
      exact ⟨m + 1, ex, pr, _, _, _, _, sv, vl, ko, L, h, gc_wf_u hw ok, by rw [nI_1], by rw [nI_1]⟩
    · refine br_t rfl ?_
      refine br_f hY (gy_F (fun ok => absurd ok nok) (fun _ => ?_))
      exact br_t rfl ⟨rfl, m, ex, pr, o, a, b, c, sv, vl, ko, L, hm, hw, rfl, rfl⟩
  · have e : m = 32 := by omega
    subst e
    exact br_f (by decide) (br_t (by decide) ⟨rfl, 32, ex, pr, o, a, b, c, sv, vl, ko, L, hm, hw, rfl, rfl⟩)
theorem i_vc_retract {k : Nat} {u : SX} {v : SY} (I : i_Rel k u v) (hk : k + 5 ≤ 2560) : wpX_retract (fun r u' => wpY_retract (fun r' v' => r' = r ∧ i_Rel (k + 5) u' v') v) u := by
  obtain ⟨m, ex, pr, o, a, b, c, sv, vl, ko, L, hm, hw, rfl, rfl⟩ := I
  cases m with
  | zero => exact br_t nI_0 (br_t nI_0 ⟨rfl, 0, ex, pr, o, a, b, c, sv, vl, ko, L, hm, hw, rfl, rfl⟩)
  | succ m =>
    have h : ¬ nI (m + 1) = 0 := nI_ne0 (by omega) (by omega)
    exact br_f h (nm_e (br_f h (nm_e ⟨rfl, m, ex, pr, o, a, b, c, sv, vl, ko, L, by omega, hw, by rw [nI_pred], by rw [nI_pred]⟩)))
theorem i_vc_start {k : Nat} {u : SX} {v : SY} (I : i_Rel k u v) (hk : k + 5 ≤ 2560) (v1 : Int32) (v2 : Int32) : wpX_start (fun r u' => wpY_start (fun r' v' => r' = r ∧ i_Rel (k + 5) u' v') v v1 v2) u v1 v2 := by
  obtain ⟨m, ex, pr, o, a, b, c, sv, vl, ko, L, hm, hw, rfl, rfl⟩ := I
  unfold wpX_start wpY_start
  dsimp only
  refine gx_Vc (fun h => ?_) (fun h => ?_)
  · obtain ⟨j, hj, rfl⟩ := h
    have hv : vp_in (nI j) 8 := vp_in_nI hj (by omega)
    refine ⟨hv, nm_e ?_⟩
    refine gy_Vc (fun _ => ⟨hv, nm_e ⟨rfl, m, ex, pr, o, a, b, c, _, vl, ko, L, hm, hw, rfl, rfl⟩⟩) (fun n => absurd ⟨j, hj, rfl⟩ n)
  · exact gy_Vc (fun z => absurd z h) (fun _ => ⟨rfl, m, ex, pr, o, a, b, c, sv, vl, ko, L, hm, hw, rfl, rfl⟩)
theorem i_vc_run {k : Nat} {u : SX} {v : SY} (I : i_Rel k u v) (hk : k + 5 ≤ 2560) (v1 : Int32) : wpX_run (fun r u' => wpY_run (fun r' v' => r' = r ∧ i_Rel (k + 5) u' v') v v1) u v1 := by
  obtain ⟨m, ex, pr, o, a, b, c, sv, vl, ko, L, hm, hw, rfl, rfl⟩ := I
  obtain ⟨r, ex', pr', vl', ko', hX, hY⟩ := gr_run (sv := sv) hw hm v1 vl ko
  exact hX _ _ _ _ (hY _ _ _ ⟨rfl, m, ex', pr', o, a, b, c, sv, vl', ko', L, hm, hw, rfl, rfl⟩)
theorem i_vc_executed {k : Nat} {u : SX} {v : SY} (I : i_Rel k u v) (hk : k + 5 ≤ 2560) : wpX_executed (fun r => wpY_executed (fun r' => r' = r ∧ i_Rel (k + 5) u v) v) u := by
  have I' := I
  obtain ⟨m, ex, pr, o, a, b, c, sv, vl, ko, L, hm, hw, rfl, rfl⟩ := I
  exact ⟨rfl, I'⟩
theorem i_vc_printed {k : Nat} {u : SX} {v : SY} (I : i_Rel k u v) (hk : k + 5 ≤ 2560) : wpX_printed (fun r => wpY_printed (fun r' => r' = r ∧ i_Rel (k + 5) u v) v) u := by
  have I' := I
  obtain ⟨m, ex, pr, o, a, b, c, sv, vl, ko, L, hm, hw, rfl, rfl⟩ := I
  exact ⟨rfl, I'⟩
theorem i_vc_output {k : Nat} {u : SX} {v : SY} (I : i_Rel k u v) (hk : k + 5 ≤ 2560) (v1 : Int32) : wpX_output (fun r => wpY_output (fun r' => r' = r ∧ i_Rel (k + 5) u v) v v1) u v1 := by
  have I' := I
  obtain ⟨m, ex, pr, o, a, b, c, sv, vl, ko, L, hm, hw, rfl, rfl⟩ := I
  refine br_c (fun h0 => br_t h0 ⟨rfl, I'⟩) (fun h0 => br_c (fun h1 => br_f h0 (br_t h1 ⟨rfl, I'⟩)) (fun h1 => br_c (fun h2 => ?_) (fun h2 => ?_)))
  · have hv : vp_in v1 32 := by
      obtain ⟨j, hj, rfl⟩ := (gc_pl_iff v1).mpr ⟨h0, h2⟩
      exact vp_in_nI hj (by omega)
    exact ⟨hv, br_f h0 (br_f h1 (br_f (Int32.not_le.mpr h2) ⟨hv, rfl, I'⟩))⟩
  · exact br_f h0 (br_f h1 (br_t (Int32.not_lt.mp h2) ⟨rfl, I'⟩))
theorem i_vc_live {k : Nat} {u : SX} {v : SY} (I : i_Rel k u v) (hk : k + 5 ≤ 2560) (v1 : Int32) : wpX_live (fun r u' => wpY_live (fun r' => r' = r ∧ i_Rel (k + 5) u' v) v v1) u v1 := by
  have I' := I
  obtain ⟨m, ex, pr, o, a, b, c, sv, vl, ko, L, hm, hw, rfl, rfl⟩ := I
  rcases pk_ix v1 (n := m) (by omega) with h | h | ⟨j, hj, rfl⟩
  · exact br_t h (gy_live_n (Or.inl h) ⟨rfl, I'⟩)
  · exact br_f (Int32.not_lt.mpr (Int32.le_trans (nI_pos' (n := m) (by omega)) h)) (br_f (Int32.not_lt.mpr h) (gy_live_n (Or.inr h) ⟨rfl, I'⟩))
  · refine br_f (nI_pos (by omega)) (br_t (nI_lt hj (by omega)) (gx_find hw hm fun L' hL => ⟨vp_in_nI (by omega) (by omega), ?_⟩))
    refine gy_live_y hm hj fun r hr => ⟨?_, m, ex, pr, o, a, b, c, sv, vl, ko, L', hm, hw, rfl, rfl⟩
    rw [nI_clamp (by omega : j < 2 ^ 31)]
    refine b_ext fun v hv => Bool.eq_iff_iff.mpr ?_
    rw [hr v hv, hL j v hj hv]
    refine ⟨fun z => z.2, fun z => ⟨?_, z⟩⟩
    rcases Nat.lt_or_ge v 8 with y | y
    · exact y
    · exact absurd z (gc_LV_8 hw y hv j)
theorem gm_bits {x : Int32} {s t : Nat} (hs : s < 8) (ht : t < 8) : (x &&& ((1 : Int32) <<< (nI s &&& 31) ||| (1 : Int32) <<< (nI t &&& 31))) = ((1 : Int32) <<< (nI s &&& 31) ||| (1 : Int32) <<< (nI t &&& 31)) ↔ (bt x s = true ∧ bt x t = true) := by
  have e : ∀ j, j < 32 → (bt ((1 : Int32) <<< (nI s &&& 31) ||| (1 : Int32) <<< (nI t &&& 31)) j = true ↔ (j = s ∨ j = t)) := fun j hj => by
    rw [gc_or_b, gc_bit2 (by omega) hj, gc_bit2 (by omega) hj, nI_eq (by omega) (by omega), nI_eq (by omega) (by omega), eq_comm, eq_comm (a := t)]
  constructor
  · intro h
    have p : ∀ j, j < 32 → (j = s ∨ j = t) → bt x j = true := fun j hj hz => by
      have g := (e j hj).mpr hz
      rw [← h, b_and, Bool.and_eq_true] at g
      exact g.1
    exact ⟨p s (by omega) (Or.inl rfl), p t (by omega) (Or.inr rfl)⟩
  · rintro ⟨h1, h2⟩
    refine b_ext fun j hj => Bool.eq_iff_iff.mpr ?_
    rw [b_and, Bool.and_eq_true]
    refine ⟨fun z => z.2, fun z => ⟨?_, z⟩⟩
    rcases (e j hj).mp z with rfl | rfl
    · exact h1
    · exact h2
theorem gm_loop {k m s t : Nat} {ex pr : Int32} {o a b c sv vl ko L : Nat → Int32} (hm : m ≤ 32) (hs : s < 8) (ht : t < 8)
    (hL : ∀ j v, j < m → v < 32 → (bt (L j) v = true ↔ gc_LV m o a b c v j)) :
    ∀ d j, j + d = m → ∃ r : Int32,
    (∀ post : Int32 → SX → Prop, post r (nI m, ex, pr, o, a, b, c, sv, vl, ko, L) → wX_meet_31 post ((1 : Int32) <<< (nI s &&& 31) ||| (1 : Int32) <<< (nI t &&& 31)) (nI m) ex pr o a b c sv vl ko L (d + 1) (nI j)) ∧
    (∀ post : Int32 → Prop, post r → wY_meet_20 post (nI s) (nI t) (nI m) pr ex o a b c sv vl ko (d + 1) (nI j)) := by
  intro d
  induction d with
  | zero =>
    intro j e
    have f : nI m ≤ nI j := nI_le (by omega) (by omega)
    exact ⟨0, fun post h => br_t f h, fun post h => br_t f h⟩
  | succ d ih =>
    intro j e
    have f : ¬ nI m ≤ nI j := nI_ge (by omega) (by omega)
    have l1 : vp_in (nI j) 32 := vp_in_nI (by omega) (by omega)
    have l2 : (nI j).toNatClampNeg = j := nI_clamp (by omega)
    have q : (L (nI j).toNatClampNeg &&& ((1 : Int32) <<< (nI s &&& 31) ||| (1 : Int32) <<< (nI t &&& 31))) = ((1 : Int32) <<< (nI s &&& 31) ||| (1 : Int32) <<< (nI t &&& 31)) ↔ (gc_LV m o a b c s j ∧ gc_LV m o a b c t j) := by
      rw [l2, gm_bits hs ht, hL j s (by omega) (by omega), hL j t (by omega) (by omega)]
    rcases Classical.em (gc_LV m o a b c s j ∧ gc_LV m o a b c t j) with z | z
    · exact ⟨1, fun post h => br_f f ⟨l1, br_t (q.mpr z) h⟩, fun post h => br_f f (gy_ilc hm (by omega) (fun _ => gy_ilc hm (by omega) (fun _ => h) (fun n => absurd z.2 n)) (fun n => absurd z.1 n))⟩
    · obtain ⟨r, hX, hY⟩ := ih (j + 1) (by omega)
      refine ⟨r, fun post h => br_f f ⟨l1, br_f (fun y => z (q.mp y)) (nm_r (nI_1 j) (hX post h))⟩, fun post h => br_f f (gy_ilc hm (by omega) (fun p1 => gy_ilc hm (by omega) (fun p2 => absurd ⟨p1, p2⟩ z) (fun _ => nm_r (nI_1 j) (hY post h))) (fun _ => nm_r (nI_1 j) (hY post h)))⟩
theorem i_vc_meet {k : Nat} {u : SX} {v : SY} (I : i_Rel k u v) (hk : k + 5 ≤ 2560) (v1 : Int32) (v2 : Int32) : wpX_meet (fun r u' => wpY_meet (fun r' => r' = r ∧ i_Rel (k + 5) u' v) v v1 v2) u v1 v2 := by
  have I' := I
  obtain ⟨m, ex, pr, o, a, b, c, sv, vl, ko, L, hm, hw, rfl, rfl⟩ := I
  unfold wpX_meet wpY_meet
  dsimp only
  refine gx_Vc (fun h1 => ?_) (fun h1 => gy_Vc (fun z => absurd z h1) (fun _ => ⟨rfl, I'⟩))
  refine gx_Vc (fun h2 => ?_) (fun h2 => gy_Vc (fun _ => gy_Vc (fun z => absurd z h2) (fun _ => ⟨rfl, I'⟩)) (fun z => absurd h1 z))
  obtain ⟨s, hs, rfl⟩ := h1
  obtain ⟨t, ht, rfl⟩ := h2
  refine gx_find hw hm fun L' hL => nm_e ?_
  obtain ⟨r, hX, hY⟩ := gm_loop (k := k) (ex := ex) (pr := pr) (sv := sv) (vl := vl) (ko := ko) hm hs ht hL m 0 (by omega)
  refine ⟨m + 1, hX _ ?_⟩
  refine gy_Vc (fun _ => gy_Vc (fun _ => ⟨m + 1, hY _ ⟨rfl, m, ex, pr, o, a, b, c, sv, vl, ko, L', hm, hw, rfl, rfl⟩⟩) (fun z => absurd ⟨t, ht, rfl⟩ z)) (fun z => absurd ⟨s, hs, rfl⟩ z)
end

/-! the reference's search -/
section
variable {pr ex : Int32} {o a b c sv vl ko : Nat → Int32} {m i j v : Nat} {post : Int32 → Prop}
theorem gy_rd (hi : i < 32) (h1 : gc_R o a b c v i → post 1) (h0 : ¬ gc_R o a b c v i → post 0) : wpY_reads post (nI m, pr, ex, o, a, b, c, sv, vl, ko) (nI i) (nI v) := by
  have l1 : vp_in (nI i) 32 := vp_in_nI hi (by omega)
  have l2 : (nI i).toNatClampNeg = i := nI_clamp (by omega)
  have l3 : (o i = 6 ∨ o i = 8 ∨ o i = 9) → wY_reads_33 post (nI i) (nI v) (nI m) pr ex o a b c sv vl ko := fun e => by
    simp only [wY_reads_33, l2]
    refine ⟨l1, br_c (fun h => h1 (Or.inl ⟨e, h⟩)) (fun h => h0 fun z => ?_)⟩
    rcases z with z | z
    · exact h z.2
    · have z5 := z.1.2
      rcases e with e | e | e
      all_goals
        rw [e] at z5
        exact absurd z5 (by decide)
  simp only [wpY_reads, l2]
  refine ⟨l1, br_c (fun e => l3 (Or.inl e)) (fun e6 => ⟨l1, br_c (fun e => l3 (Or.inr (Or.inl e))) (fun e8 => ⟨l1, br_c (fun e => l3 (Or.inr (Or.inr e))) (fun e9 => ⟨l1, ?_⟩)⟩)⟩)⟩
  have no : ¬ (o i = 6 ∨ o i = 8 ∨ o i = 9) := fun z => z.elim e6 fun z => z.elim e8 e9
  refine br_c (fun q1 => h0 fun z => ?_) (fun q1 => ⟨l1, br_c (fun q5 => h0 fun z => ?_) (fun q5 => ⟨l1, br_c (fun hb => h1 (Or.inr ⟨⟨Int32.not_lt.mp q1, Int32.not_lt.mp q5⟩, Or.inl hb⟩)) (fun hb => ⟨l1, br_c (fun q2 => h0 fun z => ?_) (fun q2 => ⟨l1, br_c (fun hc => h1 (Or.inr ⟨⟨Int32.not_lt.mp q1, Int32.not_lt.mp q5⟩, Or.inr ⟨Int32.not_lt.mp q2, hc⟩⟩)) (fun hc => h0 fun z => ?_)⟩)⟩)⟩)⟩)
  · rcases z with z | z
    · exact no z.1
    · exact absurd q1 (Int32.not_lt.mpr z.1.1)
  · rcases z with z | z
    · exact no z.1
    · exact absurd q5 (Int32.not_lt.mpr z.1.2)
  · rcases z with z | ⟨_, z | z⟩
    · exact no z.1
    · exact hb z
    · exact absurd q2 (Int32.not_lt.mpr z.1)
  · rcases z with z | ⟨_, z | z⟩
    · exact no z.1
    · exact hb z
    · exact hc z.2
theorem gy_wr (hi : i < 32) (h1 : gc_W o a v i → post 1) (h0 : ¬ gc_W o a v i → post 0) : wpY_writes post (nI m, pr, ex, o, a, b, c, sv, vl, ko) (nI i) (nI v) := by
  have l1 : vp_in (nI i) 32 := vp_in_nI hi (by omega)
  have l2 : (nI i).toNatClampNeg = i := nI_clamp (by omega)
  simp only [wpY_writes, l2]
  exact ⟨l1, br_c (fun q5 => h0 fun z => absurd q5 (Int32.not_lt.mpr z.1)) (fun q5 => ⟨l1, br_c (fun h => h1 ⟨Int32.not_lt.mp q5, h⟩) (fun h => h0 fun z => h z.2)⟩)⟩
theorem gy_cf (hi : i < 32) (hj : j < 32) (h1 : gc_E o a b c i j → post 1) (h0 : ¬ gc_E o a b c i j → post 0) : wpY_canFollow post (nI m, pr, ex, o, a, b, c, sv, vl, ko) (nI i) (nI j) := by
  have l1 : vp_in (nI i) 32 := vp_in_nI hi (by omega)
  have l2 : (nI i).toNatClampNeg = i := nI_clamp (by omega)
  have hs : nI j = nI i + 1 ↔ j = i + 1 := by rw [nI_1, nI_eq (by omega) (by omega)]
  simp only [wpY_canFollow, l2]
  refine ⟨l1, br_c (fun e7 => ⟨l1, br_c (fun h => h1 (Or.inl ⟨e7, h⟩)) (fun h => h0 fun z => ?_)⟩) (fun e7 => ⟨l1, br_c (fun e10 => h0 fun z => ?_) (fun e10 => br_c (fun h => h1 (Or.inr ⟨e7, e10, Or.inl (hs.mp h)⟩)) (fun h => ⟨l1, br_c (fun e8 => ⟨l1, br_c (fun g => h1 (Or.inr ⟨e7, e10, Or.inr (Or.inl ⟨e8, g⟩)⟩)) (fun g => h0 fun z => ?_)⟩) (fun e8 => ⟨l1, br_c (fun e9 => ⟨l1, br_c (fun g => h0 fun z => ?_) (fun g => ⟨l1, l1, br_c (fun g2 => h0 fun z => ?_) (fun g2 => h1 (Or.inr ⟨e7, e10, Or.inr (Or.inr ⟨e9, Int32.not_lt.mp g, Int32.not_le.mp g2⟩)⟩))⟩)⟩) (fun e9 => h0 fun z => ?_)⟩)⟩))⟩)⟩
  · rcases z with z | z
    · exact h z.2
    · exact z.1 e7
  · rcases z with z | z
    · exact e7 z.1
    · exact z.2.1 e10
  · rcases z with z | ⟨_, _, z | z | z⟩
    · exact e7 z.1
    · exact h (hs.mpr z)
    · exact g z.2
    · have z9 := z.1
      rw [e8] at z9
      exact absurd z9 (by decide)
  · rcases z with z | ⟨_, _, z | z | z⟩
    · exact e7 z.1
    · exact h (hs.mpr z)
    · exact e8 z.1
    · exact absurd g (Int32.not_lt.mpr z.2.1)
  · rcases z with z | ⟨_, _, z | z | z⟩
    · exact e7 z.1
    · exact h (hs.mpr z)
    · exact e8 z.1
    · exact absurd z.2.2 (Int32.not_lt.mpr g2)
  · rcases z with z | ⟨_, _, z | z | z⟩
    · exact e7 z.1
    · exact h (hs.mpr z)
    · exact e8 z.1
    · exact e9 z.1
theorem gy_17 (hm : m ≤ 32) (hi : i < m) {s : Int32} {J : Int32 → Int32 → Prop} (hJ : ∀ x, gc_O m s (gc_W o a v) (gc_E o a b c) (i + 1) x → J x (nI (i + 1))) :
    ∀ d j x, j + d = m → gc_N m s (gc_W o a v) (gc_E o a b c) i j x → wY_widened_17 post J s (nI v) (nI i) (nI m) pr ex o a b c sv vl ko (d + 1) x (nI j) := by
  intro d
  induction d with
  | zero =>
    intro j x e h
    have e : j = m := by omega
    subst e
    exact br_t (nI_le (Nat.le_refl _) (by omega)) (nm_r (nI_1 i) (hJ x (gc_N_e h)))
  | succ d ih =>
    intro j x e h
    have keep : ¬ gc_Q s (gc_W o a v) (gc_E o a b c) i j → wY_widened_17 post J s (nI v) (nI i) (nI m) pr ex o a b c sv vl ko (d + 1) x (nI (j + 1)) := fun z => ih (j + 1) x (by omega) (gc_N_k h z)
    refine br_f (nI_ge (by omega) (by omega)) (br_c (fun hb => ?_) (fun hb => nm_r (nI_1 j) (keep fun z => hb ((gc_tst s (by omega)).mpr z.1))))
    have hb' := (gc_tst s (by omega)).mp hb
    refine gy_wr (by omega) (fun w => br_f (by decide) (nm_r (nI_1 j) (keep fun z => z.2.1 w))) (fun w => br_t rfl ?_)
    refine gy_cf (by omega) (by omega) (fun f => br_f (by decide) (nm_e (nm_r (nI_1 j) (ih (j + 1) _ (by omega) (gc_N_s h (by omega) ⟨hb', w, f⟩))))) (fun f => br_t rfl (nm_r (nI_1 j) (keep fun z => f z.2.2)))
theorem gy_5 (hm : m ≤ 32) {s : Int32} (hp : ∀ x, gc_Wd m (gc_W o a v) (gc_E o a b c) s x → post x) :
    ∀ d i x, i + d = m → gc_O m s (gc_W o a v) (gc_E o a b c) i x → wY_widened_5 post s (nI v) (nI m) pr ex o a b c sv vl ko (d + 1) x (nI i) := by
  intro d
  induction d with
  | zero =>
    intro i x e h
    have e : i = m := by omega
    subst e
    exact br_t (nI_le (Nat.le_refl _) (by omega)) (hp x (gc_O_e h))
  | succ d ih =>
    intro i x e h
    exact br_f (nI_ge (by omega) (by omega)) ⟨m + 1, gy_17 hm (by omega) (fun x' h' => ih (i + 1) x' (by omega) h') m 0 x (by omega) (gc_N_0 h)⟩
theorem gy_wd (hm : m ≤ 32) {s : Int32} (hp : ∀ x, gc_Wd m (gc_W o a v) (gc_E o a b c) s x → post x) : wpY_widened post (nI m, pr, ex, o, a, b, c, sv, vl, ko) s (nI v) :=
  ⟨m + 1, gy_5 hm hp m 0 s (by omega) gc_O_0⟩
theorem gy_42 (hm : m ≤ 32) {s : Int32} (h1 : (∃ j, j < m ∧ bt s j = true ∧ gc_R o a b c v j) → post 1) (h0 : ¬ (∃ j, j < m ∧ bt s j = true ∧ gc_R o a b c v j) → post 0) :
    ∀ d j, j + d = m → (∀ t, t < j → ¬ (bt s t = true ∧ gc_R o a b c v t)) → wY_isLive_42 post (nI v) s (nI m) pr ex o a b c sv vl ko (d + 1) (nI j) := by
  intro d
  induction d with
  | zero =>
    intro j e h
    have e : j = m := by omega
    subst e
    exact br_t (nI_le (Nat.le_refl _) (by omega)) (h0 fun ⟨t, ht, z⟩ => h t ht z)
  | succ d ih =>
    intro j e h
    have keep : ¬ (bt s j = true ∧ gc_R o a b c v j) → wY_isLive_42 post (nI v) s (nI m) pr ex o a b c sv vl ko (d + 1) (nI (j + 1)) := fun z => ih (j + 1) (by omega) fun t ht => by
      rcases Nat.lt_or_ge t j with y | y
      · exact h t y
      · have e : t = j := by omega
        subst e
        exact z
    refine br_f (nI_ge (by omega) (by omega)) (br_c (fun hb => ?_) (fun hb => nm_r (nI_1 j) (keep fun z => hb ((gc_tst s (by omega)).mpr z.1))))
    have hb' := (gc_tst s (by omega)).mp hb
    exact gy_rd (by omega) (fun r => br_f (by decide) (h1 ⟨j, by omega, hb', r⟩)) (fun r => br_t rfl (nm_r (nI_1 j) (keep fun z => r z.2)))
theorem gy_10 (hm : m ≤ 32) (hi : i < m) (h1 : gc_LV m o a b c v i → post 1) (h0 : ¬ gc_LV m o a b c v i → post 0) :
    ∀ d r s l, r + d = 33 → gc_J m (gc_R o a b c v) (gc_W o a v) (gc_E o a b c) i r s l → wY_isLive_10 post (nI v) (nI m) pr ex o a b c sv vl ko (d + 1) s l (nI r) := by
  intro d
  have fin : ∀ r s l, gc_J m (gc_R o a b c v) (gc_W o a v) (gc_E o a b c) i r s l → (s = l ∨ 32 ≤ r) → ∃ n : Nat, wY_isLive_42 post (nI v) s (nI m) pr ex o a b c sv vl ko n 0 := fun r s l h he =>
    ⟨m + 1, gy_42 hm (fun z => h1 ((gc_JE hm hi h he).mp z)) (fun z => h0 fun y => z ((gc_JE hm hi h he).mpr y)) m 0 (by omega) fun t ht => absurd ht (Nat.not_lt_zero t)⟩
  induction d with
  | zero =>
    intro r s l e h
    have e : r = 33 := by omega
    subst e
    exact br_t (by decide) (fin 33 s l h (Or.inr (by decide)))
  | succ d ih =>
    intro r s l e h
    refine br_f (nI_ge (b := 33) (by omega) (by decide)) (br_c (fun z => fin r s l h (Or.inl z)) (fun z => ?_))
    exact gy_wd hm fun x hx => nm_r (nI_1 r) (ih (r + 1) x s (by omega) (gc_JS hm h hi z hx))
theorem gy_il (hm : m ≤ 32) (hi : i < m) (h1 : gc_LV m o a b c v i → post 1) (h0 : ¬ gc_LV m o a b c v i → post 0) : wpY_isLive post (nI m, pr, ex, o, a, b, c, sv, vl, ko) (nI i) (nI v) :=
  nm_e ⟨34, gy_10 hm hi h1 h0 33 0 _ 0 (by omega) (gc_J0 hm hi)⟩
theorem gy_ilc {A B : Prop} (hm : m ≤ 32) (hi : i < m) (h1 : gc_LV m o a b c v i → B) (h0 : ¬ gc_LV m o a b c v i → A) : wpY_isLive (fun r => ((r = 0 → A) ∧ (¬ r = 0 → B))) (nI m, pr, ex, o, a, b, c, sv, vl, ko) (nI i) (nI v) :=
  gy_il hm hi (fun h => br_f (by decide) (h1 h)) (fun h => br_t rfl (h0 h))
theorem gy_In {A B : Prop} {x : Int32} (h : x < 0 ∨ nI m ≤ x) (hA : A) : wpY_isInstruction (fun r => ((r = 0 → A) ∧ (¬ r = 0 → B))) (nI m, pr, ex, o, a, b, c, sv, vl, ko) x := by
  by_cases z : x < 0
  · exact br_t z (br_t rfl hA)
  · exact br_f z (br_t (h.resolve_left z) (br_t rfl hA))
theorem gy_Iy {A B : Prop} (hm : m ≤ 32) (hj : j < m) (hB : B) : wpY_isInstruction (fun r => ((r = 0 → A) ∧ (¬ r = 0 → B))) (nI m, pr, ex, o, a, b, c, sv, vl, ko) (nI j) :=
  br_f (nI_pos (by omega)) (br_f (nI_ge hj (by omega)) (br_f (by decide) hB))
theorem gy_live_n {x : Int32} (h : x < 0 ∨ nI m ≤ x) (hp : post 0) : wpY_live post (nI m, pr, ex, o, a, b, c, sv, vl, ko) x := by
  have key : ∀ d k, k + d = 8 → wY_live_4 post x (nI m) pr ex o a b c sv vl ko (d + 1) 0 (nI k) := by
    intro d
    induction d with
    | zero =>
      intro k e
      have e : k = 8 := by omega
      subst e
      exact br_t (by decide) hp
    | succ d ih =>
      intro k e
      exact br_f (nI_ge (b := 8) (by omega) (by decide)) (gy_In h (nm_r (nI_1 k) (ih (k + 1) (by omega))))
  exact ⟨9, key 8 0 rfl⟩
theorem gy_live_y (hm : m ≤ 32) (hi : i < m) (hp : ∀ r, (∀ v, v < 32 → (bt r v = true ↔ (v < 8 ∧ gc_LV m o a b c v i))) → post r) : wpY_live post (nI m, pr, ex, o, a, b, c, sv, vl, ko) (nI i) := by
  have key : ∀ d k r, k + d = 8 → (∀ v, v < 32 → (bt r v = true ↔ (v < k ∧ gc_LV m o a b c v i))) → wY_live_4 post (nI i) (nI m) pr ex o a b c sv vl ko (d + 1) r (nI k) := by
    intro d
    induction d with
    | zero =>
      intro k r e h
      have e : k = 8 := by omega
      subst e
      exact br_t (by decide) (hp r h)
    | succ d ih =>
      intro k r e h
      refine br_f (nI_ge (b := 8) (by omega) (by decide)) (gy_Iy hm hi (gy_ilc hm hi (fun z => nm_e (nm_r (nI_1 k) (ih (k + 1) _ (by omega) fun v hv => ?_))) (fun z => nm_r (nI_1 k) (ih (k + 1) r (by omega) fun v hv => ?_))))
      · rw [gc_or_b, h v hv, gc_bit2 (by omega) hv, nI_eq (by omega) (by omega)]
        constructor
        · rintro (y | y)
          · exact ⟨by omega, y.2⟩
          · subst y
            exact ⟨by omega, z⟩
        · rintro ⟨y, q⟩
          rcases Nat.lt_or_ge v k with w | w
          · exact Or.inl ⟨w, q⟩
          · exact Or.inr (by omega)
      · rw [h v hv]
        constructor
        · rintro ⟨y, q⟩
          exact ⟨by omega, q⟩
        · rintro ⟨y, q⟩
          rcases Nat.lt_or_ge v k with w | w
          · exact ⟨w, q⟩
          · have e : v = k := by omega
            subst e
            exact absurd q z
  refine ⟨9, key 8 0 0 rfl fun v hv => ?_⟩
  rw [b_0]
  exact ⟨fun z => absurd z (by decide), fun z => absurd z.1 (Nat.not_lt_zero v)⟩
end

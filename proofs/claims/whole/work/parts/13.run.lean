/-! a run, in lockstep -/
section
variable {m : Nat} {o a b c sv : Nat → Int32}
theorem gr_end (hm : m ≤ 32) {jx jy : Int32} (h : gc_nx m jx jy) : ∃ r : Int32,
    (∀ (ex pr : Int32) (vl ko L : Nat → Int32) (post : Int32 → SX → Prop), post r (nI m, ex, pr, o, a, b, c, sv, vl, ko, L) → wX_run_50 post jx (nI m) ex pr o a b c sv vl ko L) ∧
    (∀ (ex pr : Int32) (vl ko : Nat → Int32) (post : Int32 → SY → Prop), post r (nI m, pr, ex, o, a, b, c, sv, vl, ko) → wY_run_100 post jy (nI m) pr ex o a b c sv vl ko) := by
  rcases h with ⟨j, hj, rfl, rfl⟩ | ⟨rfl, rfl⟩
  · rcases Nat.lt_or_ge j m with z | z
    · exact ⟨2, fun ex pr vl ko L post h => br_f (nI_ge z (by omega)) h, fun ex pr vl ko post h => gy_Iy hm z h⟩
    · exact ⟨1, fun ex pr vl ko L post h => br_t (nI_le z (by omega)) h, fun ex pr vl ko post h => gy_In (Or.inr (nI_le z (by omega))) h⟩
  · exact ⟨1, fun ex pr vl ko L post h => br_t (nI_le (Nat.le_refl _) (by omega)) h, fun ex pr vl ko post h => gy_In (Or.inl (by decide)) h⟩
theorem gr_loop (hw : gc_wf o a b c) (hm : m ≤ 32) {q : Nat} (hq : q ≤ 250) : ∀ (d k p : Nat) (jx jy ex : Int32) (vl ko : Nat → Int32), k + d = q → p ≤ k → gc_nx m jx jy →
    ∃ (r ex' pr' : Int32) (vl' ko' : Nat → Int32),
    (∀ (L : Nat → Int32) (post : Int32 → SX → Prop), post r (nI m, ex', pr', o, a, b, c, sv, vl', ko', L) → wX_run_14 post (nI q) (d + 1) jx (nI k) (nI m) ex (nI p) o a b c sv vl ko L) ∧
    (∀ (post : Int32 → SY → Prop), post r (nI m, pr', ex', o, a, b, c, sv, vl', ko') → wY_run_64 post (nI q) (d + 1) jy (nI k) (nI m) (nI p) ex o a b c sv vl ko) := by
  intro d
  induction d with
  | zero =>
    intro k p jx jy ex vl ko e hp hn
    obtain ⟨r, hX, hY⟩ := gr_end (o := o) (a := a) (b := b) (c := c) (sv := sv) hm hn
    have e : nI q ≤ nI k := nI_le (by omega) (by omega)
    exact ⟨r, ex, nI p, vl, ko, fun L post h => br_t e (hX _ _ _ _ _ _ h), fun post h => br_t e (hY _ _ _ _ _ h)⟩
  | succ d ih =>
    intro k p jx jy ex vl ko e hp hn
    have f : ¬ nI q ≤ nI k := nI_ge (by omega) (by omega)
    rcases hn with ⟨j, hj, rfl, rfl⟩ | ⟨rfl, rfl⟩
    · rcases Nat.lt_or_ge j m with z | z
      · obtain ⟨x, y, p', vl', ko', hp', hn', sX, sY⟩ := gs_all (m := m) (i := j) (p := p) (sv := sv) (vl := vl) (ko := ko) hw (by omega) (by omega)
        obtain ⟨r, ex2, pr2, vl2, ko2, hX, hY⟩ := ih (k + 1) p' x y (ex + 1) vl' ko' (by omega) (by omega) hn'
        refine ⟨r, ex2, pr2, vl2, ko2, fun L post h => br_f f (br_f (nI_ge z (by omega)) (sX ex L _ (nm_e (nm_r (nI_1 k) (hX L post h))))), fun post h => br_f f (gy_Iy hm z (sY ex _ (nm_e (nm_r (nI_1 k) (hY post h)))))⟩
      · obtain ⟨r, hX, hY⟩ := gr_end (o := o) (a := a) (b := b) (c := c) (sv := sv) hm (Or.inl ⟨j, hj, rfl, rfl⟩)
        have g : nI m ≤ nI j := nI_le z (by omega)
        exact ⟨r, ex, nI p, vl, ko, fun L post h => br_f f (br_t g (hX _ _ _ _ _ _ h)), fun post h => br_f f (gy_In (Or.inr g) (hY _ _ _ _ _ h))⟩
    · obtain ⟨r, hX, hY⟩ := gr_end (o := o) (a := a) (b := b) (c := c) (sv := sv) hm (Or.inr ⟨rfl, rfl⟩)
      exact ⟨r, ex, nI p, vl, ko, fun L post h => br_f f (br_t (nI_le (Nat.le_refl _) (by omega)) (hX _ _ _ _ _ _ h)), fun post h => br_f f (gy_In (Or.inl (by decide)) (hY _ _ _ _ _ h))⟩
theorem gr_begX {ex pr : Int32} {vl ko L : Nat → Int32} {post : SX → Prop} (h : post (nI m, 0, 0, o, a, b, c, sv, gc_cp sv vl 8, ko, L)) : wpX_beginRun post (nI m, ex, pr, o, a, b, c, sv, vl, ko, L) := by
  have key : ∀ d k, k + d = 8 → wX_beginRun_2 post (nI m) ex pr (d + 1) (nI k) o a b c sv (gc_cp sv vl k) ko L := by
    intro d
    induction d with
    | zero =>
      intro k e
      have e : k = 8 := by omega
      subst e
      exact br_t (by decide) h
    | succ d ih =>
      intro k e
      have l1 : vp_in (nI k) 8 := vp_in_nI (by omega) (by omega)
      have l2 : (nI k).toNatClampNeg = k := nI_clamp (by omega)
      exact br_f (nI_ge (b := 8) (by omega) (by decide)) ⟨l1, l1, nm_r (by rw [l2]; rfl) (nm_r (nI_1 k) (ih (k + 1) (by omega)))⟩
  exact ⟨9, key 8 0 rfl⟩
theorem gr_begY {ex pr x2 : Int32} {vl ko : Nat → Int32} {post : Int32 → SY → Prop} (h : ∃ n : Nat, wY_run_64 post x2 n 0 0 (nI m) 0 0 o a b c sv (gc_cp sv vl 8) ko) : ∃ n : Nat, wY_run_25 post x2 (nI m) pr ex n 0 o a b c sv vl ko := by
  have key : ∀ d k, k + d = 8 → wY_run_25 post x2 (nI m) pr ex (d + 1) (nI k) o a b c sv (gc_cp sv vl k) ko := by
    intro d
    induction d with
    | zero =>
      intro k e
      have e : k = 8 := by omega
      subst e
      exact br_t (by decide) h
    | succ d ih =>
      intro k e
      have l1 : vp_in (nI k) 8 := vp_in_nI (by omega) (by omega)
      have l2 : (nI k).toNatClampNeg = k := nI_clamp (by omega)
      exact br_f (nI_ge (b := 8) (by omega) (by decide)) ⟨l1, l1, nm_r (by rw [l2]; rfl) (nm_r (nI_1 k) (ih (k + 1) (by omega)))⟩
  exact ⟨9, key 8 0 rfl⟩
theorem gr_clX {x y : Int32} {post : Int32 → Prop} (e : gc_cl x = y) (h : post y) : wpX_clampFuel post x := by
  subst e
  unfold gc_cl at h
  by_cases h0 : x < 0
  · rw [if_pos h0] at h
    exact br_f (Int32.not_le.mpr h0) h
  · rw [if_neg h0] at h
    by_cases h1 : 250 < x
    · rw [if_pos h1] at h
      exact br_t (Int32.not_lt.mp h0) (br_f (Int32.not_le.mpr h1) h)
    · rw [if_neg h1] at h
      exact br_t (Int32.not_lt.mp h0) (br_t (Int32.not_lt.mp h1) h)
theorem gr_clY {x y ex pr : Int32} {vl ko : Nat → Int32} {post : Int32 → SY → Prop} (e : gc_cl x = y) (h : ∃ n : Nat, wY_run_25 post y (nI m) pr ex n 0 o a b c sv vl ko) : wpY_run post (nI m, pr, ex, o, a, b, c, sv, vl, ko) x := by
  subst e
  unfold gc_cl at h
  by_cases h0 : x < 0
  · rw [if_pos h0] at h
    exact br_f (Int32.not_le.mpr h0) h
  · rw [if_neg h0] at h
    by_cases h1 : 250 < x
    · rw [if_pos h1] at h
      exact br_t (Int32.not_lt.mp h0) (br_f (Int32.not_le.mpr h1) h)
    · rw [if_neg h1] at h
      exact br_t (Int32.not_lt.mp h0) (br_t (Int32.not_lt.mp h1) h)
theorem gr_run (hw : gc_wf o a b c) (hm : m ≤ 32) (x : Int32) (vl ko : Nat → Int32) : ∃ (r ex' pr' : Int32) (vl' ko' : Nat → Int32),
    (∀ (ex pr : Int32) (L : Nat → Int32) (post : Int32 → SX → Prop), post r (nI m, ex', pr', o, a, b, c, sv, vl', ko', L) → wpX_run post (nI m, ex, pr, o, a, b, c, sv, vl, ko, L) x) ∧
    (∀ (ex pr : Int32) (post : Int32 → SY → Prop), post r (nI m, pr', ex', o, a, b, c, sv, vl', ko') → wpY_run post (nI m, pr, ex, o, a, b, c, sv, vl, ko) x) := by
  obtain ⟨q, hq, e⟩ := gc_cl_n x
  obtain ⟨r, ex', pr', vl', ko', hX, hY⟩ := gr_loop (sv := sv) hw hm hq q 0 0 0 0 0 (gc_cp sv vl 8) ko (by omega) (by omega) (Or.inl ⟨0, by omega, rfl, rfl⟩)
  refine ⟨r, ex', pr', vl', ko', fun ex pr L post h => ?_, fun ex pr post h => gr_clY e (gr_begY ⟨q + 1, hY post h⟩)⟩
  unfold wpX_run
  dsimp only
  refine gr_clX e ?_
  refine gr_begX ?_
  exact ⟨q + 1, hX L post h⟩
end

/-! the component's sweeps -/
section
variable {ex pr : Int32} {o a b c sv vl ko : Nat → Int32} {m : Nat}
theorem gx_40 (hw : gc_wf o a b c) (hm : m ≤ 32) {p : Nat} {post : SX → Prop} {x1 : Int32}
    {J : Int32 → (Nat → Int32) → (Nat → Int32) → (Nat → Int32) → (Nat → Int32) → (Nat → Int32) → (Nat → Int32) → (Nat → Int32) → (Nat → Int32) → Prop}
    (hJ : ∀ L, gc_Inv m (gc_R o a b c) (gc_W o a) (gc_E o a b c) p 0 L → J (x1 + 1) o a b c sv vl ko L) :
    ∀ k L, k ≤ m → gc_Inv m (gc_R o a b c) (gc_W o a) (gc_E o a b c) p k L → wX_findLiveSets_40 post J x1 (nI m) ex pr (k + 1) (nI k - 1) o a b c sv vl ko L := by
  intro k
  induction k with
  | zero =>
    intro L _ h
    exact br_t gc_z1 (nm_e (hJ L h))
  | succ k ih =>
    intro L hk h
    rw [nI_pred]
    refine br_f (nI_pos (by omega)) (gx_rd hw (by omega) fun r1 h1 => gx_la hw hm (by omega) fun r2 h2 => gx_wr hw (by omega) fun r3 h3 => ⟨vp_in_nI (by omega) (by omega), ?_⟩)
    rw [nI_clamp (by omega : k < 2 ^ 31)]
    refine nm_e (nm_r (gc_dm k) (ih _ (by omega) (gc_InvS h fun v hv => ?_)))
    rw [gc_new_b hv, h1 v hv, h2 v hv, h3 v hv]
theorem gx_25 (hw : gc_wf o a b c) (hm : m ≤ 32) {post : SX → Prop}
    (hp : ∀ L, gc_Inv m (gc_R o a b c) (gc_W o a) (gc_E o a b c) m m L → post (nI m, ex, pr, o, a, b, c, sv, vl, ko, L)) :
    ∀ d p L, p + d = m → gc_Inv m (gc_R o a b c) (gc_W o a) (gc_E o a b c) p m L → wX_findLiveSets_25 post (nI m) ex pr (d + 1) (nI p) o a b c sv vl ko L := by
  intro d
  induction d with
  | zero =>
    intro p L e h
    have e : p = m := by omega
    subst e
    exact br_t (nI_le (Nat.le_refl _) (by omega)) (hp L h)
  | succ d ih =>
    intro p L e h
    refine br_f (nI_ge (by omega) (by omega)) (nm_e ⟨m + 1, gx_40 hw hm (fun L' h' => ?_) m L (Nat.le_refl _) h⟩)
    rw [nI_1]
    exact ih (p + 1) L' (by omega) (gc_InvP h')
theorem gx_2 (hw : gc_wf o a b c) (hm : m ≤ 32) {post : SX → Prop}
    (hp : ∀ L, gc_Inv m (gc_R o a b c) (gc_W o a) (gc_E o a b c) m m L → post (nI m, ex, pr, o, a, b, c, sv, vl, ko, L)) :
    ∀ d k L, k + d = m → (∀ j, j < k → L j = 0) → wX_findLiveSets_2 post (nI m) ex pr (d + 1) (nI k) o a b c sv vl ko L := by
  intro d
  induction d with
  | zero =>
    intro k L e h
    have e : k = m := by omega
    subst e
    exact br_t (nI_le (Nat.le_refl _) (by omega)) ⟨k + 1, gx_25 hw hm hp k 0 L (by omega) (gc_Inv0 h)⟩
  | succ d ih =>
    intro k L e h
    refine br_f (nI_ge (by omega) (by omega)) ⟨vp_in_nI (by omega) (by omega), ?_⟩
    rw [nI_clamp (by omega : k < 2 ^ 31)]
    refine nm_e (nm_r (nI_1 k) (ih (k + 1) _ (by omega) fun j hj => ?_))
    by_cases z : j = k
    · subst z
      exact pk_us
    · rw [pk_un z]
      exact h j (by omega)
theorem gx_find (hw : gc_wf o a b c) (hm : m ≤ 32) {L : Nat → Int32} {post : SX → Prop}
    (hp : ∀ L, (∀ j v, j < m → v < 32 → (bt (L j) v = true ↔ gc_LV m o a b c v j)) → post (nI m, ex, pr, o, a, b, c, sv, vl, ko, L)) :
    wpX_findLiveSets post (nI m, ex, pr, o, a, b, c, sv, vl, ko, L) :=
  ⟨m + 1, gx_2 hw hm (fun L h => hp L fun j v hj hv => gc_InvE h hj hv) m 0 L (by omega) fun j hj => absurd hj (Nat.not_lt_zero j)⟩
end

/-! the component's live sets -/
section
variable {ex pr : Int32} {o a b c sv vl ko L : Nat → Int32} {m i : Nat}
theorem gx_rd (hw : gc_wf o a b c) (hi : i < 32) {post : Int32 → Prop} (h : ∀ r, (∀ v, v < 32 → (bt r v = true ↔ gc_R o a b c v i)) → post r) :
    wpX_readBy post (nI m, ex, pr, o, a, b, c, sv, vl, ko, L) (nI i) := by
  have l1 : vp_in (nI i) 32 := vp_in_nI hi (by omega)
  have l2 : (nI i).toNatClampNeg = i := nI_clamp (by omega)
  have z0 : (∀ v, v < 32 → ¬ gc_R o a b c v i) → post 0 := fun hz => h 0 fun v hv => by
    rw [b_0]
    exact ⟨fun z => absurd z (by decide), fun z => absurd z (hz v hv)⟩
  have z1 : ∀ x y : Nat, x < 32 → y < 32 → (∀ v, v < 32 → (gc_R o a b c v i ↔ (nI x = nI v ∨ nI y = nI v))) → post ((1 : Int32) <<< (nI x &&& 31) ||| (1 : Int32) <<< (nI y &&& 31)) := fun x y hx hy hz => h _ fun v hv => by
    rw [gc_or_b, gc_bit2 hx hv, gc_bit2 hy hv, hz v hv]
  have z2 : ∀ x : Nat, x < 32 → (∀ v, v < 32 → (gc_R o a b c v i ↔ nI x = nI v)) → post ((1 : Int32) <<< (nI x &&& 31)) := fun x hx hz => h _ fun v hv => by
    rw [gc_bit2 hx hv, hz v hv]
  rcases hw i with ⟨e, _⟩ | ⟨e, _, y, hy, ey⟩ | ⟨e, _, ⟨y, hy, ey⟩, z, hz, ez⟩ | ⟨e, _, ⟨y, hy, ey⟩, z, hz, ez⟩ | ⟨e, _, ⟨y, hy, ey⟩, z, hz, ez⟩ | ⟨e, _, ⟨y, hy, ey⟩, z, hz, ez⟩ | ⟨e, x, hx, ea⟩ | ⟨e, _⟩ | ⟨e, ⟨x, hx, ea⟩, _⟩ | ⟨e, ⟨x, hx, ea⟩, _⟩ | e
  · have := z0 (fun v hv => by simp [gc_R, e])
    simpa [wpX_readBy, l1, l2, e] using this
  · have := z2 y (by omega) (fun v hv => by simp [gc_R, e, ey])
    simp only [wpX_readBy, l2, e, ey]
    exact ⟨l1, nm_e (br_f (by decide) (br_f (by decide) (br_t (by decide) ⟨l1, this⟩)))⟩
  · have := z1 y z (by omega) (by omega) (fun v hv => by simp [gc_R, e, ey, ez])
    simp only [wpX_readBy, wX_readBy_65, l2, e, ey, ez]
    exact ⟨l1, nm_e (br_f (by decide) (br_f (by decide) (br_f (by decide) (br_t (by decide) ⟨l1, l1, this⟩))))⟩
  · have := z1 y z (by omega) (by omega) (fun v hv => by simp [gc_R, e, ey, ez])
    simp only [wpX_readBy, wX_readBy_65, l2, e, ey, ez]
    exact ⟨l1, nm_e (br_f (by decide) (br_f (by decide) (br_f (by decide) (br_f (by decide) (br_t (by decide) ⟨l1, l1, this⟩)))))⟩
  · have := z1 y z (by omega) (by omega) (fun v hv => by simp [gc_R, e, ey, ez])
    simp only [wpX_readBy, wX_readBy_65, l2, e, ey, ez]
    exact ⟨l1, nm_e (br_f (by decide) (br_f (by decide) (br_f (by decide) (br_f (by decide) (br_f (by decide) (br_t (by decide) ⟨l1, l1, this⟩))))))⟩
  · have := z1 y z (by omega) (by omega) (fun v hv => by simp [gc_R, e, ey, ez])
    simp only [wpX_readBy, wX_readBy_65, l2, e, ey, ez]
    exact ⟨l1, nm_e (br_f (by decide) (br_f (by decide) (br_f (by decide) (br_f (by decide) (br_f (by decide) (br_f (by decide) (br_t (by decide) ⟨l1, l1, this⟩)))))))⟩
  · have := z2 x (by omega) (fun v hv => by simp [gc_R, e, ea])
    simp only [wpX_readBy, l2, e, ea]
    exact ⟨l1, nm_e (br_f (by decide) (br_f (by decide) (br_f (by decide) (br_f (by decide) (br_f (by decide) (br_f (by decide) (br_f (by decide) (br_t (by decide) ⟨l1, this⟩))))))))⟩
  · have := z0 (fun v hv => by simp [gc_R, e])
    simp only [wpX_readBy, l2, e]
    exact ⟨l1, nm_e (br_f (by decide) (br_f (by decide) (br_f (by decide) (br_f (by decide) (br_f (by decide) (br_f (by decide) (br_f (by decide) (br_f (by decide) (br_t (by decide) this)))))))))⟩
  · have := z2 x (by omega) (fun v hv => by simp [gc_R, e, ea])
    simp only [wpX_readBy, l2, e, ea]
    exact ⟨l1, nm_e (br_f (by decide) (br_f (by decide) (br_f (by decide) (br_f (by decide) (br_f (by decide) (br_f (by decide) (br_f (by decide) (br_f (by decide) (br_f (by decide) (br_t (by decide) ⟨l1, this⟩))))))))))⟩
  · have := z2 x (by omega) (fun v hv => by simp [gc_R, e, ea])
    simp only [wpX_readBy, l2, e, ea]
    exact ⟨l1, nm_e (br_f (by decide) (br_f (by decide) (br_f (by decide) (br_f (by decide) (br_f (by decide) (br_f (by decide) (br_f (by decide) (br_f (by decide) (br_f (by decide) (br_f (by decide) (br_t (by decide) ⟨l1, this⟩)))))))))))⟩
  · have := z0 (fun v hv => by simp [gc_R, e])
    simp only [wpX_readBy, l2, e]
    exact ⟨l1, nm_e (br_f (by decide) (br_t (by decide) this))⟩
theorem gx_wr (hw : gc_wf o a b c) (hi : i < 32) {post : Int32 → Prop} (h : ∀ r, (∀ v, v < 32 → (bt r v = true ↔ gc_W o a v i)) → post r) :
    wpX_writtenBy post (nI m, ex, pr, o, a, b, c, sv, vl, ko, L) (nI i) := by
  have l1 : vp_in (nI i) 32 := vp_in_nI hi (by omega)
  have l2 : (nI i).toNatClampNeg = i := nI_clamp (by omega)
  have go : wpX_writtenBy post (nI m, ex, pr, o, a, b, c, sv, vl, ko, L) (nI i) = (vp_in (nI i) 32 ∧ ((5 < o i → post 0) ∧ (¬ 5 < o i → (vp_in (nI i) 32 ∧ post ((1 : Int32) <<< (a i &&& 31)))))) := by
    simp only [wpX_writtenBy, l2]
  rw [go]
  refine ⟨l1, br_c (fun h5 => h 0 fun v hv => ?_) (fun h5 => ⟨l1, ?_⟩)⟩
  · rw [b_0]
    exact ⟨fun z => absurd z (by decide), fun z => absurd z.1 (Int32.not_le.mpr h5)⟩
  · have hx : gc_va (a i) := by
      rcases hw i with ⟨_, x⟩ | ⟨_, x, _⟩ | ⟨_, x, _⟩ | ⟨_, x, _⟩ | ⟨_, x, _⟩ | ⟨_, x, _⟩ | ⟨e, _⟩ | ⟨e, _⟩ | ⟨e, _⟩ | ⟨e, _⟩ | e
      · exact x
      · exact x
      · exact x
      · exact x
      · exact x
      · exact x
      all_goals
        rw [e] at h5
        exact absurd (by decide) h5
    obtain ⟨x, hx, ea⟩ := hx
    rw [ea]
    refine h _ fun v hv => ?_
    rw [gc_bit2 (by omega) hv, ← ea]
    exact ⟨fun z => ⟨Int32.not_lt.mp h5, z⟩, fun z => z.2⟩
theorem gx_at {j : Nat} (hm : m ≤ 32) (hj : j < 64) {post : Int32 → Prop} (h : post (gc_at m L j)) : wpX_liveSetAt post (nI m, ex, pr, o, a, b, c, sv, vl, ko, L) (nI j) := by
  unfold gc_at at h
  by_cases z : j < m
  · rw [if_pos z] at h
    have l2 : (nI j).toNatClampNeg = j := nI_clamp (by omega)
    refine br_f (nI_ge z (by omega)) ⟨vp_in_nI (by omega) (by omega), ?_⟩
    rw [l2]
    exact h
  · rw [if_neg z] at h
    exact br_t (nI_le (by omega) (by omega)) h
theorem gx_ways {t w : Nat} (hm : m ≤ 32) (ht : t < 32) (hw : w ≤ 4) {post : Int32 → Prop} (h : ∀ r, (∀ v, v < 32 → (bt r v = true ↔ ∃ k, k < w ∧ t + k < m ∧ bt (L (t + k)) v = true)) → post r) :
    wpX_liveAtWays post (nI m, ex, pr, o, a, b, c, sv, vl, ko, L) (nI t) (nI w) := by
  have key : ∀ d k r, k + d = w → (∀ v, v < 32 → (bt r v = true ↔ ∃ q, q < k ∧ t + q < m ∧ bt (L (t + q)) v = true)) →
      wX_liveAtWays_5 post (nI t) (nI w) (nI m) ex pr o a b c sv vl ko L (d + 1) r (nI k) := by
    intro d
    induction d with
    | zero =>
      intro k r hk hr
      have e : k = w := by omega
      subst e
      exact br_t (nI_le (Nat.le_refl _) (by omega)) (h r hr)
    | succ d ih =>
      intro k r hk hr
      refine br_f (nI_ge (by omega) (by omega)) ?_
      rw [nI_add]
      refine gx_at hm (by omega) (nm_e (nm_r (nI_1 k) (ih (k + 1) _ (by omega) fun v hv => ?_)))
      rw [gc_or_b, gc_at_b, hr v hv]
      constructor
      · rintro (⟨q, h1, h2⟩ | h2)
        · exact ⟨q, by omega, h2⟩
        · exact ⟨k, by omega, h2⟩
      · rintro ⟨q, h1, h2⟩
        rcases Nat.lt_or_ge q k with z | z
        · exact Or.inl ⟨q, z, h2⟩
        · have e : q = k := by omega
          subst e
          exact Or.inr h2
  refine ⟨w + 1, key w 0 0 (by omega) fun v hv => ?_⟩
  rw [b_0]
  exact ⟨fun z => absurd z (by decide), fun ⟨q, z, _⟩ => absurd z (Nat.not_lt_zero q)⟩
theorem gx_la (hw : gc_wf o a b c) (hm : m ≤ 32) (hi : i < 32) {post : Int32 → Prop} (h : ∀ r, (∀ v, v < 32 → (bt r v = true ↔ ∃ j, j < m ∧ gc_E o a b c i j ∧ bt (L j) v = true)) → post r) :
    wpX_liveAfter post (nI m, ex, pr, o, a, b, c, sv, vl, ko, L) (nI i) := by
  have l1 : vp_in (nI i) 32 := vp_in_nI hi (by omega)
  have l2 : (nI i).toNatClampNeg = i := nI_clamp (by omega)
  have z0 : o i ≠ 7 → o i ≠ 8 → o i ≠ 9 → o i ≠ 10 → o i < 7 → wpX_liveAfter post (nI m, ex, pr, o, a, b, c, sv, vl, ko, L) (nI i) := fun e7 e8 e9 e10 lt => by
    simp only [wpX_liveAfter, l2]
    refine ⟨l1, nm_e (br_t lt ?_)⟩
    rw [nI_1]
    refine gx_at hm (by omega) (h _ fun v hv => ?_)
    rw [gc_at_b, gc_Es e7 e8 e9 e10]
  rcases hw i with ⟨e, _⟩ | ⟨e, _⟩ | ⟨e, _⟩ | ⟨e, _⟩ | ⟨e, _⟩ | ⟨e, _⟩ | ⟨e, _⟩ | ⟨e, t, ht, ea⟩ | ⟨e, _, t, ht, eb⟩ | ⟨e, _, ⟨t, ht, eb⟩, w, hw1, hw4, ec⟩ | e
  case inr.inr.inr.inr.inr.inr.inr.inl =>
    simp only [wpX_liveAfter, l2]
    refine ⟨l1, nm_e (br_f (by rw [e]; decide) (br_f (by rw [e]; decide) (br_t e ⟨l1, ?_⟩)))⟩
    rw [ea]
    refine gx_at hm (by omega) (h _ fun v hv => ?_)
    rw [gc_at_b, gc_E7 e ea ht hm]
  case inr.inr.inr.inr.inr.inr.inr.inr.inl =>
    simp only [wpX_liveAfter, l2]
    refine ⟨l1, nm_e (br_f (by rw [e]; decide) (br_f (by rw [e]; decide) (br_f (by rw [e]; decide) (br_t e ?_))))⟩
    rw [nI_1]
    refine gx_at hm (by omega) ⟨l1, ?_⟩
    rw [eb]
    refine gx_at hm (by omega) (h _ fun v hv => ?_)
    rw [gc_or_b, gc_at_b, gc_at_b, gc_E8 e eb ht hm]
  case inr.inr.inr.inr.inr.inr.inr.inr.inr.inl =>
    simp only [wpX_liveAfter, l2]
    refine ⟨l1, nm_e (br_f (by rw [e]; decide) (br_f (by rw [e]; decide) (br_f (by rw [e]; decide) (br_f (by rw [e]; decide) (br_t e ?_)))))⟩
    rw [nI_1]
    refine gx_at hm (by omega) ⟨l1, l1, ?_⟩
    rw [eb, ec]
    refine gx_ways hm ht hw4 fun r hr => h _ fun v hv => ?_
    rw [gc_or_b, gc_at_b, hr v hv, gc_E9 e eb ec ht hw4 hm]
  case inr.inr.inr.inr.inr.inr.inr.inr.inr.inr =>
    simp only [wpX_liveAfter, l2]
    refine ⟨l1, nm_e (br_f (by rw [e]; decide) (br_f (by rw [e]; decide) (br_f (by rw [e]; decide) (br_f (by rw [e]; decide) (br_f (by rw [e]; decide) (br_t e ?_))))))⟩
    refine h 0 fun v hv => ?_
    rw [b_0]
    exact ⟨fun z => absurd z (by decide), fun z => absurd z (gc_E10 e)⟩
  all_goals exact z0 (by rw [e]; decide) (by rw [e]; decide) (by rw [e]; decide) (by rw [e]; decide) (by rw [e]; decide)
end

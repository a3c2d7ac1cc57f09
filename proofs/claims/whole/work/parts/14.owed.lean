/-! what is owed -/
def i_Rel (k : Nat) (u : SX) (v : SY) : Prop :=
  ∃ (m : Nat) (ex pr : Int32) (o a b c sv vl ko L : Nat → Int32), m ≤ 32 ∧ gc_wf o a b c ∧ u = (nI m, ex, pr, o, a, b, c, sv, vl, ko, L) ∧ v = (nI m, pr, ex, o, a, b, c, sv, vl, ko)
theorem i_up {k : Nat} {u : SX} {v : SY} (h : i_Rel k u v) : i_Rel (k + 5) u v := h
theorem i_vc0 : wpX_init (fun u => wpY_init (fun v => i_Rel 0 u v)) :=
  ⟨0, 0, 0, _, _, _, _, _, _, _, _, by decide, gc_wf_0, rfl, rfl⟩
theorem i_vc_emit {k : Nat} {u : SX} {v : SY} (I : i_Rel k u v) (hk : k + 5 ≤ 2560) (v1 : Int32) (v2 : Int32) (v3 : Int32) (v4 : Int32) : wpX_emit (fun r u' => wpY_emit (fun r' v' => r' = r ∧ i_Rel (k + 5) u' v') v v1 v2 v3 v4) u v1 v2 v3 v4 := by
  obtain ⟨m, ex, pr, o, a, b, c, sv, vl, ko, L, hm, hw, rfl, rfl⟩ := I
  rcases Nat.lt_or_ge m 32 with h | h
  · have hX : nI m < (32 : Int32) := nI_lt (b := 32) h (by decide)
    have hY : ¬ nI m = (32 : Int32) := fun z => by
      have := (nI_eq (a := m) (b := 32) (by omega) (by decide)).mp z
      omega
    have hv : vp_in (nI m) 32 := vp_in_nI h (by omega)
    refine br_t hX (gx_I (fun ok => ?_) (fun nok => ?_))
    · refine br_f (by decide) ⟨hv, nm_e ⟨hv, nm_e ⟨hv, nm_e ⟨hv, nm_e (nm_e ?_)⟩⟩⟩⟩
      refine br_f hY (gy_F (fun _ => ?_) (fun n => absurd ok n))
      refine br_f (by decide) ⟨hv, nm_e ⟨hv, nm_e ⟨hv, nm_e ⟨hv, nm_e (nm_e ⟨rfl, ?_⟩)⟩⟩⟩⟩
      exact ⟨m + 1, ex, pr, _, _, _, _, sv, vl, ko, L, h, gc_wf_u hw ok, by rw [nI_1], by rw [nI_1]⟩
    · refine br_t rfl ?_
      refine br_f hY (gy_F (fun ok => absurd ok nok) (fun _ => ?_))
      exact br_t rfl ⟨rfl, m, ex, pr, o, a, b, c, sv, vl, ko, L, hm, hw, rfl, rfl⟩
  · have e : m = 32 := by omega
    subst e
    exact br_f (by decide) (br_t (by decide) ⟨rfl, 32, ex, pr, o, a, b, c, sv, vl, ko, L, hm, hw, rfl, rfl⟩)
theorem i_vc_retract {k : Nat} {u : SX} {v : SY} (I : i_Rel k u v) (hk : k + 5 ≤ 2560) : wpX_retract (fun r u' => wpY_retract (fun r' v' => r' = r ∧ i_Rel (k + 5) u' v') v) u := by
  obtain ⟨m, ex, pr, o, a, b, c, sv, vl, ko, L, hm, hw, rfl, rfl⟩ := I
  cases m with
  | zero => exact br_t nI_0 (br_t nI_0 ⟨rfl, 0, ex, pr, o, a, b, c, sv, vl, ko, L, hm, hw, rfl, rfl⟩)
  | succ m =>
    have h : ¬ nI (m + 1) = 0 := nI_ne0 (by omega) (by omega)
    exact br_f h (nm_e (br_f h (nm_e ⟨rfl, m, ex, pr, o, a, b, c, sv, vl, ko, L, by omega, hw, by rw [nI_pred], by rw [nI_pred]⟩)))
theorem i_vc_start {k : Nat} {u : SX} {v : SY} (I : i_Rel k u v) (hk : k + 5 ≤ 2560) (v1 : Int32) (v2 : Int32) : wpX_start (fun r u' => wpY_start (fun r' v' => r' = r ∧ i_Rel (k + 5) u' v') v v1 v2) u v1 v2 := by
  obtain ⟨m, ex, pr, o, a, b, c, sv, vl, ko, L, hm, hw, rfl, rfl⟩ := I
  unfold wpX_start wpY_start
  dsimp only
  refine gx_Vc (fun h => ?_) (fun h => ?_)
  · obtain ⟨j, hj, rfl⟩ := h
    have hv : vp_in (nI j) 8 := vp_in_nI hj (by omega)
    refine ⟨hv, nm_e ?_⟩
    refine gy_Vc (fun _ => ⟨hv, nm_e ⟨rfl, m, ex, pr, o, a, b, c, _, vl, ko, L, hm, hw, rfl, rfl⟩⟩) (fun n => absurd ⟨j, hj, rfl⟩ n)
  · exact gy_Vc (fun z => absurd z h) (fun _ => ⟨rfl, m, ex, pr, o, a, b, c, sv, vl, ko, L, hm, hw, rfl, rfl⟩)
theorem i_vc_run {k : Nat} {u : SX} {v : SY} (I : i_Rel k u v) (hk : k + 5 ≤ 2560) (v1 : Int32) : wpX_run (fun r u' => wpY_run (fun r' v' => r' = r ∧ i_Rel (k + 5) u' v') v v1) u v1 := by
  obtain ⟨m, ex, pr, o, a, b, c, sv, vl, ko, L, hm, hw, rfl, rfl⟩ := I
  obtain ⟨r, ex', pr', vl', ko', hX, hY⟩ := gr_run (sv := sv) hw hm v1 vl ko
  exact hX _ _ _ _ (hY _ _ _ ⟨rfl, m, ex', pr', o, a, b, c, sv, vl', ko', L, hm, hw, rfl, rfl⟩)
theorem i_vc_executed {k : Nat} {u : SX} {v : SY} (I : i_Rel k u v) (hk : k + 5 ≤ 2560) : wpX_executed (fun r => wpY_executed (fun r' => r' = r ∧ i_Rel (k + 5) u v) v) u := by
  have I' := I
  obtain ⟨m, ex, pr, o, a, b, c, sv, vl, ko, L, hm, hw, rfl, rfl⟩ := I
  exact ⟨rfl, I'⟩
theorem i_vc_printed {k : Nat} {u : SX} {v : SY} (I : i_Rel k u v) (hk : k + 5 ≤ 2560) : wpX_printed (fun r => wpY_printed (fun r' => r' = r ∧ i_Rel (k + 5) u v) v) u := by
  have I' := I
  obtain ⟨m, ex, pr, o, a, b, c, sv, vl, ko, L, hm, hw, rfl, rfl⟩ := I
  exact ⟨rfl, I'⟩
theorem i_vc_output {k : Nat} {u : SX} {v : SY} (I : i_Rel k u v) (hk : k + 5 ≤ 2560) (v1 : Int32) : wpX_output (fun r => wpY_output (fun r' => r' = r ∧ i_Rel (k + 5) u v) v v1) u v1 := by
  have I' := I
  obtain ⟨m, ex, pr, o, a, b, c, sv, vl, ko, L, hm, hw, rfl, rfl⟩ := I
  refine br_c (fun h0 => br_t h0 ⟨rfl, I'⟩) (fun h0 => br_c (fun h1 => br_f h0 (br_t h1 ⟨rfl, I'⟩)) (fun h1 => br_c (fun h2 => ?_) (fun h2 => ?_)))
  · have hv : vp_in v1 32 := by
      obtain ⟨j, hj, rfl⟩ := (gc_pl_iff v1).mpr ⟨h0, h2⟩
      exact vp_in_nI hj (by omega)
    exact ⟨hv, br_f h0 (br_f h1 (br_f (Int32.not_le.mpr h2) ⟨hv, rfl, I'⟩))⟩
  · exact br_f h0 (br_f h1 (br_t (Int32.not_lt.mp h2) ⟨rfl, I'⟩))
theorem i_vc_live {k : Nat} {u : SX} {v : SY} (I : i_Rel k u v) (hk : k + 5 ≤ 2560) (v1 : Int32) : wpX_live (fun r u' => wpY_live (fun r' => r' = r ∧ i_Rel (k + 5) u' v) v v1) u v1 := by
  have I' := I
  obtain ⟨m, ex, pr, o, a, b, c, sv, vl, ko, L, hm, hw, rfl, rfl⟩ := I
  rcases pk_ix v1 (n := m) (by omega) with h | h | ⟨j, hj, rfl⟩
  · exact br_t h (gy_live_n (Or.inl h) ⟨rfl, I'⟩)
  · exact br_f (Int32.not_lt.mpr (Int32.le_trans (nI_pos' (n := m) (by omega)) h)) (br_f (Int32.not_lt.mpr h) (gy_live_n (Or.inr h) ⟨rfl, I'⟩))
  · refine br_f (nI_pos (by omega)) (br_t (nI_lt hj (by omega)) (gx_find hw hm fun L' hL => ⟨vp_in_nI (by omega) (by omega), ?_⟩))
    refine gy_live_y hm hj fun r hr => ⟨?_, m, ex, pr, o, a, b, c, sv, vl, ko, L', hm, hw, rfl, rfl⟩
    rw [nI_clamp (by omega : j < 2 ^ 31)]
    refine b_ext fun v hv => Bool.eq_iff_iff.mpr ?_
    rw [hr v hv, hL j v hj hv]
    refine ⟨fun z => z.2, fun z => ⟨?_, z⟩⟩
    rcases Nat.lt_or_ge v 8 with y | y
    · exact y
    · exact absurd z (gc_LV_8 hw y hv j)
theorem gm_bits {x : Int32} {s t : Nat} (hs : s < 8) (ht : t < 8) : (x &&& ((1 : Int32) <<< (nI s &&& 31) ||| (1 : Int32) <<< (nI t &&& 31))) = ((1 : Int32) <<< (nI s &&& 31) ||| (1 : Int32) <<< (nI t &&& 31)) ↔ (bt x s = true ∧ bt x t = true) := by
  have e : ∀ j, j < 32 → (bt ((1 : Int32) <<< (nI s &&& 31) ||| (1 : Int32) <<< (nI t &&& 31)) j = true ↔ (j = s ∨ j = t)) := fun j hj => by
    rw [gc_or_b, gc_bit2 (by omega) hj, gc_bit2 (by omega) hj, nI_eq (by omega) (by omega), nI_eq (by omega) (by omega), eq_comm, eq_comm (a := t)]
  constructor
  · intro h
    have p : ∀ j, j < 32 → (j = s ∨ j = t) → bt x j = true := fun j hj hz => by
      have g := (e j hj).mpr hz
      rw [← h, b_and, Bool.and_eq_true] at g
      exact g.1
    exact ⟨p s (by omega) (Or.inl rfl), p t (by omega) (Or.inr rfl)⟩
  · rintro ⟨h1, h2⟩
    refine b_ext fun j hj => Bool.eq_iff_iff.mpr ?_
    rw [b_and, Bool.and_eq_true]
    refine ⟨fun z => z.2, fun z => ⟨?_, z⟩⟩
    rcases (e j hj).mp z with rfl | rfl
    · exact h1
    · exact h2
theorem gm_loop {k m s t : Nat} {ex pr : Int32} {o a b c sv vl ko L : Nat → Int32} (hm : m ≤ 32) (hs : s < 8) (ht : t < 8)
    (hL : ∀ j v, j < m → v < 32 → (bt (L j) v = true ↔ gc_LV m o a b c v j)) :
    ∀ d j, j + d = m → ∃ r : Int32,
    (∀ post : Int32 → SX → Prop, post r (nI m, ex, pr, o, a, b, c, sv, vl, ko, L) → wX_meet_31 post ((1 : Int32) <<< (nI s &&& 31) ||| (1 : Int32) <<< (nI t &&& 31)) (nI m) ex pr o a b c sv vl ko L (d + 1) (nI j)) ∧
    (∀ post : Int32 → Prop, post r → wY_meet_20 post (nI s) (nI t) (nI m) pr ex o a b c sv vl ko (d + 1) (nI j)) := by
  intro d
  induction d with
  | zero =>
    intro j e
    have f : nI m ≤ nI j := nI_le (by omega) (by omega)
    exact ⟨0, fun post h => br_t f h, fun post h => br_t f h⟩
  | succ d ih =>
    intro j e
    have f : ¬ nI m ≤ nI j := nI_ge (by omega) (by omega)
    have l1 : vp_in (nI j) 32 := vp_in_nI (by omega) (by omega)
    have l2 : (nI j).toNatClampNeg = j := nI_clamp (by omega)
    have q : (L (nI j).toNatClampNeg &&& ((1 : Int32) <<< (nI s &&& 31) ||| (1 : Int32) <<< (nI t &&& 31))) = ((1 : Int32) <<< (nI s &&& 31) ||| (1 : Int32) <<< (nI t &&& 31)) ↔ (gc_LV m o a b c s j ∧ gc_LV m o a b c t j) := by
      rw [l2, gm_bits hs ht, hL j s (by omega) (by omega), hL j t (by omega) (by omega)]
    rcases Classical.em (gc_LV m o a b c s j ∧ gc_LV m o a b c t j) with z | z
    · exact ⟨1, fun post h => br_f f ⟨l1, br_t (q.mpr z) h⟩, fun post h => br_f f (gy_ilc hm (by omega) (fun _ => gy_ilc hm (by omega) (fun _ => h) (fun n => absurd z.2 n)) (fun n => absurd z.1 n))⟩
    · obtain ⟨r, hX, hY⟩ := ih (j + 1) (by omega)
      refine ⟨r, fun post h => br_f f ⟨l1, br_f (fun y => z (q.mp y)) (nm_r (nI_1 j) (hX post h))⟩, fun post h => br_f f (gy_ilc hm (by omega) (fun p1 => gy_ilc hm (by omega) (fun p2 => absurd ⟨p1, p2⟩ z) (fun _ => nm_r (nI_1 j) (hY post h))) (fun _ => nm_r (nI_1 j) (hY post h)))⟩
theorem i_vc_meet {k : Nat} {u : SX} {v : SY} (I : i_Rel k u v) (hk : k + 5 ≤ 2560) (v1 : Int32) (v2 : Int32) : wpX_meet (fun r u' => wpY_meet (fun r' => r' = r ∧ i_Rel (k + 5) u' v) v v1 v2) u v1 v2 := by
  have I' := I
  obtain ⟨m, ex, pr, o, a, b, c, sv, vl, ko, L, hm, hw, rfl, rfl⟩ := I
  unfold wpX_meet wpY_meet
  dsimp only
  refine gx_Vc (fun h1 => ?_) (fun h1 => gy_Vc (fun z => absurd z h1) (fun _ => ⟨rfl, I'⟩))
  refine gx_Vc (fun h2 => ?_) (fun h2 => gy_Vc (fun _ => gy_Vc (fun z => absurd z h2) (fun _ => ⟨rfl, I'⟩)) (fun z => absurd h1 z))
  obtain ⟨s, hs, rfl⟩ := h1
  obtain ⟨t, ht, rfl⟩ := h2
  refine gx_find hw hm fun L' hL => nm_e ?_
  obtain ⟨r, hX, hY⟩ := gm_loop (k := k) (ex := ex) (pr := pr) (sv := sv) (vl := vl) (ko := ko) hm hs ht hL m 0 (by omega)
  refine ⟨m + 1, hX _ ?_⟩
  refine gy_Vc (fun _ => gy_Vc (fun _ => ⟨m + 1, hY _ ⟨rfl, m, ex, pr, o, a, b, c, sv, vl, ko, L', hm, hw, rfl, rfl⟩⟩) (fun z => absurd ⟨t, ht, rfl⟩ z)) (fun z => absurd ⟨s, hs, rfl⟩ z)

/-! one executed instruction, on both sides -/
def gc_Step (m i p : Nat) (o a b c sv vl ko : Nat → Int32) : Prop :=
  ∃ (x y : Int32) (q : Nat) (vl' ko' : Nat → Int32), q ≤ p + 1 ∧ gc_nx m x y ∧
  (∀ (ex : Int32) (L : Nat → Int32) (post : Int32 → SX → Prop), post x (nI m, ex, nI q, o, a, b, c, sv, vl', ko', L) → wpX_execute post (nI m, ex, nI p, o, a, b, c, sv, vl, ko, L) (nI i)) ∧
  (∀ (ex : Int32) (post : Int32 → SY → Prop), post y (nI m, nI q, ex, o, a, b, c, sv, vl', ko') → wpY_step post (nI m, nI p, ex, o, a, b, c, sv, vl, ko) (nI i))
section
variable {m i p : Nat} {o a b c sv vl ko : Nat → Int32}
theorem gs_tail {f1 f2 f3 : Int32} {post : Int32 → SY → Prop} (hi : i < 32) (e : o i ≤ 5) (h : post (nI (i + 1)) (f1, f2, f3, o, a, b, c, sv, vl, ko)) : wY_step_15 post (nI i) f1 f2 f3 o a b c sv vl ko := by
  have l1 : vp_in (nI i) 32 := vp_in_nI hi (by omega)
  have l2 : (nI i).toNatClampNeg = i := nI_clamp (by omega)
  rw [← l2] at e
  have ne : ∀ k : Int32, 5 < k → ¬ o (nI i).toNatClampNeg = k := fun k hk z => absurd (Int32.lt_of_lt_of_le hk (z ▸ e)) Int32.lt_irrefl
  rw [← nI_1] at h
  exact ⟨l1, br_f (ne _ (by decide)) ⟨l1, br_f (ne _ (by decide)) ⟨l1, br_f (ne _ (by decide)) ⟨l1, br_f (ne _ (by decide)) ⟨l1, br_f (ne _ (by decide)) h⟩⟩⟩⟩⟩
theorem gk_0 {f1 f2 f3 : Int32} {post : SY → Prop} (hi : i < 32) (e : o i = 0) {x : Nat} (hx : x < 8) (ea : a i = nI x) (h : post (f1, f2, f3, o, a, b, c, sv, upd vl x (b i), ko)) : wpY_calculate post (f1, f2, f3, o, a, b, c, sv, vl, ko) (nI i) := by
  have l1 : vp_in (nI i) 32 := vp_in_nI hi (by omega)
  have l2 : (nI i).toNatClampNeg = i := nI_clamp (by omega)
  rw [← l2] at e
  have cx : (nI x).toNatClampNeg = x := nI_clamp (by omega)
  have wx : vp_in (a (nI i).toNatClampNeg) 8 := by rw [l2, ea]; exact vp_in_nI hx (by omega)
  exact ⟨l1, br_t (by rw [e]; decide) ⟨l1, br_t (by rw [e]; decide) ⟨l1, br_t e ⟨l1, l1, wx, (nm_r (by rw [l2, ea, cx]) ⟨l1, br_f (by rw [e]; decide) ⟨l1, br_f (by rw [e]; decide) ⟨l1, br_f (by rw [e]; decide) ⟨l1, br_f (by rw [e]; decide) ⟨l1, br_f (by rw [e]; decide) h⟩⟩⟩⟩⟩)⟩⟩⟩⟩
theorem gk_1 {f1 f2 f3 : Int32} {post : SY → Prop} (hi : i < 32) (e : o i = 1) {x : Nat} (hx : x < 8) (ea : a i = nI x) {y : Nat} (hy : y < 8) (eb : b i = nI y) (h : post (f1, f2, f3, o, a, b, c, sv, upd vl x (vl y), ko)) : wpY_calculate post (f1, f2, f3, o, a, b, c, sv, vl, ko) (nI i) := by
  have l1 : vp_in (nI i) 32 := vp_in_nI hi (by omega)
  have l2 : (nI i).toNatClampNeg = i := nI_clamp (by omega)
  rw [← l2] at e
  have cx : (nI x).toNatClampNeg = x := nI_clamp (by omega)
  have wx : vp_in (a (nI i).toNatClampNeg) 8 := by rw [l2, ea]; exact vp_in_nI hx (by omega)
  have cy : (nI y).toNatClampNeg = y := nI_clamp (by omega)
  have wy : vp_in (b (nI i).toNatClampNeg) 8 := by rw [l2, eb]; exact vp_in_nI hy (by omega)
  exact ⟨l1, br_f (by rw [e]; decide) ⟨l1, wy, ⟨l1, br_t (by rw [e]; decide) ⟨l1, br_f (by rw [e]; decide) ⟨l1, br_t e ⟨l1, wx, (nm_r (by rw [l2, ea, eb, cx, cy]) ⟨l1, br_f (by rw [e]; decide) ⟨l1, br_f (by rw [e]; decide) ⟨l1, br_f (by rw [e]; decide) ⟨l1, br_f (by rw [e]; decide) h⟩⟩⟩⟩)⟩⟩⟩⟩⟩⟩
theorem gk_2 {f1 f2 f3 : Int32} {post : SY → Prop} (hi : i < 32) (e : o i = 2) {x : Nat} (hx : x < 8) (ea : a i = nI x) {y : Nat} (hy : y < 8) (eb : b i = nI y) {z : Nat} (hz : z < 8) (ec : c i = nI z) (h : post (f1, f2, f3, o, a, b, c, sv, upd vl x (vl y + vl z), ko)) : wpY_calculate post (f1, f2, f3, o, a, b, c, sv, vl, ko) (nI i) := by
  have l1 : vp_in (nI i) 32 := vp_in_nI hi (by omega)
  have l2 : (nI i).toNatClampNeg = i := nI_clamp (by omega)
  rw [← l2] at e
  have cx : (nI x).toNatClampNeg = x := nI_clamp (by omega)
  have wx : vp_in (a (nI i).toNatClampNeg) 8 := by rw [l2, ea]; exact vp_in_nI hx (by omega)
  have cy : (nI y).toNatClampNeg = y := nI_clamp (by omega)
  have wy : vp_in (b (nI i).toNatClampNeg) 8 := by rw [l2, eb]; exact vp_in_nI hy (by omega)
  have cz : (nI z).toNatClampNeg = z := nI_clamp (by omega)
  have wz : vp_in (c (nI i).toNatClampNeg) 8 := by rw [l2, ec]; exact vp_in_nI hz (by omega)
  exact ⟨l1, br_f (by rw [e]; decide) ⟨l1, wy, ⟨l1, br_f (by rw [e]; decide) ⟨l1, wz, ⟨l1, br_f (by rw [e]; decide) ⟨l1, br_f (by rw [e]; decide) ⟨l1, br_t e ⟨l1, wx, (nm_r (by rw [l2, ea, eb, ec, cx, cy, cz]) ⟨l1, br_f (by rw [e]; decide) ⟨l1, br_f (by rw [e]; decide) ⟨l1, br_f (by rw [e]; decide) h⟩⟩⟩)⟩⟩⟩⟩⟩⟩⟩⟩
theorem gk_3 {f1 f2 f3 : Int32} {post : SY → Prop} (hi : i < 32) (e : o i = 3) {x : Nat} (hx : x < 8) (ea : a i = nI x) {y : Nat} (hy : y < 8) (eb : b i = nI y) {z : Nat} (hz : z < 8) (ec : c i = nI z) (h : post (f1, f2, f3, o, a, b, c, sv, upd vl x (vl y - vl z), ko)) : wpY_calculate post (f1, f2, f3, o, a, b, c, sv, vl, ko) (nI i) := by
  have l1 : vp_in (nI i) 32 := vp_in_nI hi (by omega)
  have l2 : (nI i).toNatClampNeg = i := nI_clamp (by omega)
  rw [← l2] at e
  have cx : (nI x).toNatClampNeg = x := nI_clamp (by omega)
  have wx : vp_in (a (nI i).toNatClampNeg) 8 := by rw [l2, ea]; exact vp_in_nI hx (by omega)
  have cy : (nI y).toNatClampNeg = y := nI_clamp (by omega)
  have wy : vp_in (b (nI i).toNatClampNeg) 8 := by rw [l2, eb]; exact vp_in_nI hy (by omega)
  have cz : (nI z).toNatClampNeg = z := nI_clamp (by omega)
  have wz : vp_in (c (nI i).toNatClampNeg) 8 := by rw [l2, ec]; exact vp_in_nI hz (by omega)
  exact ⟨l1, br_f (by rw [e]; decide) ⟨l1, wy, ⟨l1, br_f (by rw [e]; decide) ⟨l1, wz, ⟨l1, br_f (by rw [e]; decide) ⟨l1, br_f (by rw [e]; decide) ⟨l1, br_f (by rw [e]; decide) ⟨l1, br_t e ⟨l1, wx, (nm_r (by rw [l2, ea, eb, ec, cx, cy, cz]) ⟨l1, br_f (by rw [e]; decide) ⟨l1, br_f (by rw [e]; decide) h⟩⟩)⟩⟩⟩⟩⟩⟩⟩⟩⟩
theorem gk_4 {f1 f2 f3 : Int32} {post : SY → Prop} (hi : i < 32) (e : o i = 4) {x : Nat} (hx : x < 8) (ea : a i = nI x) {y : Nat} (hy : y < 8) (eb : b i = nI y) {z : Nat} (hz : z < 8) (ec : c i = nI z) (h : post (f1, f2, f3, o, a, b, c, sv, upd vl x (vl y * vl z), ko)) : wpY_calculate post (f1, f2, f3, o, a, b, c, sv, vl, ko) (nI i) := by
  have l1 : vp_in (nI i) 32 := vp_in_nI hi (by omega)
  have l2 : (nI i).toNatClampNeg = i := nI_clamp (by omega)
  rw [← l2] at e
  have cx : (nI x).toNatClampNeg = x := nI_clamp (by omega)
  have wx : vp_in (a (nI i).toNatClampNeg) 8 := by rw [l2, ea]; exact vp_in_nI hx (by omega)
  have cy : (nI y).toNatClampNeg = y := nI_clamp (by omega)
  have wy : vp_in (b (nI i).toNatClampNeg) 8 := by rw [l2, eb]; exact vp_in_nI hy (by omega)
  have cz : (nI z).toNatClampNeg = z := nI_clamp (by omega)
  have wz : vp_in (c (nI i).toNatClampNeg) 8 := by rw [l2, ec]; exact vp_in_nI hz (by omega)
  exact ⟨l1, br_f (by rw [e]; decide) ⟨l1, wy, ⟨l1, br_f (by rw [e]; decide) ⟨l1, wz, ⟨l1, br_f (by rw [e]; decide) ⟨l1, br_f (by rw [e]; decide) ⟨l1, br_f (by rw [e]; decide) ⟨l1, br_f (by rw [e]; decide) ⟨l1, br_t e ⟨l1, wx, (nm_r (by rw [l2, ea, eb, ec, cx, cy, cz]) ⟨l1, br_f (by rw [e]; decide) h⟩)⟩⟩⟩⟩⟩⟩⟩⟩⟩⟩
theorem gk_5 {f1 f2 f3 : Int32} {post : SY → Prop} (hi : i < 32) (e : o i = 5) {x : Nat} (hx : x < 8) (ea : a i = nI x) {y : Nat} (hy : y < 8) (eb : b i = nI y) {z : Nat} (hz : z < 8) (ec : c i = nI z) (h1 : vl z ≤ vl y → post (f1, f2, f3, o, a, b, c, sv, upd vl x 0, ko)) (h0 : ¬ vl z ≤ vl y → post (f1, f2, f3, o, a, b, c, sv, upd vl x 1, ko)) : wpY_calculate post (f1, f2, f3, o, a, b, c, sv, vl, ko) (nI i) := by
  have l1 : vp_in (nI i) 32 := vp_in_nI hi (by omega)
  have l2 : (nI i).toNatClampNeg = i := nI_clamp (by omega)
  rw [← l2] at e
  have cx : (nI x).toNatClampNeg = x := nI_clamp (by omega)
  have wx : vp_in (a (nI i).toNatClampNeg) 8 := by rw [l2, ea]; exact vp_in_nI hx (by omega)
  have cy : (nI y).toNatClampNeg = y := nI_clamp (by omega)
  have wy : vp_in (b (nI i).toNatClampNeg) 8 := by rw [l2, eb]; exact vp_in_nI hy (by omega)
  have cz : (nI z).toNatClampNeg = z := nI_clamp (by omega)
  have wz : vp_in (c (nI i).toNatClampNeg) 8 := by rw [l2, ec]; exact vp_in_nI hz (by omega)
  have q : vl (c (nI i).toNatClampNeg).toNatClampNeg ≤ vl (b (nI i).toNatClampNeg).toNatClampNeg ↔ vl z ≤ vl y := by rw [l2, eb, ec, cy, cz]
  exact ⟨l1, br_f (by rw [e]; decide) ⟨l1, wy, ⟨l1, br_f (by rw [e]; decide) ⟨l1, wz, ⟨l1, br_f (by rw [e]; decide) ⟨l1, br_f (by rw [e]; decide) ⟨l1, br_f (by rw [e]; decide) ⟨l1, br_f (by rw [e]; decide) ⟨l1, br_f (by rw [e]; decide) ⟨l1, br_t e ⟨l1, br_c (fun g => ⟨wx, nm_r (by rw [l2, ea, cx]) (h1 (q.mp g))⟩) (fun g => ⟨wx, nm_r (by rw [l2, ea, cx]) (h0 fun z => g (q.mpr z))⟩)⟩⟩⟩⟩⟩⟩⟩⟩⟩⟩⟩
theorem gs_0 (hi : i < 32) (e : o i = 0) {x : Nat} (hx : x < 8) (ea : a i = nI x) : gc_Step m i p o a b c sv vl ko := by
  have l1 : vp_in (nI i) 32 := vp_in_nI hi (by omega)
  have l2 : (nI i).toNatClampNeg = i := nI_clamp (by omega)
  have vx : vp_in (nI x) 8 := vp_in_nI hx (by omega)
  have cx : (nI x).toNatClampNeg = x := nI_clamp (by omega)
  refine ⟨nI (i + 1), nI (i + 1), p, upd vl x (b i), ko, by omega, Or.inl ⟨i + 1, by omega, rfl, rfl⟩, fun ex L post h => ?_, fun ex post h => ?_⟩
  · simpa [wpX_execute, l1, l2, e, ea, vx, cx, nI_1] using h
  · exact ⟨l1, br_f (by rw [l2, e]; decide) (gk_0 hi e hx ea (gs_tail hi (by rw [e]; decide) h))⟩
theorem gs_1 (hi : i < 32) (e : o i = 1) {x : Nat} (hx : x < 8) (ea : a i = nI x) {y : Nat} (hy : y < 8) (eb : b i = nI y) : gc_Step m i p o a b c sv vl ko := by
  have l1 : vp_in (nI i) 32 := vp_in_nI hi (by omega)
  have l2 : (nI i).toNatClampNeg = i := nI_clamp (by omega)
  have vx : vp_in (nI x) 8 := vp_in_nI hx (by omega)
  have cx : (nI x).toNatClampNeg = x := nI_clamp (by omega)
  have vy : vp_in (nI y) 8 := vp_in_nI hy (by omega)
  have cy : (nI y).toNatClampNeg = y := nI_clamp (by omega)
  refine ⟨nI (i + 1), nI (i + 1), p, upd vl x (vl y), ko, by omega, Or.inl ⟨i + 1, by omega, rfl, rfl⟩, fun ex L post h => ?_, fun ex post h => ?_⟩
  · simpa [wpX_execute, l1, l2, e, ea, eb, vx, cx, vy, cy, nI_1] using h
  · exact ⟨l1, br_f (by rw [l2, e]; decide) (gk_1 hi e hx ea hy eb (gs_tail hi (by rw [e]; decide) h))⟩
theorem gs_2 (hi : i < 32) (e : o i = 2) {x : Nat} (hx : x < 8) (ea : a i = nI x) {y : Nat} (hy : y < 8) (eb : b i = nI y) {z : Nat} (hz : z < 8) (ec : c i = nI z) : gc_Step m i p o a b c sv vl ko := by
  have l1 : vp_in (nI i) 32 := vp_in_nI hi (by omega)
  have l2 : (nI i).toNatClampNeg = i := nI_clamp (by omega)
  have vx : vp_in (nI x) 8 := vp_in_nI hx (by omega)
  have cx : (nI x).toNatClampNeg = x := nI_clamp (by omega)
  have vy : vp_in (nI y) 8 := vp_in_nI hy (by omega)
  have cy : (nI y).toNatClampNeg = y := nI_clamp (by omega)
  have vz : vp_in (nI z) 8 := vp_in_nI hz (by omega)
  have cz : (nI z).toNatClampNeg = z := nI_clamp (by omega)
  refine ⟨nI (i + 1), nI (i + 1), p, upd vl x (vl y + vl z), ko, by omega, Or.inl ⟨i + 1, by omega, rfl, rfl⟩, fun ex L post h => ?_, fun ex post h => ?_⟩
  · simpa [wpX_execute, l1, l2, e, ea, eb, ec, vx, cx, vy, cy, vz, cz, nI_1] using h
  · exact ⟨l1, br_f (by rw [l2, e]; decide) (gk_2 hi e hx ea hy eb hz ec (gs_tail hi (by rw [e]; decide) h))⟩
theorem gs_3 (hi : i < 32) (e : o i = 3) {x : Nat} (hx : x < 8) (ea : a i = nI x) {y : Nat} (hy : y < 8) (eb : b i = nI y) {z : Nat} (hz : z < 8) (ec : c i = nI z) : gc_Step m i p o a b c sv vl ko := by
  have l1 : vp_in (nI i) 32 := vp_in_nI hi (by omega)
  have l2 : (nI i).toNatClampNeg = i := nI_clamp (by omega)
  have vx : vp_in (nI x) 8 := vp_in_nI hx (by omega)
  have cx : (nI x).toNatClampNeg = x := nI_clamp (by omega)
  have vy : vp_in (nI y) 8 := vp_in_nI hy (by omega)
  have cy : (nI y).toNatClampNeg = y := nI_clamp (by omega)
  have vz : vp_in (nI z) 8 := vp_in_nI hz (by omega)
  have cz : (nI z).toNatClampNeg = z := nI_clamp (by omega)
  refine ⟨nI (i + 1), nI (i + 1), p, upd vl x (vl y - vl z), ko, by omega, Or.inl ⟨i + 1, by omega, rfl, rfl⟩, fun ex L post h => ?_, fun ex post h => ?_⟩
  · simpa [wpX_execute, l1, l2, e, ea, eb, ec, vx, cx, vy, cy, vz, cz, nI_1] using h
  · exact ⟨l1, br_f (by rw [l2, e]; decide) (gk_3 hi e hx ea hy eb hz ec (gs_tail hi (by rw [e]; decide) h))⟩
theorem gs_4 (hi : i < 32) (e : o i = 4) {x : Nat} (hx : x < 8) (ea : a i = nI x) {y : Nat} (hy : y < 8) (eb : b i = nI y) {z : Nat} (hz : z < 8) (ec : c i = nI z) : gc_Step m i p o a b c sv vl ko := by
  have l1 : vp_in (nI i) 32 := vp_in_nI hi (by omega)
  have l2 : (nI i).toNatClampNeg = i := nI_clamp (by omega)
  have vx : vp_in (nI x) 8 := vp_in_nI hx (by omega)
  have cx : (nI x).toNatClampNeg = x := nI_clamp (by omega)
  have vy : vp_in (nI y) 8 := vp_in_nI hy (by omega)
  have cy : (nI y).toNatClampNeg = y := nI_clamp (by omega)
  have vz : vp_in (nI z) 8 := vp_in_nI hz (by omega)
  have cz : (nI z).toNatClampNeg = z := nI_clamp (by omega)
  refine ⟨nI (i + 1), nI (i + 1), p, upd vl x (vl y * vl z), ko, by omega, Or.inl ⟨i + 1, by omega, rfl, rfl⟩, fun ex L post h => ?_, fun ex post h => ?_⟩
  · simpa [wpX_execute, l1, l2, e, ea, eb, ec, vx, cx, vy, cy, vz, cz, nI_1] using h
  · exact ⟨l1, br_f (by rw [l2, e]; decide) (gk_4 hi e hx ea hy eb hz ec (gs_tail hi (by rw [e]; decide) h))⟩
theorem gs_5 (hi : i < 32) (e : o i = 5) {x : Nat} (hx : x < 8) (ea : a i = nI x) {y : Nat} (hy : y < 8) (eb : b i = nI y) {z : Nat} (hz : z < 8) (ec : c i = nI z) : gc_Step m i p o a b c sv vl ko := by
  have l1 : vp_in (nI i) 32 := vp_in_nI hi (by omega)
  have l2 : (nI i).toNatClampNeg = i := nI_clamp (by omega)
  have vx : vp_in (nI x) 8 := vp_in_nI hx (by omega)
  have cx : (nI x).toNatClampNeg = x := nI_clamp (by omega)
  have vy : vp_in (nI y) 8 := vp_in_nI hy (by omega)
  have cy : (nI y).toNatClampNeg = y := nI_clamp (by omega)
  have vz : vp_in (nI z) 8 := vp_in_nI hz (by omega)
  have cz : (nI z).toNatClampNeg = z := nI_clamp (by omega)
  by_cases g : vl z ≤ vl y
  · refine ⟨nI (i + 1), nI (i + 1), p, upd vl x 0, ko, by omega, Or.inl ⟨i + 1, by omega, rfl, rfl⟩, fun ex L post h => ?_, fun ex post h => ?_⟩
    · simpa [wpX_execute, l1, l2, e, ea, eb, ec, vx, cx, vy, cy, vz, cz, nI_1, g, Int32.not_lt.mpr g] using h
    · exact ⟨l1, br_f (by rw [l2, e]; decide) (gk_5 hi e hx ea hy eb hz ec (fun _ => gs_tail hi (by rw [e]; decide) h) (fun n => absurd g n))⟩
  · refine ⟨nI (i + 1), nI (i + 1), p, upd vl x 1, ko, by omega, Or.inl ⟨i + 1, by omega, rfl, rfl⟩, fun ex L post h => ?_, fun ex post h => ?_⟩
    · simpa [wpX_execute, l1, l2, e, ea, eb, ec, vx, cx, vy, cy, vz, cz, nI_1, g, Int32.not_le.mp g] using h
    · exact ⟨l1, br_f (by rw [l2, e]; decide) (gk_5 hi e hx ea hy eb hz ec (fun y => absurd y g) (fun _ => gs_tail hi (by rw [e]; decide) h))⟩
theorem gs_6 (hi : i < 32) (hp : p ≤ 250) (e : o i = 6) {x : Nat} (hx : x < 8) (ea : a i = nI x) : gc_Step m i p o a b c sv vl ko := by
  have l1 : vp_in (nI i) 32 := vp_in_nI hi (by omega)
  have l2 : (nI i).toNatClampNeg = i := nI_clamp (by omega)
  have vx : vp_in (nI x) 8 := vp_in_nI hx (by omega)
  have cx : (nI x).toNatClampNeg = x := nI_clamp (by omega)
  rcases Nat.lt_or_ge p 32 with g | g
  · have g1 : ¬ (32 : Int32) ≤ nI p := nI_ge (b := 32) g (by decide)
    have g2 : nI p < (32 : Int32) := nI_lt (b := 32) g (by decide)
    have g3 : vp_in (nI p) 32 := vp_in_nI g (by omega)
    have g4 : (nI p).toNatClampNeg = p := nI_clamp (by omega)
    refine ⟨nI (i + 1), nI (i + 1), p + 1, vl, upd ko p (vl x), by omega, Or.inl ⟨i + 1, by omega, rfl, rfl⟩, fun ex L post h => ?_, fun ex post h => ?_⟩
    · simpa [wpX_execute, wpX_print, l1, l2, e, ea, vx, cx, nI_1, g1, g2, g3, g4] using h
    · simpa [wpY_step, wY_step_15, wY_step_55, wY_step_65, wY_step_115, wY_step_179, l1, l2, e, ea, vx, cx, nI_1, g1, g2, g3, g4] using h
  · have g1 : (32 : Int32) ≤ nI p := nI_le (a := 32) g (by omega)
    have g2 : ¬ nI p < (32 : Int32) := Int32.not_lt.mpr g1
    refine ⟨nI (i + 1), nI (i + 1), p + 1, vl, ko, by omega, Or.inl ⟨i + 1, by omega, rfl, rfl⟩, fun ex L post h => ?_, fun ex post h => ?_⟩
    · simpa [wpX_execute, wpX_print, l1, l2, e, ea, vx, cx, nI_1, g1, g2] using h
    · simpa [wpY_step, wY_step_15, wY_step_55, wY_step_65, wY_step_115, wY_step_179, l1, l2, e, ea, vx, cx, nI_1, g1, g2] using h
theorem gs_7 (hi : i < 32) (e : o i = 7) {x : Nat} (hx : x < 32) (ea : a i = nI x) : gc_Step m i p o a b c sv vl ko := by
  have l1 : vp_in (nI i) 32 := vp_in_nI hi (by omega)
  have l2 : (nI i).toNatClampNeg = i := nI_clamp (by omega)
  refine ⟨nI x, nI x, p, vl, ko, by omega, Or.inl ⟨x, by omega, rfl, rfl⟩, fun ex L post h => ?_, fun ex post h => ?_⟩
  · simpa [wpX_execute, l1, l2, e, ea] using h
  · simpa [wpY_step, wY_step_15, wY_step_55, wY_step_65, wY_step_115, wY_step_179, l1, l2, e, ea] using h
theorem gs_8 (hi : i < 32) (e : o i = 8) {x : Nat} (hx : x < 8) (ea : a i = nI x) {y : Nat} (hy : y < 32) (eb : b i = nI y) : gc_Step m i p o a b c sv vl ko := by
  have l1 : vp_in (nI i) 32 := vp_in_nI hi (by omega)
  have l2 : (nI i).toNatClampNeg = i := nI_clamp (by omega)
  have vx : vp_in (nI x) 8 := vp_in_nI hx (by omega)
  have cx : (nI x).toNatClampNeg = x := nI_clamp (by omega)
  by_cases g : vl x = 0
  · refine ⟨nI (i + 1), nI (i + 1), p, vl, ko, by omega, Or.inl ⟨i + 1, by omega, rfl, rfl⟩, fun ex L post h => ?_, fun ex post h => ?_⟩
    · simpa [wpX_execute, l1, l2, e, ea, eb, vx, cx, nI_1, g] using h
    · simpa [wpY_step, wY_step_15, wY_step_55, wY_step_65, wY_step_115, wY_step_179, l1, l2, e, ea, eb, vx, cx, nI_1, g] using h
  · refine ⟨nI y, nI y, p, vl, ko, by omega, Or.inl ⟨y, by omega, rfl, rfl⟩, fun ex L post h => ?_, fun ex post h => ?_⟩
    · simpa [wpX_execute, l1, l2, e, ea, eb, vx, cx, nI_1, g] using h
    · simpa [wpY_step, wY_step_15, wY_step_55, wY_step_65, wY_step_115, wY_step_179, l1, l2, e, ea, eb, vx, cx, nI_1, g] using h
theorem gs_9 (hi : i < 32) (e : o i = 9) {x : Nat} (hx : x < 8) (ea : a i = nI x) {y : Nat} (hy : y < 32) (eb : b i = nI y) {z : Nat} (hz : z ≤ 4) (ec : c i = nI z) : gc_Step m i p o a b c sv vl ko := by
  have l1 : vp_in (nI i) 32 := vp_in_nI hi (by omega)
  have l2 : (nI i).toNatClampNeg = i := nI_clamp (by omega)
  have vx : vp_in (nI x) 8 := vp_in_nI hx (by omega)
  have cx : (nI x).toNatClampNeg = x := nI_clamp (by omega)
  rcases pk_ix (vl x) (n := z) (by omega) with g | g | ⟨k, hk, g⟩
  · refine ⟨nI (i + 1), nI (i + 1), p, vl, ko, by omega, Or.inl ⟨i + 1, by omega, rfl, rfl⟩, fun ex L post h => ?_, fun ex post h => ?_⟩
    · simpa [wpX_execute, l1, l2, e, ea, eb, ec, vx, cx, nI_1, g, Int32.not_le.mpr g] using h
    · simpa [wpY_step, wY_step_15, wY_step_55, wY_step_65, wY_step_115, wY_step_179, l1, l2, e, ea, eb, ec, vx, cx, nI_1, g, Int32.not_le.mpr g] using h
  · have g0 : (0 : Int32) ≤ vl x := Int32.le_trans (nI_pos' (n := z) (by omega)) g
    refine ⟨nI (i + 1), nI (i + 1), p, vl, ko, by omega, Or.inl ⟨i + 1, by omega, rfl, rfl⟩, fun ex L post h => ?_, fun ex post h => ?_⟩
    · simpa [wpX_execute, l1, l2, e, ea, eb, ec, vx, cx, nI_1, g, g0, Int32.not_lt.mpr g, Int32.not_lt.mpr g0] using h
    · simpa [wpY_step, wY_step_15, wY_step_55, wY_step_65, wY_step_115, wY_step_179, l1, l2, e, ea, eb, ec, vx, cx, nI_1, g, g0, Int32.not_lt.mpr g, Int32.not_lt.mpr g0] using h
  · have g0 : ¬ nI k < 0 := nI_pos (by omega)
    have g1 : ¬ nI z ≤ nI k := nI_ge hk (by omega)
    have g2 : (0 : Int32) ≤ nI k := Int32.not_lt.mp g0
    have g3 : nI k < nI z := Int32.not_le.mp g1
    refine ⟨nI (y + k), nI (y + k), p, vl, ko, by omega, Or.inl ⟨y + k, by omega, rfl, rfl⟩, fun ex L post h => ?_, fun ex post h => ?_⟩
    · simpa [wpX_execute, l1, l2, e, ea, eb, ec, vx, cx, nI_1, nI_add, g, g0, g1, g2, g3] using h
    · simpa [wpY_step, wY_step_15, wY_step_55, wY_step_65, wY_step_115, wY_step_179, l1, l2, e, ea, eb, ec, vx, cx, nI_1, nI_add, g, g0, g1, g2, g3] using h
theorem gs_10 (hi : i < 32) (e : o i = 10) : gc_Step m i p o a b c sv vl ko := by
  have l1 : vp_in (nI i) 32 := vp_in_nI hi (by omega)
  have l2 : (nI i).toNatClampNeg = i := nI_clamp (by omega)
  refine ⟨nI m, -1, p, vl, ko, by omega, Or.inr ⟨rfl, rfl⟩, fun ex L post h => ?_, fun ex post h => ?_⟩
  · simpa [wpX_execute, l1, l2, e] using h
  · simpa [wpY_step, wY_step_15, wY_step_55, wY_step_65, wY_step_115, wY_step_179, l1, l2, e] using h
theorem gs_all (hw : gc_wf o a b c) (hi : i < 32) (hp : p ≤ 250) : gc_Step m i p o a b c sv vl ko := by
  rcases hw i with ⟨e, x, hx, ea⟩ | ⟨e, ⟨x, hx, ea⟩, y, hy, eb⟩ | ⟨e, ⟨x, hx, ea⟩, ⟨y, hy, eb⟩, z, hz, ec⟩ | ⟨e, ⟨x, hx, ea⟩, ⟨y, hy, eb⟩, z, hz, ec⟩ | ⟨e, ⟨x, hx, ea⟩, ⟨y, hy, eb⟩, z, hz, ec⟩ | ⟨e, ⟨x, hx, ea⟩, ⟨y, hy, eb⟩, z, hz, ec⟩ | ⟨e, x, hx, ea⟩ | ⟨e, x, hx, ea⟩ | ⟨e, ⟨x, hx, ea⟩, y, hy, eb⟩ | ⟨e, ⟨x, hx, ea⟩, ⟨y, hy, eb⟩, z, _, hz, ec⟩ | e
  · exact gs_0 hi e hx ea
  · exact gs_1 hi e hx ea hy eb
  · exact gs_2 hi e hx ea hy eb hz ec
  · exact gs_3 hi e hx ea hy eb hz ec
  · exact gs_4 hi e hx ea hy eb hz ec
  · exact gs_5 hi e hx ea hy eb hz ec
  · exact gs_6 hi hp e hx ea
  · exact gs_7 hi e hx ea
  · exact gs_8 hi e hx ea hy eb
  · exact gs_9 hi e hx ea hy eb hz ec
  · exact gs_10 hi e
end

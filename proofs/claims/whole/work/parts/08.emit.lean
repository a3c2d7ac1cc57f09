/-! what emit lets in, on both sides -/
theorem gc_n1 : narrow .boolean (.int 1) = .int 1 := rfl
theorem gc_n0 : narrow .boolean (.int 0) = .int 0 := rfl
theorem gc_sw {V c1 c2 p0 p1 : Prop} (h : V ↔ (¬ c1 ∧ ¬ c2)) : ((c1 → p0) ∧ (¬ c1 → ((c2 → p0) ∧ (¬ c2 → p1)))) ↔ ((V → p1) ∧ (¬ V → p0)) := by
  rw [h]
  by_cases h1 : c1 <;> by_cases h2 : c2 <;> simp [h1, h2]
theorem gc_le8 (x : Int32) : x < 8 ↔ ¬ 7 < x := by
  rw [Int32.not_lt, Int32.lt_iff_toInt_lt, Int32.le_iff_toInt_le, show (8 : Int32).toInt = 8 from by decide, show (7 : Int32).toInt = 7 from by decide]
  omega
theorem gc_le32 (x : Int32) : x < 32 ↔ ¬ 31 < x := by
  rw [Int32.not_lt, Int32.lt_iff_toInt_lt, Int32.le_iff_toInt_le, show (32 : Int32).toInt = 32 from by decide, show (31 : Int32).toInt = 31 from by decide]
  omega
theorem gc_va_X (x : Int32) : gc_va x ↔ (¬ x < 0 ∧ ¬ 8 ≤ x) := by rw [gc_va_iff, Int32.not_le]
theorem gc_va_Y (x : Int32) : gc_va x ↔ (¬ x < 0 ∧ ¬ 7 < x) := by rw [gc_va_iff, gc_le8]
theorem gc_pl_X (x : Int32) : gc_pl x ↔ (¬ x < 0 ∧ ¬ 32 ≤ x) := by rw [gc_pl_iff, Int32.not_le]
theorem gc_pl_Y (x : Int32) : gc_pl x ↔ (¬ x < 0 ∧ ¬ 31 < x) := by rw [gc_pl_iff, gc_le32]
theorem gc_wy_X (x : Int32) : gc_wy x ↔ (¬ x < 1 ∧ ¬ 4 < x) := by rw [gc_wy_iff, Int32.not_lt, Int32.not_lt]
theorem gx_V (post : Int32 → Prop) (x : Int32) : wpX_isVariable post x ↔ ((gc_va x → post 1) ∧ (¬ gc_va x → post 0)) := gc_sw (gc_va_X x)
theorem gx_T (post : Int32 → Prop) (x : Int32) : wpX_isTarget post x ↔ ((gc_pl x → post 1) ∧ (¬ gc_pl x → post 0)) := gc_sw (gc_pl_X x)
theorem gx_Vc {A B : Prop} {x : Int32} (hB : gc_va x → B) (hA : ¬ gc_va x → A) : wpX_isVariable (fun r => ((r = 0 → A) ∧ (¬ r = 0 → B))) x :=
  (gx_V _ x).mpr ⟨fun h => br_f (by decide) (hB h), fun h => br_t rfl (hA h)⟩
theorem gx_Tc {A B : Prop} {x : Int32} (hB : gc_pl x → B) (hA : ¬ gc_pl x → A) : wpX_isTarget (fun r => ((r = 0 → A) ∧ (¬ r = 0 → B))) x :=
  (gx_T _ x).mpr ⟨fun h => br_f (by decide) (hB h), fun h => br_t rfl (hA h)⟩
theorem gx_Wc {A B : Prop} {x : Int32} (hB : gc_wy x → B) (hA : ¬ gc_wy x → A) : (x < 1 → A) ∧ (¬ x < 1 → ((4 < x → A) ∧ (¬ 4 < x → B))) :=
  (gc_sw (gc_wy_X x)).mpr ⟨hB, hA⟩
section
variable {f1 f2 f3 : Int32} {o a b c s v k : Nat → Int32}
theorem gy_V (post : Int32 → Prop) (x : Int32) : wpY_isVariable post (f1, f2, f3, o, a, b, c, s, v, k) x ↔ ((gc_va x → post 1) ∧ (¬ gc_va x → post 0)) := gc_sw (gc_va_Y x)
theorem gy_P (post : Int32 → Prop) (x : Int32) : wpY_isPlace post (f1, f2, f3, o, a, b, c, s, v, k) x ↔ ((gc_pl x → post 1) ∧ (¬ gc_pl x → post 0)) := gc_sw (gc_pl_Y x)
theorem gy_Vc {A B : Prop} {x : Int32} (hB : gc_va x → B) (hA : ¬ gc_va x → A) : wpY_isVariable (fun r => ((r = 0 → A) ∧ (¬ r = 0 → B))) (f1, f2, f3, o, a, b, c, s, v, k) x :=
  (gy_V _ x).mpr ⟨fun h => br_f (by decide) (hB h), fun h => br_t rfl (hA h)⟩
theorem gy_Pc {A B : Prop} {x : Int32} (hB : gc_pl x → B) (hA : ¬ gc_pl x → A) : wpY_isPlace (fun r => ((r = 0 → A) ∧ (¬ r = 0 → B))) (f1, f2, f3, o, a, b, c, s, v, k) x :=
  (gy_P _ x).mpr ⟨fun h => br_f (by decide) (hB h), fun h => br_t rfl (hA h)⟩
end
theorem gc_11 (p : Int32) : p < 0 ∨ 10 < p ∨ p = 0 ∨ p = 1 ∨ p = 2 ∨ p = 3 ∨ p = 4 ∨ p = 5 ∨ p = 6 ∨ p = 7 ∨ p = 8 ∨ p = 9 ∨ p = 10 := by
  rcases pk_ix p (n := 11) (by decide) with h | h | ⟨j, hj, rfl⟩
  · exact Or.inl h
  · exact Or.inr (Or.inl (Int32.lt_of_lt_of_le (by decide : (10 : Int32) < nI 11) h))
  · exact (by decide +kernel : ∀ j, j < 11 → nI j < 0 ∨ 10 < nI j ∨ nI j = 0 ∨ nI j = 1 ∨ nI j = 2 ∨ nI j = 3 ∨ nI j = 4 ∨ nI j = 5 ∨ nI j = 6 ∨ nI j = 7 ∨ nI j = 8 ∨ nI j = 9 ∨ nI j = 10) j hj
section
variable {q r s : Int32}
theorem gc_ok_0 : gc_ok 0 q r s ↔ gc_va q := by simp [gc_ok]
theorem gc_ok_1 : gc_ok 1 q r s ↔ (gc_va q ∧ gc_va r) := by simp [gc_ok]
theorem gc_ok_2 : gc_ok 2 q r s ↔ (gc_va q ∧ gc_va r ∧ gc_va s) := by simp [gc_ok]
theorem gc_ok_3 : gc_ok 3 q r s ↔ (gc_va q ∧ gc_va r ∧ gc_va s) := by simp [gc_ok]
theorem gc_ok_4 : gc_ok 4 q r s ↔ (gc_va q ∧ gc_va r ∧ gc_va s) := by simp [gc_ok]
theorem gc_ok_5 : gc_ok 5 q r s ↔ (gc_va q ∧ gc_va r ∧ gc_va s) := by simp [gc_ok]
theorem gc_ok_6 : gc_ok 6 q r s ↔ gc_va q := by simp [gc_ok]
theorem gc_ok_7 : gc_ok 7 q r s ↔ gc_pl q := by simp [gc_ok]
theorem gc_ok_8 : gc_ok 8 q r s ↔ (gc_va q ∧ gc_pl r) := by simp [gc_ok]
theorem gc_ok_9 : gc_ok 9 q r s ↔ (gc_va q ∧ gc_pl r ∧ gc_wy s) := by simp [gc_ok]
theorem gc_ok_10 : gc_ok 10 q r s := by simp [gc_ok]
end
theorem gc_ok_lo {p q r s : Int32} (h : p < 0) : ¬ gc_ok p q r s := fun z => by
  obtain ⟨j, hj, rfl⟩ := gc_ok_rng z
  exact nI_pos (by omega) h
theorem gc_ok_hi {p q r s : Int32} (h : 10 < p) : ¬ gc_ok p q r s := fun z => by
  obtain ⟨j, hj, rfl⟩ := gc_ok_rng z
  exact nI_nlt (a := 10) (b := j) (by omega) (by decide) h
theorem gx_I {post : Int32 → Prop} {p q r s : Int32} (h1 : gc_ok p q r s → post 1) (h0 : ¬ gc_ok p q r s → post 0) : wpX_isInstruction post p q r s := by
  have v3 : (gc_va q ∧ gc_va r ∧ gc_va s → post 1) → (¬ (gc_va q ∧ gc_va r ∧ gc_va s) → post 0) → wX_isInstruction_85 post q r s := fun k1 k0 =>
    gx_Vc (fun x => gx_Vc (fun y => gx_Vc (fun z => k1 ⟨x, y, z⟩) (fun n => k0 fun w => n w.2.2)) (fun n => k0 fun w => n w.2.1)) (fun n => k0 fun w => n w.1)
  have v1 : (gc_va q → post 1) → (¬ gc_va q → post 0) → wX_isInstruction_60 post q := fun k1 k0 =>
    (gx_V _ q).mpr ⟨fun h => ⟨gc_n1, k1 h⟩, fun h => ⟨gc_n0, k0 h⟩⟩
  rcases gc_11 p with h | h | rfl | rfl | rfl | rfl | rfl | rfl | rfl | rfl | rfl | rfl | rfl
  · exact br_t h (h0 (gc_ok_lo h))
  · exact br_f (fun z => absurd (Int32.lt_trans h z) (by decide)) (br_t h (h0 (gc_ok_hi h)))
  · rw [gc_ok_0] at h1 h0
    exact br_f (by decide) (br_f (by decide) (br_t (by decide) (v1 h1 h0)))
  · rw [gc_ok_1] at h1 h0
    exact br_f (by decide) (br_f (by decide) (br_f (by decide) (br_t (by decide)
      (gx_Vc (fun x => gx_Vc (fun y => h1 ⟨x, y⟩) (fun n => h0 fun w => n w.2)) (fun n => h0 fun w => n w.1)))))
  · rw [gc_ok_2] at h1 h0
    exact br_f (by decide) (br_f (by decide) (br_f (by decide) (br_f (by decide) (br_t (by decide) (v3 h1 h0)))))
  · rw [gc_ok_3] at h1 h0
    exact br_f (by decide) (br_f (by decide) (br_f (by decide) (br_f (by decide) (br_f (by decide) (br_t (by decide) (v3 h1 h0))))))
  · rw [gc_ok_4] at h1 h0
    exact br_f (by decide) (br_f (by decide) (br_f (by decide) (br_f (by decide) (br_f (by decide) (br_f (by decide) (br_t (by decide) (v3 h1 h0)))))))
  · rw [gc_ok_5] at h1 h0
    exact br_f (by decide) (br_f (by decide) (br_f (by decide) (br_f (by decide) (br_f (by decide) (br_f (by decide) (br_f (by decide) (br_t (by decide) (v3 h1 h0))))))))
  · rw [gc_ok_6] at h1 h0
    exact br_f (by decide) (br_f (by decide) (br_f (by decide) (br_f (by decide) (br_f (by decide) (br_f (by decide) (br_f (by decide) (br_f (by decide) (br_t (by decide) (v1 h1 h0)))))))))
  · rw [gc_ok_7] at h1 h0
    exact br_f (by decide) (br_f (by decide) (br_f (by decide) (br_f (by decide) (br_f (by decide) (br_f (by decide) (br_f (by decide) (br_f (by decide) (br_f (by decide) (br_t (by decide)
      ((gx_T _ q).mpr ⟨fun h => ⟨gc_n1, h1 h⟩, fun h => ⟨gc_n0, h0 h⟩⟩))))))))))
  · rw [gc_ok_8] at h1 h0
    exact br_f (by decide) (br_f (by decide) (br_f (by decide) (br_f (by decide) (br_f (by decide) (br_f (by decide) (br_f (by decide) (br_f (by decide) (br_f (by decide) (br_f (by decide) (br_t (by decide)
      (gx_Vc (fun x => gx_Tc (fun y => h1 ⟨x, y⟩) (fun n => h0 fun w => n w.2)) (fun n => h0 fun w => n w.1))))))))))))
  · rw [gc_ok_9] at h1 h0
    exact br_f (by decide) (br_f (by decide) (br_f (by decide) (br_f (by decide) (br_f (by decide) (br_f (by decide) (br_f (by decide) (br_f (by decide) (br_f (by decide) (br_f (by decide) (br_f (by decide) (br_t (by decide)
      (gx_Vc (fun x => gx_Tc (fun y => gx_Wc (fun z => h1 ⟨x, y, z⟩) (fun n => h0 fun w => n w.2.2)) (fun n => h0 fun w => n w.2.1)) (fun n => h0 fun w => n w.1)))))))))))))
  · exact br_f (by decide) (br_f (by decide) (br_f (by decide) (br_f (by decide) (br_f (by decide) (br_f (by decide) (br_f (by decide) (br_f (by decide) (br_f (by decide) (br_f (by decide) (br_f (by decide) (br_f (by decide) (br_t (by decide)
      (h1 gc_ok_10)))))))))))))
section
variable {f1 f2 f3 : Int32} {o a b c sv vl ko : Nat → Int32}
theorem gy_F {post : Int32 → Prop} {p q r s : Int32} (h1 : gc_ok p q r s → post 1) (h0 : ¬ gc_ok p q r s → post 0) : wpY_fits post (f1, f2, f3, o, a, b, c, sv, vl, ko) p q r s := by
  rcases gc_11 p with h | h | rfl | rfl | rfl | rfl | rfl | rfl | rfl | rfl | rfl | rfl | rfl
  · exact br_t h (h0 (gc_ok_lo h))
  · exact br_f (fun z => absurd (Int32.lt_trans h z) (by decide)) (br_f (Int32.not_le.mpr h) (h0 (gc_ok_hi h)))
  · rw [gc_ok_0] at h1 h0
    exact br_f (by decide) (br_t (by decide) (br_f (by decide) (br_f (by decide) (gy_Vc (fun x => br_t (by decide)
      (br_t (by decide) (br_t (by decide) (br_f (by decide) (h1 x))))) h0))))
  · rw [gc_ok_1] at h1 h0
    exact br_f (by decide) (br_t (by decide) (br_f (by decide) (br_f (by decide) (gy_Vc (fun x => br_f (by decide) (br_f (by decide)
      (gy_Vc (fun y => br_t (by decide) (br_t (by decide) (br_f (by decide) (h1 ⟨x, y⟩)))) (fun n => h0 fun w => n w.2)))) (fun n => h0 fun w => n w.1)))))
  · rw [gc_ok_2] at h1 h0
    exact br_f (by decide) (br_t (by decide) (br_f (by decide) (br_f (by decide) (gy_Vc (fun x => br_f (by decide) (br_f (by decide)
      (gy_Vc (fun y => br_f (by decide) (br_f (by decide) (gy_Vc (fun z => br_t (by decide) (br_f (by decide) (h1 ⟨x, y, z⟩))) (fun n => h0 fun w => n w.2.2)))) (fun n => h0 fun w => n w.2.1)))) (fun n => h0 fun w => n w.1)))))
  · rw [gc_ok_3] at h1 h0
    exact br_f (by decide) (br_t (by decide) (br_f (by decide) (br_f (by decide) (gy_Vc (fun x => br_f (by decide) (br_f (by decide)
      (gy_Vc (fun y => br_f (by decide) (br_f (by decide) (gy_Vc (fun z => br_t (by decide) (br_f (by decide) (h1 ⟨x, y, z⟩))) (fun n => h0 fun w => n w.2.2)))) (fun n => h0 fun w => n w.2.1)))) (fun n => h0 fun w => n w.1)))))
  · rw [gc_ok_4] at h1 h0
    exact br_f (by decide) (br_t (by decide) (br_f (by decide) (br_f (by decide) (gy_Vc (fun x => br_f (by decide) (br_f (by decide)
      (gy_Vc (fun y => br_f (by decide) (br_f (by decide) (gy_Vc (fun z => br_t (by decide) (br_f (by decide) (h1 ⟨x, y, z⟩))) (fun n => h0 fun w => n w.2.2)))) (fun n => h0 fun w => n w.2.1)))) (fun n => h0 fun w => n w.1)))))
  · rw [gc_ok_5] at h1 h0
    exact br_f (by decide) (br_t (by decide) (br_f (by decide) (br_f (by decide) (gy_Vc (fun x => br_f (by decide) (br_f (by decide)
      (gy_Vc (fun y => br_f (by decide) (br_f (by decide) (gy_Vc (fun z => br_t (by decide) (br_f (by decide) (h1 ⟨x, y, z⟩))) (fun n => h0 fun w => n w.2.2)))) (fun n => h0 fun w => n w.2.1)))) (fun n => h0 fun w => n w.1)))))
  · rw [gc_ok_6] at h1 h0
    exact br_f (by decide) (br_t (by decide) (br_f (by decide) (br_f (by decide) (gy_Vc (fun x => br_f (by decide) (br_t (by decide)
      (br_f (by decide) (br_t (by decide) (br_t (by decide) (br_f (by decide) (h1 x))))))) h0))))
  · rw [gc_ok_7] at h1 h0
    exact br_f (by decide) (br_t (by decide) (br_f (by decide) (br_t (by decide) ((gy_P _ q).mpr ⟨fun h => ⟨gc_n1, h1 h⟩, fun h => ⟨gc_n0, h0 h⟩⟩))))
  · rw [gc_ok_8] at h1 h0
    exact br_f (by decide) (br_t (by decide) (br_f (by decide) (br_f (by decide) (gy_Vc (fun x => br_f (by decide) (br_t (by decide)
      (br_f (by decide) (br_t (by decide) (br_f (by decide) (gy_Pc (fun y => br_f (by decide) (h1 ⟨x, y⟩)) (fun n => h0 fun w => n w.2))))))) (fun n => h0 fun w => n w.1)))))
  · rw [gc_ok_9] at h1 h0
    exact br_f (by decide) (br_t (by decide) (br_f (by decide) (br_f (by decide) (gy_Vc (fun x => br_f (by decide) (br_t (by decide)
      (br_f (by decide) (br_t (by decide) (br_f (by decide) (gy_Pc (fun y => br_t (by decide) (gx_Wc (fun z => h1 ⟨x, y, z⟩) (fun n => h0 fun w => n w.2.2))) (fun n => h0 fun w => n w.2.1))))))) (fun n => h0 fun w => n w.1)))))
  · exact br_f (by decide) (br_t (by decide) (br_t (by decide) (h1 gc_ok_10)))
end

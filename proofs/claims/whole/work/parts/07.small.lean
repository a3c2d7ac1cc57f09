/-! a run's beginning, its fuel, its next place; what emit keeps -/
def gc_cp (sv vl : Nat → Int32) : Nat → Nat → Int32
  | 0 => vl
  | k + 1 => upd (gc_cp sv vl k) k (sv k)
def gc_cl (p : Int32) : Int32 := if p < 0 then 0 else if 250 < p then 250 else p
theorem gc_cl_n (p : Int32) : ∃ q : Nat, q ≤ 250 ∧ gc_cl p = nI q := by
  unfold gc_cl
  rcases pk_ix p (n := 251) (by decide) with h | h | ⟨j, hj, rfl⟩
  · exact ⟨0, by decide, by rw [if_pos h, nI_0]⟩
  · have h0 : ¬ p < 0 := Int32.not_lt.mpr (Int32.le_trans (by decide : (0 : Int32) ≤ nI 251) h)
    have h1 : 250 < p := Int32.lt_of_lt_of_le (by decide : (250 : Int32) < nI 251) h
    exact ⟨250, by decide, by rw [if_neg h0, if_pos h1]; decide⟩
  · have h1 : ¬ (250 : Int32) < nI j := nI_nlt (a := 250) (by omega) (by decide)
    exact ⟨j, by omega, by rw [if_neg (nI_pos (by omega)), if_neg h1]⟩
def gc_nx (m : Nat) (x y : Int32) : Prop := (∃ j : Nat, j < 64 ∧ x = nI j ∧ y = nI j) ∨ (x = nI m ∧ y = -1)
theorem gc_wf_0 : gc_wf (fun _ => 0) (fun _ => 0) (fun _ => 0) (fun _ => 0) := fun _ => Or.inl ⟨rfl, 0, by decide, nI_0.symm⟩
theorem gc_wf_u {o a b c : Nat → Int32} (h : gc_wf o a b c) {k : Nat} {p q r s : Int32} (hk : gc_ok p q r s) : gc_wf (upd o k p) (upd a k q) (upd b k r) (upd c k s) := by
  intro i
  by_cases e : i = k
  · subst e
    rw [pk_us, pk_us, pk_us, pk_us]
    exact hk
  · rw [pk_un e, pk_un e, pk_un e, pk_un e]
    exact h i
theorem gc_ok_rng {o a b c : Int32} (h : gc_ok o a b c) : ∃ j : Nat, j < 11 ∧ o = nI j := by
  rcases h with ⟨e, _⟩ | ⟨e, _⟩ | ⟨e, _⟩ | ⟨e, _⟩ | ⟨e, _⟩ | ⟨e, _⟩ | ⟨e, _⟩ | ⟨e, _⟩ | ⟨e, _⟩ | ⟨e, _⟩ | e
  · exact ⟨0, by decide, e⟩
  · exact ⟨1, by decide, e⟩
  · exact ⟨2, by decide, e⟩
  · exact ⟨3, by decide, e⟩
  · exact ⟨4, by decide, e⟩
  · exact ⟨5, by decide, e⟩
  · exact ⟨6, by decide, e⟩
  · exact ⟨7, by decide, e⟩
  · exact ⟨8, by decide, e⟩
  · exact ⟨9, by decide, e⟩
  · exact ⟨10, by decide, e⟩
/-- the numbers that no variable has are read nowhere -/
theorem gc_R_8 {o a b c : Nat → Int32} (hw : gc_wf o a b c) {v : Nat} (h8 : 8 ≤ v) (hv : v < 32) (i : Nat) : ¬ gc_R o a b c v i := by
  have no : ∀ x : Int32, gc_va x → x ≠ nI v := by
    rintro x ⟨j, hj, rfl⟩ e
    rw [nI_eq (by omega) (by omega)] at e
    omega
  intro h
  rcases hw i with ⟨e, _⟩ | ⟨e, _, y⟩ | ⟨e, _, y, z⟩ | ⟨e, _, y, z⟩ | ⟨e, _, y, z⟩ | ⟨e, _, y, z⟩ | ⟨e, x⟩ | ⟨e, _⟩ | ⟨e, x, _⟩ | ⟨e, x, _⟩ | e
  all_goals rcases h with ⟨h1, h2⟩ | ⟨h1, h2⟩
  all_goals rw [e] at h1
  all_goals first
    | exact absurd h1 (by decide)
    | exact no _ x h2
    | (rcases h2 with h2 | ⟨h2, h3⟩
       · exact no _ y h2
       · first
         | exact no _ z h3
         | (rw [e] at h2; exact absurd h2 (by decide)))
theorem gc_LV_8 {o a b c : Nat → Int32} (hw : gc_wf o a b c) {m v : Nat} (h8 : 8 ≤ v) (hv : v < 32) (i : Nat) : ¬ gc_LV m o a b c v i :=
  fun ⟨k, hk⟩ => gc_noR (gc_R_8 hw h8 hv) k i hk

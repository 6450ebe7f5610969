/-! block: the two lines themselves change nothing -/
theorem bl_T {a b : Nat → Nat} {u q : Nat → Prop} {k l : Nat} : (∃ x y, (x = a k ∨ x = b k) ∧ q x ∧ (y = a l ∨ y = b l) ∧ gr_R a b u q x y) ↔ (∃ x y, (x = a k ∨ x = b k) ∧ q x ∧ (y = a l ∨ y = b l) ∧ gr_R a b (fun j => (u j ∧ j ≠ k) ∧ j ≠ l) q x y) := by
  constructor
  · rintro ⟨x, y, hx, qx, hy, r⟩
    apply Classical.byContradiction
    intro n
    have s := r (fun z => ∃ x, (x = a k ∨ x = b k) ∧ q x ∧ gr_R a b (fun j => (u j ∧ j ≠ k) ∧ j ≠ l) q x z) (fun j hj h1 h2 => ?_) ⟨x, hx, qx, gr_rf x⟩
    · obtain ⟨x', h1, h2, h3⟩ := s
      exact n ⟨x', y, h1, h2, hy, h3⟩
    · by_cases ek : j = k
      · rw [ek] at h1 h2 ⊢
        exact ⟨fun _ => ⟨b k, Or.inr rfl, h2, gr_rf _⟩, fun _ => ⟨a k, Or.inl rfl, h1, gr_rf _⟩⟩
      · by_cases el : j = l
        · rw [el]
          exact ⟨fun ⟨x', w1, w2, w3⟩ => absurd ⟨x', a l, w1, w2, Or.inl rfl, w3⟩ n, fun ⟨x', w1, w2, w3⟩ => absurd ⟨x', b l, w1, w2, Or.inr rfl, w3⟩ n⟩
        · have hu : (u j ∧ j ≠ k) ∧ j ≠ l := ⟨⟨hj, ek⟩, el⟩
          exact ⟨fun ⟨x', w1, w2, w3⟩ => ⟨x', w1, w2, gr_tr w3 (gr_ln (u := fun j => (u j ∧ j ≠ k) ∧ j ≠ l) hu h1 h2)⟩, fun ⟨x', w1, w2, w3⟩ => ⟨x', w1, w2, gr_tr w3 (gr_ln' (u := fun j => (u j ∧ j ≠ k) ∧ j ≠ l) hu h1 h2)⟩⟩
  · rintro ⟨x, y, hx, qx, hy, r⟩
    exact ⟨x, y, hx, qx, hy, gr_mono (fun j hj h1 h2 => ⟨hj.1.1, h1, h2⟩) r⟩
/-! one more line's distance -/
section
variable (A B : Nat → Nat) (us : Nat)
def sp_w (r : Nat) : Nat → Nat
  | 0 => r
  | k + 1 => if us.testBit k = true ∧ bi_e (A k) (B k) &&& r ≠ 0 then sp_w r k ||| bi_e (A k) (B k) else sp_w r k
theorem sp_wT (r p : Nat) : ∀ k, (sp_w A B us r k).testBit p = true ↔ (r.testBit p = true ∨ ∃ j, j < k ∧ us.testBit j = true ∧ (r.testBit (A j) = true ∨ r.testBit (B j) = true) ∧ (p = A j ∨ p = B j)) := by
  intro k
  induction k with
  | zero =>
    show r.testBit p = true ↔ _
    exact ⟨Or.inl, fun h => h.elim id (fun ⟨j, h, _⟩ => by omega)⟩
  | succ k ih =>
    by_cases c : us.testBit k = true ∧ bi_e (A k) (B k) &&& r ≠ 0
    · have e : sp_w A B us r (k + 1) = sp_w A B us r k ||| bi_e (A k) (B k) := by
        show (if _ then _ else _) = _
        rw [if_pos c]
      rw [e, Nat.testBit_or, Bool.or_eq_true, ih, bi_eT]
      constructor
      · rintro ((h | ⟨j, h1, h2⟩) | h)
        · exact Or.inl h
        · exact Or.inr ⟨j, by omega, h2⟩
        · exact Or.inr ⟨k, by omega, c.1, (bi_enz _ _ _).mp c.2, h⟩
      · rintro (h | ⟨j, h1, h2, h3, h4⟩)
        · exact Or.inl (Or.inl h)
        · by_cases w : j = k
          · rw [w] at h4; exact Or.inr h4
          · exact Or.inl (Or.inr ⟨j, by omega, h2, h3, h4⟩)
    · have e : sp_w A B us r (k + 1) = sp_w A B us r k := by
        show (if _ then _ else _) = _
        rw [if_neg c]
      rw [e, ih]
      constructor
      · rintro (h | ⟨j, h1, h2⟩)
        · exact Or.inl h
        · exact Or.inr ⟨j, by omega, h2⟩
      · rintro (h | ⟨j, h1, h2, h3, h4⟩)
        · exact Or.inl h
        · by_cases w : j = k
          · rw [w] at h2 h3
            exact absurd ⟨h2, (bi_enz _ _ _).mpr h3⟩ c
          · exact Or.inr ⟨j, by omega, h2, h3, h4⟩
/-- X's wider set is Y's step, within the points -/
theorem sp_wy {n s : Nat} (hl : ∀ j, j < 16 → us.testBit j = true → A j < n ∧ B j < n) (hs : ∀ p, s.testBit p = true → p < n) : sp_w A B us s 16 = (sp_y A B us s 16 &&& (2 ^ n - 1)) := by
  have both : ∀ p, (sp_w A B us s 16).testBit p = true ↔ (sp_y A B us s 16 &&& (2 ^ n - 1)).testBit p = true := by
    intro p
    rw [sp_wT, Nat.testBit_and, Bool.and_eq_true, sp_yT, bi_allT, decide_eq_true_iff]
    constructor
    · rintro (h | ⟨j, h1, h2, h3, h4⟩)
      · exact ⟨Or.inl h, hs p h⟩
      · obtain ⟨la, lb⟩ := hl j h1 h2
        rcases h4 with h4 | h4
        · refine ⟨?_, by omega⟩
          rcases h3 with h3 | h3
          · rw [h4]; exact Or.inl h3
          · exact Or.inr ⟨j, h1, h2, Or.inr ⟨h3, h4⟩⟩
        · refine ⟨?_, by omega⟩
          rcases h3 with h3 | h3
          · exact Or.inr ⟨j, h1, h2, Or.inl ⟨h3, h4⟩⟩
          · rw [h4]; exact Or.inl h3
    · rintro ⟨h | ⟨j, h1, h2, ⟨h3, h4⟩ | ⟨h3, h4⟩⟩, _⟩
      · exact Or.inl h
      · exact Or.inr ⟨j, h1, h2, Or.inl h3, Or.inr h4⟩
      · exact Or.inr ⟨j, h1, h2, Or.inr h3, Or.inl h4⟩
  apply Nat.eq_of_testBit_eq
  intro p
  have x := both p
  cases h1 : (sp_w A B us s 16).testBit p <;> cases h2 : (sp_y A B us s 16 &&& (2 ^ n - 1)).testBit p <;> simp_all
/-- the points at a distance of at most i -/
def sp_A (x y : Nat) : Prop := ∃ j, j < 16 ∧ us.testBit j = true ∧ ((A j = x ∧ B j = y) ∨ (A j = y ∧ B j = x))
theorem sp_As (x y : Nat) (h : sp_A A B us x y) : sp_A A B us y x := by
  obtain ⟨j, h1, h2, h3⟩ := h
  exact ⟨j, h1, h2, h3.elim Or.inr Or.inl⟩
theorem sp_D (x : Nat) : ∀ i y, (gr_it (fun s => sp_w A B us s 16) i (2 ^ x)).testBit y = true ↔ gr_D (sp_A A B us) i x y := by
  intro i
  induction i with
  | zero =>
    intro y
    show (2 ^ x).testBit y = true ↔ x = y
    rw [Nat.testBit_two_pow]
    simp
  | succ i ih =>
    intro y
    show (sp_w A B us (gr_it (fun s => sp_w A B us s 16) i (2 ^ x)) 16).testBit y = true ↔ gr_D (sp_A A B us) i x y ∨ ∃ z, gr_D (sp_A A B us) i x z ∧ sp_A A B us z y
    rw [sp_wT, ih]
    constructor
    · rintro (h | ⟨j, h1, h2, h3, h4⟩)
      · exact Or.inl h
      · rw [ih, ih] at h3
        rcases h4 with h4 | h4 <;> rcases h3 with h3 | h3
        · rw [h4]; exact Or.inl h3
        · exact Or.inr ⟨B j, h3, j, h1, h2, Or.inr ⟨h4.symm, rfl⟩⟩
        · exact Or.inr ⟨A j, h3, j, h1, h2, Or.inl ⟨rfl, h4.symm⟩⟩
        · rw [h4]; exact Or.inl h3
    · rintro (h | ⟨z, h1, j, h2, h3, ⟨h4, h5⟩ | ⟨h4, h5⟩⟩)
      · exact Or.inl h
      · refine Or.inr ⟨j, h2, h3, Or.inl ?_, Or.inr h5.symm⟩
        rw [ih, h4]; exact h1
      · refine Or.inr ⟨j, h2, h3, Or.inr ?_, Or.inl h4.symm⟩
        rw [ih, h5]; exact h1
end

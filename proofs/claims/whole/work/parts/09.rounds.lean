/-! the two spreads: a round of X (line by line), a round of Y (all lines at once) -/
section
variable (A B : Nat → Nat) (us kp : Nat)
/-- X: the lines before k, in turn -/
def sp_x : Nat → Nat → Nat
  | 0, r => r
  | k + 1, r => if (us.testBit k = true ∧ bi_d (bi_e (A k) (B k)) kp = 0) ∧ bi_e (A k) (B k) &&& sp_x k r ≠ 0 then sp_x k r ||| bi_e (A k) (B k) else sp_x k r
/-- Y: the lines before k, from set s -/
def sp_y (s : Nat) : Nat → Nat
  | 0 => s
  | k + 1 => if us.testBit k = true then (if s.testBit (B k) = true then (if s.testBit (A k) = true then sp_y s k ||| 2 ^ (B k) else sp_y s k) ||| 2 ^ (A k) else (if s.testBit (A k) = true then sp_y s k ||| 2 ^ (B k) else sp_y s k)) else sp_y s k
theorem sp_xG (r p : Nat) (h : r.testBit p = true) : ∀ k, (sp_x A B us kp k r).testBit p = true := by
  intro k
  induction k with
  | zero => exact h
  | succ k ih =>
    unfold sp_x
    split
    · rw [Nat.testBit_or, ih, Bool.true_or]
    · exact ih
theorem sp_xM (r : Nat) {p j : Nat} (h : (sp_x A B us kp j r).testBit p = true) : ∀ k, j ≤ k → (sp_x A B us kp k r).testBit p = true := by
  intro k
  induction k with
  | zero => intro hk; obtain rfl : j = 0 := by omega
            exact h
  | succ k ih =>
    intro hk
    by_cases e : j = k + 1
    · rw [← e]; exact h
    · have := ih (by omega)
      unfold sp_x
      split
      · rw [Nat.testBit_or, this, Bool.true_or]
      · exact this
theorem sp_xR : gr_rd A B (fun k => k < 16 ∧ us.testBit k = true) (fun p => kp.testBit p = true) (sp_x A B us kp 16) := by
  refine ⟨fun s p _ h => sp_xG A B us kp s p h 16, fun s k hk ha hb => ?_, fun s S c h => ?_⟩
  · have st : (s.testBit (A k) = true ∨ s.testBit (B k) = true) → (sp_x A B us kp (k + 1) s).testBit (A k) = true ∧ (sp_x A B us kp (k + 1) s).testBit (B k) = true := by
      intro h
      have h' : (sp_x A B us kp k s).testBit (A k) = true ∨ (sp_x A B us kp k s).testBit (B k) = true := h.elim (fun q => Or.inl (sp_xG A B us kp s _ q k)) (fun q => Or.inr (sp_xG A B us kp s _ q k))
      have e : sp_x A B us kp (k + 1) s = sp_x A B us kp k s ||| bi_e (A k) (B k) := by
        show (if (us.testBit k = true ∧ bi_d (bi_e (A k) (B k)) kp = 0) ∧ bi_e (A k) (B k) &&& sp_x A B us kp k s ≠ 0 then sp_x A B us kp k s ||| bi_e (A k) (B k) else sp_x A B us kp k s) = _
        rw [if_pos ⟨⟨hk.2, (bi_ed0 _ _ _).mpr ⟨ha, hb⟩⟩, (bi_enz _ _ _).mpr h'⟩]
      rw [e, Nat.testBit_or, Nat.testBit_or, (bi_eT (A k) (B k) (A k)).mpr (Or.inl rfl), (bi_eT (A k) (B k) (B k)).mpr (Or.inr rfl), Bool.or_true, Bool.or_true]
      exact ⟨rfl, rfl⟩
    exact ⟨fun h => sp_xM A B us kp s (st (Or.inl h)).2 16 (by omega), fun h => sp_xM A B us kp s (st (Or.inr h)).1 16 (by omega)⟩
  · have all : ∀ k, k ≤ 16 → ∀ p, (sp_x A B us kp k s).testBit p = true → kp.testBit p = true ∧ S p := by
      intro k
      induction k with
      | zero => intro _ p hp; exact h p hp
      | succ k ih =>
        intro hk p hp
        have ih := ih (by omega)
        unfold sp_x at hp
        split at hp
        · rename_i q
          rw [Nat.testBit_or, Bool.or_eq_true] at hp
          rcases hp with hp | hp
          · exact ih p hp
          · obtain ⟨⟨q1, q2⟩, q3⟩ := q
            have kk := (bi_ed0 _ _ _).mp q2
            have cc := c k ⟨by omega, q1⟩ kk.1 kk.2
            have ab : S (A k) ∧ S (B k) := by
              rcases (bi_enz _ _ _).mp q3 with w | w
              · have := (ih _ w).2
                exact ⟨this, cc.mp this⟩
              · have := (ih _ w).2
                exact ⟨cc.mpr this, this⟩
            rcases (bi_eT _ _ _).mp hp with w | w
            · rw [w]; exact ⟨kk.1, ab.1⟩
            · rw [w]; exact ⟨kk.2, ab.2⟩
        · exact ih p hp
    exact all 16 (by omega)
theorem sp_yT (s p : Nat) : ∀ k, (sp_y A B us s k).testBit p = true ↔ (s.testBit p = true ∨ ∃ j, j < k ∧ us.testBit j = true ∧ ((s.testBit (A j) = true ∧ p = B j) ∨ (s.testBit (B j) = true ∧ p = A j))) := by
  intro k
  induction k with
  | zero =>
    show s.testBit p = true ↔ _
    exact ⟨Or.inl, fun h => h.elim id (fun ⟨j, h, _⟩ => by omega)⟩
  | succ k ih =>
    have tp : ∀ q : Nat, (2 ^ q).testBit p = true ↔ p = q := by
      intro q
      rw [Nat.testBit_two_pow]
      simp
      exact ⟨Eq.symm, Eq.symm⟩
    have low : (∃ j, j < k + 1 ∧ us.testBit j = true ∧ ((s.testBit (A j) = true ∧ p = B j) ∨ (s.testBit (B j) = true ∧ p = A j))) ↔ (∃ j, j < k ∧ us.testBit j = true ∧ ((s.testBit (A j) = true ∧ p = B j) ∨ (s.testBit (B j) = true ∧ p = A j))) ∨ (us.testBit k = true ∧ ((s.testBit (A k) = true ∧ p = B k) ∨ (s.testBit (B k) = true ∧ p = A k))) := by
      constructor
      · rintro ⟨j, h1, h2⟩
        by_cases e : j = k
        · rw [e] at h2; exact Or.inr h2
        · exact Or.inl ⟨j, by omega, h2⟩
      · rintro (⟨j, h1, h2⟩ | h)
        · exact ⟨j, by omega, h2⟩
        · exact ⟨k, by omega, h⟩
    rw [low]
    unfold sp_y
    by_cases u : us.testBit k = true
    · rw [if_pos u]
      by_cases sb : s.testBit (B k) = true
      · rw [if_pos sb, Nat.testBit_or, Bool.or_eq_true, tp]
        by_cases sa : s.testBit (A k) = true
        · rw [if_pos sa, Nat.testBit_or, Bool.or_eq_true, tp, ih]
          constructor
          · rintro ((h | h) | h)
            · exact h.elim Or.inl (fun q => Or.inr (Or.inl q))
            · exact Or.inr (Or.inr ⟨u, Or.inl ⟨sa, h⟩⟩)
            · exact Or.inr (Or.inr ⟨u, Or.inr ⟨sb, h⟩⟩)
          · rintro (h | h | ⟨_, ⟨_, h⟩ | ⟨_, h⟩⟩)
            · exact Or.inl (Or.inl (Or.inl h))
            · exact Or.inl (Or.inl (Or.inr h))
            · exact Or.inl (Or.inr h)
            · exact Or.inr h
        · rw [if_neg sa, ih]
          constructor
          · rintro (h | h)
            · exact h.elim Or.inl (fun q => Or.inr (Or.inl q))
            · exact Or.inr (Or.inr ⟨u, Or.inr ⟨sb, h⟩⟩)
          · rintro (h | h | ⟨_, ⟨q, h⟩ | ⟨_, h⟩⟩)
            · exact Or.inl (Or.inl h)
            · exact Or.inl (Or.inr h)
            · exact absurd q sa
            · exact Or.inr h
      · rw [if_neg sb]
        by_cases sa : s.testBit (A k) = true
        · rw [if_pos sa, Nat.testBit_or, Bool.or_eq_true, tp, ih]
          constructor
          · rintro (h | h)
            · exact h.elim Or.inl (fun q => Or.inr (Or.inl q))
            · exact Or.inr (Or.inr ⟨u, Or.inl ⟨sa, h⟩⟩)
          · rintro (h | h | ⟨_, ⟨_, h⟩ | ⟨q, h⟩⟩)
            · exact Or.inl (Or.inl h)
            · exact Or.inl (Or.inr h)
            · exact Or.inr h
            · exact absurd q sb
        · rw [if_neg sa, ih]
          constructor
          · intro h
            exact h.elim Or.inl (fun q => Or.inr (Or.inl q))
          · rintro (h | h | ⟨_, ⟨q, h⟩ | ⟨q, h⟩⟩)
            · exact Or.inl h
            · exact Or.inr h
            · exact absurd q sa
            · exact absurd q sb
    · rw [if_neg u, ih]
      constructor
      · intro h
        exact h.elim Or.inl (fun q => Or.inr (Or.inl q))
      · rintro (h | h | h)
        · exact Or.inl h
        · exact Or.inr h
        · exact absurd h.1 u
theorem sp_yR : gr_rd A B (fun k => k < 16 ∧ us.testBit k = true) (fun p => kp.testBit p = true) (fun s => sp_y A B us s 16 &&& kp) := by
  have t : ∀ s p, (sp_y A B us s 16 &&& kp).testBit p = true ↔ ((s.testBit p = true ∨ ∃ j, j < 16 ∧ us.testBit j = true ∧ ((s.testBit (A j) = true ∧ p = B j) ∨ (s.testBit (B j) = true ∧ p = A j))) ∧ kp.testBit p = true) := by
    intro s p
    rw [Nat.testBit_and, Bool.and_eq_true, sp_yT]
  refine ⟨fun s p q h => ?_, fun s k hk ha hb => ⟨fun h => ?_, fun h => ?_⟩, fun s S c h p hp => ?_⟩
  · exact (t s p).mpr ⟨Or.inl h, q⟩
  · exact (t s _).mpr ⟨Or.inr ⟨k, hk.1, hk.2, Or.inl ⟨h, rfl⟩⟩, hb⟩
  · exact (t s _).mpr ⟨Or.inr ⟨k, hk.1, hk.2, Or.inr ⟨h, rfl⟩⟩, ha⟩
  · obtain ⟨hp, kp'⟩ := (t s p).mp hp
    refine ⟨kp', ?_⟩
    rcases hp with hp | ⟨j, j1, j2, ⟨j3, j4⟩ | ⟨j3, j4⟩⟩
    · exact (h p hp).2
    · rw [j4] at kp' ⊢
      exact (c j ⟨j1, j2⟩ (h _ j3).1 kp').mp (h _ j3).2
    · rw [j4] at kp' ⊢
      exact (c j ⟨j1, j2⟩ kp' (h _ j3).1).mpr (h _ j3).2
/-- X's spread and Y's joined reach the same -/
def sp_X (st : Nat) : Nat := gr_it (sp_x A B us kp 16) 7 (st &&& kp)
def sp_Y (st : Nat) : Nat := gr_it (fun s => sp_y A B us s 16 &&& kp) 8 (st &&& kp)
theorem sp_XT (h8 : kp < 256) (st p : Nat) : (sp_X A B us kp st).testBit p = true ↔ ∃ x, (st.testBit x = true ∧ kp.testBit x = true) ∧ gr_R A B (fun k => k < 16 ∧ us.testBit k = true) (fun p => kp.testBit p = true) x p := by
  unfold sp_X
  rw [gr_itT (sp_xR A B us kp) (fun p hp => ?_) (fun p hp => ?_) (by omega)]
  · constructor
    · rintro ⟨x, h, r⟩
      rw [Nat.testBit_and, Bool.and_eq_true] at h
      exact ⟨x, h, r⟩
    · rintro ⟨x, h, r⟩
      exact ⟨x, by rw [Nat.testBit_and, Bool.and_eq_true]; exact h, r⟩
  · apply Classical.byContradiction
    intro n
    have : 2 ^ 8 ≤ 2 ^ p := Nat.pow_le_pow_right (by omega) (by omega)
    rw [Nat.testBit_lt_two_pow (by omega)] at hp
    cases hp
  · rw [Nat.testBit_and, Bool.and_eq_true] at hp
    exact hp.2
theorem sp_YT (h8 : kp < 256) (st p : Nat) : (sp_Y A B us kp st).testBit p = true ↔ ∃ x, (st.testBit x = true ∧ kp.testBit x = true) ∧ gr_R A B (fun k => k < 16 ∧ us.testBit k = true) (fun p => kp.testBit p = true) x p := by
  unfold sp_Y
  rw [gr_itT (sp_yR A B us kp) (fun p hp => ?_) (fun p hp => ?_) (by omega)]
  · constructor
    · rintro ⟨x, h, r⟩
      rw [Nat.testBit_and, Bool.and_eq_true] at h
      exact ⟨x, h, r⟩
    · rintro ⟨x, h, r⟩
      exact ⟨x, by rw [Nat.testBit_and, Bool.and_eq_true]; exact h, r⟩
  · apply Classical.byContradiction
    intro n
    have : 2 ^ 8 ≤ 2 ^ p := Nat.pow_le_pow_right (by omega) (by omega)
    rw [Nat.testBit_lt_two_pow (by omega)] at hp
    cases hp
  · rw [Nat.testBit_and, Bool.and_eq_true] at hp
    exact hp.2
theorem sp_XY (h8 : kp < 256) (st : Nat) : sp_X A B us kp st = sp_Y A B us kp st := by
  apply Nat.eq_of_testBit_eq
  intro p
  have x := (sp_XT A B us kp h8 st p).trans (sp_YT A B us kp h8 st p).symm
  cases h1 : (sp_X A B us kp st).testBit p <;> cases h2 : (sp_Y A B us kp st).testBit p <;> simp_all
end

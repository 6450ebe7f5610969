/-! counting groups by taking each group away -/
def gc_s (cl : Nat → Nat) (kp : Nat) : Nat → Nat × Nat
  | 0 => (kp, 0)
  | p + 1 => if (gc_s cl kp p).1.testBit p = true then (bi_d (gc_s cl kp p).1 (cl p), (gc_s cl kp p).2 + 1) else gc_s cl kp p
theorem gc_I {R : Nat → Nat → Prop} (E : gr_E R) {cl : Nat → Nat} {kp : Nat} (h : ∀ p x, kp.testBit p = true → kp.testBit x = true → ((cl p).testBit x = true ↔ R p x)) : ∀ p, (∀ x, (gc_s cl kp p).1.testBit x = true ↔ (kp.testBit x = true ∧ ∀ r, r < p → kp.testBit r = true → ¬ R r x)) ∧ (gc_s cl kp p).2 = mt_c (fun x => gr_b (gr_l R (fun x => kp.testBit x = true) x)) p := by
  intro p
  induction p with
  | zero =>
    refine ⟨fun x => ?_, rfl⟩
    show kp.testBit x = true ↔ _
    exact ⟨fun h => ⟨h, fun r hr => by omega⟩, fun h => h.1⟩
  | succ p ih =>
    obtain ⟨i1, i2⟩ := ih
    have il : (gc_s cl kp p).1.testBit p = true ↔ gr_l R (fun x => kp.testBit x = true) p := i1 p
    by_cases c : (gc_s cl kp p).1.testBit p = true
    · have e : gc_s cl kp (p + 1) = (bi_d (gc_s cl kp p).1 (cl p), (gc_s cl kp p).2 + 1) := by
        show (if _ then _ else _) = _
        rw [if_pos c]
      have lp := il.mp c
      rw [e, mt_cS]
      refine ⟨fun x => ?_, ?_⟩
      · show (bi_d (gc_s cl kp p).1 (cl p)).testBit x = true ↔ _
        rw [bi_dT, Bool.and_eq_true, i1]
        constructor
        · rintro ⟨⟨a1, a2⟩, a3⟩
          refine ⟨a1, fun r hr kr rr => ?_⟩
          by_cases q : r = p
          · rw [q] at rr kr
            rw [(h p x kr a1).mpr rr] at a3
            cases a3
          · exact a2 r (by omega) kr rr
        · rintro ⟨a1, a2⟩
          refine ⟨⟨a1, fun r hr => a2 r (by omega)⟩, ?_⟩
          have := a2 p (by omega) lp.1
          have : ¬ (cl p).testBit x = true := fun w => this ((h p x lp.1 a1).mp w)
          simpa using this
      · show (gc_s cl kp p).2 + 1 = _
        rw [i2, if_pos (gr_bT.mpr lp)]
    · have e : gc_s cl kp (p + 1) = gc_s cl kp p := by
        show (if _ then _ else _) = _
        rw [if_neg c]
      have lp : ¬ gr_l R (fun x => kp.testBit x = true) p := fun w => c (il.mpr w)
      rw [e, mt_cS]
      refine ⟨fun x => ?_, ?_⟩
      · rw [i1]
        constructor
        · rintro ⟨a1, a2⟩
          refine ⟨a1, fun r hr kr rr => ?_⟩
          by_cases q : r = p
          · rw [q] at rr kr
            obtain ⟨y, y1, y2, y3⟩ := gr_lex (R := R) (q := fun x => kp.testBit x = true) E kr
            have : y ≠ p := fun w => lp (w ▸ y2)
            exact a2 y (by omega) y2.1 (E.2.2 _ _ _ y3 rr)
          · exact a2 r (by omega) kr rr
        · rintro ⟨a1, a2⟩
          exact ⟨a1, fun r hr => a2 r (by omega)⟩
      · rw [i2, if_neg (fun w => lp (gr_bT.mp w))]
        rfl
theorem gc_T {R : Nat → Nat → Prop} (E : gr_E R) {cl : Nat → Nat} {kp : Nat} (h : ∀ p x, kp.testBit p = true → kp.testBit x = true → ((cl p).testBit x = true ↔ R p x)) : (gc_s cl kp 8).2 = gr_n R (fun x => kp.testBit x = true) := (gc_I E h 8).2
/-! the least of some numbers -/
def mf_v (P : Nat → Bool) (f : Nat → Nat) (c : Nat) : Nat → Nat
  | 0 => c
  | i + 1 => if P i = true ∧ f i < mf_v P f c i then f i else mf_v P f c i
theorem mf_I (P : Nat → Bool) (f : Nat → Nat) (c : Nat) : ∀ n, mf_v P f c n ≤ c ∧ (∀ i, i < n → P i = true → mf_v P f c n ≤ f i) ∧ (mf_v P f c n = c ∨ ∃ i, i < n ∧ P i = true ∧ mf_v P f c n = f i) := by
  intro n
  induction n with
  | zero => exact ⟨Nat.le_refl _, fun i hi => by omega, Or.inl rfl⟩
  | succ n ih =>
    obtain ⟨h1, h2, h3⟩ := ih
    by_cases q : P n = true ∧ f n < mf_v P f c n
    · have e : mf_v P f c (n + 1) = f n := by
        show (if _ then _ else _) = _
        rw [if_pos q]
      rw [e]
      refine ⟨by omega, fun i hi pi => ?_, Or.inr ⟨n, by omega, q.1, rfl⟩⟩
      by_cases w : i = n
      · rw [w]; exact Nat.le_refl _
      · have := h2 i (by omega) pi
        omega
    · have e : mf_v P f c (n + 1) = mf_v P f c n := by
        show (if _ then _ else _) = _
        rw [if_neg q]
      rw [e]
      refine ⟨h1, fun i hi pi => ?_, ?_⟩
      · by_cases w : i = n
        · rw [w] at pi ⊢
          apply Classical.byContradiction
          intro z
          exact q ⟨pi, by omega⟩
        · exact h2 i (by omega) pi
      · rcases h3 with h3 | ⟨i, i1, i2, i3⟩
        · exact Or.inl h3
        · exact Or.inr ⟨i, by omega, i2, i3⟩

/-! points and lines: what lines keep together, and rounds that reach it -/
noncomputable def gr_b (P : Prop) : Bool := @decide P (Classical.propDecidable P)
theorem gr_bT {P : Prop} : gr_b P = true ↔ P := by
  unfold gr_b
  exact @decide_eq_true_iff P (Classical.propDecidable P)
theorem gr_bF {P : Prop} : gr_b P = false ↔ ¬ P := by
  unfold gr_b
  exact @decide_eq_false_iff_not P (Classical.propDecidable P)
theorem gr_bC {P Q : Prop} (h : P ↔ Q) : gr_b P = gr_b Q := by
  rw [propext h]
/-- S is kept whole by the lines of u between points of q -/
def gr_C (a b : Nat → Nat) (u q : Nat → Prop) (S : Nat → Prop) : Prop := ∀ k, u k → q (a k) → q (b k) → (S (a k) ↔ S (b k))
def gr_R (a b : Nat → Nat) (u q : Nat → Prop) (x y : Nat) : Prop := ∀ S : Nat → Prop, gr_C a b u q S → S x → S y
section
variable {a b : Nat → Nat} {u q : Nat → Prop}
theorem gr_rf (x : Nat) : gr_R a b u q x x := fun _ _ h => h
theorem gr_tr {x y z : Nat} (h : gr_R a b u q x y) (g : gr_R a b u q y z) : gr_R a b u q x z := fun S c s => g S c (h S c s)
theorem gr_sy {x y : Nat} (h : gr_R a b u q x y) : gr_R a b u q y x := by
  intro S c s
  apply Classical.byContradiction
  intro n
  exact h (fun p => ¬ S p) (fun k hk ha hb => not_congr (c k hk ha hb)) n s
theorem gr_ln {k : Nat} (hk : u k) (ha : q (a k)) (hb : q (b k)) : gr_R a b u q (a k) (b k) := fun _ c s => (c k hk ha hb).mp s
theorem gr_ln' {k : Nat} (hk : u k) (ha : q (a k)) (hb : q (b k)) : gr_R a b u q (b k) (a k) := fun _ c s => (c k hk ha hb).mpr s
theorem gr_RC (x : Nat) : gr_C a b u q (gr_R a b u q x) := fun k hk ha hb => ⟨fun h => gr_tr h (gr_ln hk ha hb), fun h => gr_tr h (gr_ln' hk ha hb)⟩
theorem gr_mono {v r : Nat → Prop} (hu : ∀ k, u k → q (a k) → q (b k) → v k ∧ r (a k) ∧ r (b k)) {x y : Nat} (h : gr_R a b u q x y) : gr_R a b v r x y := fun S c s => h S (fun k hk ha hb => c k (hu k hk ha hb).1 (hu k hk ha hb).2.1 (hu k hk ha hb).2.2) s
theorem gr_in (hq : ∀ k, u k → q (a k) → q (b k) → True) {x y : Nat} (h : gr_R a b u q x y) (hx : q x) : q y := h q (fun _ _ ha hb => ⟨fun _ => hb, fun _ => ha⟩) hx
end
/-! rounds -/
def gr_it (f : Nat → Nat) : Nat → Nat → Nat
  | 0, s => s
  | i + 1, s => f (gr_it f i s)
/-- f is a round: keeps what it has, reaches the other end of a line, reaches no more than it must; all within eight points -/
def gr_rd (a b : Nat → Nat) (u q : Nat → Prop) (f : Nat → Nat) : Prop :=
  (∀ s p, q p → s.testBit p = true → (f s).testBit p = true) ∧
  (∀ s k, u k → q (a k) → q (b k) → (s.testBit (a k) = true → (f s).testBit (b k) = true) ∧ (s.testBit (b k) = true → (f s).testBit (a k) = true)) ∧
  (∀ s (S : Nat → Prop), gr_C a b u q S → (∀ p, s.testBit p = true → q p ∧ S p) → ∀ p, (f s).testBit p = true → q p ∧ S p)
section
variable {a b : Nat → Nat} {u q : Nat → Prop} {f : Nat → Nat}
theorem gr_itS (h : gr_rd a b u q f) {s : Nat} (hs : ∀ p, s.testBit p = true → q p) {S : Nat → Prop} (c : gr_C a b u q S) (g : ∀ p, s.testBit p = true → S p) : ∀ i p, (gr_it f i s).testBit p = true → q p ∧ S p := by
  intro i
  induction i with
  | zero => intro p hp; exact ⟨hs p hp, g p hp⟩
  | succ i ih => exact h.2.2 _ S c ih
theorem gr_itG (h : gr_rd a b u q f) {s : Nat} (hs : ∀ p, s.testBit p = true → q p) : ∀ i p, s.testBit p = true → (gr_it f i s).testBit p = true := by
  intro i
  induction i with
  | zero => intro p hp; exact hp
  | succ i ih => intro p hp; exact h.1 _ p (hs p hp) (ih p hp)
theorem gr_itC (h : gr_rd a b u q f) (h8 : ∀ p, q p → p < 8) {s : Nat} (hs : ∀ p, s.testBit p = true → q p) : ∀ i, gr_C a b u q (fun p => (gr_it f i s).testBit p = true) ∨ mt_c (fun p => s.testBit p) 8 + i ≤ mt_c (fun p => (gr_it f i s).testBit p) 8 := by
  intro i
  induction i with
  | zero => exact Or.inr (Nat.le_refl _)
  | succ i ih =>
    have qi : ∀ p, (gr_it f i s).testBit p = true → q p := fun p hp => (gr_itS h hs (S := fun _ => True) (fun _ _ _ _ => Iff.rfl) (fun _ _ => trivial) i p hp).1
    by_cases c : gr_C a b u q (fun p => (gr_it f i s).testBit p = true)
    · left
      have e : ∀ p, (gr_it f (i + 1) s).testBit p = true ↔ (gr_it f i s).testBit p = true := by
        intro p
        constructor
        · intro hp
          exact (h.2.2 (gr_it f i s) _ c (fun p hp => ⟨qi p hp, hp⟩) p hp).2
        · intro hp
          exact h.1 _ p (qi p hp) hp
      intro k hk ha hb
      exact (e _).trans ((c k hk ha hb).trans (e _).symm)
    · right
      rcases ih with ih | ih
      · exact absurd ih c
      · have : ∃ x, x < 8 ∧ (gr_it f i s).testBit x = false ∧ (gr_it f (i + 1) s).testBit x = true := by
          apply Classical.byContradiction
          intro n
          apply c
          intro k hk ha hb
          have st := h.2.1 (gr_it f i s) k hk ha hb
          constructor
          · intro t
            apply Classical.byContradiction
            intro nt
            exact n ⟨b k, h8 _ hb, by simpa using nt, st.1 t⟩
          · intro t
            apply Classical.byContradiction
            intro nt
            exact n ⟨a k, h8 _ ha, by simpa using nt, st.2 t⟩
        obtain ⟨x, hx, x1, x2⟩ := this
        have := mt_c_lt (P := fun p => (gr_it f i s).testBit p) (Q := fun p => (gr_it f (i + 1) s).testBit p) 8 (fun p _ hp => h.1 _ p (qi p hp) hp) hx x1 x2
        omega
/-- seven rounds, or more, reach all that is to be reached -/
theorem gr_itT (h : gr_rd a b u q f) (h8 : ∀ p, q p → p < 8) {s : Nat} (hs : ∀ p, s.testBit p = true → q p) {i : Nat} (hi : 7 ≤ i) (p : Nat) : (gr_it f i s).testBit p = true ↔ ∃ x, s.testBit x = true ∧ gr_R a b u q x p := by
  have c : gr_C a b u q (fun p => (gr_it f i s).testBit p = true) := by
    rcases gr_itC h h8 hs i with c | c
    · exact c
    · by_cases z : mt_c (fun p => s.testBit p) 8 = 0
      · have e : ∀ p, ¬ s.testBit p = true := by
          intro p hp
          have := mt_c_z 8 z p (h8 p (hs p hp))
          rw [this] at hp
          cases hp
        have e' : ∀ p, ¬ (gr_it f i s).testBit p = true := fun p hp => (gr_itS h hs (S := fun _ => False) (fun _ _ _ _ => Iff.rfl) (fun p hp => e p hp) i p hp).2
        intro k _ _ _
        exact ⟨fun t => absurd t (e' _), fun t => absurd t (e' _)⟩
      · have f8 := mt_c_full (P := fun p => (gr_it f i s).testBit p) 8 (by omega)
        intro k hk ha hb
        exact ⟨fun _ => f8 _ (h8 _ hb), fun _ => f8 _ (h8 _ ha)⟩
  constructor
  · intro t
    refine (gr_itS h hs (S := fun p => ∃ x, s.testBit x = true ∧ gr_R a b u q x p) ?_ (fun p hp => ⟨p, hp, gr_rf p⟩) i p t).2
    intro k hk ha hb
    exact ⟨fun ⟨x, h1, h2⟩ => ⟨x, h1, gr_tr h2 (gr_ln hk ha hb)⟩, fun ⟨x, h1, h2⟩ => ⟨x, h1, gr_tr h2 (gr_ln' hk ha hb)⟩⟩
  · rintro ⟨x, h1, h2⟩
    exact h2 _ c (gr_itG h hs i x h1)
end

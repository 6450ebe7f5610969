/-! sets that no line leaves: two to the number of groups -/
theorem mt_inj : ∀ (n m : Nat) (P Q : Nat → Bool) (f : Nat → Nat), (∀ s, s < n → P s = true → f s < m ∧ Q (f s) = true) → (∀ s t, s < n → t < n → P s = true → P t = true → f s = f t → s = t) → mt_c P n ≤ mt_c Q m := by
  intro n
  induction n with
  | zero => intro m P Q f _ _; exact Nat.zero_le _
  | succ n ih =>
    intro m P Q f h1 h2
    rw [mt_cS]
    by_cases e : P n = true
    · rw [if_pos e]
      obtain ⟨x1, x2⟩ := h1 n (by omega) e
      have b := mt_c_but (P := Q) (Q := fun t => Q t && decide (t ≠ f n)) (f n) m x1 x2 (by simp) (fun i _ hi => by simp [hi])
      have c := ih m P (fun t => Q t && decide (t ≠ f n)) f (fun s hs ps => by
        obtain ⟨y1, y2⟩ := h1 s (by omega) ps
        refine ⟨y1, ?_⟩
        have : f s ≠ f n := by
          intro q
          have := h2 s n (by omega) (by omega) ps e q
          omega
        simp [y2, this]) (fun s t hs ht => h2 s t (by omega) (by omega))
      omega
    · rw [if_neg e]
      have c := ih m P Q f (fun s hs => h1 s (by omega)) (fun s t hs ht => h2 s t (by omega) (by omega))
      omega
/-- a mask out of a predicate -/
def gr_mk (P : Nat → Bool) : Nat → Nat
  | 0 => 0
  | n + 1 => gr_mk P n ||| (if P n = true then 2 ^ n else 0)
theorem gr_mkT (P : Nat → Bool) : ∀ n i, (gr_mk P n).testBit i = (decide (i < n) && P i) := by
  intro n
  induction n with
  | zero => intro i; simp [gr_mk]
  | succ n ih =>
    intro i
    show (gr_mk P n ||| (if P n = true then 2 ^ n else 0)).testBit i = _
    rw [Nat.testBit_or, ih]
    by_cases e : i = n
    · subst e
      by_cases p : P i = true
      · rw [if_pos p, Nat.testBit_two_pow_self, p]; simp
      · rw [if_neg p]
        have : P i = false := by simpa using p
        rw [this]; simp
    · have : (if P n = true then 2 ^ n else 0).testBit i = false := by
        split
        · exact Nat.testBit_two_pow_of_ne (fun q => e q.symm)
        · exact Nat.zero_testBit i
      rw [this, Bool.or_false]
      have : decide (i < n) = decide (i < n + 1) := by
        by_cases c : i < n
        · rw [decide_eq_true c, decide_eq_true (by omega)]
        · rw [decide_eq_false c, decide_eq_false (by omega)]
      rw [this]
theorem gr_mkL (P : Nat → Bool) : ∀ n, gr_mk P n < 2 ^ n := by
  intro n
  induction n with
  | zero => show 0 < 1; omega
  | succ n ih =>
    show gr_mk P n ||| (if P n = true then 2 ^ n else 0) < 2 ^ (n + 1)
    have e : 2 ^ (n + 1) = 2 ^ n + 2 ^ n := by rw [Nat.pow_succ]; omega
    have p : 0 < 2 ^ n := Nat.two_pow_pos n
    apply Nat.or_lt_two_pow
    · omega
    · split <;> omega
/-- the subsets of a set -/
theorem gr_sub (M : Nat → Prop) : ∀ k, mt_c (fun t => gr_b (∀ p, t.testBit p = true → M p)) (2 ^ k) = 2 ^ (mt_c (fun p => gr_b (M p)) k) := by
  intro k
  induction k with
  | zero =>
    show 0 + (if gr_b (∀ p, Nat.testBit 0 p = true → M p) = true then 1 else 0) = 1
    rw [if_pos (gr_bT.mpr (fun p h => by rw [Nat.zero_testBit] at h; cases h))]
  | succ k ih =>
    have e : 2 ^ (k + 1) = 2 ^ k + 2 ^ k := by rw [Nat.pow_succ]; omega
    have bt : ∀ t, t < 2 ^ k → ∀ p, (2 ^ k + t).testBit p = true ↔ (p = k ∨ t.testBit p = true) := by
      intro t ht p
      by_cases c : p = k
      · subst c
        rw [Nat.testBit_two_pow_add_eq, Nat.testBit_lt_two_pow ht]
        simp
      · by_cases d : p < k
        · rw [Nat.testBit_two_pow_add_gt d]
          exact ⟨Or.inr, fun h => h.elim (fun q => absurd q c) id⟩
        · have w : 2 ^ (k + 1) ≤ 2 ^ p := Nat.pow_le_pow_right (by omega) (by omega)
          rw [Nat.testBit_lt_two_pow (by omega), Nat.testBit_lt_two_pow (by omega)]
          exact ⟨fun q => (by cases q), fun q => q.elim (fun q => absurd q c) id⟩
    rw [e, mt_c_add, ih, mt_cS]
    by_cases m : M k
    · rw [if_pos (gr_bT.mpr m), Nat.pow_succ]
      have : mt_c (fun i => gr_b (∀ p, (2 ^ k + i).testBit p = true → M p)) (2 ^ k) = 2 ^ (mt_c (fun p => gr_b (M p)) k) := by
        rw [← ih]
        apply mt_c_congr
        intro t ht
        apply gr_bC
        constructor
        · intro h p hp
          exact h p ((bt t ht p).mpr (Or.inr hp))
        · intro h p hp
          rcases (bt t ht p).mp hp with q | q
          · rw [q]; exact m
          · exact h p q
      rw [this]
      omega
    · have z : mt_c (fun i => gr_b (∀ p, (2 ^ k + i).testBit p = true → M p)) (2 ^ k) = 0 := mt_c_0 _ (fun t ht => gr_bF.mpr (fun h => m (h k ((bt t ht k).mpr (Or.inl rfl)))))
      rw [if_neg (fun q => m (gr_bT.mp q)), z]
      rfl
theorem gr_cs {a b : Nat → Nat} {u q : Nat → Prop} (q8 : ∀ p, q p → p < 8) : mt_c (fun s => gr_b ((∀ p, s.testBit p = true → q p) ∧ gr_C a b u q (fun p => s.testBit p = true))) 256 = 2 ^ (gr_n (gr_R a b u q) q) := by
  have E := gr_RE a b u q
  have s := gr_sub (gr_l (gr_R a b u q) q) 8
  have s' : mt_c (fun t => gr_b (∀ p, t.testBit p = true → gr_l (gr_R a b u q) q p)) 256 = 2 ^ (gr_n (gr_R a b u q) q) := s
  rw [← s']
  apply Nat.le_antisymm
  · apply mt_inj 256 256 _ _ (fun s => gr_mk (fun p => s.testBit p && gr_b (gr_l (gr_R a b u q) q p)) 8)
    · intro s hs h
      refine ⟨gr_mkL _ 8, gr_bT.mpr (fun p hp => ?_)⟩
      rw [gr_mkT] at hp
      simp only [Bool.and_eq_true] at hp
      exact gr_bT.mp hp.2.2
    · intro s t hs ht h1 h2 e
      have h1 := gr_bT.mp h1
      have h2 := gr_bT.mp h2
      have half : ∀ s t : Nat, ((∀ p, s.testBit p = true → q p) ∧ gr_C a b u q (fun p => s.testBit p = true)) → ((∀ p, t.testBit p = true → q p) ∧ gr_C a b u q (fun p => t.testBit p = true)) → gr_mk (fun p => s.testBit p && gr_b (gr_l (gr_R a b u q) q p)) 8 = gr_mk (fun p => t.testBit p && gr_b (gr_l (gr_R a b u q) q p)) 8 → ∀ p, s.testBit p = true → t.testBit p = true := by
        intro s t h1 h2 e p hp
        obtain ⟨y, _, ly, ry⟩ := gr_lex (R := gr_R a b u q) (q := q) E (h1.1 p hp)
        have sy : s.testBit y = true := gr_sy ry _ h1.2 hp
        have : (gr_mk (fun p => s.testBit p && gr_b (gr_l (gr_R a b u q) q p)) 8).testBit y = true := by
          rw [gr_mkT, decide_eq_true (q8 y ly.1), sy, gr_bT.mpr ly]
          rfl
        rw [e, gr_mkT] at this
        simp only [Bool.and_eq_true] at this
        exact ry _ h2.2 this.2.1
      apply Nat.eq_of_testBit_eq
      intro p
      have x := half s t h1 h2 e p
      have y := half t s h2 h1 e.symm p
      cases hs' : s.testBit p <;> cases ht' : t.testBit p <;> simp_all
  · apply mt_inj 256 256 _ _ (fun t => gr_mk (fun p => gr_b (q p ∧ ∃ x, t.testBit x = true ∧ gr_R a b u q x p)) 8)
    · intro t ht h
      have h := gr_bT.mp h
      refine ⟨gr_mkL _ 8, gr_bT.mpr ⟨fun p hp => ?_, ?_⟩⟩
      · rw [gr_mkT] at hp
        simp only [Bool.and_eq_true] at hp
        exact (gr_bT.mp hp.2).1
      · intro k hk ha hb
        dsimp only
        rw [gr_mkT, gr_mkT, decide_eq_true (q8 _ ha), decide_eq_true (q8 _ hb), Bool.true_and, Bool.true_and, gr_bT, gr_bT]
        exact ⟨fun ⟨_, x, h1, h2⟩ => ⟨hb, x, h1, gr_tr h2 (gr_ln hk ha hb)⟩, fun ⟨_, x, h1, h2⟩ => ⟨ha, x, h1, gr_tr h2 (gr_ln' hk ha hb)⟩⟩
    · intro s t hs ht h1 h2 e
      have h1 := gr_bT.mp h1
      have h2 := gr_bT.mp h2
      have half : ∀ s t : Nat, (∀ p, s.testBit p = true → gr_l (gr_R a b u q) q p) → (∀ p, t.testBit p = true → gr_l (gr_R a b u q) q p) → gr_mk (fun p => gr_b (q p ∧ ∃ x, s.testBit x = true ∧ gr_R a b u q x p)) 8 = gr_mk (fun p => gr_b (q p ∧ ∃ x, t.testBit x = true ∧ gr_R a b u q x p)) 8 → ∀ p, s.testBit p = true → t.testBit p = true := by
        intro s t h1 h2 e p hp
        have lp := h1 p hp
        have : (gr_mk (fun p => gr_b (q p ∧ ∃ x, s.testBit x = true ∧ gr_R a b u q x p)) 8).testBit p = true := by
          rw [gr_mkT, decide_eq_true (q8 p lp.1), gr_bT.mpr ⟨lp.1, p, hp, gr_rf p⟩]
          rfl
        rw [e, gr_mkT] at this
        simp only [Bool.and_eq_true] at this
        obtain ⟨_, x, x1, x2⟩ := gr_bT.mp this.2
        have lx := h2 x x1
        have : x = p := by
          apply Classical.byContradiction
          intro ne
          by_cases c : x < p
          · exact lp.2 x c lx.1 x2
          · exact lx.2 p (by omega) lp.1 (gr_sy x2)
        rw [← this]
        exact x1
      apply Nat.eq_of_testBit_eq
      intro p
      have x := half s t h1 h2 e p
      have y := half t s h2 h1 e.symm p
      cases hs' : s.testBit p <;> cases ht' : t.testBit p <;> simp_all
/-! distances -/
def gr_D (A : Nat → Nat → Prop) : Nat → Nat → Nat → Prop
  | 0, x, y => x = y
  | i + 1, x, y => gr_D A i x y ∨ ∃ z, gr_D A i x z ∧ A z y
theorem gr_Dl {A : Nat → Nat → Prop} : ∀ i x z y, A x z → gr_D A i z y → gr_D A (i + 1) x y := by
  intro i
  induction i with
  | zero =>
    intro x z y h e
    have e : z = y := e
    exact Or.inr ⟨x, rfl, e ▸ h⟩
  | succ i ih =>
    intro x z y h e
    rcases e with e | ⟨w, e1, e2⟩
    · exact Or.inl (ih x z y h e)
    · exact Or.inr ⟨w, ih x z w h e1, e2⟩
theorem gr_Ds {A : Nat → Nat → Prop} (sy : ∀ x y, A x y → A y x) : ∀ i x y, gr_D A i x y → gr_D A i y x := by
  intro i
  induction i with
  | zero => intro x y e; exact Eq.symm e
  | succ i ih =>
    intro x y e
    rcases e with e | ⟨w, e1, e2⟩
    · exact Or.inl (ih x y e)
    · exact gr_Dl i y w x (sy _ _ e2) (ih x w e1)

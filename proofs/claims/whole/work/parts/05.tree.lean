/-! Kirchhoff's table by labels: deletion and contraction, and the count of sets of lines -/
section
variable (on : Nat → Bool) (a b : Nat → Nat)
/-- how line k stands at point i, seen by labels -/
def mt_bt (ρ : Nat → Nat) (k i : Nat) : Int := dt_dl (ρ (a k)) i - dt_dl (ρ (b k)) i
/-- the table of the lines before k; a point that isn't its own label has the unit's row -/
def mt_L (ρ : Nat → Nat) : Nat → Nat → Nat → Int
  | 0, i, j => if i = j ∧ ρ i ≠ i then 1 else 0
  | k + 1, i, j => mt_L ρ k i j + (if on k then mt_bt a b ρ k i * mt_bt a b ρ k j else 0)
def mt_mg (ρ : Nat → Nat) (x y i : Nat) : Nat := if ρ i = x then y else ρ i
def mt_V (m : Nat) (ρ : Nat → Nat) : Prop := (∀ i, ρ (ρ i) = ρ i) ∧ ∀ i, ρ i ≤ m
theorem mt_mgV {m : Nat} {ρ : Nat → Nat} (h : mt_V m ρ) {x y : Nat} (hy : ρ y = y) (hx : ρ x = x) (hxy : x ≠ y) (ym : y ≤ m) : mt_V m (mt_mg ρ x y) := by
  refine ⟨fun i => ?_, fun i => ?_⟩
  · unfold mt_mg
    by_cases e : ρ i = x
    · rw [if_pos e, hy, if_neg (fun q => hxy q.symm)]
    · rw [if_neg e, h.1 i, if_neg e]
  · unfold mt_mg
    split
    · exact ym
    · exact h.2 i
theorem mt_mgB (ρ : Nat → Nat) {x y : Nat} (k i : Nat) (hi : i ≠ x) : mt_bt a b (mt_mg ρ x y) k i = mt_bt a b ρ k i + dt_dl y i * mt_bt a b ρ k x := by
  have s : ∀ p, dt_dl (mt_mg ρ x y p) i = dt_dl (ρ p) i + dt_dl y i * dt_dl (ρ p) x := by
    intro p
    unfold mt_mg
    by_cases e : ρ p = x
    · rw [if_pos e, e, dt_dl1, dt_dl0 hi]; omega
    · rw [if_neg e, dt_dl0 (x := ρ p) (i := x) (fun q => e q.symm)]; omega
  unfold mt_bt
  rw [s, s]
  grind
theorem mt_mgX (ρ : Nat → Nat) {x y : Nat} (hxy : x ≠ y) (k : Nat) : mt_bt a b (mt_mg ρ x y) k x = 0 := by
  have s : ∀ p, dt_dl (mt_mg ρ x y p) x = 0 := by
    intro p
    unfold mt_mg
    by_cases e : ρ p = x
    · rw [if_pos e, dt_dl0 hxy]
    · rw [if_neg e, dt_dl0 (fun q => e q.symm)]
  unfold mt_bt
  rw [s, s]
  rfl
theorem mt_mgL (ρ : Nat → Nat) {x y : Nat} (hy : ρ y = y) (hx : ρ x = x) (hxy : x ≠ y) : ∀ k i j, mt_L on a b (mt_mg ρ x y) k i j = dt_con (mt_L on a b ρ k) x y i j := by
  intro k
  induction k with
  | zero =>
    intro i j
    unfold dt_con
    show (if i = j ∧ mt_mg ρ x y i ≠ i then (1 : Int) else 0) = _
    by_cases h : i = x ∨ j = x
    · rw [if_pos h]
      by_cases e : i = j
      · have : mt_mg ρ x y i ≠ i := by
          have : i = x := by omega
          rw [this]
          unfold mt_mg
          rw [if_pos hx]
          exact fun q => hxy q.symm
        rw [if_pos ⟨e, this⟩, if_pos e]
      · rw [if_neg (fun q => e q.1), if_neg e]
    · rw [if_neg h]
      have hi : i ≠ x := fun q => h (Or.inl q)
      have hj : j ≠ x := fun q => h (Or.inr q)
      have z1 : mt_L on a b ρ 0 i x = 0 := by
        show (if i = x ∧ ρ i ≠ i then (1 : Int) else 0) = 0
        rw [if_neg (fun q => hi q.1)]
      have z2 : mt_L on a b ρ 0 x j = 0 := by
        show (if x = j ∧ ρ x ≠ x then (1 : Int) else 0) = 0
        rw [if_neg (fun q => hj q.1.symm)]
      have z3 : mt_L on a b ρ 0 x x = 0 := by
        show (if x = x ∧ ρ x ≠ x then (1 : Int) else 0) = 0
        rw [if_neg (fun q => q.2 hx)]
      have e : (mt_mg ρ x y i ≠ i) ↔ (ρ i ≠ i) := by
        unfold mt_mg
        by_cases e : ρ i = x
        · rw [if_pos e]
          constructor
          · intro _ q; rw [q] at e; exact hi e
          · intro _ q; rw [← q, hy] at e; exact hxy e.symm
        · rw [if_neg e]
      rw [z1, z2, z3]
      show _ = (if i = j ∧ ρ i ≠ i then (1 : Int) else 0) + _ + _
      by_cases f : i = j ∧ ρ i ≠ i
      · rw [if_pos f, if_pos ⟨f.1, e.mpr f.2⟩]; simp
      · rw [if_neg f, if_neg (fun q => f ⟨q.1, e.mp q.2⟩)]; simp
  | succ k ih =>
    intro i j
    show mt_L on a b (mt_mg ρ x y) k i j + (if on k then mt_bt a b (mt_mg ρ x y) k i * mt_bt a b (mt_mg ρ x y) k j else 0) = _
    rw [ih]
    unfold dt_con
    show _ = (if i = x ∨ j = x then (if i = j then (1 : Int) else 0) else (mt_L on a b ρ k i j + (if on k then mt_bt a b ρ k i * mt_bt a b ρ k j else 0)) + dt_dl y j * (mt_L on a b ρ k i x + (if on k then mt_bt a b ρ k i * mt_bt a b ρ k x else 0)) + dt_dl y i * ((mt_L on a b ρ k x j + (if on k then mt_bt a b ρ k x * mt_bt a b ρ k j else 0)) + dt_dl y j * (mt_L on a b ρ k x x + (if on k then mt_bt a b ρ k x * mt_bt a b ρ k x else 0))))
    by_cases h : i = x ∨ j = x
    · rw [if_pos h, if_pos h]
      have z : mt_bt a b (mt_mg ρ x y) k i * mt_bt a b (mt_mg ρ x y) k j = 0 := by
        rcases h with h | h
        · rw [h, mt_mgX a b ρ hxy, Int.zero_mul]
        · rw [h, mt_mgX a b ρ hxy, Int.mul_zero]
      rw [z]
      split <;> omega
    · rw [if_neg h, if_neg h]
      rw [mt_mgB a b ρ k i (fun q => h (Or.inl q)), mt_mgB a b ρ k j (fun q => h (Or.inr q))]
      by_cases o : on k
      · rw [if_pos o, if_pos o, if_pos o, if_pos o, if_pos o]; grind
      · rw [if_neg o, if_neg o, if_neg o, if_neg o, if_neg o]; grind
/-- the number of sets of lines before k that join all labels, by deletion and contraction -/
def mt_x (m : Nat) (ρ : Nat → Nat) (k : Nat) : Nat := if ρ (a k) < m then ρ (a k) else ρ (b k)
def mt_y (m : Nat) (ρ : Nat → Nat) (k : Nat) : Nat := if ρ (a k) < m then ρ (b k) else ρ (a k)
def mt_N (m : Nat) : Nat → (Nat → Nat) → Nat
  | 0, ρ => if (∀ i, i < m → ρ i ≠ i) then 1 else 0
  | k + 1, ρ => mt_N m k ρ + (if on k = true ∧ ρ (a k) ≠ ρ (b k) then mt_N m k (mt_mg ρ (mt_x a b m ρ k) (mt_y a b m ρ k)) else 0)
theorem mt_xy {m : Nat} {ρ : Nat → Nat} (h : mt_V m ρ) {k : Nat} (e : ρ (a k) ≠ ρ (b k)) : mt_x a b m ρ k < m ∧ mt_x a b m ρ k ≠ mt_y a b m ρ k ∧ ρ (mt_x a b m ρ k) = mt_x a b m ρ k ∧ ρ (mt_y a b m ρ k) = mt_y a b m ρ k ∧ mt_y a b m ρ k ≤ m := by
  have ha := h.2 (a k)
  have hb := h.2 (b k)
  unfold mt_x mt_y
  by_cases c : ρ (a k) < m
  · rw [if_pos c, if_pos c]
    exact ⟨c, e, h.1 _, h.1 _, hb⟩
  · rw [if_neg c, if_neg c]
    exact ⟨by omega, fun q => e q.symm, h.1 _, h.1 _, ha⟩
theorem mt_tree (m : Nat) : ∀ (k : Nat) (ρ : Nat → Nat), mt_V m ρ → dt_d m (mt_L on a b ρ k) = (mt_N on a b m k ρ : Int) := by
  intro k
  induction k with
  | zero =>
    intro ρ h
    unfold mt_N
    by_cases c : ∀ i, i < m → ρ i ≠ i
    · rw [if_pos c]
      refine dt_id m _ (fun i j hi hj => ?_)
      show (if i = j ∧ ρ i ≠ i then (1 : Int) else 0) = _
      by_cases e : i = j
      · rw [if_pos ⟨e, c i hi⟩, if_pos e]
      · rw [if_neg (fun q => e q.1), if_neg e]
    · rw [if_neg c]
      have : ∃ i, i < m ∧ ρ i = i := by
        apply Classical.byContradiction
        intro q
        exact c (fun i hi e => q ⟨i, hi, e⟩)
      obtain ⟨i, hi, e⟩ := this
      refine dt_row0 m i _ hi (fun j hj => ?_)
      show (if i = j ∧ ρ i ≠ i then (1 : Int) else 0) = 0
      rw [if_neg (fun q => q.2 e)]
  | succ k ih =>
    intro ρ h
    show dt_d m (mt_L on a b ρ (k + 1)) = ((mt_N on a b m k ρ + (if on k = true ∧ ρ (a k) ≠ ρ (b k) then mt_N on a b m k (mt_mg ρ (mt_x a b m ρ k) (mt_y a b m ρ k)) else 0) : Nat) : Int)
    by_cases c : on k = true ∧ ρ (a k) ≠ ρ (b k)
    · obtain ⟨h1, h2, h3, h4, h5⟩ := mt_xy a b h c.2
      rw [if_pos c, Int.natCast_add, ← ih ρ h, ← ih _ (mt_mgV h h4 h3 h2 h5)]
      have e : mt_L on a b (mt_mg ρ (mt_x a b m ρ k) (mt_y a b m ρ k)) k = dt_con (mt_L on a b ρ k) (mt_x a b m ρ k) (mt_y a b m ρ k) := by
        funext i j
        exact mt_mgL on a b ρ h4 h3 h2 k i j
      rw [e]
      apply dt_delcon _ _ h1 h2
      intro i j
      show mt_L on a b ρ k i j + (if on k = true then mt_bt a b ρ k i * mt_bt a b ρ k j else 0) = _
      rw [if_pos c.1]
      unfold mt_bt mt_x mt_y
      by_cases c : ρ (a k) < m
      · rw [if_pos c, if_pos c]
      · rw [if_neg c, if_neg c]; grind
    · rw [if_neg c]
      show dt_d m (mt_L on a b ρ (k + 1)) = ((mt_N on a b m k ρ : Nat) : Int)
      rw [← ih ρ h]
      apply dt_congr
      intro i j hi hj
      show mt_L on a b ρ k i j + (if on k = true then mt_bt a b ρ k i * mt_bt a b ρ k j else 0) = _
      by_cases o : on k = true
      · have e : ρ (a k) = ρ (b k) := by
          apply Classical.byContradiction
          intro q
          exact c ⟨o, q⟩
        rw [if_pos o]
        unfold mt_bt
        rw [e]
        simp
      · rw [if_neg o]; omega
/-- fewer labels: if the finer labels can be joined, so can the coarser -/
theorem mt_mono {m d : Nat} : ∀ (k : Nat) (ρ σ : Nat → Nat), mt_V m ρ → mt_V d σ → ρ m = m → σ d = d → (∀ i j, ρ i = ρ j → σ i = σ j) → 0 < mt_N on a b m k ρ → 0 < mt_N on a b d k σ := by
  intro k
  induction k with
  | zero =>
    intro ρ σ h g hm hd c p
    unfold mt_N at p ⊢
    by_cases z : ∀ i, i < m → ρ i ≠ i
    · rw [if_pos]
      · omega
      · have all : ∀ i, ρ i = m := by
          intro i
          apply Classical.byContradiction
          intro q
          have := h.2 i
          exact z (ρ i) (by omega) (h.1 i)
        intro i hi e
        have := c i d (by rw [all, all])
        omega
    · rw [if_neg z] at p
      omega
  | succ k ih =>
    intro ρ σ h g hm hd c p
    have p' : 0 < mt_N on a b m k ρ + (if on k = true ∧ ρ (a k) ≠ ρ (b k) then mt_N on a b m k (mt_mg ρ (mt_x a b m ρ k) (mt_y a b m ρ k)) else 0) := p
    show 0 < mt_N on a b d k σ + (if on k = true ∧ σ (a k) ≠ σ (b k) then mt_N on a b d k (mt_mg σ (mt_x a b d σ k) (mt_y a b d σ k)) else 0)
    by_cases q : 0 < mt_N on a b m k ρ
    · have := ih ρ σ h g hm hd c q
      omega
    · by_cases c1 : on k = true ∧ ρ (a k) ≠ ρ (b k)
      · rw [if_pos c1] at p'
        obtain ⟨h1, h2, h3, h4, h5⟩ := mt_xy a b h c1.2
        have hv := mt_mgV h h4 h3 h2 h5
        have hm' : mt_mg ρ (mt_x a b m ρ k) (mt_y a b m ρ k) m = m := by
          unfold mt_mg
          rw [hm, if_neg (by omega)]
        -- how the merged labels compare
        have mm : ∀ (τ : Nat → Nat) (i : Nat), mt_mg ρ (mt_x a b m ρ k) (mt_y a b m ρ k) i = mt_y a b m ρ k ∨ mt_mg ρ (mt_x a b m ρ k) (mt_y a b m ρ k) i = ρ i := by
          intro τ i
          unfold mt_mg
          split
          · exact Or.inl rfl
          · exact Or.inr rfl
        have key : ∀ τ : Nat → Nat, (∀ i j, ρ i = ρ j → τ i = τ j) → τ (a k) = τ (b k) → ∀ i j, mt_mg ρ (mt_x a b m ρ k) (mt_y a b m ρ k) i = mt_mg ρ (mt_x a b m ρ k) (mt_y a b m ρ k) j → τ i = τ j := by
          intro τ ct eq
          have txy : ∀ i, ρ i = mt_x a b m ρ k ∨ ρ i = mt_y a b m ρ k → τ i = τ (a k) := by
            intro i hi
            unfold mt_x mt_y at hi
            by_cases w : ρ (a k) < m
            · rw [if_pos w, if_pos w] at hi
              rcases hi with hi | hi
              · exact ct _ _ hi
              · rw [eq]; exact ct _ _ hi
            · rw [if_neg w, if_neg w] at hi
              rcases hi with hi | hi
              · rw [eq]; exact ct _ _ hi
              · exact ct _ _ hi
          intro i j e
          unfold mt_mg at e
          by_cases ei : ρ i = mt_x a b m ρ k
          · rw [if_pos ei] at e
            by_cases ej : ρ j = mt_x a b m ρ k
            · rw [txy i (Or.inl ei), txy j (Or.inl ej)]
            · rw [if_neg ej] at e
              rw [txy i (Or.inl ei), txy j (Or.inr e.symm)]
          · rw [if_neg ei] at e
            by_cases ej : ρ j = mt_x a b m ρ k
            · rw [if_pos ej] at e
              rw [txy i (Or.inr e), txy j (Or.inl ej)]
            · rw [if_neg ej] at e
              exact ct _ _ e
        by_cases c2 : σ (a k) = σ (b k)
        · have := ih _ σ hv g hm' hd (key σ c c2) (by omega)
          omega
        · obtain ⟨g1, g2, g3, g4, g5⟩ := mt_xy a b g c2
          have gv := mt_mgV g g4 g3 g2 g5
          have hd' : mt_mg σ (mt_x a b d σ k) (mt_y a b d σ k) d = d := by
            unfold mt_mg
            rw [hd, if_neg (by omega)]
          rw [if_pos ⟨c1.1, c2⟩]
          have := ih _ _ hv gv hm' hd' (key (mt_mg σ (mt_x a b d σ k) (mt_y a b d σ k)) (fun i j e => by unfold mt_mg; rw [c i j e]) (by
            unfold mt_mg mt_x mt_y
            by_cases w : σ (a k) < d
            · rw [if_pos w, if_pos w, if_pos rfl, if_neg (fun q => c2 q.symm)]
            · rw [if_neg w, if_neg w, if_neg c2, if_pos rfl])) (by omega)
          omega
      · rw [if_neg c1] at p'
        omega
end

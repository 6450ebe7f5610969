/-! the count by deletion and contraction is the count over masks -/
section
variable (on : Nat → Bool) (a b : Nat → Nat)
/-- set s, lines before k from above: each joins two labels, and in the end all are joined -/
def mt_ok (m s : Nat) : Nat → (Nat → Nat) → Bool
  | 0, ρ => decide (∀ i, i < m → ρ i ≠ i)
  | k + 1, ρ => if s.testBit k = true then (decide (on k = true ∧ ρ (a k) ≠ ρ (b k)) && mt_ok m s k (mt_mg ρ (mt_x a b m ρ k) (mt_y a b m ρ k))) else mt_ok m s k ρ
theorem mt_ok_congr (m : Nat) : ∀ (k s t : Nat) (ρ : Nat → Nat), (∀ j, j < k → s.testBit j = t.testBit j) → mt_ok on a b m s k ρ = mt_ok on a b m t k ρ := by
  intro k
  induction k with
  | zero => intro s t ρ _; rfl
  | succ k ih =>
    intro s t ρ h
    unfold mt_ok
    rw [h k (by omega), ih s t ρ (fun j hj => h j (by omega)), ih s t _ (fun j hj => h j (by omega))]
theorem mt_NC (m : Nat) : ∀ (k : Nat) (ρ : Nat → Nat), mt_N on a b m k ρ = mt_c (fun s => mt_ok on a b m s k ρ) (2 ^ k) := by
  intro k
  induction k with
  | zero =>
    intro ρ
    show (if (∀ i, i < m → ρ i ≠ i) then 1 else 0) = 0 + (if decide (∀ i, i < m → ρ i ≠ i) = true then 1 else 0)
    by_cases c : ∀ i, i < m → ρ i ≠ i
    · rw [if_pos c, if_pos (decide_eq_true c)]
    · rw [if_neg c, if_neg (by simpa using c)]
  | succ k ih =>
    intro ρ
    have e : 2 ^ (k + 1) = 2 ^ k + 2 ^ k := by rw [Nat.pow_succ]; omega
    rw [e, mt_c_add]
    have l : mt_c (fun s => mt_ok on a b m s (k + 1) ρ) (2 ^ k) = mt_N on a b m k ρ := by
      rw [ih]
      apply mt_c_congr
      intro s hs
      have t : s.testBit k = false := Nat.testBit_lt_two_pow hs
      show (if s.testBit k = true then _ else mt_ok on a b m s k ρ) = mt_ok on a b m s k ρ
      rw [t]
      rfl
    have bt : ∀ s, s < 2 ^ k → (2 ^ k + s).testBit k = true := by
      intro s hs
      rw [Nat.testBit_two_pow_add_eq, Nat.testBit_lt_two_pow hs]
      rfl
    have lo : ∀ s j, j < k → (2 ^ k + s).testBit j = s.testBit j := by
      intro s j hj
      exact Nat.testBit_two_pow_add_gt hj s
    rw [l]
    show mt_N on a b m k ρ + (if on k = true ∧ ρ (a k) ≠ ρ (b k) then mt_N on a b m k (mt_mg ρ (mt_x a b m ρ k) (mt_y a b m ρ k)) else 0) = _
    congr 1
    by_cases c : on k = true ∧ ρ (a k) ≠ ρ (b k)
    · rw [if_pos c, ih]
      apply mt_c_congr
      intro s hs
      show _ = (if (2 ^ k + s).testBit k = true then (decide (on k = true ∧ ρ (a k) ≠ ρ (b k)) && mt_ok on a b m (2 ^ k + s) k (mt_mg ρ (mt_x a b m ρ k) (mt_y a b m ρ k))) else mt_ok on a b m (2 ^ k + s) k ρ)
      rw [if_pos (bt s hs), decide_eq_true c, Bool.true_and]
      exact mt_ok_congr on a b m k _ _ _ (fun j hj => (lo s j hj).symm)
    · rw [if_neg c, mt_c_0]
      intro s hs
      show (if (2 ^ k + s).testBit k = true then (decide (on k = true ∧ ρ (a k) ≠ ρ (b k)) && mt_ok on a b m (2 ^ k + s) k (mt_mg ρ (mt_x a b m ρ k) (mt_y a b m ρ k))) else mt_ok on a b m (2 ^ k + s) k ρ) = false
      rw [if_pos (bt s hs), decide_eq_false c, Bool.false_and]
/-- the labels after the lines of s before k -/
def mt_F (m s : Nat) : Nat → (Nat → Nat) → (Nat → Nat)
  | 0, ρ => ρ
  | k + 1, ρ => mt_F m s k (if s.testBit k = true ∧ ρ (a k) ≠ ρ (b k) then mt_mg ρ (mt_x a b m ρ k) (mt_y a b m ρ k) else ρ)
def mt_lv (m : Nat) (ρ : Nat → Nat) : Nat := mt_c (fun i => decide (ρ i = i)) m
def mt_pk (s k : Nat) : Nat := mt_c (fun j => s.testBit j) k
theorem mt_lvm {m : Nat} {ρ : Nat → Nat} {x y : Nat} (hx : x < m) (h2 : x ≠ y) (h3 : ρ x = x) (h4 : ρ y = y) : mt_lv m (mt_mg ρ x y) + 1 = mt_lv m ρ := by
  unfold mt_lv
  apply mt_c_but x m hx
  · exact decide_eq_true h3
  · apply decide_eq_false
    unfold mt_mg
    rw [if_pos h3]
    exact fun q => h2 q.symm
  · intro i hi hn
    unfold mt_mg
    by_cases e : ρ i = x
    · rw [if_pos e]
      have n1 : ¬ y = i := by intro q; rw [← q, h4] at e; exact h2 e.symm
      have n2 : ¬ ρ i = i := by intro q; rw [q] at e; exact hn e
      rw [decide_eq_false n1, decide_eq_false n2]
    · rw [if_neg e]
theorem mt_st {m : Nat} {ρ : Nat → Nat} (h : mt_V m ρ) (hm : ρ m = m) (s k : Nat) : mt_V m (if s.testBit k = true ∧ ρ (a k) ≠ ρ (b k) then mt_mg ρ (mt_x a b m ρ k) (mt_y a b m ρ k) else ρ) ∧ (if s.testBit k = true ∧ ρ (a k) ≠ ρ (b k) then mt_mg ρ (mt_x a b m ρ k) (mt_y a b m ρ k) else ρ) m = m := by
  by_cases c : s.testBit k = true ∧ ρ (a k) ≠ ρ (b k)
  · obtain ⟨h1, h2, h3, h4, h5⟩ := mt_xy a b h c.2
    rw [if_pos c]
    refine ⟨mt_mgV h h4 h3 h2 h5, ?_⟩
    unfold mt_mg
    rw [hm, if_neg (by omega)]
  · rw [if_neg c]
    exact ⟨h, hm⟩
theorem mt_FV (m s : Nat) : ∀ (k : Nat) (ρ : Nat → Nat), mt_V m ρ → ρ m = m → mt_V m (mt_F a b m s k ρ) ∧ mt_F a b m s k ρ m = m := by
  intro k
  induction k with
  | zero => intro ρ h hm; exact ⟨h, hm⟩
  | succ k ih =>
    intro ρ h hm
    obtain ⟨h1, h2⟩ := mt_st a b h hm s k
    exact ih _ h1 h2
theorem mt_Flv (m s : Nat) : ∀ (k : Nat) (ρ : Nat → Nat), mt_V m ρ → ρ m = m → mt_lv m ρ ≤ mt_lv m (mt_F a b m s k ρ) + mt_pk s k := by
  intro k
  induction k with
  | zero => intro ρ h hm; exact Nat.le_refl _
  | succ k ih =>
    intro ρ h hm
    obtain ⟨h1, h2⟩ := mt_st a b h hm s k
    have q := ih _ h1 h2
    show mt_lv m ρ ≤ mt_lv m (mt_F a b m s k (if s.testBit k = true ∧ ρ (a k) ≠ ρ (b k) then mt_mg ρ (mt_x a b m ρ k) (mt_y a b m ρ k) else ρ)) + (mt_pk s k + (if s.testBit k = true then 1 else 0))
    by_cases c : s.testBit k = true ∧ ρ (a k) ≠ ρ (b k)
    · obtain ⟨g1, g2, g3, g4, g5⟩ := mt_xy a b h c.2
      have := mt_lvm g1 g2 g3 g4
      rw [if_pos c] at q ⊢
      rw [if_pos c.1]
      omega
    · rw [if_neg c] at q ⊢
      omega
theorem mt_okI (m s : Nat) : ∀ (k : Nat) (ρ : Nat → Nat), mt_V m ρ → ρ m = m → (mt_ok on a b m s k ρ = true ↔ (∀ j, j < k → s.testBit j = true → on j = true) ∧ mt_pk s k = mt_lv m ρ ∧ ∀ i, i < m → mt_F a b m s k ρ i ≠ i) := by
  intro k
  induction k with
  | zero =>
    intro ρ h hm
    show decide (∀ i, i < m → ρ i ≠ i) = true ↔ _
    rw [decide_eq_true_iff]
    constructor
    · intro c
      refine ⟨fun j hj => by omega, ?_, c⟩
      unfold mt_lv
      rw [mt_c_0 m (fun i hi => decide_eq_false (c i hi))]
      rfl
    · intro c
      exact c.2.2
  | succ k ih =>
    intro ρ h hm
    by_cases t : s.testBit k = true
    · have eo : mt_ok on a b m s (k + 1) ρ = (decide (on k = true ∧ ρ (a k) ≠ ρ (b k)) && mt_ok on a b m s k (mt_mg ρ (mt_x a b m ρ k) (mt_y a b m ρ k))) := by
        show (if s.testBit k = true then _ else _) = _
        rw [if_pos t]
      have ep : mt_pk s (k + 1) = mt_pk s k + 1 := by
        show mt_pk s k + (if s.testBit k = true then 1 else 0) = _
        rw [if_pos t]
      by_cases c : ρ (a k) ≠ ρ (b k)
      · obtain ⟨g1, g2, g3, g4, g5⟩ := mt_xy a b h c
        have gl := mt_lvm g1 g2 g3 g4
        have eF : mt_F a b m s (k + 1) ρ = mt_F a b m s k (mt_mg ρ (mt_x a b m ρ k) (mt_y a b m ρ k)) := by
          show mt_F a b m s k (if s.testBit k = true ∧ ρ (a k) ≠ ρ (b k) then _ else ρ) = _
          rw [if_pos ⟨t, c⟩]
        have hm' : mt_mg ρ (mt_x a b m ρ k) (mt_y a b m ρ k) m = m := by
          unfold mt_mg
          rw [hm, if_neg (by omega)]
        have q := ih _ (mt_mgV h g4 g3 g2 g5) hm'
        rw [eo, eF, ep, Bool.and_eq_true, decide_eq_true_iff, q]
        constructor
        · rintro ⟨⟨o, _⟩, p1, p2, p3⟩
          refine ⟨fun j hj tj => ?_, by omega, p3⟩
          by_cases e : j = k
          · rw [e]; exact o
          · exact p1 j (by omega) tj
        · rintro ⟨p1, p2, p3⟩
          exact ⟨⟨p1 k (by omega) t, c⟩, fun j hj tj => p1 j (by omega) tj, by omega, p3⟩
      · have eF : mt_F a b m s (k + 1) ρ = mt_F a b m s k ρ := by
          show mt_F a b m s k (if s.testBit k = true ∧ ρ (a k) ≠ ρ (b k) then _ else ρ) = _
          rw [if_neg (fun q => c q.2)]
        rw [eo, eF, ep, decide_eq_false (fun q => c q.2), Bool.false_and]
        constructor
        · intro q; cases q
        · rintro ⟨_, p2, p3⟩
          have w := mt_Flv a b m s k ρ h hm
          have z : mt_lv m (mt_F a b m s k ρ) = 0 := by
            unfold mt_lv
            exact mt_c_0 m (fun i hi => decide_eq_false (p3 i hi))
          omega
    · have eo : mt_ok on a b m s (k + 1) ρ = mt_ok on a b m s k ρ := by
        show (if s.testBit k = true then _ else _) = _
        rw [if_neg t]
      have ep : mt_pk s (k + 1) = mt_pk s k := by
        show mt_pk s k + (if s.testBit k = true then 1 else 0) = _
        rw [if_neg t]; rfl
      have eF : mt_F a b m s (k + 1) ρ = mt_F a b m s k ρ := by
        show mt_F a b m s k (if s.testBit k = true ∧ ρ (a k) ≠ ρ (b k) then _ else ρ) = _
        rw [if_neg (fun q => t q.1)]
      rw [eo, eF, ep, ih ρ h hm]
      constructor
      · rintro ⟨p1, p2, p3⟩
        refine ⟨fun j hj tj => ?_, p2, p3⟩
        by_cases e : j = k
        · rw [e] at tj; exact absurd tj t
        · exact p1 j (by omega) tj
      · rintro ⟨p1, p2, p3⟩
        exact ⟨fun j hj tj => p1 j (by omega) tj, p2, p3⟩
/-- the merged labels of a step are joined, and keep what was joined -/
theorem mt_mgJ {ρ : Nat → Nat} {m k : Nat} : (∀ i j, ρ i = ρ j → mt_mg ρ (mt_x a b m ρ k) (mt_y a b m ρ k) i = mt_mg ρ (mt_x a b m ρ k) (mt_y a b m ρ k) j) ∧ (ρ (a k) ≠ ρ (b k) → mt_mg ρ (mt_x a b m ρ k) (mt_y a b m ρ k) (a k) = mt_mg ρ (mt_x a b m ρ k) (mt_y a b m ρ k) (b k)) := by
  refine ⟨fun i j e => by unfold mt_mg; rw [e], fun c => ?_⟩
  unfold mt_mg mt_x mt_y
  by_cases w : ρ (a k) < m
  · rw [if_pos w, if_pos w, if_pos rfl, if_neg (fun q => c q.symm)]
  · rw [if_neg w, if_neg w, if_neg c, if_pos rfl]
theorem mt_FJ (m s : Nat) : ∀ (k : Nat) (ρ : Nat → Nat), (∀ i j, ρ i = ρ j → mt_F a b m s k ρ i = mt_F a b m s k ρ j) ∧ ∀ j, j < k → s.testBit j = true → mt_F a b m s k ρ (a j) = mt_F a b m s k ρ (b j) := by
  intro k
  induction k with
  | zero => intro ρ; exact ⟨fun i j e => e, fun j hj => by omega⟩
  | succ k ih =>
    intro ρ
    obtain ⟨q1, q2⟩ := ih (if s.testBit k = true ∧ ρ (a k) ≠ ρ (b k) then mt_mg ρ (mt_x a b m ρ k) (mt_y a b m ρ k) else ρ)
    have jj := mt_mgJ a b (ρ := ρ) (m := m) (k := k)
    refine ⟨fun i j e => q1 i j ?_, fun j hj t => ?_⟩
    · by_cases c : s.testBit k = true ∧ ρ (a k) ≠ ρ (b k)
      · rw [if_pos c]; exact jj.1 i j e
      · rw [if_neg c]; exact e
    · by_cases e : j = k
      · subst e
        apply q1
        by_cases c : ρ (a j) = ρ (b j)
        · rw [if_neg (fun q => q.2 c)]; exact c
        · rw [if_pos ⟨t, c⟩]; exact jj.2 c
      · exact q2 j (by omega) t
/-- what every set that the lines keep together can't part -/
theorem mt_FS (m s : Nat) (S : Nat → Prop) (K : Nat) (hK : ∀ j, j < K → s.testBit j = true → a j ≤ m ∧ b j ≤ m ∧ (S (a j) ↔ S (b j))) : ∀ (k : Nat) (ρ : Nat → Nat), k ≤ K → (∀ i j, i ≤ m → j ≤ m → ρ i = ρ j → (S i ↔ S j)) → ∀ i j, i ≤ m → j ≤ m → mt_F a b m s k ρ i = mt_F a b m s k ρ j → (S i ↔ S j) := by
  intro k
  induction k with
  | zero => intro ρ _ h; exact h
  | succ k ih =>
    intro ρ hk h
    refine ih _ (by omega) ?_
    by_cases c : s.testBit k = true ∧ ρ (a k) ≠ ρ (b k)
    · rw [if_pos c]
      obtain ⟨am, bm, ab⟩ := hK k (by omega) c.1
      have txy : ∀ i, i ≤ m → (ρ i = mt_x a b m ρ k ∨ ρ i = mt_y a b m ρ k) → (S i ↔ S (a k)) := by
        intro i hi hh
        unfold mt_x mt_y at hh
        by_cases w : ρ (a k) < m
        · rw [if_pos w, if_pos w] at hh
          rcases hh with hh | hh
          · exact h _ _ hi am hh
          · exact (h _ _ hi bm hh).trans ab.symm
        · rw [if_neg w, if_neg w] at hh
          rcases hh with hh | hh
          · exact (h _ _ hi bm hh).trans ab.symm
          · exact h _ _ hi am hh
      intro i j hi hj e
      unfold mt_mg at e
      by_cases ei : ρ i = mt_x a b m ρ k
      · rw [if_pos ei] at e
        by_cases ej : ρ j = mt_x a b m ρ k
        · exact (txy i hi (Or.inl ei)).trans (txy j hj (Or.inl ej)).symm
        · rw [if_neg ej] at e
          exact (txy i hi (Or.inl ei)).trans (txy j hj (Or.inr e.symm)).symm
      · rw [if_neg ei] at e
        by_cases ej : ρ j = mt_x a b m ρ k
        · rw [if_pos ej] at e
          exact (txy i hi (Or.inr e)).trans (txy j hj (Or.inl ej)).symm
        · rw [if_neg ej] at e
          exact h _ _ hi hj e
    · rw [if_neg c]
      exact h
/-- the labels of a fresh start: each point before m its own, all beyond m's -/
def mt_r0 (m i : Nat) : Nat := if i < m then i else m
theorem mt_r0V (m : Nat) : mt_V m (mt_r0 m) ∧ mt_r0 m m = m := by
  refine ⟨⟨fun i => ?_, fun i => ?_⟩, ?_⟩
  · unfold mt_r0; split <;> (try split) <;> omega
  · unfold mt_r0; split <;> omega
  · unfold mt_r0; split <;> omega
theorem mt_r0l (m : Nat) : mt_lv m (mt_r0 m) = m := by
  unfold mt_lv
  have : ∀ n, n ≤ m → mt_c (fun i => decide (mt_r0 m i = i)) n = n := by
    intro n
    induction n with
    | zero => intro _; rfl
    | succ n ih =>
      intro h
      rw [mt_cS, ih (by omega)]
      have e : mt_r0 m n = n := by unfold mt_r0; rw [if_pos (by omega)]
      rw [if_pos (decide_eq_true e)]
  exact this m (Nat.le_refl m)
/-- sets of lines that join all points, as the document says it -/
theorem mt_span (m s K : Nat) (hK : ∀ j, j < K → s.testBit j = true → a j ≤ m ∧ b j ≤ m) : (∀ i, i < m → mt_F a b m s K (mt_r0 m) i ≠ i) ↔ (∀ S : Nat → Prop, (∀ j, j < K → s.testBit j = true → (S (a j) ↔ S (b j))) → S 0 → ∀ p, p ≤ m → S p) := by
  obtain ⟨v, vm⟩ := mt_r0V m
  obtain ⟨fv, fm⟩ := mt_FV a b m s K (mt_r0 m) v vm
  constructor
  · intro d S hS s0 p hp
    have all : ∀ i, mt_F a b m s K (mt_r0 m) i = m := by
      intro i
      apply Classical.byContradiction
      intro q
      have := fv.2 i
      exact d (mt_F a b m s K (mt_r0 m) i) (by omega) (fv.1 i)
    refine (mt_FS a b m s S K (fun j hj t => ⟨(hK j hj t).1, (hK j hj t).2, hS j hj t⟩) K (mt_r0 m) (Nat.le_refl K) ?_ 0 p (by omega) hp (by rw [all, all])).mp s0
    intro i j hi hj e
    have : i = j := by
      unfold mt_r0 at e
      split at e <;> split at e <;> omega
    rw [this]
  · intro h i hi e
    have q := h (fun p => mt_F a b m s K (mt_r0 m) p = mt_F a b m s K (mt_r0 m) 0) (fun j hj t => by
      show mt_F a b m s K (mt_r0 m) (a j) = mt_F a b m s K (mt_r0 m) 0 ↔ mt_F a b m s K (mt_r0 m) (b j) = mt_F a b m s K (mt_r0 m) 0
      rw [(mt_FJ a b m s K (mt_r0 m)).2 j hj t]) rfl
    have q1 := q i (by omega)
    have q2 := q m (Nat.le_refl m)
    (try dsimp only at q1 q2)
    omega
/-! a zero pivot makes the whole zero -/
theorem mt_Lr {m d : Nat} (h : d ≤ m) : ∀ k i j, i < d → j < d → mt_L on a b (mt_r0 m) k i j = mt_L on a b (mt_r0 d) k i j := by
  have s : ∀ p i, i < d → dt_dl (mt_r0 m p) i = dt_dl (mt_r0 d p) i := by
    intro p i hi
    unfold mt_r0 dt_dl
    by_cases c : p < d
    · rw [if_pos (show p < m by omega), if_pos c]
    · rw [if_neg c, if_neg (show ¬ i = d by omega), if_neg]
      split <;> omega
  intro k
  induction k with
  | zero =>
    intro i j hi hj
    show (if i = j ∧ mt_r0 m i ≠ i then (1 : Int) else 0) = (if i = j ∧ mt_r0 d i ≠ i then (1 : Int) else 0)
    have e1 : mt_r0 m i = i := by unfold mt_r0; rw [if_pos (by omega)]
    have e2 : mt_r0 d i = i := by unfold mt_r0; rw [if_pos hi]
    rw [e1, e2]
  | succ k ih =>
    intro i j hi hj
    show mt_L on a b (mt_r0 m) k i j + (if on k then mt_bt a b (mt_r0 m) k i * mt_bt a b (mt_r0 m) k j else 0) = mt_L on a b (mt_r0 d) k i j + (if on k then mt_bt a b (mt_r0 d) k i * mt_bt a b (mt_r0 d) k j else 0)
    have e : ∀ i, i < d → mt_bt a b (mt_r0 m) k i = mt_bt a b (mt_r0 d) k i := by
      intro i hi
      unfold mt_bt
      rw [s _ i hi, s _ i hi]
    rw [ih i j hi hj, e i hi, e j hj]
theorem mt_piv {m d : Nat} (h : d ≤ m) (k : Nat) (z : dt_d d (mt_L on a b (mt_r0 m) k) = 0) : dt_d m (mt_L on a b (mt_r0 m) k) = 0 := by
  rw [dt_congr d _ (mt_L on a b (mt_r0 d) k) (fun i j hi hj => mt_Lr on a b h k i j hi hj), mt_tree on a b d k (mt_r0 d) (mt_r0V d).1] at z
  rw [mt_tree on a b m k (mt_r0 m) (mt_r0V m).1]
  apply Classical.byContradiction
  intro q
  have p : 0 < mt_N on a b m k (mt_r0 m) := by omega
  have := mt_mono on a b k (mt_r0 m) (mt_r0 d) (mt_r0V m).1 (mt_r0V d).1 (mt_r0V m).2 (mt_r0V d).2 (fun i j e => by
    unfold mt_r0 at e ⊢
    split at e <;> split at e <;> split <;> split <;> omega) p
  omega
/-! rows of the table have small sums -/
theorem mt_dl01 (x i : Nat) : 0 ≤ dt_dl x i ∧ dt_dl x i ≤ 1 := by
  unfold dt_dl
  split <;> omega
theorem mt_dls (x : Nat) : ∀ m, dt_sum (fun j => dt_dl x j) m ≤ 1 := by
  intro m
  by_cases h : x < m
  · rw [dt_sum_one x m h (fun j _ hj => dt_dl0 hj), dt_dl1]
    exact Int.le_refl _
  · rw [dt_sum_0 m (fun j hj => dt_dl0 (by omega))]
    decide
theorem mt_rs {m : Nat} {i : Nat} (hi : i < m) : ∀ k : Nat, dt_sum (fun j => ((mt_L on a b (mt_r0 m) k i j).natAbs : Int)) m ≤ 2 * (k : Int) := by
  intro k
  induction k with
  | zero =>
    rw [dt_sum_0 m (fun j _ => ?_)]
    · decide
    · have e1 : mt_r0 m i = i := by unfold mt_r0; rw [if_pos hi]
      show (((if i = j ∧ mt_r0 m i ≠ i then (1 : Int) else 0).natAbs : Nat) : Int) = 0
      rw [if_neg (fun q => q.2 e1)]
      rfl
  | succ k ih =>
    have l := dt_sum_le (f := fun j => ((mt_L on a b (mt_r0 m) (k + 1) i j).natAbs : Int)) (g := fun j => 1 * ((mt_L on a b (mt_r0 m) k i j).natAbs : Int) + 1 * (1 * dt_dl (mt_r0 m (a k)) j + 1 * dt_dl (mt_r0 m (b k)) j)) m (fun j _ => by
      show (((mt_L on a b (mt_r0 m) k i j + (if on k then mt_bt a b (mt_r0 m) k i * mt_bt a b (mt_r0 m) k j else 0)).natAbs : Nat) : Int) ≤ 1 * ((mt_L on a b (mt_r0 m) k i j).natAbs : Int) + 1 * (1 * dt_dl (mt_r0 m (a k)) j + 1 * dt_dl (mt_r0 m (b k)) j)
      have c1 := mt_dl01 (mt_r0 m (a k)) i
      have c2 := mt_dl01 (mt_r0 m (b k)) i
      have c3 := mt_dl01 (mt_r0 m (a k)) j
      have c4 := mt_dl01 (mt_r0 m (b k)) j
      by_cases o : on k
      · rw [if_pos o]
        unfold mt_bt
        generalize dt_dl (mt_r0 m (a k)) i = x1 at *
        generalize dt_dl (mt_r0 m (b k)) i = x2 at *
        generalize dt_dl (mt_r0 m (a k)) j = x3 at *
        generalize dt_dl (mt_r0 m (b k)) j = x4 at *
        have d1 : x1 = 0 ∨ x1 = 1 := by omega
        have d2 : x2 = 0 ∨ x2 = 1 := by omega
        rcases d1 with d1 | d1 <;> rcases d2 with d2 | d2 <;> rw [d1, d2] <;> omega
      · rw [if_neg o]
        omega)
    rw [dt_sum_lin, dt_sum_lin] at l
    have s1 : dt_sum (dt_dl (mt_r0 m (a k))) m ≤ 1 := mt_dls (mt_r0 m (a k)) m
    have s2 : dt_sum (dt_dl (mt_r0 m (b k))) m ≤ 1 := mt_dls (mt_r0 m (b k)) m
    have e : ((k + 1 : Nat) : Int) = (k : Int) + 1 := rfl
    rw [e]
    omega
end
/-! Bareiss's step over long -/
theorem mt_q {c t w v : Int} (hw : w ≠ 0) (e : v * w = c - t) (hc : c.natAbs < 2 ^ 61) (ht : t.natAbs < 2 ^ 61) (hb : w.natAbs < 2 ^ 61) : (Int64.ofInt c - Int64.ofInt t) / Int64.ofInt w = Int64.ofInt v := by
  rw [← Int64.ofInt_sub, ← Int64.ofInt_tdiv (by show -9223372036854775808 ≤ c - t; omega) (by show c - t ≤ 9223372036854775807; omega) (by show -9223372036854775808 ≤ w; omega) (by show w ≤ 9223372036854775807; omega), ← e, Int.mul_tdiv_cancel _ hw]

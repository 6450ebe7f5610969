/-! one walk into the depth: what holds at each of its steps -/
def wk_u (f : Nat → Nat) (i v j : Nat) : Nat := if j = i then v else f j
theorem wk_us (f : Nat → Nat) (i v : Nat) : wk_u f i v i = v := by unfold wk_u; rw [if_pos rfl]
theorem wk_un (f : Nat → Nat) {i j : Nat} (v : Nat) (h : j ≠ i) : wk_u f i v j = f j := by unfold wk_u; rw [if_neg h]
def wk_J (on : Nat → Prop) (a b : Nat → Nat) (k x y : Nat) : Prop := on k ∧ ((a k = x ∧ b k = y) ∨ (a k = y ∧ b k = x))
def wk_P (m0 : Nat) (o la : Nat → Nat) (p : Nat) : Prop := m0 < o p ∧ la p = 0
def wk_A (o la : Nat → Nat) (y z : Nat) : Prop := o y ≤ o z ∧ (la y ≠ 0 → o z ≤ la y)
def wk_h (m0 : Nat) (o la : Nat → Nat) (p q : Nat) : Prop := la q ≠ 0 ∧ o p < o q ∧ ∀ r, wk_P m0 o la r → o r ≤ o p ∨ o q < o r
/-- the graph: lines below 16, between different points below n -/
def wk_0 (n : Nat) (on : Nat → Prop) (a b : Nat → Nat) : Prop := ∀ k, on k → k < 16 ∧ a k < n ∧ b k < n ∧ a k ≠ b k
def wk_G (n : Nat) (on : Nat → Prop) (a b : Nat → Nat) (root m0 at' met : Nat) (o cf cb nl la : Nat → Nat) : Prop :=
  (∀ p, n ≤ p → o p = 0) ∧ (∀ p, o p ≤ met) ∧ (∀ p r, o p = o r → o p ≠ 0 → p = r) ∧
  (m0 < met ∧ o root = m0 + 1 ∧ wk_P m0 o la root ∧ wk_P m0 o la at' ∧ 16 ≤ cb root) ∧
  (∀ p, wk_P m0 o la p → o p ≤ o at') ∧
  (∀ p, m0 < o p → p ≠ root → m0 < o (cf p) ∧ o (cf p) < o p ∧ wk_J on a b (cb p) p (cf p) ∧ (la (cf p) ≠ 0 → o p ≤ la (cf p))) ∧
  (∀ p, wk_P m0 o la p → p ≠ root → wk_P m0 o la (cf p) ∧ ∀ r, wk_P m0 o la r → o r ≤ o (cf p) ∨ o p ≤ o r) ∧
  (∀ p, la p ≠ 0 → m0 < o p ∧ nl p = 16 ∧ o p ≤ la p ∧ la p ≤ met ∧ ∀ r, wk_P m0 o la r → o r < o p ∨ la p < o r) ∧
  (∀ y k z, m0 < o y → k < nl y → wk_J on a b k y z → m0 < o z ∧ (wk_A o la y z ∨ wk_A o la z y)) ∧
  (∀ c q, wk_P m0 o la c → m0 < o q → o c < o q → o c ≤ o (cf q)) ∧
  (∀ y k z, wk_J on a b k y z → o y ≠ 0 → o y ≤ m0 → o z ≠ 0 ∧ o z ≤ m0) ∧
  (∀ p, m0 < o p → nl p ≤ 16)
def wk_L1 (on : Nat → Prop) (a b : Nat → Nat) (m0 : Nat) (o lo cb nl la : Nat → Nat) (p : Nat) : Prop :=
  lo p ≤ o p ∧
  (∀ k z, k < nl p → wk_J on a b k p z → k ≠ cb p → lo p ≤ o z) ∧
  (∀ q k z, wk_h m0 o la p q → wk_J on a b k q z → k ≠ cb q → lo p ≤ o z) ∧
  (lo p = o p ∨ ∃ q k z, (q = p ∨ wk_h m0 o la p q) ∧ wk_J on a b k q z ∧ k ≠ cb q ∧ lo p = o z ∧ m0 < o z)
def wk_L (on : Nat → Prop) (a b : Nat → Nat) (m0 : Nat) (o lo cb nl la : Nat → Nat) : Prop := ∀ p, wk_P m0 o la p → wk_L1 on a b m0 o lo cb nl la p
def wk_br (n : Nat) (on : Nat → Prop) (a b : Nat → Nat) (k : Nat) : Prop := on k ∧ ¬ gr_R a b (fun j => on j ∧ j ≠ k) (fun x => x < n) (a k) (b k)
def wk_hi (n : Nat) (on : Nat → Prop) (a b : Nat → Nat) (p : Nat) : Prop := p < n ∧ ∃ x y, (x < n ∧ x ≠ p) ∧ (y < n ∧ y ≠ p) ∧ gr_R a b on (fun x => x < n) x y ∧ ¬ gr_R a b on (fun x => x < n ∧ x ≠ p) x y
def wk_B (n : Nat) (on : Nat → Prop) (a b : Nat → Nat) (root WB : Nat) (cb la : Nat → Nat) : Prop :=
  (∀ k, WB.testBit k = true → wk_br n on a b k) ∧ (∀ c, la c ≠ 0 → c ≠ root → wk_br n on a b (cb c) → WB.testBit (cb c) = true)
def wk_H (n : Nat) (on : Nat → Prop) (a b : Nat → Nat) (root m0 rb WH : Nat) (o cf la : Nat → Nat) : Prop :=
  (∀ p, WH.testBit p = true → wk_hi n on a b p) ∧
  (∀ u, m0 < o u → u ≠ root → ¬ WH.testBit u = true → ∀ q, ((la u ≠ 0 ∧ o u < o q ∧ o q ≤ la u) ∨ (la u = 0 ∧ wk_h m0 o la u q)) → gr_R a b on (fun x => x < n ∧ x ≠ u) q root) ∧
  (rb = 0 → ∀ q, ¬ wk_h m0 o la root q) ∧
  (1 ≤ rb → ∃ c, la c ≠ 0 ∧ c ≠ root ∧ cf c = root) ∧
  (rb = 1 → ∃ c, ∀ q, wk_h m0 o la root q → gr_R a b on (fun x => x < n ∧ x ≠ root) q c) ∧
  (2 ≤ rb → WH.testBit root = true)
section
variable {n : Nat} {on : Nat → Prop} {a b : Nat → Nat}
theorem wk_Js {k x y : Nat} (h : wk_J on a b k x y) : wk_J on a b k y x := ⟨h.1, h.2.elim (fun q => Or.inr q) (fun q => Or.inl q)⟩
/-- the other end of a line is one -/
theorem wk_Ju (g : wk_0 n on a b) {k x y z : Nat} (h : wk_J on a b k x y) (i : wk_J on a b k x z) : y = z := by
  have := (g k h.1).2.2.2
  obtain ⟨_, h⟩ := h
  obtain ⟨_, i⟩ := i
  omega
theorem wk_Jn (g : wk_0 n on a b) {k x y : Nat} (h : wk_J on a b k x y) : k < 16 ∧ x < n ∧ y < n ∧ x ≠ y := by
  have := g k h.1
  obtain ⟨_, h⟩ := h
  omega
/-- a line with the ends x, y and one with the ends v, w -/
theorem wk_J2 {k x y v w : Nat} (h : wk_J on a b k x y) (i : wk_J on a b k v w) : (x = v ∧ y = w) ∨ (x = w ∧ y = v) := by
  obtain ⟨_, h⟩ := h
  obtain ⟨_, i⟩ := i
  omega
theorem wk_e {u q : Nat → Prop} {k x y : Nat} (h : wk_J on a b k x y) (hu : u k) (hx : q x) (hy : q y) : gr_R a b u q x y := by
  obtain ⟨_, ⟨h1, h2⟩ | ⟨h1, h2⟩⟩ := h
  · have := gr_ln (a := a) (b := b) (u := u) (q := q) hu (by rw [h1]; exact hx) (by rw [h2]; exact hy)
    rw [h1, h2] at this
    exact this
  · have := gr_ln' (a := a) (b := b) (u := u) (q := q) hu (by rw [h1]; exact hy) (by rw [h2]; exact hx)
    rw [h1, h2] at this
    exact this
/-- a set that the lines of J keep whole -/
theorem wk_cl {u q : Nat → Prop} {S : Nat → Prop} (g : wk_0 n on a b) (hu : ∀ k, u k → on k) (h : ∀ k x y, u k → wk_J on a b k x y → q x → q y → S x → S y) : gr_C a b u q S := by
  intro k hk ha hb
  have j : wk_J on a b k (a k) (b k) := ⟨hu k hk, Or.inl ⟨rfl, rfl⟩⟩
  exact ⟨h k _ _ hk j ha hb, h k _ _ hk (wk_Js j) hb ha⟩
/-! a step that looks at a line -/
theorem wk_lookG (g : wk_0 n on a b) {root m0 t met : Nat} {o cf cb nl la : Nat → Nat} (G : wk_G n on a b root m0 t met o cf cb nl la) (hk : nl t < 16) (hz : ∀ z, wk_J on a b (nl t) t z → nl t ≠ cb t → o z ≠ 0) : wk_G n on a b root m0 t met o cf cb (wk_u nl t (nl t + 1)) la := by
  obtain ⟨g1, g2, g3, g4, g5, g6, g7, g8, g9, g10, g11, g12⟩ := G
  obtain ⟨g4a, g4b, g4c, g4d, g4e⟩ := g4
  refine ⟨g1, g2, g3, ⟨g4a, g4b, g4c, g4d, g4e⟩, g5, g6, g7, ?_, ?_, g10, g11, ?_⟩
  · intro p hp
    obtain ⟨p1, p2, p3⟩ := g8 p hp
    have : p ≠ t := by intro e; rw [e] at hp; exact hp g4d.2
    rw [wk_un nl _ this]
    exact ⟨p1, p2, p3⟩
  · intro y k z hy hk' j
    by_cases e : y = t
    · subst e
      rw [wk_us] at hk'
      by_cases e2 : k = nl y
      · subst e2
        by_cases e3 : nl y = cb y
        · have yr : y ≠ root := by
            intro q
            rw [← q] at g4e
            omega
          obtain ⟨c1, c2, c3, c4⟩ := g6 y hy yr
          have zc : cf y = z := by
            rw [← e3] at c3
            exact wk_Ju g c3 j
          rw [← zc]
          have pc := (g7 y g4d yr).1
          exact ⟨c1, Or.inr ⟨by omega, fun q => absurd pc.2 q⟩⟩
        · have z0 := hz z j e3
          have zm : m0 < o z := by
            apply Classical.byContradiction
            intro q
            have := g11 z _ y (wk_Js j) z0 (by omega)
            have := g4d.1
            omega
          refine ⟨zm, ?_⟩
          by_cases c : o y ≤ o z
          · exact Or.inl ⟨c, fun q => absurd g4d.2 q⟩
          · by_cases f : la z = 0
            · exact Or.inr ⟨by omega, fun q => absurd f q⟩
            · have nz := (g8 z f).2.1
              exact (g9 z _ y zm (by omega) (wk_Js j)).2.symm
      · exact g9 y k z hy (by omega) j
    · rw [wk_un nl _ e] at hk'
      exact g9 y k z hy hk' j
  · intro p hp
    by_cases e : p = t
    · rw [e, wk_us]; omega
    · rw [wk_un nl _ e]; exact g12 p hp
theorem wk_lookL {root m0 t met : Nat} {o lo cf cb nl la : Nat → Nat} (G : wk_G n on a b root m0 t met o cf cb nl la) (L : wk_L on a b m0 o lo cb nl la) (v : Nat) (v1 : v ≤ lo t) (v2 : ∀ z, wk_J on a b (nl t) t z → nl t ≠ cb t → v ≤ o z) (v3 : v = lo t ∨ ∃ z, wk_J on a b (nl t) t z ∧ nl t ≠ cb t ∧ v = o z ∧ m0 < o z) : wk_L on a b m0 o (wk_u lo t v) cb (wk_u nl t (nl t + 1)) la := by
  intro p hp
  obtain ⟨l1, l2, l3, l4⟩ := L p hp
  by_cases e : p = t
  · subst e
    unfold wk_L1
    rw [wk_us, wk_us]
    refine ⟨by omega, fun k z hk j hc => ?_, fun q k z h j hc => ?_, ?_⟩
    · by_cases e2 : k = nl p
      · subst e2; exact v2 z j hc
      · have := l2 k z (by omega) j hc
        omega
    · have := l3 q k z h j hc
      omega
    · rcases v3 with v3 | ⟨z, j, hc, ez, mz⟩
      · rw [v3]; exact l4
      · exact Or.inr ⟨p, nl p, z, Or.inl rfl, j, hc, ez, mz⟩
  · unfold wk_L1
    rw [wk_un lo _ e, wk_un nl _ e]
    exact ⟨l1, l2, l3, l4⟩
/-! a step that meets a new point -/
theorem wk_Pm {m0 met z : Nat} {o la : Nat → Nat} (hz : o z = 0) (lz : la z = 0) (hm : m0 ≤ met) (p : Nat) : wk_P m0 (wk_u o z (met + 1)) la p ↔ (p = z ∨ wk_P m0 o la p) := by
  unfold wk_P
  by_cases e : p = z
  · rw [e, wk_us]
    exact ⟨fun _ => Or.inl rfl, fun _ => ⟨by omega, lz⟩⟩
  · rw [wk_un o _ e]
    exact ⟨fun h => Or.inr h, fun h => h.elim (fun q => absurd q e) id⟩
theorem wk_hm {m0 met z : Nat} {o la : Nat → Nat} (h2 : ∀ p, o p ≤ met) (hz : o z = 0) (lz : la z = 0) (hm : m0 ≤ met) {p q : Nat} (hp : p ≠ z) : wk_h m0 (wk_u o z (met + 1)) la p q ↔ wk_h m0 o la p q := by
  unfold wk_h
  rw [wk_un o _ hp]
  by_cases e : q = z
  · rw [e]
    exact ⟨fun h => absurd lz h.1, fun h => absurd lz h.1⟩
  · rw [wk_un o _ e]
    constructor
    · rintro ⟨a1, a2, a3⟩
      refine ⟨a1, a2, fun r hr => ?_⟩
      have := a3 r ((wk_Pm hz lz hm r).mpr (Or.inr hr))
      by_cases f : r = z
      · rw [f] at hr
        have := hr.1
        omega
      · rw [wk_un o _ f] at this
        exact this
    · rintro ⟨a1, a2, a3⟩
      refine ⟨a1, a2, fun r hr => ?_⟩
      by_cases f : r = z
      · rw [f, wk_us]
        have := h2 q
        omega
      · rw [wk_un o _ f]
        rcases (wk_Pm hz lz hm r).mp hr with q | q
        · exact absurd q f
        · exact a3 r q
theorem wk_meetG (g : wk_0 n on a b) {root m0 t met z : Nat} {o cf cb nl la : Nat → Nat} (G : wk_G n on a b root m0 t met o cf cb nl la) (hk : nl t < 16) (j : wk_J on a b (nl t) t z) (hz : o z = 0) : wk_G n on a b root m0 z (met + 1) (wk_u o z (met + 1)) (wk_u cf z t) (wk_u cb z (nl t)) (wk_u (wk_u nl t (nl t + 1)) z 0) la := by
  obtain ⟨g1, g2, g3, g4, g5, g6, g7, g8, g9, g10, g11, g12⟩ := G
  obtain ⟨g4a, g4b, g4c, g4d, g4e⟩ := g4
  have jn := wk_Jn g j
  have lz : la z = 0 := by
    apply Classical.byContradiction
    intro q
    have := (g8 z q).1
    omega
  have tz : t ≠ z := jn.2.2.2
  have rz : root ≠ z := by intro e; rw [e] at g4b; omega
  have hm : m0 ≤ met := by omega
  have pm := wk_Pm (m0 := m0) (met := met) hz lz hm
  have og : ∀ p, m0 < wk_u o z (met + 1) p → p = z ∨ (p ≠ z ∧ m0 < o p ∧ wk_u o z (met + 1) p = o p) := by
    intro p hp
    by_cases e : p = z
    · exact Or.inl e
    · rw [wk_un o _ e] at hp ⊢
      exact Or.inr ⟨e, hp, rfl⟩
  refine ⟨?_, ?_, ?_, ⟨by omega, by rw [wk_un o _ rz]; exact g4b, (pm root).mpr (Or.inr g4c), (pm z).mpr (Or.inl rfl), by rw [wk_un cb _ rz]; exact g4e⟩, ?_, ?_, ?_, ?_, ?_, ?_, ?_, ?_⟩
  · intro p hp
    rw [wk_un o _ (by omega)]
    exact g1 p hp
  · intro p
    by_cases e : p = z
    · rw [e, wk_us]; omega
    · rw [wk_un o _ e]
      have := g2 p
      omega
  · intro p r e0 e1
    by_cases e : p = z
    · by_cases f : r = z
      · rw [e, f]
      · rw [e, wk_us, wk_un o _ f] at e0
        have := g2 r
        omega
    · rw [wk_un o _ e] at e0 e1
      by_cases f : r = z
      · rw [f, wk_us] at e0
        have := g2 p
        omega
      · rw [wk_un o _ f] at e0
        exact g3 p r e0 e1
  · intro p hp
    rw [wk_us]
    by_cases e : p = z
    · rw [e, wk_us]; omega
    · rw [wk_un o _ e]
      have := g2 p
      omega
  · intro p hp hr
    by_cases e : p = z
    · rw [e, wk_us, wk_us, wk_us, wk_un o _ tz]
      refine ⟨g4d.1, ?_, wk_Js j, fun q => absurd g4d.2 q⟩
      have := g2 t
      omega
    · rw [wk_un o _ e] at hp
      obtain ⟨c1, c2, c3, c4⟩ := g6 p hp hr
      have cz : cf p ≠ z := by intro q; rw [q] at c1; omega
      rw [wk_un o _ e, wk_un cf _ e, wk_un cb _ e, wk_un o _ cz]
      exact ⟨c1, c2, c3, c4⟩
  · intro p hp hr
    by_cases e : p = z
    · rw [e, wk_us, wk_us, wk_un o _ tz]
      refine ⟨(pm t).mpr (Or.inr g4d), fun r hr => ?_⟩
      rcases (pm r).mp hr with q | q
      · rw [q, wk_us]; omega
      · have rz' : r ≠ z := by intro w; rw [w] at q; have := q.1; omega
        rw [wk_un o _ rz']
        exact Or.inl (g5 r q)
    · rcases (pm p).mp hp with q | q
      · exact absurd q e
      · obtain ⟨c1, c2⟩ := g7 p q hr
        have cz : cf p ≠ z := by intro w; rw [w] at c1; have := c1.1; omega
        rw [wk_un cf _ e, wk_un o _ e, wk_un o _ cz]
        refine ⟨(pm _).mpr (Or.inr c1), fun r hr => ?_⟩
        rcases (pm r).mp hr with w | w
        · rw [w, wk_us]
          have := g2 p
          omega
        · have rz' : r ≠ z := by intro x; rw [x] at w; have := w.1; omega
          rw [wk_un o _ rz']
          exact c2 r w
  · intro p hp
    obtain ⟨c1, c2, c3, c4, c5⟩ := g8 p hp
    have pz : p ≠ z := by intro w; rw [w] at c1; omega
    have pt : p ≠ t := by intro w; rw [w] at hp; exact hp g4d.2
    rw [wk_un o _ pz, wk_un _ _ pz, wk_un nl _ pt]
    refine ⟨c1, c2, c3, by omega, fun r hr => ?_⟩
    rcases (pm r).mp hr with w | w
    · rw [w, wk_us]; omega
    · have rz' : r ≠ z := by intro x; rw [x] at w; have := w.1; omega
      rw [wk_un o _ rz']
      exact c5 r w
  · intro y k w hy hk' jj
    rcases og y hy with e | ⟨e, hy', ey⟩
    · rw [e, wk_us] at hk'; omega
    · rw [wk_un _ _ e] at hk'
      by_cases e1 : y = t ∧ k = nl t
      · have wz : w = z := by
          rw [e1.1, e1.2] at jj
          exact wk_Ju g jj j
        rw [wz, wk_us]
        refine ⟨by omega, Or.inl ⟨?_, fun q => ?_⟩⟩
        · rw [wk_us, ey]
          have := g2 y
          omega
        · rw [e1.1] at q
          exact absurd g4d.2 q
      · have old : m0 < o w ∧ (wk_A o la y w ∨ wk_A o la w y) := by
          by_cases e2 : y = t
          · rw [e2, wk_us] at hk'
            refine g9 y k w hy' ?_ jj
            rw [e2]
            have : k ≠ nl t := fun q => e1 ⟨e2, q⟩
            omega
          · rw [wk_un nl _ e2] at hk'
            exact g9 y k w hy' hk' jj
        have wz : w ≠ z := by intro x; rw [x] at old; omega
        unfold wk_A at old ⊢
        rw [wk_un o _ wz, ey]
        exact old
  · intro c q hc hq hlt
    rcases og q hq with e | ⟨e, hq', eq⟩
    · rw [e, wk_us, wk_un o _ tz]
      rcases (pm c).mp hc with w | w
      · rw [w, e] at hlt; omega
      · have cz : c ≠ z := by intro x; rw [x] at w; have := w.1; omega
        rw [wk_un o _ cz]
        exact g5 c w
    · rcases (pm c).mp hc with w | w
      · rw [w, wk_us, eq] at hlt
        have := g2 q
        omega
      · have cz : c ≠ z := by intro x; rw [x] at w; have := w.1; omega
        rw [wk_un o _ cz, eq] at hlt
        have h := g10 c q w hq' hlt
        have fz : cf q ≠ z := by
          intro x
          rw [x] at h
          have := w.1
          omega
        rw [wk_un o _ cz, wk_un cf _ e, wk_un o _ fz]
        exact h
  · intro y k w jj h1 h2
    have yz : y ≠ z := by intro x; rw [x, wk_us] at h2; omega
    rw [wk_un o _ yz] at h1 h2
    have := g11 y k w jj h1 h2
    have wz : w ≠ z := by intro x; rw [x] at this; omega
    rw [wk_un o _ wz]
    exact this
  · intro p hp
    by_cases e : p = z
    · rw [e, wk_us]; omega
    · rw [wk_un o _ e] at hp
      rw [wk_un _ _ e]
      by_cases f : p = t
      · rw [f, wk_us]; omega
      · rw [wk_un nl _ f]; exact g12 p hp
theorem wk_meetL (g : wk_0 n on a b) {root m0 t met z : Nat} {o lo cf cb nl la : Nat → Nat} (G : wk_G n on a b root m0 t met o cf cb nl la) (L : wk_L on a b m0 o lo cb nl la) (j : wk_J on a b (nl t) t z) (hz : o z = 0) : wk_L on a b m0 (wk_u o z (met + 1)) (wk_u lo z (met + 1)) (wk_u cb z (nl t)) (wk_u (wk_u nl t (nl t + 1)) z 0) la := by
  obtain ⟨g1, g2, g3, ⟨g4a, g4b, g4c, g4d, g4e⟩, g5, g6, g7, g8, g9, g10, g11, g12⟩ := G
  have lz : la z = 0 := by
    apply Classical.byContradiction
    intro q
    have := (g8 z q).1
    omega
  have hm : m0 ≤ met := by omega
  have pm := wk_Pm (m0 := m0) (met := met) hz lz hm
  intro p hp
  by_cases e : p = z
  · subst e
    unfold wk_L1
    rw [wk_us, wk_us, wk_us]
    refine ⟨Nat.le_refl _, fun k w hk => by omega, fun q k w h => ?_, Or.inl rfl⟩
    have h1 := h.2.1
    rw [wk_us] at h1
    by_cases f : q = p
    · rw [f, wk_us] at h1; omega
    · rw [wk_un o _ f] at h1
      have := g2 q
      omega
  · rcases (pm p).mp hp with w | hp'
    · exact absurd w e
    · obtain ⟨l1, l2, l3, l4⟩ := L p hp'
      have op := g2 p
      have ow : ∀ w, lo p ≤ o w → lo p ≤ wk_u o z (met + 1) w := by
        intro w h
        by_cases f : w = z
        · rw [f, wk_us]; omega
        · rw [wk_un o _ f]; exact h
      unfold wk_L1
      rw [wk_un lo _ e, wk_un o _ e, wk_un cb _ e, wk_un _ _ e]
      refine ⟨l1, fun k w hk jj hc => ?_, fun q k w h jj hc => ?_, ?_⟩
      · by_cases f : p = t ∧ k = nl t
        · have wz : w = z := by
            rw [f.1, f.2] at jj
            exact wk_Ju g jj j
          rw [wz, wk_us]; omega
        · apply ow
          by_cases f2 : p = t
          · rw [f2, wk_us] at hk
            refine l2 k w ?_ jj hc
            rw [f2]
            have : k ≠ nl t := fun q => f ⟨f2, q⟩
            omega
          · rw [wk_un nl _ f2] at hk
            exact l2 k w hk jj hc
      · have qz : q ≠ z := by intro x; rw [x] at h; exact h.1 lz
        rw [wk_un cb _ qz] at hc
        exact ow w (l3 q k w ((wk_hm g2 hz lz hm e).mp h) jj hc)
      · rcases l4 with l4 | ⟨q, k, w, h1, h2, h3, h4, h5⟩
        · exact Or.inl l4
        · right
          have wz : w ≠ z := by intro x; rw [x] at h5; omega
          have qz : q ≠ z := by
            rcases h1 with h1 | h1
            · rw [h1]; exact e
            · intro x; rw [x] at h1; exact h1.1 lz
          refine ⟨q, k, w, ?_, h2, by rw [wk_un cb _ qz]; exact h3, by rw [wk_un o _ wz]; exact h4, by rw [wk_un o _ wz]; exact h5⟩
          rcases h1 with h1 | h1
          · exact Or.inl h1
          · exact Or.inr ((wk_hm g2 hz lz hm e).mpr h1)
theorem wk_meetB {root m0 t met z WB : Nat} {o cf cb nl la : Nat → Nat} (G : wk_G n on a b root m0 t met o cf cb nl la) (B : wk_B n on a b root WB cb la) (k : Nat) (hz : o z = 0) : wk_B n on a b root WB (wk_u cb z k) la := by
  refine ⟨B.1, fun c h1 h2 h3 => ?_⟩
  have cz : c ≠ z := by
    intro x
    rw [x] at h1
    have := (G.2.2.2.2.2.2.2.1 z h1).1
    omega
  rw [wk_un cb _ cz] at h3 ⊢
  exact B.2 c h1 h2 h3
theorem wk_meetH {root m0 t met z rb WH : Nat} {o cf cb nl la : Nat → Nat} (G : wk_G n on a b root m0 t met o cf cb nl la) (H : wk_H n on a b root m0 rb WH o cf la) (hz : o z = 0) : wk_H n on a b root m0 rb WH (wk_u o z (met + 1)) (wk_u cf z t) la := by
  obtain ⟨g1, g2, g3, ⟨g4a, g4b, g4c, g4d, g4e⟩, g5, g6, g7, g8, g9, g10, g11, g12⟩ := G
  obtain ⟨h1, h2, h3, h4, h5, h6⟩ := H
  have lz : la z = 0 := by
    apply Classical.byContradiction
    intro q
    have := (g8 z q).1
    omega
  have hm : m0 ≤ met := by omega
  have rz : root ≠ z := by intro e; rw [e] at g4b; omega
  refine ⟨h1, fun u hu ur uh q hq => ?_, fun h q hq => h3 h q ((wk_hm g2 hz lz hm rz).mp hq), fun h => ?_, fun h => ?_, h6⟩
  · by_cases e : u = z
    · rcases hq with hq | hq
      · rw [e] at hq; exact absurd lz hq.1
      · have w := hq.2.2.1
        rw [e, wk_us] at w
        by_cases f : q = z
        · rw [f, wk_us] at w; omega
        · rw [wk_un o _ f] at w
          have := g2 q
          omega
    · rw [wk_un o _ e] at hu hq
      refine h2 u hu ur uh q ?_
      rcases hq with hq | hq
      · left
        by_cases f : q = z
        · rw [f, wk_us] at hq
          have := (g8 u hq.1).2.2.2.1
          omega
        · rw [wk_un o _ f] at hq; exact hq
      · exact Or.inr ⟨hq.1, (wk_hm g2 hz lz hm e).mp hq.2⟩
  · obtain ⟨c, c1, c2, c3⟩ := h4 h
    have cz : c ≠ z := by intro x; rw [x] at c1; exact c1 lz
    exact ⟨c, c1, c2, by rw [wk_un cf _ cz]; exact c3⟩
  · obtain ⟨c, hc⟩ := h5 h
    exact ⟨c, fun q hq => hc q ((wk_hm g2 hz lz hm rz).mp hq)⟩
/-! a step that leaves a point -/
theorem wk_Pl {m0 t met : Nat} {o la : Nat → Nat} (hm : met ≠ 0) (p : Nat) : wk_P m0 o (wk_u la t met) p ↔ (wk_P m0 o la p ∧ p ≠ t) := by
  unfold wk_P
  by_cases e : p = t
  · rw [e, wk_us]
    exact ⟨fun h => absurd h.2 hm, fun h => absurd rfl h.2⟩
  · rw [wk_un la _ e]
    exact ⟨fun h => ⟨h, e⟩, fun h => h.1⟩
theorem wk_leaveG {root m0 t met : Nat} {o cf cb nl la : Nat → Nat} (G : wk_G n on a b root m0 t met o cf cb nl la) (hk : nl t = 16) (tr : t ≠ root) : wk_G n on a b root m0 (cf t) met o cf cb nl (wk_u la t met) := by
  obtain ⟨g1, g2, g3, ⟨g4a, g4b, g4c, g4d, g4e⟩, g5, g6, g7, g8, g9, g10, g11, g12⟩ := G
  have hm : met ≠ 0 := by omega
  have pl := wk_Pl (m0 := m0) (t := t) (met := met) (o := o) (la := la) hm
  obtain ⟨u1, u2, u3, u4⟩ := g6 t g4d.1 tr
  obtain ⟨u5, u6⟩ := g7 t g4d tr
  have ut : cf t ≠ t := by intro e; rw [e] at u2; omega
  have up : ∀ p, wk_P m0 o la p → p ≠ t → o p ≤ o (cf t) := by
    intro p hp hn
    rcases u6 p hp with h | h
    · exact h
    · have h2 := g5 p hp
      exact absurd (g3 p t (by omega) (by have := hp.1; omega)) hn
  refine ⟨g1, g2, g3, ⟨g4a, g4b, (pl root).mpr ⟨g4c, fun e => tr e.symm⟩, (pl _).mpr ⟨u5, ut⟩, g4e⟩, ?_, ?_, ?_, ?_, ?_, ?_, g11, g12⟩
  · intro p hp
    have hp := (pl p).mp hp
    exact up p hp.1 hp.2
  · intro p hp hr
    obtain ⟨c1, c2, c3, c4⟩ := g6 p hp hr
    refine ⟨c1, c2, c3, fun h => ?_⟩
    by_cases e : cf p = t
    · rw [e, wk_us]; exact g2 p
    · rw [wk_un la _ e] at h ⊢; exact c4 h
  · intro p hp hr
    have hp := (pl p).mp hp
    obtain ⟨c1, c2⟩ := g7 p hp.1 hr
    refine ⟨(pl _).mpr ⟨c1, fun e => ?_⟩, fun r hr => c2 r ((pl r).mp hr).1⟩
    have a1 := (g6 p hp.1.1 hr).2.1
    have a2 := g5 p hp.1
    rw [e] at a1
    omega
  · intro p hp
    by_cases e : p = t
    · rw [e, wk_us]
      refine ⟨g4d.1, hk, g2 t, Nat.le_refl _, fun r hr => ?_⟩
      have hr := (pl r).mp hr
      have := up r hr.1 hr.2
      omega
    · rw [wk_un la _ e] at hp ⊢
      obtain ⟨c1, c2, c3, c4, c5⟩ := g8 p hp
      exact ⟨c1, c2, c3, c4, fun r hr => c5 r ((pl r).mp hr).1⟩
  · intro y k z hy hk' jj
    obtain ⟨c1, c2⟩ := g9 y k z hy hk' jj
    have aa : ∀ y z, wk_A o la y z → wk_A o (wk_u la t met) y z := by
      intro y z h
      refine ⟨h.1, fun q => ?_⟩
      by_cases e : y = t
      · rw [e, wk_us]; exact g2 z
      · rw [wk_un la _ e] at q ⊢; exact h.2 q
    exact ⟨c1, c2.elim (fun q => Or.inl (aa _ _ q)) (fun q => Or.inr (aa _ _ q))⟩
  · intro c q hc
    exact g10 c q ((pl c).mp hc).1
/-- the path without t: what hangs where -/
theorem wk_hl {root m0 t met : Nat} {o cf cb nl la : Nat → Nat} (G : wk_G n on a b root m0 t met o cf cb nl la) (tr : t ≠ root) {p q : Nat} (hp : wk_P m0 o la p) (pt : p ≠ t) (h : wk_h m0 o (wk_u la t met) p q) : (p = cf t ∧ o t ≤ o q ∧ m0 < o q) ∨ (o q < o t ∧ wk_h m0 o la p q) := by
  obtain ⟨g1, g2, g3, ⟨g4a, g4b, g4c, g4d, g4e⟩, g5, g6, g7, g8, g9, g10, g11, g12⟩ := G
  have hm : met ≠ 0 := by omega
  have pl := wk_Pl (m0 := m0) (t := t) (met := met) (o := o) (la := la) hm
  obtain ⟨u1, u2, u3, u4⟩ := g6 t g4d.1 tr
  obtain ⟨u5, u6⟩ := g7 t g4d tr
  have ut : cf t ≠ t := by intro e; rw [e] at u2; omega
  obtain ⟨h1, h2, h3⟩ := h
  have mq : m0 < o q := by have := hp.1; omega
  by_cases c : o t ≤ o q
  · left
    refine ⟨?_, c, mq⟩
    have x := h3 (cf t) ((pl _).mpr ⟨u5, ut⟩)
    have y := u6 p hp
    have z := g5 p hp
    have w : o p ≠ o t := fun e => pt (g3 p t e (by have := hp.1; omega))
    exact g3 p (cf t) (by omega) (by have := hp.1; omega)
  · right
    refine ⟨by omega, ?_, h2, fun r hr => ?_⟩
    · by_cases e : q = t
      · rw [e] at c; omega
      · rw [wk_un la _ e] at h1; exact h1
    · by_cases e : r = t
      · rw [e]; omega
      · exact h3 r ((pl r).mpr ⟨hr, e⟩)
theorem wk_hk {root m0 t met : Nat} {o cf cb nl la : Nat → Nat} (G : wk_G n on a b root m0 t met o cf cb nl la) {p q : Nat} (h : wk_h m0 o la p q) : wk_h m0 o (wk_u la t met) p q := by
  obtain ⟨g1, g2, g3, ⟨g4a, g4b, g4c, g4d, g4e⟩, _⟩ := G
  have hm : met ≠ 0 := by omega
  obtain ⟨h1, h2, h3⟩ := h
  refine ⟨?_, h2, fun r hr => h3 r ((wk_Pl hm r).mp hr).1⟩
  by_cases e : q = t
  · rw [e, wk_us]; exact hm
  · rw [wk_un la _ e]; exact h1
/-- the points from t on are all behind, or t itself; they hang at t -/
theorem wk_hS {root m0 t met : Nat} {o cf cb nl la : Nat → Nat} (G : wk_G n on a b root m0 t met o cf cb nl la) {q : Nat} (h : o t < o q) : wk_h m0 o la t q := by
  obtain ⟨g1, g2, g3, ⟨g4a, g4b, g4c, g4d, g4e⟩, g5, _⟩ := G
  refine ⟨fun z => ?_, h, fun r hr => Or.inl (g5 r hr)⟩
  have := g5 q ⟨by have := g4d.1; omega, z⟩
  omega
theorem wk_hU {root m0 t met : Nat} {o cf cb nl la : Nat → Nat} (G : wk_G n on a b root m0 t met o cf cb nl la) (tr : t ≠ root) {q : Nat} (h : o t ≤ o q) : wk_h m0 o (wk_u la t met) (cf t) q := by
  have G0 := G
  obtain ⟨g1, g2, g3, ⟨g4a, g4b, g4c, g4d, g4e⟩, g5, g6, g7, g8, g9, g10, g11, g12⟩ := G
  have hm : met ≠ 0 := by omega
  obtain ⟨u1, u2, u3, u4⟩ := g6 t g4d.1 tr
  obtain ⟨u5, u6⟩ := g7 t g4d tr
  refine ⟨?_, by omega, fun r hr => ?_⟩
  · by_cases e : q = t
    · rw [e, wk_us]; exact hm
    · rw [wk_un la _ e]
      have ne : o t ≠ o q := fun w => e (g3 q t w.symm (by have := g4d.1; omega))
      exact (wk_hS G0 (by omega)).1
  · have hr := (wk_Pl hm r).mp hr
    rcases u6 r hr.1 with x | x
    · exact Or.inl x
    · have y := g5 r hr.1
      exact absurd (g3 r t (by omega) (by have := hr.1.1; omega)) hr.2
theorem wk_leaveL {root m0 t met : Nat} {o lo cf cb nl la : Nat → Nat} (G : wk_G n on a b root m0 t met o cf cb nl la) (L : wk_L on a b m0 o lo cb nl la) (hk : nl t = 16) (tr : t ≠ root) (g : wk_0 n on a b) (v : Nat) (hv : v = if lo t < lo (cf t) then lo t else lo (cf t)) : wk_L on a b m0 o (wk_u lo (cf t) v) cb nl (wk_u la t met) := by
  have G0 := G
  obtain ⟨g1, g2, g3, ⟨g4a, g4b, g4c, g4d, g4e⟩, g5, g6, g7, g8, g9, g10, g11, g12⟩ := G
  have hm : met ≠ 0 := by omega
  obtain ⟨u1, u2, u3, u4⟩ := g6 t g4d.1 tr
  obtain ⟨u5, u6⟩ := g7 t g4d tr
  obtain ⟨t1, t2, t3, t4⟩ := L t g4d
  have tl : ∀ q k z, o t ≤ o q → wk_J on a b k q z → k ≠ cb q → lo t ≤ o z := by
    intro q k z hq jj hc
    by_cases e : q = t
    · subst e
      exact t2 k z (by rw [hk]; exact (wk_Jn g jj).1) jj hc
    · have ne : o t ≠ o q := fun w => e (g3 q t w.symm (by have := g4d.1; omega))
      exact t3 q k z (wk_hS G0 (by omega)) jj hc
  intro p hp
  have hp := (wk_Pl hm p).mp hp
  obtain ⟨l1, l2, l3, l4⟩ := L p hp.1
  have hh : ∀ q k z, wk_h m0 o (wk_u la t met) p q → wk_J on a b k q z → k ≠ cb q → (p = cf t ∧ lo t ≤ o z) ∨ lo p ≤ o z := by
    intro q k z h jj hc
    rcases wk_hl G0 tr hp.1 hp.2 h with ⟨e1, e2, _⟩ | ⟨_, e2⟩
    · exact Or.inl ⟨e1, tl q k z e2 jj hc⟩
    · exact Or.inr (l3 q k z e2 jj hc)
  by_cases e : p = cf t
  · subst e
    have v1 : v ≤ lo t ∧ v ≤ lo (cf t) := by rw [hv]; split <;> omega
    unfold wk_L1
    rw [wk_us]
    refine ⟨by omega, fun k z h1 h2 h3 => ?_, fun q k z h1 h2 h3 => ?_, ?_⟩
    · have := l2 k z h1 h2 h3
      omega
    · have := hh q k z h1 h2 h3
      omega
    · by_cases c : lo t < lo (cf t)
      · rw [if_pos c] at hv
        rcases t4 with t4 | ⟨q, k, z, w1, w2, w3, w4, w5⟩
        · omega
        · right
          refine ⟨q, k, z, Or.inr (wk_hU G0 tr ?_), w2, w3, by omega, w5⟩
          rcases w1 with w1 | w1
          · rw [w1]; exact Nat.le_refl _
          · have := w1.2.1; omega
      · rw [if_neg c] at hv
        rcases l4 with l4 | ⟨q, k, z, w1, w2, w3, w4, w5⟩
        · left; omega
        · right
          exact ⟨q, k, z, w1.elim Or.inl (fun x => Or.inr (wk_hk G0 x)), w2, w3, by omega, w5⟩
  · unfold wk_L1
    rw [wk_un lo _ e]
    refine ⟨l1, l2, fun q k z h1 h2 h3 => ?_, ?_⟩
    · rcases hh q k z h1 h2 h3 with x | x
      · exact absurd x.1 e
      · exact x
    · rcases l4 with l4 | ⟨q, k, z, w1, w2, w3, w4, w5⟩
      · exact Or.inl l4
      · exact Or.inr ⟨q, k, z, w1.elim Or.inl (fun x => Or.inr (wk_hk G0 x)), w2, w3, w4, w5⟩
/-- lines from t and what is behind it to before it -/
theorem wk_S (g : wk_0 n on a b) {root m0 t met : Nat} {o lo cf cb nl la : Nat → Nat} (G : wk_G n on a b root m0 t met o cf cb nl la) (L : wk_L on a b m0 o lo cb nl la) (hk : nl t = 16) (tr : t ≠ root) {q k z : Nat} (hq : o t ≤ o q) (jj : wk_J on a b k q z) (hz : o z < o t) : o z ≤ o (cf t) ∧ m0 < o z ∧ ((q = t ∧ k = cb t ∧ z = cf t) ∨ (k ≠ cb q ∧ lo t ≤ o z)) := by
  have G0 := G
  obtain ⟨g1, g2, g3, ⟨g4a, g4b, g4c, g4d, g4e⟩, g5, g6, g7, g8, g9, g10, g11, g12⟩ := G
  obtain ⟨u1, u2, u3, u4⟩ := g6 t g4d.1 tr
  obtain ⟨u5, u6⟩ := g7 t g4d tr
  obtain ⟨t1, t2, t3, t4⟩ := L t g4d
  have k16 := (wk_Jn g jj).1
  have mq : m0 < o q := by have := g4d.1; omega
  have qn : nl q = 16 := by
    by_cases e : q = t
    · rw [e]; exact hk
    · have ne : o t ≠ o q := fun w => e (g3 q t w.symm (by have := g4d.1; omega))
      exact (g8 q (wk_hS G0 (by omega)).1).2.1
  obtain ⟨z1, z2⟩ := g9 q k z mq (by omega) jj
  have az : wk_A o la z q := by
    rcases z2 with z2 | z2
    · have := z2.1; omega
    · exact z2
  have pz : wk_P m0 o la z := by
    refine ⟨z1, ?_⟩
    apply Classical.byContradiction
    intro w
    have a1 := az.2 w
    have a2 := (g8 z w).2.2.2.2 t g4d
    omega
  have zt : z ≠ t := by intro e; rw [e] at hz; omega
  refine ⟨?_, z1, ?_⟩
  · rcases u6 z pz with x | x
    · exact x
    · omega
  · by_cases e : q = t
    · subst e
      by_cases f : k = cb q
      · left
        rw [f] at jj
        exact ⟨rfl, f, wk_Ju g jj u3⟩
      · exact Or.inr ⟨f, t2 k z (by omega) jj f⟩
    · right
      have ne : o t ≠ o q := fun w => e (g3 q t w.symm (by have := g4d.1; omega))
      have hs := wk_hS G0 (q := q) (by omega)
      have kc : k ≠ cb q := by
        intro f
        have qr : q ≠ root := by
          intro x
          rw [x, g4b] at hq
          have := g5 root g4c
          have := g4d.1
          exact e (g3 q t (by rw [x]; omega) (by omega))
        obtain ⟨c1, c2, c3, c4⟩ := g6 q mq qr
        rw [f] at jj
        have e3 : z = cf q := wk_Ju g jj c3
        have e4 := g10 t q g4d mq (by omega)
        rw [← e3] at e4
        omega
      exact ⟨kc, t3 q k z hs jj kc⟩
/-- tree lines join t with all that is behind it -/
theorem wk_TS {root m0 t met : Nat} {o cf cb nl la : Nat → Nat} (G : wk_G n on a b root m0 t met o cf cb nl la) {u q : Nat → Prop} (hu : ∀ x, o t < o x → wk_J on a b (cb x) x (cf x) → o t ≤ o (cf x) → u (cb x) ∧ q x ∧ q (cf x)) : ∀ (i x : Nat), o x ≤ i → o t ≤ o x → gr_R a b u q t x := by
  obtain ⟨g1, g2, g3, ⟨g4a, g4b, g4c, g4d, g4e⟩, g5, g6, g7, g8, g9, g10, g11, g12⟩ := G
  intro i
  induction i with
  | zero => intro x h1 h2; have := g4d.1; omega
  | succ i ih =>
    intro x h1 h2
    by_cases e : x = t
    · rw [e]; exact gr_rf t
    · have ne : o t ≠ o x := fun w => e (g3 x t w.symm (by have := g4d.1; omega))
      have mx : m0 < o x := by have := g4d.1; omega
      have xr : x ≠ root := by
        intro y
        have := g5 root g4c
        rw [y] at ne h2
        have := g4d.1
        omega
      obtain ⟨c1, c2, c3, c4⟩ := g6 x mx xr
      have c5 := g10 t x g4d mx (by omega)
      obtain ⟨d1, d2, d3⟩ := hu x (by omega) c3 c5
      exact gr_tr (ih (cf x) (by omega) c5) (wk_e (wk_Js c3) d1 d3 d2)
/-- tree lines join the root with all points before the bound -/
theorem wk_TO {root m0 t met : Nat} {o cf cb nl la : Nat → Nat} (G : wk_G n on a b root m0 t met o cf cb nl la) {u q : Nat → Prop} (B : Nat) (hu : ∀ x, m0 < o x → o x ≤ B → x ≠ root → wk_J on a b (cb x) x (cf x) → o (cf x) < o x → u (cb x) ∧ q x ∧ q (cf x)) : ∀ (i x : Nat), o x ≤ i → m0 < o x → o x ≤ B → gr_R a b u q root x := by
  obtain ⟨g1, g2, g3, ⟨g4a, g4b, g4c, g4d, g4e⟩, g5, g6, g7, g8, g9, g10, g11, g12⟩ := G
  intro i
  induction i with
  | zero => intro x h1 h2; omega
  | succ i ih =>
    intro x h1 h2 h3
    by_cases e : x = root
    · rw [e]; exact gr_rf root
    · obtain ⟨c1, c2, c3, c4⟩ := g6 x h2 e
      obtain ⟨d1, d2, d3⟩ := hu x h2 h3 e c3 c2
      exact gr_tr (ih (cf x) (by omega) c1 (by omega)) (wk_e (wk_Js c3) d1 d3 d2)
/-- all points of this walk are joined with its root -/
theorem wk_RW (g : wk_0 n on a b) {root m0 t met : Nat} {o cf cb nl la : Nat → Nat} (G : wk_G n on a b root m0 t met o cf cb nl la) {x : Nat} (h : m0 < o x) : gr_R a b on (fun x => x < n) root x := by
  refine wk_TO G met (fun y _ _ _ j _ => ?_) (o x) x (Nat.le_refl _) h (G.2.1 x)
  exact ⟨j.1, (wk_Jn g j).2.1, (wk_Jn g j).2.2.1⟩
theorem wk_brI (g : wk_0 n on a b) {root m0 t met : Nat} {o lo cf cb nl la : Nat → Nat} (G : wk_G n on a b root m0 t met o cf cb nl la) (L : wk_L on a b m0 o lo cb nl la) (hk : nl t = 16) (tr : t ≠ root) : wk_br n on a b (cb t) ↔ o (cf t) < lo t := by
  have G0 := G
  obtain ⟨g1, g2, g3, ⟨g4a, g4b, g4c, g4d, g4e⟩, g5, g6, g7, g8, g9, g10, g11, g12⟩ := G
  obtain ⟨u1, u2, u3, u4⟩ := g6 t g4d.1 tr
  have un := wk_Jn g u3
  -- the two ends, in either order
  have ori : ∀ u : Nat → Prop, gr_R a b u (fun x => x < n) (a (cb t)) (b (cb t)) ↔ gr_R a b u (fun x => x < n) t (cf t) := by
    intro u
    obtain ⟨_, ⟨h1, h2⟩ | ⟨h1, h2⟩⟩ := u3
    · rw [h1, h2]
    · rw [h1, h2]
      exact ⟨gr_sy, gr_sy⟩
  constructor
  · rintro ⟨_, nr⟩
    apply Classical.byContradiction
    intro le
    apply nr
    rw [ori]
    obtain ⟨t1, t2, t3, t4⟩ := L t g4d
    rcases t4 with t4 | ⟨q, k, z, w1, w2, w3, w4, w5⟩
    · omega
    · have qs : o t ≤ o q := by
        rcases w1 with w1 | w1
        · rw [w1]; exact Nat.le_refl _
        · have := w1.2.1; omega
      have kc : k ≠ cb t := by
        intro e
        rw [e] at w2
        rcases wk_J2 w2 u3 with ⟨x, y⟩ | ⟨x, y⟩
        · rw [x] at w3; exact w3 e
        · rw [x] at qs; omega
      have wn := wk_Jn g w2
      have r1 : gr_R a b (fun j => on j ∧ j ≠ cb t) (fun x => x < n) t q := by
        refine wk_TS G0 (fun x h1 h2 h3 => ⟨⟨h2.1, fun e => ?_⟩, (wk_Jn g h2).2.1, (wk_Jn g h2).2.2.1⟩) (o q) q (Nat.le_refl _) qs
        rw [e] at h2
        rcases wk_J2 h2 u3 with ⟨x1, y1⟩ | ⟨x1, y1⟩
        · rw [x1] at h1; omega
        · rw [x1] at h1; omega
      have r2 : gr_R a b (fun j => on j ∧ j ≠ cb t) (fun x => x < n) q z := wk_e w2 ⟨w2.1, kc⟩ wn.2.1 wn.2.2.1
      have out : ∀ y, m0 < o y → o y < o t → gr_R a b (fun j => on j ∧ j ≠ cb t) (fun x => x < n) root y := by
        intro y h1 h2
        refine wk_TO G0 (o t - 1) (fun x p1 p2 p3 p4 p5 => ⟨⟨p4.1, fun e => ?_⟩, (wk_Jn g p4).2.1, (wk_Jn g p4).2.2.1⟩) (o y) y (Nat.le_refl _) h1 (by omega)
        rw [e] at p4
        rcases wk_J2 p4 u3 with ⟨x1, y1⟩ | ⟨x1, y1⟩
        · rw [x1] at p2; omega
        · rw [y1] at p5; omega
      exact gr_tr r1 (gr_tr r2 (gr_tr (gr_sy (out z w5 (by omega))) (out (cf t) u1 u2)))
  · intro lt
    refine ⟨u3.1, fun r => ?_⟩
    rw [ori] at r
    have := r (fun x => o t ≤ o x) (wk_cl g (fun k hk => hk.1) (fun k x y hk' j _ _ hx => by
      apply Classical.byContradiction
      intro ny
      obtain ⟨s1, s2, s3⟩ := wk_S g G0 L hk tr hx j (by omega)
      rcases s3 with s3 | s3
      · exact hk'.2 s3.2.1
      · omega)) (Nat.le_refl _)
    omega
theorem wk_leaveB (g : wk_0 n on a b) {root m0 t met WB WB' : Nat} {o lo cf cb nl la : Nat → Nat} (G : wk_G n on a b root m0 t met o cf cb nl la) (L : wk_L on a b m0 o lo cb nl la) (B : wk_B n on a b root WB cb la) (hk : nl t = 16) (tr : t ≠ root) (hW : ∀ k, WB'.testBit k = true ↔ (WB.testBit k = true ∨ (k = cb t ∧ o (cf t) < lo t))) : wk_B n on a b root WB' cb (wk_u la t met) := by
  have br := wk_brI g G L hk tr
  refine ⟨fun k h => ?_, fun c h1 h2 h3 => ?_⟩
  · rcases (hW k).mp h with h | h
    · exact B.1 k h
    · rw [h.1]; exact br.mpr h.2
  · rw [hW]
    by_cases e : c = t
    · rw [e] at h3 ⊢
      exact Or.inr ⟨rfl, br.mp h3⟩
    · rw [wk_un la _ e] at h1
      exact Or.inl (B.2 c h1 h2 h3)
/-- nothing leads out of what is behind t but by the point before it -/
theorem wk_SC (g : wk_0 n on a b) {root m0 t met : Nat} {o lo cf cb nl la : Nat → Nat} (G : wk_G n on a b root m0 t met o cf cb nl la) (L : wk_L on a b m0 o lo cb nl la) (hk : nl t = 16) (tr : t ≠ root) (h : ∀ z, lo t ≤ o z → m0 < o z → o z ≤ o (cf t) → z = cf t) {y : Nat} (hy : o y < o t) : ¬ gr_R a b on (fun x => x < n ∧ x ≠ cf t) t y := by
  intro r
  have := r (fun x => o t ≤ o x) (wk_cl g (fun k hk => hk) (fun k x z hk' j _ hz hx => by
    apply Classical.byContradiction
    intro nz
    obtain ⟨s1, s2, s3⟩ := wk_S g G L hk tr hx j (by omega)
    rcases s3 with s3 | s3
    · exact hz.2 s3.2.2
    · exact hz.2 (h z s3.2 s2 s1))) (Nat.le_refl _)
  omega
/-- behind t all is joined with t, without the point before it -/
theorem wk_SB (g : wk_0 n on a b) {root m0 t met : Nat} {o cf cb nl la : Nat → Nat} (G : wk_G n on a b root m0 t met o cf cb nl la) (tr : t ≠ root) {x : Nat} (hx : o t ≤ o x) : gr_R a b on (fun x => x < n ∧ x ≠ cf t) t x := by
  have u2 := (G.2.2.2.2.2.1 t G.2.2.2.1.2.2.2.1.1 tr).2.1
  refine wk_TS G (fun y h1 h2 h3 => ⟨h2.1, ⟨(wk_Jn g h2).2.1, fun e => ?_⟩, (wk_Jn g h2).2.2.1, fun e => ?_⟩) (o x) x (Nat.le_refl _) hx
  · rw [e] at h1; omega
  · rw [e] at h3; omega
theorem wk_leaveH (g : wk_0 n on a b) {root m0 t met rb rb' WH WH' : Nat} {o lo cf cb nl la : Nat → Nat} (G : wk_G n on a b root m0 t met o cf cb nl la) (L : wk_L on a b m0 o lo cb nl la) (H : wk_H n on a b root m0 rb WH o cf la) (hk : nl t = 16) (tr : t ≠ root) (hr : rb' = if cf t = root then rb + 1 else rb) (hW : ∀ k, WH'.testBit k = true ↔ (WH.testBit k = true ∨ (k = cf t ∧ (if cf t = root then 1 < rb' else o (cf t) ≤ lo t)))) : wk_H n on a b root m0 rb' WH' o cf (wk_u la t met) := by
  have G0 := G
  obtain ⟨g1, g2, g3, ⟨g4a, g4b, g4c, g4d, g4e⟩, g5, g6, g7, g8, g9, g10, g11, g12⟩ := G
  obtain ⟨u1, u2, u3, u4⟩ := g6 t g4d.1 tr
  obtain ⟨u5, u6⟩ := g7 t g4d tr
  obtain ⟨h1, h2, h3, h4, h5, h6⟩ := H
  have un := wk_Jn g u3
  have hm : met ≠ 0 := by omega
  have ut : cf t ≠ t := by intro e; rw [e] at u2; omega
  have rn : root < n := by
    apply Classical.byContradiction
    intro q
    have := g1 root (by omega)
    omega
  have tn : t < n := un.2.1
  have rt : o root < o t := by
    have := g5 root g4c
    have : o root ≠ o t := fun e => tr (g3 t root e.symm (by have := g4d.1; omega))
    omega
  refine ⟨?_, ?_, ?_, ?_, ?_, ?_⟩
  · -- what is marked is a hinge
    intro p hp
    rcases (hW p).mp hp with hp | ⟨e, hq⟩
    · exact h1 p hp
    · subst e
      refine ⟨un.2.2.1, ?_⟩
      by_cases c : cf t = root
      · rw [if_pos c] at hq
        rw [if_pos c] at hr
        obtain ⟨c0, k1, k2, k3⟩ := h4 (by omega)
        have c0m := (g8 c0 k1).1
        have c0n : c0 < n := by
          apply Classical.byContradiction
          intro q
          have := g1 c0 (by omega)
          omega
        have c0t : c0 ≠ t := by intro e; rw [e] at k1; exact k1 g4d.2
        have c0l : o c0 < o t := by
          apply Classical.byContradiction
          intro q
          have ne : o t ≠ o c0 := fun w => c0t (g3 c0 t w.symm (by omega))
          have := g10 t c0 g4d c0m (by omega)
          rw [k3] at this
          omega
        refine ⟨t, c0, ⟨tn, fun e => ut e.symm⟩, ⟨c0n, fun e => k2 (e.trans c)⟩, gr_tr (gr_sy (wk_RW g G0 g4d.1)) (wk_RW g G0 c0m), ?_⟩
        refine wk_SC g G0 L hk tr (fun z _ z2 z3 => ?_) c0l
        rw [c] at z3 ⊢
        exact g3 z root (by omega) (by omega)
      · rw [if_neg c] at hq
        refine ⟨t, root, ⟨tn, fun e => ut e.symm⟩, ⟨rn, fun e => c e.symm⟩, gr_sy (wk_RW g G0 g4d.1), ?_⟩
        refine wk_SC g G0 L hk tr (fun z z1 z2 z3 => ?_) rt
        exact g3 z (cf t) (by omega) (by omega)
  · -- what isn't marked keeps its followers joined with the root
    intro u hu ur uh q hq
    have uh0 : ¬ WH.testBit u = true := fun w => uh ((hW u).mpr (Or.inl w))
    by_cases e : u = t
    · subst e
      refine h2 u hu ur uh0 q ?_
      rcases hq with hq | hq
      · exact Or.inr ⟨g4d.2, wk_hS G0 hq.2.1⟩
      · rw [wk_us] at hq
        exact absurd hq.1 hm
    · rw [wk_un la _ e] at hq
      rcases hq with hq | ⟨lu, hq⟩
      · exact h2 u hu ur uh0 q (Or.inl hq)
      · rcases wk_hl G0 tr ⟨hu, lu⟩ e hq with ⟨e1, e2, _⟩ | ⟨_, e2⟩
        · -- q is from t on, and u is the point before t
          have c : ¬ cf t = root := by rw [← e1]; exact ur
          have lt : lo t < o (cf t) := by
            apply Classical.byContradiction
            intro w
            exact uh ((hW u).mpr (Or.inr ⟨e1, by rw [if_neg c]; omega⟩))
          obtain ⟨t1, t2, t3, t4⟩ := L t g4d
          rcases t4 with t4 | ⟨q', k, z, w1, w2, w3, w4, w5⟩
          · omega
          · have qs : o t ≤ o q' := by
              rcases w1 with w1 | w1
              · rw [w1]; exact Nat.le_refl _
              · have := w1.2.1; omega
            have wn := wk_Jn g w2
            have qu : q' ≠ cf t := by intro x; rw [x] at qs; omega
            have zu : z ≠ cf t := by intro x; rw [x] at w4; omega
            have r1 := wk_SB g G0 tr e2
            have r2 := wk_SB g G0 tr qs
            have r3 : gr_R a b on (fun x => x < n ∧ x ≠ cf t) q' z := wk_e w2 w2.1 ⟨wn.2.1, qu⟩ ⟨wn.2.2.1, zu⟩
            have r4 : gr_R a b on (fun x => x < n ∧ x ≠ cf t) root z := by
              refine wk_TO G0 (o z) (fun x p1 p2 p3 p4 p5 => ⟨p4.1, ⟨(wk_Jn g p4).2.1, fun y => ?_⟩, (wk_Jn g p4).2.2.1, fun y => ?_⟩) (o z) z (Nat.le_refl _) w5 (Nat.le_refl _)
              · rw [y] at p2; omega
              · rw [y] at p5; omega
            rw [e1]
            exact gr_tr (gr_sy r1) (gr_tr r2 (gr_tr r3 (gr_sy r4)))
        · exact h2 u hu ur uh0 q (Or.inr ⟨lu, e2⟩)
  · intro h q hq
    have c : ¬ cf t = root := by
      intro c
      rw [if_pos c] at hr
      omega
    rw [if_neg c] at hr
    rcases wk_hl G0 tr g4c (fun e => tr e.symm) hq with ⟨e1, _, _⟩ | ⟨_, e2⟩
    · exact c e1.symm
    · exact h3 (by omega) q e2
  · intro h
    by_cases c : cf t = root
    · exact ⟨t, by rw [wk_us]; exact hm, tr, c⟩
    · rw [if_neg c] at hr
      obtain ⟨c0, k1, k2, k3⟩ := h4 (by omega)
      have c0t : c0 ≠ t := by intro e; rw [e] at k1; exact k1 g4d.2
      exact ⟨c0, by rw [wk_un la _ c0t]; exact k1, k2, k3⟩
  · intro h
    by_cases c : cf t = root
    · rw [if_pos c] at hr
      refine ⟨t, fun q hq => ?_⟩
      rcases wk_hl G0 tr g4c (fun e => tr e.symm) hq with ⟨_, e2, _⟩ | ⟨_, e2⟩
      · have := wk_SB g G0 tr e2
        rw [c] at this
        exact gr_sy this
      · exact absurd e2 (h3 (by omega) q)
    · rw [if_neg c] at hr
      obtain ⟨c0, k⟩ := h5 (by omega)
      refine ⟨c0, fun q hq => ?_⟩
      rcases wk_hl G0 tr g4c (fun e => tr e.symm) hq with ⟨e1, _, _⟩ | ⟨_, e2⟩
      · exact absurd e1.symm c
      · exact k q e2
  · intro h
    rw [hW]
    by_cases c : cf t = root
    · right
      rw [if_pos c]
      exact ⟨c.symm, by omega⟩
    · rw [if_neg c] at hr
      exact Or.inl (h6 (by omega))
/-! the end of a walk -/
/-- between walks: the points met are whole groups, and all about them is known -/
def wk_Z (n : Nat) (on : Nat → Prop) (a b : Nat → Nat) (met WB WH : Nat) (o ro : Nat → Nat) : Prop :=
  (∀ p, n ≤ p → o p = 0) ∧ (∀ p, o p ≤ met) ∧ (∀ p r, o p = o r → o p ≠ 0 → p = r) ∧
  (∀ y k z, wk_J on a b k y z → o y ≠ 0 → o z ≠ 0) ∧
  (∀ p, o p ≠ 0 → gr_R a b on (fun x => x < n) (ro p) p ∧ ro p < n ∧ ∀ r, r < ro p → ¬ gr_R a b on (fun x => x < n) r p) ∧
  (∀ k, WB.testBit k = true → wk_br n on a b k) ∧ (∀ k, on k → o (a k) ≠ 0 → wk_br n on a b k → WB.testBit k = true) ∧
  (∀ p, WH.testBit p = true → wk_hi n on a b p) ∧ (∀ p, o p ≠ 0 → wk_hi n on a b p → WH.testBit p = true)
theorem wk_end (g : wk_0 n on a b) {root m0 met rb WB WH WB0 WH0 : Nat} {o o0 cf cb nl la ro ro0 : Nat → Nat} (Z : wk_Z n on a b m0 WB0 WH0 o0 ro0) (G : wk_G n on a b root m0 root met o cf cb nl la) (B : wk_B n on a b root WB cb la) (H : wk_H n on a b root m0 rb WH o cf la) (hk : nl root = 16)
    (o1 : ∀ p, o0 p ≠ 0 → o p = o0 p ∧ ro p = ro0 p) (o2 : ∀ p, o p ≠ 0 → o p ≤ m0 → o0 p ≠ 0) (r1 : ∀ p, m0 < o p → ro p = root) (r2 : ∀ p, p < root → o0 p ≠ 0) (b0 : ∀ k, WB0.testBit k = true → WB.testBit k = true) (b1 : ∀ k, WH0.testBit k = true → WH.testBit k = true) : wk_Z n on a b met WB WH o ro := by
  have G0 := G
  obtain ⟨g1, g2, g3, ⟨g4a, g4b, g4c, g4d, g4e⟩, g5, g6, g7, g8, g9, g10, g11, g12⟩ := G
  obtain ⟨z1, z2, z3, z4, z5, z6, z7, z8, z9⟩ := Z
  obtain ⟨h1, h2, h3, h4, h5, h6⟩ := H
  have inn : ∀ p, o p ≠ 0 → p < n := by
    intro p hp
    apply Classical.byContradiction
    intro q
    exact hp (g1 p (by omega))
  -- every point of this walk but the root is behind
  have fin : ∀ p, m0 < o p → p ≠ root → la p ≠ 0 := by
    intro p hp hr q
    have := g5 p ⟨hp, q⟩
    exact hr (g3 p root (by omega) (by omega))
  have nl16 : ∀ p, m0 < o p → nl p = 16 := by
    intro p hp
    by_cases e : p = root
    · rw [e]; exact hk
    · exact (g8 p (fin p hp e)).2.1
  have clW : ∀ y k z, wk_J on a b k y z → m0 < o y → m0 < o z := by
    intro y k z j hy
    exact (g9 y k z hy (by rw [nl16 y hy]; exact (wk_Jn g j).1) j).1
  have RW : ∀ x y, gr_R a b on (fun x => x < n) x y → m0 < o x → m0 < o y := by
    intro x y r hx
    exact r (fun x => m0 < o x) (wk_cl g (fun k h => h) (fun k x y _ j _ _ h => clW x k y j h)) hx
  refine ⟨g1, g2, g3, ?_, ?_, B.1, ?_, h1, ?_⟩
  · intro y k z j hy
    by_cases c : m0 < o y
    · have := clW y k z j c
      omega
    · exact (g11 y k z j hy (by omega)).1
  · intro p hp
    by_cases c : m0 < o p
    · rw [r1 p c]
      refine ⟨wk_RW g G0 c, inn root (by omega), fun r hr hR => ?_⟩
      have q1 := RW p r (gr_sy hR) c
      have q2 := r2 r hr
      have q3 := (o1 r q2).1
      have q4 := z2 r
      omega
    · have q := o2 p hp (by omega)
      rw [(o1 p q).2]
      exact z5 p q
  · intro k hk' ha hb
    by_cases c : m0 < o (a k)
    · by_cases ex : ∃ x, m0 < o x ∧ x ≠ root ∧ cb x = k
      · obtain ⟨x, x1, x2, x3⟩ := ex
        rw [← x3] at hb ⊢
        exact B.2 x (fin x x1 x2) x2 hb
      · exfalso
        apply hb.2
        have kn := g k hk'
        have cb' := clW (a k) k (b k) ⟨hk', Or.inl ⟨rfl, rfl⟩⟩ c
        have rr : ∀ x, m0 < o x → gr_R a b (fun j => on j ∧ j ≠ k) (fun x => x < n) root x := by
          intro x hx
          refine wk_TO G0 met (fun y p1 p2 p3 p4 p5 => ⟨⟨p4.1, fun e => ex ⟨y, p1, p3, e⟩⟩, (wk_Jn g p4).2.1, (wk_Jn g p4).2.2.1⟩) (o x) x (Nat.le_refl _) hx (g2 x)
        exact gr_tr (gr_sy (rr _ c)) (rr _ cb')
    · have q := o2 (a k) ha (by omega)
      exact b0 k (z7 k hk' q hb)
  · intro u hu hh
    by_cases c : m0 < o u
    · apply Classical.byContradiction
      intro nw
      obtain ⟨un, x, y, hx, hy, r, nr⟩ := hh
      apply nr
      -- without u, x and y
      have tog : m0 < o x → gr_R a b on (fun x => x < n ∧ x ≠ u) x y := by
        intro cx
        have cy := RW x y r cx
        by_cases e : u = root
        · subst e
          have hang : ∀ q, m0 < o q → q ≠ u → wk_h m0 o la u q := by
            intro q hq qu
            refine ⟨fin q hq qu, ?_, fun r hr => Or.inl (g5 r hr)⟩
            have : o q ≠ o u := fun w => qu (g3 q u w (by omega))
            omega
          have rb1 : rb = 1 := by
            have : ¬ 2 ≤ rb := fun w => nw (h6 w)
            have : rb ≠ 0 := fun w => h3 w x (hang x cx hx.2)
            omega
          obtain ⟨c0, k⟩ := h5 rb1
          exact gr_tr (k x (hang x cx hx.2)) (gr_sy (k y (hang y cy hy.2)))
        · have all : ∀ (i q : Nat), o q ≤ i → m0 < o q → q ≠ u → gr_R a b on (fun x => x < n ∧ x ≠ u) q root := by
            intro i
            induction i with
            | zero => intro q h1 h2; omega
            | succ i ih =>
              intro q q1 q2 q3
              by_cases e2 : q = root
              · rw [e2]; exact gr_rf root
              · by_cases e3 : o u < o q ∧ o q ≤ la u
                · exact h2 u c e nw q (Or.inl ⟨fin u c e, e3.1, e3.2⟩)
                · obtain ⟨c1, c2, c3, c4⟩ := g6 q q2 e2
                  have cu : cf q ≠ u := by
                    intro w
                    rw [w] at c2 c4
                    exact e3 ⟨c2, c4 (fin u c e)⟩
                  exact gr_tr (wk_e c3 c3.1 ⟨(wk_Jn g c3).2.1, q3⟩ ⟨(wk_Jn g c3).2.2.1, cu⟩) (ih (cf q) (by omega) c1 cu)
          exact gr_tr (all (o x) x (Nat.le_refl _) cx hx.2) (gr_sy (all (o y) y (Nat.le_refl _) cy hy.2))
      by_cases cx : m0 < o x
      · exact tog cx
      · -- x's group hasn't u
        intro S cS sx
        have := r (fun z => S z ∧ ¬ m0 < o z) (wk_cl g (fun k h => h) (fun k v w _ j hv hw h => by
          have w1 : ¬ m0 < o w := fun q => h.2 (clW w k v (wk_Js j) q)
          refine ⟨?_, w1⟩
          have vu : v ≠ u := by intro e; rw [e] at h; exact h.2 c
          have wu : w ≠ u := by intro e; rw [e] at w1; exact w1 c
          exact wk_e (u := on) (q := fun x => x < n ∧ x ≠ u) j j.1 ⟨hv, vu⟩ ⟨hw, wu⟩ S cS h.1)) ⟨sx, cx⟩
        exact this.1
    · have q := o2 u hu (by omega)
      exact b1 u (z9 u q hh)
/-! the beginning of a walk -/
theorem wk_start (g : wk_0 n on a b) {root m0 WB WH : Nat} {o lo cf cb nl ro : Nat → Nat} (Z : wk_Z n on a b m0 WB WH o ro) (rn : root < n) (hr : o root = 0) :
    wk_G n on a b root m0 root (m0 + 1) (wk_u o root (m0 + 1)) (wk_u cf root root) (wk_u cb root 99) (wk_u nl root 0) (fun _ => 0) ∧
    wk_L on a b m0 (wk_u o root (m0 + 1)) (wk_u lo root (m0 + 1)) (wk_u cb root 99) (wk_u nl root 0) (fun _ => 0) ∧
    wk_B n on a b root WB (wk_u cb root 99) (fun _ => 0) ∧
    wk_H n on a b root m0 0 WH (wk_u o root (m0 + 1)) (wk_u cf root root) (fun _ => 0) := by
  obtain ⟨z1, z2, z3, z4, z5, z6, z7, z8, z9⟩ := Z
  have on1 : ∀ p, m0 < wk_u o root (m0 + 1) p → p = root := by
    intro p hp
    apply Classical.byContradiction
    intro e
    rw [wk_un o _ e] at hp
    have := z2 p
    omega
  refine ⟨⟨?_, ?_, ?_, ⟨by omega, wk_us _ _ _, ⟨by rw [wk_us]; omega, rfl⟩, ⟨by rw [wk_us]; omega, rfl⟩, by rw [wk_us]; omega⟩, ?_, ?_, ?_, ?_, ?_, ?_, ?_, ?_⟩, ?_, ⟨z6, fun c h => absurd rfl h⟩, ⟨z8, ?_, ?_, ?_, ?_, ?_⟩⟩
  · intro p hp
    rw [wk_un o _ (by omega)]
    exact z1 p hp
  · intro p
    by_cases e : p = root
    · rw [e, wk_us]; omega
    · rw [wk_un o _ e]
      have := z2 p
      omega
  · intro p r e0 e1
    by_cases e : p = root
    · by_cases f : r = root
      · rw [e, f]
      · rw [e, wk_us, wk_un o _ f] at e0
        have := z2 r
        omega
    · rw [wk_un o _ e] at e0 e1
      by_cases f : r = root
      · rw [f, wk_us] at e0
        have := z2 p
        omega
      · rw [wk_un o _ f] at e0
        exact z3 p r e0 e1
  · intro p hp
    rw [on1 p hp.1]
    exact Nat.le_refl _
  · intro p hp h
    exact absurd (on1 p hp) h
  · intro p hp h
    exact absurd (on1 p hp.1) h
  · intro p hp
    exact absurd rfl hp
  · intro y k z hy hk
    rw [on1 y hy, wk_us] at hk
    omega
  · intro c q hc hq h
    rw [on1 c hc.1, on1 q hq] at h
    omega
  · intro y k z j h1 h2
    have yr : y ≠ root := by intro e; rw [e, wk_us] at h2; omega
    rw [wk_un o _ yr] at h1
    have := z4 y k z j h1
    have zr : z ≠ root := by intro e; rw [e] at this; exact this hr
    rw [wk_un o _ zr]
    exact ⟨this, z2 z⟩
  · intro p hp
    rw [on1 p hp, wk_us]
    omega
  · intro p hp
    rw [on1 p hp.1]
    unfold wk_L1
    rw [wk_us, wk_us, wk_us, wk_us]
    exact ⟨Nat.le_refl _, fun k z h => by omega, fun q k z h => absurd rfl h.1, Or.inl rfl⟩
  · intro u hu ur
    exact absurd (on1 u hu) ur
  · intro _ q h
    exact h.1 rfl
  · intro h
    omega
  · intro h
    omega
  · intro h
    omega
end
/-! how many steps are left -/
def wk_s (f : Nat → Nat) : Nat → Nat
  | 0 => 0
  | n + 1 => wk_s f n + f n
theorem wk_s_le {f h : Nat → Nat} : ∀ n, (∀ i, i < n → f i ≤ h i) → wk_s f n ≤ wk_s h n := by
  intro n
  induction n with
  | zero => intro _; exact Nat.le_refl _
  | succ n ih =>
    intro k
    have x := ih (fun i hi => k i (by omega))
    have y := k n (by omega)
    show wk_s f n + f n ≤ wk_s h n + h n
    omega
theorem wk_s_lt {f h : Nat → Nat} (x : Nat) : ∀ n, (∀ i, i < n → f i ≤ h i) → x < n → f x < h x → wk_s f n < wk_s h n := by
  intro n
  induction n with
  | zero => intro _ h; omega
  | succ n ih =>
    intro k hx hl
    show wk_s f n + f n < wk_s h n + h n
    have y := k n (by omega)
    by_cases e : x = n
    · have z := wk_s_le n (fun i hi => k i (by omega))
      rw [e] at hl
      omega
    · have z := ih (fun i hi => k i (by omega)) (by omega) hl
      omega
theorem wk_s_ge {f : Nat → Nat} (x : Nat) : ∀ n, x < n → f x ≤ wk_s f n := by
  intro n
  induction n with
  | zero => intro h; omega
  | succ n ih =>
    intro h
    show f x ≤ wk_s f n + f n
    by_cases e : x = n
    · rw [e]; omega
    · have := ih (by omega)
      omega
theorem wk_s_b {f : Nat → Nat} {c : Nat} : ∀ n, (∀ i, i < n → f i ≤ c) → wk_s f n ≤ n * c := by
  intro n
  induction n with
  | zero => intro _; exact Nat.zero_le _
  | succ n ih =>
    intro h
    have x := ih (fun i hi => h i (by omega))
    have y := h n (by omega)
    show wk_s f n + f n ≤ (n + 1) * c
    rw [Nat.succ_mul]
    omega
/-- what point p still costs -/
def wk_m (m0 : Nat) (o nl la : Nat → Nat) (p : Nat) : Nat := if o p = 0 then 17 else if m0 < o p ∧ la p = 0 then 17 - nl p else 0
def wk_M (m0 : Nat) (o nl la : Nat → Nat) : Nat := wk_s (wk_m m0 o nl la) 8
theorem wk_Mb (m0 : Nat) (o nl la : Nat → Nat) : wk_M m0 o nl la ≤ 136 := wk_s_b (c := 17) 8 (fun i _ => by unfold wk_m; split <;> (try split) <;> omega)
theorem wk_Mp {m0 : Nat} {o nl la : Nat → Nat} {p : Nat} (h8 : p < 8) (h : wk_P m0 o la p) (hn : nl p ≤ 16) : 1 ≤ wk_M m0 o nl la := by
  have x := wk_s_ge (f := wk_m m0 o nl la) p 8 h8
  have y : 1 ≤ wk_m m0 o nl la p := by
    unfold wk_m
    have := h.1
    have h' : m0 < o p ∧ la p = 0 := h
    rw [if_neg (by omega), if_pos h']
    omega
  unfold wk_M
  omega
theorem wk_Mlook {m0 : Nat} {o nl la : Nat → Nat} {t : Nat} (h8 : t < 8) (h : wk_P m0 o la t) (hn : nl t < 16) : wk_M m0 o (wk_u nl t (nl t + 1)) la < wk_M m0 o nl la := by
  have h1 := h.1
  have h' : m0 < o t ∧ la t = 0 := h
  apply wk_s_lt t 8 _ h8
  · unfold wk_m
    rw [if_neg (by omega), if_pos h', if_neg (by omega), if_pos h', wk_us]
    omega
  · intro i _
    unfold wk_m
    by_cases e : i = t
    · rw [e, if_neg (by omega), if_pos h', if_neg (by omega), if_pos h', wk_us]
      omega
    · rw [wk_un nl _ e]
      exact Nat.le_refl _
theorem wk_Mmeet {m0 met : Nat} {o nl la : Nat → Nat} {t z : Nat} (h8 : t < 8) (h : wk_P m0 o la t) (hn : nl t < 16) (hz : o z = 0) (tz : t ≠ z) : wk_M m0 (wk_u o z (met + 1)) (wk_u (wk_u nl t (nl t + 1)) z 0) la < wk_M m0 o nl la := by
  have h1 := h.1
  have h' : m0 < o t ∧ la t = 0 := h
  apply wk_s_lt t 8 _ h8
  · unfold wk_m
    rw [wk_un o _ tz, if_neg (by omega), if_pos h', if_neg (by omega), if_pos h', wk_un _ _ tz, wk_us]
    omega
  · intro i _
    unfold wk_m
    by_cases e : i = z
    · rw [e, wk_us, wk_us, hz, if_neg (by omega), if_pos rfl]
      split <;> omega
    · rw [wk_un o _ e, wk_un _ _ e]
      by_cases f : i = t
      · rw [f, if_neg (by omega), if_pos h', if_neg (by omega), if_pos h', wk_us]
        omega
      · rw [wk_un nl _ f]
        exact Nat.le_refl _
theorem wk_Mleave {m0 met : Nat} {o nl la : Nat → Nat} {t : Nat} (h8 : t < 8) (h : wk_P m0 o la t) (hn : nl t = 16) (hm : met ≠ 0) : wk_M m0 o nl (wk_u la t met) < wk_M m0 o nl la := by
  have h1 := h.1
  have h' : m0 < o t ∧ la t = 0 := h
  apply wk_s_lt t 8 _ h8
  · unfold wk_m
    rw [if_neg (by omega), if_neg (by rw [wk_us]; omega), if_neg (by omega), if_pos h']
    omega
  · intro i _
    unfold wk_m
    by_cases e : i = t
    · rw [e, if_neg (by omega), if_neg (by rw [wk_us]; omega)]
      exact Nat.zero_le _
    · rw [wk_un la _ e]
      exact Nat.le_refl _

/-! Y: its methods against the same values -/
def cx_Y (L : Nat) (A B : Nat → Nat) (th ya yb : Nat → Int32) : Prop := ∀ k, k < 16 → th k = (if L.testBit k = true then 1 else 0) ∧ (L.testBit k = true → ya k = nI (A k) ∧ yb k = nI (B k))
theorem cx_th {L : Nat} {A B : Nat → Nat} {th ya yb : Nat → Int32} (hY : cx_Y L A B th ya yb) {k : Nat} (hk : k < 16) : th (nI k).toNatClampNeg = 0 ↔ ¬ L.testBit k = true := by
  rw [nI_clamp (by omega), (hY k hk).1]
  by_cases c : L.testBit k = true
  · rw [if_pos c]
    exact ⟨fun q => absurd q (by decide), fun q => absurd c q⟩
  · rw [if_neg c]
    exact ⟨fun _ => c, fun _ => rfl⟩
theorem sp_yB {A B : Nat → Nat} {us kp r : Nat} (hk : kp < 256) : ∀ i, gr_it (fun s => sp_y A B us s 16 &&& kp) i (r &&& kp) < 256 := by
  intro i
  cases i with
  | zero => exact Nat.and_lt_two_pow (n := 8) r hk
  | succ i => exact Nat.and_lt_two_pow (n := 8) _ hk
theorem yl_engX {x : Int32} : (x = 0 ∨ x = 1 ∨ x = 2) ↔ (¬ x < 0 ∧ ¬ 2 < x) := by
  constructor
  · rintro (h | h | h) <;> rw [h] <;> decide
  · rintro ⟨h1, h2⟩
    obtain ⟨j, hj, e⟩ := nI_of h1
    rw [e] at h2
    have : ¬ 2 < j := fun w => h2 (nI_lt (a := 2) w hj)
    have : j = 0 ∨ j = 1 ∨ j = 2 := by omega
    rcases this with w | w | w
    · exact Or.inl (by rw [e, w]; rfl)
    · exact Or.inr (Or.inl (by rw [e, w]; rfl))
    · exact Or.inr (Or.inr (by rw [e, w]; rfl))
section
variable {n L : Nat} {A B : Nat → Nat} {th ya yb : Nat → Int32}
theorem yl_engine {post : Int32 → Prop} {x : Int32} (h1 : (x = 0 ∨ x = 1 ∨ x = 2) → post 1) (h0 : ¬ (x = 0 ∨ x = 1 ∨ x = 2) → post 0) : wpY_engine post (nI n, th, ya, yb) x := by
  by_cases a : x < 0
  · exact br_t a (h0 (fun w => (yl_engX.mp w).1 a))
  · by_cases b : 2 < x
    · exact br_f a (br_t b (h0 (fun w => (yl_engX.mp w).2 b)))
    · exact br_f a (br_f b (h1 (yl_engX.mpr ⟨a, b⟩)))
theorem yl_is {post : Int32 → Prop} {x : Int32} (hY : cx_Y L A B th ya yb) (h1 : ∀ j, j < 16 → x = nI j → L.testBit j = true → post 1) (h0 : (∀ j, j < 16 → x = nI j → ¬ L.testBit j = true) → post 0) : wpY_is post (nI n, th, ya, yb) x := by
  rcases pk_ix x (n := 16) (by omega) with h | h | ⟨j, hj, rfl⟩
  · exact br_t h (h0 (fun j hj e => absurd h (by rw [e]; exact nI_pos (by omega))))
  · have q : ¬ x < 0 := by
      intro q
      have : (nI 16) < 0 := Int32.lt_of_le_of_lt h q
      exact absurd this (by decide)
    exact br_f q (br_t h (h0 (fun j hj e => absurd h (by rw [e]; exact nI_ge hj (by omega)))))
  · exact br_f (nI_pos (by omega)) (br_f (nI_ge (b := 16) hj (by omega)) ⟨vp_in_nI hj (by omega), ek_if (cx_th hY hj) (fun w => h0 (fun i hi e => by rw [← (nI_eq (by omega) (by omega)).mp e]; exact w)) (fun w => h1 j hj rfl (Classical.byContradiction w))⟩)
theorem yl_point {post : Int32 → Prop} {x : Int32} (hn : n ≤ 8) (h1 : ∀ j, j < n → x = nI j → post 1) (h0 : (∀ j, j < n → ¬ x = nI j) → post 0) : wpY_point post (nI n, th, ya, yb) x := by
  rcases pk_ix x (n := n) (by omega) with h | h | ⟨j, hj, rfl⟩
  · exact br_t h (h0 (fun j hj e => absurd h (by rw [e]; exact nI_pos (by omega))))
  · by_cases q : x < 0
    · exact br_t q (h0 (fun j hj e => absurd q (by rw [e]; exact nI_pos (by omega))))
    · exact br_f q (br_t h (h0 (fun j hj e => absurd h (by rw [e]; exact nI_ge hj (by omega)))))
  · exact br_f (nI_pos (by omega)) (br_f (nI_ge hj (by omega)) (h1 j hj rfl))
theorem yl_all {post : Int32 → Prop} (hn : n ≤ 8) (k : post (nI (2 ^ n - 1))) : wpY_all post (nI n, th, ya, yb) := by
  show post (((1 : Int32) <<< (nI n &&& 31)) - 1)
  rw [bi_all (by omega)]
  exact k
theorem yl_lines {post : Int32 → Prop} (g : cx_G n L A B) (hY : cx_Y L A B th ya yb) (k : post (nI L)) : wpY_lines post (nI n, th, ya, yb) := by
  have e16 : pv_m (fun k => L.testBit k = true) 16 = L := (pv_mI (fun k => ⟨fun h => ⟨pv_lt (n := 16) g.2.1 h, h⟩, fun h => h.2⟩)).symm
  have a : ∀ f i, 16 < f + i → i ≤ 16 → wY_lines_4 post (nI n) th ya yb f (nI (pv_m (fun k => L.testBit k = true) i)) (nI i) := by
    intro f
    induction f with
    | zero => intro i h h'; omega
    | succ f ih =>
      intro i h h'
      rw [wY_lines_4]
      by_cases e : i = 16
      · subst e
        refine br_t (nI_le (b := 16) (by omega) (by omega)) ?_
        rw [e16]
        exact k
      · have i16 : i < 16 := by omega
        have nxt := ih (i + 1) (by omega) (by omega)
        refine br_f (nI_ge (b := 16) (by omega) (by omega)) ⟨vp_in_nI i16 (by omega), ek_if (cx_th hY i16) (fun w => nm_r (nI_1 i) ?_) (fun w => ?_)⟩
        · rw [pv_mN (P := fun k => L.testBit k = true) (n := i) w] at nxt
          exact nxt
        · rw [pv_mP (P := fun k => L.testBit k = true) (n := i) (Classical.byContradiction w)] at nxt
          exact nm_r (by rw [bi_1 (by omega), bi_or]) (nm_r (nI_1 i) nxt)
  exact ⟨17, a 17 0 (by omega) (by omega)⟩
theorem yl_step {post : Int32 → Prop} (g : cx_G n L A B) (hY : cx_Y L A B th ya yb) {s us kp : Nat} (hu : ∀ k, k < 16 → us.testBit k = true → L.testBit k = true) (u16 : us < 65536) (s8 : s < 256) (k : post (nI (sp_y A B us s 16 &&& kp))) : wpY_step post (nI n, th, ya, yb) (nI s) (nI us) (nI kp) := by
  have n8 := g.1.2
  have a : ∀ f i, 16 < f + i → i ≤ 16 → wY_step_6 post (nI s) (nI us) (nI kp) (nI n) th ya yb f (nI (sp_y A B us s i)) (nI i) := by
    intro f
    induction f with
    | zero => intro i h h'; omega
    | succ f ih =>
      intro i h h'
      rw [wY_step_6]
      by_cases e : i = 16
      · subst e
        refine br_t (nI_le (b := 16) (by omega) (by omega)) ?_
        rw [nx_and]
        exact k
      · have i16 : i < 16 := by omega
        have c : (nI i).toNatClampNeg = i := nI_clamp (by omega)
        have v : vp_in (nI i) 16 := vp_in_nI i16 (by omega)
        have nxt := ih (i + 1) (by omega) (by omega)
        have es : sp_y A B us s (i + 1) = (if us.testBit i = true then (if s.testBit (B i) = true then (if s.testBit (A i) = true then sp_y A B us s i ||| 2 ^ (B i) else sp_y A B us s i) ||| 2 ^ (A i) else (if s.testBit (A i) = true then sp_y A B us s i ||| 2 ^ (B i) else sp_y A B us s i)) else sp_y A B us s i) := rfl
        rw [es] at nxt
        refine br_f (nI_ge (b := 16) (by omega) (by omega)) (ek_if (bi_b1 (by omega) (by omega)) (fun u => ?_) (fun u => nm_r (nI_1 i) ?_))
        · obtain ⟨ea, eb⟩ := (hY i i16).2 (hu i i16 u)
          obtain ⟨g1, g2, g3⟩ := g.2.2 i i16 (hu i i16 u)
          rw [if_pos u] at nxt
          have s55 : ∀ w, wY_step_6 post (nI s) (nI us) (nI kp) (nI n) th ya yb f (nI (if s.testBit (B i) = true then w ||| 2 ^ (A i) else w)) (nI (i + 1)) → wY_step_55 post (wY_step_6 post (nI s) (nI us) (nI kp) (nI n) th ya yb f) (nI s) (nI us) (nI kp) (nI i) (nI w) (nI n) th ya yb := by
            intro w hw
            refine ⟨v, ek_if (d := s.testBit (B i) = true) (by rw [c, eb]; exact bi_b1 (by omega) (by omega)) (fun q => ?_) (fun q => nm_r (nI_1 i) ?_)⟩
            · rw [if_pos q] at hw
              exact ⟨v, nm_r (by rw [c, ea, bi_1 (by omega), bi_or]) (nm_r (nI_1 i) hw)⟩
            · rw [if_neg q] at hw
              exact hw
          refine ⟨v, ek_if (d := s.testBit (A i) = true) (by rw [c, ea]; exact bi_b1 (by omega) (by omega)) (fun q => ⟨v, ?_⟩) (fun q => ?_)⟩
          · rw [if_pos q] at nxt
            rw [c, eb, bi_1 (by omega), bi_or]
            exact s55 _ nxt
          · rw [if_neg q] at nxt
            exact s55 _ nxt
        · rw [if_neg u] at nxt
          exact nxt
  exact ⟨17, a 17 0 (by omega) (by omega)⟩
theorem yl_joined {post : Int32 → Prop} (g : cx_G n L A B) (hY : cx_Y L A B th ya yb) {st us kp : Nat} (hu : ∀ k, k < 16 → us.testBit k = true → L.testBit k = true) (u16 : us < 65536) (k8 : kp < 256) (k : post (nI (sp_X A B us kp st))) : wpY_joined post (nI n, th, ya, yb) (nI st) (nI us) (nI kp) := by
  have a : ∀ f i, 8 < f + i → i ≤ 8 → wY_joined_8 post (nI us) (nI kp) (nI n) th ya yb f (nI (gr_it (fun s => sp_y A B us s 16 &&& kp) i (st &&& kp))) (nI i) := by
    intro f
    induction f with
    | zero => intro i h h'; omega
    | succ f ih =>
      intro i h h'
      rw [wY_joined_8]
      by_cases e : i = 8
      · subst e
        refine br_t (nI_le (b := 8) (by omega) (by omega)) ?_
        rw [sp_XY A B us kp k8 st] at k
        exact k
      · refine br_f (nI_ge (b := 8) (by omega) (by omega)) ?_
        refine yl_step g hY hu u16 (sp_yB k8 i) ?_
        exact nm_r (nI_1 i) (ih (i + 1) (by omega) (by omega))
  exact nm_r (nx_and st kp) ⟨9, a 9 0 (by omega) (by omega)⟩
theorem yl_many {post : Int32 → Prop} (g : cx_G n L A B) (hY : cx_Y L A B th ya yb) {kp us : Nat} (hu : ∀ k, k < 16 → us.testBit k = true → L.testBit k = true) (u16 : us < 65536) (k8 : kp < 256) (k : post (nI (pv_g A B us kp))) : wpY_many post (nI n, th, ya, yb) (nI us) (nI kp) := by
  have a : ∀ f p, 8 < f + p → p ≤ 8 → wY_many_8 post (nI us) (nI kp) (nI n) th ya yb f (nI (gc_s (fun p => sp_X A B us kp (2 ^ p)) kp p).1) (nI (gc_s (fun p => sp_X A B us kp (2 ^ p)) kp p).2) (nI p) := by
    intro f
    induction f with
    | zero => intro p h h'; omega
    | succ f ih =>
      intro p h h'
      rw [wY_many_8]
      by_cases e : p = 8
      · subst e
        exact br_t (nI_le (b := 8) (by omega) (by omega)) k
      · have b8 := gc_B (cl := fun p => sp_X A B us kp (2 ^ p)) k8 p
        refine br_f (nI_ge (b := 8) (by omega) (by omega)) (ek_if (bi_b1 (by omega) (by omega)) (fun u => ?_) (fun u => ?_))
        · rw [bi_1 (by omega)]
          refine yl_joined g hY hu u16 k8 (nm_r (bi_not _ _) (nm_r (nI_1 _) (nm_r (nI_1 p) ?_)))
          have := ih (p + 1) (by omega) (by omega)
          rw [gc_P u] at this
          exact this
        · refine nm_r (nI_1 p) ?_
          have := ih (p + 1) (by omega) (by omega)
          rw [gc_N u] at this
          exact this
  exact ⟨9, a 9 0 (by omega) (by omega)⟩
theorem yl_groups {post : Int32 → Prop} (g : cx_G n L A B) (hY : cx_Y L A B th ya yb) {x : Int32} (k1 : (x = 0 ∨ x = 1 ∨ x = 2) → post (nI (pv_g A B L (2 ^ n - 1)))) (k0 : ¬ (x = 0 ∨ x = 1 ∨ x = 2) → post (-1)) : wpY_groups post (nI n, th, ya, yb) x := by
  unfold wpY_groups
  dsimp only
  refine yl_engine (fun hx => br_f (by decide) ?_) (fun hx => br_t rfl (k0 hx))
  refine yl_lines g hY ?_
  refine yl_all g.1.2 ?_
  exact yl_many g hY (fun _ _ h => h) g.2.1 (pv_a8 g.1.2) (k1 hx)
theorem yl_bridges {post : Int32 → Prop} (g : cx_G n L A B) (hY : cx_Y L A B th ya yb) {x : Int32} (k1 : (x = 0 ∨ x = 1 ∨ x = 2) → post (nI (pv_b A B n L))) (k0 : ¬ (x = 0 ∨ x = 1 ∨ x = 2) → post (-1)) : wpY_bridges post (nI n, th, ya, yb) x := by
  have n8 := g.1.2
  have a8 := pv_a8 n8
  have L16 := g.2.1
  have a : ∀ f i, 16 < f + i → i ≤ 16 → wY_bridges_4 post x (nI n) th ya yb f (nI (pv_m (fun k => L.testBit k = true ∧ pv_g A B L (2 ^ n - 1) < pv_g A B (bi_d L (2 ^ k)) (2 ^ n - 1)) i)) (nI i) := by
    intro f
    induction f with
    | zero => intro i h h'; omega
    | succ f ih =>
      intro i h h'
      rw [wY_bridges_4]
      by_cases e : i = 16
      · subst e
        refine br_t (nI_le (b := 16) (by omega) (by omega)) ?_
        exact yl_engine (fun hx => br_f (by decide) (k1 hx)) (fun hx => br_t rfl (k0 hx))
      · have i16 : i < 16 := by omega
        have nxt := ih (i + 1) (by omega) (by omega)
        have no : ¬ (L.testBit i = true ∧ pv_g A B L (2 ^ n - 1) < pv_g A B (bi_d L (2 ^ i)) (2 ^ n - 1)) → wY_bridges_56 post (wY_bridges_4 post x (nI n) th ya yb f) x (nI (pv_m (fun k => L.testBit k = true ∧ pv_g A B L (2 ^ n - 1) < pv_g A B (bi_d L (2 ^ k)) (2 ^ n - 1)) i)) (nI i) (nI n) th ya yb := by
          intro w
          rw [pv_mN (P := fun k => L.testBit k = true ∧ pv_g A B L (2 ^ n - 1) < pv_g A B (bi_d L (2 ^ k)) (2 ^ n - 1)) (n := i) w] at nxt
          exact br_t rfl (nm_r (nI_1 i) nxt)
        refine br_f (nI_ge (b := 16) (by omega) (by omega)) ⟨vp_in_nI i16 (by omega), ek_if (cx_th hY i16) (fun w => no (fun z => w z.1)) (fun w => ?_)⟩
        have u : L.testBit i = true := Classical.byContradiction w
        have g1 := pv_g8 A B (us := L) a8
        have g2 := pv_g8 A B (us := bi_d L (2 ^ i)) a8
        refine yl_lines g hY ?_
        refine yl_all n8 ?_
        rw [bi_1 (by omega), bi_not]
        refine yl_many g hY cx_dL (bi_dlt (n := 16) L16) a8 ?_
        refine yl_lines g hY ?_
        refine yl_all n8 ?_
        refine yl_many g hY (fun _ _ h => h) L16 a8 ?_
        refine pk_le (pv_g A B (bi_d L (2 ^ i)) (2 ^ n - 1)) (pv_g A B L (2 ^ n - 1)) (fun q => no (fun z => absurd z.2 (Nat.not_lt.mpr q))) (fun q => ?_)
        rw [pv_mP (P := fun k => L.testBit k = true ∧ pv_g A B L (2 ^ n - 1) < pv_g A B (bi_d L (2 ^ k)) (2 ^ n - 1)) (n := i) ⟨u, q⟩] at nxt
        exact br_f (by decide) (nm_r (by rw [bi_1 (by omega), bi_or]) (nm_r (nI_1 i) nxt))
  exact ⟨17, a 17 0 (by omega) (by omega)⟩
theorem yl_hinges {post : Int32 → Prop} (g : cx_G n L A B) (hY : cx_Y L A B th ya yb) {x : Int32} (k1 : (x = 0 ∨ x = 1 ∨ x = 2) → post (nI (pv_h A B n L))) (k0 : ¬ (x = 0 ∨ x = 1 ∨ x = 2) → post (-1)) : wpY_hinges post (nI n, th, ya, yb) x := by
  have n8 := g.1.2
  have a8 := pv_a8 n8
  have L16 := g.2.1
  have a : ∀ f i, n < f + i → i ≤ n → wY_hinges_4 post x (nI n) th ya yb f (nI (pv_m (fun p => pv_g A B L (2 ^ n - 1) < pv_g A B L (bi_d (2 ^ n - 1) (2 ^ p))) i)) (nI i) := by
    intro f
    induction f with
    | zero => intro i h h'; omega
    | succ f ih =>
      intro i h h'
      rw [wY_hinges_4]
      by_cases e : i = n
      · subst e
        refine br_t (nI_le (by omega) (by omega)) ?_
        exact yl_engine (fun hx => br_f (by decide) (k1 hx)) (fun hx => br_t rfl (k0 hx))
      · have nxt := ih (i + 1) (by omega) (by omega)
        have b8 : bi_d (2 ^ n - 1) (2 ^ i) < 256 := bi_dlt (n := 8) a8
        have g1 := pv_g8 A B (us := L) a8
        have g2 := pv_g8 A B (us := L) b8
        refine br_f (nI_ge (by omega) (by omega)) ?_
        refine yl_lines g hY ?_
        refine yl_all n8 ?_
        rw [bi_1 (by omega), bi_not]
        refine yl_many g hY (fun _ _ h => h) L16 b8 ?_
        refine yl_lines g hY ?_
        refine yl_all n8 ?_
        refine yl_many g hY (fun _ _ h => h) L16 a8 ?_
        refine pk_le (pv_g A B L (bi_d (2 ^ n - 1) (2 ^ i))) (pv_g A B L (2 ^ n - 1)) (fun q => nm_r (nI_1 i) ?_) (fun q => ?_)
        · rw [pv_mN (P := fun p => pv_g A B L (2 ^ n - 1) < pv_g A B L (bi_d (2 ^ n - 1) (2 ^ p))) (n := i) (Nat.not_lt.mpr q)] at nxt
          exact nxt
        · rw [pv_mP (P := fun p => pv_g A B L (2 ^ n - 1) < pv_g A B L (bi_d (2 ^ n - 1) (2 ^ p))) (n := i) q] at nxt
          exact nm_r (by first | rw [bi_1 (by omega), bi_or] | rw [bi_or]) (nm_r (nI_1 i) nxt)
  exact ⟨n + 1, a (n + 1) 0 (by omega) (by omega)⟩
theorem yl_agree {post : Int32 → Prop} {x y : Int32} (k1 : (x = 0 ∨ x = 1 ∨ x = 2) → (y = 0 ∨ y = 1 ∨ y = 2) → post 1) (k0 : ¬ ((x = 0 ∨ x = 1 ∨ x = 2) ∧ (y = 0 ∨ y = 1 ∨ y = 2)) → post 0) : wpY_agree post (nI n, th, ya, yb) x y := by
  unfold wpY_agree
  dsimp only
  refine yl_engine (fun hx => br_f (by decide) ?_) (fun hx => br_t rfl (k0 (fun w => hx w.1)))
  exact yl_engine (fun hy => br_f (by decide) (k1 hx hy)) (fun hy => br_t rfl (k0 (fun w => hy w.2)))
theorem yl_ends {post : Int32 → Prop} (g : cx_G n L A B) (hY : cx_Y L A B th ya yb) {k : Nat} (hk : k < 16) (lk : L.testBit k = true) (kk : post (nI (bi_e (A k) (B k)))) : wpY_ends post (nI n, th, ya, yb) (nI k) := by
  have n8 := g.1.2
  have v : vp_in (nI k) 16 := vp_in_nI hk (by omega)
  have c : (nI k).toNatClampNeg = k := nI_clamp (by omega)
  obtain ⟨ea, eb⟩ := (hY k hk).2 lk
  obtain ⟨g1, g2, g3⟩ := g.2.2 k hk lk
  refine ⟨v, v, ?_⟩
  rw [c, ea, eb, bi_1 (by omega), bi_1 (by omega), bi_or]
  exact kk
theorem yl_tog0 {post : Int32 → Prop} {x1 x2 x3 : Int32} (hn : n ≤ 8) (k : post 0) : ∀ f p, n < f + p → p ≤ n → wY_together_23 post x1 x2 x3 (nI n) th ya yb f 0 (nI p) := by
  intro f
  induction f with
  | zero => intro p h h'; omega
  | succ f ih =>
    intro p h h'
    rw [wY_together_23]
    by_cases e : p = n
    · subst e
      exact br_t (nI_le (by omega) (by omega)) ⟨rfl, k⟩
    · exact br_f (nI_ge (by omega) (by omega)) (br_t rfl (nm_r (nI_1 p) (ih (p + 1) (by omega) (by omega))))
theorem yl_together {post : Int32 → Prop} (g : cx_G n L A B) (hY : cx_Y L A B th ya yb) {k l : Nat} (hk : k < 16) (lk : L.testBit k = true) (hl : l < 16) (ll : L.testBit l = true) (h1 : (∀ p, p < n → ¬ (sp_X A B (bi_d (bi_d L (2 ^ k)) (2 ^ l)) (bi_d (2 ^ n - 1) (2 ^ p)) (bi_e (A k) (B k)) &&& bi_e (A l) (B l) = 0)) → post 1) (h0 : ¬ (∀ p, p < n → ¬ (sp_X A B (bi_d (bi_d L (2 ^ k)) (2 ^ l)) (bi_d (2 ^ n - 1) (2 ^ p)) (bi_e (A k) (B k)) &&& bi_e (A l) (B l) = 0)) → post 0) : wpY_together post (nI n, th, ya, yb) (nI k) (nI l) := by
  have n8 := g.1.2
  have a8 := pv_a8 n8
  unfold wpY_together
  dsimp only
  refine yl_lines g hY ?_
  refine nm_r (e' := nI (bi_d (bi_d L (2 ^ k)) (2 ^ l))) (by rw [bi_1 (by omega), bi_not, bi_1 (by omega), bi_not]) ⟨n + 1, ?_⟩
  have a : ∀ f p, n < f + p → p ≤ n → (∀ q, q < p → ¬ (sp_X A B (bi_d (bi_d L (2 ^ k)) (2 ^ l)) (bi_d (2 ^ n - 1) (2 ^ q)) (bi_e (A k) (B k)) &&& bi_e (A l) (B l) = 0)) → wY_together_23 post (nI k) (nI l) (nI (bi_d (bi_d L (2 ^ k)) (2 ^ l))) (nI n) th ya yb f 1 (nI p) := by
    intro f
    induction f with
    | zero => intro p h h'; omega
    | succ f ih =>
      intro p h h' hq
      rw [wY_together_23]
      by_cases e : p = n
      · subst e
        exact br_t (nI_le (by omega) (by omega)) ⟨rfl, h1 hq⟩
      · have k8 : bi_d (2 ^ n - 1) (2 ^ p) < 256 := bi_dlt (n := 8) a8
        refine br_f (nI_ge (by omega) (by omega)) (br_f (by decide) ?_)
        refine yl_ends g hY hk lk ?_
        refine yl_all n8 ?_
        rw [bi_1 (by omega), bi_not]
        refine yl_joined g hY (fun j _ w => ((pv_dT _ _ _).mp ((pv_dT _ _ _).mp w).1).1) (bi_dlt (n := 16) (bi_dlt (n := 16) g.2.1)) k8 ?_
        refine yl_ends g hY hl ll ?_
        refine ek_if (d := sp_X A B (bi_d (bi_d L (2 ^ k)) (2 ^ l)) (bi_d (2 ^ n - 1) (2 ^ p)) (bi_e (A k) (B k)) &&& bi_e (A l) (B l) = 0) (by rw [nx_and, bi_z (Nat.lt_trans (Nat.and_lt_two_pow (n := 8) _ (cx_e8 g hl ll)) (by omega))]) (fun w => nm_r (nI_1 p) ?_) (fun w => nm_r (nI_1 p) (ih (p + 1) (by omega) (by omega) (fun q hq' => ?_)))
        · exact yl_tog0 n8 (h0 (fun z => z p (by omega) w)) f (p + 1) (by omega) (by omega)
        · by_cases e2 : q = p
          · rw [e2]; exact w
          · exact hq q (by omega)
  exact a (n + 1) 0 (by omega) (by omega) (fun q hq => by omega)
def yl_bl (A B : Nat → Nat) (n L k : Nat) (l : Nat) : Prop := L.testBit l = true ∧ l ≠ k ∧ ∀ p, p < n → ¬ (sp_X A B (bi_d (bi_d L (2 ^ k)) (2 ^ l)) (bi_d (2 ^ n - 1) (2 ^ p)) (bi_e (A k) (B k)) &&& bi_e (A l) (B l) = 0)
theorem yl_block {post : Int32 → Prop} (g : cx_G n L A B) (hY : cx_Y L A B th ya yb) {x : Int32} (k1 : ∀ k, k < 16 → x = nI k → L.testBit k = true → post (nI (2 ^ k ||| pv_m (yl_bl A B n L k) 16))) (k0 : (∀ k, k < 16 → x = nI k → ¬ L.testBit k = true) → post (-1)) : wpY_block post (nI n, th, ya, yb) x := by
  unfold wpY_block
  dsimp only
  refine yl_is hY (fun k hk ek lk => br_f (by decide) ?_) (fun h => br_t rfl (k0 h))
  subst ek
  refine nm_r (bi_1 (by omega)) ⟨17, ?_⟩
  have a : ∀ f i, 16 < f + i → i ≤ 16 → wY_block_16 post (nI k) (nI n) th ya yb f (nI (2 ^ k ||| pv_m (yl_bl A B n L k) i)) (nI i) := by
    intro f
    induction f with
    | zero => intro i h h'; omega
    | succ f ih =>
      intro i h h'
      rw [wY_block_16]
      by_cases e : i = 16
      · subst e
        exact br_t (nI_le (b := 16) (by omega) (by omega)) (k1 k hk rfl lk)
      · have i16 : i < 16 := by omega
        have nxt := ih (i + 1) (by omega) (by omega)
        have no : ¬ yl_bl A B n L k i → wY_block_16 post (nI k) (nI n) th ya yb f (nI (2 ^ k ||| pv_m (yl_bl A B n L k) i)) (nI (i + 1)) := by
          intro w
          rw [pv_mN w] at nxt
          exact nxt
        refine br_f (nI_ge (b := 16) (by omega) (by omega)) ⟨vp_in_nI i16 (by omega), ek_if (cx_th hY i16) (fun w => nm_r (nI_1 i) (no (fun z => w z.1))) (fun w => pk_eq i k (fun q => nm_r (nI_1 i) (no (fun z => z.2.1 q))) (fun q => ?_))⟩
        have u : L.testBit i = true := Classical.byContradiction w
        refine yl_together g hY hk lk i16 u (fun z => br_f (by decide) ?_) (fun z => br_t rfl (nm_r (nI_1 i) (no (fun y => z y.2.2))))
        rw [pv_mP ⟨u, q, z⟩, ← Nat.or_assoc] at nxt
        exact nm_r (by rw [bi_1 (by omega), bi_or]) (nm_r (nI_1 i) nxt)
  have := a 17 0 (by omega) (by omega)
  rw [pv_m0, Nat.or_zero] at this
  exact this
theorem yl_island {post : Int32 → Prop} (g : cx_G n L A B) (hY : cx_Y L A B th ya yb) {x : Int32} (k1 : ∀ p, p < n → x = nI p → post (nI (sp_X A B (bi_d L (pv_b A B n L)) (2 ^ n - 1) (2 ^ p)))) (k0 : (∀ p, p < n → ¬ x = nI p) → post (-1)) : wpY_island post (nI n, th, ya, yb) x := by
  have n8 := g.1.2
  unfold wpY_island
  dsimp only
  refine yl_point n8 (fun p hp ep => br_f (by decide) ?_) (fun h => br_t rfl (k0 h))
  refine yl_lines g hY ?_
  refine yl_bridges g hY (fun _ => ?_) (fun h => absurd (Or.inl rfl) h)
  refine yl_all n8 ?_
  subst ep
  rw [bi_1 (by omega), bi_not]
  exact yl_joined g hY (fun j _ w => ((pv_dT _ _ _).mp w).1) (bi_dlt (n := 16) g.2.1) (pv_a8 n8) (k1 p hp rfl)
end

/-! the engine of cuts over masks -/
section
variable (A B : Nat → Nat)
noncomputable def pv_x (L set kp : Nat) : Nat := pv_m (fun k => (L.testBit k = true ∧ bi_d (bi_e (A k) (B k)) kp = 0) ∧ bi_e (A k) (B k) &&& set ≠ 0 ∧ bi_d (bi_e (A k) (B k)) set ≠ 0) 16
theorem pv_xT (L set kp k : Nat) : (pv_x A B L set kp).testBit k = true ↔ ((k < 16 ∧ L.testBit k = true) ∧ (kp.testBit (A k) = true ∧ kp.testBit (B k) = true) ∧ ¬ (set.testBit (A k) = true ↔ set.testBit (B k) = true)) := by
  unfold pv_x
  have h : ∀ x y : Nat, (bi_e (A k) (B k) &&& set ≠ 0 ∧ bi_d (bi_e (A k) (B k)) set ≠ 0) ↔ ¬ (set.testBit (A k) = true ↔ set.testBit (B k) = true) := by
    intro _ _
    rw [bi_enz, ne_eq, bi_ed0]
    by_cases a : set.testBit (A k) = true <;> by_cases b : set.testBit (B k) = true <;> simp [a, b]
  rw [pv_mT, bi_ed0, h 0 0]
  constructor
  · rintro ⟨h1, ⟨h2, h3⟩, h4⟩
    exact ⟨⟨h1, h2⟩, h3, h4⟩
  · rintro ⟨⟨h1, h2⟩, h3, h4⟩
    exact ⟨h1, ⟨h2, h3⟩, h4⟩
theorem pv_x0 (L set kp : Nat) : pv_x A B L set kp = 0 ↔ gr_C A B (fun k => k < 16 ∧ L.testBit k = true) (fun p => kp.testBit p = true) (fun p => set.testBit p = true) := by
  have z := bi_nz (pv_x A B L set kp)
  constructor
  · intro e k hk ha hb
    apply Classical.byContradiction
    intro n
    exact z.mpr ⟨k, (pv_xT A B L set kp k).mpr ⟨hk, ⟨ha, hb⟩, n⟩⟩ e
  · intro c
    apply Classical.byContradiction
    intro n
    obtain ⟨k, hk⟩ := z.mp n
    obtain ⟨h1, ⟨h2, h3⟩, h4⟩ := (pv_xT A B L set kp k).mp hk
    exact h4 (c k h1 h2 h3)
theorem pv_xL (L set kp : Nat) : pv_x A B L set kp < 65536 := pv_mL _ 16
/-- how many sets no line leaves -/
noncomputable def pv_cs (L kp : Nat) : Nat := pv_c (fun s => bi_d s kp = 0 ∧ pv_x A B L s kp = 0) 256
theorem pv_csT {L kp : Nat} (h8 : kp < 256) : pv_cs A B L kp = 2 ^ (pv_g A B L kp) := by
  rw [pv_gT A B h8, ← gr_cs (fun p hp => pv_lt (n := 8) h8 hp)]
  unfold pv_cs pv_c
  apply mt_c_congr
  intro s _
  exact gr_bC ⟨fun w => ⟨(pv_d0 s kp).mp w.1, (pv_x0 A B L s kp).mp w.2⟩, fun w => ⟨(pv_d0 s kp).mpr w.1, (pv_x0 A B L s kp).mpr w.2⟩⟩
theorem pv_csL {L kp lp : Nat} (h8 : kp < 256) (g8 : lp < 256) : pv_cs A B L kp < pv_cs A B L lp ↔ pv_g A B L kp < pv_g A B L lp := by
  rw [pv_csT A B h8, pv_csT A B g8]
  exact Nat.pow_lt_pow_iff_right (by omega)
theorem pv_cs8 {L kp : Nat} : pv_cs A B L kp ≤ 256 := pv_cn _ 256
/-- the least set around p that no line leaves: sets before i -/
noncomputable def pv_lc (L p all : Nat) : Nat → Nat
  | 0 => all
  | i + 1 => if gr_b ((i.testBit p = true ∧ bi_d i all = 0) ∧ pv_x A B L i all = 0) = true then pv_lc L p all i &&& i else pv_lc L p all i
theorem pv_lcP {L p all i : Nat} (h : (i.testBit p = true ∧ bi_d i all = 0) ∧ pv_x A B L i all = 0) : pv_lc A B L p all (i + 1) = pv_lc A B L p all i &&& i := by
  show (if gr_b ((i.testBit p = true ∧ bi_d i all = 0) ∧ pv_x A B L i all = 0) = true then pv_lc A B L p all i &&& i else pv_lc A B L p all i) = _
  rw [if_pos (gr_bT.mpr h)]
theorem pv_lcN {L p all i : Nat} (h : ¬ ((i.testBit p = true ∧ bi_d i all = 0) ∧ pv_x A B L i all = 0)) : pv_lc A B L p all (i + 1) = pv_lc A B L p all i := by
  show (if gr_b ((i.testBit p = true ∧ bi_d i all = 0) ∧ pv_x A B L i all = 0) = true then pv_lc A B L p all i &&& i else pv_lc A B L p all i) = _
  rw [if_neg (fun q => h (gr_bT.mp q))]
theorem pv_lcT (L p all x : Nat) : ∀ i, (pv_lc A B L p all i).testBit x = true ↔ (all.testBit x = true ∧ ∀ s, s < i → s.testBit p = true → bi_d s all = 0 → pv_x A B L s all = 0 → s.testBit x = true) := by
  intro i
  induction i with
  | zero => exact ⟨fun h => ⟨h, fun s hs => by omega⟩, fun h => h.1⟩
  | succ i ih =>
    by_cases c : (i.testBit p = true ∧ bi_d i all = 0) ∧ pv_x A B L i all = 0
    · rw [pv_lcP A B c, Nat.testBit_and, Bool.and_eq_true, ih]
      constructor
      · rintro ⟨⟨h1, h2⟩, h3⟩
        refine ⟨h1, fun s hs s1 s2 s3 => ?_⟩
        by_cases e : s = i
        · rw [e]; exact h3
        · exact h2 s (by omega) s1 s2 s3
      · rintro ⟨h1, h2⟩
        exact ⟨⟨h1, fun s hs => h2 s (by omega)⟩, h2 i (by omega) c.1.1 c.1.2 c.2⟩
    · rw [pv_lcN A B c, ih]
      constructor
      · rintro ⟨h1, h2⟩
        refine ⟨h1, fun s hs s1 s2 s3 => ?_⟩
        by_cases e : s = i
        · rw [e] at s1 s2 s3
          exact absurd ⟨⟨s1, s2⟩, s3⟩ c
        · exact h2 s (by omega) s1 s2 s3
      · rintro ⟨h1, h2⟩
        exact ⟨h1, fun s hs => h2 s (by omega)⟩
theorem pv_lcB {L p all : Nat} (h8 : all < 256) (i : Nat) : pv_lc A B L p all i < 256 := by
  have : pv_lc A B L p all i = pv_lc A B L p all i &&& all := by
    apply pv_ext
    intro x
    rw [Nat.testBit_and, Bool.and_eq_true]
    exact ⟨fun h => ⟨h, ((pv_lcT A B L p all x i).mp h).1⟩, fun h => h.1⟩
  rw [this]
  exact Nat.and_lt_two_pow (n := 8) _ h8
theorem pv_lcR {L p all : Nat} (h8 : all < 256) (hp : all.testBit p = true) : pv_lc A B L p all 256 = sp_X A B L all (2 ^ p) := by
  apply pv_ext
  intro x
  rw [pv_lcT, pv_sp A B h8 hp]
  constructor
  · rintro ⟨h1, h2⟩ S c sp
    have m8 := gr_mkL (fun y => gr_b (all.testBit y = true ∧ S y)) 8
    have mt : ∀ y, (pv_m (fun y => all.testBit y = true ∧ S y) 8).testBit y = true ↔ (all.testBit y = true ∧ S y) := by
      intro y
      rw [pv_mT]
      exact ⟨fun h => h.2, fun h => ⟨pv_lt (n := 8) h8 h.1, h⟩⟩
    have := h2 (pv_m (fun y => all.testBit y = true ∧ S y) 8) m8 ((mt p).mpr ⟨hp, sp⟩) ((pv_d0 _ _).mpr (fun y hy => ((mt y).mp hy).1)) ((pv_x0 A B L _ all).mpr (fun k hk ha hb => by
      have := c k hk ha hb
      exact (mt _).trans ((show _ ↔ _ from ⟨fun w => ⟨hb, this.mp w.2⟩, fun w => ⟨ha, this.mpr w.2⟩⟩).trans (mt _).symm)))
    exact ((mt x).mp this).2
  · intro r
    refine ⟨?_, fun s hs s1 s2 s3 => ?_⟩
    · exact gr_in (fun _ _ _ _ => trivial) r hp
    · exact r (fun y => s.testBit y = true) ((pv_x0 A B L s all).mp s3) s1
/-- the bridges by cuts: sets before i -/
noncomputable def pv_cb (L all : Nat) : Nat → Nat
  | 0 => 0
  | i + 1 => if gr_b (bi_d i all = 0 ∧ pv_o (pv_x A B L i all) = 1) = true then pv_cb L all i ||| pv_x A B L i all else pv_cb L all i
theorem pv_cbP {L all i : Nat} (h : bi_d i all = 0 ∧ pv_o (pv_x A B L i all) = 1) : pv_cb A B L all (i + 1) = pv_cb A B L all i ||| pv_x A B L i all := by
  show (if gr_b (bi_d i all = 0 ∧ pv_o (pv_x A B L i all) = 1) = true then pv_cb A B L all i ||| pv_x A B L i all else pv_cb A B L all i) = _
  rw [if_pos (gr_bT.mpr h)]
theorem pv_cbN {L all i : Nat} (h : ¬ (bi_d i all = 0 ∧ pv_o (pv_x A B L i all) = 1)) : pv_cb A B L all (i + 1) = pv_cb A B L all i := by
  show (if gr_b (bi_d i all = 0 ∧ pv_o (pv_x A B L i all) = 1) = true then pv_cb A B L all i ||| pv_x A B L i all else pv_cb A B L all i) = _
  rw [if_neg (fun q => h (gr_bT.mp q))]
theorem pv_cbT (L all k : Nat) : ∀ i, (pv_cb A B L all i).testBit k = true ↔ ∃ s, s < i ∧ bi_d s all = 0 ∧ pv_o (pv_x A B L s all) = 1 ∧ (pv_x A B L s all).testBit k = true := by
  intro i
  induction i with
  | zero =>
    show Nat.testBit 0 k = true ↔ _
    rw [Nat.zero_testBit]
    exact ⟨fun h => (by cases h), fun ⟨s, h, _⟩ => (by omega)⟩
  | succ i ih =>
    by_cases c : bi_d i all = 0 ∧ pv_o (pv_x A B L i all) = 1
    · rw [pv_cbP A B c, Nat.testBit_or, Bool.or_eq_true, ih]
      constructor
      · rintro (⟨s, h1, h2⟩ | h)
        · exact ⟨s, by omega, h2⟩
        · exact ⟨i, by omega, c.1, c.2, h⟩
      · rintro ⟨s, h1, h2, h3, h4⟩
        by_cases e : s = i
        · rw [e] at h4; exact Or.inr h4
        · exact Or.inl ⟨s, by omega, h2, h3, h4⟩
    · rw [pv_cbN A B c, ih]
      constructor
      · rintro ⟨s, h1, h2⟩
        exact ⟨s, by omega, h2⟩
      · rintro ⟨s, h1, h2, h3, h4⟩
        by_cases e : s = i
        · rw [e] at h2 h3
          exact absurd ⟨h2, h3⟩ c
        · exact ⟨s, by omega, h2, h3, h4⟩
theorem pv_cbB (L all i : Nat) : pv_cb A B L all i < 65536 := by
  induction i with
  | zero => show 0 < 65536; omega
  | succ i ih =>
    by_cases c : bi_d i all = 0 ∧ pv_o (pv_x A B L i all) = 1
    · rw [pv_cbP A B c]
      exact Nat.or_lt_two_pow (n := 16) ih (pv_xL A B L i all)
    · rw [pv_cbN A B c]; exact ih
/-- one bit alone -/
theorem pv_o1 {s : Nat} : pv_o s = 1 → ∀ i j, i < 16 → j < 16 → s.testBit i = true → s.testBit j = true → i = j := by
  intro h i j hi hj si sj
  apply Classical.byContradiction
  intro ne
  have b := mt_c_but (P := fun k => gr_b (s.testBit k = true)) (Q := fun k => gr_b (s.testBit k = true ∧ k ≠ i)) i 16 hi (gr_bT.mpr si) (gr_bF.mpr (fun w => w.2 rfl)) (fun k _ hk => gr_bC ⟨fun w => w.1, fun w => ⟨w, hk⟩⟩)
  have z : mt_c (fun k => gr_b (s.testBit k = true ∧ k ≠ i)) 16 = 0 := by
    have : mt_c (fun k => gr_b (s.testBit k = true)) 16 = 1 := h
    omega
  have := mt_c_z 16 z j hj
  exact (gr_bF.mp this) ⟨sj, fun e => ne e.symm⟩
theorem pv_o1' {s i : Nat} (hi : i < 16) (h : ∀ j, j < 16 → (s.testBit j = true ↔ j = i)) : pv_o s = 1 := by
  have b := mt_c_but (P := fun k => gr_b (s.testBit k = true)) (Q := fun _ => false) i 16 hi (gr_bT.mpr ((h i hi).mpr rfl)) rfl (fun k hk ne => by
    rw [gr_bF.mpr (fun w => ne ((h k hk).mp w))])
  rw [mt_c_0 16 (fun _ _ => rfl)] at b
  exact b.symm
variable {A B}
theorem pv_cbR {n L : Nat} (g : cx_G n L A B) : pv_cb A B L (2 ^ n - 1) 256 = pv_b A B n L := by
  apply pv_bI g
  intro k
  rw [pv_cbT]
  unfold wk_br
  constructor
  · rintro ⟨s, s1, s2, s3, s4⟩
    obtain ⟨h1, _, h3⟩ := (pv_xT A B L s _ k).mp s4
    refine ⟨h1, fun r => h3 ?_⟩
    have cl : gr_C A B (fun j => (j < 16 ∧ L.testBit j = true) ∧ j ≠ k) (fun x => x < n) (fun x => s.testBit x = true) := by
      intro j hj ha hb
      apply Classical.byContradiction
      intro q
      have : (pv_x A B L s (2 ^ n - 1)).testBit j = true := (pv_xT A B L s _ j).mpr ⟨hj.1, ⟨(pv_all n _).mpr ha, (pv_all n _).mpr hb⟩, q⟩
      exact hj.2 (pv_o1 s3 j k hj.1.1 h1.1 this s4)
    exact ⟨fun w => r _ cl w, fun w => gr_sy r _ cl w⟩
  · rintro ⟨h1, h2⟩
    obtain ⟨g1, g2, g3⟩ := g.2.2 k h1.1 h1.2
    have mt : ∀ y, (pv_m (fun y => y < n ∧ gr_R A B (fun j => (j < 16 ∧ L.testBit j = true) ∧ j ≠ k) (fun x => x < n) (A k) y) 8).testBit y = true ↔ (y < n ∧ gr_R A B (fun j => (j < 16 ∧ L.testBit j = true) ∧ j ≠ k) (fun x => x < n) (A k) y) := by
      intro y
      rw [pv_mT]
      exact ⟨fun h => h.2, fun h => ⟨by have := g.1.2; omega, h⟩⟩
    have xt : ∀ j, j < 16 → ((pv_x A B L (pv_m (fun y => y < n ∧ gr_R A B (fun j => (j < 16 ∧ L.testBit j = true) ∧ j ≠ k) (fun x => x < n) (A k) y) 8) (2 ^ n - 1)).testBit j = true ↔ j = k) := by
      intro j hj
      rw [pv_xT, mt, mt]
      constructor
      · rintro ⟨j1, _, j3⟩
        apply Classical.byContradiction
        intro ne
        obtain ⟨f1, f2, f3⟩ := g.2.2 j j1.1 j1.2
        apply j3
        have u : (j < 16 ∧ L.testBit j = true) ∧ j ≠ k := ⟨j1, ne⟩
        exact ⟨fun w => ⟨f2, gr_tr w.2 (gr_ln (u := fun j => (j < 16 ∧ L.testBit j = true) ∧ j ≠ k) (q := fun x => x < n) u f1 f2)⟩, fun w => ⟨f1, gr_tr w.2 (gr_ln' (u := fun j => (j < 16 ∧ L.testBit j = true) ∧ j ≠ k) (q := fun x => x < n) u f1 f2)⟩⟩
      · intro e
        rw [e]
        refine ⟨h1, ⟨(pv_all n _).mpr g1, (pv_all n _).mpr g2⟩, fun w => h2 ?_⟩
        exact (w.mp ⟨g1, gr_rf _⟩).2
    refine ⟨_, pv_mL _ 8, (pv_d0 _ _).mpr (fun y hy => (pv_all n y).mpr ((mt y).mp hy).1), pv_o1' h1.1 xt, (xt k h1.1).mpr rfl⟩
/-- the hinges by cuts -/
theorem pv_chR {n L : Nat} (g : cx_G n L A B) : pv_m (fun p => pv_cs A B L (2 ^ n - 1) < pv_cs A B L (bi_d (2 ^ n - 1) (2 ^ p))) n = pv_h A B n L := by
  have a8 := pv_a8 g.1.2
  exact pv_mC (fun p _ => pv_csL A B a8 (bi_dlt (n := 8) a8))
end
/-! labels and the partition -/
noncomputable def pv_lb (R : Nat → Nat → Prop) (p : Nat) : Nat := Classical.epsilon (fun i => R i p ∧ ∀ r, r < i → ¬ R r p)
theorem pv_lbT {R : Nat → Nat → Prop} (E : gr_E R) (p : Nat) : R (pv_lb R p) p ∧ ∀ r, r < pv_lb R p → ¬ R r p := by
  have h : ∃ i, R i p ∧ ∀ r, r < i → ¬ R r p := by
    obtain ⟨k, _, k2, k3⟩ := gr_least (fun i => R i p) p (E.1 p)
    exact ⟨k, k2, k3⟩
  exact Classical.epsilon_spec h
theorem pv_lbU {R : Nat → Nat → Prop} (E : gr_E R) {p i : Nat} (h1 : R i p) (h2 : ∀ r, r < i → ¬ R r p) : i = pv_lb R p := by
  obtain ⟨k1, k2⟩ := pv_lbT E p
  apply Classical.byContradiction
  intro ne
  by_cases c : i < pv_lb R p
  · exact k2 i c h1
  · exact h2 _ (by omega) k1
theorem pv_lbP {R : Nat → Nat → Prop} (E : gr_E R) (p : Nat) : pv_lb R p ≤ p := by
  apply Classical.byContradiction
  intro q
  exact (pv_lbT E p).2 p (by omega) (E.1 p)
theorem pv_lbN {R : Nat → Nat → Prop} (E : gr_E R) {n : Nat} (hn : n ≤ 8) : pv_c (fun p => pv_lb R p = p) n = gr_n R (fun p => p < n) := by
  have e : gr_n R (fun p => p < n) = pv_c (gr_l R (fun p => p < n)) n := pv_cX hn (fun k _ h => h.1)
  rw [e]
  apply pv_cC
  intro p hp
  constructor
  · intro h
    refine ⟨hp, fun r hr _ => ?_⟩
    exact (pv_lbT E p).2 r (by omega)
  · rintro ⟨_, h⟩
    exact (pv_lbU E (E.1 p) (fun r hr => h r hr (by omega))).symm
def pv_pt (f : Nat → Nat) : Nat → Nat
  | 0 => 0
  | p + 1 => pv_pt f p + f p * 16 ^ p
theorem pv_ptL {f : Nat → Nat} {m : Nat} (h : ∀ p, p < m → f p < 16) : ∀ n, n ≤ m → pv_pt f n < 16 ^ n := by
  intro n
  induction n with
  | zero => intro _; show 0 < 1; omega
  | succ n ih =>
    intro hn
    have i := ih (by omega)
    show pv_pt f n + f n * 16 ^ n < 16 ^ (n + 1)
    have b : f n * 16 ^ n ≤ 15 * 16 ^ n := Nat.mul_le_mul_right _ (by have := h n (by omega); omega)
    rw [Nat.pow_succ]
    omega
theorem pv_ptE {f : Nat → Nat} {m : Nat} (h : ∀ p, p < m → f p < 16) {p : Nat} (hp : p < m) : pv_pt f m / 16 ^ p % 16 = f p := by
  have e : ∀ n, p < n → ∃ r, pv_pt f n = pv_pt f p + 16 ^ p * (f p + 16 * r) := by
    intro n
    induction n with
    | zero => intro h; omega
    | succ n ih =>
      intro hn
      by_cases c : p = n
      · subst c
        refine ⟨0, ?_⟩
        show pv_pt f p + f p * 16 ^ p = _
        rw [Nat.mul_zero, Nat.add_zero, Nat.mul_comm]
      · obtain ⟨r, hr⟩ := ih (by omega)
        refine ⟨r + f n * 16 ^ (n - p - 1), ?_⟩
        show pv_pt f n + f n * 16 ^ n = _
        have w : 16 ^ n = 16 ^ p * (16 * 16 ^ (n - p - 1)) := by
          rw [← Nat.pow_succ', ← Nat.pow_add]
          congr 1
          omega
        rw [hr, w]
        generalize 16 ^ p = x
        generalize 16 ^ (n - p - 1) = y
        grind
  obtain ⟨r, hr⟩ := e m hp
  have lt := pv_ptL h p (by omega)
  rw [hr, Nat.add_mul_div_left _ _ (Nat.pow_pos (by omega)), Nat.div_eq_of_lt lt]
  have := h p hp
  omega
theorem pv_ptC {f g : Nat → Nat} : ∀ n, (∀ p, p < n → f p = g p) → pv_pt f n = pv_pt g n := by
  intro n
  induction n with
  | zero => intro _; rfl
  | succ n ih =>
    intro h
    show pv_pt f n + f n * 16 ^ n = pv_pt g n + g n * 16 ^ n
    rw [ih (fun p hp => h p (by omega)), h n (by omega)]

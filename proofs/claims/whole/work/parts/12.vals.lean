/-! masks and counts out of predicates -/
theorem pv_lt {s n : Nat} (h : s < 2 ^ n) {p : Nat} (hp : s.testBit p = true) : p < n := by
  apply Classical.byContradiction
  intro q
  have : 2 ^ n ≤ 2 ^ p := Nat.pow_le_pow_right (by omega) (by omega)
  rw [Nat.testBit_lt_two_pow (by omega)] at hp
  cases hp
theorem pv_ext {s t : Nat} (h : ∀ p, s.testBit p = true ↔ t.testBit p = true) : s = t := by
  apply Nat.eq_of_testBit_eq
  intro p
  have x := h p
  cases h1 : s.testBit p <;> cases h2 : t.testBit p <;> simp_all
theorem pv_2p (x p : Nat) : (2 ^ x).testBit p = true ↔ p = x := by
  rw [Nat.testBit_two_pow, decide_eq_true_iff]
  exact ⟨Eq.symm, Eq.symm⟩
theorem pv_all (n p : Nat) : (2 ^ n - 1).testBit p = true ↔ p < n := by
  rw [bi_allT, decide_eq_true_iff]
theorem pv_a8 {n : Nat} (h : n ≤ 8) : 2 ^ n - 1 < 256 := by
  have : 2 ^ n ≤ 2 ^ 8 := Nat.pow_le_pow_right (by omega) h
  have : 0 < 2 ^ n := Nat.two_pow_pos n
  omega
theorem pv_dT (a b i : Nat) : (bi_d a b).testBit i = true ↔ (a.testBit i = true ∧ ¬ b.testBit i = true) := by
  rw [bi_dT, Bool.and_eq_true]
  cases b.testBit i <;> simp
theorem pv_d0 (s t : Nat) : bi_d s t = 0 ↔ ∀ p, s.testBit p = true → t.testBit p = true := by
  have h := bi_nz (bi_d s t)
  constructor
  · intro e p hp
    apply Classical.byContradiction
    intro q
    exact h.mpr ⟨p, (pv_dT s t p).mpr ⟨hp, q⟩⟩ e
  · intro w
    apply Classical.byContradiction
    intro q
    obtain ⟨i, hi⟩ := h.mp q
    rw [pv_dT] at hi
    exact hi.2 (w i hi.1)
noncomputable def pv_m (P : Nat → Prop) (n : Nat) : Nat := gr_mk (fun k => gr_b (P k)) n
theorem pv_mT {P : Nat → Prop} {n k : Nat} : (pv_m P n).testBit k = true ↔ (k < n ∧ P k) := by
  unfold pv_m
  rw [gr_mkT, Bool.and_eq_true, decide_eq_true_iff, gr_bT]
theorem pv_m0 (P : Nat → Prop) : pv_m P 0 = 0 := rfl
theorem pv_mP {P : Nat → Prop} {n : Nat} (h : P n) : pv_m P (n + 1) = pv_m P n ||| 2 ^ n := by
  show gr_mk (fun k => gr_b (P k)) n ||| (if gr_b (P n) = true then 2 ^ n else 0) = _
  rw [if_pos (gr_bT.mpr h)]
  rfl
theorem pv_mN {P : Nat → Prop} {n : Nat} (h : ¬ P n) : pv_m P (n + 1) = pv_m P n := by
  show gr_mk (fun k => gr_b (P k)) n ||| (if gr_b (P n) = true then 2 ^ n else 0) = _
  rw [if_neg (fun q => h (gr_bT.mp q)), Nat.or_zero]
  rfl
theorem pv_mL (P : Nat → Prop) (n : Nat) : pv_m P n < 2 ^ n := gr_mkL _ n
theorem pv_mC {P Q : Nat → Prop} {n : Nat} (h : ∀ k, k < n → (P k ↔ Q k)) : pv_m P n = pv_m Q n := by
  apply pv_ext
  intro p
  rw [pv_mT, pv_mT]
  exact ⟨fun w => ⟨w.1, (h p w.1).mp w.2⟩, fun w => ⟨w.1, (h p w.1).mpr w.2⟩⟩
theorem pv_mI {P : Nat → Prop} {n s : Nat} (h : ∀ k, s.testBit k = true ↔ (k < n ∧ P k)) : s = pv_m P n := by
  apply pv_ext
  intro p
  rw [pv_mT, h]
noncomputable def pv_c (P : Nat → Prop) (n : Nat) : Nat := mt_c (fun k => gr_b (P k)) n
theorem pv_c0 (P : Nat → Prop) : pv_c P 0 = 0 := rfl
theorem pv_cP {P : Nat → Prop} {n : Nat} (h : P n) : pv_c P (n + 1) = pv_c P n + 1 := by
  show mt_c (fun k => gr_b (P k)) n + (if gr_b (P n) = true then 1 else 0) = _
  rw [if_pos (gr_bT.mpr h)]
  rfl
theorem pv_cN {P : Nat → Prop} {n : Nat} (h : ¬ P n) : pv_c P (n + 1) = pv_c P n := by
  show mt_c (fun k => gr_b (P k)) n + (if gr_b (P n) = true then 1 else 0) = _
  rw [if_neg (fun q => h (gr_bT.mp q)), Nat.add_zero]
  rfl
theorem pv_cn (P : Nat → Prop) (n : Nat) : pv_c P n ≤ n := mt_c_n _ n
theorem pv_cC {P Q : Nat → Prop} {n : Nat} (h : ∀ k, k < n → (P k ↔ Q k)) : pv_c P n = pv_c Q n := mt_c_congr n (fun i hi => gr_bC (h i hi))
/-- the same count up to a further bound -/
theorem pv_cX {P : Nat → Prop} {n m : Nat} (hn : n ≤ m) (h : ∀ k, k < m → P k → k < n) : pv_c P m = pv_c P n := by
  obtain ⟨d, rfl⟩ : ∃ d, m = n + d := ⟨m - n, by omega⟩
  unfold pv_c
  rw [mt_c_add, mt_c_0 d (fun i hi => ?_), Nat.add_zero]
  apply gr_bF.mpr
  intro q
  have := h (n + i) (by omega) q
  omega
/-- ones of a mask -/
noncomputable def pv_o (s : Nat) : Nat := pv_c (fun k => s.testBit k = true) 16
theorem pv_oc {n s : Nat} (hn : n ≤ 16) (h : ∀ p, s.testBit p = true → p < n) : pv_o (bi_d (2 ^ n - 1) s) + pv_o s = n := by
  have h1 : pv_o (bi_d (2 ^ n - 1) s) = pv_c (fun k => (bi_d (2 ^ n - 1) s).testBit k = true) n := pv_cX hn (fun k _ w => by rw [pv_dT, pv_all] at w; exact w.1)
  have h2 : pv_o s = pv_c (fun k => s.testBit k = true) n := pv_cX hn (fun k _ w => h k w)
  rw [h1, h2]
  have : ∀ m, m ≤ n → pv_c (fun k => (bi_d (2 ^ n - 1) s).testBit k = true) m + pv_c (fun k => s.testBit k = true) m = m := by
    intro m
    induction m with
    | zero => intro _; rfl
    | succ m ih =>
      intro hm
      have ih := ih (by omega)
      by_cases c : s.testBit m = true
      · rw [pv_cP (P := fun k => s.testBit k = true) c, pv_cN (P := fun k => (bi_d (2 ^ n - 1) s).testBit k = true) (fun w => ((pv_dT _ _ _).mp w).2 c)]
        omega
      · rw [pv_cN (P := fun k => s.testBit k = true) c, pv_cP (P := fun k => (bi_d (2 ^ n - 1) s).testBit k = true) ((pv_dT _ _ _).mpr ⟨(pv_all n m).mpr (by omega), c⟩)]
        omega
  exact this n (Nat.le_refl n)
/-! the graph -/
def cx_G (n L : Nat) (A B : Nat → Nat) : Prop := (1 ≤ n ∧ n ≤ 8) ∧ L < 65536 ∧ ∀ k, k < 16 → L.testBit k = true → A k < n ∧ B k < n ∧ A k ≠ B k
theorem cx_0 {n L : Nat} {A B : Nat → Nat} (g : cx_G n L A B) : wk_0 n (fun k => k < 16 ∧ L.testBit k = true) A B := fun k hk => ⟨hk.1, g.2.2 k hk.1 hk.2⟩
theorem pv_qn (n : Nat) : (fun p => (2 ^ n - 1).testBit p = true) = (fun p => p < n) := funext (fun p => propext (pv_all n p))
theorem pv_qp (n p : Nat) : (fun x => (bi_d (2 ^ n - 1) (2 ^ p)).testBit x = true) = (fun x => x < n ∧ x ≠ p) := funext (fun x => propext (by rw [pv_dT, pv_all, pv_2p]))
theorem pv_uk (L k : Nat) : (fun j => j < 16 ∧ (bi_d L (2 ^ k)).testBit j = true) = (fun j => (j < 16 ∧ L.testBit j = true) ∧ j ≠ k) := funext (fun x => propext (by rw [pv_dT, pv_2p, and_assoc]))
section
variable (A B : Nat → Nat)
/-- the groups that the lines of us make of the points of kp -/
def pv_g (us kp : Nat) : Nat := (gc_s (fun p => sp_X A B us kp (2 ^ p)) kp 8).2
theorem pv_sp {us kp : Nat} (h8 : kp < 256) {p : Nat} (hp : kp.testBit p = true) (x : Nat) : (sp_X A B us kp (2 ^ p)).testBit x = true ↔ gr_R A B (fun k => k < 16 ∧ us.testBit k = true) (fun p => kp.testBit p = true) p x := by
  rw [sp_XT A B us kp h8]
  constructor
  · rintro ⟨y, ⟨h1, h2⟩, r⟩
    rw [pv_2p] at h1
    rw [h1] at r
    exact r
  · intro r
    exact ⟨p, ⟨(pv_2p p p).mpr rfl, hp⟩, r⟩
theorem pv_gT {us kp : Nat} (h8 : kp < 256) : pv_g A B us kp = gr_n (gr_R A B (fun k => k < 16 ∧ us.testBit k = true) (fun p => kp.testBit p = true)) (fun p => kp.testBit p = true) :=
  gc_T (gr_RE A B _ _) (fun p x hp _ => pv_sp A B h8 hp x)
theorem pv_g8 {us kp : Nat} (h8 : kp < 256) : pv_g A B us kp ≤ 8 := by
  rw [pv_gT A B h8]
  exact mt_c_n _ 8
/-- the bridges, the hinges -/
noncomputable def pv_b (n L : Nat) : Nat := pv_m (fun k => L.testBit k = true ∧ pv_g A B L (2 ^ n - 1) < pv_g A B (bi_d L (2 ^ k)) (2 ^ n - 1)) 16
noncomputable def pv_h (n L : Nat) : Nat := pv_m (fun p => pv_g A B L (2 ^ n - 1) < pv_g A B L (bi_d (2 ^ n - 1) (2 ^ p))) n
variable {A B}
theorem pv_bT {n L : Nat} (g : cx_G n L A B) (k : Nat) : (pv_b A B n L).testBit k = true ↔ wk_br n (fun k => k < 16 ∧ L.testBit k = true) A B k := by
  unfold pv_b wk_br
  have a8 := pv_a8 g.1.2
  have q8 : ∀ p, p < n → p < 8 := fun p hp => by have := g.1.2; omega
  rw [pv_mT, pv_gT A B a8, pv_gT A B a8, pv_qn, pv_uk]
  constructor
  · rintro ⟨k16, lk, h⟩
    obtain ⟨g1, g2, g3⟩ := g.2.2 k k16 lk
    exact ⟨⟨k16, lk⟩, (gr_bridge (u := fun k => k < 16 ∧ L.testBit k = true) (q := fun p => p < n) q8 ⟨k16, lk⟩ g1 g2).mp h⟩
  · rintro ⟨⟨k16, lk⟩, h⟩
    obtain ⟨g1, g2, g3⟩ := g.2.2 k k16 lk
    exact ⟨k16, lk, (gr_bridge (u := fun k => k < 16 ∧ L.testBit k = true) (q := fun p => p < n) q8 ⟨k16, lk⟩ g1 g2).mpr h⟩
theorem pv_hT {n L : Nat} (g : cx_G n L A B) (p : Nat) : (pv_h A B n L).testBit p = true ↔ wk_hi n (fun k => k < 16 ∧ L.testBit k = true) A B p := by
  unfold pv_h wk_hi
  have a8 := pv_a8 g.1.2
  have b8 : bi_d (2 ^ n - 1) (2 ^ p) < 256 := bi_dlt (n := 8) a8
  have q8 : ∀ p, p < n → p < 8 := fun p hp => by have := g.1.2; omega
  rw [pv_mT, pv_gT A B a8, pv_gT A B b8, pv_qn, pv_qp]
  constructor
  · rintro ⟨hp, h⟩
    exact ⟨hp, (gr_hinge (u := fun k => k < 16 ∧ L.testBit k = true) (q := fun p => p < n) q8 hp).mp h⟩
  · rintro ⟨hp, h⟩
    exact ⟨hp, (gr_hinge (u := fun k => k < 16 ∧ L.testBit k = true) (q := fun p => p < n) q8 hp).mpr h⟩
theorem pv_bI {n L s : Nat} (g : cx_G n L A B) (h : ∀ k, s.testBit k = true ↔ wk_br n (fun k => k < 16 ∧ L.testBit k = true) A B k) : s = pv_b A B n L := pv_ext (fun k => (h k).trans (pv_bT g k).symm)
theorem pv_hI {n L s : Nat} (g : cx_G n L A B) (h : ∀ p, s.testBit p = true ↔ wk_hi n (fun k => k < 16 ∧ L.testBit k = true) A B p) : s = pv_h A B n L := pv_ext (fun k => (h k).trans (pv_hT g k).symm)
end

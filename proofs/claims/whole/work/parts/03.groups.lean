/-! how many groups; bridges and hinges -/
theorem gr_least (P : Nat → Prop) : ∀ n, P n → ∃ k, k ≤ n ∧ P k ∧ ∀ j, j < k → ¬ P j := by
  intro n
  induction n using Nat.strongRecOn with
  | _ n ih =>
    intro hn
    by_cases h : ∃ j, j < n ∧ P j
    · obtain ⟨j, hj, pj⟩ := h
      obtain ⟨k, k1, k2, k3⟩ := ih j hj pj
      exact ⟨k, by omega, k2, k3⟩
    · exact ⟨n, Nat.le_refl n, hn, fun j hj pj => h ⟨j, hj, pj⟩⟩
/-- p is the least of its group among the points of q -/
def gr_l (R : Nat → Nat → Prop) (q : Nat → Prop) (p : Nat) : Prop := q p ∧ ∀ r, r < p → q r → ¬ R r p
noncomputable def gr_n (R : Nat → Nat → Prop) (q : Nat → Prop) : Nat := mt_c (fun p => gr_b (gr_l R q p)) 8
def gr_E (R : Nat → Nat → Prop) : Prop := (∀ x, R x x) ∧ (∀ x y, R x y → R y x) ∧ ∀ x y z, R x y → R y z → R x z
theorem gr_RE (a b : Nat → Nat) (u q : Nat → Prop) : gr_E (gr_R a b u q) := ⟨gr_rf, fun _ _ => gr_sy, fun _ _ _ => gr_tr⟩
theorem gr_lex {R : Nat → Nat → Prop} {q : Nat → Prop} (h : gr_E R) {x : Nat} (hx : q x) : ∃ y, y ≤ x ∧ gr_l R q y ∧ R y x := by
  obtain ⟨k, k1, k2, k3⟩ := gr_least (fun y => q y ∧ R y x) x ⟨hx, h.1 x⟩
  refine ⟨k, k1, ⟨k2.1, fun r hr qr rr => k3 r hr ⟨qr, h.2.2 _ _ _ rr k2.2⟩⟩, k2.2⟩
theorem gr_nle {R T : Nat → Nat → Prop} {q : Nat → Prop} (h : ∀ x y, q x → q y → T x y → R x y) : gr_n R q ≤ gr_n T q :=
  mt_c_le 8 (fun p _ hp => by
    have hp := gr_bT.mp hp
    exact gr_bT.mpr ⟨hp.1, fun r hr qr t => hp.2 r hr qr (h r p qr hp.1 t)⟩)
theorem gr_nlt {R T : Nat → Nat → Prop} {q : Nat → Prop} (q8 : ∀ p, q p → p < 8) (hR : gr_E R) (hT : gr_E T) (h : ∀ x y, q x → q y → T x y → R x y) : gr_n R q < gr_n T q ↔ ∃ x y, q x ∧ q y ∧ R x y ∧ ¬ T x y := by
  constructor
  · intro lt
    apply Classical.byContradiction
    intro n
    have : gr_n T q ≤ gr_n R q := gr_nle (fun x y hx hy r => by
      apply Classical.byContradiction
      intro t
      exact n ⟨x, y, hx, hy, r, t⟩)
    omega
  · rintro ⟨x, y, hx, hy, r, t⟩
    obtain ⟨x0, _, lx, tx⟩ := gr_lex hT hx
    obtain ⟨y0, _, ly, ty⟩ := gr_lex hT hy
    have ne : x0 ≠ y0 := by
      intro e
      rw [← e] at ty
      exact t (hT.2.2 _ _ _ (hT.2.1 _ _ tx) ty)
    have r0 : R x0 y0 := hR.2.2 _ _ _ (h _ _ lx.1 hx tx) (hR.2.2 _ _ _ r (hR.2.1 _ _ (h _ _ ly.1 hy ty)))
    have sub : ∀ i, i < 8 → gr_b (gr_l R q i) = true → gr_b (gr_l T q i) = true := fun p _ hp => by
      have hp := gr_bT.mp hp
      exact gr_bT.mpr ⟨hp.1, fun r hr qr t => hp.2 r hr qr (h r p qr hp.1 t)⟩
    by_cases c : x0 < y0
    · exact mt_c_lt (x := y0) 8 sub (q8 _ ly.1) (gr_bF.mpr (fun w => w.2 x0 c lx.1 r0)) (gr_bT.mpr ly)
    · exact mt_c_lt (x := x0) 8 sub (q8 _ lx.1) (gr_bF.mpr (fun w => w.2 y0 (by omega) ly.1 (hR.2.1 _ _ r0))) (gr_bT.mpr lx)
/-- a point taken away -/
theorem gr_nm {R : Nat → Nat → Prop} {q : Nat → Prop} (q8 : ∀ p, q p → p < 8) (hR : gr_E R) {p : Nat} (hp : q p) : gr_n R (fun x => q x ∧ x ≠ p) ≤ gr_n R q ∧ ((∃ x, q x ∧ x ≠ p ∧ R p x) → gr_n R (fun x => q x ∧ x ≠ p) = gr_n R q) := by
  by_cases lp : gr_l R q p
  · -- p is the least of its group
    have m1 : mt_c (fun x => gr_b (gr_l R q x ∧ x ≠ p)) 8 + 1 = gr_n R q := by
      apply mt_c_but p 8 (q8 p hp) (gr_bT.mpr lp) (gr_bF.mpr (fun w => w.2 rfl))
      intro i _ hn
      exact gr_bC ⟨fun w => w.1, fun w => ⟨w, hn⟩⟩
    by_cases ex : ∃ x, (q x ∧ x ≠ p) ∧ R p x
    · obtain ⟨x, hx, rx⟩ := ex
      obtain ⟨z, _, lz, rz⟩ := gr_lex (R := R) (q := fun x => q x ∧ x ≠ p) hR hx
      have pz : R p z := hR.2.2 _ _ _ rx (hR.2.1 _ _ rz)
      have p_lt : p < z := by
        apply Classical.byContradiction
        intro n
        have : z < p := by have := lz.1.2; omega
        exact lp.2 z this lz.1.1 (hR.2.1 _ _ pz)
      have m2 : mt_c (fun x => gr_b (gr_l R q x ∧ x ≠ p)) 8 + 1 = gr_n R (fun x => q x ∧ x ≠ p) := by
        apply mt_c_but z 8 (q8 z lz.1.1) (gr_bT.mpr lz) (gr_bF.mpr (fun w => w.1.2 p p_lt hp pz))
        intro i _ hn
        apply gr_bC
        constructor
        · intro w
          exact ⟨⟨w.1.1, w.2⟩, fun r hr qr => w.1.2 r hr qr.1⟩
        · intro w
          refine ⟨⟨w.1.1, fun r hr qr rr => ?_⟩, w.1.2⟩
          by_cases e : r = p
          · -- then i is in p's group; z and i are both least there without p
            rw [e] at rr
            have iz : R i z := hR.2.2 _ _ _ (hR.2.1 _ _ rr) pz
            by_cases c : i < z
            · exact lz.2 i c w.1 iz
            · exact w.2 z (by omega) lz.1 (hR.2.1 _ _ iz)
          · exact w.2 r hr ⟨qr, e⟩ rr
      omega
    · have e : gr_n R (fun x => q x ∧ x ≠ p) = mt_c (fun x => gr_b (gr_l R q x ∧ x ≠ p)) 8 := by
        apply mt_c_congr
        intro i _
        apply gr_bC
        constructor
        · intro w
          refine ⟨⟨w.1.1, fun r hr qr rr => ?_⟩, w.1.2⟩
          by_cases e : r = p
          · rw [e] at rr
            exact ex ⟨i, w.1, rr⟩
          · exact w.2 r hr ⟨qr, e⟩ rr
        · intro w
          exact ⟨⟨w.1.1, w.2⟩, fun r hr qr => w.1.2 r hr qr.1⟩
      refine ⟨by omega, fun ⟨x, h1, h2, h3⟩ => absurd ⟨x, ⟨h1, h2⟩, h3⟩ ex⟩
  · have e : gr_n R (fun x => q x ∧ x ≠ p) = gr_n R q := by
      apply mt_c_congr
      intro i _
      apply gr_bC
      constructor
      · intro w
        refine ⟨w.1.1, fun r hr qr rr => ?_⟩
        by_cases e : r = p
        · rw [e] at rr hr
          obtain ⟨z, z1, z2, z3⟩ := gr_lex (R := R) (q := q) hR hp
          have zp : z ≠ p := fun e => lp (e ▸ z2)
          exact w.2 z (by omega) ⟨z2.1, zp⟩ (hR.2.2 _ _ _ z3 rr)
        · exact w.2 r hr ⟨qr, e⟩ rr
      · intro w
        refine ⟨⟨w.1, fun e => lp (e ▸ w)⟩, fun r hr qr => w.2 r hr qr.1⟩
    exact ⟨Nat.le_of_eq e, fun _ => e⟩
section
variable {a b : Nat → Nat} {u q : Nat → Prop}
/-- a bridge: more groups without it -/
theorem gr_bridge (q8 : ∀ p, q p → p < 8) {k : Nat} (hk : u k) (ha : q (a k)) (hb : q (b k)) : gr_n (gr_R a b u q) q < gr_n (gr_R a b (fun j => u j ∧ j ≠ k) q) q ↔ ¬ gr_R a b (fun j => u j ∧ j ≠ k) q (a k) (b k) := by
  rw [gr_nlt q8 (gr_RE a b u q) (gr_RE a b _ q) (fun x y _ _ => gr_mono (fun j hj h1 h2 => ⟨hj.1, h1, h2⟩))]
  constructor
  · rintro ⟨x, y, _, _, r, t⟩ w
    apply t
    intro S c s
    refine r S (fun j hj h1 h2 => ?_) s
    by_cases e : j = k
    · rw [e]
      exact ⟨w S c, (gr_sy w) S c⟩
    · exact c j ⟨hj, e⟩ h1 h2
  · intro w
    exact ⟨a k, b k, ha, hb, gr_ln hk ha hb, w⟩
/-- a hinge: two others that it alone joins -/
theorem gr_hinge (q8 : ∀ p, q p → p < 8) {p : Nat} (hp : q p) : gr_n (gr_R a b u q) q < gr_n (gr_R a b u (fun x => q x ∧ x ≠ p)) (fun x => q x ∧ x ≠ p) ↔ ∃ x y, (q x ∧ x ≠ p) ∧ (q y ∧ y ≠ p) ∧ gr_R a b u q x y ∧ ¬ gr_R a b u (fun x => q x ∧ x ≠ p) x y := by
  have l := gr_nlt (q := fun x => q x ∧ x ≠ p) (fun x h => q8 x h.1) (gr_RE a b u q) (gr_RE a b u (fun x => q x ∧ x ≠ p)) (fun x y _ _ => gr_mono (fun j hj h1 h2 => ⟨hj, h1.1, h2.1⟩))
  have m := gr_nm q8 (gr_RE a b u q) hp
  rw [← l]
  constructor
  · intro h
    omega
  · intro h
    obtain ⟨x, y, hx, hy, r, t⟩ := l.mp h
    have px : gr_R a b u q p x := by
      apply Classical.byContradiction
      intro n
      apply t
      intro S c s
      have := r (fun z => S z ∧ ¬ gr_R a b u q p z) (fun j hj h1 h2 => ?_) ⟨s, n⟩
      · exact this.1
      · have rc := gr_RC (a := a) (b := b) (u := u) (q := q) p j hj h1 h2
        by_cases w : gr_R a b u q p (a j)
        · exact ⟨fun z => absurd w z.2, fun z => absurd (rc.mp w) z.2⟩
        · have w' : ¬ gr_R a b u q p (b j) := fun z => w (rc.mpr z)
          have na : a j ≠ p := fun e => w (by rw [e]; exact gr_rf p)
          have nb : b j ≠ p := fun e => w' (by rw [e]; exact gr_rf p)
          have := c j hj ⟨h1, na⟩ ⟨h2, nb⟩
          exact ⟨fun z => ⟨this.mp z.1, w'⟩, fun z => ⟨this.mpr z.1, w⟩⟩
    have := m.2 ⟨x, hx.1, hx.2, px⟩
    omega
end

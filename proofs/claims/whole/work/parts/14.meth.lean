/-! block -/
theorem pv_ukl (L k l : Nat) : (fun j => j < 16 ∧ (bi_d (bi_d L (2 ^ k)) (2 ^ l)).testBit j = true) = (fun j => ((j < 16 ∧ L.testBit j = true) ∧ j ≠ k) ∧ j ≠ l) := funext (fun x => propext (by
  rw [pv_dT, pv_dT, pv_2p, pv_2p]
  exact ⟨fun h => ⟨⟨⟨h.1, h.2.1.1⟩, h.2.1.2⟩, h.2.2⟩, fun h => ⟨h.1.1.1, ⟨h.1.1.2, h.1.2⟩, h.2⟩⟩))
section
variable {A B : Nat → Nat}
theorem pv_blE {us kp k l : Nat} (h8 : kp < 256) : (sp_X A B us kp (bi_e (A k) (B k)) &&& bi_e (A l) (B l) ≠ 0) ↔ ∃ x y, (x = A k ∨ x = B k) ∧ kp.testBit x = true ∧ (y = A l ∨ y = B l) ∧ gr_R A B (fun j => j < 16 ∧ us.testBit j = true) (fun p => kp.testBit p = true) x y := by
  rw [Nat.and_comm, bi_enz, sp_XT A B us kp h8, sp_XT A B us kp h8]
  constructor
  · rintro (⟨x, ⟨h1, h2⟩, r⟩ | ⟨x, ⟨h1, h2⟩, r⟩)
    · exact ⟨x, A l, (bi_eT _ _ _).mp h1, h2, Or.inl rfl, r⟩
    · exact ⟨x, B l, (bi_eT _ _ _).mp h1, h2, Or.inr rfl, r⟩
  · rintro ⟨x, y, h1, h2, h3 | h3, r⟩
    · rw [h3] at r
      exact Or.inl ⟨x, ⟨(bi_eT _ _ _).mpr h1, h2⟩, r⟩
    · rw [h3] at r
      exact Or.inr ⟨x, ⟨(bi_eT _ _ _).mpr h1, h2⟩, r⟩
theorem pv_bl {L kp k l : Nat} (h8 : kp < 256) : (sp_X A B L kp (bi_e (A k) (B k)) &&& bi_e (A l) (B l) ≠ 0) ↔ (sp_X A B (bi_d (bi_d L (2 ^ k)) (2 ^ l)) kp (bi_e (A k) (B k)) &&& bi_e (A l) (B l) ≠ 0) := by
  rw [pv_blE h8, pv_blE h8, pv_ukl]
  exact bl_T (u := fun j => j < 16 ∧ L.testBit j = true) (q := fun p => kp.testBit p = true)
end
/-! the least of two alike lists -/
theorem mf_eq {P Q : Nat → Bool} {f g : Nat → Nat} {c d n m : Nat} (h1 : ∀ i, i < n → P i = true → ∃ j, j < m ∧ Q j = true ∧ g j = f i) (h2 : ∀ j, j < m → Q j = true → ∃ i, i < n ∧ P i = true ∧ f i = g j) (h3 : ∃ i, i < n ∧ P i = true ∧ f i ≤ c) (h4 : ∃ j, j < m ∧ Q j = true ∧ g j ≤ d) : mf_v P f c n = mf_v Q g d m := by
  obtain ⟨a1, a2, a3⟩ := mf_I P f c n
  obtain ⟨b1, b2, b3⟩ := mf_I Q g d m
  obtain ⟨i0, i1, i2, i3⟩ := h3
  obtain ⟨j0, j1, j2, j3⟩ := h4
  have x := a2 i0 i1 i2
  have y := b2 j0 j1 j2
  have at1 : ∃ i, i < n ∧ P i = true ∧ mf_v P f c n = f i := by
    rcases a3 with a3 | a3
    · exact ⟨i0, i1, i2, by omega⟩
    · exact a3
  have at2 : ∃ j, j < m ∧ Q j = true ∧ mf_v Q g d m = g j := by
    rcases b3 with b3 | b3
    · exact ⟨j0, j1, j2, by omega⟩
    · exact b3
  obtain ⟨i, e1, e2, e3⟩ := at1
  obtain ⟨j, f1, f2, f3⟩ := at2
  obtain ⟨j', k1, k2, k3⟩ := h1 i e1 e2
  obtain ⟨i', l1, l2, l3⟩ := h2 j f1 f2
  have u := b2 j' k1 k2
  have v := a2 i' l1 l2
  omega
section
variable {A B : Nat → Nat}
/-- lines between a set and the rest, as Y counts them -/
noncomputable def pv_cut (A B : Nat → Nat) (L s : Nat) : Nat := pv_c (fun k => L.testBit k = true ∧ ¬ (s.testBit (A k) = true ↔ s.testBit (B k) = true)) 16
theorem pv_cutX {n L : Nat} (g : cx_G n L A B) (s : Nat) : pv_o (pv_x A B L s (2 ^ n - 1)) = pv_cut A B L s := by
  unfold pv_o pv_cut
  apply pv_cC
  intro k hk
  rw [pv_xT]
  constructor
  · rintro ⟨h1, _, h3⟩
    exact ⟨h1.2, h3⟩
  · rintro ⟨h1, h3⟩
    obtain ⟨g1, g2, g3⟩ := g.2.2 k hk h1
    exact ⟨⟨hk, h1⟩, ⟨(pv_all n _).mpr g1, (pv_all n _).mpr g2⟩, h3⟩
noncomputable def pv_wX (A B : Nat → Nat) (n L : Nat) : Nat → Nat := mf_v (fun s => gr_b (1 ≤ s ∧ s < 2 ^ n - 1)) (fun s => pv_cut A B L s) 16
noncomputable def pv_wY (A B : Nat → Nat) (L : Nat) : Nat → Nat := mf_v (fun s => gr_b (1 ≤ s)) (fun s => pv_cut A B L s) 100
theorem pv_w {n L : Nat} (h1 : 2 ≤ n) (h8 : n ≤ 8) : pv_wX A B n L 256 = pv_wY A B L (2 ^ n - 1) := by
  have a8 := pv_a8 h8
  have a4 : 2 ^ 2 ≤ 2 ^ n := Nat.pow_le_pow_right (by omega) h1
  have c16 := pv_cn (fun k => L.testBit k = true ∧ ¬ (Nat.testBit 1 (A k) = true ↔ Nat.testBit 1 (B k) = true)) 16
  have c1 : pv_cut A B L 1 ≤ 16 := c16
  apply mf_eq
  · intro i hi h
    have h := gr_bT.mp h
    exact ⟨i, h.2, gr_bT.mpr h.1, rfl⟩
  · intro j hj h
    have h := gr_bT.mp h
    exact ⟨j, by omega, gr_bT.mpr ⟨h, hj⟩, rfl⟩
  · exact ⟨1, by omega, gr_bT.mpr ⟨by omega, by omega⟩, c1⟩
  · exact ⟨1, by omega, gr_bT.mpr (by omega), by omega⟩
/-- points that can go -/
noncomputable def pv_fX (A B : Nat → Nat) (n L : Nat) : Nat → Nat := mf_v (fun s => gr_b ((1 ≤ s ∧ s < 2 ^ n - 1) ∧ 1 < pv_g A B L (bi_d (2 ^ n - 1) s))) (fun s => pv_o s) (n - 1)
noncomputable def pv_fY (A B : Nat → Nat) (n L : Nat) : Nat → Nat := mf_v (fun s => gr_b (1 ≤ s ∧ (pv_o s = 1 ∨ 1 < pv_g A B L s))) (fun s => n - pv_o s) 100
theorem pv_in {n s : Nat} (h : s ≤ 2 ^ n - 1) {p : Nat} (hp : s.testBit p = true) : p < n := by
  have := Nat.two_pow_pos n
  exact pv_lt (n := n) (by omega) hp
theorem pv_dd {n s : Nat} (h : s ≤ 2 ^ n - 1) : bi_d (2 ^ n - 1) (bi_d (2 ^ n - 1) s) = s := by
  apply pv_ext
  intro p
  rw [pv_dT, pv_dT, pv_all]
  constructor
  · rintro ⟨h1, h2⟩
    apply Classical.byContradiction
    intro q
    exact h2 ⟨h1, q⟩
  · intro hp
    exact ⟨pv_in h hp, fun w => w.2 hp⟩
theorem pv_dle (n s : Nat) : bi_d (2 ^ n - 1) s ≤ 2 ^ n - 1 := by
  have := Nat.two_pow_pos n
  have := bi_dlt (a := 2 ^ n - 1) (b := s) (n := n) (by omega)
  omega
/-- a part that is neither nothing nor all -/
theorem pv_dpr {n s : Nat} (h1 : 1 ≤ s) (h2 : s < 2 ^ n - 1) : 1 ≤ bi_d (2 ^ n - 1) s ∧ bi_d (2 ^ n - 1) s < 2 ^ n - 1 := by
  have l := pv_dle n s
  have e := pv_dd (n := n) (s := s) (by omega)
  have z0 : bi_d (2 ^ n - 1) 0 = 2 ^ n - 1 := by
    apply pv_ext
    intro p
    rw [pv_dT, Nat.zero_testBit]
    exact ⟨fun w => w.1, fun w => ⟨w, fun q => by cases q⟩⟩
  have z1 : bi_d (2 ^ n - 1) (2 ^ n - 1) = 0 := (pv_d0 _ _).mpr (fun p h => h)
  constructor
  · apply Classical.byContradiction
    intro q
    have : bi_d (2 ^ n - 1) s = 0 := by omega
    rw [this, z0] at e
    omega
  · apply Classical.byContradiction
    intro q
    have : bi_d (2 ^ n - 1) s = 2 ^ n - 1 := by omega
    rw [this, z1] at e
    omega
theorem pv_f {n L : Nat} (h1 : 2 ≤ n) (h8 : n ≤ 8) (hc : ¬ 1 < pv_g A B L (2 ^ n - 1)) : pv_fX A B n L 256 = pv_fY A B n L (2 ^ n - 1 + 1) := by
  have a8 := pv_a8 h8
  have a4 : 2 ^ 2 ≤ 2 ^ n := Nat.pow_le_pow_right (by omega) h1
  have p1 : 1 < 2 ^ n - 1 + 1 := by omega
  have oo : ∀ s, s ≤ 2 ^ n - 1 → pv_o (bi_d (2 ^ n - 1) s) + pv_o s = n := fun s hs => pv_oc (by omega) (fun p hp => pv_in hs hp)
  have o1 : pv_o 1 = 1 := pv_o1' (i := 0) (by omega) (fun j _ => by
    have := pv_2p 0 j
    exact this)
  have oall : pv_o (2 ^ n - 1) = n := by
    have := oo (2 ^ n - 1) (Nat.le_refl _)
    have z1 : bi_d (2 ^ n - 1) (2 ^ n - 1) = 0 := (pv_d0 _ _).mpr (fun p h => h)
    have z2 : pv_o 0 = 0 := mt_c_0 16 (fun i _ => gr_bF.mpr (show ¬ Nat.testBit 0 i = true by rw [Nat.zero_testBit]; exact fun q => by cases q))
    rw [z1, z2] at this
    omega
  obtain ⟨a1, a2, a3⟩ := mf_I (fun s => gr_b ((1 ≤ s ∧ s < 2 ^ n - 1) ∧ 1 < pv_g A B L (bi_d (2 ^ n - 1) s))) (fun s => pv_o s) (n - 1) 256
  obtain ⟨b1, b2, b3⟩ := mf_I (fun s => gr_b (1 ≤ s ∧ (pv_o s = 1 ∨ 1 < pv_g A B L s))) (fun s => n - pv_o s) 100 (2 ^ n - 1 + 1)
  have y1 := b2 1 p1 (gr_bT.mpr ⟨Nat.le_refl 1, Or.inl o1⟩)
  (try dsimp only at y1)
  rw [o1] at y1
  show mf_v (fun s => gr_b ((1 ≤ s ∧ s < 2 ^ n - 1) ∧ 1 < pv_g A B L (bi_d (2 ^ n - 1) s))) (fun s => pv_o s) (n - 1) 256 = mf_v (fun s => gr_b (1 ≤ s ∧ (pv_o s = 1 ∨ 1 < pv_g A B L s))) (fun s => n - pv_o s) 100 (2 ^ n - 1 + 1)
  apply Nat.le_antisymm
  · clear a3
    rcases b3 with b3 | ⟨j, j1, j2, j3⟩
    · omega
    · have j2 := gr_bT.mp j2
      (try dsimp only at j3)
      rcases j2.2 with q | q
      · rw [q] at j3
        omega
      · have ja : j ≠ 2 ^ n - 1 := by
          intro e
          rw [e] at q
          exact hc q
        have pr := pv_dpr j2.1 (show j < 2 ^ n - 1 by omega)
        have dd := pv_dd (n := n) (s := j) (by omega)
        have w := a2 (bi_d (2 ^ n - 1) j) (by omega) (gr_bT.mpr ⟨pr, by rw [dd]; exact q⟩)
        have s := oo j (by omega)
        (try dsimp only at w)
        omega
  · clear b3
    rcases a3 with a3 | ⟨i, i1, i2, i3⟩
    · omega
    · have i2 := gr_bT.mp i2
      (try dsimp only at i3)
      have pr := pv_dpr i2.1.1 i2.1.2
      have w := b2 (bi_d (2 ^ n - 1) i) (by omega) (gr_bT.mpr ⟨pr.1, Or.inr i2.2⟩)
      have s := oo i (by omega)
      (try dsimp only at w)
      omega
theorem pv_fXb {n L : Nat} (i : Nat) : pv_fX A B n L i ≤ n - 1 := (mf_I _ _ _ i).1
theorem pv_fYb {n L : Nat} (i : Nat) : pv_fY A B n L i ≤ 100 := (mf_I _ _ _ i).1
theorem pv_wXb {n L : Nat} (i : Nat) : pv_wX A B n L i ≤ 16 := (mf_I _ _ _ i).1
theorem pv_wYb {L : Nat} (i : Nat) : pv_wY A B L i ≤ 100 := (mf_I _ _ _ i).1
end
/-! a step of the fold -/
theorem mf_P {P : Nat → Bool} {f : Nat → Nat} {c i : Nat} (h : P i = true ∧ f i < mf_v P f c i) : mf_v P f c (i + 1) = f i := by
  show (if P i = true ∧ f i < mf_v P f c i then f i else mf_v P f c i) = _
  rw [if_pos h]
theorem mf_N {P : Nat → Bool} {f : Nat → Nat} {c i : Nat} (h : ¬ (P i = true ∧ f i < mf_v P f c i)) : mf_v P f c (i + 1) = mf_v P f c i := by
  show (if P i = true ∧ f i < mf_v P f c i then f i else mf_v P f c i) = _
  rw [if_neg h]
/-! rings, sides -/
section
variable (A B : Nat → Nat)
/-- X's layers, Y's layers -/
def pv_ly (us i x : Nat) : Nat := gr_it (fun s => sp_w A B us s 16) i (2 ^ x)
def pv_lz (us all i x : Nat) : Nat := gr_it (fun s => sp_y A B us s 16 &&& all) i (2 ^ x)
variable {A B}
theorem pv_lyE {n us : Nat} (hl : ∀ j, j < 16 → us.testBit j = true → A j < n ∧ B j < n) {x : Nat} (hx : x < n) : ∀ i, pv_ly A B us i x = pv_lz A B us (2 ^ n - 1) i x ∧ ∀ p, (pv_ly A B us i x).testBit p = true → p < n := by
  intro i
  induction i with
  | zero =>
    refine ⟨rfl, fun p hp => ?_⟩
    have : p = x := (pv_2p x p).mp hp
    omega
  | succ i ih =>
    have e : pv_ly A B us (i + 1) x = pv_lz A B us (2 ^ n - 1) (i + 1) x := by
      show sp_w A B us (pv_ly A B us i x) 16 = sp_y A B us (pv_lz A B us (2 ^ n - 1) i x) 16 &&& (2 ^ n - 1)
      rw [← ih.1]
      exact sp_wy A B us hl ih.2
    refine ⟨e, fun p hp => ?_⟩
    rw [e] at hp
    have hp : (sp_y A B us (pv_lz A B us (2 ^ n - 1) i x) 16 &&& (2 ^ n - 1)).testBit p = true := hp
    rw [Nat.testBit_and, Bool.and_eq_true, pv_all] at hp
    exact hp.2
theorem pv_lyS {us : Nat} (i x y : Nat) : (pv_ly A B us i x).testBit y = true ↔ (pv_ly A B us i y).testBit x = true := by
  unfold pv_ly
  rw [sp_D, sp_D]
  exact ⟨gr_Ds (sp_As A B us) i x y, gr_Ds (sp_As A B us) i y x⟩
end
/-- the points at an even distance, layers before i + 1 -/
def pv_ev (f : Nat → Nat) (s : Nat) : Nat → Nat
  | 0 => s
  | i + 1 => if (i + 1) % 2 = 0 then pv_ev f s i ||| bi_d (gr_it f (i + 1) s) (gr_it f i s) else pv_ev f s i
theorem pv_evP {f : Nat → Nat} {s i : Nat} (h : (i + 1) % 2 = 0) : pv_ev f s (i + 1) = pv_ev f s i ||| bi_d (gr_it f (i + 1) s) (gr_it f i s) := by
  show (if (i + 1) % 2 = 0 then _ else _) = _
  rw [if_pos h]
theorem pv_evN {f : Nat → Nat} {s i : Nat} (h : ¬ (i + 1) % 2 = 0) : pv_ev f s (i + 1) = pv_ev f s i := by
  show (if (i + 1) % 2 = 0 then _ else _) = _
  rw [if_neg h]
theorem pv_evC {f h : Nat → Nat} {s : Nat} (e : ∀ i, gr_it f i s = gr_it h i s) : ∀ i, pv_ev f s i = pv_ev h s i := by
  intro i
  induction i with
  | zero => rfl
  | succ i ih =>
    by_cases c : (i + 1) % 2 = 0
    · rw [pv_evP c, pv_evP c, ih, e, e]
    · rw [pv_evN c, pv_evN c, ih]
theorem pv_evB {f : Nat → Nat} {s n : Nat} (h : ∀ i, gr_it f i s < 2 ^ n) : ∀ i, pv_ev f s i < 2 ^ n := by
  intro i
  induction i with
  | zero => exact h 0
  | succ i ih =>
    by_cases c : (i + 1) % 2 = 0
    · rw [pv_evP c]
      exact Nat.or_lt_two_pow ih (bi_dlt (h (i + 1)))
    · rw [pv_evN c]; exact ih
/-- sides: (near, placed) before p -/
def pv_sd (ev sp : Nat → Nat) : Nat → Nat × Nat
  | 0 => (0, 0)
  | p + 1 => if (pv_sd ev sp p).2.testBit p = true then pv_sd ev sp p else ((pv_sd ev sp p).1 ||| ev p, (pv_sd ev sp p).2 ||| sp p)
theorem pv_sdP {ev sp : Nat → Nat} {p : Nat} (h : (pv_sd ev sp p).2.testBit p = true) : pv_sd ev sp (p + 1) = pv_sd ev sp p := by
  show (if _ then _ else _) = _
  rw [if_pos h]
theorem pv_sdN {ev sp : Nat → Nat} {p : Nat} (h : ¬ (pv_sd ev sp p).2.testBit p = true) : pv_sd ev sp (p + 1) = ((pv_sd ev sp p).1 ||| ev p, (pv_sd ev sp p).2 ||| sp p) := by
  show (if _ then _ else _) = _
  rw [if_neg h]
theorem pv_sdB {ev sp : Nat → Nat} {m : Nat} (h1 : ∀ p, ev p < 2 ^ m) (h2 : ∀ p, sp p < 2 ^ m) : ∀ p, (pv_sd ev sp p).1 < 2 ^ m ∧ (pv_sd ev sp p).2 < 2 ^ m := by
  intro p
  induction p with
  | zero => exact ⟨Nat.two_pow_pos m, Nat.two_pow_pos m⟩
  | succ p ih =>
    by_cases c : (pv_sd ev sp p).2.testBit p = true
    · rw [pv_sdP c]; exact ih
    · rw [pv_sdN c]
      exact ⟨Nat.or_lt_two_pow ih.1 (h1 p), Nat.or_lt_two_pow ih.2 (h2 p)⟩
theorem pv_sdD (a p s : Nat) : bi_d (bi_d a p) s = bi_d a (p ||| s) := by
  apply pv_ext
  intro i
  rw [pv_dT, pv_dT, pv_dT, Nat.testBit_or, Bool.or_eq_true]
  exact ⟨fun h => ⟨h.1.1, fun w => w.elim h.1.2 h.2⟩, fun h => ⟨⟨h.1, fun w => h.2 (Or.inl w)⟩, fun w => h.2 (Or.inr w)⟩⟩
section
variable {A B : Nat → Nat}
theorem pv_sdL {n L s : Nat} (g : cx_G n L A B) : pv_x A B L s (2 ^ n - 1) = L ↔ ∀ k, k < 16 → L.testBit k = true → ¬ (s.testBit (A k) = true ↔ s.testBit (B k) = true) := by
  constructor
  · intro e k hk lk
    rw [← e] at lk
    exact ((pv_xT A B L s _ k).mp lk).2.2
  · intro h
    apply pv_ext
    intro k
    rw [pv_xT]
    constructor
    · intro w
      exact w.1.2
    · intro lk
      have hk : k < 16 := pv_lt (n := 16) g.2.1 lk
      obtain ⟨g1, g2, g3⟩ := g.2.2 k hk lk
      exact ⟨⟨hk, lk⟩, ⟨(pv_all n _).mpr g1, (pv_all n _).mpr g2⟩, h k hk lk⟩
end
/-! trees -/
section
variable {A B : Nat → Nat}
noncomputable def pv_ty (A B : Nat → Nat) (n L : Nat) : Nat → Nat := pv_c (fun s => (bi_d s L = 0 ∧ pv_o s = n - 1) ∧ sp_X A B s (2 ^ n - 1) 1 = 2 ^ n - 1)
theorem pv_tyT {n L : Nat} (g : cx_G n L A B) : pv_ty A B n L 65536 = mt_N (fun k => L.testBit k) A B (n - 1) 16 (mt_r0 (n - 1)) := by
  rw [mt_NC]
  show mt_c _ 65536 = mt_c _ 65536
  apply mt_c_congr
  intro s hs
  obtain ⟨v, vm⟩ := mt_r0V (n - 1)
  have a8 := pv_a8 g.1.2
  have g0 := g.1.1
  have eb : ∀ {P : Prop} {x : Bool}, (P ↔ x = true) → gr_b P = x := by
    intro P x h
    cases hx : x
    · exact gr_bF.mpr (fun w => by rw [hx] at h; cases h.mp w)
    · exact gr_bT.mpr (h.mpr hx)
  apply eb
  rw [mt_okI (fun k => L.testBit k) A B (n - 1) s 16 (mt_r0 (n - 1)) v vm, mt_r0l]
  have e1 : mt_pk s 16 = pv_o s := mt_c_congr 16 (fun i _ => (eb Iff.rfl).symm)
  have e2 : bi_d s L = 0 ↔ ∀ j, j < 16 → s.testBit j = true → L.testBit j = true := by
    rw [pv_d0]
    exact ⟨fun h j _ => h j, fun h j w => h j (pv_lt (n := 16) hs w) w⟩
  (try dsimp only)
  rw [e1, e2]
  constructor
  · rintro ⟨⟨h1, h2⟩, h3⟩
    refine ⟨h1, h2, ?_⟩
    rw [mt_span A B (n - 1) s 16 (fun j hj w => by have := g.2.2 j hj (h1 j hj w); omega)]
    intro S cS s0 p hp
    have : (sp_X A B s (2 ^ n - 1) (2 ^ 0)).testBit p = true := by
      show (sp_X A B s (2 ^ n - 1) 1).testBit p = true
      rw [h3, pv_all]
      omega
    rw [pv_sp A B a8 ((pv_all n 0).mpr (by omega))] at this
    exact this S (fun k hk _ _ => cS k hk.1 hk.2) s0
  · rintro ⟨h1, h2, h3⟩
    refine ⟨⟨h1, h2⟩, ?_⟩
    rw [mt_span A B (n - 1) s 16 (fun j hj w => by have := g.2.2 j hj (h1 j hj w); omega)] at h3
    apply pv_ext
    intro p
    have c := pv_sp A B (us := s) a8 ((pv_all n 0).mpr (by omega)) p
    constructor
    · intro w
      exact gr_in (fun _ _ _ _ => trivial) (c.mp w) ((pv_all n 0).mpr (by omega))
    · intro w
      have pn := (pv_all n p).mp w
      refine c.mpr (fun S cS s0 => ?_)
      exact h3 S (fun j hj t => by
        have := g.2.2 j hj (h1 j hj t)
        exact cS j ⟨hj, t⟩ ((pv_all n _).mpr this.1) ((pv_all n _).mpr this.2.1)) s0 p (by omega)
end

/-! one walk: what holds at the head of its loop, all in one -/
def wr_I (n L : Nat) (A B : Nat → Nat) (root m0 : Nat) (o0 : Nat → Nat) (WB0 WH0 : Nat) (t met rb WB WH : Nat) (o lo cf cb nl la : Nat → Nat) : Prop :=
  wk_G n (fun k => k < 16 ∧ L.testBit k = true) A B root m0 t met o cf cb nl la ∧
  wk_L (fun k => k < 16 ∧ L.testBit k = true) A B m0 o lo cb nl la ∧
  wk_B n (fun k => k < 16 ∧ L.testBit k = true) A B root WB cb la ∧
  wk_H n (fun k => k < 16 ∧ L.testBit k = true) A B root m0 rb WH o cf la ∧
  (met = pv_c (fun p => o p ≠ 0) 8 ∧ rb + wk_M m0 o nl la ≤ 136 ∧ WB < 65536 ∧ WH < 256) ∧
  ((∀ k, WB0.testBit k = true → WB.testBit k = true) ∧ (∀ k, WH0.testBit k = true → WH.testBit k = true)) ∧
  (∀ p, o0 p ≠ 0 → o p = o0 p) ∧ (∀ p, o p ≠ 0 → o p ≤ m0 → o0 p ≠ 0)
section
variable {n L : Nat} {A B : Nat → Nat} {root m0 : Nat} {o0 : Nat → Nat} {WB0 WH0 t met rb WB WH : Nat} {o lo cf cb nl la : Nat → Nat}
/-- small facts -/
theorem wr_f (g : cx_G n L A B) (I : wr_I n L A B root m0 o0 WB0 WH0 t met rb WB WH o lo cf cb nl la) : t < n ∧ t < 8 ∧ root < n ∧ root < 8 ∧ nl t ≤ 16 ∧ met ≤ 8 ∧ (∀ p, o p ≤ 8) ∧ m0 < o t ∧ m0 < o root ∧ lo t ≤ 8 ∧ lo t ≤ o t ∧ rb ≤ 135 ∧ la t = 0 ∧ 1 ≤ wk_M m0 o nl la := by
  obtain ⟨G, Lw, Bw, H, ⟨c1, c2, c3, c4⟩, _, _, _⟩ := I
  obtain ⟨g1, g2, g3, ⟨g4a, g4b, g4c, g4d, g4e⟩, g5, g6, g7, g8, g9, g10, g11, g12⟩ := G
  have n8 := g.1.2
  have tn : t < n := by
    apply Classical.byContradiction
    intro q
    have := g1 t (by omega)
    have := g4d.1
    omega
  have rn : root < n := by
    apply Classical.byContradiction
    intro q
    have := g1 root (by omega)
    omega
  have m8 : met ≤ 8 := by rw [c1]; exact pv_cn _ 8
  have lt := (Lw t g4d).1
  have ot := g2 t
  have nt := g12 t g4d.1
  have mp := wk_Mp (m0 := m0) (o := o) (nl := nl) (la := la) (p := t) (by omega) g4d nt
  exact ⟨tn, by omega, rn, by omega, nt, m8, fun p => by have := g2 p; omega, g4d.1, g4c.1, by omega, lt, by omega, g4d.2, mp⟩
theorem wr_look (g : cx_G n L A B) (I : wr_I n L A B root m0 o0 WB0 WH0 t met rb WB WH o lo cf cb nl la) (hk : nl t < 16) (hz : ∀ z, wk_J (fun k => k < 16 ∧ L.testBit k = true) A B (nl t) t z → nl t ≠ cb t → o z ≠ 0) (v : Nat) (v1 : v ≤ lo t) (v2 : ∀ z, wk_J (fun k => k < 16 ∧ L.testBit k = true) A B (nl t) t z → nl t ≠ cb t → v ≤ o z) (v3 : v = lo t ∨ ∃ z, wk_J (fun k => k < 16 ∧ L.testBit k = true) A B (nl t) t z ∧ nl t ≠ cb t ∧ v = o z ∧ m0 < o z) : wr_I n L A B root m0 o0 WB0 WH0 t met rb WB WH o (wk_u lo t v) cf cb (wk_u nl t (nl t + 1)) la ∧ wk_M m0 o (wk_u nl t (nl t + 1)) la < wk_M m0 o nl la := by
  have f := wr_f g I
  obtain ⟨G, Lw, Bw, H, ⟨c1, c2, c3, c4⟩, c5, c6, c7⟩ := I
  have G0 := G
  obtain ⟨g1, g2, g3, ⟨g4a, g4b, g4c, g4d, g4e⟩, g5⟩ := G
  have m := wk_Mlook (m0 := m0) (o := o) (nl := nl) (la := la) (t := t) f.2.1 g4d hk
  exact ⟨⟨wk_lookG (cx_0 g) G0 hk hz, wk_lookL G0 Lw v v1 v2 v3, Bw, H, ⟨c1, by omega, c3, c4⟩, c5, c6, c7⟩, m⟩
theorem wr_meet (g : cx_G n L A B) (I : wr_I n L A B root m0 o0 WB0 WH0 t met rb WB WH o lo cf cb nl la) (hk : nl t < 16) {z : Nat} (j : wk_J (fun k => k < 16 ∧ L.testBit k = true) A B (nl t) t z) (hz : o z = 0) : wr_I n L A B root m0 o0 WB0 WH0 z (met + 1) rb WB WH (wk_u o z (met + 1)) (wk_u lo z (met + 1)) (wk_u cf z t) (wk_u cb z (nl t)) (wk_u (wk_u nl t (nl t + 1)) z 0) la ∧ wk_M m0 (wk_u o z (met + 1)) (wk_u (wk_u nl t (nl t + 1)) z 0) la < wk_M m0 o nl la := by
  have f := wr_f g I
  obtain ⟨G, Lw, Bw, H, ⟨c1, c2, c3, c4⟩, c5, c6, c7⟩ := I
  have G0 := G
  obtain ⟨g1, g2, g3, ⟨g4a, g4b, g4c, g4d, g4e⟩, g5⟩ := G
  have jn := wk_Jn (cx_0 g) j
  have m := wk_Mmeet (m0 := m0) (met := met) (o := o) (nl := nl) (la := la) (t := t) (z := z) f.2.1 g4d hk hz jn.2.2.2
  have n8 := g.1.2
  have c : pv_c (fun p => o p ≠ 0) 8 + 1 = pv_c (fun p => wk_u o z (met + 1) p ≠ 0) 8 := by
    apply mt_c_but z 8 (by omega)
    · exact gr_bT.mpr (show wk_u o z (met + 1) z ≠ 0 by rw [wk_us]; omega)
    · exact gr_bF.mpr (fun w => w hz)
    · intro i _ hi
      apply gr_bC
      show o i ≠ 0 ↔ wk_u o z (met + 1) i ≠ 0
      rw [wk_un o _ hi]
  refine ⟨⟨wk_meetG (cx_0 g) G0 hk j hz, wk_meetL (cx_0 g) G0 Lw j hz, wk_meetB G0 Bw (nl t) hz, wk_meetH G0 H hz, ⟨by omega, by omega, c3, c4⟩, c5, fun p hp => ?_, fun p h1 h2 => ?_⟩, m⟩
  · have : p ≠ z := by
      intro e
      rw [e] at hp
      have := c6 z hp
      omega
    rw [wk_un o _ this]
    exact c6 p hp
  · by_cases e : p = z
    · rw [e, wk_us] at h2
      omega
    · rw [wk_un o _ e] at h1 h2
      exact c7 p h1 h2
theorem wr_leave (g : cx_G n L A B) (I : wr_I n L A B root m0 o0 WB0 WH0 t met rb WB WH o lo cf cb nl la) (hk : nl t = 16) (tr : t ≠ root) {rb' WB' WH' v : Nat} (hv : v = if lo t < lo (cf t) then lo t else lo (cf t)) (hr : rb' = if cf t = root then rb + 1 else rb)
    (hB : WB' = if o (cf t) < lo t then WB ||| 2 ^ (cb t) else WB) (hH : WH' = if (if cf t = root then 1 < rb' else o (cf t) ≤ lo t) then WH ||| 2 ^ (cf t) else WH) : wr_I n L A B root m0 o0 WB0 WH0 (cf t) met rb' WB' WH' o (wk_u lo (cf t) v) cf cb nl (wk_u la t met) ∧ wk_M m0 o nl (wk_u la t met) < wk_M m0 o nl la := by
  have f := wr_f g I
  obtain ⟨G, Lw, Bw, H, ⟨c1, c2, c3, c4⟩, ⟨c5, c6⟩, c7, c8⟩ := I
  have G0 := G
  obtain ⟨g1, g2, g3, ⟨g4a, g4b, g4c, g4d, g4e⟩, g5, g6, g7, g8, g9⟩ := G
  have m := wk_Mleave (m0 := m0) (met := met) (o := o) (nl := nl) (la := la) (t := t) f.2.1 g4d hk (by omega)
  obtain ⟨k1, k2, k3, k4⟩ := g6 t g4d.1 tr
  have jn := wk_Jn (cx_0 g) k3
  have n8 := g.1.2
  have bT : ∀ k, WB'.testBit k = true ↔ (WB.testBit k = true ∨ (k = cb t ∧ o (cf t) < lo t)) := by
    intro k
    rw [hB]
    by_cases c : o (cf t) < lo t
    · rw [if_pos c, Nat.testBit_or, Bool.or_eq_true, pv_2p]
      exact ⟨fun h => h.elim Or.inl (fun q => Or.inr ⟨q, c⟩), fun h => h.elim Or.inl (fun q => Or.inr q.1)⟩
    · rw [if_neg c]
      exact ⟨Or.inl, fun h => h.elim id (fun q => absurd q.2 c)⟩
  have hT : ∀ k, WH'.testBit k = true ↔ (WH.testBit k = true ∨ (k = cf t ∧ (if cf t = root then 1 < rb' else o (cf t) ≤ lo t))) := by
    intro k
    rw [hH]
    by_cases c : (if cf t = root then 1 < rb' else o (cf t) ≤ lo t)
    · rw [if_pos c, Nat.testBit_or, Bool.or_eq_true, pv_2p]
      exact ⟨fun h => h.elim Or.inl (fun q => Or.inr ⟨q, c⟩), fun h => h.elim Or.inl (fun q => Or.inr q.1)⟩
    · rw [if_neg c]
      exact ⟨Or.inl, fun h => h.elim id (fun q => absurd q.2 c)⟩
  have b1 : WB' < 65536 := by
    rw [hB]
    split
    · exact Nat.or_lt_two_pow (n := 16) c3 (Nat.pow_lt_pow_right (by omega) jn.1)
    · exact c3
  have b2 : WH' < 256 := by
    have p8 : 2 ^ (cf t) < 2 ^ 8 := Nat.pow_lt_pow_right (by omega) (by omega)
    rw [hH]
    by_cases c : (if cf t = root then 1 < rb' else o (cf t) ≤ lo t)
    · rw [if_pos c]
      exact Nat.or_lt_two_pow (n := 8) c4 p8
    · rw [if_neg c]
      exact c4
  have r1 : rb' ≤ rb + 1 := by
    rw [hr]
    split <;> omega
  exact ⟨⟨wk_leaveG G0 hk tr, wk_leaveL G0 Lw hk tr (cx_0 g) v hv, wk_leaveB (cx_0 g) G0 Lw Bw hk tr bT, wk_leaveH (cx_0 g) G0 Lw H hk tr hr hT, ⟨c1, by omega, b1, b2⟩, ⟨fun k h => (bT k).mpr (Or.inl (c5 k h)), fun k h => (hT k).mpr (Or.inl (c6 k h))⟩, c7, c8⟩, m⟩
/-- between walks, with the count -/
def wr_Z (n L : Nat) (A B : Nat → Nat) (met WB WH : Nat) (o ro : Nat → Nat) : Prop :=
  wk_Z n (fun k => k < 16 ∧ L.testBit k = true) A B met WB WH o ro ∧ (met = pv_c (fun p => o p ≠ 0) 8 ∧ WB < 65536 ∧ WH < 256)
theorem wr_begin (g : cx_G n L A B) {ro : Nat → Nat} (Z : wr_Z n L A B m0 WB WH o ro) (rn : root < n) (hr : o root = 0) : wr_I n L A B root m0 o WB WH root (m0 + 1) 0 WB WH (wk_u o root (m0 + 1)) (wk_u lo root (m0 + 1)) (wk_u cf root root) (wk_u cb root 99) (wk_u nl root 0) (fun _ => 0) := by
  obtain ⟨Z, z1, z2, z3⟩ := Z
  obtain ⟨s1, s2, s3, s4⟩ := wk_start (cx_0 g) (lo := lo) (cf := cf) (cb := cb) (nl := nl) Z rn hr
  have n8 := g.1.2
  have c : pv_c (fun p => o p ≠ 0) 8 + 1 = pv_c (fun p => wk_u o root (m0 + 1) p ≠ 0) 8 := by
    apply mt_c_but root 8 (by omega)
    · exact gr_bT.mpr (show wk_u o root (m0 + 1) root ≠ 0 by rw [wk_us]; omega)
    · exact gr_bF.mpr (fun w => w hr)
    · intro i _ hi
      apply gr_bC
      show o i ≠ 0 ↔ wk_u o root (m0 + 1) i ≠ 0
      rw [wk_un o _ hi]
  have mb := wk_Mb m0 (wk_u o root (m0 + 1)) (wk_u nl root 0) (fun _ => 0)
  refine ⟨s1, s2, s3, s4, ⟨by omega, by omega, z2, z3⟩, ⟨fun k h => h, fun k h => h⟩, fun p hp => ?_, fun p h1 h2 => ?_⟩
  · have : p ≠ root := by
      intro e
      rw [e] at hp
      exact hp hr
    rw [wk_un o _ this]
  · by_cases e : p = root
    · rw [e, wk_us] at h2
      omega
    · rw [wk_un o _ e] at h1
      exact h1
theorem wr_fin (g : cx_G n L A B) {ro ro0 : Nat → Nat} (Z : wr_Z n L A B m0 WB0 WH0 o0 ro0) (I : wr_I n L A B root m0 o0 WB0 WH0 root met rb WB WH o lo cf cb nl la) (hk : nl root = 16) (r0 : ∀ p, o0 p ≠ 0 → ro p = ro0 p) (r1 : ∀ p, m0 < o p → ro p = root) (r2 : ∀ p, p < root → o0 p ≠ 0) : wr_Z n L A B met WB WH o ro := by
  obtain ⟨G, Lw, Bw, H, ⟨c1, c2, c3, c4⟩, ⟨c5, c6⟩, c7, c8⟩ := I
  exact ⟨wk_end (cx_0 g) Z.1 G Bw H hk (fun p hp => ⟨c7 p hp, r0 p hp⟩) c8 r1 r2 c5 c6, c1, c3, c4⟩
/-- nothing met yet -/
theorem wr_0 : wr_Z n L A B 0 0 0 (fun _ => 0) (fun _ => 0) := by
  have z : ∀ k, ¬ Nat.testBit 0 k = true := by
    intro k h
    rw [Nat.zero_testBit] at h
    cases h
  refine ⟨⟨fun _ _ => rfl, fun _ => Nat.le_refl _, fun _ _ _ h => absurd rfl h, fun _ _ _ _ h => absurd rfl h, fun _ h => absurd rfl h, fun k h => absurd h (z k), fun _ _ h => absurd rfl h, fun k h => absurd h (z k), fun _ h => absurd rfl h⟩, ?_, by omega, by omega⟩
  exact (mt_c_0 8 (fun i _ => gr_bF.mpr (fun h => h rfl))).symm
/-- all met: the answers -/
theorem wr_all (g : cx_G n L A B) {ro : Nat → Nat} (Z : wr_Z n L A B met WB WH o ro) (h : ∀ p, p < n → o p ≠ 0) : WB = pv_b A B n L ∧ WH = pv_h A B n L ∧ ∀ p, p < n → ro p = pv_lb (gr_R A B (fun k => k < 16 ∧ L.testBit k = true) (fun x => x < n)) p := by
  obtain ⟨⟨z1, z2, z3, z4, z5, z6, z7, z8, z9⟩, z10, z11, z12⟩ := Z
  refine ⟨pv_bI g (fun k => ⟨z6 k, fun w => ?_⟩), pv_hI g (fun p => ⟨z8 p, fun w => z9 p (h p w.1) w⟩), fun p hp => ?_⟩
  · have gk := g.2.2 k w.1.1 w.1.2
    exact z7 k w.1 (h _ gk.1) w
  · obtain ⟨q1, q2, q3⟩ := z5 p (h p hp)
    exact pv_lbU (gr_RE A B _ _) q1 q3
end

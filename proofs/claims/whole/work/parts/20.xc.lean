/-! X: groups, bridges, hinges, agree, block, island, weakest, fragile -/
theorem xl_sr {P p : Nat} (hP : P < 2 ^ 62) (hp : p < 8) : (lN P >>> ((nI p * 4).toInt64 &&& 63)) &&& 15 = lN (P / 16 ^ p % 16) := by
  have e : nI p * 4 = nI (p * 4) := pk_mul p 4
  have d : (((nI (p * 4)).toInt64 &&& 63).toBitVec.smod 64).toNat = p * 4 := by
    rw [wb_c (p * 4) (by omega), wb_tb, wb_sm (p * 4) (by omega), BitVec.toNat_ofNat]
    omega
  have q : P / 16 ^ p < 2 ^ 64 := Nat.lt_of_le_of_lt (Nat.div_le_self _ _) (by omega)
  rw [e, pf_shr d hP, Nat.pow_mul']
  exact g_mask (p := 16) (s := 4) (by decide) (by omega) q
section
variable {n L : Nat} {A B : Nat → Nat} {vm vr vb vh : Int32} {en od lw fr cy nx rt : Nat → Int32} {tb : Nat → Int64}
theorem xc_part {post : Int64 → SX → Prop} (g : cx_G n L A B) (hX : cx_X L A B en) {x : Int32} (hx : x = 0 ∨ x = 1 ∨ x = 2) (k : ∀ vm vr vb vh od lw fr cy nx rt, post (lN (pv_pt (pv_lb (gr_R A B (fun k => k < 16 ∧ L.testBit k = true) (fun x => x < n))) n)) (nI n, nI L, vm, vr, vb, vh, en, od, lw, fr, cy, nx, rt, tb)) : wpX_partitionBy post (nI n, nI L, vm, vr, vb, vh, en, od, lw, fr, cy, nx, rt, tb) x := by
  by_cases e : x = 1
  · refine br_t e ?_
    refine xw_all g hX ?_
    intro vm' vr' od' lw' fr' cy' nx' rt' h
    exact xl_part0 g hX hx (fun _ p hp => h p hp) (k _ _ _ _ _ _ _ _ _ _)
  · exact br_f e (xl_part0 g hX hx (fun w => absurd w e) (k _ _ _ _ _ _ _ _ _ _))
theorem xc_21 {post : Int32 → SX → Prop} (g : cx_G n L A B) (k : post (nI (pv_g A B L (2 ^ n - 1))) (nI n, nI L, vm, vr, vb, vh, en, od, lw, fr, cy, nx, rt, tb)) : ∃ f, wX_groups_21 post (lN (pv_pt (pv_lb (gr_R A B (fun k => k < 16 ∧ L.testBit k = true) (fun x => x < n))) n)) (nI n) (nI L) vm vr vb vh en od lw fr cy nx rt tb f 0 0 := by
  have n8 := g.1.2
  have a8 := pv_a8 n8
  have E := gr_RE A B (fun k => k < 16 ∧ L.testBit k = true) (fun x => x < n)
  have l16 : ∀ p, p < n → pv_lb (gr_R A B (fun k => k < 16 ∧ L.testBit k = true) (fun x => x < n)) p < 16 := fun p hp => by
    have := pv_lbP E p
    omega
  have cnt : pv_c (fun p => pv_lb (gr_R A B (fun k => k < 16 ∧ L.testBit k = true) (fun x => x < n)) p = p) n = pv_g A B L (2 ^ n - 1) := by
    rw [pv_lbN E n8, pv_gT A B a8, pv_qn]
  have lt := pv_ptL l16 n (Nat.le_refl n)
  have le : 16 ^ n ≤ 16 ^ 8 := Nat.pow_le_pow_right (by omega) n8
  have a : ∀ f p, n < f + p → p ≤ n → wX_groups_21 post (lN (pv_pt (pv_lb (gr_R A B (fun k => k < 16 ∧ L.testBit k = true) (fun x => x < n))) n)) (nI n) (nI L) vm vr vb vh en od lw fr cy nx rt tb f (nI (pv_c (fun p => pv_lb (gr_R A B (fun k => k < 16 ∧ L.testBit k = true) (fun x => x < n)) p = p) p)) (nI p) := by
    intro f
    induction f with
    | zero => intro p h h'; omega
    | succ f ih =>
      intro p h h'
      rw [wX_groups_21]
      by_cases e : p = n
      · rw [e, cnt]
        exact br_t (nI_le (by omega) (by omega)) k
      · have pn : p < n := by omega
        have lp := l16 p pn
        have nxt := ih (p + 1) (by omega) (by omega)
        refine br_f (nI_ge (by omega) (by omega)) (ek_if (d := pv_lb (gr_R A B (fun k => k < 16 ∧ L.testBit k = true) (fun x => x < n)) p = p) (by rw [xl_sr (by omega) (by omega), pv_ptE l16 pn, nI_l (by omega), lN_eq (by omega) (by omega)]) (fun w => ?_) (fun w => ?_))
        · rw [pv_cP (P := fun p => pv_lb (gr_R A B (fun k => k < 16 ∧ L.testBit k = true) (fun x => x < n)) p = p) (n := p) w] at nxt
          exact nm_r (nI_1 _) (nm_r (nI_1 p) nxt)
        · rw [pv_cN (P := fun p => pv_lb (gr_R A B (fun k => k < 16 ∧ L.testBit k = true) (fun x => x < n)) p = p) (n := p) w] at nxt
          exact nm_r (nI_1 p) nxt
  exact ⟨n + 1, a (n + 1) 0 (by omega) (by omega)⟩
theorem xc_groups {post : Int32 → SX → Prop} (g : cx_G n L A B) (hX : cx_X L A B en) {x : Int32} (k1 : (x = 0 ∨ x = 1 ∨ x = 2) → ∀ vm vr vb vh od lw fr cy nx rt, post (nI (pv_g A B L (2 ^ n - 1))) (nI n, nI L, vm, vr, vb, vh, en, od, lw, fr, cy, nx, rt, tb)) (k0 : ¬ (x = 0 ∨ x = 1 ∨ x = 2) → post (-1) (nI n, nI L, vm, vr, vb, vh, en, od, lw, fr, cy, nx, rt, tb)) : wpX_groups post (nI n, nI L, vm, vr, vb, vh, en, od, lw, fr, cy, nx, rt, tb) x := by
  unfold wpX_groups
  dsimp only
  refine xl_engine (fun hx => br_f (by decide) ?_) (fun hx => br_t rfl (k0 hx))
  refine xc_part g hX hx ?_
  intro vm' vr' vb' vh' od' lw' fr' cy' nx' rt'
  exact xc_21 g (k1 hx _ _ _ _ _ _ _ _ _ _)
theorem xc_brBy {post : Int32 → SX → Prop} (g : cx_G n L A B) (hX : cx_X L A B en) {x : Int32} (hx : x = 0 ∨ x = 1 ∨ x = 2) (k : ∀ vm vr vb vh od lw fr cy nx rt, post (nI (pv_b A B n L)) (nI n, nI L, vm, vr, vb, vh, en, od, lw, fr, cy, nx, rt, tb)) : wpX_bridgesBy post (nI n, nI L, vm, vr, vb, vh, en, od, lw, fr, cy, nx, rt, tb) x := by
  by_cases e : x = 0
  · refine br_t e ?_
    exact xl_flB g hX (k _ _ _ _ _ _ _ _ _ _)
  · refine br_f e ?_
    by_cases e2 : x = 2
    · refine br_t e2 ?_
      exact xl_cutB g hX (k _ _ _ _ _ _ _ _ _ _)
    · refine br_f e2 ?_
      refine xw_all g hX ?_
      intro vm' vr' od' lw' fr' cy' nx' rt' h
      exact k _ _ _ _ _ _ _ _ _ _
theorem xc_hiBy {post : Int32 → SX → Prop} (g : cx_G n L A B) (hX : cx_X L A B en) {x : Int32} (hx : x = 0 ∨ x = 1 ∨ x = 2) (k : ∀ vm vr vb vh od lw fr cy nx rt, post (nI (pv_h A B n L)) (nI n, nI L, vm, vr, vb, vh, en, od, lw, fr, cy, nx, rt, tb)) : wpX_hingesBy post (nI n, nI L, vm, vr, vb, vh, en, od, lw, fr, cy, nx, rt, tb) x := by
  by_cases e : x = 0
  · refine br_t e ?_
    exact xl_flH g hX (k _ _ _ _ _ _ _ _ _ _)
  · refine br_f e ?_
    by_cases e2 : x = 2
    · refine br_t e2 ?_
      exact xl_cutH g hX (k _ _ _ _ _ _ _ _ _ _)
    · refine br_f e2 ?_
      refine xw_all g hX ?_
      intro vm' vr' od' lw' fr' cy' nx' rt' h
      exact k _ _ _ _ _ _ _ _ _ _
theorem xc_bridges {post : Int32 → SX → Prop} (g : cx_G n L A B) (hX : cx_X L A B en) {x : Int32} (k1 : (x = 0 ∨ x = 1 ∨ x = 2) → ∀ vm vr vb vh od lw fr cy nx rt, post (nI (pv_b A B n L)) (nI n, nI L, vm, vr, vb, vh, en, od, lw, fr, cy, nx, rt, tb)) (k0 : ¬ (x = 0 ∨ x = 1 ∨ x = 2) → post (-1) (nI n, nI L, vm, vr, vb, vh, en, od, lw, fr, cy, nx, rt, tb)) : wpX_bridges post (nI n, nI L, vm, vr, vb, vh, en, od, lw, fr, cy, nx, rt, tb) x := by
  unfold wpX_bridges
  dsimp only
  refine xl_engine (fun hx => br_f (by decide) ?_) (fun hx => br_t rfl (k0 hx))
  refine xc_brBy g hX hx ?_
  intro vm' vr' vb' vh' od' lw' fr' cy' nx' rt'
  exact k1 hx _ _ _ _ _ _ _ _ _ _
theorem xc_hinges {post : Int32 → SX → Prop} (g : cx_G n L A B) (hX : cx_X L A B en) {x : Int32} (k1 : (x = 0 ∨ x = 1 ∨ x = 2) → ∀ vm vr vb vh od lw fr cy nx rt, post (nI (pv_h A B n L)) (nI n, nI L, vm, vr, vb, vh, en, od, lw, fr, cy, nx, rt, tb)) (k0 : ¬ (x = 0 ∨ x = 1 ∨ x = 2) → post (-1) (nI n, nI L, vm, vr, vb, vh, en, od, lw, fr, cy, nx, rt, tb)) : wpX_hinges post (nI n, nI L, vm, vr, vb, vh, en, od, lw, fr, cy, nx, rt, tb) x := by
  unfold wpX_hinges
  dsimp only
  refine xl_engine (fun hx => br_f (by decide) ?_) (fun hx => br_t rfl (k0 hx))
  refine xc_hiBy g hX hx ?_
  intro vm' vr' vb' vh' od' lw' fr' cy' nx' rt'
  exact k1 hx _ _ _ _ _ _ _ _ _ _
theorem xc_agree {post : Int32 → SX → Prop} (g : cx_G n L A B) (hX : cx_X L A B en) {x y : Int32} (k1 : (x = 0 ∨ x = 1 ∨ x = 2) → (y = 0 ∨ y = 1 ∨ y = 2) → ∀ vm vr vb vh od lw fr cy nx rt, post 1 (nI n, nI L, vm, vr, vb, vh, en, od, lw, fr, cy, nx, rt, tb)) (k0 : ¬ ((x = 0 ∨ x = 1 ∨ x = 2) ∧ (y = 0 ∨ y = 1 ∨ y = 2)) → post 0 (nI n, nI L, vm, vr, vb, vh, en, od, lw, fr, cy, nx, rt, tb)) : wpX_agree post (nI n, nI L, vm, vr, vb, vh, en, od, lw, fr, cy, nx, rt, tb) x y := by
  unfold wpX_agree
  dsimp only
  refine xl_engine (fun hx => br_f (by decide) ?_) (fun hx => br_t rfl (k0 (fun w => hx w.1)))
  refine xl_engine (fun hy => br_f (by decide) ?_) (fun hy => br_t rfl (k0 (fun w => hy w.2)))
  refine xc_part g hX hx ?_
  intro vm' vr' vb' vh' od' lw' fr' cy' nx' rt'
  refine xc_part g hX hy ?_
  intro vm' vr' vb' vh' od' lw' fr' cy' nx' rt'
  refine br_t rfl ?_
  refine xc_brBy g hX hx ?_
  intro vm' vr' vb' vh' od' lw' fr' cy' nx' rt'
  refine xc_brBy g hX hy ?_
  intro vm' vr' vb' vh' od' lw' fr' cy' nx' rt'
  refine br_t rfl ?_
  refine xc_hiBy g hX hx ?_
  intro vm' vr' vb' vh' od' lw' fr' cy' nx' rt'
  refine xc_hiBy g hX hy ?_
  intro vm' vr' vb' vh' od' lw' fr' cy' nx' rt'
  exact br_t rfl (k1 hx hy _ _ _ _ _ _ _ _ _ _)
theorem xc_parted {post : Int32 → Prop} (g : cx_G n L A B) (hX : cx_X L A B en) {sa sb : Nat} (b8 : sb < 256) (h1 : (∃ p, p < n ∧ sp_X A B L (bi_d (2 ^ n - 1) (2 ^ p)) sa &&& sb = 0) → post 1) (h0 : (∀ p, p < n → ¬ (sp_X A B L (bi_d (2 ^ n - 1) (2 ^ p)) sa &&& sb = 0)) → post 0) : wpX_partedByPoint post (nI n, nI L, vm, vr, vb, vh, en, od, lw, fr, cy, nx, rt, tb) (nI sa) (nI sb) := by
  have n8 := g.1.2
  have a8 := pv_a8 n8
  unfold wpX_partedByPoint
  dsimp only
  refine xl_all n8 ?_
  refine ⟨n + 1, ?_⟩
  have a : ∀ f p, n < f + p → p ≤ n → (∀ q, q < p → ¬ (sp_X A B L (bi_d (2 ^ n - 1) (2 ^ q)) sa &&& sb = 0)) → wX_partedByPoint_8 post (nI sa) (nI sb) (nI (2 ^ n - 1)) (nI n) (nI L) vm vr vb vh en od lw fr cy nx rt tb f (nI p) := by
    intro f
    induction f with
    | zero => intro p h h'; omega
    | succ f ih =>
      intro p h h' hq
      rw [wX_partedByPoint_8]
      by_cases e : p = n
      · subst e
        exact br_t (nI_le (by omega) (by omega)) (h0 hq)
      · have k8 : bi_d (2 ^ n - 1) (2 ^ p) < 256 := bi_dlt (n := 8) a8
        refine br_f (nI_ge (by omega) (by omega)) (nm_r (e' := nI (bi_d (2 ^ n - 1) (2 ^ p))) (by rw [bi_1 (by omega), bi_not]) ?_)
        refine xl_spread g hX (fun _ _ h => h) g.2.1 k8 ?_
        refine ek_if (d := sp_X A B L (bi_d (2 ^ n - 1) (2 ^ p)) sa &&& sb = 0) (by rw [nx_and, bi_z (Nat.lt_trans (Nat.and_lt_two_pow (n := 8) _ b8) (by omega))]) (fun w => h1 ⟨p, by omega, w⟩) (fun w => nm_r (nI_1 p) (ih (p + 1) (by omega) (by omega) (fun q hq' => ?_)))
        by_cases e2 : q = p
        · rw [e2]; exact w
        · exact hq q (by omega)
  exact a (n + 1) 0 (by omega) (by omega) (fun q hq => by omega)
/-- the block of line k -/
noncomputable def xc_bl (A B : Nat → Nat) (n L k : Nat) (j : Nat) : Prop := L.testBit j = true ∧ ∀ p, p < n → ¬ (sp_X A B L (bi_d (2 ^ n - 1) (2 ^ p)) (bi_e (A k) (B k)) &&& bi_e (A j) (B j) = 0)
theorem xc_block {post : Int32 → Prop} (g : cx_G n L A B) (hX : cx_X L A B en) {x : Int32} (k1 : ∀ k, k < 16 → x = nI k → L.testBit k = true → post (nI (2 ^ k ||| pv_m (xc_bl A B n L k) 16))) (k0 : (∀ k, k < 16 → x = nI k → ¬ L.testBit k = true) → post (-1)) : wpX_block post (nI n, nI L, vm, vr, vb, vh, en, od, lw, fr, cy, nx, rt, tb) x := by
  have L16 := g.2.1
  unfold wpX_block
  dsimp only
  refine xl_line L16 (fun k hk ek lk => br_f (by decide) ?_) (fun h => br_t rfl (k0 h))
  subst ek
  have ck : (nI k).toNatClampNeg = k := nI_clamp (by omega)
  have ek := hX k hk lk
  refine nm_r (bi_1 (by omega)) ⟨17, ?_⟩
  have a : ∀ f i, 16 < f + i → i ≤ 16 → wX_block_16 post (nI k) (nI n) (nI L) vm vr vb vh en od lw fr cy nx rt tb f (nI (2 ^ k ||| pv_m (xc_bl A B n L k) i)) (nI i) := by
    intro f
    induction f with
    | zero => intro i h h'; omega
    | succ f ih =>
      intro i h h'
      rw [wX_block_16]
      by_cases e : i = 16
      · subst e
        exact br_t (nI_le (b := 16) (by omega) (by omega)) (k1 k hk rfl lk)
      · have i16 : i < 16 := by omega
        have ci : (nI i).toNatClampNeg = i := nI_clamp (by omega)
        have nxt := ih (i + 1) (by omega) (by omega)
        have no : ¬ xc_bl A B n L k i → wX_block_16 post (nI k) (nI n) (nI L) vm vr vb vh en od lw fr cy nx rt tb f (nI (2 ^ k ||| pv_m (xc_bl A B n L k) i)) (nI (i + 1)) := by
          intro w
          rw [pv_mN w] at nxt
          exact nxt
        refine br_f (nI_ge (b := 16) (by omega) (by omega)) (xl_lineN L16 i16 (fun u => br_f (by decide) ⟨vp_in_nI hk (by omega), vp_in_nI i16 (by omega), ?_⟩) (fun u => br_t rfl (nm_r (nI_1 i) (no (fun w => u w.1)))))
        rw [ck, ci, ek, hX i i16 u]
        refine xc_parted g hX (cx_e8 g i16 u) (fun ⟨p, hp, w⟩ => br_f (by decide) (nm_r (nI_1 i) (no (fun z => z.2 p hp w)))) (fun w => br_t rfl ?_)
        rw [pv_mP ⟨u, w⟩, ← Nat.or_assoc] at nxt
        exact nm_r (by rw [bi_1 (by omega), bi_or]) (nm_r (nI_1 i) nxt)
  have := a 17 0 (by omega) (by omega)
  rw [pv_m0, Nat.or_zero] at this
  exact this
theorem xc_island {post : Int32 → Prop} (g : cx_G n L A B) (hX : cx_X L A B en) {x : Int32} (k1 : ∀ p, p < n → x = nI p → post (nI (sp_X A B (bi_d L (pv_b A B n L)) (2 ^ n - 1) (2 ^ p)))) (k0 : (∀ p, p < n → ¬ x = nI p) → post (-1)) : wpX_island post (nI n, nI L, vm, vr, vb, vh, en, od, lw, fr, cy, nx, rt, tb) x := by
  have n8 := g.1.2
  unfold wpX_island
  dsimp only
  refine xl_point n8 (fun p hp ep => br_f (by decide) ?_) (fun h => br_t rfl (k0 h))
  refine xl_flB g hX ?_
  refine nm_r (bi_not _ _) ?_
  refine xl_all n8 ?_
  subst ep
  rw [bi_1 (by omega)]
  exact xl_spread g hX (fun j _ w => ((pv_dT _ _ _).mp w).1) (bi_dlt (n := 16) g.2.1) (pv_a8 n8) (k1 p hp rfl)
theorem xc_weak {post : Int32 → Prop} (g : cx_G n L A B) (hX : cx_X L A B en) (k1 : n ≠ 1 → ¬ 1 < pv_g A B L (2 ^ n - 1) → post (nI (pv_wX A B n L 256))) (k0 : (n = 1 ∨ 1 < pv_g A B L (2 ^ n - 1)) → post 0) : wpX_weakest post (nI n, nI L, vm, vr, vb, vh, en, od, lw, fr, cy, nx, rt, tb) := by
  have n8 := g.1.2
  have a8 := pv_a8 n8
  unfold wpX_weakest
  dsimp only
  refine xl_all n8 ?_
  refine pk_eq n 1 (fun w => k0 (Or.inl w)) (fun n1 => ?_)
  refine xl_count g hX (fun _ _ h => h) g.2.1 a8 ?_
  have g8 := pv_g8 A B (us := L) a8
  refine pk_le (pv_g A B L (2 ^ n - 1)) 1 (fun w => ⟨256, ?_⟩) (fun w => k0 (Or.inr w))
  have k := k1 n1 (by omega)
  have a : ∀ f i, 256 < f + i → 1 ≤ i → i ≤ 256 → wX_weakest_33 post (nI (2 ^ n - 1)) (nI n) (nI L) vm vr vb vh en od lw fr cy nx rt tb f (nI (pv_wX A B n L i)) (nI i) := by
    intro f
    induction f with
    | zero => intro i h h' h''; omega
    | succ f ih =>
      intro i h h' h''
      rw [wX_weakest_33]
      by_cases e : i = 256
      · subst e
        exact br_t (nI_le (b := 256) (by omega) (by omega)) k
      · have nxt := ih (i + 1) (by omega) (by omega) (by omega)
        refine br_f (nI_ge (b := 256) (by omega) (by omega)) (pk_le (2 ^ n - 1) i (fun q => nm_r (nI_1 i) ?_) (fun q => ?_))
        · unfold pv_wX at nxt ⊢
          rw [mf_N (fun z => by have := gr_bT.mp z.1; omega)] at nxt
          exact nxt
        · refine xl_cross g hX (by omega) a8 ?_
          have xl := pv_xL A B L i (2 ^ n - 1)
          refine xl_bits (by omega) ?_
          rw [pv_cutX g]
          have b1 : pv_wX A B n L i ≤ 16 := pv_wXb i
          have b2 : pv_cut A B L i ≤ 16 := pv_cn _ 16
          refine pk_le (pv_wX A B n L i) (pv_cut A B L i) (fun z => nm_r (nI_1 i) ?_) (fun z => nm_r (nI_1 i) ?_)
          · unfold pv_wX at nxt z ⊢
            rw [mf_N (fun y => by have := y.2; omega)] at nxt
            exact nxt
          · unfold pv_wX at nxt z
            rw [mf_P ⟨gr_bT.mpr ⟨h', q⟩, z⟩] at nxt
            exact nxt
  have := a 256 1 (by omega) (by omega) (by omega)
  have e1 : pv_wX A B n L 1 = 16 := by
    unfold pv_wX
    rw [mf_N (fun z => by have := gr_bT.mp z.1; omega)]
    rfl
  rw [e1] at this
  exact this
theorem xc_frag {post : Int32 → Prop} (g : cx_G n L A B) (hX : cx_X L A B en) (k1 : n ≠ 1 → ¬ 1 < pv_g A B L (2 ^ n - 1) → post (nI (pv_fX A B n L 256))) (k0 : (n = 1 ∨ 1 < pv_g A B L (2 ^ n - 1)) → post 0) : wpX_fragile post (nI n, nI L, vm, vr, vb, vh, en, od, lw, fr, cy, nx, rt, tb) := by
  have n8 := g.1.2
  have n0 := g.1.1
  have a8 := pv_a8 n8
  unfold wpX_fragile
  dsimp only
  refine xl_all n8 ?_
  refine pk_eq n 1 (fun w => k0 (Or.inl w)) (fun n1 => ?_)
  refine xl_count g hX (fun _ _ h => h) g.2.1 a8 ?_
  have g8 := pv_g8 A B (us := L) a8
  refine pk_le (pv_g A B L (2 ^ n - 1)) 1 (fun w => nm_r (e' := nI (n - 1)) (pk_sub (b := 1) n0) ⟨256, ?_⟩) (fun w => k0 (Or.inr w))
  have k := k1 n1 (by omega)
  have a : ∀ f i, 256 < f + i → 1 ≤ i → i ≤ 256 → wX_fragile_37 post (nI (2 ^ n - 1)) (nI n) (nI L) vm vr vb vh en od lw fr cy nx rt tb f (nI (pv_fX A B n L i)) (nI i) := by
    intro f
    induction f with
    | zero => intro i h h' h''; omega
    | succ f ih =>
      intro i h h' h''
      rw [wX_fragile_37]
      by_cases e : i = 256
      · subst e
        exact br_t (nI_le (b := 256) (by omega) (by omega)) k
      · have nxt := ih (i + 1) (by omega) (by omega) (by omega)
        refine br_f (nI_ge (b := 256) (by omega) (by omega)) (pk_le (2 ^ n - 1) i (fun q => nm_r (nI_1 i) ?_) (fun q => ?_))
        · unfold pv_fX at nxt ⊢
          rw [mf_N (fun z => by have := (gr_bT.mp z.1).1; omega)] at nxt
          exact nxt
        · refine xl_bits (by omega) ?_
          have b1 : pv_fX A B n L i ≤ n - 1 := pv_fXb i
          have b2 : pv_o i ≤ 16 := pv_cn _ 16
          refine pk_le (pv_fX A B n L i) (pv_o i) (fun z => nm_r (nI_1 i) ?_) (fun z => ?_)
          · unfold pv_fX at nxt z ⊢
            rw [mf_N (fun y => by have := y.2; omega)] at nxt
            exact nxt
          · rw [bi_not]
            have b8 : bi_d (2 ^ n - 1) i < 256 := bi_dlt (n := 8) a8
            refine xl_count g hX (fun _ _ h => h) g.2.1 b8 ?_
            have c8 := pv_g8 A B (us := L) b8
            refine pk_le (pv_g A B L (bi_d (2 ^ n - 1) i)) 1 (fun y => nm_r (nI_1 i) ?_) (fun y => nm_r (nI_1 i) ?_)
            · unfold pv_fX at nxt z ⊢
              rw [mf_N (fun v => by have := (gr_bT.mp v.1).2; omega)] at nxt
              exact nxt
            · unfold pv_fX at nxt z
              rw [mf_P ⟨gr_bT.mpr ⟨⟨h', q⟩, y⟩, z⟩] at nxt
              exact nxt
  have := a 256 1 (by omega) (by omega) (by omega)
  have e1 : pv_fX A B n L 1 = n - 1 := by
    unfold pv_fX
    rw [mf_N (fun z => by have := (gr_bT.mp z.1).1; omega)]
    rfl
  rw [e1] at this
  exact this
end

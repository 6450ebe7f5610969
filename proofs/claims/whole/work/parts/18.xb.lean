/-! X: the engine of cuts -/
/-- the partition of labels below its bound -/
theorem xl_ptL {R : Nat → Nat → Prop} (E : gr_E R) {n : Nat} (n8 : n ≤ 8) (p : Nat) (h : p ≤ n) : pv_pt (pv_lb R) p < 16 ^ p := pv_ptL (m := n) (fun q hq => by have := pv_lbP E q; omega) p h
section
variable {n L : Nat} {A B : Nat → Nat} {vm vr vb vh : Int32} {en od lw fr cy nx rt : Nat → Int32} {tb : Nat → Int64}
theorem xl_cross {post : Int32 → Prop} (g : cx_G n L A B) (hX : cx_X L A B en) {s kp : Nat} (s8 : s < 256) (k8 : kp < 256) (k : post (nI (pv_x A B L s kp))) : wpX_crossing post (nI n, nI L, vm, vr, vb, vh, en, od, lw, fr, cy, nx, rt, tb) (nI s) (nI kp) := by
  have L16 := g.2.1
  have a : ∀ f i, 16 < f + i → i ≤ 16 → wX_crossing_5 post (nI s) (nI kp) (nI n) (nI L) vm vr vb vh en od lw fr cy nx rt tb f (nI (pv_m (fun k => (L.testBit k = true ∧ bi_d (bi_e (A k) (B k)) kp = 0) ∧ bi_e (A k) (B k) &&& s ≠ 0 ∧ bi_d (bi_e (A k) (B k)) s ≠ 0) i)) (nI i) := by
    intro f
    induction f with
    | zero => intro i h h'; omega
    | succ f ih =>
      intro i h h'
      rw [wX_crossing_5]
      by_cases e : i = 16
      · subst e
        exact br_t (nI_le (b := 16) (by omega) (by omega)) k
      · have i16 : i < 16 := by omega
        have c : (nI i).toNatClampNeg = i := nI_clamp (by omega)
        have v : vp_in (nI i) 16 := vp_in_nI i16 (by omega)
        have no : ¬ ((L.testBit i = true ∧ bi_d (bi_e (A i) (B i)) kp = 0) ∧ bi_e (A i) (B i) &&& s ≠ 0 ∧ bi_d (bi_e (A i) (B i)) s ≠ 0) → wX_crossing_5 post (nI s) (nI kp) (nI n) (nI L) vm vr vb vh en od lw fr cy nx rt tb f (nI (pv_m (fun k => (L.testBit k = true ∧ bi_d (bi_e (A k) (B k)) kp = 0) ∧ bi_e (A k) (B k) &&& s ≠ 0 ∧ bi_d (bi_e (A k) (B k)) s ≠ 0) i)) (nI (i + 1)) := by
          intro w
          have nxt := ih (i + 1) (by omega) (by omega)
          rw [pv_mN (P := fun k => (L.testBit k = true ∧ bi_d (bi_e (A k) (B k)) kp = 0) ∧ bi_e (A k) (B k) &&& s ≠ 0 ∧ bi_d (bi_e (A k) (B k)) s ≠ 0) (n := i) w] at nxt
          exact nxt
        refine br_f (nI_ge (b := 16) (by omega) (by omega)) (ek_if (bi_b1 (by omega) (by omega)) (fun u => ?_) (fun u => ?_))
        · have ei := hX i i16 u
          have e8 := cx_e8 g i16 u
          refine ⟨v, ek_if (d := bi_d (bi_e (A i) (B i)) kp = 0) (by rw [c, ei, bi_not, bi_z (Nat.lt_trans (bi_dlt (n := 8) e8) (by omega))]) (fun q => ?_) (fun q => ?_)⟩
          · refine br_f (by decide) ⟨v, ek_if (d := bi_e (A i) (B i) &&& s = 0) (by rw [c, ei, nx_and, bi_z (Nat.lt_trans (Nat.and_lt_two_pow (n := 8) _ s8) (by omega))]) (fun w => ?_) (fun w => ⟨v, ek_if (d := bi_d (bi_e (A i) (B i)) s = 0) (by rw [c, ei, bi_not, bi_z (Nat.lt_trans (bi_dlt (n := 8) e8) (by omega))]) (fun z => ?_) (fun z => ?_)⟩)⟩
            · exact nm_r (nI_1 i) (no (fun z => z.2.1 w))
            · exact nm_r (nI_1 i) (no (fun y => y.2.2 z))
            · have nxt := ih (i + 1) (by omega) (by omega)
              rw [pv_mP (P := fun k => (L.testBit k = true ∧ bi_d (bi_e (A k) (B k)) kp = 0) ∧ bi_e (A k) (B k) &&& s ≠ 0 ∧ bi_d (bi_e (A k) (B k)) s ≠ 0) (n := i) ⟨⟨u, q⟩, w, z⟩] at nxt
              exact nm_r (by first | rw [bi_1 (by omega), bi_or] | rw [bi_or]) (nm_r (nI_1 i) nxt)
          · exact br_t rfl (nm_r (nI_1 i) (no (fun z => q z.1.2)))
        · exact br_t rfl (nm_r (nI_1 i) (no (fun z => u z.1.1)))
  exact ⟨17, a 17 0 (by omega) (by omega)⟩
theorem xl_least {post : Int32 → Prop} (g : cx_G n L A B) (hX : cx_X L A B en) {p all : Nat} (p8 : p < 8) (a8 : all < 256) (k : post (nI (pv_lc A B L p all 256))) : wpX_leastClosed post (nI n, nI L, vm, vr, vb, vh, en, od, lw, fr, cy, nx, rt, tb) (nI p) (nI all) := by
  have a : ∀ f i, 256 < f + i → i ≤ 256 → wX_leastClosed_5 post (nI p) (nI all) (nI n) (nI L) vm vr vb vh en od lw fr cy nx rt tb f (nI (pv_lc A B L p all i)) (nI i) := by
    intro f
    induction f with
    | zero => intro i h h'; omega
    | succ f ih =>
      intro i h h'
      rw [wX_leastClosed_5]
      by_cases e : i = 256
      · subst e
        exact br_t (nI_le (b := 256) (by omega) (by omega)) k
      · have i8 : i < 256 := by omega
        have no : ¬ ((i.testBit p = true ∧ bi_d i all = 0) ∧ pv_x A B L i all = 0) → wX_leastClosed_5 post (nI p) (nI all) (nI n) (nI L) vm vr vb vh en od lw fr cy nx rt tb f (nI (pv_lc A B L p all i)) (nI (i + 1)) := by
          intro w
          have nxt := ih (i + 1) (by omega) (by omega)
          rw [pv_lcN A B w] at nxt
          exact nxt
        refine br_f (nI_ge (b := 256) (by omega) (by omega)) (ek_if (bi_b1 (by omega) (by omega)) (fun u => ?_) (fun u => ?_))
        · refine ek_if (d := bi_d i all = 0) (by rw [bi_not, bi_z (Nat.lt_trans (bi_dlt (n := 8) i8) (by omega))]) (fun q => ?_) (fun q => ?_)
          · have xl := pv_xL A B L i all
            refine br_f (by decide) (xl_cross g hX i8 a8 (ek_if (bi_z (by omega)) (fun w => ?_) (fun w => ?_)))
            · have nxt := ih (i + 1) (by omega) (by omega)
              rw [pv_lcP A B ⟨⟨u, q⟩, w⟩] at nxt
              exact nm_r (nx_and _ _) (nm_r (nI_1 i) nxt)
            · exact nm_r (nI_1 i) (no (fun z => w z.2))
          · exact br_t rfl (nm_r (nI_1 i) (no (fun z => q z.1.2)))
        · exact br_t rfl (nm_r (nI_1 i) (no (fun z => u z.1.1)))
  exact ⟨257, a 257 0 (by omega) (by omega)⟩
/-- the lowest point of a group is its label -/
theorem xl_low {post : Int32 → Prop} (g : cx_G n L A B) {p : Nat} (hp : p < n) (k : post (nI (pv_lb (gr_R A B (fun k => k < 16 ∧ L.testBit k = true) (fun x => x < n)) p))) : wpX_lowest post (nI (sp_X A B L (2 ^ n - 1) (2 ^ p))) := by
  have a8 := pv_a8 g.1.2
  have n8 := g.1.2
  have E := gr_RE A B (fun k => k < 16 ∧ L.testBit k = true) (fun x => x < n)
  have t : ∀ x, (sp_X A B L (2 ^ n - 1) (2 ^ p)).testBit x = true ↔ gr_R A B (fun k => k < 16 ∧ L.testBit k = true) (fun x => x < n) p x := by
    intro x
    rw [pv_sp A B a8 ((pv_all n p).mpr hp), pv_qn]
  obtain ⟨l1, l2⟩ := pv_lbT E p
  have l3 := pv_lbP E p
  have b := sp_XB (A := A) (B := B) (us := L) (st := 2 ^ p) a8
  exact xl_lowest (by omega) (by omega) ((t _).mpr (E.2.1 _ _ l1)) (fun j hj w => l2 j hj (E.2.1 _ _ ((t j).mp w))) k
theorem xl_label {post : Int32 → Prop} (g : cx_G n L A B) (hX : cx_X L A B en) {x : Int32} {p : Nat} (hp : p < n) (hx : x = 0 ∨ x = 1 ∨ x = 2) (hr : x = 1 → rt p = nI (pv_lb (gr_R A B (fun k => k < 16 ∧ L.testBit k = true) (fun x => x < n)) p)) (k : post (nI (pv_lb (gr_R A B (fun k => k < 16 ∧ L.testBit k = true) (fun x => x < n)) p))) : wpX_leastOfGroup post (nI n, nI L, vm, vr, vb, vh, en, od, lw, fr, cy, nx, rt, tb) x (nI p) := by
  have a8 := pv_a8 g.1.2
  have n8 := g.1.2
  have c : (nI p).toNatClampNeg = p := nI_clamp (by omega)
  unfold wpX_leastOfGroup
  dsimp only
  by_cases e : x = 1
  · refine br_t e ⟨vp_in_nI (by omega) (by omega), ?_⟩
    rw [c, hr e]
    exact k
  · refine br_f e ?_
    refine xl_all n8 ?_
    by_cases e0 : x = 0
    · refine br_t e0 ?_
      rw [bi_1 (by omega)]
      exact xl_spread g hX (fun _ _ h => h) g.2.1 a8 (xl_low g hp k)
    · refine br_f e0 (xl_least g hX (by omega) a8 ?_)
      rw [pv_lcR A B a8 ((pv_all n p).mpr hp)]
      exact xl_low g hp k
theorem xl_sh {m p : Nat} (hp : p < 8) (hm : m < 16) : (nI m).toInt64 <<< ((nI p * 4).toInt64 &&& 63) = lN (m * 16 ^ p) := by
  have e : nI p * 4 = nI (p * 4) := pk_mul p 4
  rw [e, nI_l (by omega), wb_shl m (k := p * 4) (by omega), Nat.pow_mul']
/-- the partition, once rootOf is right -/
theorem xl_part0 {post : Int64 → SX → Prop} (g : cx_G n L A B) (hX : cx_X L A B en) {x : Int32} (hx : x = 0 ∨ x = 1 ∨ x = 2) (hr : x = 1 → ∀ p, p < n → rt p = nI (pv_lb (gr_R A B (fun k => k < 16 ∧ L.testBit k = true) (fun x => x < n)) p)) (k : post (lN (pv_pt (pv_lb (gr_R A B (fun k => k < 16 ∧ L.testBit k = true) (fun x => x < n))) n)) (nI n, nI L, vm, vr, vb, vh, en, od, lw, fr, cy, nx, rt, tb)) : ∃ f, wX_partitionBy_14 post x (nI n) (nI L) vm vr vb vh en od lw fr cy nx rt tb f 0 0 := by
  have n8 := g.1.2
  have E := gr_RE A B (fun k => k < 16 ∧ L.testBit k = true) (fun x => x < n)
  have a : ∀ f p, n < f + p → p ≤ n → wX_partitionBy_14 post x (nI n) (nI L) vm vr vb vh en od lw fr cy nx rt tb f (lN (pv_pt (pv_lb (gr_R A B (fun k => k < 16 ∧ L.testBit k = true) (fun x => x < n))) p)) (nI p) := by
    intro f
    induction f with
    | zero => intro p h h'; omega
    | succ f ih =>
      intro p h h'
      rw [wX_partitionBy_14]
      by_cases e : p = n
      · subst e
        exact br_t (nI_le (by omega) (by omega)) k
      · have pn : p < n := by omega
        have l3 := pv_lbP E p
        refine br_f (nI_ge (by omega) (by omega)) (xl_label g hX pn hx (fun w => hr w p pn) (nm_r (e' := lN (pv_pt (pv_lb (gr_R A B (fun k => k < 16 ∧ L.testBit k = true) (fun x => x < n))) (p + 1))) ?_ (nm_r (nI_1 p) (ih (p + 1) (by omega) (by omega)))))
        rw [xl_sh (by omega) (by omega)]
        have lt : pv_pt (pv_lb (gr_R A B (fun k => k < 16 ∧ L.testBit k = true) (fun x => x < n))) p < 16 ^ p := xl_ptL E n8 p (by omega)
        have p16 : (2 : Nat) ^ (p * 4) = 16 ^ p := Nat.pow_mul' 2 p 4
        have le : pv_lb (gr_R A B (fun k => k < 16 ∧ L.testBit k = true) (fun x => x < n)) p * 16 ^ p ≤ 15 * 16 ^ p := Nat.mul_le_mul_right _ (by omega)
        have le2 : 16 ^ p ≤ 16 ^ 8 := Nat.pow_le_pow_right (by omega) (by omega)
        exact g_or' p16 lt (by omega)
  exact ⟨n + 1, a (n + 1) 0 (by omega) (by omega)⟩
theorem xl_cutB {post : Int32 → Prop} (g : cx_G n L A B) (hX : cx_X L A B en) (k : post (nI (pv_b A B n L))) : wpX_cutBridges post (nI n, nI L, vm, vr, vb, vh, en, od, lw, fr, cy, nx, rt, tb) := by
  have a8 := pv_a8 g.1.2
  unfold wpX_cutBridges
  dsimp only
  refine xl_all g.1.2 ?_
  refine ⟨257, ?_⟩
  have a : ∀ f i, 256 < f + i → i ≤ 256 → wX_cutBridges_9 post (nI (2 ^ n - 1)) (nI n) (nI L) vm vr vb vh en od lw fr cy nx rt tb f (nI (pv_cb A B L (2 ^ n - 1) i)) (nI i) := by
    intro f
    induction f with
    | zero => intro i h h'; omega
    | succ f ih =>
      intro i h h'
      rw [wX_cutBridges_9]
      by_cases e : i = 256
      · subst e
        refine br_t (nI_le (b := 256) (by omega) (by omega)) ?_
        rw [pv_cbR g]
        exact k
      · have i8 : i < 256 := by omega
        have nxt := ih (i + 1) (by omega) (by omega)
        refine br_f (nI_ge (b := 256) (by omega) (by omega)) (ek_if (d := bi_d i (2 ^ n - 1) = 0) (by rw [bi_not, bi_z (Nat.lt_trans (bi_dlt (n := 8) i8) (by omega))]) (fun q => ?_) (fun q => ?_))
        · have xl := pv_xL A B L i (2 ^ n - 1)
          have o16 : pv_o (pv_x A B L i (2 ^ n - 1)) ≤ 16 := pv_cn _ 16
          refine xl_cross g hX i8 a8 (xl_bits (by omega) (pk_eq (pv_o (pv_x A B L i (2 ^ n - 1))) 1 (fun w => ?_) (fun w => nm_r (nI_1 i) ?_)))
          · rw [pv_cbP A B ⟨q, w⟩] at nxt
            exact nm_r (bi_or _ _) (nm_r (nI_1 i) nxt)
          · rw [pv_cbN A B (fun z => w z.2)] at nxt
            exact nxt
        · rw [pv_cbN A B (fun z => q z.1)] at nxt
          exact nm_r (nI_1 i) nxt
  exact a 257 0 (by omega) (by omega)
theorem xl_closed {post : Int32 → Prop} (g : cx_G n L A B) (hX : cx_X L A B en) {kp : Nat} (k8 : kp < 256) (k : post (nI (pv_cs A B L kp))) : wpX_closedSets post (nI n, nI L, vm, vr, vb, vh, en, od, lw, fr, cy, nx, rt, tb) (nI kp) := by
  have a : ∀ f i, 256 < f + i → i ≤ 256 → wX_closedSets_4 post (nI kp) (nI n) (nI L) vm vr vb vh en od lw fr cy nx rt tb f (nI (pv_c (fun s => bi_d s kp = 0 ∧ pv_x A B L s kp = 0) i)) (nI i) := by
    intro f
    induction f with
    | zero => intro i h h'; omega
    | succ f ih =>
      intro i h h'
      rw [wX_closedSets_4]
      by_cases e : i = 256
      · subst e
        exact br_t (nI_le (b := 256) (by omega) (by omega)) k
      · have i8 : i < 256 := by omega
        have nxt := ih (i + 1) (by omega) (by omega)
        refine br_f (nI_ge (b := 256) (by omega) (by omega)) (ek_if (d := bi_d i kp = 0) (by rw [bi_not, bi_z (Nat.lt_trans (bi_dlt (n := 8) i8) (by omega))]) (fun q => ?_) (fun q => ?_))
        · have xl := pv_xL A B L i kp
          refine xl_cross g hX i8 k8 (ek_if (bi_z (by omega)) (fun w => ?_) (fun w => nm_r (nI_1 i) ?_))
          · rw [pv_cP (P := fun s => bi_d s kp = 0 ∧ pv_x A B L s kp = 0) (n := i) ⟨q, w⟩] at nxt
            exact nm_r (nI_1 _) (nm_r (nI_1 i) nxt)
          · rw [pv_cN (P := fun s => bi_d s kp = 0 ∧ pv_x A B L s kp = 0) (n := i) (fun z => w z.2)] at nxt
            exact nxt
        · rw [pv_cN (P := fun s => bi_d s kp = 0 ∧ pv_x A B L s kp = 0) (n := i) (fun z => q z.1)] at nxt
          exact nm_r (nI_1 i) nxt
  exact ⟨257, a 257 0 (by omega) (by omega)⟩
theorem xl_cutH {post : Int32 → Prop} (g : cx_G n L A B) (hX : cx_X L A B en) (k : post (nI (pv_h A B n L))) : wpX_cutHinges post (nI n, nI L, vm, vr, vb, vh, en, od, lw, fr, cy, nx, rt, tb) := by
  have a8 := pv_a8 g.1.2
  have n8 := g.1.2
  have c1 := pv_cs8 A B (L := L) (kp := 2 ^ n - 1)
  unfold wpX_cutHinges
  dsimp only
  refine xl_all g.1.2 ?_
  refine xl_closed g hX a8 ?_
  refine ⟨n + 1, ?_⟩
  have a : ∀ f i, n < f + i → i ≤ n → wX_cutHinges_16 post (nI (2 ^ n - 1)) (nI (pv_cs A B L (2 ^ n - 1))) (nI n) (nI L) vm vr vb vh en od lw fr cy nx rt tb f (nI (pv_m (fun p => pv_cs A B L (2 ^ n - 1) < pv_cs A B L (bi_d (2 ^ n - 1) (2 ^ p))) i)) (nI i) := by
    intro f
    induction f with
    | zero => intro i h h'; omega
    | succ f ih =>
      intro i h h'
      rw [wX_cutHinges_16]
      by_cases e : i = n
      · subst e
        refine br_t (nI_le (by omega) (by omega)) ?_
        rw [pv_chR g]
        exact k
      · have nxt := ih (i + 1) (by omega) (by omega)
        refine br_f (nI_ge (by omega) (by omega)) ?_
        rw [bi_1 (by omega), bi_not]
        have b8 : bi_d (2 ^ n - 1) (2 ^ i) < 256 := bi_dlt (n := 8) a8
        have c2 := pv_cs8 A B (L := L) (kp := bi_d (2 ^ n - 1) (2 ^ i))
        refine xl_closed g hX b8 (pk_le (pv_cs A B L (bi_d (2 ^ n - 1) (2 ^ i))) (pv_cs A B L (2 ^ n - 1)) (fun w => nm_r (nI_1 i) ?_) (fun w => ?_))
        · rw [pv_mN (P := fun p => pv_cs A B L (2 ^ n - 1) < pv_cs A B L (bi_d (2 ^ n - 1) (2 ^ p))) (n := i) (Nat.not_lt.mpr w)] at nxt
          exact nxt
        · rw [pv_mP (P := fun p => pv_cs A B L (2 ^ n - 1) < pv_cs A B L (bi_d (2 ^ n - 1) (2 ^ p))) (n := i) w] at nxt
          exact nm_r (by first | rw [bi_1 (by omega), bi_or] | rw [bi_or]) (nm_r (nI_1 i) nxt)
  exact a (n + 1) 0 (by omega) (by omega)
end

/-! X: trees -/
theorem xt_ix (a b : Nat) : nI a * 8 + nI b = nI (a * 8 + b) := by
  rw [show nI a * 8 = nI (a * 8) from pk_mul a 8, nI_add]
theorem xt_cl {a b : Nat} (ha : a < 8) (hb : b < 8) : (nI (a * 8 + b)).toNatClampNeg = a * 8 + b := nI_clamp (by omega)
theorem xt_in {a b : Nat} (ha : a < 8) (hb : b < 8) : vp_in (nI (a * 8 + b)) 64 := vp_in_nI (by omega) (by omega)
section
variable {n L : Nat} {A B : Nat → Nat} {vm vr vb vh : Int32} {en od lw fr cy nx rt : Nat → Int32} {tb : Nat → Int64}
theorem xt_23 {post : SX → Prop} (g : cx_G n L A B) (hX : cx_X L A B en) (k : ∀ tb, bz_F L A B 16 tb → post (nI n, nI L, vm, vr, vb, vh, en, od, lw, fr, cy, nx, rt, tb)) : ∀ (f i : Nat) (tb : Nat → Int64), 16 < f + i → i ≤ 16 → bz_F L A B i tb → wX_fillTable_23 post (nI n) (nI L) vm vr vb vh f (nI i) en od lw fr cy nx rt tb := by
  intro f
  have n8 := g.1.2
  induction f with
  | zero => intro i tb h h'; omega
  | succ f ih =>
    intro i tb h h' hF
    rw [wX_fillTable_23]
    by_cases e : i = 16
    · subst e
      exact br_t (nI_le (b := 16) (by omega) (by omega)) (k tb hF)
    · have i16 : i < 16 := by omega
      have ci : (nI i).toNatClampNeg = i := nI_clamp (by omega)
      have vi : vp_in (nI i) 16 := vp_in_nI i16 (by omega)
      refine br_f (nI_ge (b := 16) (by omega) (by omega)) (xl_lineN g.2.1 i16 (fun u => br_f (by decide) ⟨vi, ?_⟩) (fun u => br_t rfl (nm_r (nI_1 i) (ih (i + 1) tb (by omega) (by omega) (bz_FN hF u)))))
      have ei := hX i i16 u
      have e8 := cx_e8 g i16 u
      obtain ⟨g1, g2, g3⟩ := g.2.2 i i16 u
      have xy : ∃ x y, x < y ∧ y < 8 ∧ ((x = A i ∧ y = B i) ∨ (x = B i ∧ y = A i)) := by
        by_cases c : A i < B i
        · exact ⟨A i, B i, c, by omega, Or.inl ⟨rfl, rfl⟩⟩
        · exact ⟨B i, A i, by omega, by omega, Or.inr ⟨rfl, rfl⟩⟩
      obtain ⟨x, y, xly, y8, hE'⟩ := xy
      have hE : ∀ z, (bi_e (A i) (B i)).testBit z = true ↔ (z = x ∨ z = y) := by
        intro z
        rw [bi_eT]
        omega
      have gy : bi_d (bi_e (A i) (B i)) (2 ^ x) = 2 ^ y := by
        apply pv_ext
        intro z
        rw [pv_dT, hE, pv_2p, pv_2p]
        omega
      have x8 : x < 8 := by omega
      have y31 : 2 ^ y < 256 := Nat.pow_lt_pow_right (n := 8) (by omega) y8
      rw [ci, ei]
      refine xl_lowest (i := x) (by omega) x8 ((hE x).mpr (Or.inl rfl)) (fun j hj w => by have := (hE j).mp w; omega) ⟨vi, ?_⟩
      rw [bi_1 (by omega), bi_not, gy]
      refine xl_lowest (i := y) (by omega) y8 ((pv_2p y y).mpr rfl) (fun j hj w => by have := (pv_2p y j).mp w; omega) ?_
      rw [xt_ix x x, xt_ix y y, xt_ix x y, xt_ix y x, xt_cl x8 x8, xt_cl y8 y8, xt_cl x8 y8, xt_cl y8 x8]
      exact ⟨xt_in x8 x8, xt_in x8 x8, nm_e ⟨xt_in y8 y8, xt_in y8 y8, nm_e ⟨xt_in x8 y8, xt_in x8 y8, nm_e ⟨xt_in y8 x8, xt_in y8 x8, nm_e (nm_r (nI_1 i) (ih (i + 1) _ (by omega) (by omega) (bz_FS hF u x8 y8 (by omega) hE' rfl rfl rfl rfl)))⟩⟩⟩⟩
theorem xt_fill {post : SX → Prop} (g : cx_G n L A B) (hX : cx_X L A B en) (k : ∀ tb, bz_F L A B 16 tb → post (nI n, nI L, vm, vr, vb, vh, en, od, lw, fr, cy, nx, rt, tb)) : wpX_fillTable post (nI n, nI L, vm, vr, vb, vh, en, od, lw, fr, cy, nx, rt, tb) := by
  refine ⟨65, ?_⟩
  have a : ∀ (f i : Nat) (tb : Nat → Int64), 64 < f + i → i ≤ 64 → (∀ q, q < i → tb q = 0) → wX_fillTable_2 post (nI n) (nI L) vm vr vb vh f (nI i) en od lw fr cy nx rt tb := by
    intro f
    induction f with
    | zero => intro i tb h h'; omega
    | succ f ih =>
      intro i tb h h' hz
      rw [wX_fillTable_2]
      by_cases e : i = 64
      · subst e
        exact br_t (nI_le (b := 64) (by omega) (by omega)) ⟨17, xt_23 g hX k 17 0 tb (by omega) (by omega) (bz_F0 hz)⟩
      · have c : (nI i).toNatClampNeg = i := nI_clamp (by omega)
        refine br_f (nI_ge (b := 64) (by omega) (by omega)) ⟨vp_in_nI (by omega) (by omega), nm_e (nm_r (nI_1 i) (ih (i + 1) _ (by omega) (by omega) (fun q hq => ?_)))⟩
        rw [c]
        by_cases w : q = i
        · rw [w, pk_uLs]
        · rw [pk_uLn w]; exact hz q (by omega)
  exact a 65 0 tb (by omega) (by omega) (fun q hq => by omega)
theorem xt_68 {post : Int64 → SX → Prop} {J5 : Int64 → Int32 → (Nat → Int32) → (Nat → Int32) → (Nat → Int32) → (Nat → Int32) → (Nat → Int32) → (Nat → Int32) → (Nat → Int32) → (Nat → Int64) → Prop} {J41 : Int32 → (Nat → Int32) → (Nat → Int32) → (Nat → Int32) → (Nat → Int32) → (Nat → Int32) → (Nat → Int32) → (Nat → Int32) → (Nat → Int64) → Prop} {M : Nat → Nat → Int} {s d i : Nat} (s7 : s ≤ 7) (hM : ∀ i, i < s → dt_sum (fun j => ((M i j).natAbs : Int)) s ≤ 32) (nz : ∀ k, 1 ≤ k → k ≤ d → dt_d k M ≠ 0) (di : d < i) (hi : i < s)
    (hJ : ∀ tb, bz_T M s d i s tb → J41 (nI (i + 1)) en od lw fr cy nx rt tb) : ∀ (f j : Nat) (tb : Nat → Int64), s < f + j → d < j → j ≤ s → bz_T M s d i j tb → wX_determinant_68 post J5 J41 (nI s) (Int64.ofInt (dt_d d M)) (nI d) (Int64.ofInt (dt_d (d + 1) M)) (nI i) (Int64.ofInt (dt_bm M d i d)) (nI n) (nI L) vm vr vb vh f (nI j) en od lw fr cy nx rt tb := by
  intro f
  induction f with
  | zero => intro j tb h h' h''; omega
  | succ f ih =>
    intro j tb h h' h'' hT
    rw [wX_determinant_68]
    by_cases e : j = s
    · subst e
      exact br_t (nI_le (by omega) (by omega)) (nm_r (nI_1 i) (hJ tb hT))
    · have js : j < s := by omega
      obtain ⟨r1, r2, r3⟩ := bz_rd hT di hi h' js
      have i8 : i < 8 := by omega
      have j8 : j < 8 := by omega
      have d8 : d < 8 := by omega
      have w0 : ¬ Int64.ofInt (dt_d d M) = 0 := by
        rw [bz_z (bz_b s7 hM (by omega))]
        intro q
        by_cases d0 : d = 0
        · rw [d0] at q
          have : (1 : Int) = 0 := q
          omega
        · exact nz d (by omega) (Nat.le_refl _) q
      refine br_f (nI_ge (by omega) (by omega)) ?_
      rw [xt_ix i j, xt_ix d j, xt_cl i8 j8, xt_cl d8 j8]
      exact ⟨xt_in i8 j8, nm_r (by rw [r1]) ⟨xt_in d8 j8, nm_r (by rw [r3]) ⟨w0, xt_in i8 j8, nm_r (by rw [bz_q s7 hM di hi h' js nz]) (nm_r (nI_1 j) (ih (j + 1) _ (by omega) (by omega) (by omega) (bz_Tw hT di hi h' js (by omega))))⟩⟩⟩
theorem xt_41 {post : Int64 → SX → Prop} {J5 : Int64 → Int32 → (Nat → Int32) → (Nat → Int32) → (Nat → Int32) → (Nat → Int32) → (Nat → Int32) → (Nat → Int32) → (Nat → Int32) → (Nat → Int64) → Prop} {M : Nat → Nat → Int} {s d : Nat} (s7 : s ≤ 7) (hM : ∀ i, i < s → dt_sum (fun j => ((M i j).natAbs : Int)) s ≤ 32) (nz : ∀ k, 1 ≤ k → k ≤ d → dt_d k M ≠ 0) (ds : d < s)
    (hJ : ∀ tb, bz_T M s d s (d + 1) tb → J5 (Int64.ofInt (dt_d (d + 1) M)) (nI (d + 1)) en od lw fr cy nx rt tb) : ∀ (f i : Nat) (tb : Nat → Int64), s < f + i → d < i → i ≤ s → bz_T M s d i (d + 1) tb → wX_determinant_41 post J5 (nI s) (Int64.ofInt (dt_d d M)) (nI d) (Int64.ofInt (dt_d (d + 1) M)) (nI n) (nI L) vm vr vb vh f (nI i) en od lw fr cy nx rt tb := by
  intro f
  induction f with
  | zero => intro i tb h h' h''; omega
  | succ f ih =>
    intro i tb h h' h'' hT
    rw [wX_determinant_41]
    by_cases e : i = s
    · subst e
      exact br_t (nI_le (by omega) (by omega)) (nm_r (nI_1 d) (hJ tb hT))
    · have is : i < s := by omega
      have i8 : i < 8 := by omega
      have d8 : d < 8 := by omega
      have r2 : tb (i * 8 + d) = Int64.ofInt (dt_bm M d i d) := by
        rw [hT i d (by omega) is (Nat.le_refl _) ds, if_neg (by omega)]
      refine br_f (nI_ge (by omega) (by omega)) ?_
      rw [xt_ix i d, xt_cl i8 d8]
      exact ⟨xt_in i8 d8, nm_r r2 (nm_r (nI_1 d) ⟨s + 1, xt_68 s7 hM nz h' is (fun tb hT' => ih (i + 1) tb (by omega) (by omega) (by omega) (bz_Tr hT')) (s + 1) (d + 1) tb (by omega) (by omega) (by omega) hT⟩)⟩
theorem xt_det {post : Int64 → SX → Prop} {M : Nat → Nat → Int} {s : Nat} (s7 : s ≤ 7) (hM : ∀ i, i < s → dt_sum (fun j => ((M i j).natAbs : Int)) s ≤ 32) (zp : ∀ d, d ≤ s → dt_d d M = 0 → dt_d s M = 0) (h0 : bz_T M s 0 1 1 tb) (k : ∀ tb, post (Int64.ofInt (dt_d s M)) (nI n, nI L, vm, vr, vb, vh, en, od, lw, fr, cy, nx, rt, tb)) : wpX_determinant post (nI n, nI L, vm, vr, vb, vh, en, od, lw, fr, cy, nx, rt, tb) (nI s) := by
  have a : ∀ (f d : Nat) (tb : Nat → Int64), s < f + d → d ≤ s → (∀ k, 1 ≤ k → k ≤ d → dt_d k M ≠ 0) → bz_T M s d (d + 1) (d + 1) tb → wX_determinant_5 post (nI s) (nI n) (nI L) vm vr vb vh f (Int64.ofInt (dt_d d M)) (nI d) en od lw fr cy nx rt tb := by
    intro f
    induction f with
    | zero => intro d tb h h'; omega
    | succ f ih =>
      intro d tb h h' nz hT
      rw [wX_determinant_5]
      by_cases e : d = s
      · subst e
        exact br_t (nI_le (by omega) (by omega)) (k tb)
      · have ds : d < s := by omega
        have d8 : d < 8 := by omega
        have r1 : tb (d * 8 + d) = Int64.ofInt (dt_d (d + 1) M) := by
          rw [hT d d (Nat.le_refl _) ds (Nat.le_refl _) ds, if_neg (by omega), dt_bmd]
        refine br_f (nI_ge (by omega) (by omega)) ?_
        rw [xt_ix d d, xt_cl d8 d8]
        refine ⟨xt_in d8 d8, nm_r r1 (ek_if (bz_z (bz_b s7 hM (by omega))) (fun z => ?_) (fun z => nm_r (nI_1 d) ⟨s + 1, ?_⟩))⟩
        · have := k tb
          rw [zp (d + 1) (by omega) z] at this
          exact this
        · refine xt_41 s7 hM nz ds (fun tb hT' => ?_) (s + 1) (d + 1) tb (by omega) (by omega) (by omega) hT
          refine ih (d + 1) tb (by omega) (by omega) (fun k k1 k2 => ?_) (bz_Td hT')
          by_cases e2 : k = d + 1
          · rw [e2]; exact z
          · exact nz k k1 (by omega)
  exact ⟨s + 1, a (s + 1) 0 tb (by omega) (by omega) (fun k k1 k2 => by omega) h0⟩
theorem xt_trees {post : Int32 → SX → Prop} (g : cx_G n L A B) (hX : cx_X L A B en) (k : ∀ tb, post (nI (pv_ty A B n L 65536)) (nI n, nI L, vm, vr, vb, vh, en, od, lw, fr, cy, nx, rt, tb)) : wpX_trees post (nI n, nI L, vm, vr, vb, vh, en, od, lw, fr, cy, nx, rt, tb) := by
  have n8 := g.1.2
  have n1 := g.1.1
  have N : dt_d (n - 1) (mt_L (fun k => L.testBit k) A B (mt_r0 (n - 1)) 16) = ((pv_ty A B n L 65536 : Nat) : Int) := by
    rw [pv_tyT g, mt_tree (fun k => L.testBit k) A B (n - 1) 16 (mt_r0 (n - 1)) (mt_r0V (n - 1)).1]
  unfold wpX_trees
  dsimp only
  refine xt_fill g hX ?_
  intro tb' hF
  have e : nI n - 1 = nI (n - 1) := pk_sub (b := 1) n1
  dsimp only
  rw [e]
  refine xt_det (M := mt_L (fun k => L.testBit k) A B (mt_r0 (n - 1)) 16) (by omega) (bz_M L A B (n - 1)) (fun d hd z => mt_piv (fun k => L.testBit k) A B hd 16 z) (bz_FT (by omega) hF) ?_
  intro tb''
  dsimp only
  rw [N, Int64.ofInt_eq_ofNat]
  have q : (Int64.ofNat (pv_ty A B n L 65536)).toInt32 = nI (pv_ty A B n L 65536) := lN_i _
  rw [q]
  exact k tb''
end

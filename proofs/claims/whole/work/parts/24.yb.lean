/-! Y: firm, weakest, fragile, trees, rings, sides -/
theorem pv_g1 {A B : Nat → Nat} {n L : Nat} (h1 : 1 ≤ n) (h8 : n ≤ 8) : 1 ≤ pv_g A B L (2 ^ n - 1) := by
  rw [pv_gT A B (pv_a8 h8), pv_qn]
  apply Classical.byContradiction
  intro q
  have z : mt_c (fun p => gr_b (gr_l (gr_R A B (fun k => k < 16 ∧ L.testBit k = true) (fun p => p < n)) (fun p => p < n) p)) 8 = 0 := by
    show gr_n _ _ = 0
    omega
  have := mt_c_z 8 z 0 (by omega)
  exact (gr_bF.mp this) ⟨h1, fun r hr => by omega⟩
theorem yb_ne {s a b : Nat} (hs : s < 2 ^ 31) (ha : a < 32) (hb : b < 32) : ((nI s >>> (nI a &&& 31)) &&& 1 = (nI s >>> (nI b &&& 31)) &&& 1) ↔ (s.testBit a = true ↔ s.testBit b = true) := by
  rw [bi_bit hs ha, bi_bit hs hb]
  by_cases c : s.testBit a = true <;> by_cases d : s.testBit b = true
  · rw [if_pos c, if_pos d]; exact ⟨fun _ => ⟨fun _ => d, fun _ => c⟩, fun _ => rfl⟩
  · rw [if_pos c, if_neg d]; exact ⟨fun q => absurd q (by decide), fun q => absurd (q.mp c) d⟩
  · rw [if_neg c, if_pos d]; exact ⟨fun q => absurd q (by decide), fun q => absurd (q.mpr d) c⟩
  · rw [if_neg c, if_neg d]; exact ⟨fun _ => ⟨fun q => absurd q c, fun q => absurd q d⟩, fun _ => rfl⟩
section
variable {n L : Nat} {A B : Nat → Nat} {th ya yb : Nat → Int32}
theorem yl_firm {post : Int32 → Prop} (g : cx_G n L A B) (hY : cx_Y L A B th ya yb) (k1 : n ≠ 1 → ¬ 1 < pv_g A B L (2 ^ n - 1) → post 1) (k0 : (n = 1 ∨ 1 < pv_g A B L (2 ^ n - 1)) → post 0) : wpY_firm post (nI n, th, ya, yb) := by
  have n8 := g.1.2
  have n1 := g.1.1
  have a8 := pv_a8 n8
  have g8 := pv_g8 A B (us := L) a8
  have g1 := pv_g1 (A := A) (B := B) (L := L) n1 n8
  unfold wpY_firm
  dsimp only
  refine pk_le n 1 (fun w => k0 (Or.inl (by omega))) (fun w => ?_)
  refine yl_lines g hY ?_
  refine yl_all n8 ?_
  refine yl_many g hY (fun _ _ h => h) g.2.1 a8 ?_
  exact pk_eq (pv_g A B L (2 ^ n - 1)) 1 (fun q => k1 (by omega) (by omega)) (fun q => k0 (Or.inr (by omega)))
theorem yl_ones {post : Int32 → Prop} {s : Nat} (hs : s < 2 ^ 31) (k : post (nI (pv_o s))) : wpY_ones post (nI n, th, ya, yb) (nI s) := by
  have a : ∀ f i, 16 < f + i → i ≤ 16 → wY_ones_4 post (nI s) (nI n) th ya yb f (nI (pv_c (fun k => s.testBit k = true) i)) (nI i) := by
    intro f
    induction f with
    | zero => intro i h h'; omega
    | succ f ih =>
      intro i h h'
      rw [wY_ones_4]
      by_cases e : i = 16
      · subst e
        exact br_t (nI_le (b := 16) (by omega) (by omega)) k
      · refine br_f (nI_ge (b := 16) (by omega) (by omega)) (nm_r (e' := nI (pv_c (fun k => s.testBit k = true) (i + 1))) ?_ (nm_r (nI_1 i) (ih (i + 1) (by omega) (by omega))))
        rw [bi_bit hs (by omega)]
        by_cases c : s.testBit i = true
        · rw [if_pos c, pv_cP (P := fun k => s.testBit k = true) c]
          exact nI_1 _
        · rw [if_neg c, pv_cN (P := fun k => s.testBit k = true) c]
          exact Int32.add_zero _
  exact ⟨17, a 17 0 (by omega) (by omega)⟩
theorem yl_cut {post : Int32 → Prop} (g : cx_G n L A B) (hY : cx_Y L A B th ya yb) {s : Nat} (hs : s < 2 ^ 31) (k : post (nI (pv_cut A B L s))) : wpY_cut post (nI n, th, ya, yb) (nI s) := by
  have n8 := g.1.2
  have a : ∀ f i, 16 < f + i → i ≤ 16 → wY_cut_4 post (nI s) (nI n) th ya yb f (nI (pv_c (fun k => L.testBit k = true ∧ ¬ (s.testBit (A k) = true ↔ s.testBit (B k) = true)) i)) (nI i) := by
    intro f
    induction f with
    | zero => intro i h h'; omega
    | succ f ih =>
      intro i h h'
      rw [wY_cut_4]
      by_cases e : i = 16
      · subst e
        exact br_t (nI_le (b := 16) (by omega) (by omega)) k
      · have i16 : i < 16 := by omega
        have c : (nI i).toNatClampNeg = i := nI_clamp (by omega)
        have v : vp_in (nI i) 16 := vp_in_nI i16 (by omega)
        have nxt := ih (i + 1) (by omega) (by omega)
        have no : ¬ (L.testBit i = true ∧ ¬ (s.testBit (A i) = true ↔ s.testBit (B i) = true)) → wY_cut_46 post (wY_cut_4 post (nI s) (nI n) th ya yb f) (nI s) (nI (pv_c (fun k => L.testBit k = true ∧ ¬ (s.testBit (A k) = true ↔ s.testBit (B k) = true)) i)) (nI i) (nI n) th ya yb := by
          intro w
          rw [pv_cN (P := fun k => L.testBit k = true ∧ ¬ (s.testBit (A k) = true ↔ s.testBit (B k) = true)) (n := i) w] at nxt
          exact br_t rfl (nm_r (nI_1 i) nxt)
        refine br_f (nI_ge (b := 16) (by omega) (by omega)) ⟨v, ek_if (cx_th hY i16) (fun w => no (fun z => w z.1)) (fun w => ?_)⟩
        have u : L.testBit i = true := Classical.byContradiction w
        obtain ⟨ea, eb⟩ := (hY i i16).2 u
        obtain ⟨g1, g2, g3⟩ := g.2.2 i i16 u
        refine ⟨v, v, ek_if (d := (s.testBit (A i) = true ↔ s.testBit (B i) = true)) (by rw [c, ea, eb]; exact yb_ne hs (by omega) (by omega)) (fun q => no (fun z => z.2 q)) (fun q => br_f (by decide) ?_)⟩
        rw [pv_cP (P := fun k => L.testBit k = true ∧ ¬ (s.testBit (A k) = true ↔ s.testBit (B k) = true)) (n := i) ⟨u, q⟩] at nxt
        exact nm_r (nI_1 _) (nm_r (nI_1 i) nxt)
  exact ⟨17, a 17 0 (by omega) (by omega)⟩
theorem yl_weak {post : Int32 → Prop} (g : cx_G n L A B) (hY : cx_Y L A B th ya yb) (k1 : n ≠ 1 → ¬ 1 < pv_g A B L (2 ^ n - 1) → post (nI (pv_wY A B L (2 ^ n - 1)))) (k0 : (n = 1 ∨ 1 < pv_g A B L (2 ^ n - 1)) → post 0) : wpY_weakest post (nI n, th, ya, yb) := by
  have n8 := g.1.2
  have n1 := g.1.1
  have a8 := pv_a8 n8
  have a1 : 2 ^ 1 ≤ 2 ^ n := Nat.pow_le_pow_right (by omega) n1
  have a : ∀ f i, 2 ^ n - 1 < f + i → 1 ≤ i → i ≤ 2 ^ n - 1 → wY_weakest_5 post (nI n) th ya yb f (nI (pv_wY A B L i)) (nI i) := by
    intro f
    induction f with
    | zero => intro i h h' h''; omega
    | succ f ih =>
      intro i h h' h''
      rw [wY_weakest_5]
      refine yl_all n8 ?_
      by_cases e : i = 2 ^ n - 1
      · refine br_t (nI_le (by omega) (by omega)) ?_
        rw [e]
        exact yl_firm g hY (fun w1 w2 => br_f (by decide) (k1 w1 w2)) (fun w => br_t rfl (k0 w))
      · have nxt := ih (i + 1) (by omega) (by omega) (by omega)
        have b1 : pv_wY A B L i ≤ 100 := pv_wYb i
        have b2 : pv_cut A B L i ≤ 16 := pv_cn _ 16
        refine br_f (nI_ge (by omega) (by omega)) ?_
        refine yl_cut g hY (by omega) ?_
        refine pk_le (pv_wY A B L i) (pv_cut A B L i) (fun z => nm_r (nI_1 i) ?_) (fun z => ?_)
        · unfold pv_wY at nxt z ⊢
          rw [mf_N (fun y => by have := y.2; omega)] at nxt
          exact nxt
        · refine yl_cut g hY (by omega) (nm_r (nI_1 i) ?_)
          unfold pv_wY at nxt z
          rw [mf_P ⟨gr_bT.mpr h', z⟩] at nxt
          exact nxt
  have := a (2 ^ n - 1) 1 (by omega) (by omega) (by omega)
  have e1 : pv_wY A B L 1 = 100 := by
    unfold pv_wY
    rw [mf_N (fun z => by have := gr_bT.mp z.1; omega)]
    rfl
  rw [e1] at this
  exact ⟨_, this⟩
theorem yl_frag {post : Int32 → Prop} (g : cx_G n L A B) (hY : cx_Y L A B th ya yb) (k1 : n ≠ 1 → ¬ 1 < pv_g A B L (2 ^ n - 1) → post (nI (pv_fY A B n L (2 ^ n - 1 + 1)))) (k0 : (n = 1 ∨ 1 < pv_g A B L (2 ^ n - 1)) → post 0) : wpY_fragile post (nI n, th, ya, yb) := by
  have n8 := g.1.2
  have n1 := g.1.1
  have a8 := pv_a8 n8
  have a1 : 2 ^ 1 ≤ 2 ^ n := Nat.pow_le_pow_right (by omega) n1
  have a : ∀ f i, 2 ^ n - 1 + 1 < f + i → 1 ≤ i → i ≤ 2 ^ n - 1 + 1 → wY_fragile_5 post (nI n) th ya yb f (nI (pv_fY A B n L i)) (nI i) := by
    intro f
    induction f with
    | zero => intro i h h' h''; omega
    | succ f ih =>
      intro i h h' h''
      rw [wY_fragile_5]
      refine yl_all n8 ?_
      by_cases e : i = 2 ^ n - 1 + 1
      · refine br_t (nI_lt (by omega) (by omega)) ?_
        rw [e]
        exact yl_firm g hY (fun w1 w2 => br_f (by decide) (k1 w1 w2)) (fun w => br_t rfl (k0 w))
      · have nxt := ih (i + 1) (by omega) (by omega) (by omega)
        have b1 : pv_fY A B n L i ≤ 100 := pv_fYb i
        have i8 : i < 256 := by omega
        have oc := pv_oc (n := n) (s := i) (by omega) (fun p hp => pv_in (by omega) hp)
        have no : ¬ (pv_o i = 1 ∨ 1 < pv_g A B L i) → wY_fragile_40 post (wY_fragile_5 post (nI n) th ya yb f) (nI (pv_fY A B n L i)) (nI i) 0 (nI n) th ya yb := by
          intro w
          refine yl_ones (by omega) (nm_r (e' := nI (n - pv_o i)) (pk_sub (by omega)) (br_t rfl (nm_r (nI_1 i) ?_)))
          unfold pv_fY at nxt ⊢
          rw [mf_N (fun z => w (gr_bT.mp z.1).2)] at nxt
          exact nxt
        have yes : (pv_o i = 1 ∨ 1 < pv_g A B L i) → wY_fragile_35 post (wY_fragile_5 post (nI n) th ya yb f) (nI (pv_fY A B n L i)) (nI i) (nI n) th ya yb := by
          intro w
          refine yl_ones (by omega) (nm_r (e' := nI (n - pv_o i)) (pk_sub (by omega)) (br_f (by decide) (pk_le (pv_fY A B n L i) (n - pv_o i) (fun z => nm_r (nI_1 i) ?_) (fun z => nm_r (nI_1 i) ?_))))
          · unfold pv_fY at nxt z ⊢
            rw [mf_N (fun y => by have := y.2; omega)] at nxt
            exact nxt
          · unfold pv_fY at nxt z
            rw [mf_P ⟨gr_bT.mpr ⟨h', w⟩, z⟩] at nxt
            exact nxt
        have g8 := pv_g8 A B (us := L) i8
        refine br_f (nI_nlt (by omega) (by omega)) ?_
        refine yl_ones (by omega) ?_
        refine pk_eq (pv_o i) 1 (fun w => yes (Or.inl w)) (fun w => ?_)
        refine yl_lines g hY ?_
        refine yl_many g hY (fun _ _ h => h) g.2.1 i8 ?_
        exact pk_le (pv_g A B L i) 1 (fun z => no (fun y => y.elim w (fun y => by omega))) (fun z => yes (Or.inr z))
  have := a (2 ^ n) 1 (by omega) (by omega) (by omega)
  have e1 : pv_fY A B n L 1 = 100 := by
    unfold pv_fY
    rw [mf_N (fun z => by have := (gr_bT.mp z.1).1; omega)]
    rfl
  rw [e1] at this
  exact ⟨_, this⟩
theorem yl_trees {post : Int32 → Prop} (g : cx_G n L A B) (hY : cx_Y L A B th ya yb) (k : post (nI (pv_ty A B n L 65536))) : wpY_trees post (nI n, th, ya, yb) := by
  have n8 := g.1.2
  have n1 := g.1.1
  have a8 := pv_a8 n8
  have en1 : nI n - 1 = nI (n - 1) := pk_sub (b := 1) n1
  unfold wpY_trees
  dsimp only
  refine yl_lines g hY ?_
  refine ⟨65537, ?_⟩
  have a : ∀ f i, 65536 < f + i → i ≤ 65536 → wY_trees_9 post (nI L) (nI n) th ya yb f (nI (pv_ty A B n L i)) (nI i) := by
    intro f
    induction f with
    | zero => intro i h h'; omega
    | succ f ih =>
      intro i h h'
      rw [wY_trees_9]
      by_cases e : i = 65536
      · subst e
        exact br_t (nI_le (b := 65536) (by omega) (by omega)) k
      · have i16 : i < 65536 := by omega
        have nxt := ih (i + 1) (by omega) (by omega)
        have no : ¬ ((bi_d i L = 0 ∧ pv_o i = n - 1) ∧ sp_X A B i (2 ^ n - 1) 1 = 2 ^ n - 1) → wY_trees_58 post (wY_trees_9 post (nI L) (nI n) th ya yb f) (nI (pv_ty A B n L i)) (nI L) (nI i) (nI n) th ya yb := by
          intro w
          unfold pv_ty at nxt ⊢
          rw [pv_cN (P := fun s => (bi_d s L = 0 ∧ pv_o s = n - 1) ∧ sp_X A B s (2 ^ n - 1) 1 = 2 ^ n - 1) (n := i) w] at nxt
          exact br_t rfl (nm_r (nI_1 i) nxt)
        refine br_f (nI_ge (b := 65536) (by omega) (by omega)) (ek_if (d := bi_d i L = 0) (by rw [bi_not, bi_z (Nat.lt_trans (bi_dlt (n := 16) i16) (by omega))]) (fun q => ?_) (fun q => no (fun z => q z.1.1)))
        have o16 : pv_o i ≤ 16 := pv_cn _ 16
        refine yl_ones (by omega) ?_
        rw [en1]
        refine pk_eq (pv_o i) (n - 1) (fun w => ?_) (fun w => no (fun z => w z.1.2))
        refine yl_all n8 ?_
        refine yl_joined (st := 1) g hY (fun j _ w => (pv_d0 i L).mp q j w) i16 a8 ?_
        refine yl_all n8 ?_
        have xb := sp_XB (A := A) (B := B) (us := i) (st := 1) a8
        refine pk_eq (sp_X A B i (2 ^ n - 1) 1) (2 ^ n - 1) (fun z => br_f (by decide) ?_) (fun z => no (fun y => z y.2))
        unfold pv_ty at nxt ⊢
        rw [pv_cP (P := fun s => (bi_d s L = 0 ∧ pv_o s = n - 1) ∧ sp_X A B s (2 ^ n - 1) 1 = 2 ^ n - 1) (n := i) ⟨⟨q, w⟩, z⟩] at nxt
        exact nm_r (nI_1 _) (nm_r (nI_1 i) nxt)
  exact a 65537 0 (by omega) (by omega)
theorem yl_around {post : Int32 → Prop} (g : cx_G n L A B) (hY : cx_Y L A B th ya yb) {x : Int32} (k1 : ∀ k, k < 16 → x = nI k → L.testBit k = true → post (pv_ring (xd_D A B L k))) (k0 : (∀ k, k < 16 → x = nI k → ¬ L.testBit k = true) → post (-1)) : wpY_around post (nI n, th, ya, yb) x := by
  have n8 := g.1.2
  unfold wpY_around
  dsimp only
  refine yl_is hY (fun k hk ek lk => br_f (by decide) ?_) (fun h => br_t rfl (k0 h))
  subst ek
  have kk := k1 k hk rfl lk
  have v : vp_in (nI k) 16 := vp_in_nI hk (by omega)
  have c : (nI k).toNatClampNeg = k := nI_clamp (by omega)
  obtain ⟨ea, eb⟩ := (hY k hk).2 lk
  obtain ⟨g1, g2, g3⟩ := g.2.2 k hk lk
  have ly := pv_lyE (A := A) (B := B) (n := n) (us := bi_d L (2 ^ k)) (fun j hj w => by have := g.2.2 j hj (cx_dL j hj w); exact ⟨this.1, this.2.1⟩) g1
  have lb := pv_lyB g (us := bi_d L (2 ^ k)) cx_dL (show A k < 8 by omega)
  have d0 : ¬ xd_D A B L k 0 := by
    intro w
    have := (pv_2p (A k) (B k)).mp w
    omega
  have a : ∀ f i, 8 < f + i → i ≤ 8 → (∀ j, j < i → ¬ xd_D A B L k j) → wY_around_21 post (nI k) (nI n) th ya yb f (nI (pv_ly A B (bi_d L (2 ^ k)) i (A k))) (nI (i + 1)) := by
    intro f
    induction f with
    | zero => intro i h h'; omega
    | succ f ih =>
      intro i h h' hn
      rw [wY_around_21]
      by_cases e : i = 8
      · subst e
        refine br_t (nI_le (a := 9) (b := 9) (by omega) (by omega)) ?_
        have : (-3 : Int32) = pv_ring (xd_D A B L k) := pv_rE (Or.inr ⟨fun j j1 j2 => hn (j - 1) (by omega), rfl⟩)
        rw [this]
        exact kk
      · have li := lb i
        refine br_f (nI_ge (a := i + 1) (b := 9) (by omega) (by omega)) ⟨v, ek_if (d := xd_D A B L k i) (by rw [c, eb]; exact bi_b1 (by omega) (by omega)) (fun w => ?_) (fun w => ?_)⟩
        · have i0 : i ≠ 0 := fun q => d0 (by rw [q] at w; exact w)
          have : nI (i + 1) = pv_ring (xd_D A B L k) := pv_rE (Or.inl ⟨i + 1, by omega, by omega, w, fun j j1 j2 => hn (j - 1) (by omega), rfl⟩)
          rw [this]
          exact kk
        · refine yl_lines g hY ?_
          refine yl_all n8 ?_
          rw [bi_1 (by omega), bi_not]
          refine yl_step g hY cx_dL (bi_dlt (n := 16) g.2.1) li (nm_r (nI_1 (i + 1)) ?_)
          have es : sp_y A B (bi_d L (2 ^ k)) (pv_ly A B (bi_d L (2 ^ k)) i (A k)) 16 &&& (2 ^ n - 1) = pv_ly A B (bi_d L (2 ^ k)) (i + 1) (A k) := by
            rw [(ly (i + 1)).1, (ly i).1]
            rfl
          rw [es]
          refine ih (i + 1) (by omega) (by omega) (fun j hj => ?_)
          by_cases e2 : j = i
          · rw [e2]; exact w
          · exact hn j (by omega)
  refine ⟨v, nm_r (e' := nI (2 ^ (A k))) (by rw [c, ea, bi_1 (by omega)]) ⟨9, a 9 0 (by omega) (by omega) (fun j hj => by omega)⟩⟩
theorem yl_short {post : Int32 → Prop} (g : cx_G n L A B) (hY : cx_Y L A B th ya yb) (k : post (pv_sh A B L 16)) : wpY_shortest post (nI n, th, ya, yb) := by
  have a : ∀ f i, 16 < f + i → i ≤ 16 → wY_shortest_5 post (nI n) th ya yb f (pv_sh A B L i) (nI i) := by
    intro f
    induction f with
    | zero => intro i h h'; omega
    | succ f ih =>
      intro i h h'
      rw [wY_shortest_5]
      by_cases e : i = 16
      · subst e
        exact br_t (nI_le (b := 16) (by omega) (by omega)) k
      · have i16 : i < 16 := by omega
        have nxt := ih (i + 1) (by omega) (by omega)
        have m1 : (-1 : Int32) ≤ 0 := by decide
        have m3 : (-3 : Int32) ≤ 0 := by decide
        have m3' : (-3 : Int32) < 0 := by decide
        refine br_f (nI_ge (b := 16) (by omega) (by omega)) ?_
        refine yl_around g hY (fun j hj ej lj => ?_) (fun w => ?_)
        · have ej : i = j := (nI_eq (by omega) (by omega)).mp ej
          subst ej
          rcases pv_rB (xd_D A B L i) with w | ⟨l, l1, l2, w⟩
          · refine br_t (by rw [w]; exact m3) (nm_r (nI_1 i) ?_)
            rw [pv_shN (fun z => z.2.1 w)] at nxt
            exact nxt
          · have r3 : ¬ pv_ring (xd_D A B L i) = -3 := by
              rw [w]
              intro q
              have := nI_pos (n := l) (by omega)
              rw [q] at this
              exact this (by decide)
            refine br_f (by rw [w]; exact nI_nle (by omega) (by omega)) ?_
            rcases pv_shB (A := A) (B := B) (L := L) i with z | ⟨m, q1, q2, z⟩
            · refine br_t (by rw [z]; exact m3') (nm_r (nI_1 i) ?_)
              rw [pv_shP ⟨lj, r3, Or.inl z⟩] at nxt
              exact nxt
            · have z3 : ¬ pv_sh A B L i = -3 := by
                rw [z]
                intro q
                have := nI_pos (n := m) (by omega)
                rw [q] at this
                exact this (by decide)
              refine br_f (by rw [z]; exact nI_pos (by omega)) ?_
              by_cases y : pv_sh A B L i ≤ pv_ring (xd_D A B L i)
              · refine br_t y (nm_r (nI_1 i) ?_)
                rw [pv_shN (fun q => q.2.2.elim z3 (fun v => v y))] at nxt
                exact nxt
              · refine br_f y (nm_r (nI_1 i) ?_)
                rw [pv_shP ⟨lj, r3, Or.inr y⟩] at nxt
                exact nxt
        · refine br_t m1 (nm_r (nI_1 i) ?_)
          rw [pv_shN (fun z => w i i16 rfl z.1)] at nxt
          exact nxt
  exact ⟨17, a 17 0 (by omega) (by omega)⟩
theorem yl_even {post : Int32 → Prop} (g : cx_G n L A B) (hY : cx_Y L A B th ya yb) {p : Nat} (pn : p < n) (k : post (nI (pv_ev (fun s => sp_w A B L s 16) (2 ^ p) 7))) : wpY_even post (nI n, th, ya, yb) (nI p) := by
  have n8 := g.1.2
  have ly := pv_lyE (A := A) (B := B) (n := n) (us := L) (fun j hj w => by have := g.2.2 j hj w; exact ⟨this.1, this.2.1⟩) pn
  have lb := pv_lyB g (us := L) (fun _ _ h => h) (show p < 8 by omega)
  have a : ∀ f i, 7 < f + i → i ≤ 7 → wY_even_9 post (nI n) th ya yb f (nI (pv_ly A B L i p)) (nI (pv_ev (fun s => sp_w A B L s 16) (2 ^ p) i)) (nI (i + 1)) := by
    intro f
    induction f with
    | zero => intro i h h'; omega
    | succ f ih =>
      intro i h h'
      rw [wY_even_9]
      by_cases e : i = 7
      · subst e
        exact br_t (nI_le (a := 8) (b := 8) (by omega) (by omega)) k
      · have nxt := ih (i + 1) (by omega) (by omega)
        refine br_f (nI_ge (a := i + 1) (b := 8) (by omega) (by omega)) ?_
        refine yl_lines g hY ?_
        refine yl_all n8 ?_
        refine yl_step g hY (fun _ _ h => h) g.2.1 (lb i) ?_
        have es : sp_y A B L (pv_ly A B L i p) 16 &&& (2 ^ n - 1) = pv_ly A B L (i + 1) p := by
          rw [(ly (i + 1)).1, (ly i).1]
          rfl
        rw [es]
        have pr : nI (i + 1) - nI (i + 1) / 2 * 2 = nI ((i + 1) % 2) := pk_rem (d := 2) (by omega) (by omega) (by omega)
        refine ⟨by decide, ek_if (d := (i + 1) % 2 = 0) (by rw [pr, bi_z (by omega)]) (fun w => ?_) (fun w => nm_r (nI_1 (i + 1)) ?_)⟩
        · rw [pv_evP w] at nxt
          exact nm_r (by rw [bi_not, bi_or]; rfl) (nm_r (nI_1 (i + 1)) nxt)
        · rw [pv_evN w] at nxt
          exact nxt
  exact nm_r (bi_1 (by omega)) ⟨8, a 8 0 (by omega) (by omega)⟩
theorem yl_65o {post : Int32 → Prop} {x2 : Int32} (k : post (-3)) : ∀ f i, 16 < f + i → i ≤ 16 → wY_sides_65 post x2 (nI n) th ya yb f 0 (nI i) := by
  intro f
  induction f with
  | zero => intro i h h'; omega
  | succ f ih =>
    intro i h h'
    rw [wY_sides_65]
    by_cases e : i = 16
    · subst e
      exact br_t (nI_le (b := 16) (by omega) (by omega)) (br_t rfl k)
    · exact br_f (nI_ge (b := 16) (by omega) (by omega)) (br_t rfl (nm_r (nI_1 i) (ih (i + 1) (by omega) (by omega))))
theorem yl_65 {post : Int32 → Prop} (g : cx_G n L A B) (hY : cx_Y L A B th ya yb) {s : Nat} (hs : s < 2 ^ 31) (k1 : (∀ k, k < 16 → L.testBit k = true → ¬ (s.testBit (A k) = true ↔ s.testBit (B k) = true)) → post (nI s)) (k0 : ¬ (∀ k, k < 16 → L.testBit k = true → ¬ (s.testBit (A k) = true ↔ s.testBit (B k) = true)) → post (-3)) : ∀ f i, 16 < f + i → i ≤ 16 → (∀ k, k < i → L.testBit k = true → ¬ (s.testBit (A k) = true ↔ s.testBit (B k) = true)) → wY_sides_65 post (nI s) (nI n) th ya yb f 1 (nI i) := by
  intro f
  have n8 := g.1.2
  induction f with
  | zero => intro i h h'; omega
  | succ f ih =>
    intro i h h' hq
    rw [wY_sides_65]
    by_cases e : i = 16
    · subst e
      exact br_t (nI_le (b := 16) (by omega) (by omega)) (br_f (by decide) (k1 hq))
    · have i16 : i < 16 := by omega
      have c : (nI i).toNatClampNeg = i := nI_clamp (by omega)
      have v : vp_in (nI i) 16 := vp_in_nI i16 (by omega)
      refine br_f (nI_ge (b := 16) (by omega) (by omega)) (br_f (by decide) ⟨v, ek_if (cx_th hY i16) (fun w => nm_r (nI_1 i) (ih (i + 1) (by omega) (by omega) (fun k hk lk => ?_))) (fun w => ?_)⟩)
      · by_cases e2 : k = i
        · rw [e2] at lk; exact absurd lk w
        · exact hq k (by omega) lk
      · have u : L.testBit i = true := Classical.byContradiction w
        obtain ⟨ea, eb⟩ := (hY i i16).2 u
        obtain ⟨g1, g2, g3⟩ := g.2.2 i i16 u
        refine ⟨v, v, ek_if (d := (s.testBit (A i) = true ↔ s.testBit (B i) = true)) (by rw [c, ea, eb]; exact yb_ne hs (by omega) (by omega)) (fun q => nm_r (nI_1 i) ?_) (fun q => nm_r (nI_1 i) (ih (i + 1) (by omega) (by omega) (fun k hk lk => ?_)))⟩
        · exact yl_65o (k0 (fun z => z i i16 u q)) f (i + 1) (by omega) (by omega)
        · by_cases e2 : k = i
          · rw [e2]; exact q
          · exact hq k (by omega) lk
theorem yl_sides {post : Int32 → Prop} (g : cx_G n L A B) (hY : cx_Y L A B th ya yb) (k1 : (∀ k, k < 16 → L.testBit k = true → ¬ ((pv_sd (fun p => pv_ev (fun s => sp_w A B L s 16) (2 ^ p) 7) (fun p => sp_X A B L (2 ^ n - 1) (2 ^ p)) n).1.testBit (A k) = true ↔ (pv_sd (fun p => pv_ev (fun s => sp_w A B L s 16) (2 ^ p) 7) (fun p => sp_X A B L (2 ^ n - 1) (2 ^ p)) n).1.testBit (B k) = true)) → post (nI (pv_sd (fun p => pv_ev (fun s => sp_w A B L s 16) (2 ^ p) 7) (fun p => sp_X A B L (2 ^ n - 1) (2 ^ p)) n).1))
    (k0 : ¬ (∀ k, k < 16 → L.testBit k = true → ¬ ((pv_sd (fun p => pv_ev (fun s => sp_w A B L s 16) (2 ^ p) 7) (fun p => sp_X A B L (2 ^ n - 1) (2 ^ p)) n).1.testBit (A k) = true ↔ (pv_sd (fun p => pv_ev (fun s => sp_w A B L s 16) (2 ^ p) 7) (fun p => sp_X A B L (2 ^ n - 1) (2 ^ p)) n).1.testBit (B k) = true)) → post (-3)) : wpY_sides post (nI n, th, ya, yb) := by
  have n8 := g.1.2
  have a8 := pv_a8 n8
  have sb : ∀ p, p ≤ n → (pv_sd (fun p => pv_ev (fun s => sp_w A B L s 16) (2 ^ p) 7) (fun p => sp_X A B L (2 ^ n - 1) (2 ^ p)) p).1 < 256 := by
    intro p
    induction p with
    | zero => intro _; show 0 < 256; omega
    | succ p ih =>
      intro hp
      have ih := ih (by omega)
      by_cases c : (pv_sd (fun p => pv_ev (fun s => sp_w A B L s 16) (2 ^ p) 7) (fun p => sp_X A B L (2 ^ n - 1) (2 ^ p)) p).2.testBit p = true
      · rw [pv_sdP c]; exact ih
      · rw [pv_sdN c]
        exact Nat.or_lt_two_pow (n := 8) ih (pv_evB (n := 8) (pv_lyB g (us := L) (fun _ _ h => h) (show p < 8 by omega)) 7)
  unfold wpY_sides
  dsimp only
  refine yl_all n8 ?_
  refine ⟨n + 1, ?_⟩
  have a : ∀ f p, n < f + p → p ≤ n → wY_sides_9 post (nI n) th ya yb f (nI (bi_d (2 ^ n - 1) (pv_sd (fun p => pv_ev (fun s => sp_w A B L s 16) (2 ^ p) 7) (fun p => sp_X A B L (2 ^ n - 1) (2 ^ p)) p).2)) (nI (pv_sd (fun p => pv_ev (fun s => sp_w A B L s 16) (2 ^ p) 7) (fun p => sp_X A B L (2 ^ n - 1) (2 ^ p)) p).1) (nI p) := by
    intro f
    induction f with
    | zero => intro p h h'; omega
    | succ f ih =>
      intro p h h'
      have sp := sb p h'
      rw [wY_sides_9]
      by_cases e : p = n
      · subst e
        exact br_t (nI_le (by omega) (by omega)) ⟨17, yl_65 g hY (by omega) k1 k0 17 0 (by omega) (by omega) (fun k hk => by omega)⟩
      · have pn : p < n := by omega
        have nxt := ih (p + 1) (by omega) (by omega)
        have d8 : bi_d (2 ^ n - 1) (pv_sd (fun p => pv_ev (fun s => sp_w A B L s 16) (2 ^ p) 7) (fun p => sp_X A B L (2 ^ n - 1) (2 ^ p)) p).2 < 256 := bi_dlt (n := 8) a8
        refine br_f (nI_ge (by omega) (by omega)) (ek_if (d := ¬ (pv_sd (fun p => pv_ev (fun s => sp_w A B L s 16) (2 ^ p) 7) (fun p => sp_X A B L (2 ^ n - 1) (2 ^ p)) p).2.testBit p = true) (by rw [bi_b1 (by omega) (by omega), pv_dT, pv_all]; exact ⟨fun w => w.2, fun w => ⟨pn, w⟩⟩) (fun u => ?_) (fun u => nm_r (nI_1 p) ?_))
        · rw [pv_sdN u] at nxt
          refine yl_even g hY pn ?_
          refine nm_r (bi_or _ _) ?_
          refine yl_lines g hY ?_
          refine yl_all n8 ?_
          rw [bi_1 (by omega)]
          refine yl_joined g hY (fun _ _ h => h) g.2.1 a8 ?_
          refine nm_r (by rw [bi_not, pv_sdD]) (nm_r (nI_1 p) nxt)
        · rw [pv_sdP (Classical.byContradiction u)] at nxt
          exact nxt
  have := a (n + 1) 0 (by omega) (by omega)
  have z : bi_d (2 ^ n - 1) 0 = 2 ^ n - 1 := by
    apply pv_ext
    intro p
    rw [pv_dT, Nat.zero_testBit]
    exact ⟨fun w => w.1, fun w => ⟨w, fun q => by cases q⟩⟩
  have e0 : (pv_sd (fun p => pv_ev (fun s => sp_w A B L s 16) (2 ^ p) 7) (fun p => sp_X A B L (2 ^ n - 1) (2 ^ p)) 0).2 = 0 := rfl
  rw [e0, z] at this
  exact this
end

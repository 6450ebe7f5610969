/-! X: rings, sides, trees -/
/-- the least ring by layers -/
def pv_rP (D : Nat → Prop) (r : Int32) : Prop := (∃ l, 2 ≤ l ∧ l ≤ 8 ∧ D (l - 1) ∧ (∀ j, 2 ≤ j → j < l → ¬ D (j - 1)) ∧ r = nI l) ∨ ((∀ j, 2 ≤ j → j ≤ 8 → ¬ D (j - 1)) ∧ r = -3)
noncomputable def pv_ring (D : Nat → Prop) : Int32 := Classical.epsilon (pv_rP D)
theorem pv_rU {D : Nat → Prop} {r s : Int32} (h : pv_rP D r) (k : pv_rP D s) : r = s := by
  rcases h with ⟨l, h1, h2, h3, h4, h5⟩ | ⟨h1, h2⟩
  · rcases k with ⟨m, k1, k2, k3, k4, k5⟩ | ⟨k1, k2⟩
    · have : l = m := by
        apply Classical.byContradiction
        intro ne
        by_cases c : l < m
        · exact k4 l h1 c h3
        · exact h4 m k1 (by omega) k3
      rw [h5, k5, this]
    · exact absurd h3 (k1 l h1 h2)
  · rcases k with ⟨m, k1, k2, k3, k4, k5⟩ | ⟨k1, k2⟩
    · exact absurd k3 (h1 m k1 k2)
    · rw [h2, k2]
theorem pv_rE {D : Nat → Prop} {r : Int32} (h : pv_rP D r) : r = pv_ring D := pv_rU h (Classical.epsilon_spec (p := pv_rP D) ⟨r, h⟩)
theorem pv_rX (D : Nat → Prop) : ∃ r, pv_rP D r := by
  by_cases h : ∃ l, 2 ≤ l ∧ l ≤ 8 ∧ D (l - 1)
  · obtain ⟨l, h1, h2, h3⟩ := h
    obtain ⟨m, m1, m2, m3⟩ := gr_least (fun l => 2 ≤ l ∧ l ≤ 8 ∧ D (l - 1)) l ⟨h1, h2, h3⟩
    exact ⟨nI m, Or.inl ⟨m, m2.1, m2.2.1, m2.2.2, fun j j1 j2 j3 => m3 j j2 ⟨j1, by have := m2.2.1; omega, j3⟩, rfl⟩⟩
  · exact ⟨-3, Or.inr ⟨fun j j1 j2 j3 => h ⟨j, j1, j2, j3⟩, rfl⟩⟩
theorem pv_rS (D : Nat → Prop) : pv_rP D (pv_ring D) := by
  obtain ⟨r, h⟩ := pv_rX D
  rw [← pv_rE h]
  exact h
theorem pv_rB (D : Nat → Prop) : pv_ring D = -3 ∨ ∃ l, 2 ≤ l ∧ l ≤ 8 ∧ pv_ring D = nI l := by
  rcases pv_rS D with ⟨l, h1, h2, _, _, h5⟩ | ⟨_, h2⟩
  · exact Or.inr ⟨l, h1, h2, h5⟩
  · exact Or.inl h2
theorem pv_rC {D F : Nat → Prop} (h : ∀ i, D i ↔ F i) : pv_ring D = pv_ring F := by
  have : D = F := funext (fun i => propext (h i))
  rw [this]
theorem sp_wB {A B : Nat → Nat} {us L n r : Nat} (g : cx_G n L A B) (hu : ∀ k, k < 16 → us.testBit k = true → L.testBit k = true) (hr : r < 256) : ∀ i, i ≤ 16 → sp_w A B us r i < 256 := by
  intro i
  induction i with
  | zero => intro _; exact hr
  | succ i ih =>
    intro h
    unfold sp_w
    split
    · rename_i q
      exact Nat.or_lt_two_pow (n := 8) (ih (by omega)) (cx_e8 g (by omega) (hu i (by omega) q.1))
    · exact ih (by omega)
theorem sp_wP {A B : Nat → Nat} {us r i : Nat} (h : us.testBit i = true ∧ bi_e (A i) (B i) &&& r ≠ 0) : sp_w A B us r (i + 1) = sp_w A B us r i ||| bi_e (A i) (B i) := by
  show (if _ then _ else _) = _
  rw [if_pos h]
theorem sp_wN {A B : Nat → Nat} {us r i : Nat} (h : ¬ (us.testBit i = true ∧ bi_e (A i) (B i) &&& r ≠ 0)) : sp_w A B us r (i + 1) = sp_w A B us r i := by
  show (if _ then _ else _) = _
  rw [if_neg h]
theorem pv_lyB {A B : Nat → Nat} {us L n x : Nat} (g : cx_G n L A B) (hu : ∀ k, k < 16 → us.testBit k = true → L.testBit k = true) (hx : x < 8) : ∀ i, pv_ly A B us i x < 256 := by
  intro i
  induction i with
  | zero => exact Nat.pow_lt_pow_right (n := 8) (by omega) hx
  | succ i ih => exact sp_wB g hu ih 16 (Nat.le_refl _)
section
variable {n L : Nat} {A B : Nat → Nat} {vm vr vb vh : Int32} {en od lw fr cy nx rt : Nat → Int32} {tb : Nat → Int64}
theorem xd_widen {post : Int32 → Prop} (g : cx_G n L A B) (hX : cx_X L A B en) {r us : Nat} (hu : ∀ k, k < 16 → us.testBit k = true → L.testBit k = true) (u16 : us < 65536) (r8 : r < 256) (k : post (nI (sp_w A B us r 16))) : wpX_widen post (nI n, nI L, vm, vr, vb, vh, en, od, lw, fr, cy, nx, rt, tb) (nI r) (nI us) := by
  have a : ∀ f i, 16 < f + i → i ≤ 16 → wX_widen_5 post (nI r) (nI us) (nI n) (nI L) vm vr vb vh en od lw fr cy nx rt tb f (nI (sp_w A B us r i)) (nI i) := by
    intro f
    induction f with
    | zero => intro i h h'; omega
    | succ f ih =>
      intro i h h'
      rw [wX_widen_5]
      by_cases e : i = 16
      · subst e
        exact br_t (nI_le (b := 16) (by omega) (by omega)) k
      · have i16 : i < 16 := by omega
        have c : (nI i).toNatClampNeg = i := nI_clamp (by omega)
        have v : vp_in (nI i) 16 := vp_in_nI i16 (by omega)
        have nxt := ih (i + 1) (by omega) (by omega)
        refine br_f (nI_ge (b := 16) (by omega) (by omega)) (ek_if (bi_b1 (by omega) (by omega)) (fun u => ?_) (fun u => ?_))
        · have ei := hX i i16 (hu i i16 u)
          refine ⟨v, ek_if (d := bi_e (A i) (B i) &&& r = 0) (by rw [c, ei, nx_and, bi_z (Nat.lt_trans (Nat.and_lt_two_pow (n := 8) _ r8) (by omega))]) (fun w => ?_) (fun w => ?_)⟩
          · rw [sp_wN (fun z => z.2 w)] at nxt
            exact nm_r (nI_1 i) nxt
          · rw [sp_wP ⟨u, w⟩] at nxt
            exact ⟨v, nm_r (by rw [c, ei, bi_or]) (nm_r (nI_1 i) nxt)⟩
        · rw [sp_wN (fun z => u z.1)] at nxt
          exact nm_r (nI_1 i) nxt
  exact ⟨17, a 17 0 (by omega) (by omega)⟩
/-- the layers around line k -/
def xd_D (A B : Nat → Nat) (L k i : Nat) : Prop := (pv_ly A B (bi_d L (2 ^ k)) i (A k)).testBit (B k) = true
theorem xd_ring {post : Int32 → Prop} (g : cx_G n L A B) (hX : cx_X L A B en) {k : Nat} (hk : k < 16) (lk : L.testBit k = true) (kk : post (pv_ring (xd_D A B L k))) : wpX_leastRing post (nI n, nI L, vm, vr, vb, vh, en, od, lw, fr, cy, nx, rt, tb) (nI k) := by
  have n8 := g.1.2
  have ck : (nI k).toNatClampNeg = k := nI_clamp (by omega)
  have vk : vp_in (nI k) 16 := vp_in_nI hk (by omega)
  obtain ⟨g1, g2, g3⟩ := g.2.2 k hk lk
  have ek := hX k hk lk
  have e8 := cx_e8 g hk lk
  -- the lesser end x and the other y
  have xy : ∃ x y, x < y ∧ y < 8 ∧ (∀ i, (pv_ly A B (bi_d L (2 ^ k)) i x).testBit y = true ↔ xd_D A B L k i) ∧ (∀ z, (bi_e (A k) (B k)).testBit z = true ↔ (z = x ∨ z = y)) := by
    by_cases c : A k < B k
    · exact ⟨A k, B k, c, by omega, fun i => Iff.rfl, fun z => bi_eT _ _ _⟩
    · refine ⟨B k, A k, by omega, by omega, fun i => pv_lyS i _ _, fun z => ?_⟩
      rw [bi_eT]
      exact ⟨fun h => h.elim Or.inr Or.inl, fun h => h.elim Or.inr Or.inl⟩
  obtain ⟨x, y, xly, y8, hD, hE⟩ := xy
  have u16 : bi_d L (2 ^ k) < 65536 := bi_dlt (n := 16) g.2.1
  have gy : bi_d (bi_e (A k) (B k)) (2 ^ x) = 2 ^ y := by
    apply pv_ext
    intro z
    rw [pv_dT, hE, pv_2p, pv_2p]
    omega
  have a : ∀ f l, 8 < f + l → l ≤ 8 → 1 ≤ l → (∀ j, 2 ≤ j → j ≤ l → ¬ xd_D A B L k (j - 1)) → wX_leastRing_43 post (nI (2 ^ y)) (nI (bi_d L (2 ^ k))) (nI n) (nI L) vm vr vb vh en od lw fr cy nx rt tb f (nI (pv_ly A B (bi_d L (2 ^ k)) (l - 1) x)) (nI (l + 1)) := by
    intro f
    induction f with
    | zero => intro l h h' h''; omega
    | succ f ih =>
      intro l h h' h'' hn
      rw [wX_leastRing_43]
      by_cases e : l = 8
      · subst e
        refine br_t (nI_lt (a := 8) (b := 9) (by omega) (by omega)) ?_
        have : (-3 : Int32) = pv_ring (xd_D A B L k) := pv_rE (Or.inr ⟨fun j j1 j2 => hn j j1 j2, rfl⟩)
        rw [this]
        exact kk
      · have lb := pv_lyB g (us := bi_d L (2 ^ k)) cx_dL (show x < 8 by omega)
        refine br_f (nI_nlt (a := 8) (b := l + 1) (by omega) (by omega)) ?_
        refine xd_widen g hX cx_dL u16 (lb (l - 1)) ?_
        have es : sp_w A B (bi_d L (2 ^ k)) (pv_ly A B (bi_d L (2 ^ k)) (l - 1) x) 16 = pv_ly A B (bi_d L (2 ^ k)) l x := by
          obtain ⟨m, rfl⟩ : ∃ m, l = m + 1 := ⟨l - 1, by omega⟩
          rfl
        rw [es]
        have l8 := lb l
        refine ek_if (d := ¬ xd_D A B L k l) ?_ (fun w => nm_r (nI_1 (l + 1)) (ih (l + 1) (by omega) (by omega) (by omega) (fun j j1 j2 => ?_))) (fun w => ?_)
        · rw [nx_and, bi_z (Nat.lt_trans (Nat.and_lt_two_pow (n := 8) _ (Nat.pow_lt_pow_right (by omega) y8)) (by omega)), ← hD l]
          have bz := bi_nz (pv_ly A B (bi_d L (2 ^ k)) l x &&& 2 ^ y)
          constructor
          · intro z w
            exact bz.mpr ⟨y, by rw [Nat.testBit_and, w, Nat.testBit_two_pow_self]; rfl⟩ z
          · intro w
            apply Classical.byContradiction
            intro z
            obtain ⟨i, hi⟩ := bz.mp z
            rw [Nat.testBit_and, Bool.and_eq_true, pv_2p] at hi
            rw [hi.2] at hi
            exact w hi.1
        · by_cases e2 : j = l + 1
          · rw [e2]; exact w
          · exact hn j j1 (by omega)
        · have : nI (l + 1) = pv_ring (xd_D A B L k) := pv_rE (Or.inl ⟨l + 1, by omega, by omega, Classical.byContradiction w, fun j j1 j2 => hn j j1 (by omega), rfl⟩)
          rw [this]
          exact kk
  refine ⟨vk, ?_⟩
  rw [ck, ek]
  refine xl_lowest (i := x) (by omega) (by omega) ((hE x).mpr (Or.inl rfl)) (fun j hj w => by have := (hE j).mp w; omega) ⟨vk, nm_r (e' := nI (2 ^ y)) (by rw [bi_1 (by omega), bi_not, gy]) (nm_r (e' := nI (bi_d L (2 ^ k))) (by rw [bi_1 (by omega), bi_not]) (nm_r (bi_1 (by omega)) ⟨8, a 8 1 (by omega) (by omega) (by omega) (fun j j1 j2 => by omega)⟩))⟩
theorem xd_around {post : Int32 → Prop} (g : cx_G n L A B) (hX : cx_X L A B en) {x : Int32} (k1 : ∀ k, k < 16 → x = nI k → L.testBit k = true → post (pv_ring (xd_D A B L k))) (k0 : (∀ k, k < 16 → x = nI k → ¬ L.testBit k = true) → post (-1)) : wpX_around post (nI n, nI L, vm, vr, vb, vh, en, od, lw, fr, cy, nx, rt, tb) x := by
  unfold wpX_around
  dsimp only
  refine xl_line g.2.1 (fun k hk ek lk => br_f (by decide) ?_) (fun h => br_t rfl (k0 h))
  subst ek
  exact xd_ring g hX hk lk (k1 k hk rfl lk)
/-- the shortest ring: lines before i -/
noncomputable def pv_sh (A B : Nat → Nat) (L : Nat) : Nat → Int32
  | 0 => -3
  | i + 1 => if gr_b (L.testBit i = true ∧ ¬ pv_ring (xd_D A B L i) = -3 ∧ (pv_sh A B L i = -3 ∨ ¬ pv_sh A B L i ≤ pv_ring (xd_D A B L i))) = true then pv_ring (xd_D A B L i) else pv_sh A B L i
theorem pv_shP {i : Nat} (h : L.testBit i = true ∧ ¬ pv_ring (xd_D A B L i) = -3 ∧ (pv_sh A B L i = -3 ∨ ¬ pv_sh A B L i ≤ pv_ring (xd_D A B L i))) : pv_sh A B L (i + 1) = pv_ring (xd_D A B L i) := by
  show (if _ then _ else _) = _
  rw [if_pos (gr_bT.mpr h)]
theorem pv_shN {i : Nat} (h : ¬ (L.testBit i = true ∧ ¬ pv_ring (xd_D A B L i) = -3 ∧ (pv_sh A B L i = -3 ∨ ¬ pv_sh A B L i ≤ pv_ring (xd_D A B L i)))) : pv_sh A B L (i + 1) = pv_sh A B L i := by
  show (if _ then _ else _) = _
  rw [if_neg (fun q => h (gr_bT.mp q))]
theorem pv_shB : ∀ i, pv_sh A B L i = -3 ∨ ∃ l, 2 ≤ l ∧ l ≤ 8 ∧ pv_sh A B L i = nI l := by
  intro i
  induction i with
  | zero => exact Or.inl rfl
  | succ i ih =>
    by_cases c : L.testBit i = true ∧ ¬ pv_ring (xd_D A B L i) = -3 ∧ (pv_sh A B L i = -3 ∨ ¬ pv_sh A B L i ≤ pv_ring (xd_D A B L i))
    · rw [pv_shP c]; exact pv_rB _
    · rw [pv_shN c]; exact ih
theorem xd_short {post : Int32 → Prop} (g : cx_G n L A B) (hX : cx_X L A B en) (k : post (pv_sh A B L 16)) : wpX_shortest post (nI n, nI L, vm, vr, vb, vh, en, od, lw, fr, cy, nx, rt, tb) := by
  have a : ∀ f i, 16 < f + i → i ≤ 16 → wX_shortest_5 post (nI n) (nI L) vm vr vb vh en od lw fr cy nx rt tb f (pv_sh A B L i) (nI i) := by
    intro f
    induction f with
    | zero => intro i h h'; omega
    | succ f ih =>
      intro i h h'
      rw [wX_shortest_5]
      by_cases e : i = 16
      · subst e
        exact br_t (nI_le (b := 16) (by omega) (by omega)) k
      · have i16 : i < 16 := by omega
        have nxt := ih (i + 1) (by omega) (by omega)
        refine br_f (nI_ge (b := 16) (by omega) (by omega)) (xl_lineN g.2.1 i16 (fun u => br_f (by decide) ?_) (fun u => br_t rfl (nm_r (nI_1 i) ?_)))
        · refine xd_ring g hX i16 u ?_
          by_cases w : pv_ring (xd_D A B L i) = -3
          · refine br_t w (nm_r (nI_1 i) ?_)
            rw [pv_shN (fun z => z.2.1 w)] at nxt
            exact nxt
          · refine br_f w ?_
            by_cases z : pv_sh A B L i = -3
            · refine br_t z (nm_r (nI_1 i) ?_)
              rw [pv_shP ⟨u, w, Or.inl z⟩] at nxt
              exact nxt
            · refine br_f z ?_
              by_cases y : pv_sh A B L i ≤ pv_ring (xd_D A B L i)
              · refine br_t y (nm_r (nI_1 i) ?_)
                rw [pv_shN (fun q => q.2.2.elim z (fun v => v y))] at nxt
                exact nxt
              · refine br_f y (nm_r (nI_1 i) ?_)
                rw [pv_shP ⟨u, w, Or.inr y⟩] at nxt
                exact nxt
        · rw [pv_shN (fun z => u z.1)] at nxt
          exact nxt
  exact ⟨17, a 17 0 (by omega) (by omega)⟩
theorem xd_par {i : Nat} (h : i < 2 ^ 31) : (nI i &&& 1 = 0) ↔ i % 2 = 0 := by
  have e : nI i &&& 1 = nI (i % 2) := by
    show nI i &&& nI 1 = _
    rw [nx_and, Nat.and_one_is_mod]
  rw [e, bi_z (by omega)]
theorem xd_even {post : Int32 → Prop} (g : cx_G n L A B) (hX : cx_X L A B en) {p : Nat} (p8 : p < 8) (k : post (nI (pv_ev (fun s => sp_w A B L s 16) (2 ^ p) 7))) : wpX_evenPoints post (nI n, nI L, vm, vr, vb, vh, en, od, lw, fr, cy, nx, rt, tb) (nI (2 ^ p)) := by
  have lb := pv_lyB g (us := L) (fun _ _ h => h) p8
  have a : ∀ f i, 7 < f + i → i ≤ 7 → wX_evenPoints_7 post (nI n) (nI L) vm vr vb vh en od lw fr cy nx rt tb f (nI (pv_ev (fun s => sp_w A B L s 16) (2 ^ p) i)) (nI (pv_ly A B L i p)) (nI (i + 1)) := by
    intro f
    induction f with
    | zero => intro i h h'; omega
    | succ f ih =>
      intro i h h'
      rw [wX_evenPoints_7]
      by_cases e : i = 7
      · subst e
        exact br_t (nI_le (a := 8) (b := 8) (by omega) (by omega)) k
      · have nxt := ih (i + 1) (by omega) (by omega)
        refine br_f (nI_ge (a := i + 1) (b := 8) (by omega) (by omega)) ?_
        refine xd_widen g hX (fun _ _ h => h) g.2.1 (lb i) ?_
        refine ek_if (xd_par (by omega)) (fun w => ?_) (fun w => nm_r (nI_1 (i + 1)) ?_)
        · rw [pv_evP w] at nxt
          exact nm_r (by rw [bi_not, bi_or]; rfl) (nm_r (nI_1 (i + 1)) nxt)
        · rw [pv_evN w] at nxt
          exact nxt
  exact ⟨8, a 8 0 (by omega) (by omega)⟩
theorem xd_sides {post : Int32 → Prop} (g : cx_G n L A B) (hX : cx_X L A B en) (k1 : (∀ k, k < 16 → L.testBit k = true → ¬ ((pv_sd (fun p => pv_ev (fun s => sp_w A B L s 16) (2 ^ p) 7) (fun p => sp_X A B L (2 ^ n - 1) (2 ^ p)) n).1.testBit (A k) = true ↔ (pv_sd (fun p => pv_ev (fun s => sp_w A B L s 16) (2 ^ p) 7) (fun p => sp_X A B L (2 ^ n - 1) (2 ^ p)) n).1.testBit (B k) = true)) → post (nI (pv_sd (fun p => pv_ev (fun s => sp_w A B L s 16) (2 ^ p) 7) (fun p => sp_X A B L (2 ^ n - 1) (2 ^ p)) n).1))
    (k0 : ¬ (∀ k, k < 16 → L.testBit k = true → ¬ ((pv_sd (fun p => pv_ev (fun s => sp_w A B L s 16) (2 ^ p) 7) (fun p => sp_X A B L (2 ^ n - 1) (2 ^ p)) n).1.testBit (A k) = true ↔ (pv_sd (fun p => pv_ev (fun s => sp_w A B L s 16) (2 ^ p) 7) (fun p => sp_X A B L (2 ^ n - 1) (2 ^ p)) n).1.testBit (B k) = true)) → post (-3)) : wpX_sides post (nI n, nI L, vm, vr, vb, vh, en, od, lw, fr, cy, nx, rt, tb) := by
  have n8 := g.1.2
  have a8 := pv_a8 n8
  have sb : ∀ p, p ≤ n → (pv_sd (fun p => pv_ev (fun s => sp_w A B L s 16) (2 ^ p) 7) (fun p => sp_X A B L (2 ^ n - 1) (2 ^ p)) p).1 < 256 ∧ (pv_sd (fun p => pv_ev (fun s => sp_w A B L s 16) (2 ^ p) 7) (fun p => sp_X A B L (2 ^ n - 1) (2 ^ p)) p).2 < 256 := by
    intro p
    induction p with
    | zero => intro _; exact ⟨by show 0 < 256; omega, by show 0 < 256; omega⟩
    | succ p ih =>
      intro hp
      have ih := ih (by omega)
      by_cases c : (pv_sd (fun p => pv_ev (fun s => sp_w A B L s 16) (2 ^ p) 7) (fun p => sp_X A B L (2 ^ n - 1) (2 ^ p)) p).2.testBit p = true
      · rw [pv_sdP c]; exact ih
      · rw [pv_sdN c]
        exact ⟨Nat.or_lt_two_pow (n := 8) ih.1 (pv_evB (n := 8) (pv_lyB g (us := L) (fun _ _ h => h) (show p < 8 by omega)) 7), Nat.or_lt_two_pow (n := 8) ih.2 (sp_XB a8)⟩
  unfold wpX_sides
  dsimp only
  refine xl_all n8 ?_
  refine ⟨n + 1, ?_⟩
  have a : ∀ f p, n < f + p → p ≤ n → wX_sides_12 post (nI (2 ^ n - 1)) (nI n) (nI L) vm vr vb vh en od lw fr cy nx rt tb f (nI (pv_sd (fun p => pv_ev (fun s => sp_w A B L s 16) (2 ^ p) 7) (fun p => sp_X A B L (2 ^ n - 1) (2 ^ p)) p).1) (nI (pv_sd (fun p => pv_ev (fun s => sp_w A B L s 16) (2 ^ p) 7) (fun p => sp_X A B L (2 ^ n - 1) (2 ^ p)) p).2) (nI p) := by
    intro f
    induction f with
    | zero => intro p h h'; omega
    | succ f ih =>
      intro p h h'
      have sp := sb p h'
      rw [wX_sides_12]
      by_cases e : p = n
      · subst e
        refine br_t (nI_le (by omega) (by omega)) ?_
        refine xl_cross g hX sp.1 a8 ?_
        have xl := pv_xL A B L (pv_sd (fun p => pv_ev (fun s => sp_w A B L s 16) (2 ^ p) 7) (fun q => sp_X A B L (2 ^ p - 1) (2 ^ q)) p).1 (2 ^ p - 1)
        have L16 := g.2.1
        refine ek_if (d := ∀ k, k < 16 → L.testBit k = true → ¬ ((pv_sd (fun p => pv_ev (fun s => sp_w A B L s 16) (2 ^ p) 7) (fun q => sp_X A B L (2 ^ p - 1) (2 ^ q)) p).1.testBit (A k) = true ↔ (pv_sd (fun p => pv_ev (fun s => sp_w A B L s 16) (2 ^ p) 7) (fun q => sp_X A B L (2 ^ p - 1) (2 ^ q)) p).1.testBit (B k) = true)) (by rw [nI_eq (by omega) (by omega)]; exact pv_sdL g) k1 k0
      · have nxt := ih (p + 1) (by omega) (by omega)
        refine br_f (nI_ge (by omega) (by omega)) (ek_if (bi_b0 (by omega) (by omega)) (fun u => ?_) (fun u => nm_r (nI_1 p) ?_))
        · rw [pv_sdN u] at nxt
          rw [bi_1 (by omega)]
          refine xd_even g hX (by omega) ?_
          refine nm_r (bi_or _ _) ?_
          refine xl_spread g hX (fun _ _ h => h) g.2.1 a8 ?_
          exact nm_r (bi_or _ _) (nm_r (nI_1 p) nxt)
        · rw [pv_sdP (Classical.byContradiction u)] at nxt
          exact nxt
  exact a (n + 1) 0 (by omega) (by omega)
end

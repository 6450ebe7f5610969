/-! X: the small methods, spread, the count of groups -/
def cx_X (L : Nat) (A B : Nat → Nat) (en : Nat → Int32) : Prop := ∀ k, k < 16 → L.testBit k = true → en k = nI (bi_e (A k) (B k))
theorem cx_e8 {n L : Nat} {A B : Nat → Nat} (g : cx_G n L A B) {k : Nat} (hk : k < 16) (h : L.testBit k = true) : bi_e (A k) (B k) < 256 := by
  obtain ⟨h1, h2, _⟩ := g.2.2 k hk h
  have n8 := g.1.2
  exact Nat.or_lt_two_pow (n := 8) (Nat.pow_lt_pow_right (by omega) (by omega)) (Nat.pow_lt_pow_right (by omega) (by omega))
theorem sp_xB {A B : Nat → Nat} {us kp r : Nat} (hk : kp < 256) (hr : r < 256) : ∀ i, sp_x A B us kp i r < 256 := by
  intro i
  induction i with
  | zero => exact hr
  | succ i ih =>
    unfold sp_x
    split
    · rename_i q
      obtain ⟨q1, q2⟩ := (bi_ed0 _ _ _).mp q.1.2
      exact Nat.or_lt_two_pow (n := 8) ih (Nat.or_lt_two_pow (n := 8) (Nat.pow_lt_pow_right (by omega) (pv_lt (n := 8) hk q1)) (Nat.pow_lt_pow_right (by omega) (pv_lt (n := 8) hk q2)))
    · exact ih
theorem sp_itB {A B : Nat → Nat} {us kp r : Nat} (hk : kp < 256) (hr : r < 256) : ∀ i, gr_it (sp_x A B us kp 16) i r < 256 := by
  intro i
  induction i with
  | zero => exact hr
  | succ i ih => exact sp_xB hk ih 16
theorem sp_XB {A B : Nat → Nat} {us kp st : Nat} (hk : kp < 256) : sp_X A B us kp st < 256 := sp_itB hk (Nat.and_lt_two_pow (n := 8) st hk) 7
theorem sp_xP {A B : Nat → Nat} {us kp i r : Nat} (h : (us.testBit i = true ∧ bi_d (bi_e (A i) (B i)) kp = 0) ∧ bi_e (A i) (B i) &&& sp_x A B us kp i r ≠ 0) : sp_x A B us kp (i + 1) r = sp_x A B us kp i r ||| bi_e (A i) (B i) := by
  show (if _ then _ else _) = _
  rw [if_pos h]
theorem sp_xN {A B : Nat → Nat} {us kp i r : Nat} (h : ¬ ((us.testBit i = true ∧ bi_d (bi_e (A i) (B i)) kp = 0) ∧ bi_e (A i) (B i) &&& sp_x A B us kp i r ≠ 0)) : sp_x A B us kp (i + 1) r = sp_x A B us kp i r := by
  show (if _ then _ else _) = _
  rw [if_neg h]
theorem xl_lowest {post : Int32 → Prop} {s i : Nat} (hs : s < 2 ^ 31) (hi : i < 8) (h1 : s.testBit i = true) (h2 : ∀ j, j < i → ¬ s.testBit j = true) (k : post (nI i)) : wpX_lowest post (nI s) := by
  have a : ∀ f j, 8 < f + j → j ≤ i → wX_lowest_2 post (nI s) f (nI j) := by
    intro f
    induction f with
    | zero => intro j h h'; omega
    | succ f ih =>
      intro j h h'
      rw [wX_lowest_2]
      refine br_f (nI_ge (b := 8) (by omega) (by omega)) ?_
      by_cases e : j = i
      · subst e
        exact br_t ((bi_b1 hs (by omega)).mpr h1) k
      · exact br_f (fun q => h2 j (by omega) ((bi_b1 hs (by omega)).mp q)) (nm_r (nI_1 j) (ih (j + 1) (by omega) (by omega)))
  exact ⟨9, a 9 0 (by omega) (by omega)⟩
theorem xl_engine {post : Int32 → Prop} {x : Int32} (h1 : x = 0 ∨ x = 1 ∨ x = 2 → post 1) (h0 : ¬ (x = 0 ∨ x = 1 ∨ x = 2) → post 0) : wpX_isEngine post x := by
  by_cases a : x = 0
  · exact br_t a (h1 (Or.inl a))
  · by_cases b : x = 1
    · exact br_f a (br_t b (h1 (Or.inr (Or.inl b))))
    · by_cases c : x = 2
      · exact br_f a (br_f b (br_t c (h1 (Or.inr (Or.inr c)))))
      · exact br_f a (br_f b (br_f c (h0 (fun q => q.elim a (fun q => q.elim b c)))))
theorem xl_bits {post : Int32 → Prop} {s : Nat} (hs : s < 2 ^ 31) (k : post (nI (pv_o s))) : wpX_countBits post (nI s) := by
  have a : ∀ f i, 16 < f + i → i ≤ 16 → wX_countBits_4 post (nI s) f (nI (pv_c (fun k => s.testBit k = true) i)) (nI i) := by
    intro f
    induction f with
    | zero => intro i h h'; omega
    | succ f ih =>
      intro i h h'
      rw [wX_countBits_4]
      by_cases e : i = 16
      · subst e
        exact br_t (nI_le (b := 16) (by omega) (by omega)) k
      · refine br_f (nI_ge (b := 16) (by omega) (by omega)) (nm_r (e' := nI (pv_c (fun k => s.testBit k = true) (i + 1))) ?_ (nm_r (nI_1 i) (ih (i + 1) (by omega) (by omega))))
        rw [bi_bit hs (by omega)]
        by_cases c : s.testBit i = true
        · rw [if_pos c, pv_cP (P := fun k => s.testBit k = true) c]
          exact nI_1 _
        · rw [if_neg c, pv_cN (P := fun k => s.testBit k = true) c]
          exact Int32.add_zero _
  exact ⟨17, a 17 0 (by omega) (by omega)⟩
section
variable {n L : Nat} {A B : Nat → Nat} {vm vr vb vh : Int32} {en od lw fr cy nx rt : Nat → Int32} {tb : Nat → Int64}
theorem xl_lineN {post : Int32 → Prop} {j : Nat} (hL : L < 65536) (hj : j < 16) (h1 : L.testBit j = true → post 1) (h0 : ¬ L.testBit j = true → post 0) : wpX_isLine post (nI n, nI L, vm, vr, vb, vh, en, od, lw, fr, cy, nx, rt, tb) (nI j) :=
  br_f (nI_pos (by omega)) (br_f (nI_ge (b := 16) hj (by omega)) (ek_if (bi_b1 (by omega) (by omega)) h1 h0))
theorem xl_line {post : Int32 → Prop} {x : Int32} (hL : L < 65536) (h1 : ∀ j, j < 16 → x = nI j → L.testBit j = true → post 1) (h0 : (∀ j, j < 16 → x = nI j → ¬ L.testBit j = true) → post 0) : wpX_isLine post (nI n, nI L, vm, vr, vb, vh, en, od, lw, fr, cy, nx, rt, tb) x := by
  rcases pk_ix x (n := 16) (by omega) with h | h | ⟨j, hj, rfl⟩
  · exact br_t h (h0 (fun j hj e => absurd h (by rw [e]; exact nI_pos (by omega))))
  · have q : ¬ x < 0 := by
      intro q
      have : (nI 16) < 0 := Int32.lt_of_le_of_lt h q
      exact absurd this (by decide)
    exact br_f q (br_t h (h0 (fun j hj e => absurd h (by rw [e]; exact nI_ge hj (by omega)))))
  · exact xl_lineN hL hj (h1 j hj rfl) (fun w => h0 (fun i hi e => by rw [← (nI_eq (by omega) (by omega)).mp e]; exact w))
theorem xl_point {post : Int32 → Prop} {x : Int32} (hn : n ≤ 8) (h1 : ∀ j, j < n → x = nI j → post 1) (h0 : (∀ j, j < n → ¬ x = nI j) → post 0) : wpX_isPoint post (nI n, nI L, vm, vr, vb, vh, en, od, lw, fr, cy, nx, rt, tb) x := by
  rcases pk_ix x (n := n) (by omega) with h | h | ⟨j, hj, rfl⟩
  · exact br_t h (h0 (fun j hj e => absurd h (by rw [e]; exact nI_pos (by omega))))
  · by_cases q : x < 0
    · exact br_t q (h0 (fun j hj e => absurd q (by rw [e]; exact nI_pos (by omega))))
    · exact br_f q (br_t h (h0 (fun j hj e => absurd h (by rw [e]; exact nI_ge hj (by omega)))))
  · exact br_f (nI_pos (by omega)) (br_f (nI_ge hj (by omega)) (h1 j hj rfl))
theorem xl_all {post : Int32 → Prop} (hn : n ≤ 8) (k : post (nI (2 ^ n - 1))) : wpX_allPoints post (nI n, nI L, vm, vr, vb, vh, en, od, lw, fr, cy, nx, rt, tb) := by
  show post (((1 : Int32) <<< (nI n &&& 31)) - 1)
  rw [bi_all (by omega)]
  exact k
theorem xs_18 {post : Int32 → Prop} {J8 : Int32 → Int32 → Prop} (g : cx_G n L A B) (hX : cx_X L A B en) {us kp : Nat} {x5 : Int32} (hu : ∀ k, k < 16 → us.testBit k = true → L.testBit k = true) (u16 : us < 65536) (k8 : kp < 256) {r : Nat} (r8 : r < 256) (k : J8 (nI (sp_x A B us kp 16 r)) (x5 + 1)) : ∀ f i, 16 < f + i → i ≤ 16 → wX_spread_18 post J8 (nI kp) (nI us) x5 (nI n) (nI L) vm vr vb vh en od lw fr cy nx rt tb f (nI (sp_x A B us kp i r)) (nI i) := by
  intro f
  induction f with
  | zero => intro i h h'; omega
  | succ f ih =>
    intro i h h'
    rw [wX_spread_18]
    by_cases e : i = 16
    · subst e
      exact br_t (nI_le (b := 16) (by omega) (by omega)) (nm_e k)
    · have i16 : i < 16 := by omega
      have c : (nI i).toNatClampNeg = i := nI_clamp (by omega)
      have v : vp_in (nI i) 16 := vp_in_nI i16 (by omega)
      have sb := sp_xB (A := A) (B := B) (us := us) k8 r8 i
      have nxt : ∀ s, sp_x A B us kp (i + 1) r = s → wX_spread_18 post J8 (nI kp) (nI us) x5 (nI n) (nI L) vm vr vb vh en od lw fr cy nx rt tb f (nI s) (nI (i + 1)) := by
        intro s es
        rw [← es]
        exact ih (i + 1) (by omega) (by omega)
      refine br_f (nI_ge (b := 16) (by omega) (by omega)) (ek_if (bi_b1 (by omega) (by omega)) (fun u => ?_) (fun u => ?_))
      · have ei := hX i i16 (hu i i16 u)
        have e8 := cx_e8 g i16 (hu i i16 u)
        refine ⟨v, ek_if (d := bi_d (bi_e (A i) (B i)) kp = 0) (by rw [c, ei, bi_not, bi_z (Nat.lt_trans (bi_dlt (n := 8) e8) (by omega))]) (fun q => ?_) (fun q => ?_)⟩
        · refine br_f (by decide) ⟨v, ek_if (d := bi_e (A i) (B i) &&& sp_x A B us kp i r = 0) (by rw [c, ei, nx_and, bi_z (Nat.lt_trans (Nat.and_lt_two_pow (n := 8) _ sb) (by omega))]) (fun w => ?_) (fun w => ?_)⟩
          · exact nm_r (nI_1 i) (nxt _ (sp_xN (fun z => z.2 w)))
          · exact ⟨v, nm_r (by rw [c, ei, bi_or]) (nm_r (nI_1 i) (nxt _ (sp_xP ⟨⟨u, q⟩, w⟩)))⟩
        · exact br_t rfl (nm_r (nI_1 i) (nxt _ (sp_xN (fun z => q z.1.2))))
      · exact br_t rfl (nm_r (nI_1 i) (nxt _ (sp_xN (fun z => u z.1.1))))
theorem xl_spread {post : Int32 → Prop} (g : cx_G n L A B) (hX : cx_X L A B en) {st kp us : Nat} (hu : ∀ k, k < 16 → us.testBit k = true → L.testBit k = true) (u16 : us < 65536) (k8 : kp < 256) (k : post (nI (sp_X A B us kp st))) : wpX_spread post (nI n, nI L, vm, vr, vb, vh, en, od, lw, fr, cy, nx, rt, tb) (nI st) (nI kp) (nI us) := by
  have r8 : st &&& kp < 256 := Nat.and_lt_two_pow (n := 8) st k8
  have a : ∀ f i, 7 < f + i → i ≤ 7 → wX_spread_8 post (nI kp) (nI us) (nI n) (nI L) vm vr vb vh en od lw fr cy nx rt tb f (nI (gr_it (sp_x A B us kp 16) i (st &&& kp))) (nI (i + 1)) := by
    intro f
    induction f with
    | zero => intro i h h'; omega
    | succ f ih =>
      intro i h h'
      rw [wX_spread_8]
      by_cases e : i = 7
      · subst e
        exact br_t (nI_le (a := 8) (b := 8) (by omega) (by omega)) k
      · refine br_f (nI_ge (a := i + 1) (b := 8) (by omega) (by omega)) ⟨17, xs_18 g hX hu u16 k8 (sp_itB k8 r8 i) ?_ 17 0 (by omega) (by omega)⟩
        rw [nI_1 (i + 1)]
        exact ih (i + 1) (by omega) (by omega)
  exact nm_r (nx_and st kp) ⟨8, a 8 0 (by omega) (by omega)⟩
theorem gc_P {cl : Nat → Nat} {kp p : Nat} (h : (gc_s cl kp p).1.testBit p = true) : gc_s cl kp (p + 1) = (bi_d (gc_s cl kp p).1 (cl p), (gc_s cl kp p).2 + 1) := by
  show (if _ then _ else _) = _
  rw [if_pos h]
theorem gc_N {cl : Nat → Nat} {kp p : Nat} (h : ¬ (gc_s cl kp p).1.testBit p = true) : gc_s cl kp (p + 1) = gc_s cl kp p := by
  show (if _ then _ else _) = _
  rw [if_neg h]
theorem gc_B {cl : Nat → Nat} {kp : Nat} (h : kp < 256) : ∀ p, (gc_s cl kp p).1 < 256 := by
  intro p
  induction p with
  | zero => exact h
  | succ p ih =>
    by_cases c : (gc_s cl kp p).1.testBit p = true
    · rw [gc_P c]; exact bi_dlt (n := 8) ih
    · rw [gc_N c]; exact ih
theorem xl_count {post : Int32 → Prop} (g : cx_G n L A B) (hX : cx_X L A B en) {kp us : Nat} (hu : ∀ k, k < 16 → us.testBit k = true → L.testBit k = true) (u16 : us < 65536) (k8 : kp < 256) (k : post (nI (pv_g A B us kp))) : wpX_countGroups post (nI n, nI L, vm, vr, vb, vh, en, od, lw, fr, cy, nx, rt, tb) (nI kp) (nI us) := by
  have a : ∀ f p, 8 < f + p → p ≤ 8 → wX_countGroups_8 post (nI kp) (nI us) (nI n) (nI L) vm vr vb vh en od lw fr cy nx rt tb f (nI (gc_s (fun p => sp_X A B us kp (2 ^ p)) kp p).2) (nI (gc_s (fun p => sp_X A B us kp (2 ^ p)) kp p).1) (nI p) := by
    intro f
    induction f with
    | zero => intro p h h'; omega
    | succ f ih =>
      intro p h h'
      rw [wX_countGroups_8]
      by_cases e : p = 8
      · subst e
        exact br_t (nI_le (b := 8) (by omega) (by omega)) k
      · have b8 := gc_B (cl := fun p => sp_X A B us kp (2 ^ p)) k8 p
        refine br_f (nI_ge (b := 8) (by omega) (by omega)) (ek_if (bi_b1 (by omega) (by omega)) (fun u => ?_) (fun u => ?_))
        · rw [bi_1 (by omega)]
          refine xl_spread g hX hu u16 k8 (nm_r (bi_not _ _) (nm_r (nI_1 _) (nm_r (nI_1 p) ?_)))
          have := ih (p + 1) (by omega) (by omega)
          rw [gc_P u] at this
          exact this
        · refine nm_r (nI_1 p) ?_
          have := ih (p + 1) (by omega) (by omega)
          rw [gc_N u] at this
          exact this
  exact ⟨9, a 9 0 (by omega) (by omega)⟩
theorem cx_dL {L k : Nat} : ∀ j, j < 16 → (bi_d L (2 ^ k)).testBit j = true → L.testBit j = true := fun j _ h => ((pv_dT _ _ _).mp h).1
theorem xl_flB {post : Int32 → Prop} (g : cx_G n L A B) (hX : cx_X L A B en) (k : post (nI (pv_b A B n L))) : wpX_floodBridges post (nI n, nI L, vm, vr, vb, vh, en, od, lw, fr, cy, nx, rt, tb) := by
  have a8 := pv_a8 g.1.2
  have L16 := g.2.1
  unfold wpX_floodBridges
  dsimp only
  refine xl_all g.1.2 ?_
  refine xl_count g hX (fun _ _ h => h) L16 a8 ?_
  refine ⟨17, ?_⟩
  have a : ∀ f i, 16 < f + i → i ≤ 16 → wX_floodBridges_20 post (nI (2 ^ n - 1)) (nI (pv_g A B L (2 ^ n - 1))) (nI n) (nI L) vm vr vb vh en od lw fr cy nx rt tb f (nI (pv_m (fun k => L.testBit k = true ∧ pv_g A B L (2 ^ n - 1) < pv_g A B (bi_d L (2 ^ k)) (2 ^ n - 1)) i)) (nI i) := by
    intro f
    induction f with
    | zero => intro i h h'; omega
    | succ f ih =>
      intro i h h'
      rw [wX_floodBridges_20]
      by_cases e : i = 16
      · subst e
        exact br_t (nI_le (b := 16) (by omega) (by omega)) k
      · have nxt := ih (i + 1) (by omega) (by omega)
        refine br_f (nI_ge (b := 16) (by omega) (by omega)) (xl_lineN L16 (by omega) (fun u => br_f (by decide) ?_) (fun u => br_t rfl (nm_r (nI_1 i) ?_)))
        · rw [bi_1 (by omega), bi_not]
          have g1 := pv_g8 A B (us := L) a8
          have g2 := pv_g8 A B (us := bi_d L (2 ^ i)) a8
          refine xl_count g hX cx_dL (bi_dlt (n := 16) L16) a8 (pk_le (pv_g A B (bi_d L (2 ^ i)) (2 ^ n - 1)) (pv_g A B L (2 ^ n - 1)) (fun w => nm_r (nI_1 i) ?_) (fun w => ?_))
          · rw [pv_mN (P := (fun k => L.testBit k = true ∧ pv_g A B L (2 ^ n - 1) < pv_g A B (bi_d L (2 ^ k)) (2 ^ n - 1))) (n := i) (fun z => absurd z.2 (Nat.not_lt.mpr w))] at nxt
            exact nxt
          · rw [pv_mP (P := (fun k => L.testBit k = true ∧ pv_g A B L (2 ^ n - 1) < pv_g A B (bi_d L (2 ^ k)) (2 ^ n - 1))) ⟨u, w⟩] at nxt
            exact nm_r (by first | rw [bi_1 (by omega), bi_or] | rw [bi_or]) (nm_r (nI_1 i) nxt)
        · rw [pv_mN (P := (fun k => L.testBit k = true ∧ pv_g A B L (2 ^ n - 1) < pv_g A B (bi_d L (2 ^ k)) (2 ^ n - 1))) (n := i) (fun z => u z.1)] at nxt
          exact nxt
  exact a 17 0 (by omega) (by omega)
theorem xl_flH {post : Int32 → Prop} (g : cx_G n L A B) (hX : cx_X L A B en) (k : post (nI (pv_h A B n L))) : wpX_floodHinges post (nI n, nI L, vm, vr, vb, vh, en, od, lw, fr, cy, nx, rt, tb) := by
  have a8 := pv_a8 g.1.2
  have n8 := g.1.2
  have L16 := g.2.1
  unfold wpX_floodHinges
  dsimp only
  refine xl_all g.1.2 ?_
  refine xl_count g hX (fun _ _ h => h) L16 a8 ?_
  refine ⟨n + 1, ?_⟩
  have a : ∀ f i, n < f + i → i ≤ n → wX_floodHinges_20 post (nI (2 ^ n - 1)) (nI (pv_g A B L (2 ^ n - 1))) (nI n) (nI L) vm vr vb vh en od lw fr cy nx rt tb f (nI (pv_m (fun p => pv_g A B L (2 ^ n - 1) < pv_g A B L (bi_d (2 ^ n - 1) (2 ^ p))) i)) (nI i) := by
    intro f
    induction f with
    | zero => intro i h h'; omega
    | succ f ih =>
      intro i h h'
      rw [wX_floodHinges_20]
      by_cases e : i = n
      · subst e
        exact br_t (nI_le (by omega) (by omega)) k
      · have nxt := ih (i + 1) (by omega) (by omega)
        refine br_f (nI_ge (by omega) (by omega)) ?_
        rw [bi_1 (by omega), bi_not]
        have g1 := pv_g8 A B (us := L) a8
        have b8 : bi_d (2 ^ n - 1) (2 ^ i) < 256 := bi_dlt (n := 8) a8
        have g2 := pv_g8 A B (us := L) b8
        refine xl_count g hX (fun _ _ h => h) L16 b8 (pk_le (pv_g A B L (bi_d (2 ^ n - 1) (2 ^ i))) (pv_g A B L (2 ^ n - 1)) (fun w => nm_r (nI_1 i) ?_) (fun w => ?_))
        · rw [pv_mN (P := (fun p => pv_g A B L (2 ^ n - 1) < pv_g A B L (bi_d (2 ^ n - 1) (2 ^ p)))) (n := i) (Nat.not_lt.mpr w)] at nxt
          exact nxt
        · rw [pv_mP (P := fun p => pv_g A B L (2 ^ n - 1) < pv_g A B L (bi_d (2 ^ n - 1) (2 ^ p))) w] at nxt
          exact nm_r (by first | rw [bi_1 (by omega), bi_or] | rw [bi_or]) (nm_r (nI_1 i) nxt)
  exact a (n + 1) 0 (by omega) (by omega)
end

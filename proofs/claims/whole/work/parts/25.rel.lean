/-! the relation, and what is owed -/
def i_Rel (_ : Nat) (u : SX) (v : SY) : Prop := ∃ (n L : Nat) (A B : Nat → Nat) (vm vr vb vh : Int32) (en od lw fr cy nx rt : Nat → Int32) (tb : Nat → Int64) (th ya yb : Nat → Int32), u = (nI n, nI L, vm, vr, vb, vh, en, od, lw, fr, cy, nx, rt, tb) ∧ v = (nI n, th, ya, yb) ∧ cx_G n L A B ∧ cx_X L A B en ∧ cx_Y L A B th ya yb
theorem rl_mk {k n L : Nat} {A B : Nat → Nat} {vm vr vb vh : Int32} {en od lw fr cy nx rt : Nat → Int32} {tb : Nat → Int64} {th ya yb : Nat → Int32} (g : cx_G n L A B) (hX : cx_X L A B en) (hY : cx_Y L A B th ya yb) : i_Rel k (nI n, nI L, vm, vr, vb, vh, en, od, lw, fr, cy, nx, rt, tb) (nI n, th, ya, yb) := ⟨n, L, A, B, vm, vr, vb, vh, en, od, lw, fr, cy, nx, rt, tb, th, ya, yb, rfl, rfl, g, hX, hY⟩
theorem i_up {k : Nat} {u : SX} {v : SY} (h : i_Rel k u v) : i_Rel (k + 3) u v := h
theorem rl_0 (A B : Nat → Nat) {n : Nat} (h1 : 1 ≤ n) (h8 : n ≤ 8) : cx_G n 0 A B := ⟨⟨h1, h8⟩, by omega, fun k _ h => absurd h (by rw [Nat.zero_testBit]; exact fun q => by cases q)⟩
theorem rl_X0 (A B : Nat → Nat) (en : Nat → Int32) : cx_X 0 A B en := fun k _ h => absurd h (by rw [Nat.zero_testBit]; exact fun q => by cases q)
theorem rl_Y0 (A B : Nat → Nat) {th ya yb : Nat → Int32} (h : ∀ q, q < 16 → th q = 0) : cx_Y 0 A B th ya yb := fun k hk => ⟨by
  rw [h k hk, if_neg (by rw [Nat.zero_testBit]; exact fun q => by cases q)], fun h => absurd h (by rw [Nat.zero_testBit]; exact fun q => by cases q)⟩
theorem i_vc0 : wpX_init (fun u => wpY_init (fun v => i_Rel 0 u v)) := rl_mk (k := 0) (n := 1) (L := 0) (rl_0 (fun _ => 0) (fun _ => 0) (by omega) (by omega)) (rl_X0 _ _ _) (rl_Y0 _ _ (fun _ _ => rfl))
theorem rl_vb0 : vp_nar .boolean 0 = 0 := by decide
theorem rl_vb1 : vp_nar .boolean 1 = 1 := by decide
theorem i_vc_begin {k : Nat} {u : SX} {v : SY} (I : i_Rel k u v) (hk : k + 3 ≤ 1536) (v1 : Int32) : wpX_begin (fun r u' => wpY_begin (fun r' v' => r' = r ∧ i_Rel (k + 3) u' v') v v1) u v1 := by
  obtain ⟨n, L, A, B, vm, vr, vb, vh, en, od, lw, fr, cy, nx, rt, tb, th, ya, yb, rfl, rfl, g, hX, hY⟩ := I
  by_cases h1 : v1 < 1
  · exact br_t h1 (br_t h1 ⟨rfl, rl_mk g hX hY⟩)
  · by_cases h8 : v1 ≤ 8
    · have h0 : ¬ v1 < 0 := fun q => h1 (Int32.lt_trans q (by decide))
      obtain ⟨m, m8, rfl⟩ := nI_of2 (M := 8) (n := 8) (by decide) h0 h8
      have m1 : 1 ≤ m := by
        apply Classical.byContradiction
        intro q
        obtain rfl : m = 0 := by omega
        exact h1 (by decide)
      refine br_f h1 (br_t h8 (br_f h1 (br_t h8 ⟨17, ?_⟩)))
      have a : ∀ (f i : Nat) (th : Nat → Int32), 16 < f + i → i ≤ 16 → (∀ q, q < i → th q = 0) → wY_begin_20 (fun r' v' => r' = 1 ∧ i_Rel (k + 3) (nI m, 0, vm, vr, vb, vh, en, od, lw, fr, cy, nx, rt, tb) v') (nI m) f (nI i) th ya yb := by
        intro f
        induction f with
        | zero => intro i th h h'; omega
        | succ f ih =>
          intro i th h h' hz
          rw [wY_begin_20]
          by_cases e : i = 16
          · subst e
            exact br_t (nI_le (b := 16) (by omega) (by omega)) ⟨rfl, rl_mk (L := 0) (rl_0 A B m1 m8) (rl_X0 _ _ _) (rl_Y0 _ _ hz)⟩
          · have c : (nI i).toNatClampNeg = i := nI_clamp (by omega)
            refine br_f (nI_ge (b := 16) (by omega) (by omega)) ⟨vp_in_nI (by omega) (by omega), nm_e (nm_r (nI_1 i) (ih (i + 1) _ (by omega) (by omega) (fun q hq => ?_)))⟩
            rw [c, rl_vb0]
            by_cases w : q = i
            · rw [w, pk_us]
            · rw [pk_un w]; exact hz q (by omega)
      exact a 17 0 th (by omega) (by omega) (fun q hq => by omega)
    · exact br_f h1 (br_f h8 (br_f h1 (br_f h8 ⟨rfl, rl_mk g hX hY⟩)))
section
variable {n L : Nat} {A B : Nat → Nat} {vm vr vb vh : Int32} {en od lw fr cy nx rt : Nat → Int32} {tb : Nat → Int64} {th ya yb : Nat → Int32}
theorem rl_xadd {post : Int32 → SX → Prop} (L16 : L < 65536) {a b q : Nat} (a8 : a < 8) (b8 : b < 8) (q16 : q < 16) (hq : ¬ L.testBit q = true) (hj : ∀ j, j < q → L.testBit j = true) (k : post (nI q) (nI n, nI (L ||| 2 ^ q), vm, vr, vb, vh, upd en q (nI (bi_e a b)), od, lw, fr, cy, nx, rt, tb)) : ∀ f i, 16 < f + i → i ≤ q → wX_add_25 post (nI a) (nI b) (nI n) (nI L) vm vr vb vh en od lw fr cy nx rt tb f (nI i) := by
  intro f
  induction f with
  | zero => intro i h h'; omega
  | succ f ih =>
    intro i h h'
    have c : (nI i).toNatClampNeg = i := nI_clamp (by omega)
    rw [wX_add_25]
    refine br_f (nI_ge (b := 16) (by omega) (by omega)) (xl_lineN L16 (by omega) (fun u => br_f (by decide) (nm_r (nI_1 i) (ih (i + 1) (by omega) ?_))) (fun u => br_t rfl ⟨vp_in_nI (by omega) (by omega), ?_⟩))
    · apply Classical.byContradiction
      intro w
      have : i = q := by omega
      rw [this] at u
      exact hq u
    · have e : i = q := by
        apply Classical.byContradiction
        intro w
        exact u (hj i (by omega))
      subst e
      exact nm_r (e' := upd en i (nI (bi_e a b))) (by rw [c, bi_1 (by omega), bi_1 (by omega), bi_or]; rfl) (nm_r (e' := nI (L ||| 2 ^ i)) (by rw [bi_1 (by omega), bi_or]) k)
theorem rl_xfull {post : Int32 → SX → Prop} (L16 : L < 65536) {x y : Int32} (hj : ∀ j, j < 16 → L.testBit j = true) (k : post (-2) (nI n, nI L, vm, vr, vb, vh, en, od, lw, fr, cy, nx, rt, tb)) : ∀ f i, 16 < f + i → i ≤ 16 → wX_add_25 post x y (nI n) (nI L) vm vr vb vh en od lw fr cy nx rt tb f (nI i) := by
  intro f
  induction f with
  | zero => intro i h h'; omega
  | succ f ih =>
    intro i h h'
    rw [wX_add_25]
    by_cases e : i = 16
    · subst e
      exact br_t (nI_le (b := 16) (by omega) (by omega)) k
    · exact br_f (nI_ge (b := 16) (by omega) (by omega)) (xl_lineN L16 (by omega) (fun u => br_f (by decide) (nm_r (nI_1 i) (ih (i + 1) (by omega) (by omega)))) (fun u => absurd (hj i (by omega)) u))
theorem rl_yadd {post : Int32 → SY → Prop} (hY : cx_Y L A B th ya yb) {x y : Int32} {q : Nat} (q16 : q < 16) (hq : ¬ L.testBit q = true) (hj : ∀ j, j < q → L.testBit j = true) (k : post (nI q) (nI n, upd th q 1, upd ya q x, upd yb q y)) : ∀ f i, 16 < f + i → i ≤ q → wY_add_25 post x y (nI n) th ya yb f (nI i) := by
  intro f
  induction f with
  | zero => intro i h h'; omega
  | succ f ih =>
    intro i h h'
    have c : (nI i).toNatClampNeg = i := nI_clamp (by omega)
    have v : vp_in (nI i) 16 := vp_in_nI (by omega) (by omega)
    rw [wY_add_25]
    refine br_f (nI_ge (b := 16) (by omega) (by omega)) ⟨v, ek_if (cx_th hY (by omega)) (fun u => ?_) (fun u => nm_r (nI_1 i) (ih (i + 1) (by omega) ?_))⟩
    · have e : i = q := by
        apply Classical.byContradiction
        intro w
        exact u (hj i (by omega))
      subst e
      rw [c, rl_vb1]
      exact ⟨v, nm_e ⟨v, nm_e ⟨v, nm_e k⟩⟩⟩
    · apply Classical.byContradiction
      intro w
      have : i = q := by omega
      rw [this] at u
      exact u hq
theorem rl_yfull {post : Int32 → SY → Prop} (hY : cx_Y L A B th ya yb) {x y : Int32} (hj : ∀ j, j < 16 → L.testBit j = true) (k : post (-2) (nI n, th, ya, yb)) : ∀ f i, 16 < f + i → i ≤ 16 → wY_add_25 post x y (nI n) th ya yb f (nI i) := by
  intro f
  induction f with
  | zero => intro i h h'; omega
  | succ f ih =>
    intro i h h'
    rw [wY_add_25]
    by_cases e : i = 16
    · subst e
      exact br_t (nI_le (b := 16) (by omega) (by omega)) k
    · exact br_f (nI_ge (b := 16) (by omega) (by omega)) ⟨vp_in_nI (by omega) (by omega), ek_if (cx_th hY (by omega)) (fun u => absurd (hj i (by omega)) u) (fun u => nm_r (nI_1 i) (ih (i + 1) (by omega) (by omega)))⟩
/-- a line more -/
theorem rl_more (g : cx_G n L A B) (hX : cx_X L A B en) (hY : cx_Y L A B th ya yb) {a b q : Nat} (an : a < n) (bn : b < n) (ab : a ≠ b) (q16 : q < 16) : cx_G n (L ||| 2 ^ q) (wk_u A q a) (wk_u B q b) ∧ cx_X (L ||| 2 ^ q) (wk_u A q a) (wk_u B q b) (upd en q (nI (bi_e a b))) ∧ cx_Y (L ||| 2 ^ q) (wk_u A q a) (wk_u B q b) (upd th q 1) (upd ya q (nI a)) (upd yb q (nI b)) := by
  have t : ∀ j, (L ||| 2 ^ q).testBit j = true ↔ (L.testBit j = true ∨ j = q) := by
    intro j
    rw [Nat.testBit_or, Bool.or_eq_true, pv_2p]
  refine ⟨⟨g.1, Nat.or_lt_two_pow (n := 16) g.2.1 (Nat.pow_lt_pow_right (by omega) q16), fun j hj h => ?_⟩, fun j hj h => ?_, fun j hj => ?_⟩
  · by_cases e : j = q
    · rw [e, wk_us, wk_us]
      exact ⟨an, bn, ab⟩
    · rw [wk_un A _ e, wk_un B _ e]
      exact g.2.2 j hj (((t j).mp h).elim id (fun w => absurd w e))
  · by_cases e : j = q
    · rw [e, wk_us, wk_us, pk_us]
    · rw [wk_un A _ e, wk_un B _ e, pk_un e]
      exact hX j hj (((t j).mp h).elim id (fun w => absurd w e))
  · by_cases e : j = q
    · rw [e, wk_us, wk_us, pk_us, pk_us, pk_us, if_pos ((t q).mpr (Or.inr rfl))]
      exact ⟨rfl, fun _ => ⟨rfl, rfl⟩⟩
    · rw [wk_un A _ e, wk_un B _ e, pk_un e, pk_un e, pk_un e]
      obtain ⟨y1, y2⟩ := hY j hj
      by_cases c : L.testBit j = true
      · rw [if_pos ((t j).mpr (Or.inl c)), y1, if_pos c]
        exact ⟨rfl, fun _ => y2 c⟩
      · have nc : ¬ (L ||| 2 ^ q).testBit j = true := fun w => ((t j).mp w).elim c e
        rw [if_neg nc, y1, if_neg c]
        exact ⟨rfl, fun w => absurd w nc⟩
/-- a line less -/
theorem rl_less (g : cx_G n L A B) (hX : cx_X L A B en) (hY : cx_Y L A B th ya yb) {q : Nat} : cx_G n (bi_d L (2 ^ q)) A B ∧ cx_X (bi_d L (2 ^ q)) A B en ∧ cx_Y (bi_d L (2 ^ q)) A B (upd th q 0) ya yb := by
  refine ⟨⟨g.1, bi_dlt (n := 16) g.2.1, fun j hj h => g.2.2 j hj (cx_dL j hj h)⟩, fun j hj h => hX j hj (cx_dL j hj h), fun j hj => ?_⟩
  obtain ⟨y1, y2⟩ := hY j hj
  refine ⟨?_, fun h => y2 (cx_dL j hj h)⟩
  by_cases e : j = q
  · rw [e, pk_us, if_neg (fun w => ((pv_dT _ _ _).mp w).2 ((pv_2p q q).mpr rfl))]
  · rw [pk_un e, y1]
    by_cases c : L.testBit j = true
    · rw [if_pos c, if_pos ((pv_dT _ _ _).mpr ⟨c, fun w => e ((pv_2p q j).mp w)⟩)]
    · rw [if_neg c, if_neg (fun w => c ((pv_dT _ _ _).mp w).1)]
theorem rl_bl (g : cx_G n L A B) {k : Nat} : 2 ^ k ||| pv_m (yl_bl A B n L k) 16 = 2 ^ k ||| pv_m (xc_bl A B n L k) 16 := by
  have a8 := pv_a8 g.1.2
  apply pv_ext
  intro j
  rw [Nat.testBit_or, Nat.testBit_or, Bool.or_eq_true, Bool.or_eq_true, pv_2p, pv_mT, pv_mT]
  by_cases e : j = k
  · exact ⟨fun _ => Or.inl e, fun _ => Or.inl e⟩
  · constructor
    · rintro (h | ⟨h1, h2, h3, h4⟩)
      · exact Or.inl h
      · exact Or.inr ⟨h1, h2, fun p hp => (pv_bl (bi_dlt (n := 8) a8)).mpr (h4 p hp)⟩
    · rintro (h | ⟨h1, h2, h4⟩)
      · exact Or.inl h
      · exact Or.inr ⟨h1, h2, e, fun p hp => (pv_bl (bi_dlt (n := 8) a8)).mp (h4 p hp)⟩
end
theorem i_vc_add {k : Nat} {u : SX} {v : SY} (I : i_Rel k u v) (hk : k + 3 ≤ 1536) (v1 : Int32) (v2 : Int32) : wpX_add (fun r u' => wpY_add (fun r' v' => r' = r ∧ i_Rel (k + 3) u' v') v v1 v2) u v1 v2 := by
  obtain ⟨n, L, A, B, vm, vr, vb, vh, en, od, lw, fr, cy, nx, rt, tb, th, ya, yb, rfl, rfl, g, hX, hY⟩ := I
  have n8 := g.1.2
  unfold wpX_add wpY_add
  dsimp only
  refine xl_point n8 (fun a an ea => br_f (by decide) ?_) (fun h => br_t rfl (yl_point n8 (fun a an ea => absurd ea (h a an)) (fun _ => br_t rfl ⟨rfl, rl_mk g hX hY⟩)))
  refine xl_point n8 (fun b bn eb => br_f (by decide) ?_) (fun h => br_t rfl (yl_point n8 (fun _ _ _ => br_f (by decide) (yl_point n8 (fun b bn eb => absurd eb (h b bn)) (fun _ => br_t rfl ⟨rfl, rl_mk g hX hY⟩))) (fun h => absurd ea (h a an))))
  by_cases e : v1 = v2
  · exact br_t e (yl_point n8 (fun _ _ _ => br_f (by decide) (yl_point n8 (fun _ _ _ => br_f (by decide) (br_t e ⟨rfl, rl_mk g hX hY⟩)) (fun h => absurd eb (h b bn)))) (fun h => absurd ea (h a an)))
  · refine br_f e ?_
    have ab : a ≠ b := by
      intro q
      rw [ea, eb, q] at e
      exact e rfl
    by_cases fr' : ∃ q, q < 16 ∧ ¬ L.testBit q = true
    · obtain ⟨q0, q1, q2⟩ := fr'
      obtain ⟨q, _, q3, q4⟩ := gr_least (fun q => q < 16 ∧ ¬ L.testBit q = true) q0 ⟨q1, q2⟩
      have hj : ∀ j, j < q → L.testBit j = true := fun j hj => Classical.byContradiction (fun w => q4 j hj ⟨by have := q3.1; omega, w⟩)
      obtain ⟨m1, m2, m3⟩ := rl_more g hX hY an bn ab q3.1
      refine ⟨17, ?_⟩
      subst ea
      subst eb
      refine rl_xadd g.2.1 (by omega) (by omega) q3.1 q3.2 hj ?_ 17 0 (by omega) (by omega)
      exact yl_point n8 (fun _ _ _ => br_f (by decide) (yl_point n8 (fun _ _ _ => br_f (by decide) (br_f e ⟨17, rl_yadd hY q3.1 q3.2 hj ⟨rfl, rl_mk m1 m2 m3⟩ 17 0 (by omega) (by omega)⟩)) (fun h => absurd rfl (h b bn)))) (fun h => absurd rfl (h a an))
    · have hj : ∀ j, j < 16 → L.testBit j = true := fun j hj => Classical.byContradiction (fun w => fr' ⟨j, hj, w⟩)
      refine ⟨17, ?_⟩
      refine rl_xfull g.2.1 hj ?_ 17 0 (by omega) (by omega)
      exact yl_point n8 (fun _ _ _ => br_f (by decide) (yl_point n8 (fun _ _ _ => br_f (by decide) (br_f e ⟨17, rl_yfull hY hj ⟨rfl, rl_mk g hX hY⟩ 17 0 (by omega) (by omega)⟩)) (fun h => absurd eb (h b bn)))) (fun h => absurd ea (h a an))
theorem i_vc_remove {k : Nat} {u : SX} {v : SY} (I : i_Rel k u v) (hk : k + 3 ≤ 1536) (v1 : Int32) : wpX_remove (fun r u' => wpY_remove (fun r' v' => r' = r ∧ i_Rel (k + 3) u' v') v v1) u v1 := by
  obtain ⟨n, L, A, B, vm, vr, vb, vh, en, od, lw, fr, cy, nx, rt, tb, th, ya, yb, rfl, rfl, g, hX, hY⟩ := I
  unfold wpX_remove wpY_remove
  dsimp only
  refine xl_line g.2.1 (fun q hq eq lq => br_f (by decide) ?_) (fun h => br_t rfl (yl_is hY (fun q hq eq lq => absurd lq (h q hq eq)) (fun _ => br_t rfl ⟨rfl, rl_mk g hX hY⟩)))
  subst eq
  have c : (nI q).toNatClampNeg = q := nI_clamp (by omega)
  obtain ⟨m1, m2, m3⟩ := rl_less g hX hY (q := q)
  refine nm_r (e' := nI (bi_d L (2 ^ q))) (by rw [bi_1 (by omega), bi_not]) ?_
  refine yl_is hY (fun j hj ej lj => br_f (by decide) ⟨vp_in_nI hq (by omega), nm_r (e' := upd th q 0) (by rw [c, rl_vb0]) ⟨rfl, rl_mk m1 m2 m3⟩⟩) (fun h => absurd lq (h q hq rfl))
theorem i_vc_lines {k : Nat} {u : SX} {v : SY} (I : i_Rel k u v) (hk : k + 3 ≤ 1536) : wpX_lines (fun r => wpY_lines (fun r' => r' = r ∧ i_Rel (k + 3) u v) v) u := by
  obtain ⟨n, L, A, B, vm, vr, vb, vh, en, od, lw, fr, cy, nx, rt, tb, th, ya, yb, rfl, rfl, g, hX, hY⟩ := I
  unfold wpX_lines
  dsimp only
  exact yl_lines g hY ⟨rfl, rl_mk g hX hY⟩
theorem i_vc_groups {k : Nat} {u : SX} {v : SY} (I : i_Rel k u v) (hk : k + 3 ≤ 1536) (v1 : Int32) : wpX_groups (fun r u' => wpY_groups (fun r' => r' = r ∧ i_Rel (k + 3) u' v) v v1) u v1 := by
  obtain ⟨n, L, A, B, vm, vr, vb, vh, en, od, lw, fr, cy, nx, rt, tb, th, ya, yb, rfl, rfl, g, hX, hY⟩ := I
  refine xc_groups g hX ?_ ?_
  · intro hx vm vr vb vh od lw fr cy nx rt
    exact yl_groups g hY (fun _ => ⟨rfl, rl_mk g hX hY⟩) (fun h => absurd hx h)
  · intro hx
    exact yl_groups g hY (fun h => absurd h hx) (fun _ => ⟨rfl, rl_mk g hX hY⟩)
theorem i_vc_bridges {k : Nat} {u : SX} {v : SY} (I : i_Rel k u v) (hk : k + 3 ≤ 1536) (v1 : Int32) : wpX_bridges (fun r u' => wpY_bridges (fun r' => r' = r ∧ i_Rel (k + 3) u' v) v v1) u v1 := by
  obtain ⟨n, L, A, B, vm, vr, vb, vh, en, od, lw, fr, cy, nx, rt, tb, th, ya, yb, rfl, rfl, g, hX, hY⟩ := I
  refine xc_bridges g hX ?_ ?_
  · intro hx vm vr vb vh od lw fr cy nx rt
    exact yl_bridges g hY (fun _ => ⟨rfl, rl_mk g hX hY⟩) (fun h => absurd hx h)
  · intro hx
    exact yl_bridges g hY (fun h => absurd h hx) (fun _ => ⟨rfl, rl_mk g hX hY⟩)
theorem i_vc_hinges {k : Nat} {u : SX} {v : SY} (I : i_Rel k u v) (hk : k + 3 ≤ 1536) (v1 : Int32) : wpX_hinges (fun r u' => wpY_hinges (fun r' => r' = r ∧ i_Rel (k + 3) u' v) v v1) u v1 := by
  obtain ⟨n, L, A, B, vm, vr, vb, vh, en, od, lw, fr, cy, nx, rt, tb, th, ya, yb, rfl, rfl, g, hX, hY⟩ := I
  refine xc_hinges g hX ?_ ?_
  · intro hx vm vr vb vh od lw fr cy nx rt
    exact yl_hinges g hY (fun _ => ⟨rfl, rl_mk g hX hY⟩) (fun h => absurd hx h)
  · intro hx
    exact yl_hinges g hY (fun h => absurd h hx) (fun _ => ⟨rfl, rl_mk g hX hY⟩)
theorem i_vc_agree {k : Nat} {u : SX} {v : SY} (I : i_Rel k u v) (hk : k + 3 ≤ 1536) (v1 : Int32) (v2 : Int32) : wpX_agree (fun r u' => wpY_agree (fun r' => r' = r ∧ i_Rel (k + 3) u' v) v v1 v2) u v1 v2 := by
  obtain ⟨n, L, A, B, vm, vr, vb, vh, en, od, lw, fr, cy, nx, rt, tb, th, ya, yb, rfl, rfl, g, hX, hY⟩ := I
  refine xc_agree g hX ?_ ?_
  · intro hx hy vm vr vb vh od lw fr cy nx rt
    exact yl_agree (fun _ _ => ⟨rfl, rl_mk g hX hY⟩) (fun h => absurd ⟨hx, hy⟩ h)
  · intro hx
    exact yl_agree (fun h1 h2 => absurd ⟨h1, h2⟩ hx) (fun _ => ⟨rfl, rl_mk g hX hY⟩)
theorem i_vc_block {k : Nat} {u : SX} {v : SY} (I : i_Rel k u v) (hk : k + 3 ≤ 1536) (v1 : Int32) : wpX_block (fun r => wpY_block (fun r' => r' = r ∧ i_Rel (k + 3) u v) v v1) u v1 := by
  obtain ⟨n, L, A, B, vm, vr, vb, vh, en, od, lw, fr, cy, nx, rt, tb, th, ya, yb, rfl, rfl, g, hX, hY⟩ := I
  refine xc_block g hX (fun q hq eq lq => ?_) (fun h => ?_)
  · refine yl_block g hY (fun j hj ej lj => ⟨?_, rl_mk g hX hY⟩) (fun h => absurd lq (h q hq eq))
    have e : j = q := (nI_eq (by omega) (by omega)).mp (ej.symm.trans eq)
    rw [e, rl_bl g]
  · exact yl_block g hY (fun j hj ej lj => absurd lj (h j hj ej)) (fun _ => ⟨rfl, rl_mk g hX hY⟩)
theorem i_vc_island {k : Nat} {u : SX} {v : SY} (I : i_Rel k u v) (hk : k + 3 ≤ 1536) (v1 : Int32) : wpX_island (fun r => wpY_island (fun r' => r' = r ∧ i_Rel (k + 3) u v) v v1) u v1 := by
  obtain ⟨n, L, A, B, vm, vr, vb, vh, en, od, lw, fr, cy, nx, rt, tb, th, ya, yb, rfl, rfl, g, hX, hY⟩ := I
  have n8 := g.1.2
  refine xc_island g hX (fun p hp ep => ?_) (fun h => ?_)
  · refine yl_island g hY (fun j hj ej => ⟨?_, rl_mk g hX hY⟩) (fun h => absurd ep (h p hp))
    have e : j = p := (nI_eq (by omega) (by omega)).mp (ej.symm.trans ep)
    rw [e]
  · exact yl_island g hY (fun j hj ej => absurd ej (h j hj)) (fun _ => ⟨rfl, rl_mk g hX hY⟩)
theorem i_vc_weakest {k : Nat} {u : SX} {v : SY} (I : i_Rel k u v) (hk : k + 3 ≤ 1536) : wpX_weakest (fun r => wpY_weakest (fun r' => r' = r ∧ i_Rel (k + 3) u v) v) u := by
  obtain ⟨n, L, A, B, vm, vr, vb, vh, en, od, lw, fr, cy, nx, rt, tb, th, ya, yb, rfl, rfl, g, hX, hY⟩ := I
  have n1 := g.1.1
  refine xc_weak g hX (fun h1 h2 => ?_) (fun h => ?_)
  · exact yl_weak g hY (fun _ _ => ⟨by rw [pv_w (by omega) g.1.2], rl_mk g hX hY⟩) (fun h => absurd h (fun w => w.elim h1 h2))
  · exact yl_weak g hY (fun h1 h2 => absurd h (fun w => w.elim h1 h2)) (fun _ => ⟨rfl, rl_mk g hX hY⟩)
theorem i_vc_fragile {k : Nat} {u : SX} {v : SY} (I : i_Rel k u v) (hk : k + 3 ≤ 1536) : wpX_fragile (fun r => wpY_fragile (fun r' => r' = r ∧ i_Rel (k + 3) u v) v) u := by
  obtain ⟨n, L, A, B, vm, vr, vb, vh, en, od, lw, fr, cy, nx, rt, tb, th, ya, yb, rfl, rfl, g, hX, hY⟩ := I
  have n1 := g.1.1
  refine xc_frag g hX (fun h1 h2 => ?_) (fun h => ?_)
  · exact yl_frag g hY (fun _ _ => ⟨by rw [pv_f (by omega) g.1.2 h2], rl_mk g hX hY⟩) (fun h => absurd h (fun w => w.elim h1 h2))
  · exact yl_frag g hY (fun h1 h2 => absurd h (fun w => w.elim h1 h2)) (fun _ => ⟨rfl, rl_mk g hX hY⟩)
theorem i_vc_trees {k : Nat} {u : SX} {v : SY} (I : i_Rel k u v) (hk : k + 3 ≤ 1536) : wpX_trees (fun r u' => wpY_trees (fun r' => r' = r ∧ i_Rel (k + 3) u' v) v) u := by
  obtain ⟨n, L, A, B, vm, vr, vb, vh, en, od, lw, fr, cy, nx, rt, tb, th, ya, yb, rfl, rfl, g, hX, hY⟩ := I
  exact xt_trees g hX (fun tb => yl_trees g hY ⟨rfl, rl_mk g hX hY⟩)
theorem i_vc_shortest {k : Nat} {u : SX} {v : SY} (I : i_Rel k u v) (hk : k + 3 ≤ 1536) : wpX_shortest (fun r => wpY_shortest (fun r' => r' = r ∧ i_Rel (k + 3) u v) v) u := by
  obtain ⟨n, L, A, B, vm, vr, vb, vh, en, od, lw, fr, cy, nx, rt, tb, th, ya, yb, rfl, rfl, g, hX, hY⟩ := I
  exact xd_short g hX (yl_short g hY ⟨rfl, rl_mk g hX hY⟩)
theorem i_vc_around {k : Nat} {u : SX} {v : SY} (I : i_Rel k u v) (hk : k + 3 ≤ 1536) (v1 : Int32) : wpX_around (fun r => wpY_around (fun r' => r' = r ∧ i_Rel (k + 3) u v) v v1) u v1 := by
  obtain ⟨n, L, A, B, vm, vr, vb, vh, en, od, lw, fr, cy, nx, rt, tb, th, ya, yb, rfl, rfl, g, hX, hY⟩ := I
  refine xd_around g hX (fun q hq eq lq => ?_) (fun h => ?_)
  · refine yl_around g hY (fun j hj ej lj => ⟨?_, rl_mk g hX hY⟩) (fun h => absurd lq (h q hq eq))
    have e : j = q := (nI_eq (by omega) (by omega)).mp (ej.symm.trans eq)
    rw [e]
  · exact yl_around g hY (fun j hj ej lj => absurd lj (h j hj ej)) (fun _ => ⟨rfl, rl_mk g hX hY⟩)
theorem i_vc_sides {k : Nat} {u : SX} {v : SY} (I : i_Rel k u v) (hk : k + 3 ≤ 1536) : wpX_sides (fun r => wpY_sides (fun r' => r' = r ∧ i_Rel (k + 3) u v) v) u := by
  obtain ⟨n, L, A, B, vm, vr, vb, vh, en, od, lw, fr, cy, nx, rt, tb, th, ya, yb, rfl, rfl, g, hX, hY⟩ := I
  refine xd_sides g hX (fun h => ?_) (fun h => ?_)
  · exact yl_sides g hY (fun _ => ⟨rfl, rl_mk g hX hY⟩) (fun w => absurd h w)
  · exact yl_sides g hY (fun w => absurd w h) (fun _ => ⟨rfl, rl_mk g hX hY⟩)

/-! X: the walk -/
/-- the arrays of the walk against naturals -/
def wr_R (m0 root : Nat) (ro0 o lo cf cb nl : Nat → Nat) (od lw fr cy nx rt : Nat → Int32) : Prop := ∀ p, p < 8 → od p = nI (o p) ∧ (m0 < o p → lw p = nI (lo p) ∧ fr p = nI (cf p) ∧ cy p = (if cb p < 16 then nI (cb p) else -1) ∧ nx p = nI (nl p) ∧ rt p = nI root) ∧ (o p ≠ 0 → o p ≤ m0 → rt p = nI (ro0 p))
theorem wr_Rlook {m0 root t v : Nat} {ro0 o lo cf cb nl : Nat → Nat} {od lw lw' fr cy nx rt : Nat → Int32} (R : wr_R m0 root ro0 o lo cf cb nl od lw fr cy nx rt) (h1 : lw' t = nI v) (h2 : ∀ p, p ≠ t → lw' p = lw p) : wr_R m0 root ro0 o (wk_u lo t v) cf cb (wk_u nl t (nl t + 1)) od lw' fr cy (upd nx t (nI (nl t + 1))) rt := by
  intro p p8
  obtain ⟨r1, r2, r3⟩ := R p p8
  refine ⟨r1, fun hp => ?_, r3⟩
  obtain ⟨s1, s2, s3, s4, s5⟩ := r2 hp
  by_cases e : p = t
  · rw [e] at s2 s3 s5 ⊢
    rw [wk_us, wk_us, pk_us]
    exact ⟨h1, s2, s3, rfl, s5⟩
  · rw [wk_un lo _ e, wk_un nl _ e, pk_un e, h2 p e]
    exact ⟨s1, s2, s3, s4, s5⟩
theorem wr_Rmeet {m0 root t z met : Nat} {ro0 o lo cf cb nl : Nat → Nat} {od lw fr cy nx rt : Nat → Int32} (R : wr_R m0 root ro0 o lo cf cb nl od lw fr cy nx rt) (hm : m0 ≤ met) (k16 : nl t < 16) : wr_R m0 root ro0 (wk_u o z (met + 1)) (wk_u lo z (met + 1)) (wk_u cf z t) (wk_u cb z (nl t)) (wk_u (wk_u nl t (nl t + 1)) z 0) (upd od z (nI (met + 1))) (upd lw z (nI (met + 1))) (upd fr z (nI t)) (upd cy z (nI (nl t))) (upd (upd nx t (nI (nl t + 1))) z 0) (upd rt z (nI root)) := by
  intro p p8
  obtain ⟨r1, r2, r3⟩ := R p p8
  by_cases e : p = z
  · rw [e, wk_us, wk_us, wk_us, wk_us, wk_us, pk_us, pk_us, pk_us, pk_us, pk_us, pk_us, if_pos k16]
    exact ⟨rfl, fun _ => ⟨rfl, rfl, rfl, rfl, rfl⟩, fun _ h => by omega⟩
  · rw [wk_un o _ e, wk_un lo _ e, wk_un cf _ e, wk_un cb _ e, wk_un _ _ e, pk_un e, pk_un e, pk_un e, pk_un e, pk_un e, pk_un e]
    refine ⟨r1, fun hp => ?_, r3⟩
    obtain ⟨s1, s2, s3, s4, s5⟩ := r2 hp
    refine ⟨s1, s2, s3, ?_, s5⟩
    by_cases f : p = t
    · rw [f, wk_us, pk_us]
    · rw [wk_un nl _ f, pk_un f]
      exact s4
theorem wr_Rbegin {m0 root : Nat} {ro0 o lo cf cb nl : Nat → Nat} {od lw fr cy nx rt : Nat → Int32} (h1 : ∀ p, p < 8 → od p = nI (o p)) (h2 : ∀ p, o p ≤ m0) (h3 : ∀ p, p < 8 → o p ≠ 0 → rt p = nI (ro0 p)) : wr_R m0 root ro0 (wk_u o root (m0 + 1)) (wk_u lo root (m0 + 1)) (wk_u cf root root) (wk_u cb root 99) (wk_u nl root 0) (upd od root (nI (m0 + 1))) (upd lw root (nI (m0 + 1))) (upd fr root (nI root)) (upd cy root (-1)) (upd nx root 0) (upd rt root (nI root)) := by
  intro p p8
  by_cases e : p = root
  · rw [e, wk_us, wk_us, wk_us, wk_us, wk_us, pk_us, pk_us, pk_us, pk_us, pk_us, pk_us, if_neg (by omega)]
    exact ⟨rfl, fun _ => ⟨rfl, rfl, rfl, rfl, rfl⟩, fun _ h => by omega⟩
  · rw [wk_un o _ e, pk_un e, pk_un (f := rt) e]
    refine ⟨h1 p p8, fun h => ?_, fun h _ => h3 p p8 h⟩
    have := h2 p
    omega
section
variable {n L : Nat} {A B : Nat → Nat} {vm vr vb vh : Int32} {en od lw fr cy nx rt : Nat → Int32} {tb : Nat → Int64}
theorem xw_meet {post : SX → Prop} {p : Nat} {x1 x2 x3 : Int32} {m : Nat} (p8 : p < 8) (k : post (nI n, nI L, nI (m + 1), vr, vb, vh, en, upd od p (nI (m + 1)), upd lw p (nI (m + 1)), upd fr p x1, upd cy p x2, upd nx p 0, upd rt p x3, tb)) : wpX_meet post (nI n, nI L, nI m, vr, vb, vh, en, od, lw, fr, cy, nx, rt, tb) (nI p) x1 x2 x3 := by
  have c : (nI p).toNatClampNeg = p := nI_clamp (by omega)
  have v : vp_in (nI p) 8 := vp_in_nI p8 (by omega)
  unfold wpX_meet
  dsimp only
  rw [c]
  exact nm_r (nI_1 m) ⟨v, nm_e ⟨v, nm_e ⟨v, nm_e ⟨v, nm_e ⟨v, nm_e ⟨v, nm_e k⟩⟩⟩⟩⟩⟩
theorem xw_leads {post : Int32 → Prop} (g : cx_G n L A B) (hX : cx_X L A B en) {t k : Nat} {cb : Nat → Nat} (t8 : t < 8) (k16 : k < 16) (hc : cy t = (if cb t < 16 then nI (cb t) else -1)) (h1 : ∀ z, wk_J (fun k => k < 16 ∧ L.testBit k = true) A B k t z → k ≠ cb t → post 1) (h0 : (∀ z, wk_J (fun k => k < 16 ∧ L.testBit k = true) A B k t z → ¬ k ≠ cb t) → post 0) : wpX_leadsOn post (nI n, nI L, vm, vr, vb, vh, en, od, lw, fr, cy, nx, rt, tb) (nI t) (nI k) := by
  have L16 := g.2.1
  have c : (nI t).toNatClampNeg = t := nI_clamp (by omega)
  have ck : (nI k).toNatClampNeg = k := nI_clamp (by omega)
  refine ek_if (bi_b1 (by omega) (by omega)) (fun u => ?_) (fun u => ?_)
  · have ei := hX k k16 u
    have e8 := cx_e8 g k16 u
    refine ⟨vp_in_nI k16 (by omega), ek_if (d := (bi_e (A k) (B k)).testBit t = true) (by rw [ck, ei]; exact bi_b1 (by omega) (by omega)) (fun w => ?_) (fun w => ?_)⟩
    · have w := (bi_eT _ _ _).mp w
      have ex : ∃ z, wk_J (fun k => k < 16 ∧ L.testBit k = true) A B k t z := by
        rcases w with w | w
        · exact ⟨B k, ⟨k16, u⟩, Or.inl ⟨w.symm, rfl⟩⟩
        · exact ⟨A k, ⟨k16, u⟩, Or.inr ⟨rfl, w.symm⟩⟩
      obtain ⟨z, hz⟩ := ex
      refine br_f (by decide) ⟨vp_in_nI t8 (by omega), ek_if (d := k = cb t) ?_ (fun q => ?_) (fun q => ?_)⟩
      · rw [c, hc]
        by_cases q : cb t < 16
        · rw [if_pos q]; exact nI_eq (by omega) (by omega)
        · rw [if_neg q]
          constructor
          · intro w
            exfalso
            have := nI_pos (n := k) (by omega)
            rw [w] at this
            exact this (by decide)
          · intro w
            omega
      · exact h0 (fun z _ w => w q)
      · exact h1 z hz q
    · refine br_t rfl (h0 (fun z hz => ?_))
      exfalso
      apply w
      rw [bi_eT]
      rcases hz.2 with q | q
      · exact Or.inl q.1.symm
      · exact Or.inr q.2.symm
  · exact br_t rfl (h0 (fun z hz => absurd hz.1.2 u))
/-- the other end -/
theorem xw_there {post : Int32 → Prop} (g : cx_G n L A B) (hX : cx_X L A B en) {t k z : Nat} (hz : wk_J (fun k => k < 16 ∧ L.testBit k = true) A B k t z) (kk : post (nI z)) : wpX_lowest post (en (nI k).toNatClampNeg &&& (((1 : Int32) <<< (nI t &&& 31)) ^^^ (-1))) := by
  have jn := wk_Jn (cx_0 g) hz
  have n8 := g.1.2
  have ck : (nI k).toNatClampNeg = k := nI_clamp (by omega)
  have ei := hX k jn.1 hz.1.2
  have e8 := cx_e8 g jn.1 hz.1.2
  have d8 : bi_d (bi_e (A k) (B k)) (2 ^ t) < 256 := bi_dlt (n := 8) e8
  rw [ck, ei, bi_1 (by omega), bi_not]
  have tt : ∀ x, (bi_d (bi_e (A k) (B k)) (2 ^ t)).testBit x = true ↔ x = z := by
    intro x
    rw [pv_dT, bi_eT, pv_2p]
    obtain ⟨_, h⟩ := hz
    omega
  exact xl_lowest (by omega) (by omega) ((tt z).mpr rfl) (fun j hj w => by have := (tt j).mp w; omega) kk
theorem xw_81 {post : SX → Prop} {t root u rb WH lt ou : Nat} (t8 : t < 8) (u8 : u < 8) (r8 : root < 8) (rb8 : rb ≤ 200) (l8 : lt ≤ 8) (o8 : ou ≤ 8) (hl : lw t = nI lt) (ho : od u = nI ou) (k : post (nI n, nI L, vm, nI rb, vb, nI (if (if u = root then 1 < rb else ou ≤ lt) then WH ||| 2 ^ u else WH), en, od, lw, fr, cy, nx, rt, tb)) : wX_leave_81 post (nI t) (nI root) (nI u) (nI n) (nI L) vm (nI rb) vb (nI WH) en od lw fr cy nx rt tb := by
  have c : (nI t).toNatClampNeg = t := nI_clamp (by omega)
  have cu : (nI u).toNatClampNeg = u := nI_clamp (by omega)
  have hy : (if u = root then 1 < rb else ou ≤ lt) → wX_leave_122 post (nI u) 1 (nI n) (nI L) vm (nI rb) vb (nI WH) en od lw fr cy nx rt tb := by
    intro h
    rw [if_pos h] at k
    exact br_f (by decide) (nm_r (by rw [bi_1 (by omega), bi_or]) k)
  have hn : ¬ (if u = root then 1 < rb else ou ≤ lt) → wX_leave_122 post (nI u) 0 (nI n) (nI L) vm (nI rb) vb (nI WH) en od lw fr cy nx rt tb := by
    intro h
    rw [if_neg h] at k
    exact br_t rfl k
  by_cases e : u = root
  · rw [if_pos e] at hy hn
    exact br_t (by rw [e]) (pk_le rb 1 (fun w => hn (by omega)) (fun w => hy w))
  · rw [if_neg e] at hy hn
    exact br_f (fun q => e ((nI_eq (by omega) (by omega)).mp q)) ⟨vp_in_nI t8 (by omega), vp_in_nI u8 (by omega), by
      rw [c, cu, hl, ho]
      exact pk_lt lt ou (fun w => hn (by omega)) (fun w => hy w)⟩
theorem xw_leave {post : SX → Prop} {t root u rb WB WH lt lu ou kb : Nat} (t8 : t < 8) (u8 : u < 8) (r8 : root < 8) (tu : t ≠ u) (rb8 : rb ≤ 150) (l8 : lt ≤ 8) (lu8 : lu ≤ 8) (o8 : ou ≤ 8) (kb16 : kb < 16) (hf : fr t = nI u) (hc : cy t = nI kb) (hl : lw t = nI lt) (hlu : lw u = nI lu) (ho : od u = nI ou)
    (k : ∀ lw', lw' u = nI (if lt < lu then lt else lu) → (∀ p, p ≠ u → lw' p = lw p) → post (nI n, nI L, vm, nI (if u = root then rb + 1 else rb), nI (if ou < lt then WB ||| 2 ^ kb else WB), nI (if (if u = root then 1 < (if u = root then rb + 1 else rb) else ou ≤ lt) then WH ||| 2 ^ u else WH), en, od, lw', fr, cy, nx, rt, tb)) : wpX_leave post (nI n, nI L, vm, nI rb, nI WB, nI WH, en, od, lw, fr, cy, nx, rt, tb) (nI t) (nI root) := by
  have c : (nI t).toNatClampNeg = t := nI_clamp (by omega)
  have cu : (nI u).toNatClampNeg = u := nI_clamp (by omega)
  have vt : vp_in (nI t) 8 := vp_in_nI t8 (by omega)
  have vu : vp_in (nI u) 8 := vp_in_nI u8 (by omega)
  have s66 : ∀ (lw' : Nat → Int32) (wb : Nat), lw' t = nI lt → post (nI n, nI L, vm, nI (if u = root then rb + 1 else rb), nI wb, nI (if (if u = root then 1 < (if u = root then rb + 1 else rb) else ou ≤ lt) then WH ||| 2 ^ u else WH), en, od, lw', fr, cy, nx, rt, tb) → wX_leave_66 post (nI t) (nI root) (nI u) (nI n) (nI L) vm (nI rb) (nI wb) (nI WH) en od lw' fr cy nx rt tb := by
    intro lw' wb h1 h2
    by_cases e : u = root
    · rw [if_pos e] at h2
      exact br_t (by rw [e]) (nm_r (nI_1 rb) (xw_81 t8 u8 r8 (by omega) l8 o8 h1 ho h2))
    · rw [if_neg e] at h2
      exact br_f (fun q => e ((nI_eq (by omega) (by omega)).mp q)) (xw_81 t8 u8 r8 (by omega) l8 o8 h1 ho h2)
  have s34 : ∀ (lw' : Nat → Int32), lw' t = nI lt → post (nI n, nI L, vm, nI (if u = root then rb + 1 else rb), nI (if ou < lt then WB ||| 2 ^ kb else WB), nI (if (if u = root then 1 < (if u = root then rb + 1 else rb) else ou ≤ lt) then WH ||| 2 ^ u else WH), en, od, lw', fr, cy, nx, rt, tb) → wX_leave_34 post (nI t) (nI root) (nI u) (nI n) (nI L) vm (nI rb) (nI WB) (nI WH) en od lw' fr cy nx rt tb := by
    intro lw' h1 h2
    refine ⟨vt, vu, ?_⟩
    rw [c, cu, h1, ho]
    refine pk_le lt ou (fun w => ?_) (fun w => ⟨vt, ?_⟩)
    · rw [if_neg (show ¬ ou < lt by omega)] at h2
      exact s66 lw' WB h1 h2
    · rw [if_pos (show ou < lt from w)] at h2
      rw [hc, bi_1 (by omega), bi_or]
      exact nm_e (s66 lw' _ h1 h2)
  unfold wpX_leave
  dsimp only
  rw [c]
  refine ⟨vt, nm_r hf ⟨vt, vu, ?_⟩⟩
  rw [cu, hl, hlu]
  refine pk_le lu lt (fun w => ?_) (fun w => ⟨vt, vu, nm_e ?_⟩)
  · exact s34 lw hl (k lw (by rw [if_neg (by omega)]; exact hlu) (fun _ _ => rfl))
  · exact s34 _ (by rw [pk_un tu]; exact hl) (k _ (by rw [pk_us, if_pos w]) (fun p hp => pk_un hp))
theorem xw_loop {post : SX → Prop} (g : cx_G n L A B) (hX : cx_X L A B en) {root m0 WB0 WH0 : Nat} {o0 ro0 : Nat → Nat}
    (fin : ∀ (met rb WB WH : Nat) (o lo cf cb nl la : Nat → Nat) (od lw fr cy nx rt : Nat → Int32), wr_I n L A B root m0 o0 WB0 WH0 root met rb WB WH o lo cf cb nl la → nl root = 16 → wr_R m0 root ro0 o lo cf cb nl od lw fr cy nx rt → post (nI n, nI L, nI met, nI rb, nI WB, nI WH, en, od, lw, fr, cy, nx, rt, tb)) :
    ∀ (f st t met rb WB WH : Nat) (o lo cf cb nl la : Nat → Nat) (od lw fr cy nx rt : Nat → Int32), wr_I n L A B root m0 o0 WB0 WH0 t met rb WB WH o lo cf cb nl la → wr_R m0 root ro0 o lo cf cb nl od lw fr cy nx rt → wk_M m0 o nl la + st ≤ 136 → wk_M m0 o nl la < f → wX_walkFrom_17 post (nI root) f (nI t) (nI st) (nI n) (nI L) (nI met) (nI rb) (nI WB) (nI WH) en od lw fr cy nx rt tb := by
  intro f
  induction f with
  | zero => intro st t met rb WB WH o lo cf cb nl la od lw fr cy nx rt I R h1 h2; omega
  | succ f ih =>
    intro st t met rb WB WH o lo cf cb nl la od lw fr cy nx rt I R h1 h2
    obtain ⟨tn, t8, rn, r8, nl16, met8, o8, mt, mr, lo8, loo, rb8, lat, M1⟩ := wr_f g I
    have c : (nI t).toNatClampNeg = t := nI_clamp (by omega)
    have vt : vp_in (nI t) 8 := vp_in_nI t8 (by omega)
    obtain ⟨rt1, rt2, rt3⟩ := R t t8
    obtain ⟨q1, q2, q3, q4, q5⟩ := rt2 mt
    rw [wX_walkFrom_17]
    refine br_f (nI_ge (b := 136) (by omega) (by omega)) ⟨vt, nm_r (e' := nI (nl t)) (by rw [c, q4]) ?_⟩
    by_cases hk : nl t < 16
    · have look : ∀ (v : Nat) (lw' : Nat → Int32), (∀ z, wk_J (fun k => k < 16 ∧ L.testBit k = true) A B (nl t) t z → nl t ≠ cb t → o z ≠ 0) → v ≤ lo t → (∀ z, wk_J (fun k => k < 16 ∧ L.testBit k = true) A B (nl t) t z → nl t ≠ cb t → v ≤ o z) → (v = lo t ∨ ∃ z, wk_J (fun k => k < 16 ∧ L.testBit k = true) A B (nl t) t z ∧ nl t ≠ cb t ∧ v = o z ∧ m0 < o z) → lw' t = nI v → (∀ p, p ≠ t → lw' p = lw p) → wX_walkFrom_17 post (nI root) f (nI t) (nI (st + 1)) (nI n) (nI L) (nI met) (nI rb) (nI WB) (nI WH) en od lw' fr cy (upd nx t (nI (nl t + 1))) rt tb := by
        intro v lw' a1 a2 a3 a4 a5 a6
        obtain ⟨I', M'⟩ := wr_look g I hk a1 v a2 a3 a4
        exact ih (st + 1) t met rb WB WH o (wk_u lo t v) cf cb (wk_u nl t (nl t + 1)) la od lw' fr cy _ rt I' (wr_Rlook R a5 a6) (by omega) (by omega)
      refine br_f (nI_ge (b := 16) hk (by omega)) ⟨vt, nm_r (e' := upd nx t (nI (nl t + 1))) (by rw [c, nI_1]) ?_⟩
      refine xw_leads g hX t8 hk q3 (fun z jz kc => br_f (by decide) ⟨vp_in_nI hk (by omega), ?_⟩) (fun h0 => br_t rfl (nm_r (nI_1 st) ?_))
      · have jn := wk_Jn (cx_0 g) jz
        have n8 := g.1.2
        have z8 : z < 8 := by omega
        have cz : (nI z).toNatClampNeg = z := nI_clamp (by omega)
        have vz : vp_in (nI z) 8 := vp_in_nI z8 (by omega)
        have oz := (R z z8).1
        have oz8 := o8 z
        have uz : ∀ z', wk_J (fun k => k < 16 ∧ L.testBit k = true) A B (nl t) t z' → z' = z := fun z' j' => wk_Ju (cx_0 g) j' jz
        refine xw_there g hX jz ⟨vz, ek_if (d := o z = 0) (by rw [cz, oz, bi_z (by omega)]) (fun hz => ?_) (fun hz => ?_)⟩
        · obtain ⟨I', M'⟩ := wr_meet g I hk jz hz
          refine xw_meet z8 ?_
          exact nm_r (nI_1 st) (ih (st + 1) z (met + 1) rb WB WH _ _ _ _ _ la _ _ _ _ _ _ I' (wr_Rmeet R (by have := I.1.2.2.2.1.1; omega) hk) (by omega) (by omega))
        · have mz : m0 < o z := by
            apply Classical.byContradiction
            intro q
            have := I.1.2.2.2.2.2.2.2.2.2.2.1 z (nl t) t (wk_Js jz) hz (by omega)
            omega
          refine ⟨vz, vt, ek_if (d := lo t ≤ o z) (by rw [c, cz, q1, oz, nI_leI (by omega) (by omega)]) (fun le => nm_r (nI_1 st) ?_) (fun nle => ⟨vz, vt, nm_r (e' := upd lw t (nI (o z))) (by rw [c, cz, oz]) (nm_r (nI_1 st) ?_)⟩)⟩
          · exact look (lo t) lw (fun z' j' _ => by rw [uz z' j']; exact hz) (Nat.le_refl _) (fun z' j' _ => by rw [uz z' j']; exact le) (Or.inl rfl) q1 (fun _ _ => rfl)
          · exact look (o z) _ (fun z' j' _ => by rw [uz z' j']; exact hz) (by omega) (fun z' j' _ => by rw [uz z' j']; exact Nat.le_refl _) (Or.inr ⟨z, jz, kc, rfl, mz⟩) pk_us (fun p hp => pk_un hp)
      · exact look (lo t) lw (fun z' j' kc => absurd kc (h0 z' j')) (Nat.le_refl _) (fun z' j' kc => absurd kc (h0 z' j')) (Or.inl rfl) q1 (fun _ _ => rfl)
    · have k16 : nl t = 16 := by omega
      refine br_t (show (16 : Int32) ≤ nI (nl t) by rw [k16]; decide) ?_
      by_cases tr : t = root
      · refine br_t (by rw [tr]) ?_
        rw [tr] at I k16
        exact fin met rb WB WH o lo cf cb nl la od lw fr cy nx rt I k16 R
      · have G := I.1
        obtain ⟨c1, c2, c3, c4⟩ := G.2.2.2.2.2.1 t mt tr
        have jn := wk_Jn (cx_0 g) c3
        have n8 := g.1.2
        have u8 : cf t < 8 := by omega
        obtain ⟨ru1, ru2, ru3⟩ := R (cf t) u8
        obtain ⟨p1, p2, p3, p4, p5⟩ := ru2 c1
        have pu := (G.2.2.2.2.2.2.1 t ⟨mt, lat⟩ tr).1
        have lou := (I.2.1 (cf t) pu).1
        have ou8 := o8 (cf t)
        rw [if_pos jn.1] at q3
        refine br_f (fun q => tr ((nI_eq (by omega) (by omega)).mp q)) (xw_leave (lt := lo t) (lu := lo (cf t)) (ou := o (cf t)) (kb := cb t) t8 u8 r8 (fun e => jn.2.2.2 e) (by omega) lo8 (by omega) ou8 jn.1 q2 q3 q1 p1 ru1 (fun lw' a1 a2 => ⟨vt, nm_r (e' := nI (cf t)) (by rw [c, q2]) (nm_r (nI_1 st) ?_)⟩))
        obtain ⟨I', M'⟩ := wr_leave g I k16 tr (rb' := if cf t = root then rb + 1 else rb) rfl rfl rfl rfl
        refine ih (st + 1) (cf t) met _ _ _ o _ cf cb nl _ od lw' fr cy nx rt I' ?_ (by omega) (by omega)
        intro p p8
        obtain ⟨r1, r2, r3⟩ := R p p8
        refine ⟨r1, fun hp => ?_, r3⟩
        obtain ⟨s1, s2, s3, s4, s5⟩ := r2 hp
        refine ⟨?_, s2, s3, s4, s5⟩
        by_cases e : p = cf t
        · rw [e, wk_us]; exact a1
        · rw [wk_un lo _ e, a2 p e]; exact s1
theorem xw_from {post : SX → Prop} (g : cx_G n L A B) (hX : cx_X L A B en) {root m0 WB WH : Nat} {o ro : Nat → Nat} (Z : wr_Z n L A B m0 WB WH o ro) (rn : root < n) (hr : o root = 0) (r2 : ∀ p, p < root → o p ≠ 0) (h1 : ∀ p, p < 8 → od p = nI (o p)) (h3 : ∀ p, p < 8 → o p ≠ 0 → rt p = nI (ro p))
    (k : ∀ (vr' : Int32) (met WB' WH' : Nat) (o' ro' : Nat → Nat) (od lw fr cy nx rt : Nat → Int32), wr_Z n L A B met WB' WH' o' ro' → (∀ p, p < root + 1 → o' p ≠ 0) → (∀ p, p < 8 → od p = nI (o' p)) → (∀ p, p < 8 → o' p ≠ 0 → rt p = nI (ro' p)) → post (nI n, nI L, nI met, vr', nI WB', nI WH', en, od, lw, fr, cy, nx, rt, tb)) : wpX_walkFrom post (nI n, nI L, nI m0, vr, nI WB, nI WH, en, od, lw, fr, cy, nx, rt, tb) (nI root) := by
  have n8 := g.1.2
  unfold wpX_walkFrom
  dsimp only
  refine xw_meet (by omega) ?_
  refine ⟨138, ?_⟩
  have b := wr_begin g (lo := fun _ => 0) (cf := fun _ => 0) (cb := fun _ => 0) (nl := fun _ => 0) Z rn hr
  have mb := wk_Mb m0 (wk_u o root (m0 + 1)) (wk_u (fun _ => 0) root 0) (fun _ => 0)
  refine xw_loop g hX (root := root) (m0 := m0) (WB0 := WB) (WH0 := WH) (o0 := o) (ro0 := ro) ?_ 138 0 root (m0 + 1) 0 WB WH _ _ _ _ _ _ _ _ _ _ _ _ b (wr_Rbegin h1 Z.1.2.1 h3) (by omega) (by omega)
  intro met rb WB' WH' o' lo cf cb nl la od' lw' fr' cy' nx' rt' I nr R
  have G := I.1
  have c7 := I.2.2.2.2.2.2.1
  have c8 := I.2.2.2.2.2.2.2
  have fi := wr_fin g (ro := fun p => if m0 < o' p then root else ro p) Z I nr (fun p hp => by
    have e := c7 p hp
    have := Z.1.2.1 p
    show (if m0 < o' p then root else ro p) = ro p
    rw [if_neg (by omega)]) (fun p hp => by show (if m0 < o' p then root else ro p) = root; rw [if_pos hp]) r2
  refine k (nI rb) met WB' WH' o' (fun p => if m0 < o' p then root else ro p) od' lw' fr' cy' nx' rt' fi (fun p hp => ?_) (fun p p8 => (R p p8).1) (fun p p8 hp => ?_)
  · by_cases e : p = root
    · rw [e]
      have := G.2.2.2.1.2.1
      omega
    · have := r2 p (by omega)
      rw [c7 p this]
      exact this
  · by_cases e : m0 < o' p
    · show rt' p = nI (if m0 < o' p then root else ro p)
      rw [if_pos e]
      exact ((R p p8).2.1 e).2.2.2.2
    · show rt' p = nI (if m0 < o' p then root else ro p)
      rw [if_neg e]
      exact (R p p8).2.2 hp (by omega)
theorem xw_38 {post : SX → Prop} (g : cx_G n L A B) (hX : cx_X L A B en)
    (k : ∀ (vm' vr' : Int32) (od lw fr cy nx rt : Nat → Int32), (∀ p, p < n → rt p = nI (pv_lb (gr_R A B (fun k => k < 16 ∧ L.testBit k = true) (fun x => x < n)) p)) → post (nI n, nI L, vm', vr', nI (pv_b A B n L), nI (pv_h A B n L), en, od, lw, fr, cy, nx, rt, tb)) :
    ∀ (f p m0 WB WH : Nat) (vr : Int32) (o ro : Nat → Nat) (od lw fr cy nx rt : Nat → Int32), n < f + p → p ≤ n → wr_Z n L A B m0 WB WH o ro → (∀ q, q < p → o q ≠ 0) → (∀ p, p < 8 → od p = nI (o p)) → (∀ p, p < 8 → o p ≠ 0 → rt p = nI (ro p)) → wX_walkAll_38 post f (nI p) (nI n) (nI L) (nI m0) vr (nI WB) (nI WH) en od lw fr cy nx rt tb := by
  intro f
  have n8 := g.1.2
  induction f with
  | zero => intro p m0 WB WH vr o ro od lw fr cy nx rt h1 h2; omega
  | succ f ih =>
    intro p m0 WB WH vr o ro od lw fr cy nx rt h1 h2 Z h3 h4 h5
    rw [wX_walkAll_38]
    by_cases e : p = n
    · subst e
      refine br_t (nI_le (by omega) (by omega)) ?_
      obtain ⟨w1, w2, w3⟩ := wr_all g Z h3
      rw [w1, w2]
      exact k _ _ _ _ _ _ _ _ (fun q hq => by rw [h5 q (by omega) (h3 q hq), w3 q hq])
    · have pn : p < n := by omega
      have c : (nI p).toNatClampNeg = p := nI_clamp (by omega)
      have ob := Z.1.2.1 p
      have mb : m0 ≤ 8 := by rw [Z.2.1]; exact pv_cn _ 8
      refine br_f (nI_ge (by omega) (by omega)) ⟨vp_in_nI (by omega) (by omega), ek_if (d := o p = 0) (by rw [c, h4 p (by omega), bi_z (by omega)]) (fun z => ?_) (fun z => nm_r (nI_1 p) ?_)⟩
      · refine xw_from g hX Z pn z h3 h4 h5 ?_
        intro vr' met WB' WH' o' ro' od' lw' fr' cy' nx' rt' Z' a1 a2 a3
        exact nm_r (nI_1 p) (ih (p + 1) met WB' WH' vr' o' ro' od' lw' fr' cy' nx' rt' (by omega) (by omega) Z' a1 a2 a3)
      · refine ih (p + 1) m0 WB WH vr o ro od lw fr cy nx rt (by omega) (by omega) Z (fun q hq => ?_) h4 h5
        by_cases w : q = p
        · rw [w]; exact z
        · exact h3 q (by omega)
theorem xw_all {post : SX → Prop} (g : cx_G n L A B) (hX : cx_X L A B en)
    (k : ∀ (vm' vr' : Int32) (od lw fr cy nx rt : Nat → Int32), (∀ p, p < n → rt p = nI (pv_lb (gr_R A B (fun k => k < 16 ∧ L.testBit k = true) (fun x => x < n)) p)) → post (nI n, nI L, vm', vr', nI (pv_b A B n L), nI (pv_h A B n L), en, od, lw, fr, cy, nx, rt, tb)) : wpX_walkAll post (nI n, nI L, vm, vr, vb, vh, en, od, lw, fr, cy, nx, rt, tb) := by
  have n8 := g.1.2
  refine ⟨9, ?_⟩
  have a : ∀ (f i : Nat) (od : Nat → Int32), 8 < f + i → i ≤ 8 → (∀ q, q < i → od q = 0) → wX_walkAll_17 post (nI n) (nI L) 0 vr 0 0 f (nI i) en od lw fr cy nx rt tb := by
    intro f
    induction f with
    | zero => intro i od h1 h2; omega
    | succ f ih =>
      intro i od h1 h2 h3
      rw [wX_walkAll_17]
      by_cases e : i = 8
      · subst e
        exact br_t (nI_le (b := 8) (by omega) (by omega)) ⟨n + 1, xw_38 g hX k (n + 1) 0 0 0 0 vr (fun _ => 0) (fun _ => 0) od lw fr cy nx rt (by omega) (by omega) wr_0 (fun q hq => by omega) (fun p hp => h3 p hp) (fun p _ h => absurd rfl h)⟩
      · have c : (nI i).toNatClampNeg = i := nI_clamp (by omega)
        refine br_f (nI_ge (b := 8) (by omega) (by omega)) ⟨vp_in_nI (by omega) (by omega), nm_e (nm_r (nI_1 i) (ih (i + 1) _ (by omega) (by omega) (fun q hq => ?_)))⟩
        rw [c]
        by_cases w : q = i
        · rw [w, pk_us]
        · rw [pk_un w]; exact h3 q (by omega)
  exact a 9 0 od (by omega) (by omega) (fun q hq => by omega)
end

section
theorem pk_us {f : Nat → Int32} {k : Nat} {x : Int32} : upd f k x k = x := if_pos rfl
theorem pk_un {f : Nat → Int32} {k j : Nat} {x : Int32} (h : j ≠ k) : upd f k x j = f j := if_neg h
theorem pk_uLs {f : Nat → Int64} {k : Nat} {x : Int64} : vp_updL f k x k = x := if_pos rfl
theorem pk_uLn {f : Nat → Int64} {k j : Nat} {x : Int64} (h : j ≠ k) : vp_updL f k x j = f j := if_neg h
theorem pk_sub {a b : Nat} (h : b ≤ a) : nI a - nI b = nI (a - b) := by
  obtain ⟨c, rfl⟩ : ∃ c, a = c + b := ⟨a - b, by omega⟩
  rw [← nI_add, Int32.add_sub_cancel, Nat.add_sub_cancel]
theorem pk_m1 (n : Nat) : nI (n + 1) + (-1) = nI n := by
  rw [← nI_1, Int32.add_assoc, show (1 : Int32) + (-1) = 0 from rfl, Int32.add_zero]
theorem pk_mul (a b : Nat) : nI a * nI b = nI (a * b) := (Int32.ofNat_mul a b).symm
theorem pk_div {a d : Nat} (ha : a < 2 ^ 31) (h0 : 0 < d) (hd : d < 2 ^ 31) : nI a / nI d = nI (a / d) := by
  apply Int32.toInt_inj.mp
  rw [lg_idiv_nonneg (by rw [nI_toInt ha]; omega) (by rw [nI_toInt hd]; omega), nI_toInt ha, nI_toInt hd, nI_toInt (Nat.lt_of_le_of_lt (Nat.div_le_self a d) ha)]
  first | rfl | exact (Int.natCast_ediv _ _).symm
theorem pk_rem {a d : Nat} (ha : a < 2 ^ 31) (h0 : 0 < d) (hd : d < 2 ^ 31) : nI a - nI a / nI d * nI d = nI (a % d) := by
  rw [pk_div ha h0 hd, pk_mul, pk_sub (Nat.div_mul_le_self a d)]
  exact congrArg nI (by have := Nat.div_add_mod' a d; omega)
theorem pk_ix (x : Int32) {n : Nat} (hn : n < 2 ^ 31) : x < 0 ∨ nI n ≤ x ∨ ∃ j : Nat, j < n ∧ x = nI j := by
  by_cases h : x < 0
  · exact Or.inl h
  · obtain ⟨j, hj, rfl⟩ := nI_of h
    by_cases h2 : j < n
    · exact Or.inr (Or.inr ⟨j, h2, rfl⟩)
    · exact Or.inr (Or.inl (nI_le (by omega) hj))
theorem pk_le {x y : Int32} {A B : Prop} (a b : Nat) (f : a ≤ b → A) (g : b < a → B) (hx : x = nI a := by rfl) (hy : y = nI b := by rfl) (ha : a < 2 ^ 31 := by omega) (hb : b < 2 ^ 31 := by omega) : (x ≤ y → A) ∧ (¬ x ≤ y → B) := by
  subst hx hy
  rw [nI_leI ha hb]
  exact ⟨f, fun z => g (by omega)⟩
theorem pk_lt {x y : Int32} {A B : Prop} (a b : Nat) (f : a < b → A) (g : b ≤ a → B) (hx : x = nI a := by rfl) (hy : y = nI b := by rfl) (ha : a < 2 ^ 31 := by omega) (hb : b < 2 ^ 31 := by omega) : (x < y → A) ∧ (¬ x < y → B) := by
  subst hx hy
  rw [nI_ltI ha hb]
  exact ⟨f, fun z => g (by omega)⟩
theorem pk_eq {x y : Int32} {A B : Prop} (a b : Nat) (f : a = b → A) (g : a ≠ b → B) (hx : x = nI a := by rfl) (hy : y = nI b := by rfl) (ha : a < 2 ^ 31 := by omega) (hb : b < 2 ^ 31 := by omega) : (x = y → A) ∧ (¬ x = y → B) := by
  subst hx hy
  rw [nI_eq ha hb]
  exact ⟨f, g⟩
theorem pk_in {x : Int32} (n N : Nat) (h : n < N) (hx : x = nI n := by rfl) (hN : N < 2 ^ 31 := by omega) : vp_in x N := by
  subst hx
  exact vp_in_nI h hN
theorem pk_cl {x : Int32} (n : Nat) (hx : x = nI n := by rfl) (h : n < 2 ^ 31 := by omega) : x.toNatClampNeg = n := by
  subst hx
  exact nI_clamp h
theorem pk_tn {n : Nat} (h : n < 2 ^ 32) : (nI n).toBitVec.toNat = n := Nat.mod_eq_of_lt h
theorem pk_shl (a s : Int32) (k : Nat) (hs : (s.toBitVec.smod 32).toNat = k) : (a <<< s).toBitVec.toNat = a.toBitVec.toNat * 2 ^ k % 2 ^ 32 := by
  show (a.toBitVec <<< (s.toBitVec.smod 32).toNat).toNat = _
  rw [hs, BitVec.toNat_shiftLeft, Nat.shiftLeft_eq]
theorem pk_shlN {n : Nat} (s : Int32) (k : Nat) (hs : (s.toBitVec.smod 32).toNat = k) (h : n * 2 ^ k < 2 ^ 32) : nI n <<< s = nI (n * 2 ^ k) := by
  apply Int32.toBitVec_inj.mp
  apply BitVec.eq_of_toNat_eq
  have hn : n < 2 ^ 32 := Nat.lt_of_le_of_lt (Nat.le_mul_of_pos_right n (Nat.two_pow_pos k)) h
  rw [pk_shl _ _ k hs, pk_tn hn, pk_tn h, Nat.mod_eq_of_lt h]
theorem pk_shr (a s : Int32) (k : Nat) (hs : (s.toBitVec.smod 32).toNat = k) : (a >>> s).toInt = a.toInt >>> k := by
  show (a.toBitVec.sshiftRight (s.toBitVec.smod 32).toNat).toInt = _
  rw [hs, BitVec.toInt_sshiftRight]
  rfl
theorem pk_shrN {n : Nat} (h : n < 2 ^ 31) (s : Int32) (k : Nat) (hs : (s.toBitVec.smod 32).toNat = k) : nI n >>> s = nI (n / 2 ^ k) := by
  apply Int32.toInt_inj.mp
  have h2 : n / 2 ^ k ≤ n := Nat.div_le_self _ _
  rw [pk_shr _ _ k hs, nI_toInt h, nI_toInt (by omega), Int.shiftRight_eq_div_pow]
  rfl
theorem pk_vb (z : Int32) : vp_nar .byte z.toInt8.toInt32 = z.toInt8.toInt32 := by rw [vp_nar_byte]; simp
theorem pk_lT {n : Nat} (h : n < 2 ^ 63) : (lN n).toInt = (n : Int) := lg_ofNat_toInt h
theorem pk_lLT {a b : Nat} (ha : a < 2 ^ 63) (hb : b < 2 ^ 63) : lN a < lN b ↔ a < b := by
  rw [Int64.lt_iff_toInt_lt, pk_lT ha, pk_lT hb]; omega
theorem pk_lLE {a b : Nat} (ha : a < 2 ^ 63) (hb : b < 2 ^ 63) : lN a ≤ lN b ↔ a ≤ b := by
  rw [Int64.le_iff_toInt_le, pk_lT ha, pk_lT hb]; omega
theorem pk_lEQ {a b : Nat} (ha : a < 2 ^ 63) (hb : b < 2 ^ 63) : lN a = lN b ↔ a = b := by
  rw [← Int64.toInt_inj, pk_lT ha, pk_lT hb]; omega
theorem pk_loop {σ : Type} (W : Nat → Nat → σ → Prop) (I : Nat → σ → Prop) (e i0 : Nat) (s : σ) (hi : i0 ≤ e) (h0 : I i0 s) (hx : ∀ n s, I e s → W (n + 1) e s)
    (hs : ∀ n i s, i < e → I i s → (∀ s', I (i + 1) s' → W n (i + 1) s') → W (n + 1) i s) : ∃ n, W n i0 s :=
  ⟨e + 1, loop_i W I e hx hs (e + 1) i0 s hi (by omega) h0⟩
theorem ek_if {c d A B : Prop} (e : c ↔ d) (f : d → A) (g : ¬ d → B) : (c → A) ∧ (¬ c → B) :=
  ⟨fun z => f (e.mp z), fun z => g (fun y => z (e.mpr y))⟩
theorem ek_v {α : Sort _} {P : α → Prop} {a b : α} (e : a = b) (h : P b) : P a := e ▸ h
theorem sb_m1 {p : Nat} (h : 0 < p) : nI p + (-1) = nI (p - 1) := by
  obtain ⟨q, rfl⟩ : ∃ q, p = q + 1 := ⟨p - 1, by omega⟩
  exact pk_m1 q
theorem s_l : ∀ n, n < 32 → ((nI n &&& 31).toBitVec.smod 32).toNat = n := by decide +kernel
theorem nx_and (a b : Nat) : nI a &&& nI b = nI (a &&& b) := by
  apply Int32.toBitVec_inj.1
  show BitVec.ofNat 32 a &&& BitVec.ofNat 32 b = BitVec.ofNat 32 (a &&& b)
  apply BitVec.eq_of_getLsbD_eq
  intro i hi
  simp [hi]
theorem nx_xor (a b : Nat) : nI a ^^^ nI b = nI (a ^^^ b) := by
  apply Int32.toBitVec_inj.1
  show BitVec.ofNat 32 a ^^^ BitVec.ofNat 32 b = BitVec.ofNat 32 (a ^^^ b)
  apply BitVec.eq_of_getLsbD_eq
  intro i hi
  simp [hi]
theorem wb_tb (n : Nat) : (lN n).toBitVec = BitVec.ofNat 64 n := rfl
theorem wb_inj {a b : Int64} (h : a.toBitVec = b.toBitVec) : a = b := Int64.toBitVec_inj.mp h
theorem wb_tn {n : Nat} (h : n < 2 ^ 64) : (lN n).toBitVec.toNat = n := by rw [wb_tb, BitVec.toNat_ofNat, Nat.mod_eq_of_lt h]
theorem wb_c : ∀ k, k < 64 → ((nI k).toInt64 &&& 63) = lN k := by decide +kernel
theorem wb_sm : ∀ k, k < 64 → (BitVec.ofNat 64 k).smod 64 = BitVec.ofNat 64 k := by decide +kernel
theorem wb_shl (n : Nat) {k : Nat} (hk : k < 64) : lN n <<< ((nI k).toInt64 &&& 63) = lN (n * 2 ^ k) := by
  rw [wb_c k hk]
  apply wb_inj
  rw [Int64.toBitVec_shiftLeft, wb_tb, wb_tb, wb_tb, wb_sm k hk]
  apply BitVec.eq_of_toNat_eq
  rw [BitVec.shiftLeft_eq', BitVec.toNat_shiftLeft, BitVec.toNat_ofNat, BitVec.toNat_ofNat, BitVec.toNat_ofNat, Nat.mod_eq_of_lt (show k < 2 ^ 64 by omega), Nat.shiftLeft_eq, Nat.mul_mod, Nat.mod_mod, ← Nat.mul_mod]
theorem wb_and {a b : Nat} (ha : a < 2 ^ 64) (hb : b < 2 ^ 64) : lN a &&& lN b = lN (a &&& b) := by
  apply wb_inj
  rw [Int64.toBitVec_and, wb_tb, wb_tb, wb_tb]
  apply BitVec.eq_of_toNat_eq
  rw [BitVec.toNat_and, BitVec.toNat_ofNat, BitVec.toNat_ofNat, BitVec.toNat_ofNat, Nat.mod_eq_of_lt ha, Nat.mod_eq_of_lt hb, Nat.mod_eq_of_lt (Nat.and_lt_two_pow _ hb)]
theorem wb_or {a b : Nat} (ha : a < 2 ^ 64) (hb : b < 2 ^ 64) : lN a ||| lN b = lN (a ||| b) := by
  apply wb_inj
  rw [Int64.toBitVec_or, wb_tb, wb_tb, wb_tb]
  apply BitVec.eq_of_toNat_eq
  rw [BitVec.toNat_or, BitVec.toNat_ofNat, BitVec.toNat_ofNat, BitVec.toNat_ofNat, Nat.mod_eq_of_lt ha, Nat.mod_eq_of_lt hb, Nat.mod_eq_of_lt (Nat.or_lt_two_pow ha hb)]
theorem u_tn {n : Nat} (h : n < 2 ^ 64) : (UInt64.ofNat n).toNat = n := Nat.mod_eq_of_lt h
theorem g_and {a b c : Nat} (ha : a < 2 ^ 64) (hb : b < 2 ^ 64) (hc : a &&& b = c) : lN a &&& lN b = lN c := by
  subst hc
  have h : UInt64.ofNat a &&& UInt64.ofNat b = UInt64.ofNat (a &&& b) := UInt64.toNat_inj.mp (by rw [UInt64.toNat_and, u_tn ha, u_tn hb, u_tn (Nat.and_lt_two_pow a hb)])
  have h2 := congrArg UInt64.toInt64 h
  exact h2
theorem g_mask {a s p : Nat} (hp : 2 ^ s = p) (hs : s < 64) (ha : a < 2 ^ 64) : lN a &&& lN (p - 1) = lN (a % p) := by
  subst hp
  have := Nat.pow_lt_pow_right (show 1 < 2 by decide) hs
  exact g_and ha (by omega) (Nat.and_two_pow_sub_one_eq_mod a s)
theorem g_or {k p a b : Nat} (hp : 2 ^ k = p) (ha : a < p) (h : b * p + a < 2 ^ 64) : lN (b * p) ||| lN a = lN (b * p + a) := by
  subst hp
  have h1 : b * 2 ^ k ||| a = b * 2 ^ k + a := by rw [← Nat.shiftLeft_eq, Nat.shiftLeft_add_eq_or_of_lt ha]
  have h3 : UInt64.ofNat (b * 2 ^ k) ||| UInt64.ofNat a = UInt64.ofNat (b * 2 ^ k + a) := UInt64.toNat_inj.mp (by rw [UInt64.toNat_or, u_tn (by omega), u_tn (by omega), u_tn h, h1])
  have h2 := congrArg UInt64.toInt64 h3
  exact h2
theorem g_or' {k p a b : Nat} (hp : 2 ^ k = p) (ha : a < p) (h : a + b * p < 2 ^ 64) : lN a ||| lN (b * p) = lN (a + b * p) := by
  rw [Int64.or_comm, g_or hp ha (by omega), Nat.add_comm]
theorem pf_lI {a : Nat} (h : a < 2 ^ 63) : (lN a).toInt = (a : Int) := lg_ofNat_toInt h
theorem pf_shr {a d : Nat} {D : Int64} (hD : (D.toBitVec.smod 64).toNat = d) (h : a < 2 ^ 62) : lN a >>> D = lN (a / 2 ^ d) := by
  have hd : a / 2 ^ d ≤ a := Nat.div_le_self _ _
  apply Int64.toInt_inj.mp
  have e : (lN a >>> D).toInt = (lN a).toInt >>> d := by
    rw [← hD]
    exact BitVec.toInt_sshiftRight ..
  rw [e, Int.shiftRight_eq_div_pow, pf_lI (by omega), pf_lI (by omega)]
  rfl
end
section
-- to stand before this part (rows to paste, by name): pk_us pk_un pk_uLs pk_uLn pk_sub pk_m1 pk_mul pk_le pk_lt pk_eq pk_in pk_cl pk_tn pk_shl pk_shlN pk_shr pk_shrN pk_ix pk_loop, s_l nx_and nx_xor
/-! masks: Int32 and Nat -/
theorem bi_or (a b : Nat) : nI a ||| nI b = nI (a ||| b) := by
  apply Int32.toBitVec_inj.1
  show BitVec.ofNat 32 a ||| BitVec.ofNat 32 b = BitVec.ofNat 32 (a ||| b)
  apply BitVec.eq_of_getLsbD_eq
  intro i hi
  simp [hi]
/-- a without b -/
def bi_d (a b : Nat) : Nat := a ^^^ (a &&& b)
theorem bi_dT (a b i : Nat) : (bi_d a b).testBit i = (a.testBit i && !b.testBit i) := by
  unfold bi_d
  rw [Nat.testBit_xor, Nat.testBit_and]
  cases a.testBit i <;> cases b.testBit i <;> rfl
theorem bi_m1 : (-1 : Int32).toBitVec = BitVec.allOnes 32 := by decide
theorem bi_not (a b : Nat) : nI a &&& (nI b ^^^ (-1)) = nI (bi_d a b) := by
  apply Int32.toBitVec_inj.1
  rw [Int32.toBitVec_and, Int32.toBitVec_xor, bi_m1]
  show BitVec.ofNat 32 a &&& (BitVec.ofNat 32 b ^^^ BitVec.allOnes 32) = BitVec.ofNat 32 (bi_d a b)
  apply BitVec.eq_of_getLsbD_eq
  intro i hi
  rw [BitVec.getLsbD_and, BitVec.getLsbD_xor, BitVec.getLsbD_allOnes, BitVec.getLsbD_ofNat, BitVec.getLsbD_ofNat, BitVec.getLsbD_ofNat, bi_dT]
  simp [hi]
theorem bi_dlt {a b n : Nat} (h : a < 2 ^ n) : bi_d a b < 2 ^ n := by
  unfold bi_d
  exact Nat.xor_lt_two_pow h (Nat.lt_of_le_of_lt Nat.and_le_left h)
theorem bi_1 {k : Nat} (h : k < 31) : (1 : Int32) <<< (nI k &&& 31) = nI (2 ^ k) := by
  have l : 2 ^ k < 2 ^ 32 := Nat.pow_lt_pow_right (by omega) (by omega)
  have := pk_shlN (n := 1) (nI k &&& 31) k (s_l k (by omega)) (by omega)
  rw [Nat.one_mul] at this
  exact this
theorem bi_bit {a k : Nat} (ha : a < 2 ^ 31) (hk : k < 32) : (nI a >>> (nI k &&& 31)) &&& 1 = (if a.testBit k = true then 1 else 0) := by
  rw [pk_shrN ha _ k (s_l k hk)]
  show nI (a / 2 ^ k) &&& nI 1 = _
  rw [nx_and, Nat.and_one_is_mod, Nat.testBit_eq_decide_div_mod_eq]
  generalize a / 2 ^ k = z
  have : z % 2 = 0 ∨ z % 2 = 1 := by omega
  rcases this with e | e
  · rw [e]; rfl
  · rw [e]; rfl
theorem bi_b1 {a k : Nat} (ha : a < 2 ^ 31) (hk : k < 32) : ((nI a >>> (nI k &&& 31)) &&& 1 = 1) ↔ a.testBit k = true := by
  rw [bi_bit ha hk]
  split
  · rename_i h; exact ⟨fun _ => h, fun _ => rfl⟩
  · rename_i h; exact ⟨fun q => absurd q (by decide), fun q => absurd q h⟩
theorem bi_b0 {a k : Nat} (ha : a < 2 ^ 31) (hk : k < 32) : ((nI a >>> (nI k &&& 31)) &&& 1 = 0) ↔ ¬ a.testBit k = true := by
  rw [bi_bit ha hk]
  split
  · rename_i h; exact ⟨fun q => absurd q (by decide), fun q => absurd h q⟩
  · rename_i h; exact ⟨fun _ => h, fun _ => rfl⟩
theorem bi_z {a : Nat} (ha : a < 2 ^ 31) : nI a = 0 ↔ a = 0 := by
  rw [← nI_0, nI_eq ha (by omega)]
theorem bi_all {n : Nat} (h : n < 31) : (1 : Int32) <<< (nI n &&& 31) - 1 = nI (2 ^ n - 1) := by
  rw [bi_1 h]
  have : 1 ≤ 2 ^ n := Nat.one_le_two_pow
  show nI (2 ^ n) - nI 1 = _
  exact pk_sub this
theorem bi_allT (n i : Nat) : (2 ^ n - 1).testBit i = decide (i < n) := Nat.testBit_two_pow_sub_one n i
/-! the two ends of a line as a mask -/
def bi_e (a b : Nat) : Nat := 2 ^ a ||| 2 ^ b
theorem bi_eT (a b i : Nat) : (bi_e a b).testBit i = true ↔ (i = a ∨ i = b) := by
  unfold bi_e
  rw [Nat.testBit_or, Nat.testBit_two_pow, Nat.testBit_two_pow]
  simp
  constructor
  · rintro (h | h)
    · exact Or.inl h.symm
    · exact Or.inr h.symm
  · rintro (h | h)
    · exact Or.inl h.symm
    · exact Or.inr h.symm
/-- a mask is not 0 if and only if it has a bit -/
theorem bi_nz (a : Nat) : a ≠ 0 ↔ ∃ i, a.testBit i = true := by
  constructor
  · intro h
    exact Nat.exists_testBit_of_ne_zero h
  · rintro ⟨i, h⟩ e
    rw [e, Nat.zero_testBit] at h
    cases h
theorem bi_enz (a b s : Nat) : (bi_e a b &&& s ≠ 0) ↔ (s.testBit a = true ∨ s.testBit b = true) := by
  rw [bi_nz]
  constructor
  · rintro ⟨i, h⟩
    rw [Nat.testBit_and, Bool.and_eq_true, bi_eT] at h
    rcases h with ⟨h | h, g⟩
    · rw [h] at g; exact Or.inl g
    · rw [h] at g; exact Or.inr g
  · rintro (h | h)
    · exact ⟨a, by rw [Nat.testBit_and, Bool.and_eq_true, bi_eT]; exact ⟨Or.inl rfl, h⟩⟩
    · exact ⟨b, by rw [Nat.testBit_and, Bool.and_eq_true, bi_eT]; exact ⟨Or.inr rfl, h⟩⟩
theorem bi_ed0 (a b s : Nat) : (bi_d (bi_e a b) s = 0) ↔ (s.testBit a = true ∧ s.testBit b = true) := by
  have h := bi_nz (bi_d (bi_e a b) s)
  constructor
  · intro e
    constructor
    · apply Classical.byContradiction
      intro n
      exact h.mpr ⟨a, by rw [bi_dT, Bool.and_eq_true, bi_eT]; exact ⟨Or.inl rfl, by simpa using n⟩⟩ e
    · apply Classical.byContradiction
      intro n
      exact h.mpr ⟨b, by rw [bi_dT, Bool.and_eq_true, bi_eT]; exact ⟨Or.inr rfl, by simpa using n⟩⟩ e
  · rintro ⟨e, f⟩
    apply Classical.byContradiction
    intro n
    obtain ⟨i, hi⟩ := h.mp n
    rw [bi_dT, Bool.and_eq_true, bi_eT] at hi
    rcases hi with ⟨q | q, w⟩
    · rw [q, e] at w; cases w
    · rw [q, f] at w; cases w
end
section
/-! counting below a bound -/
def mt_c (P : Nat → Bool) : Nat → Nat
  | 0 => 0
  | n + 1 => mt_c P n + (if P n = true then 1 else 0)
theorem mt_cS (P : Nat → Bool) (n : Nat) : mt_c P (n + 1) = mt_c P n + (if P n = true then 1 else 0) := rfl
theorem mt_c_congr {P Q : Nat → Bool} : ∀ n, (∀ i, i < n → P i = Q i) → mt_c P n = mt_c Q n := by
  intro n
  induction n with
  | zero => intro _; rfl
  | succ n ih =>
    intro h
    rw [mt_cS, mt_cS, ih (fun i hi => h i (by omega)), h n (by omega)]
theorem mt_c_add (P : Nat → Bool) (m : Nat) : ∀ n, mt_c P (m + n) = mt_c P m + mt_c (fun i => P (m + i)) n := by
  intro n
  induction n with
  | zero => rfl
  | succ n ih =>
    show mt_c P ((m + n) + 1) = _
    rw [mt_cS, mt_cS, ih]
    omega
theorem mt_c_0 {P : Nat → Bool} : ∀ n, (∀ i, i < n → P i = false) → mt_c P n = 0 := by
  intro n
  induction n with
  | zero => intro _; rfl
  | succ n ih =>
    intro h
    rw [mt_cS, ih (fun i hi => h i (by omega)), h n (by omega)]
    rfl
theorem mt_c_z {P : Nat → Bool} : ∀ n, mt_c P n = 0 → ∀ i, i < n → P i = false := by
  intro n
  induction n with
  | zero => intro _ i hi; omega
  | succ n ih =>
    intro h i hi
    rw [mt_cS] at h
    by_cases e : i = n
    · rw [e]
      by_cases q : P n = true
      · rw [if_pos q] at h; omega
      · simpa using q
    · exact ih (by omega) i (by omega)
theorem mt_c_but {P Q : Nat → Bool} (x : Nat) : ∀ n, x < n → P x = true → Q x = false → (∀ i, i < n → i ≠ x → Q i = P i) → mt_c Q n + 1 = mt_c P n := by
  intro n
  induction n with
  | zero => intro h; omega
  | succ n ih =>
    intro hx hp hq h
    rw [mt_cS, mt_cS]
    by_cases e : x = n
    · subst e
      rw [mt_c_congr x (fun i hi => h i (by omega) (by omega)), hp, hq]
      rfl
    · have := ih (by omega) hp hq (fun i hi hn => h i (by omega) hn)
      rw [h n (by omega) (fun q => e q.symm)]
      omega
theorem mt_c_le {P Q : Nat → Bool} : ∀ n, (∀ i, i < n → P i = true → Q i = true) → mt_c P n ≤ mt_c Q n := by
  intro n
  induction n with
  | zero => intro _; exact Nat.le_refl _
  | succ n ih =>
    intro h
    have a := ih (fun i hi => h i (by omega))
    rw [mt_cS, mt_cS]
    by_cases e : P n = true
    · rw [if_pos e, if_pos (h n (by omega) e)]; omega
    · rw [if_neg e]; omega
theorem mt_c_lt {P Q : Nat → Bool} {x : Nat} : ∀ n, (∀ i, i < n → P i = true → Q i = true) → x < n → P x = false → Q x = true → mt_c P n + 1 ≤ mt_c Q n := by
  intro n
  induction n with
  | zero => intro _ h; omega
  | succ n ih =>
    intro h hx hp hq
    rw [mt_cS, mt_cS]
    by_cases e : x = n
    · subst e
      have a := mt_c_le x (fun i hi => h i (by omega))
      rw [if_neg (by rw [hp]; exact fun z => by cases z), if_pos hq]
      omega
    · have a := ih (fun i hi => h i (by omega)) (by omega) hp hq
      by_cases f : P n = true
      · rw [if_pos f, if_pos (h n (by omega) f)]; omega
      · rw [if_neg f]; omega
theorem mt_c_n (P : Nat → Bool) : ∀ n, mt_c P n ≤ n := by
  intro n
  induction n with
  | zero => exact Nat.le_refl _
  | succ n ih => rw [mt_cS]; split <;> omega
theorem mt_c_full {P : Nat → Bool} : ∀ n, n ≤ mt_c P n → ∀ i, i < n → P i = true := by
  intro n
  induction n with
  | zero => intro _ i hi; omega
  | succ n ih =>
    intro h i hi
    have b := mt_c_n P n
    rw [mt_cS] at h
    by_cases e : P n = true
    · rw [if_pos e] at h
      by_cases f : i = n
      · rw [f]; exact e
      · exact ih (by omega) i (by omega)
    · rw [if_neg e] at h; omega
end
section
/-! points and lines: what lines keep together, and rounds that reach it -/
noncomputable def gr_b (P : Prop) : Bool := @decide P (Classical.propDecidable P)
theorem gr_bT {P : Prop} : gr_b P = true ↔ P := by
  unfold gr_b
  exact @decide_eq_true_iff P (Classical.propDecidable P)
theorem gr_bF {P : Prop} : gr_b P = false ↔ ¬ P := by
  unfold gr_b
  exact @decide_eq_false_iff_not P (Classical.propDecidable P)
theorem gr_bC {P Q : Prop} (h : P ↔ Q) : gr_b P = gr_b Q := by
  rw [propext h]
/-- S is kept whole by the lines of u between points of q -/
def gr_C (a b : Nat → Nat) (u q : Nat → Prop) (S : Nat → Prop) : Prop := ∀ k, u k → q (a k) → q (b k) → (S (a k) ↔ S (b k))
def gr_R (a b : Nat → Nat) (u q : Nat → Prop) (x y : Nat) : Prop := ∀ S : Nat → Prop, gr_C a b u q S → S x → S y
section
variable {a b : Nat → Nat} {u q : Nat → Prop}
theorem gr_rf (x : Nat) : gr_R a b u q x x := fun _ _ h => h
theorem gr_tr {x y z : Nat} (h : gr_R a b u q x y) (g : gr_R a b u q y z) : gr_R a b u q x z := fun S c s => g S c (h S c s)
theorem gr_sy {x y : Nat} (h : gr_R a b u q x y) : gr_R a b u q y x := by
  intro S c s
  apply Classical.byContradiction
  intro n
  exact h (fun p => ¬ S p) (fun k hk ha hb => not_congr (c k hk ha hb)) n s
theorem gr_ln {k : Nat} (hk : u k) (ha : q (a k)) (hb : q (b k)) : gr_R a b u q (a k) (b k) := fun _ c s => (c k hk ha hb).mp s
theorem gr_ln' {k : Nat} (hk : u k) (ha : q (a k)) (hb : q (b k)) : gr_R a b u q (b k) (a k) := fun _ c s => (c k hk ha hb).mpr s
theorem gr_RC (x : Nat) : gr_C a b u q (gr_R a b u q x) := fun k hk ha hb => ⟨fun h => gr_tr h (gr_ln hk ha hb), fun h => gr_tr h (gr_ln' hk ha hb)⟩
theorem gr_mono {v r : Nat → Prop} (hu : ∀ k, u k → q (a k) → q (b k) → v k ∧ r (a k) ∧ r (b k)) {x y : Nat} (h : gr_R a b u q x y) : gr_R a b v r x y := fun S c s => h S (fun k hk ha hb => c k (hu k hk ha hb).1 (hu k hk ha hb).2.1 (hu k hk ha hb).2.2) s
theorem gr_in (hq : ∀ k, u k → q (a k) → q (b k) → True) {x y : Nat} (h : gr_R a b u q x y) (hx : q x) : q y := h q (fun _ _ ha hb => ⟨fun _ => hb, fun _ => ha⟩) hx
end
/-! rounds -/
def gr_it (f : Nat → Nat) : Nat → Nat → Nat
  | 0, s => s
  | i + 1, s => f (gr_it f i s)
/-- f is a round: keeps what it has, reaches the other end of a line, reaches no more than it must; all within eight points -/
def gr_rd (a b : Nat → Nat) (u q : Nat → Prop) (f : Nat → Nat) : Prop :=
  (∀ s p, q p → s.testBit p = true → (f s).testBit p = true) ∧
  (∀ s k, u k → q (a k) → q (b k) → (s.testBit (a k) = true → (f s).testBit (b k) = true) ∧ (s.testBit (b k) = true → (f s).testBit (a k) = true)) ∧
  (∀ s (S : Nat → Prop), gr_C a b u q S → (∀ p, s.testBit p = true → q p ∧ S p) → ∀ p, (f s).testBit p = true → q p ∧ S p)
section
variable {a b : Nat → Nat} {u q : Nat → Prop} {f : Nat → Nat}
theorem gr_itS (h : gr_rd a b u q f) {s : Nat} (hs : ∀ p, s.testBit p = true → q p) {S : Nat → Prop} (c : gr_C a b u q S) (g : ∀ p, s.testBit p = true → S p) : ∀ i p, (gr_it f i s).testBit p = true → q p ∧ S p := by
  intro i
  induction i with
  | zero => intro p hp; exact ⟨hs p hp, g p hp⟩
  | succ i ih => exact h.2.2 _ S c ih
theorem gr_itG (h : gr_rd a b u q f) {s : Nat} (hs : ∀ p, s.testBit p = true → q p) : ∀ i p, s.testBit p = true → (gr_it f i s).testBit p = true := by
  intro i
  induction i with
  | zero => intro p hp; exact hp
  | succ i ih => intro p hp; exact h.1 _ p (hs p hp) (ih p hp)
theorem gr_itC (h : gr_rd a b u q f) (h8 : ∀ p, q p → p < 8) {s : Nat} (hs : ∀ p, s.testBit p = true → q p) : ∀ i, gr_C a b u q (fun p => (gr_it f i s).testBit p = true) ∨ mt_c (fun p => s.testBit p) 8 + i ≤ mt_c (fun p => (gr_it f i s).testBit p) 8 := by
  intro i
  induction i with
  | zero => exact Or.inr (Nat.le_refl _)
  | succ i ih =>
    have qi : ∀ p, (gr_it f i s).testBit p = true → q p := fun p hp => (gr_itS h hs (S := fun _ => True) (fun _ _ _ _ => Iff.rfl) (fun _ _ => trivial) i p hp).1
    by_cases c : gr_C a b u q (fun p => (gr_it f i s).testBit p = true)
    · left
      have e : ∀ p, (gr_it f (i + 1) s).testBit p = true ↔ (gr_it f i s).testBit p = true := by
        intro p
        constructor
        · intro hp
          exact (h.2.2 (gr_it f i s) _ c (fun p hp => ⟨qi p hp, hp⟩) p hp).2
        · intro hp
          exact h.1 _ p (qi p hp) hp
      intro k hk ha hb
      exact (e _).trans ((c k hk ha hb).trans (e _).symm)
    · right
      rcases ih with ih | ih
      · exact absurd ih c
      · have : ∃ x, x < 8 ∧ (gr_it f i s).testBit x = false ∧ (gr_it f (i + 1) s).testBit x = true := by
          apply Classical.byContradiction
          intro n
          apply c
          intro k hk ha hb
          have st := h.2.1 (gr_it f i s) k hk ha hb
          constructor
          · intro t
            apply Classical.byContradiction
            intro nt
            exact n ⟨b k, h8 _ hb, by simpa using nt, st.1 t⟩
          · intro t
            apply Classical.byContradiction
            intro nt
            exact n ⟨a k, h8 _ ha, by simpa using nt, st.2 t⟩
        obtain ⟨x, hx, x1, x2⟩ := this
        have := mt_c_lt (P := fun p => (gr_it f i s).testBit p) (Q := fun p => (gr_it f (i + 1) s).testBit p) 8 (fun p _ hp => h.1 _ p (qi p hp) hp) hx x1 x2
        omega
/-- seven rounds, or more, reach all that is to be reached -/
theorem gr_itT (h : gr_rd a b u q f) (h8 : ∀ p, q p → p < 8) {s : Nat} (hs : ∀ p, s.testBit p = true → q p) {i : Nat} (hi : 7 ≤ i) (p : Nat) : (gr_it f i s).testBit p = true ↔ ∃ x, s.testBit x = true ∧ gr_R a b u q x p := by
  have c : gr_C a b u q (fun p => (gr_it f i s).testBit p = true) := by
    rcases gr_itC h h8 hs i with c | c
    · exact c
    · by_cases z : mt_c (fun p => s.testBit p) 8 = 0
      · have e : ∀ p, ¬ s.testBit p = true := by
          intro p hp
          have := mt_c_z 8 z p (h8 p (hs p hp))
          rw [this] at hp
          cases hp
        have e' : ∀ p, ¬ (gr_it f i s).testBit p = true := fun p hp => (gr_itS h hs (S := fun _ => False) (fun _ _ _ _ => Iff.rfl) (fun p hp => e p hp) i p hp).2
        intro k _ _ _
        exact ⟨fun t => absurd t (e' _), fun t => absurd t (e' _)⟩
      · have f8 := mt_c_full (P := fun p => (gr_it f i s).testBit p) 8 (by omega)
        intro k hk ha hb
        exact ⟨fun _ => f8 _ (h8 _ hb), fun _ => f8 _ (h8 _ ha)⟩
  constructor
  · intro t
    refine (gr_itS h hs (S := fun p => ∃ x, s.testBit x = true ∧ gr_R a b u q x p) ?_ (fun p hp => ⟨p, hp, gr_rf p⟩) i p t).2
    intro k hk ha hb
    exact ⟨fun ⟨x, h1, h2⟩ => ⟨x, h1, gr_tr h2 (gr_ln hk ha hb)⟩, fun ⟨x, h1, h2⟩ => ⟨x, h1, gr_tr h2 (gr_ln' hk ha hb)⟩⟩
  · rintro ⟨x, h1, h2⟩
    exact h2 _ c (gr_itG h hs i x h1)
end
end
section
/-! how many groups; bridges and hinges -/
theorem gr_least (P : Nat → Prop) : ∀ n, P n → ∃ k, k ≤ n ∧ P k ∧ ∀ j, j < k → ¬ P j := by
  intro n
  induction n using Nat.strongRecOn with
  | _ n ih =>
    intro hn
    by_cases h : ∃ j, j < n ∧ P j
    · obtain ⟨j, hj, pj⟩ := h
      obtain ⟨k, k1, k2, k3⟩ := ih j hj pj
      exact ⟨k, by omega, k2, k3⟩
    · exact ⟨n, Nat.le_refl n, hn, fun j hj pj => h ⟨j, hj, pj⟩⟩
/-- p is the least of its group among the points of q -/
def gr_l (R : Nat → Nat → Prop) (q : Nat → Prop) (p : Nat) : Prop := q p ∧ ∀ r, r < p → q r → ¬ R r p
noncomputable def gr_n (R : Nat → Nat → Prop) (q : Nat → Prop) : Nat := mt_c (fun p => gr_b (gr_l R q p)) 8
def gr_E (R : Nat → Nat → Prop) : Prop := (∀ x, R x x) ∧ (∀ x y, R x y → R y x) ∧ ∀ x y z, R x y → R y z → R x z
theorem gr_RE (a b : Nat → Nat) (u q : Nat → Prop) : gr_E (gr_R a b u q) := ⟨gr_rf, fun _ _ => gr_sy, fun _ _ _ => gr_tr⟩
theorem gr_lex {R : Nat → Nat → Prop} {q : Nat → Prop} (h : gr_E R) {x : Nat} (hx : q x) : ∃ y, y ≤ x ∧ gr_l R q y ∧ R y x := by
  obtain ⟨k, k1, k2, k3⟩ := gr_least (fun y => q y ∧ R y x) x ⟨hx, h.1 x⟩
  refine ⟨k, k1, ⟨k2.1, fun r hr qr rr => k3 r hr ⟨qr, h.2.2 _ _ _ rr k2.2⟩⟩, k2.2⟩
theorem gr_nle {R T : Nat → Nat → Prop} {q : Nat → Prop} (h : ∀ x y, q x → q y → T x y → R x y) : gr_n R q ≤ gr_n T q :=
  mt_c_le 8 (fun p _ hp => by
    have hp := gr_bT.mp hp
    exact gr_bT.mpr ⟨hp.1, fun r hr qr t => hp.2 r hr qr (h r p qr hp.1 t)⟩)
theorem gr_nlt {R T : Nat → Nat → Prop} {q : Nat → Prop} (q8 : ∀ p, q p → p < 8) (hR : gr_E R) (hT : gr_E T) (h : ∀ x y, q x → q y → T x y → R x y) : gr_n R q < gr_n T q ↔ ∃ x y, q x ∧ q y ∧ R x y ∧ ¬ T x y := by
  constructor
  · intro lt
    apply Classical.byContradiction
    intro n
    have : gr_n T q ≤ gr_n R q := gr_nle (fun x y hx hy r => by
      apply Classical.byContradiction
      intro t
      exact n ⟨x, y, hx, hy, r, t⟩)
    omega
  · rintro ⟨x, y, hx, hy, r, t⟩
    obtain ⟨x0, _, lx, tx⟩ := gr_lex hT hx
    obtain ⟨y0, _, ly, ty⟩ := gr_lex hT hy
    have ne : x0 ≠ y0 := by
      intro e
      rw [← e] at ty
      exact t (hT.2.2 _ _ _ (hT.2.1 _ _ tx) ty)
    have r0 : R x0 y0 := hR.2.2 _ _ _ (h _ _ lx.1 hx tx) (hR.2.2 _ _ _ r (hR.2.1 _ _ (h _ _ ly.1 hy ty)))
    have sub : ∀ i, i < 8 → gr_b (gr_l R q i) = true → gr_b (gr_l T q i) = true := fun p _ hp => by
      have hp := gr_bT.mp hp
      exact gr_bT.mpr ⟨hp.1, fun r hr qr t => hp.2 r hr qr (h r p qr hp.1 t)⟩
    by_cases c : x0 < y0
    · exact mt_c_lt (x := y0) 8 sub (q8 _ ly.1) (gr_bF.mpr (fun w => w.2 x0 c lx.1 r0)) (gr_bT.mpr ly)
    · exact mt_c_lt (x := x0) 8 sub (q8 _ lx.1) (gr_bF.mpr (fun w => w.2 y0 (by omega) ly.1 (hR.2.1 _ _ r0))) (gr_bT.mpr lx)
/-- a point taken away -/
theorem gr_nm {R : Nat → Nat → Prop} {q : Nat → Prop} (q8 : ∀ p, q p → p < 8) (hR : gr_E R) {p : Nat} (hp : q p) : gr_n R (fun x => q x ∧ x ≠ p) ≤ gr_n R q ∧ ((∃ x, q x ∧ x ≠ p ∧ R p x) → gr_n R (fun x => q x ∧ x ≠ p) = gr_n R q) := by
  by_cases lp : gr_l R q p
  · -- p is the least of its group
    have m1 : mt_c (fun x => gr_b (gr_l R q x ∧ x ≠ p)) 8 + 1 = gr_n R q := by
      apply mt_c_but p 8 (q8 p hp) (gr_bT.mpr lp) (gr_bF.mpr (fun w => w.2 rfl))
      intro i _ hn
      exact gr_bC ⟨fun w => w.1, fun w => ⟨w, hn⟩⟩
    by_cases ex : ∃ x, (q x ∧ x ≠ p) ∧ R p x
    · obtain ⟨x, hx, rx⟩ := ex
      obtain ⟨z, _, lz, rz⟩ := gr_lex (R := R) (q := fun x => q x ∧ x ≠ p) hR hx
      have pz : R p z := hR.2.2 _ _ _ rx (hR.2.1 _ _ rz)
      have p_lt : p < z := by
        apply Classical.byContradiction
        intro n
        have : z < p := by have := lz.1.2; omega
        exact lp.2 z this lz.1.1 (hR.2.1 _ _ pz)
      have m2 : mt_c (fun x => gr_b (gr_l R q x ∧ x ≠ p)) 8 + 1 = gr_n R (fun x => q x ∧ x ≠ p) := by
        apply mt_c_but z 8 (q8 z lz.1.1) (gr_bT.mpr lz) (gr_bF.mpr (fun w => w.1.2 p p_lt hp pz))
        intro i _ hn
        apply gr_bC
        constructor
        · intro w
          exact ⟨⟨w.1.1, w.2⟩, fun r hr qr => w.1.2 r hr qr.1⟩
        · intro w
          refine ⟨⟨w.1.1, fun r hr qr rr => ?_⟩, w.1.2⟩
          by_cases e : r = p
          · -- then i is in p's group; z and i are both least there without p
            rw [e] at rr
            have iz : R i z := hR.2.2 _ _ _ (hR.2.1 _ _ rr) pz
            by_cases c : i < z
            · exact lz.2 i c w.1 iz
            · exact w.2 z (by omega) lz.1 (hR.2.1 _ _ iz)
          · exact w.2 r hr ⟨qr, e⟩ rr
      omega
    · have e : gr_n R (fun x => q x ∧ x ≠ p) = mt_c (fun x => gr_b (gr_l R q x ∧ x ≠ p)) 8 := by
        apply mt_c_congr
        intro i _
        apply gr_bC
        constructor
        · intro w
          refine ⟨⟨w.1.1, fun r hr qr rr => ?_⟩, w.1.2⟩
          by_cases e : r = p
          · rw [e] at rr
            exact ex ⟨i, w.1, rr⟩
          · exact w.2 r hr ⟨qr, e⟩ rr
        · intro w
          exact ⟨⟨w.1.1, w.2⟩, fun r hr qr => w.1.2 r hr qr.1⟩
      refine ⟨by omega, fun ⟨x, h1, h2, h3⟩ => absurd ⟨x, ⟨h1, h2⟩, h3⟩ ex⟩
  · have e : gr_n R (fun x => q x ∧ x ≠ p) = gr_n R q := by
      apply mt_c_congr
      intro i _
      apply gr_bC
      constructor
      · intro w
        refine ⟨w.1.1, fun r hr qr rr => ?_⟩
        by_cases e : r = p
        · rw [e] at rr hr
          obtain ⟨z, z1, z2, z3⟩ := gr_lex (R := R) (q := q) hR hp
          have zp : z ≠ p := fun e => lp (e ▸ z2)
          exact w.2 z (by omega) ⟨z2.1, zp⟩ (hR.2.2 _ _ _ z3 rr)
        · exact w.2 r hr ⟨qr, e⟩ rr
      · intro w
        refine ⟨⟨w.1, fun e => lp (e ▸ w)⟩, fun r hr qr => w.2 r hr qr.1⟩
    exact ⟨Nat.le_of_eq e, fun _ => e⟩
section
variable {a b : Nat → Nat} {u q : Nat → Prop}
/-- a bridge: more groups without it -/
theorem gr_bridge (q8 : ∀ p, q p → p < 8) {k : Nat} (hk : u k) (ha : q (a k)) (hb : q (b k)) : gr_n (gr_R a b u q) q < gr_n (gr_R a b (fun j => u j ∧ j ≠ k) q) q ↔ ¬ gr_R a b (fun j => u j ∧ j ≠ k) q (a k) (b k) := by
  rw [gr_nlt q8 (gr_RE a b u q) (gr_RE a b _ q) (fun x y _ _ => gr_mono (fun j hj h1 h2 => ⟨hj.1, h1, h2⟩))]
  constructor
  · rintro ⟨x, y, _, _, r, t⟩ w
    apply t
    intro S c s
    refine r S (fun j hj h1 h2 => ?_) s
    by_cases e : j = k
    · rw [e]
      exact ⟨w S c, (gr_sy w) S c⟩
    · exact c j ⟨hj, e⟩ h1 h2
  · intro w
    exact ⟨a k, b k, ha, hb, gr_ln hk ha hb, w⟩
/-- a hinge: two others that it alone joins -/
theorem gr_hinge (q8 : ∀ p, q p → p < 8) {p : Nat} (hp : q p) : gr_n (gr_R a b u q) q < gr_n (gr_R a b u (fun x => q x ∧ x ≠ p)) (fun x => q x ∧ x ≠ p) ↔ ∃ x y, (q x ∧ x ≠ p) ∧ (q y ∧ y ≠ p) ∧ gr_R a b u q x y ∧ ¬ gr_R a b u (fun x => q x ∧ x ≠ p) x y := by
  have l := gr_nlt (q := fun x => q x ∧ x ≠ p) (fun x h => q8 x h.1) (gr_RE a b u q) (gr_RE a b u (fun x => q x ∧ x ≠ p)) (fun x y _ _ => gr_mono (fun j hj h1 h2 => ⟨hj, h1.1, h2.1⟩))
  have m := gr_nm q8 (gr_RE a b u q) hp
  rw [← l]
  constructor
  · intro h
    omega
  · intro h
    obtain ⟨x, y, hx, hy, r, t⟩ := l.mp h
    have px : gr_R a b u q p x := by
      apply Classical.byContradiction
      intro n
      apply t
      intro S c s
      have := r (fun z => S z ∧ ¬ gr_R a b u q p z) (fun j hj h1 h2 => ?_) ⟨s, n⟩
      · exact this.1
      · have rc := gr_RC (a := a) (b := b) (u := u) (q := q) p j hj h1 h2
        by_cases w : gr_R a b u q p (a j)
        · exact ⟨fun z => absurd w z.2, fun z => absurd (rc.mp w) z.2⟩
        · have w' : ¬ gr_R a b u q p (b j) := fun z => w (rc.mpr z)
          have na : a j ≠ p := fun e => w (by rw [e]; exact gr_rf p)
          have nb : b j ≠ p := fun e => w' (by rw [e]; exact gr_rf p)
          have := c j hj ⟨h1, na⟩ ⟨h2, nb⟩
          exact ⟨fun z => ⟨this.mp z.1, w'⟩, fun z => ⟨this.mpr z.1, w⟩⟩
    have := m.2 ⟨x, hx.1, hx.2, px⟩
    omega
end
end
section
/-! the determinant over Nat-indexed matrices, by the first row; facts about columns -/
def dt_sum (f : Nat → Int) : Nat → Int
  | 0 => 0
  | n + 1 => dt_sum f n + f n
def dt_sk (j c : Nat) : Nat := if c < j then c else c + 1
def dt_sg (j : Nat) : Int := if j % 2 = 0 then 1 else -1
def dt_d : Nat → (Nat → Nat → Int) → Int
  | 0, _ => 1
  | n + 1, A => dt_sum (fun j => dt_sg j * A 0 j * dt_d n (fun r c => A (r + 1) (dt_sk j c))) (n + 1)
theorem dt_s (n : Nat) (A : Nat → Nat → Int) : dt_d (n + 1) A = dt_sum (fun j => dt_sg j * A 0 j * dt_d n (fun r c => A (r + 1) (dt_sk j c))) (n + 1) := rfl
theorem dt_sumS (f : Nat → Int) (n : Nat) : dt_sum f (n + 1) = dt_sum f n + f n := rfl
theorem dt_sum_congr {f g : Nat → Int} : ∀ n, (∀ i, i < n → f i = g i) → dt_sum f n = dt_sum g n := by
  intro n
  induction n with
  | zero => intro _; rfl
  | succ n ih =>
    intro h
    rw [dt_sumS, dt_sumS, ih (fun i hi => h i (by omega)), h n (by omega)]
theorem dt_sum_lin (f g : Nat → Int) (s t : Int) : ∀ n, dt_sum (fun j => s * f j + t * g j) n = s * dt_sum f n + t * dt_sum g n := by
  intro n
  induction n with
  | zero => simp [dt_sum]
  | succ n ih =>
    rw [dt_sumS, dt_sumS, dt_sumS, ih]
    grind
theorem dt_sum_0 {f : Nat → Int} : ∀ n, (∀ i, i < n → f i = 0) → dt_sum f n = 0 := by
  intro n
  induction n with
  | zero => intro _; rfl
  | succ n ih =>
    intro h
    rw [dt_sumS, ih (fun i hi => h i (by omega)), h n (by omega)]
    rfl
theorem dt_sum_one {f : Nat → Int} (c : Nat) : ∀ n, c < n → (∀ j, j < n → j ≠ c → f j = 0) → dt_sum f n = f c := by
  intro n
  induction n with
  | zero => intro h; omega
  | succ n ih =>
    intro hc h
    rw [dt_sumS]
    by_cases e : c = n
    · subst e
      rw [dt_sum_0 c (fun i hi => h i (by omega) (by omega))]
      omega
    · rw [ih (by omega) (fun j hj hn => h j (by omega) hn), h n (by omega) (by omega)]
      omega
theorem dt_sum_two {f : Nat → Int} (c : Nat) : ∀ n, c + 1 < n → (∀ j, j < n → j ≠ c → j ≠ c + 1 → f j = 0) → dt_sum f n = f c + f (c + 1) := by
  intro n
  induction n with
  | zero => intro h; omega
  | succ n ih =>
    intro hc h
    rw [dt_sumS]
    by_cases e : n = c + 1
    · subst e
      rw [dt_sum_one c (c + 1) (by omega) (fun i hi hn => h i (by omega) hn (by omega))]
    · rw [ih (by omega) (fun j hj hn hm => h j (by omega) hn hm), h n (by omega) (by omega) (by omega)]
      omega
theorem dt_skne (j c : Nat) : dt_sk j c ≠ j := by
  unfold dt_sk; split <;> omega
theorem dt_sklt {j c n : Nat} (h : c < n) : dt_sk j c < n + 1 := by
  unfold dt_sk; split <;> omega
theorem dt_skat {j c n : Nat} (hc : c < n + 1) (hj : j < n + 1) (e : j ≠ c) : ∃ d, d < n ∧ dt_sk j d = c ∧ ∀ q, q ≠ d → dt_sk j q ≠ c := by
  by_cases h : c < j
  · refine ⟨c, by omega, ?_, ?_⟩
    · unfold dt_sk; split <;> omega
    · intro q hq; unfold dt_sk; split <;> omega
  · refine ⟨c - 1, by omega, ?_, ?_⟩
    · unfold dt_sk; split <;> omega
    · intro q hq; unfold dt_sk; split <;> omega
theorem dt_congr : ∀ (n : Nat) (A B : Nat → Nat → Int), (∀ i j, i < n → j < n → A i j = B i j) → dt_d n A = dt_d n B := by
  intro n
  induction n with
  | zero => intro A B _; rfl
  | succ n ih =>
    intro A B h
    rw [dt_s, dt_s]
    apply dt_sum_congr
    intro j hj
    show dt_sg j * A 0 j * dt_d n (fun r c => A (r + 1) (dt_sk j c)) = dt_sg j * B 0 j * dt_d n (fun r c => B (r + 1) (dt_sk j c))
    rw [h 0 j (by omega) hj, ih (fun r c => A (r + 1) (dt_sk j c)) (fun r c => B (r + 1) (dt_sk j c)) (fun r c hr hc => h (r + 1) (dt_sk j c) (by omega) (dt_sklt hc))]
theorem dt_lin : ∀ (n c : Nat) (A B C : Nat → Nat → Int) (s t : Int), c < n → (∀ i j, j ≠ c → A i j = B i j) → (∀ i j, j ≠ c → A i j = C i j) → (∀ i, A i c = s * B i c + t * C i c) → dt_d n A = s * dt_d n B + t * dt_d n C := by
  intro n
  induction n with
  | zero => intro c A B C s t h; omega
  | succ n ih =>
    intro c A B C s t hc hB hC hA
    rw [dt_s, dt_s, dt_s, ← dt_sum_lin]
    apply dt_sum_congr
    intro j hj
    show dt_sg j * A 0 j * dt_d n (fun r c => A (r + 1) (dt_sk j c)) = s * (dt_sg j * B 0 j * dt_d n (fun r c => B (r + 1) (dt_sk j c))) + t * (dt_sg j * C 0 j * dt_d n (fun r c => C (r + 1) (dt_sk j c)))
    by_cases e : j = c
    · have eB : (fun r q => A (r + 1) (dt_sk j q)) = (fun r q => B (r + 1) (dt_sk j q)) := by
        funext r q
        exact hB _ _ (by rw [← e]; exact dt_skne j q)
      have eC : (fun r q => A (r + 1) (dt_sk j q)) = (fun r q => C (r + 1) (dt_sk j q)) := by
        funext r q
        exact hC _ _ (by rw [← e]; exact dt_skne j q)
      rw [← eB, ← eC, e, hA 0]
      generalize dt_d n (fun r q => A (r + 1) (dt_sk c q)) = D
      grind
    · obtain ⟨d, hd, e1, e2⟩ := dt_skat hc hj e
      have h := ih d (fun r q => A (r + 1) (dt_sk j q)) (fun r q => B (r + 1) (dt_sk j q)) (fun r q => C (r + 1) (dt_sk j q)) s t hd (fun r q hq => hB _ _ (e2 q hq)) (fun r q hq => hC _ _ (e2 q hq)) (fun r => by show A (r + 1) (dt_sk j d) = s * B (r + 1) (dt_sk j d) + t * C (r + 1) (dt_sk j d); rw [e1]; exact hA _)
      rw [h, ← hB 0 j e, ← hC 0 j e]
      generalize dt_d n (fun r q => B (r + 1) (dt_sk j q)) = D
      generalize dt_d n (fun r q => C (r + 1) (dt_sk j q)) = F
      grind
theorem dt_sgS (c : Nat) : dt_sg (c + 1) = - dt_sg c := by
  unfold dt_sg
  split <;> split <;> omega
theorem dt_adj : ∀ (n c : Nat) (A : Nat → Nat → Int), c + 1 < n → (∀ i, A i c = A i (c + 1)) → dt_d n A = 0 := by
  intro n
  induction n with
  | zero => intro c A h; omega
  | succ n ih =>
    intro c A hc hA
    rw [dt_s, dt_sum_two c (n + 1) hc ?_]
    · have e : (fun r q => A (r + 1) (dt_sk c q)) = (fun r q => A (r + 1) (dt_sk (c + 1) q)) := by
        funext r q
        by_cases h : q = c
        · have e1 : dt_sk c q = c + 1 := by unfold dt_sk; split <;> omega
          have e2 : dt_sk (c + 1) q = c := by unfold dt_sk; split <;> omega
          rw [e1, e2]; exact (hA _).symm
        · have e1 : dt_sk c q = dt_sk (c + 1) q := by unfold dt_sk; split <;> split <;> omega
          rw [e1]
      show dt_sg c * A 0 c * dt_d n (fun r q => A (r + 1) (dt_sk c q)) + dt_sg (c + 1) * A 0 (c + 1) * dt_d n (fun r q => A (r + 1) (dt_sk (c + 1) q)) = 0
      rw [← e, ← hA 0, dt_sgS]
      generalize dt_d n (fun r q => A (r + 1) (dt_sk c q)) = D
      grind
    · intro j hj h1 h2
      show dt_sg j * A 0 j * dt_d n (fun r q => A (r + 1) (dt_sk j q)) = 0
      have z : dt_d n (fun r q => A (r + 1) (dt_sk j q)) = 0 := by
        by_cases h : j < c
        · refine ih (c - 1) _ (by omega) (fun i => ?_)
          have e1 : dt_sk j (c - 1) = c := by unfold dt_sk; split <;> omega
          have e2 : dt_sk j (c - 1 + 1) = c + 1 := by unfold dt_sk; split <;> omega
          show A (i + 1) (dt_sk j (c - 1)) = A (i + 1) (dt_sk j (c - 1 + 1))
          rw [e1, e2]; exact hA _
        · refine ih c _ (by omega) (fun i => ?_)
          have e1 : dt_sk j c = c := by unfold dt_sk; split <;> omega
          have e2 : dt_sk j (c + 1) = c + 1 := by unfold dt_sk; split <;> omega
          show A (i + 1) (dt_sk j c) = A (i + 1) (dt_sk j (c + 1))
          rw [e1, e2]; exact hA _
      rw [z]; omega
/-- A with the columns c and c + 1 set to u and v -/
def dt_s2 (A : Nat → Nat → Int) (c : Nat) (u v : Nat → Int) (i j : Nat) : Int := if j = c then u i else if j = c + 1 then v i else A i j
theorem dt_s2_c (A : Nat → Nat → Int) (c : Nat) (u v : Nat → Int) (i : Nat) : dt_s2 A c u v i c = u i := by
  unfold dt_s2; rw [if_pos rfl]
theorem dt_s2_d (A : Nat → Nat → Int) (c : Nat) (u v : Nat → Int) (i : Nat) : dt_s2 A c u v i (c + 1) = v i := by
  unfold dt_s2; rw [if_neg (by omega), if_pos rfl]
theorem dt_s2_o (A : Nat → Nat → Int) (c : Nat) (u v : Nat → Int) (i j : Nat) (h1 : j ≠ c) (h2 : j ≠ c + 1) : dt_s2 A c u v i j = A i j := by
  unfold dt_s2; rw [if_neg h1, if_neg h2]
theorem dt_s2_1 {n c : Nat} (A : Nat → Nat → Int) (u w v : Nat → Int) (h : c + 1 < n) : dt_d n (dt_s2 A c (fun i => u i + w i) v) = dt_d n (dt_s2 A c u v) + dt_d n (dt_s2 A c w v) := by
  have := dt_lin n c (dt_s2 A c (fun i => u i + w i) v) (dt_s2 A c u v) (dt_s2 A c w v) 1 1 (by omega) (fun i j hj => by unfold dt_s2; rw [if_neg hj, if_neg hj]) (fun i j hj => by unfold dt_s2; rw [if_neg hj, if_neg hj]) (fun i => by rw [dt_s2_c, dt_s2_c, dt_s2_c]; omega)
  omega
theorem dt_s2_2 {n c : Nat} (A : Nat → Nat → Int) (u w v : Nat → Int) (h : c + 1 < n) : dt_d n (dt_s2 A c v (fun i => u i + w i)) = dt_d n (dt_s2 A c v u) + dt_d n (dt_s2 A c v w) := by
  have k : ∀ (x y : Nat → Int) (i j : Nat), j ≠ c + 1 → dt_s2 A c v x i j = dt_s2 A c v y i j := by
    intro x y i j hj
    unfold dt_s2
    split
    · rfl
    · simp only [if_neg hj]
  have := dt_lin n (c + 1) (dt_s2 A c v (fun i => u i + w i)) (dt_s2 A c v u) (dt_s2 A c v w) 1 1 h (k _ _) (k _ _) (fun i => by rw [dt_s2_d, dt_s2_d, dt_s2_d]; omega)
  omega
theorem dt_s2_s {n c : Nat} (A : Nat → Nat → Int) (u v : Nat → Int) (h : c + 1 < n) : dt_d n (dt_s2 A c u v) = - dt_d n (dt_s2 A c v u) := by
  have z : ∀ w : Nat → Int, dt_d n (dt_s2 A c w w) = 0 := fun w => dt_adj n c _ h (fun i => by rw [dt_s2_c, dt_s2_d])
  have a := z (fun i => u i + v i)
  rw [dt_s2_1 A u v _ h, dt_s2_2 A u v _ h, dt_s2_2 A u v _ h, z u, z v] at a
  omega
theorem dt_eqc : ∀ (d n c : Nat) (A : Nat → Nat → Int), c + (d + 1) < n → (∀ i, A i c = A i (c + (d + 1))) → dt_d n A = 0 := by
  intro d
  induction d with
  | zero => intro n c A h e; exact dt_adj n c A h e
  | succ d ih =>
    intro n c A h e
    have e0 : A = dt_s2 A (c + (d + 1)) (fun i => A i (c + (d + 1))) (fun i => A i (c + (d + 1) + 1)) := by
      funext i j
      unfold dt_s2
      split
      · rename_i q; rw [q]
      · split
        · rename_i q; rw [q]
        · rfl
    rw [e0, dt_s2_s A _ _ (by omega), ih n c _ (by omega) (fun i => ?_)]
    · rfl
    · rw [dt_s2_c, dt_s2_o A _ _ _ i c (by omega) (by omega)]
      exact e i
theorem dt_eq {n c d : Nat} (A : Nat → Nat → Int) (hc : c < n) (hd : d < n) (hn : c ≠ d) (e : ∀ i, A i c = A i d) : dt_d n A = 0 := by
  by_cases h : c < d
  · have q : c + ((d - c - 1) + 1) = d := by omega
    exact dt_eqc (d - c - 1) n c A (by omega) (fun i => by rw [q]; exact e i)
  · have q : d + ((c - d - 1) + 1) = c := by omega
    exact dt_eqc (c - d - 1) n d A (by omega) (fun i => by rw [q]; exact (e i).symm)
/-- column c gets s times itself and t times column d -/
theorem dt_comb {n c d : Nat} (A B : Nat → Nat → Int) (s t : Int) (hc : c < n) (hd : d < n) (hn : c ≠ d) (h1 : ∀ i j, j ≠ c → B i j = A i j) (h2 : ∀ i, B i c = s * A i c + t * A i d) : dt_d n B = s * dt_d n A := by
  have l := dt_lin n c B A (fun i j => if j = c then A i d else A i j) s t hc h1 (fun i j hj => by rw [h1 i j hj]; show A i j = if j = c then A i d else A i j; rw [if_neg hj]) (fun i => by rw [h2 i]; show s * A i c + t * A i d = s * A i c + t * (if c = c then A i d else A i c); rw [if_pos rfl])
  have z : dt_d n (fun i j => if j = c then A i d else A i j) = 0 := dt_eq _ hc hd hn (fun i => by show (if c = c then A i d else A i c) = (if d = c then A i d else A i d); rw [if_pos rfl, if_neg (fun q => hn q.symm)])
  rw [l, z]
  omega
theorem dt_row0 : ∀ (n r : Nat) (A : Nat → Nat → Int), r < n → (∀ j, j < n → A r j = 0) → dt_d n A = 0 := by
  intro n
  induction n with
  | zero => intro r A h; omega
  | succ n ih =>
    intro r A hr h
    rw [dt_s]
    apply dt_sum_0
    intro j hj
    show dt_sg j * A 0 j * dt_d n (fun r q => A (r + 1) (dt_sk j q)) = 0
    cases r with
    | zero => rw [h j hj]; simp
    | succ r =>
      rw [ih r (fun r q => A (r + 1) (dt_sk j q)) (by omega) (fun q hq => h _ (dt_sklt hq))]
      simp
theorem dt_head (n : Nat) (A : Nat → Nat → Int) (h : ∀ j, 0 < j → j < n + 1 → A 0 j = 0) : dt_d (n + 1) A = A 0 0 * dt_d n (fun r c => A (r + 1) (c + 1)) := by
  rw [dt_s, dt_sum_one 0 (n + 1) (by omega) (fun j hj hn => by show dt_sg j * A 0 j * dt_d n (fun r c => A (r + 1) (dt_sk j c)) = 0; rw [h j (by omega) hj]; simp)]
  have e : (fun r c => A (r + 1) (dt_sk 0 c)) = (fun r c => A (r + 1) (c + 1)) := by
    funext r c
    have : dt_sk 0 c = c + 1 := by unfold dt_sk; split <;> omega
    rw [this]
  show dt_sg 0 * A 0 0 * dt_d n (fun r c => A (r + 1) (dt_sk 0 c)) = _
  rw [e]
  have : dt_sg 0 = 1 := by unfold dt_sg; simp
  rw [this, Int.one_mul]
theorem dt_id : ∀ (n : Nat) (A : Nat → Nat → Int), (∀ i j, i < n → j < n → A i j = if i = j then 1 else 0) → dt_d n A = 1 := by
  intro n
  induction n with
  | zero => intro A _; rfl
  | succ n ih =>
    intro A h
    rw [dt_head n A (fun j h0 hj => by rw [h 0 j (by omega) hj, if_neg (by omega)]), h 0 0 (by omega) (by omega), if_pos rfl, ih _ (fun i j hi hj => ?_)]
    · rfl
    · rw [h (i + 1) (j + 1) (by omega) (by omega)]
      by_cases e : i = j
      · rw [if_pos e, if_pos (by omega)]
      · rw [if_neg e, if_neg (by omega)]
/-- the columns before k, but x, are cleared in row x by column x -/
def dt_clr (A : Nat → Nat → Int) (x k i j : Nat) : Int := if j < k ∧ j ≠ x then A i j - A x j * A i x else A i j
theorem dt_clrT {n x : Nat} (A : Nat → Nat → Int) (hx : x < n) : ∀ k, k ≤ n → dt_d n (dt_clr A x k) = dt_d n A := by
  intro k
  induction k with
  | zero =>
    intro _
    have e : dt_clr A x 0 = A := by
      funext i j
      unfold dt_clr
      rw [if_neg (by omega)]
    rw [e]
  | succ k ih =>
    intro hk
    rw [← ih (by omega)]
    by_cases e : k = x
    · have e : dt_clr A x (k + 1) = dt_clr A x k := by
        funext i j
        unfold dt_clr
        by_cases h : j < k ∧ j ≠ x
        · rw [if_pos h, if_pos (by omega)]
        · rw [if_neg h, if_neg (by omega)]
      rw [e]
    · rw [dt_comb (c := k) (d := x) (dt_clr A x k) (dt_clr A x (k + 1)) 1 (- A x k) (by omega) hx e (fun i j hj => ?_) (fun i => ?_), Int.one_mul]
      · unfold dt_clr
        by_cases h : j < k ∧ j ≠ x
        · rw [if_pos h, if_pos (by omega)]
        · rw [if_neg h, if_neg (by omega)]
      · have e1 : dt_clr A x (k + 1) i k = A i k - A x k * A i x := by unfold dt_clr; rw [if_pos (by omega)]
        have e2 : dt_clr A x k i k = A i k := by unfold dt_clr; rw [if_neg (by omega)]
        have e3 : dt_clr A x k i x = A i x := by unfold dt_clr; rw [if_neg (by omega)]
        rw [e1, e2, e3]
        grind
theorem dt_unit {n x : Nat} (A B : Nat → Nat → Int) (hx : x < n) (h1 : ∀ i j, j ≠ x → A i j = B i j) (h2 : A x x = B x x) (h3 : ∀ j, j < n → j ≠ x → A x j = 0) : dt_d n A = dt_d n B := by
  have l := dt_lin n x A B (fun i j => if j = x then A i x - B i x else A i j) 1 1 hx h1 (fun i j hj => by show A i j = if j = x then A i x - B i x else A i j; rw [if_neg hj]) (fun i => by show A i x = 1 * B i x + 1 * (if x = x then A i x - B i x else A i x); rw [if_pos rfl]; omega)
  rw [l, dt_row0 n x (fun i j => if j = x then A i x - B i x else A i j) hx (fun j hj => ?_)]
  · omega
  · show (if j = x then A x x - B x x else A x j) = 0
    by_cases e : j = x
    · rw [if_pos e, h2]; omega
    · rw [if_neg e]; exact h3 j hj e
def dt_dl (x i : Nat) : Int := if i = x then 1 else 0
theorem dt_dl1 (x : Nat) : dt_dl x x = 1 := by unfold dt_dl; rw [if_pos rfl]
theorem dt_dl0 {x i : Nat} (h : i ≠ x) : dt_dl x i = 0 := by unfold dt_dl; rw [if_neg h]
/-- x goes into y: the row and the column x are the unit's, those of y take them up -/
def dt_con (A : Nat → Nat → Int) (x y i j : Nat) : Int :=
  if i = x ∨ j = x then (if i = j then 1 else 0) else A i j + dt_dl y j * A i x + dt_dl y i * (A x j + dt_dl y j * A x x)
def dt_q (A : Nat → Nat → Int) (x y : Nat) (u : Nat → Int) (i j : Nat) : Int := if j = x then u i else A i j + dt_dl y j * A i x
theorem dt_qx (A : Nat → Nat → Int) (x y : Nat) (u : Nat → Int) (i : Nat) : dt_q A x y u i x = u i := by unfold dt_q; rw [if_pos rfl]
theorem dt_qn (A : Nat → Nat → Int) {x y j : Nat} (u : Nat → Int) (i : Nat) (h : j ≠ x) : dt_q A x y u i j = A i j + dt_dl y j * A i x := by unfold dt_q; rw [if_neg h]
theorem dt_qy {n x y : Nat} (A : Nat → Nat → Int) (hx : x < n) (hxy : x ≠ y) : dt_d n (dt_q A x y (fun i => A i x)) = dt_d n A := by
  by_cases hy : y < n
  · rw [dt_comb (c := y) (d := x) A (dt_q A x y (fun i => A i x)) 1 1 hy hx (fun q => hxy q.symm) (fun i j hj => ?_) (fun i => ?_), Int.one_mul]
    · by_cases e : j = x
      · rw [e, dt_qx]
      · rw [dt_qn A _ i e, dt_dl0 hj]; omega
    · rw [dt_qn A _ i (fun q => hxy q.symm), dt_dl1]; omega
  · apply dt_congr
    intro i j hi hj
    by_cases e : j = x
    · rw [e, dt_qx]
    · rw [dt_qn A _ i e, dt_dl0 (by omega)]; omega
/-- a line between x and y: without it, and with x in y -/
theorem dt_delcon {n x y : Nat} (A P : Nat → Nat → Int) (hx : x < n) (hxy : x ≠ y) (hP : ∀ i j, P i j = A i j + (dt_dl x i - dt_dl y i) * (dt_dl x j - dt_dl y j)) : dt_d n P = dt_d n A + dt_d n (dt_con A x y) := by
  have hyx : y ≠ x := fun q => hxy q.symm
  have s1 : dt_d n P = dt_d n (dt_q A x y (fun i => A i x + (dt_dl x i - dt_dl y i))) := by
    rw [← dt_qy P hx hxy]
    apply dt_congr
    intro i j hi hj
    by_cases e : j = x
    · rw [e, dt_qx, dt_qx, hP, dt_dl1, dt_dl0 hxy]; omega
    · rw [dt_qn P _ i e, dt_qn A _ i e, hP, hP, dt_dl1, dt_dl0 e, dt_dl0 hxy]
      by_cases f : j = y
      · rw [f, dt_dl1]; omega
      · rw [dt_dl0 f]; omega
  have s2 := dt_lin n x (dt_q A x y (fun i => A i x + (dt_dl x i - dt_dl y i))) (dt_q A x y (fun i => A i x)) (dt_q A x y (fun i => dt_dl x i - dt_dl y i)) 1 1 hx (fun i j hj => by rw [dt_qn A _ i hj, dt_qn A _ i hj]) (fun i j hj => by rw [dt_qn A _ i hj, dt_qn A _ i hj]) (fun i => by rw [dt_qx, dt_qx, dt_qx]; omega)
  rw [dt_qy A hx hxy] at s2
  have s3 := dt_clrT (dt_q A x y (fun i => dt_dl x i - dt_dl y i)) hx n (Nat.le_refl n)
  have s4 : dt_d n (dt_clr (dt_q A x y (fun i => dt_dl x i - dt_dl y i)) x n) = dt_d n (dt_con A x y) := by
    have u := dt_unit (n := n) (x := x) (fun i j => if j = x then dt_dl x i - dt_dl y i else dt_q A x y (fun i => dt_dl x i - dt_dl y i) i j - dt_q A x y (fun i => dt_dl x i - dt_dl y i) x j * (dt_dl x i - dt_dl y i)) (fun i j => if j = x then dt_dl x i else dt_q A x y (fun i => dt_dl x i - dt_dl y i) i j - dt_q A x y (fun i => dt_dl x i - dt_dl y i) x j * (dt_dl x i - dt_dl y i)) hx (fun i j hj => by (try dsimp only); rw [if_neg hj, if_neg hj]) (by (try dsimp only); rw [if_pos rfl, if_pos rfl, dt_dl1, dt_dl0 hxy]; rfl) (fun j hj hn => by (try dsimp only); rw [if_neg hn, dt_dl1, dt_dl0 hxy]; omega)
    rw [dt_congr n (dt_clr (dt_q A x y (fun i => dt_dl x i - dt_dl y i)) x n) _ (fun i j hi hj => ?_), u]
    · apply dt_congr
      intro i j hi hj
      (try dsimp only)
      unfold dt_con
      by_cases e : j = x
      · rw [if_pos e, if_pos (Or.inr e), e]
        rfl
      · rw [if_neg e, dt_qn A _ i e, dt_qn A _ x e]
        by_cases f : i = x
        · rw [if_pos (Or.inl f), if_neg (by omega), f, dt_dl1, dt_dl0 hxy]; omega
        · rw [if_neg (by omega), dt_dl0 f]
          grind
    · unfold dt_clr
      by_cases e : j = x
      · rw [if_neg (by omega), if_pos e, e, dt_qx]
      · rw [if_pos ⟨hj, e⟩, if_neg e, dt_qx]
  omega
/-! Chio's step and Bareiss's cells -/
def dt_chio (A : Nat → Nat → Int) (r c : Nat) : Int := A 0 0 * A (r + 1) (c + 1) - A 0 (c + 1) * A (r + 1) 0
def dt_chk (A : Nat → Nat → Int) (k i j : Nat) : Int := if 0 < j ∧ j ≤ k then A 0 0 * A i j - A 0 j * A i 0 else A i j
theorem dt_chkT (n : Nat) (A : Nat → Nat → Int) : ∀ k, k ≤ n → dt_d (n + 1) (dt_chk A k) = (A 0 0) ^ k * dt_d (n + 1) A := by
  intro k
  induction k with
  | zero =>
    intro _
    have e : dt_chk A 0 = A := by
      funext i j
      unfold dt_chk
      rw [if_neg (by omega)]
    rw [e, Int.pow_zero, Int.one_mul]
  | succ k ih =>
    intro hk
    rw [dt_comb (c := k + 1) (d := 0) (dt_chk A k) (dt_chk A (k + 1)) (A 0 0) (- A 0 (k + 1)) (by omega) (by omega) (by omega) (fun i j hj => ?_) (fun i => ?_), ih (by omega), Int.pow_succ]
    · grind
    · unfold dt_chk
      by_cases h : 0 < j ∧ j ≤ k
      · rw [if_pos h, if_pos (by omega)]
      · rw [if_neg h, if_neg (by omega)]
    · have e1 : dt_chk A (k + 1) i (k + 1) = A 0 0 * A i (k + 1) - A 0 (k + 1) * A i 0 := by unfold dt_chk; rw [if_pos (by omega)]
      have e2 : dt_chk A k i (k + 1) = A i (k + 1) := by unfold dt_chk; rw [if_neg (by omega)]
      have e3 : dt_chk A k i 0 = A i 0 := by unfold dt_chk; rw [if_neg (by omega)]
      rw [e1, e2, e3]
      grind
theorem dt_chioT (n : Nat) (A : Nat → Nat → Int) : A 0 0 * dt_d n (dt_chio A) = (A 0 0) ^ n * dt_d (n + 1) A := by
  rw [← dt_chkT n A n (Nat.le_refl n), dt_head n (dt_chk A n) (fun j h0 hj => ?_)]
  · have e : dt_chk A n 0 0 = A 0 0 := by unfold dt_chk; rw [if_neg (by omega)]
    rw [e, dt_congr n (dt_chio A) (fun r c => dt_chk A n (r + 1) (c + 1)) (fun i j hi hj => ?_)]
    unfold dt_chk dt_chio
    rw [if_pos (by omega)]
  · unfold dt_chk
    rw [if_pos (by omega)]
    grind
/-- the leading rows and columns before d, with row i and column j -/
def dt_bm (A : Nat → Nat → Int) (d i j : Nat) : Int := dt_d (d + 1) (fun r c => A (if r < d then r else i) (if c < d then c else j))
theorem dt_1 (A : Nat → Nat → Int) : dt_d 1 A = A 0 0 := by
  rw [dt_head 0 A (fun j h0 hj => by omega)]
  exact Int.mul_one _
theorem dt_bm0 (A : Nat → Nat → Int) (i j : Nat) : dt_bm A 0 i j = A i j := by
  unfold dt_bm
  rw [dt_1]
  simp
theorem dt_bmd (A : Nat → Nat → Int) (d : Nat) : dt_bm A d d d = dt_d (d + 1) A := by
  unfold dt_bm
  apply dt_congr
  intro i j hi hj
  have e1 : (if i < d then i else d) = i := by split <;> omega
  have e2 : (if j < d then j else d) = j := by split <;> omega
  show A (if i < d then i else d) (if j < d then j else d) = A i j
  rw [e1, e2]
theorem dt_bmC (A : Nat → Nat → Int) (d i j : Nat) (h0 : A 0 0 ≠ 0) : dt_bm (dt_chio A) d i j = (A 0 0) ^ d * dt_bm A (d + 1) (i + 1) (j + 1) := by
  have c := dt_chioT (d + 1) (fun r c => A (if r < d + 1 then r else i + 1) (if c < d + 1 then c else j + 1))
  have e0 : (fun r c => A (if r < d + 1 then r else i + 1) (if c < d + 1 then c else j + 1)) 0 0 = A 0 0 := by
    show A (if 0 < d + 1 then 0 else i + 1) (if 0 < d + 1 then 0 else j + 1) = A 0 0
    rw [if_pos (by omega), if_pos (by omega)]
  have k : ∀ r p : Nat, (if r + 1 < d + 1 then r + 1 else p + 1) = (if r < d then r else p) + 1 := by
    intro r p
    split <;> split <;> omega
  have e1 : dt_chio (fun r c => A (if r < d + 1 then r else i + 1) (if c < d + 1 then c else j + 1)) = (fun r c => dt_chio A (if r < d then r else i) (if c < d then c else j)) := by
    funext r c
    show A (if 0 < d + 1 then 0 else i + 1) (if 0 < d + 1 then 0 else j + 1) * A (if r + 1 < d + 1 then r + 1 else i + 1) (if c + 1 < d + 1 then c + 1 else j + 1) - A (if 0 < d + 1 then 0 else i + 1) (if c + 1 < d + 1 then c + 1 else j + 1) * A (if r + 1 < d + 1 then r + 1 else i + 1) (if 0 < d + 1 then 0 else j + 1) = A 0 0 * A ((if r < d then r else i) + 1) ((if c < d then c else j) + 1) - A 0 ((if c < d then c else j) + 1) * A ((if r < d then r else i) + 1) 0
    rw [if_pos (show 0 < d + 1 by omega), if_pos (show 0 < d + 1 by omega), k, k]
  try dsimp only at c e0
  rw [e0, e1] at c
  have c' : A 0 0 * dt_bm (dt_chio A) d i j = A 0 0 * ((A 0 0) ^ d * dt_bm A (d + 1) (i + 1) (j + 1)) := by
    refine c.trans ?_
    show (A 0 0) ^ (d + 1) * dt_bm A (d + 1) (i + 1) (j + 1) = A 0 0 * ((A 0 0) ^ d * dt_bm A (d + 1) (i + 1) (j + 1))
    rw [Int.pow_succ]
    grind
  exact Int.eq_of_mul_eq_mul_left h0 c'
theorem dt_bar : ∀ (d i j : Nat) (A : Nat → Nat → Int), d < i → d < j → (∀ k, 1 ≤ k → k ≤ d → dt_d k A ≠ 0) → dt_bm A (d + 1) i j * dt_d d A = dt_bm A d i j * dt_d (d + 1) A - dt_bm A d i d * dt_bm A d d j := by
  intro d
  induction d with
  | zero =>
    intro i j A hi hj _
    have c := dt_chioT 1 (fun r c => A (if r < 1 then r else i) (if c < 1 then c else j))
    rw [dt_bm0, dt_bm0, dt_bm0, dt_1]
    show dt_d 2 (fun r c => A (if r < 1 then r else i) (if c < 1 then c else j)) * 1 = _
    rw [dt_1] at c
    have e0 : (fun r c => A (if r < 1 then r else i) (if c < 1 then c else j)) 0 0 = A 0 0 := rfl
    have e1 : dt_chio (fun r c => A (if r < 1 then r else i) (if c < 1 then c else j)) 0 0 = A 0 0 * A i j - A 0 j * A i 0 := rfl
    have e2 : dt_d 2 (fun r c => A (if r < 1 then r else i) (if c < 1 then c else j)) = A 0 0 * A i j - A 0 j * A i 0 := by
      rw [dt_s]
      show 0 + dt_sg 0 * A 0 0 * dt_d 1 (fun r c => A (if r + 1 < 1 then r + 1 else i) (if dt_sk 0 c < 1 then dt_sk 0 c else j)) + dt_sg 1 * A 0 j * dt_d 1 (fun r c => A (if r + 1 < 1 then r + 1 else i) (if dt_sk 1 c < 1 then dt_sk 1 c else j)) = _
      rw [dt_1, dt_1]
      have f0 : dt_sg 0 = 1 := by decide
      have f1 : dt_sg 1 = -1 := by decide
      have g0 : dt_sk 0 0 = 1 := by decide
      have g1 : dt_sk 1 0 = 0 := by decide
      rw [f0, f1, g0, g1]
      simp
      grind
    rw [e2]
    grind
  | succ d ih =>
    intro i j A hi hj hp
    have h0 : A 0 0 ≠ 0 := by rw [← dt_1 A]; exact hp 1 (by omega) (by omega)
    obtain ⟨i, rfl⟩ : ∃ q, i = q + 1 := ⟨i - 1, by omega⟩
    obtain ⟨j, rfl⟩ : ∃ q, j = q + 1 := ⟨j - 1, by omega⟩
    have t : ∀ k, A 0 0 * dt_d k (dt_chio A) = (A 0 0) ^ k * dt_d (k + 1) A := fun k => dt_chioT k A
    have p0 : ∀ k, (A 0 0) ^ k ≠ 0 := fun k => Int.pow_ne_zero h0
    have q := ih i j (dt_chio A) (by omega) (by omega) (fun k h1 h2 z => by
      have w := t k
      rw [z, Int.mul_zero] at w
      exact Int.mul_ne_zero (p0 k) (hp (k + 1) (by omega) (by omega)) w.symm)
    rw [dt_bmC A _ _ _ h0, dt_bmC A _ _ _ h0, dt_bmC A _ _ _ h0, dt_bmC A _ _ _ h0] at q
    have t1 := t d
    have t2 := t (d + 1)
    have z : (A 0 0) ^ (d + 1) * (A 0 0) ^ d ≠ 0 := Int.mul_ne_zero (p0 _) (p0 _)
    apply Int.eq_of_mul_eq_mul_left z
    have q' := congrArg (fun w => A 0 0 * w) q
    (try dsimp only at q')
    rw [Int.pow_succ] at *
    generalize (A 0 0) ^ d = y at *
    generalize A 0 0 = a at *
    generalize dt_d d (dt_chio A) = u1 at *
    generalize dt_d (d + 1) (dt_chio A) = u2 at *
    generalize dt_bm A (d + 1 + 1) (i + 1) (j + 1) = m1 at *
    generalize dt_bm A (d + 1) (i + 1) (j + 1) = m2 at *
    generalize dt_bm A (d + 1) (i + 1) (d + 1) = m3 at *
    generalize dt_bm A (d + 1) (d + 1) (j + 1) = m4 at *
    generalize dt_d (d + 1) A = w1 at *
    generalize dt_d (d + 1 + 1) A = w2 at *
    grind
/-! a bound by the rows' sums -/
theorem dt_sum_sk (f : Nat → Int) : ∀ n j, j < n + 1 → dt_sum (fun c => f (dt_sk j c)) n + f j = dt_sum f (n + 1) := by
  intro n
  induction n with
  | zero =>
    intro j hj
    obtain rfl : j = 0 := by omega
    rfl
  | succ n ih =>
    intro j hj
    by_cases e : j = n + 1
    · subst e
      have e2 : ∀ c, c < n + 1 → f (dt_sk (n + 1) c) = f c := by
        intro c hc
        have : dt_sk (n + 1) c = c := by unfold dt_sk; split <;> omega
        rw [this]
      rw [dt_sum_congr (f := fun c => f (dt_sk (n + 1) c)) (g := f) (n + 1) e2]
      rfl
    · have h := ih j (by omega)
      have e1 : dt_sk j n = n + 1 := by unfold dt_sk; split <;> omega
      rw [dt_sumS, dt_sumS f (n + 1), ← h]
      (try dsimp only)
      rw [e1]
      omega
theorem dt_sum_le {f g : Nat → Int} : ∀ n, (∀ i, i < n → f i ≤ g i) → dt_sum f n ≤ dt_sum g n := by
  intro n
  induction n with
  | zero => intro _; exact Int.le_refl _
  | succ n ih =>
    intro h
    have a := ih (fun i hi => h i (by omega))
    have b := h n (by omega)
    rw [dt_sumS, dt_sumS]
    omega
theorem dt_sum_nn {f : Nat → Int} : ∀ n, (∀ i, i < n → 0 ≤ f i) → 0 ≤ dt_sum f n := by
  intro n
  induction n with
  | zero => intro _; exact Int.le_refl _
  | succ n ih =>
    intro h
    have a := ih (fun i hi => h i (by omega))
    have b := h n (by omega)
    rw [dt_sumS]
    omega
theorem dt_sum_abs (f : Nat → Int) : ∀ n, ((dt_sum f n).natAbs : Int) ≤ dt_sum (fun j => ((f j).natAbs : Int)) n := by
  intro n
  induction n with
  | zero => exact Int.le_refl _
  | succ n ih =>
    rw [dt_sumS, dt_sumS]
    (try dsimp only)
    omega
theorem dt_sum_mulr (f : Nat → Int) (c : Int) : ∀ n, dt_sum (fun j => f j * c) n = dt_sum f n * c := by
  intro n
  induction n with
  | zero => simp [dt_sum]
  | succ n ih => rw [dt_sumS, dt_sumS, ih, Int.add_mul]
theorem dt_bound (K : Int) (hK : 0 ≤ K) : ∀ (n : Nat) (A : Nat → Nat → Int), (∀ i, i < n → dt_sum (fun j => ((A i j).natAbs : Int)) n ≤ K) → ((dt_d n A).natAbs : Int) ≤ K ^ n := by
  intro n
  induction n with
  | zero => intro A _; show (((1 : Int).natAbs : Nat) : Int) ≤ K ^ 0; rw [Int.pow_zero]; decide
  | succ n ih =>
    intro A h
    have m : ∀ j, j < n + 1 → ((dt_d n (fun r c => A (r + 1) (dt_sk j c))).natAbs : Int) ≤ K ^ n := by
      intro j hj
      apply ih
      intro i hi
      have s := dt_sum_sk (fun c => ((A (i + 1) c).natAbs : Int)) n j hj
      have b := h (i + 1) (by omega)
      have p : (0 : Int) ≤ ((A (i + 1) j).natAbs : Int) := Int.natCast_nonneg _
      (try dsimp only at s ⊢)
      omega
    rw [dt_s]
    refine Int.le_trans (dt_sum_abs _ _) ?_
    refine Int.le_trans (dt_sum_le (g := fun j => ((A 0 j).natAbs : Int) * K ^ n) (n + 1) (fun j hj => ?_)) ?_
    · (try dsimp only)
      have e : (dt_sg j * A 0 j * dt_d n (fun r c => A (r + 1) (dt_sk j c))).natAbs = (A 0 j).natAbs * (dt_d n (fun r c => A (r + 1) (dt_sk j c))).natAbs := by
        rw [Int.natAbs_mul, Int.natAbs_mul]
        have : (dt_sg j).natAbs = 1 := by unfold dt_sg; split <;> rfl
        rw [this, Nat.one_mul]
      rw [e, Int.natCast_mul]
      exact Int.mul_le_mul_of_nonneg_left (m j hj) (Int.natCast_nonneg _)
    · rw [dt_sum_mulr, Int.pow_succ, Int.mul_comm (K ^ n) K]
      exact Int.mul_le_mul_of_nonneg_right (h 0 (by omega)) (Int.pow_nonneg hK)
theorem dt_sum_pick (f : Nat → Int) (h : ∀ i, 0 ≤ f i) (d : Nat) : ∀ n j, d ≤ j → j < n → dt_sum f d + f j ≤ dt_sum f n := by
  intro n
  induction n with
  | zero => intro j _ hj; omega
  | succ n ih =>
    intro j hd hj
    rw [dt_sumS]
    by_cases e : j = n
    · subst e
      have : dt_sum f d ≤ dt_sum f j := by
        clear ih hj
        induction j with
        | zero => obtain rfl : d = 0 := by omega
                  exact Int.le_refl _
        | succ j ih =>
          by_cases e : d = j + 1
          · rw [e]; exact Int.le_refl _
          · have a := ih (by omega)
            have b := h j
            rw [dt_sumS]
            omega
      omega
    · have a := ih j hd (by omega)
      have b := h n
      omega
theorem dt_bmB (K : Int) (hK : 0 ≤ K) (m : Nat) (A : Nat → Nat → Int) (h : ∀ i, i < m → dt_sum (fun j => ((A i j).natAbs : Int)) m ≤ K) (d i j : Nat) (hi : d ≤ i) (hj : d ≤ j) (im : i < m) (jm : j < m) : ((dt_bm A d i j).natAbs : Int) ≤ K ^ (d + 1) := by
  unfold dt_bm
  apply dt_bound K hK
  intro r hr
  have rr : (if r < d then r else i) < m := by split <;> omega
  have a := h _ rr
  have b := dt_sum_pick (fun q => ((A (if r < d then r else i) q).natAbs : Int)) (fun q => Int.natCast_nonneg _) d m j hj jm
  rw [dt_sumS]
  (try dsimp only at a b ⊢)
  rw [if_neg (Nat.lt_irrefl d), dt_sum_congr (g := fun q => ((A (if r < d then r else i) q).natAbs : Int)) d (fun c hc => by (try dsimp only); rw [if_pos hc])]
  omega
end
section
/-! Kirchhoff's table by labels: deletion and contraction, and the count of sets of lines -/
section
variable (on : Nat → Bool) (a b : Nat → Nat)
/-- how line k stands at point i, seen by labels -/
def mt_bt (ρ : Nat → Nat) (k i : Nat) : Int := dt_dl (ρ (a k)) i - dt_dl (ρ (b k)) i
/-- the table of the lines before k; a point that isn't its own label has the unit's row -/
def mt_L (ρ : Nat → Nat) : Nat → Nat → Nat → Int
  | 0, i, j => if i = j ∧ ρ i ≠ i then 1 else 0
  | k + 1, i, j => mt_L ρ k i j + (if on k then mt_bt a b ρ k i * mt_bt a b ρ k j else 0)
def mt_mg (ρ : Nat → Nat) (x y i : Nat) : Nat := if ρ i = x then y else ρ i
def mt_V (m : Nat) (ρ : Nat → Nat) : Prop := (∀ i, ρ (ρ i) = ρ i) ∧ ∀ i, ρ i ≤ m
theorem mt_mgV {m : Nat} {ρ : Nat → Nat} (h : mt_V m ρ) {x y : Nat} (hy : ρ y = y) (hx : ρ x = x) (hxy : x ≠ y) (ym : y ≤ m) : mt_V m (mt_mg ρ x y) := by
  refine ⟨fun i => ?_, fun i => ?_⟩
  · unfold mt_mg
    by_cases e : ρ i = x
    · rw [if_pos e, hy, if_neg (fun q => hxy q.symm)]
    · rw [if_neg e, h.1 i, if_neg e]
  · unfold mt_mg
    split
    · exact ym
    · exact h.2 i
theorem mt_mgB (ρ : Nat → Nat) {x y : Nat} (k i : Nat) (hi : i ≠ x) : mt_bt a b (mt_mg ρ x y) k i = mt_bt a b ρ k i + dt_dl y i * mt_bt a b ρ k x := by
  have s : ∀ p, dt_dl (mt_mg ρ x y p) i = dt_dl (ρ p) i + dt_dl y i * dt_dl (ρ p) x := by
    intro p
    unfold mt_mg
    by_cases e : ρ p = x
    · rw [if_pos e, e, dt_dl1, dt_dl0 hi]; omega
    · rw [if_neg e, dt_dl0 (x := ρ p) (i := x) (fun q => e q.symm)]; omega
  unfold mt_bt
  rw [s, s]
  grind
theorem mt_mgX (ρ : Nat → Nat) {x y : Nat} (hxy : x ≠ y) (k : Nat) : mt_bt a b (mt_mg ρ x y) k x = 0 := by
  have s : ∀ p, dt_dl (mt_mg ρ x y p) x = 0 := by
    intro p
    unfold mt_mg
    by_cases e : ρ p = x
    · rw [if_pos e, dt_dl0 hxy]
    · rw [if_neg e, dt_dl0 (fun q => e q.symm)]
  unfold mt_bt
  rw [s, s]
  rfl
theorem mt_mgL (ρ : Nat → Nat) {x y : Nat} (hy : ρ y = y) (hx : ρ x = x) (hxy : x ≠ y) : ∀ k i j, mt_L on a b (mt_mg ρ x y) k i j = dt_con (mt_L on a b ρ k) x y i j := by
  intro k
  induction k with
  | zero =>
    intro i j
    unfold dt_con
    show (if i = j ∧ mt_mg ρ x y i ≠ i then (1 : Int) else 0) = _
    by_cases h : i = x ∨ j = x
    · rw [if_pos h]
      by_cases e : i = j
      · have : mt_mg ρ x y i ≠ i := by
          have : i = x := by omega
          rw [this]
          unfold mt_mg
          rw [if_pos hx]
          exact fun q => hxy q.symm
        rw [if_pos ⟨e, this⟩, if_pos e]
      · rw [if_neg (fun q => e q.1), if_neg e]
    · rw [if_neg h]
      have hi : i ≠ x := fun q => h (Or.inl q)
      have hj : j ≠ x := fun q => h (Or.inr q)
      have z1 : mt_L on a b ρ 0 i x = 0 := by
        show (if i = x ∧ ρ i ≠ i then (1 : Int) else 0) = 0
        rw [if_neg (fun q => hi q.1)]
      have z2 : mt_L on a b ρ 0 x j = 0 := by
        show (if x = j ∧ ρ x ≠ x then (1 : Int) else 0) = 0
        rw [if_neg (fun q => hj q.1.symm)]
      have z3 : mt_L on a b ρ 0 x x = 0 := by
        show (if x = x ∧ ρ x ≠ x then (1 : Int) else 0) = 0
        rw [if_neg (fun q => q.2 hx)]
      have e : (mt_mg ρ x y i ≠ i) ↔ (ρ i ≠ i) := by
        unfold mt_mg
        by_cases e : ρ i = x
        · rw [if_pos e]
          constructor
          · intro _ q; rw [q] at e; exact hi e
          · intro _ q; rw [← q, hy] at e; exact hxy e.symm
        · rw [if_neg e]
      rw [z1, z2, z3]
      show _ = (if i = j ∧ ρ i ≠ i then (1 : Int) else 0) + _ + _
      by_cases f : i = j ∧ ρ i ≠ i
      · rw [if_pos f, if_pos ⟨f.1, e.mpr f.2⟩]; simp
      · rw [if_neg f, if_neg (fun q => f ⟨q.1, e.mp q.2⟩)]; simp
  | succ k ih =>
    intro i j
    show mt_L on a b (mt_mg ρ x y) k i j + (if on k then mt_bt a b (mt_mg ρ x y) k i * mt_bt a b (mt_mg ρ x y) k j else 0) = _
    rw [ih]
    unfold dt_con
    show _ = (if i = x ∨ j = x then (if i = j then (1 : Int) else 0) else (mt_L on a b ρ k i j + (if on k then mt_bt a b ρ k i * mt_bt a b ρ k j else 0)) + dt_dl y j * (mt_L on a b ρ k i x + (if on k then mt_bt a b ρ k i * mt_bt a b ρ k x else 0)) + dt_dl y i * ((mt_L on a b ρ k x j + (if on k then mt_bt a b ρ k x * mt_bt a b ρ k j else 0)) + dt_dl y j * (mt_L on a b ρ k x x + (if on k then mt_bt a b ρ k x * mt_bt a b ρ k x else 0))))
    by_cases h : i = x ∨ j = x
    · rw [if_pos h, if_pos h]
      have z : mt_bt a b (mt_mg ρ x y) k i * mt_bt a b (mt_mg ρ x y) k j = 0 := by
        rcases h with h | h
        · rw [h, mt_mgX a b ρ hxy, Int.zero_mul]
        · rw [h, mt_mgX a b ρ hxy, Int.mul_zero]
      rw [z]
      split <;> omega
    · rw [if_neg h, if_neg h]
      rw [mt_mgB a b ρ k i (fun q => h (Or.inl q)), mt_mgB a b ρ k j (fun q => h (Or.inr q))]
      by_cases o : on k
      · rw [if_pos o, if_pos o, if_pos o, if_pos o, if_pos o]; grind
      · rw [if_neg o, if_neg o, if_neg o, if_neg o, if_neg o]; grind
/-- the number of sets of lines before k that join all labels, by deletion and contraction -/
def mt_x (m : Nat) (ρ : Nat → Nat) (k : Nat) : Nat := if ρ (a k) < m then ρ (a k) else ρ (b k)
def mt_y (m : Nat) (ρ : Nat → Nat) (k : Nat) : Nat := if ρ (a k) < m then ρ (b k) else ρ (a k)
def mt_N (m : Nat) : Nat → (Nat → Nat) → Nat
  | 0, ρ => if (∀ i, i < m → ρ i ≠ i) then 1 else 0
  | k + 1, ρ => mt_N m k ρ + (if on k = true ∧ ρ (a k) ≠ ρ (b k) then mt_N m k (mt_mg ρ (mt_x a b m ρ k) (mt_y a b m ρ k)) else 0)
theorem mt_xy {m : Nat} {ρ : Nat → Nat} (h : mt_V m ρ) {k : Nat} (e : ρ (a k) ≠ ρ (b k)) : mt_x a b m ρ k < m ∧ mt_x a b m ρ k ≠ mt_y a b m ρ k ∧ ρ (mt_x a b m ρ k) = mt_x a b m ρ k ∧ ρ (mt_y a b m ρ k) = mt_y a b m ρ k ∧ mt_y a b m ρ k ≤ m := by
  have ha := h.2 (a k)
  have hb := h.2 (b k)
  unfold mt_x mt_y
  by_cases c : ρ (a k) < m
  · rw [if_pos c, if_pos c]
    exact ⟨c, e, h.1 _, h.1 _, hb⟩
  · rw [if_neg c, if_neg c]
    exact ⟨by omega, fun q => e q.symm, h.1 _, h.1 _, ha⟩
theorem mt_tree (m : Nat) : ∀ (k : Nat) (ρ : Nat → Nat), mt_V m ρ → dt_d m (mt_L on a b ρ k) = (mt_N on a b m k ρ : Int) := by
  intro k
  induction k with
  | zero =>
    intro ρ h
    unfold mt_N
    by_cases c : ∀ i, i < m → ρ i ≠ i
    · rw [if_pos c]
      refine dt_id m _ (fun i j hi hj => ?_)
      show (if i = j ∧ ρ i ≠ i then (1 : Int) else 0) = _
      by_cases e : i = j
      · rw [if_pos ⟨e, c i hi⟩, if_pos e]
      · rw [if_neg (fun q => e q.1), if_neg e]
    · rw [if_neg c]
      have : ∃ i, i < m ∧ ρ i = i := by
        apply Classical.byContradiction
        intro q
        exact c (fun i hi e => q ⟨i, hi, e⟩)
      obtain ⟨i, hi, e⟩ := this
      refine dt_row0 m i _ hi (fun j hj => ?_)
      show (if i = j ∧ ρ i ≠ i then (1 : Int) else 0) = 0
      rw [if_neg (fun q => q.2 e)]
  | succ k ih =>
    intro ρ h
    show dt_d m (mt_L on a b ρ (k + 1)) = ((mt_N on a b m k ρ + (if on k = true ∧ ρ (a k) ≠ ρ (b k) then mt_N on a b m k (mt_mg ρ (mt_x a b m ρ k) (mt_y a b m ρ k)) else 0) : Nat) : Int)
    by_cases c : on k = true ∧ ρ (a k) ≠ ρ (b k)
    · obtain ⟨h1, h2, h3, h4, h5⟩ := mt_xy a b h c.2
      rw [if_pos c, Int.natCast_add, ← ih ρ h, ← ih _ (mt_mgV h h4 h3 h2 h5)]
      have e : mt_L on a b (mt_mg ρ (mt_x a b m ρ k) (mt_y a b m ρ k)) k = dt_con (mt_L on a b ρ k) (mt_x a b m ρ k) (mt_y a b m ρ k) := by
        funext i j
        exact mt_mgL on a b ρ h4 h3 h2 k i j
      rw [e]
      apply dt_delcon _ _ h1 h2
      intro i j
      show mt_L on a b ρ k i j + (if on k = true then mt_bt a b ρ k i * mt_bt a b ρ k j else 0) = _
      rw [if_pos c.1]
      unfold mt_bt mt_x mt_y
      by_cases c : ρ (a k) < m
      · rw [if_pos c, if_pos c]
      · rw [if_neg c, if_neg c]; grind
    · rw [if_neg c]
      show dt_d m (mt_L on a b ρ (k + 1)) = ((mt_N on a b m k ρ : Nat) : Int)
      rw [← ih ρ h]
      apply dt_congr
      intro i j hi hj
      show mt_L on a b ρ k i j + (if on k = true then mt_bt a b ρ k i * mt_bt a b ρ k j else 0) = _
      by_cases o : on k = true
      · have e : ρ (a k) = ρ (b k) := by
          apply Classical.byContradiction
          intro q
          exact c ⟨o, q⟩
        rw [if_pos o]
        unfold mt_bt
        rw [e]
        simp
      · rw [if_neg o]; omega
/-- fewer labels: if the finer labels can be joined, so can the coarser -/
theorem mt_mono {m d : Nat} : ∀ (k : Nat) (ρ σ : Nat → Nat), mt_V m ρ → mt_V d σ → ρ m = m → σ d = d → (∀ i j, ρ i = ρ j → σ i = σ j) → 0 < mt_N on a b m k ρ → 0 < mt_N on a b d k σ := by
  intro k
  induction k with
  | zero =>
    intro ρ σ h g hm hd c p
    unfold mt_N at p ⊢
    by_cases z : ∀ i, i < m → ρ i ≠ i
    · rw [if_pos]
      · omega
      · have all : ∀ i, ρ i = m := by
          intro i
          apply Classical.byContradiction
          intro q
          have := h.2 i
          exact z (ρ i) (by omega) (h.1 i)
        intro i hi e
        have := c i d (by rw [all, all])
        omega
    · rw [if_neg z] at p
      omega
  | succ k ih =>
    intro ρ σ h g hm hd c p
    have p' : 0 < mt_N on a b m k ρ + (if on k = true ∧ ρ (a k) ≠ ρ (b k) then mt_N on a b m k (mt_mg ρ (mt_x a b m ρ k) (mt_y a b m ρ k)) else 0) := p
    show 0 < mt_N on a b d k σ + (if on k = true ∧ σ (a k) ≠ σ (b k) then mt_N on a b d k (mt_mg σ (mt_x a b d σ k) (mt_y a b d σ k)) else 0)
    by_cases q : 0 < mt_N on a b m k ρ
    · have := ih ρ σ h g hm hd c q
      omega
    · by_cases c1 : on k = true ∧ ρ (a k) ≠ ρ (b k)
      · rw [if_pos c1] at p'
        obtain ⟨h1, h2, h3, h4, h5⟩ := mt_xy a b h c1.2
        have hv := mt_mgV h h4 h3 h2 h5
        have hm' : mt_mg ρ (mt_x a b m ρ k) (mt_y a b m ρ k) m = m := by
          unfold mt_mg
          rw [hm, if_neg (by omega)]
        -- how the merged labels compare
        have mm : ∀ (τ : Nat → Nat) (i : Nat), mt_mg ρ (mt_x a b m ρ k) (mt_y a b m ρ k) i = mt_y a b m ρ k ∨ mt_mg ρ (mt_x a b m ρ k) (mt_y a b m ρ k) i = ρ i := by
          intro τ i
          unfold mt_mg
          split
          · exact Or.inl rfl
          · exact Or.inr rfl
        have key : ∀ τ : Nat → Nat, (∀ i j, ρ i = ρ j → τ i = τ j) → τ (a k) = τ (b k) → ∀ i j, mt_mg ρ (mt_x a b m ρ k) (mt_y a b m ρ k) i = mt_mg ρ (mt_x a b m ρ k) (mt_y a b m ρ k) j → τ i = τ j := by
          intro τ ct eq
          have txy : ∀ i, ρ i = mt_x a b m ρ k ∨ ρ i = mt_y a b m ρ k → τ i = τ (a k) := by
            intro i hi
            unfold mt_x mt_y at hi
            by_cases w : ρ (a k) < m
            · rw [if_pos w, if_pos w] at hi
              rcases hi with hi | hi
              · exact ct _ _ hi
              · rw [eq]; exact ct _ _ hi
            · rw [if_neg w, if_neg w] at hi
              rcases hi with hi | hi
              · rw [eq]; exact ct _ _ hi
              · exact ct _ _ hi
          intro i j e
          unfold mt_mg at e
          by_cases ei : ρ i = mt_x a b m ρ k
          · rw [if_pos ei] at e
            by_cases ej : ρ j = mt_x a b m ρ k
            · rw [txy i (Or.inl ei), txy j (Or.inl ej)]
            · rw [if_neg ej] at e
              rw [txy i (Or.inl ei), txy j (Or.inr e.symm)]
          · rw [if_neg ei] at e
            by_cases ej : ρ j = mt_x a b m ρ k
            · rw [if_pos ej] at e
              rw [txy i (Or.inr e), txy j (Or.inl ej)]
            · rw [if_neg ej] at e
              exact ct _ _ e
        by_cases c2 : σ (a k) = σ (b k)
        · have := ih _ σ hv g hm' hd (key σ c c2) (by omega)
          omega
        · obtain ⟨g1, g2, g3, g4, g5⟩ := mt_xy a b g c2
          have gv := mt_mgV g g4 g3 g2 g5
          have hd' : mt_mg σ (mt_x a b d σ k) (mt_y a b d σ k) d = d := by
            unfold mt_mg
            rw [hd, if_neg (by omega)]
          rw [if_pos ⟨c1.1, c2⟩]
          have := ih _ _ hv gv hm' hd' (key (mt_mg σ (mt_x a b d σ k) (mt_y a b d σ k)) (fun i j e => by unfold mt_mg; rw [c i j e]) (by
            unfold mt_mg mt_x mt_y
            by_cases w : σ (a k) < d
            · rw [if_pos w, if_pos w, if_pos rfl, if_neg (fun q => c2 q.symm)]
            · rw [if_neg w, if_neg w, if_neg c2, if_pos rfl])) (by omega)
          omega
      · rw [if_neg c1] at p'
        omega
end
end
section
/-! the count by deletion and contraction is the count over masks -/
section
variable (on : Nat → Bool) (a b : Nat → Nat)
/-- set s, lines before k from above: each joins two labels, and in the end all are joined -/
def mt_ok (m s : Nat) : Nat → (Nat → Nat) → Bool
  | 0, ρ => decide (∀ i, i < m → ρ i ≠ i)
  | k + 1, ρ => if s.testBit k = true then (decide (on k = true ∧ ρ (a k) ≠ ρ (b k)) && mt_ok m s k (mt_mg ρ (mt_x a b m ρ k) (mt_y a b m ρ k))) else mt_ok m s k ρ
theorem mt_ok_congr (m : Nat) : ∀ (k s t : Nat) (ρ : Nat → Nat), (∀ j, j < k → s.testBit j = t.testBit j) → mt_ok on a b m s k ρ = mt_ok on a b m t k ρ := by
  intro k
  induction k with
  | zero => intro s t ρ _; rfl
  | succ k ih =>
    intro s t ρ h
    unfold mt_ok
    rw [h k (by omega), ih s t ρ (fun j hj => h j (by omega)), ih s t _ (fun j hj => h j (by omega))]
theorem mt_NC (m : Nat) : ∀ (k : Nat) (ρ : Nat → Nat), mt_N on a b m k ρ = mt_c (fun s => mt_ok on a b m s k ρ) (2 ^ k) := by
  intro k
  induction k with
  | zero =>
    intro ρ
    show (if (∀ i, i < m → ρ i ≠ i) then 1 else 0) = 0 + (if decide (∀ i, i < m → ρ i ≠ i) = true then 1 else 0)
    by_cases c : ∀ i, i < m → ρ i ≠ i
    · rw [if_pos c, if_pos (decide_eq_true c)]
    · rw [if_neg c, if_neg (by simpa using c)]
  | succ k ih =>
    intro ρ
    have e : 2 ^ (k + 1) = 2 ^ k + 2 ^ k := by rw [Nat.pow_succ]; omega
    rw [e, mt_c_add]
    have l : mt_c (fun s => mt_ok on a b m s (k + 1) ρ) (2 ^ k) = mt_N on a b m k ρ := by
      rw [ih]
      apply mt_c_congr
      intro s hs
      have t : s.testBit k = false := Nat.testBit_lt_two_pow hs
      show (if s.testBit k = true then _ else mt_ok on a b m s k ρ) = mt_ok on a b m s k ρ
      rw [t]
      rfl
    have bt : ∀ s, s < 2 ^ k → (2 ^ k + s).testBit k = true := by
      intro s hs
      rw [Nat.testBit_two_pow_add_eq, Nat.testBit_lt_two_pow hs]
      rfl
    have lo : ∀ s j, j < k → (2 ^ k + s).testBit j = s.testBit j := by
      intro s j hj
      exact Nat.testBit_two_pow_add_gt hj s
    rw [l]
    show mt_N on a b m k ρ + (if on k = true ∧ ρ (a k) ≠ ρ (b k) then mt_N on a b m k (mt_mg ρ (mt_x a b m ρ k) (mt_y a b m ρ k)) else 0) = _
    congr 1
    by_cases c : on k = true ∧ ρ (a k) ≠ ρ (b k)
    · rw [if_pos c, ih]
      apply mt_c_congr
      intro s hs
      show _ = (if (2 ^ k + s).testBit k = true then (decide (on k = true ∧ ρ (a k) ≠ ρ (b k)) && mt_ok on a b m (2 ^ k + s) k (mt_mg ρ (mt_x a b m ρ k) (mt_y a b m ρ k))) else mt_ok on a b m (2 ^ k + s) k ρ)
      rw [if_pos (bt s hs), decide_eq_true c, Bool.true_and]
      exact mt_ok_congr on a b m k _ _ _ (fun j hj => (lo s j hj).symm)
    · rw [if_neg c, mt_c_0]
      intro s hs
      show (if (2 ^ k + s).testBit k = true then (decide (on k = true ∧ ρ (a k) ≠ ρ (b k)) && mt_ok on a b m (2 ^ k + s) k (mt_mg ρ (mt_x a b m ρ k) (mt_y a b m ρ k))) else mt_ok on a b m (2 ^ k + s) k ρ) = false
      rw [if_pos (bt s hs), decide_eq_false c, Bool.false_and]
/-- the labels after the lines of s before k -/
def mt_F (m s : Nat) : Nat → (Nat → Nat) → (Nat → Nat)
  | 0, ρ => ρ
  | k + 1, ρ => mt_F m s k (if s.testBit k = true ∧ ρ (a k) ≠ ρ (b k) then mt_mg ρ (mt_x a b m ρ k) (mt_y a b m ρ k) else ρ)
def mt_lv (m : Nat) (ρ : Nat → Nat) : Nat := mt_c (fun i => decide (ρ i = i)) m
def mt_pk (s k : Nat) : Nat := mt_c (fun j => s.testBit j) k
theorem mt_lvm {m : Nat} {ρ : Nat → Nat} {x y : Nat} (hx : x < m) (h2 : x ≠ y) (h3 : ρ x = x) (h4 : ρ y = y) : mt_lv m (mt_mg ρ x y) + 1 = mt_lv m ρ := by
  unfold mt_lv
  apply mt_c_but x m hx
  · exact decide_eq_true h3
  · apply decide_eq_false
    unfold mt_mg
    rw [if_pos h3]
    exact fun q => h2 q.symm
  · intro i hi hn
    unfold mt_mg
    by_cases e : ρ i = x
    · rw [if_pos e]
      have n1 : ¬ y = i := by intro q; rw [← q, h4] at e; exact h2 e.symm
      have n2 : ¬ ρ i = i := by intro q; rw [q] at e; exact hn e
      rw [decide_eq_false n1, decide_eq_false n2]
    · rw [if_neg e]
theorem mt_st {m : Nat} {ρ : Nat → Nat} (h : mt_V m ρ) (hm : ρ m = m) (s k : Nat) : mt_V m (if s.testBit k = true ∧ ρ (a k) ≠ ρ (b k) then mt_mg ρ (mt_x a b m ρ k) (mt_y a b m ρ k) else ρ) ∧ (if s.testBit k = true ∧ ρ (a k) ≠ ρ (b k) then mt_mg ρ (mt_x a b m ρ k) (mt_y a b m ρ k) else ρ) m = m := by
  by_cases c : s.testBit k = true ∧ ρ (a k) ≠ ρ (b k)
  · obtain ⟨h1, h2, h3, h4, h5⟩ := mt_xy a b h c.2
    rw [if_pos c]
    refine ⟨mt_mgV h h4 h3 h2 h5, ?_⟩
    unfold mt_mg
    rw [hm, if_neg (by omega)]
  · rw [if_neg c]
    exact ⟨h, hm⟩
theorem mt_FV (m s : Nat) : ∀ (k : Nat) (ρ : Nat → Nat), mt_V m ρ → ρ m = m → mt_V m (mt_F a b m s k ρ) ∧ mt_F a b m s k ρ m = m := by
  intro k
  induction k with
  | zero => intro ρ h hm; exact ⟨h, hm⟩
  | succ k ih =>
    intro ρ h hm
    obtain ⟨h1, h2⟩ := mt_st a b h hm s k
    exact ih _ h1 h2
theorem mt_Flv (m s : Nat) : ∀ (k : Nat) (ρ : Nat → Nat), mt_V m ρ → ρ m = m → mt_lv m ρ ≤ mt_lv m (mt_F a b m s k ρ) + mt_pk s k := by
  intro k
  induction k with
  | zero => intro ρ h hm; exact Nat.le_refl _
  | succ k ih =>
    intro ρ h hm
    obtain ⟨h1, h2⟩ := mt_st a b h hm s k
    have q := ih _ h1 h2
    show mt_lv m ρ ≤ mt_lv m (mt_F a b m s k (if s.testBit k = true ∧ ρ (a k) ≠ ρ (b k) then mt_mg ρ (mt_x a b m ρ k) (mt_y a b m ρ k) else ρ)) + (mt_pk s k + (if s.testBit k = true then 1 else 0))
    by_cases c : s.testBit k = true ∧ ρ (a k) ≠ ρ (b k)
    · obtain ⟨g1, g2, g3, g4, g5⟩ := mt_xy a b h c.2
      have := mt_lvm g1 g2 g3 g4
      rw [if_pos c] at q ⊢
      rw [if_pos c.1]
      omega
    · rw [if_neg c] at q ⊢
      omega
theorem mt_okI (m s : Nat) : ∀ (k : Nat) (ρ : Nat → Nat), mt_V m ρ → ρ m = m → (mt_ok on a b m s k ρ = true ↔ (∀ j, j < k → s.testBit j = true → on j = true) ∧ mt_pk s k = mt_lv m ρ ∧ ∀ i, i < m → mt_F a b m s k ρ i ≠ i) := by
  intro k
  induction k with
  | zero =>
    intro ρ h hm
    show decide (∀ i, i < m → ρ i ≠ i) = true ↔ _
    rw [decide_eq_true_iff]
    constructor
    · intro c
      refine ⟨fun j hj => by omega, ?_, c⟩
      unfold mt_lv
      rw [mt_c_0 m (fun i hi => decide_eq_false (c i hi))]
      rfl
    · intro c
      exact c.2.2
  | succ k ih =>
    intro ρ h hm
    by_cases t : s.testBit k = true
    · have eo : mt_ok on a b m s (k + 1) ρ = (decide (on k = true ∧ ρ (a k) ≠ ρ (b k)) && mt_ok on a b m s k (mt_mg ρ (mt_x a b m ρ k) (mt_y a b m ρ k))) := by
        show (if s.testBit k = true then _ else _) = _
        rw [if_pos t]
      have ep : mt_pk s (k + 1) = mt_pk s k + 1 := by
        show mt_pk s k + (if s.testBit k = true then 1 else 0) = _
        rw [if_pos t]
      by_cases c : ρ (a k) ≠ ρ (b k)
      · obtain ⟨g1, g2, g3, g4, g5⟩ := mt_xy a b h c
        have gl := mt_lvm g1 g2 g3 g4
        have eF : mt_F a b m s (k + 1) ρ = mt_F a b m s k (mt_mg ρ (mt_x a b m ρ k) (mt_y a b m ρ k)) := by
          show mt_F a b m s k (if s.testBit k = true ∧ ρ (a k) ≠ ρ (b k) then _ else ρ) = _
          rw [if_pos ⟨t, c⟩]
        have hm' : mt_mg ρ (mt_x a b m ρ k) (mt_y a b m ρ k) m = m := by
          unfold mt_mg
          rw [hm, if_neg (by omega)]
        have q := ih _ (mt_mgV h g4 g3 g2 g5) hm'
        rw [eo, eF, ep, Bool.and_eq_true, decide_eq_true_iff, q]
        constructor
        · rintro ⟨⟨o, _⟩, p1, p2, p3⟩
          refine ⟨fun j hj tj => ?_, by omega, p3⟩
          by_cases e : j = k
          · rw [e]; exact o
          · exact p1 j (by omega) tj
        · rintro ⟨p1, p2, p3⟩
          exact ⟨⟨p1 k (by omega) t, c⟩, fun j hj tj => p1 j (by omega) tj, by omega, p3⟩
      · have eF : mt_F a b m s (k + 1) ρ = mt_F a b m s k ρ := by
          show mt_F a b m s k (if s.testBit k = true ∧ ρ (a k) ≠ ρ (b k) then _ else ρ) = _
          rw [if_neg (fun q => c q.2)]
        rw [eo, eF, ep, decide_eq_false (fun q => c q.2), Bool.false_and]
        constructor
        · intro q; cases q
        · rintro ⟨_, p2, p3⟩
          have w := mt_Flv a b m s k ρ h hm
          have z : mt_lv m (mt_F a b m s k ρ) = 0 := by
            unfold mt_lv
            exact mt_c_0 m (fun i hi => decide_eq_false (p3 i hi))
          omega
    · have eo : mt_ok on a b m s (k + 1) ρ = mt_ok on a b m s k ρ := by
        show (if s.testBit k = true then _ else _) = _
        rw [if_neg t]
      have ep : mt_pk s (k + 1) = mt_pk s k := by
        show mt_pk s k + (if s.testBit k = true then 1 else 0) = _
        rw [if_neg t]; rfl
      have eF : mt_F a b m s (k + 1) ρ = mt_F a b m s k ρ := by
        show mt_F a b m s k (if s.testBit k = true ∧ ρ (a k) ≠ ρ (b k) then _ else ρ) = _
        rw [if_neg (fun q => t q.1)]
      rw [eo, eF, ep, ih ρ h hm]
      constructor
      · rintro ⟨p1, p2, p3⟩
        refine ⟨fun j hj tj => ?_, p2, p3⟩
        by_cases e : j = k
        · rw [e] at tj; exact absurd tj t
        · exact p1 j (by omega) tj
      · rintro ⟨p1, p2, p3⟩
        exact ⟨fun j hj tj => p1 j (by omega) tj, p2, p3⟩
/-- the merged labels of a step are joined, and keep what was joined -/
theorem mt_mgJ {ρ : Nat → Nat} {m k : Nat} : (∀ i j, ρ i = ρ j → mt_mg ρ (mt_x a b m ρ k) (mt_y a b m ρ k) i = mt_mg ρ (mt_x a b m ρ k) (mt_y a b m ρ k) j) ∧ (ρ (a k) ≠ ρ (b k) → mt_mg ρ (mt_x a b m ρ k) (mt_y a b m ρ k) (a k) = mt_mg ρ (mt_x a b m ρ k) (mt_y a b m ρ k) (b k)) := by
  refine ⟨fun i j e => by unfold mt_mg; rw [e], fun c => ?_⟩
  unfold mt_mg mt_x mt_y
  by_cases w : ρ (a k) < m
  · rw [if_pos w, if_pos w, if_pos rfl, if_neg (fun q => c q.symm)]
  · rw [if_neg w, if_neg w, if_neg c, if_pos rfl]
theorem mt_FJ (m s : Nat) : ∀ (k : Nat) (ρ : Nat → Nat), (∀ i j, ρ i = ρ j → mt_F a b m s k ρ i = mt_F a b m s k ρ j) ∧ ∀ j, j < k → s.testBit j = true → mt_F a b m s k ρ (a j) = mt_F a b m s k ρ (b j) := by
  intro k
  induction k with
  | zero => intro ρ; exact ⟨fun i j e => e, fun j hj => by omega⟩
  | succ k ih =>
    intro ρ
    obtain ⟨q1, q2⟩ := ih (if s.testBit k = true ∧ ρ (a k) ≠ ρ (b k) then mt_mg ρ (mt_x a b m ρ k) (mt_y a b m ρ k) else ρ)
    have jj := mt_mgJ a b (ρ := ρ) (m := m) (k := k)
    refine ⟨fun i j e => q1 i j ?_, fun j hj t => ?_⟩
    · by_cases c : s.testBit k = true ∧ ρ (a k) ≠ ρ (b k)
      · rw [if_pos c]; exact jj.1 i j e
      · rw [if_neg c]; exact e
    · by_cases e : j = k
      · subst e
        apply q1
        by_cases c : ρ (a j) = ρ (b j)
        · rw [if_neg (fun q => q.2 c)]; exact c
        · rw [if_pos ⟨t, c⟩]; exact jj.2 c
      · exact q2 j (by omega) t
/-- what every set that the lines keep together can't part -/
theorem mt_FS (m s : Nat) (S : Nat → Prop) (K : Nat) (hK : ∀ j, j < K → s.testBit j = true → a j ≤ m ∧ b j ≤ m ∧ (S (a j) ↔ S (b j))) : ∀ (k : Nat) (ρ : Nat → Nat), k ≤ K → (∀ i j, i ≤ m → j ≤ m → ρ i = ρ j → (S i ↔ S j)) → ∀ i j, i ≤ m → j ≤ m → mt_F a b m s k ρ i = mt_F a b m s k ρ j → (S i ↔ S j) := by
  intro k
  induction k with
  | zero => intro ρ _ h; exact h
  | succ k ih =>
    intro ρ hk h
    refine ih _ (by omega) ?_
    by_cases c : s.testBit k = true ∧ ρ (a k) ≠ ρ (b k)
    · rw [if_pos c]
      obtain ⟨am, bm, ab⟩ := hK k (by omega) c.1
      have txy : ∀ i, i ≤ m → (ρ i = mt_x a b m ρ k ∨ ρ i = mt_y a b m ρ k) → (S i ↔ S (a k)) := by
        intro i hi hh
        unfold mt_x mt_y at hh
        by_cases w : ρ (a k) < m
        · rw [if_pos w, if_pos w] at hh
          rcases hh with hh | hh
          · exact h _ _ hi am hh
          · exact (h _ _ hi bm hh).trans ab.symm
        · rw [if_neg w, if_neg w] at hh
          rcases hh with hh | hh
          · exact (h _ _ hi bm hh).trans ab.symm
          · exact h _ _ hi am hh
      intro i j hi hj e
      unfold mt_mg at e
      by_cases ei : ρ i = mt_x a b m ρ k
      · rw [if_pos ei] at e
        by_cases ej : ρ j = mt_x a b m ρ k
        · exact (txy i hi (Or.inl ei)).trans (txy j hj (Or.inl ej)).symm
        · rw [if_neg ej] at e
          exact (txy i hi (Or.inl ei)).trans (txy j hj (Or.inr e.symm)).symm
      · rw [if_neg ei] at e
        by_cases ej : ρ j = mt_x a b m ρ k
        · rw [if_pos ej] at e
          exact (txy i hi (Or.inr e)).trans (txy j hj (Or.inl ej)).symm
        · rw [if_neg ej] at e
          exact h _ _ hi hj e
    · rw [if_neg c]
      exact h
/-- the labels of a fresh start: each point before m its own, all beyond m's -/
def mt_r0 (m i : Nat) : Nat := if i < m then i else m
theorem mt_r0V (m : Nat) : mt_V m (mt_r0 m) ∧ mt_r0 m m = m := by
  refine ⟨⟨fun i => ?_, fun i => ?_⟩, ?_⟩
  · unfold mt_r0; split <;> (try split) <;> omega
  · unfold mt_r0; split <;> omega
  · unfold mt_r0; split <;> omega
theorem mt_r0l (m : Nat) : mt_lv m (mt_r0 m) = m := by
  unfold mt_lv
  have : ∀ n, n ≤ m → mt_c (fun i => decide (mt_r0 m i = i)) n = n := by
    intro n
    induction n with
    | zero => intro _; rfl
    | succ n ih =>
      intro h
      rw [mt_cS, ih (by omega)]
      have e : mt_r0 m n = n := by unfold mt_r0; rw [if_pos (by omega)]
      rw [if_pos (decide_eq_true e)]
  exact this m (Nat.le_refl m)
/-- sets of lines that join all points, as the document says it -/
theorem mt_span (m s K : Nat) (hK : ∀ j, j < K → s.testBit j = true → a j ≤ m ∧ b j ≤ m) : (∀ i, i < m → mt_F a b m s K (mt_r0 m) i ≠ i) ↔ (∀ S : Nat → Prop, (∀ j, j < K → s.testBit j = true → (S (a j) ↔ S (b j))) → S 0 → ∀ p, p ≤ m → S p) := by
  obtain ⟨v, vm⟩ := mt_r0V m
  obtain ⟨fv, fm⟩ := mt_FV a b m s K (mt_r0 m) v vm
  constructor
  · intro d S hS s0 p hp
    have all : ∀ i, mt_F a b m s K (mt_r0 m) i = m := by
      intro i
      apply Classical.byContradiction
      intro q
      have := fv.2 i
      exact d (mt_F a b m s K (mt_r0 m) i) (by omega) (fv.1 i)
    refine (mt_FS a b m s S K (fun j hj t => ⟨(hK j hj t).1, (hK j hj t).2, hS j hj t⟩) K (mt_r0 m) (Nat.le_refl K) ?_ 0 p (by omega) hp (by rw [all, all])).mp s0
    intro i j hi hj e
    have : i = j := by
      unfold mt_r0 at e
      split at e <;> split at e <;> omega
    rw [this]
  · intro h i hi e
    have q := h (fun p => mt_F a b m s K (mt_r0 m) p = mt_F a b m s K (mt_r0 m) 0) (fun j hj t => by
      show mt_F a b m s K (mt_r0 m) (a j) = mt_F a b m s K (mt_r0 m) 0 ↔ mt_F a b m s K (mt_r0 m) (b j) = mt_F a b m s K (mt_r0 m) 0
      rw [(mt_FJ a b m s K (mt_r0 m)).2 j hj t]) rfl
    have q1 := q i (by omega)
    have q2 := q m (Nat.le_refl m)
    (try dsimp only at q1 q2)
    omega
/-! a zero pivot makes the whole zero -/
theorem mt_Lr {m d : Nat} (h : d ≤ m) : ∀ k i j, i < d → j < d → mt_L on a b (mt_r0 m) k i j = mt_L on a b (mt_r0 d) k i j := by
  have s : ∀ p i, i < d → dt_dl (mt_r0 m p) i = dt_dl (mt_r0 d p) i := by
    intro p i hi
    unfold mt_r0 dt_dl
    by_cases c : p < d
    · rw [if_pos (show p < m by omega), if_pos c]
    · rw [if_neg c, if_neg (show ¬ i = d by omega), if_neg]
      split <;> omega
  intro k
  induction k with
  | zero =>
    intro i j hi hj
    show (if i = j ∧ mt_r0 m i ≠ i then (1 : Int) else 0) = (if i = j ∧ mt_r0 d i ≠ i then (1 : Int) else 0)
    have e1 : mt_r0 m i = i := by unfold mt_r0; rw [if_pos (by omega)]
    have e2 : mt_r0 d i = i := by unfold mt_r0; rw [if_pos hi]
    rw [e1, e2]
  | succ k ih =>
    intro i j hi hj
    show mt_L on a b (mt_r0 m) k i j + (if on k then mt_bt a b (mt_r0 m) k i * mt_bt a b (mt_r0 m) k j else 0) = mt_L on a b (mt_r0 d) k i j + (if on k then mt_bt a b (mt_r0 d) k i * mt_bt a b (mt_r0 d) k j else 0)
    have e : ∀ i, i < d → mt_bt a b (mt_r0 m) k i = mt_bt a b (mt_r0 d) k i := by
      intro i hi
      unfold mt_bt
      rw [s _ i hi, s _ i hi]
    rw [ih i j hi hj, e i hi, e j hj]
theorem mt_piv {m d : Nat} (h : d ≤ m) (k : Nat) (z : dt_d d (mt_L on a b (mt_r0 m) k) = 0) : dt_d m (mt_L on a b (mt_r0 m) k) = 0 := by
  rw [dt_congr d _ (mt_L on a b (mt_r0 d) k) (fun i j hi hj => mt_Lr on a b h k i j hi hj), mt_tree on a b d k (mt_r0 d) (mt_r0V d).1] at z
  rw [mt_tree on a b m k (mt_r0 m) (mt_r0V m).1]
  apply Classical.byContradiction
  intro q
  have p : 0 < mt_N on a b m k (mt_r0 m) := by omega
  have := mt_mono on a b k (mt_r0 m) (mt_r0 d) (mt_r0V m).1 (mt_r0V d).1 (mt_r0V m).2 (mt_r0V d).2 (fun i j e => by
    unfold mt_r0 at e ⊢
    split at e <;> split at e <;> split <;> split <;> omega) p
  omega
/-! rows of the table have small sums -/
theorem mt_dl01 (x i : Nat) : 0 ≤ dt_dl x i ∧ dt_dl x i ≤ 1 := by
  unfold dt_dl
  split <;> omega
theorem mt_dls (x : Nat) : ∀ m, dt_sum (fun j => dt_dl x j) m ≤ 1 := by
  intro m
  by_cases h : x < m
  · rw [dt_sum_one x m h (fun j _ hj => dt_dl0 hj), dt_dl1]
    exact Int.le_refl _
  · rw [dt_sum_0 m (fun j hj => dt_dl0 (by omega))]
    decide
theorem mt_rs {m : Nat} {i : Nat} (hi : i < m) : ∀ k : Nat, dt_sum (fun j => ((mt_L on a b (mt_r0 m) k i j).natAbs : Int)) m ≤ 2 * (k : Int) := by
  intro k
  induction k with
  | zero =>
    rw [dt_sum_0 m (fun j _ => ?_)]
    · decide
    · have e1 : mt_r0 m i = i := by unfold mt_r0; rw [if_pos hi]
      show (((if i = j ∧ mt_r0 m i ≠ i then (1 : Int) else 0).natAbs : Nat) : Int) = 0
      rw [if_neg (fun q => q.2 e1)]
      rfl
  | succ k ih =>
    have l := dt_sum_le (f := fun j => ((mt_L on a b (mt_r0 m) (k + 1) i j).natAbs : Int)) (g := fun j => 1 * ((mt_L on a b (mt_r0 m) k i j).natAbs : Int) + 1 * (1 * dt_dl (mt_r0 m (a k)) j + 1 * dt_dl (mt_r0 m (b k)) j)) m (fun j _ => by
      show (((mt_L on a b (mt_r0 m) k i j + (if on k then mt_bt a b (mt_r0 m) k i * mt_bt a b (mt_r0 m) k j else 0)).natAbs : Nat) : Int) ≤ 1 * ((mt_L on a b (mt_r0 m) k i j).natAbs : Int) + 1 * (1 * dt_dl (mt_r0 m (a k)) j + 1 * dt_dl (mt_r0 m (b k)) j)
      have c1 := mt_dl01 (mt_r0 m (a k)) i
      have c2 := mt_dl01 (mt_r0 m (b k)) i
      have c3 := mt_dl01 (mt_r0 m (a k)) j
      have c4 := mt_dl01 (mt_r0 m (b k)) j
      by_cases o : on k
      · rw [if_pos o]
        unfold mt_bt
        generalize dt_dl (mt_r0 m (a k)) i = x1 at *
        generalize dt_dl (mt_r0 m (b k)) i = x2 at *
        generalize dt_dl (mt_r0 m (a k)) j = x3 at *
        generalize dt_dl (mt_r0 m (b k)) j = x4 at *
        have d1 : x1 = 0 ∨ x1 = 1 := by omega
        have d2 : x2 = 0 ∨ x2 = 1 := by omega
        rcases d1 with d1 | d1 <;> rcases d2 with d2 | d2 <;> rw [d1, d2] <;> omega
      · rw [if_neg o]
        omega)
    rw [dt_sum_lin, dt_sum_lin] at l
    have s1 : dt_sum (dt_dl (mt_r0 m (a k))) m ≤ 1 := mt_dls (mt_r0 m (a k)) m
    have s2 : dt_sum (dt_dl (mt_r0 m (b k))) m ≤ 1 := mt_dls (mt_r0 m (b k)) m
    have e : ((k + 1 : Nat) : Int) = (k : Int) + 1 := rfl
    rw [e]
    omega
end
/-! Bareiss's step over long -/
theorem mt_q {c t w v : Int} (hw : w ≠ 0) (e : v * w = c - t) (hc : c.natAbs < 2 ^ 61) (ht : t.natAbs < 2 ^ 61) (hb : w.natAbs < 2 ^ 61) : (Int64.ofInt c - Int64.ofInt t) / Int64.ofInt w = Int64.ofInt v := by
  rw [← Int64.ofInt_sub, ← Int64.ofInt_tdiv (by show -9223372036854775808 ≤ c - t; omega) (by show c - t ≤ 9223372036854775807; omega) (by show -9223372036854775808 ≤ w; omega) (by show w ≤ 9223372036854775807; omega), ← e, Int.mul_tdiv_cancel _ hw]
end
section
/-! one walk into the depth: what holds at each of its steps -/
def wk_u (f : Nat → Nat) (i v j : Nat) : Nat := if j = i then v else f j
theorem wk_us (f : Nat → Nat) (i v : Nat) : wk_u f i v i = v := by unfold wk_u; rw [if_pos rfl]
theorem wk_un (f : Nat → Nat) {i j : Nat} (v : Nat) (h : j ≠ i) : wk_u f i v j = f j := by unfold wk_u; rw [if_neg h]
def wk_J (on : Nat → Prop) (a b : Nat → Nat) (k x y : Nat) : Prop := on k ∧ ((a k = x ∧ b k = y) ∨ (a k = y ∧ b k = x))
def wk_P (m0 : Nat) (o la : Nat → Nat) (p : Nat) : Prop := m0 < o p ∧ la p = 0
def wk_A (o la : Nat → Nat) (y z : Nat) : Prop := o y ≤ o z ∧ (la y ≠ 0 → o z ≤ la y)
def wk_h (m0 : Nat) (o la : Nat → Nat) (p q : Nat) : Prop := la q ≠ 0 ∧ o p < o q ∧ ∀ r, wk_P m0 o la r → o r ≤ o p ∨ o q < o r
/-- the graph: lines below 16, between different points below n -/
def wk_0 (n : Nat) (on : Nat → Prop) (a b : Nat → Nat) : Prop := ∀ k, on k → k < 16 ∧ a k < n ∧ b k < n ∧ a k ≠ b k
def wk_G (n : Nat) (on : Nat → Prop) (a b : Nat → Nat) (root m0 at' met : Nat) (o cf cb nl la : Nat → Nat) : Prop :=
  (∀ p, n ≤ p → o p = 0) ∧ (∀ p, o p ≤ met) ∧ (∀ p r, o p = o r → o p ≠ 0 → p = r) ∧
  (m0 < met ∧ o root = m0 + 1 ∧ wk_P m0 o la root ∧ wk_P m0 o la at' ∧ 16 ≤ cb root) ∧
  (∀ p, wk_P m0 o la p → o p ≤ o at') ∧
  (∀ p, m0 < o p → p ≠ root → m0 < o (cf p) ∧ o (cf p) < o p ∧ wk_J on a b (cb p) p (cf p) ∧ (la (cf p) ≠ 0 → o p ≤ la (cf p))) ∧
  (∀ p, wk_P m0 o la p → p ≠ root → wk_P m0 o la (cf p) ∧ ∀ r, wk_P m0 o la r → o r ≤ o (cf p) ∨ o p ≤ o r) ∧
  (∀ p, la p ≠ 0 → m0 < o p ∧ nl p = 16 ∧ o p ≤ la p ∧ la p ≤ met ∧ ∀ r, wk_P m0 o la r → o r < o p ∨ la p < o r) ∧
  (∀ y k z, m0 < o y → k < nl y → wk_J on a b k y z → m0 < o z ∧ (wk_A o la y z ∨ wk_A o la z y)) ∧
  (∀ c q, wk_P m0 o la c → m0 < o q → o c < o q → o c ≤ o (cf q)) ∧
  (∀ y k z, wk_J on a b k y z → o y ≠ 0 → o y ≤ m0 → o z ≠ 0 ∧ o z ≤ m0) ∧
  (∀ p, m0 < o p → nl p ≤ 16)
def wk_L1 (on : Nat → Prop) (a b : Nat → Nat) (m0 : Nat) (o lo cb nl la : Nat → Nat) (p : Nat) : Prop :=
  lo p ≤ o p ∧
  (∀ k z, k < nl p → wk_J on a b k p z → k ≠ cb p → lo p ≤ o z) ∧
  (∀ q k z, wk_h m0 o la p q → wk_J on a b k q z → k ≠ cb q → lo p ≤ o z) ∧
  (lo p = o p ∨ ∃ q k z, (q = p ∨ wk_h m0 o la p q) ∧ wk_J on a b k q z ∧ k ≠ cb q ∧ lo p = o z ∧ m0 < o z)
def wk_L (on : Nat → Prop) (a b : Nat → Nat) (m0 : Nat) (o lo cb nl la : Nat → Nat) : Prop := ∀ p, wk_P m0 o la p → wk_L1 on a b m0 o lo cb nl la p
def wk_br (n : Nat) (on : Nat → Prop) (a b : Nat → Nat) (k : Nat) : Prop := on k ∧ ¬ gr_R a b (fun j => on j ∧ j ≠ k) (fun x => x < n) (a k) (b k)
def wk_hi (n : Nat) (on : Nat → Prop) (a b : Nat → Nat) (p : Nat) : Prop := p < n ∧ ∃ x y, (x < n ∧ x ≠ p) ∧ (y < n ∧ y ≠ p) ∧ gr_R a b on (fun x => x < n) x y ∧ ¬ gr_R a b on (fun x => x < n ∧ x ≠ p) x y
def wk_B (n : Nat) (on : Nat → Prop) (a b : Nat → Nat) (root WB : Nat) (cb la : Nat → Nat) : Prop :=
  (∀ k, WB.testBit k = true → wk_br n on a b k) ∧ (∀ c, la c ≠ 0 → c ≠ root → wk_br n on a b (cb c) → WB.testBit (cb c) = true)
def wk_H (n : Nat) (on : Nat → Prop) (a b : Nat → Nat) (root m0 rb WH : Nat) (o cf la : Nat → Nat) : Prop :=
  (∀ p, WH.testBit p = true → wk_hi n on a b p) ∧
  (∀ u, m0 < o u → u ≠ root → ¬ WH.testBit u = true → ∀ q, ((la u ≠ 0 ∧ o u < o q ∧ o q ≤ la u) ∨ (la u = 0 ∧ wk_h m0 o la u q)) → gr_R a b on (fun x => x < n ∧ x ≠ u) q root) ∧
  (rb = 0 → ∀ q, ¬ wk_h m0 o la root q) ∧
  (1 ≤ rb → ∃ c, la c ≠ 0 ∧ c ≠ root ∧ cf c = root) ∧
  (rb = 1 → ∃ c, ∀ q, wk_h m0 o la root q → gr_R a b on (fun x => x < n ∧ x ≠ root) q c) ∧
  (2 ≤ rb → WH.testBit root = true)
section
variable {n : Nat} {on : Nat → Prop} {a b : Nat → Nat}
theorem wk_Js {k x y : Nat} (h : wk_J on a b k x y) : wk_J on a b k y x := ⟨h.1, h.2.elim (fun q => Or.inr q) (fun q => Or.inl q)⟩
/-- the other end of a line is one -/
theorem wk_Ju (g : wk_0 n on a b) {k x y z : Nat} (h : wk_J on a b k x y) (i : wk_J on a b k x z) : y = z := by
  have := (g k h.1).2.2.2
  obtain ⟨_, h⟩ := h
  obtain ⟨_, i⟩ := i
  omega
theorem wk_Jn (g : wk_0 n on a b) {k x y : Nat} (h : wk_J on a b k x y) : k < 16 ∧ x < n ∧ y < n ∧ x ≠ y := by
  have := g k h.1
  obtain ⟨_, h⟩ := h
  omega
/-- a line with the ends x, y and one with the ends v, w -/
theorem wk_J2 {k x y v w : Nat} (h : wk_J on a b k x y) (i : wk_J on a b k v w) : (x = v ∧ y = w) ∨ (x = w ∧ y = v) := by
  obtain ⟨_, h⟩ := h
  obtain ⟨_, i⟩ := i
  omega
theorem wk_e {u q : Nat → Prop} {k x y : Nat} (h : wk_J on a b k x y) (hu : u k) (hx : q x) (hy : q y) : gr_R a b u q x y := by
  obtain ⟨_, ⟨h1, h2⟩ | ⟨h1, h2⟩⟩ := h
  · have := gr_ln (a := a) (b := b) (u := u) (q := q) hu (by rw [h1]; exact hx) (by rw [h2]; exact hy)
    rw [h1, h2] at this
    exact this
  · have := gr_ln' (a := a) (b := b) (u := u) (q := q) hu (by rw [h1]; exact hy) (by rw [h2]; exact hx)
    rw [h1, h2] at this
    exact this
/-- a set that the lines of J keep whole -/
theorem wk_cl {u q : Nat → Prop} {S : Nat → Prop} (g : wk_0 n on a b) (hu : ∀ k, u k → on k) (h : ∀ k x y, u k → wk_J on a b k x y → q x → q y → S x → S y) : gr_C a b u q S := by
  intro k hk ha hb
  have j : wk_J on a b k (a k) (b k) := ⟨hu k hk, Or.inl ⟨rfl, rfl⟩⟩
  exact ⟨h k _ _ hk j ha hb, h k _ _ hk (wk_Js j) hb ha⟩
/-! a step that looks at a line -/
theorem wk_lookG (g : wk_0 n on a b) {root m0 t met : Nat} {o cf cb nl la : Nat → Nat} (G : wk_G n on a b root m0 t met o cf cb nl la) (hk : nl t < 16) (hz : ∀ z, wk_J on a b (nl t) t z → nl t ≠ cb t → o z ≠ 0) : wk_G n on a b root m0 t met o cf cb (wk_u nl t (nl t + 1)) la := by
  obtain ⟨g1, g2, g3, g4, g5, g6, g7, g8, g9, g10, g11, g12⟩ := G
  obtain ⟨g4a, g4b, g4c, g4d, g4e⟩ := g4
  refine ⟨g1, g2, g3, ⟨g4a, g4b, g4c, g4d, g4e⟩, g5, g6, g7, ?_, ?_, g10, g11, ?_⟩
  · intro p hp
    obtain ⟨p1, p2, p3⟩ := g8 p hp
    have : p ≠ t := by intro e; rw [e] at hp; exact hp g4d.2
    rw [wk_un nl _ this]
    exact ⟨p1, p2, p3⟩
  · intro y k z hy hk' j
    by_cases e : y = t
    · subst e
      rw [wk_us] at hk'
      by_cases e2 : k = nl y
      · subst e2
        by_cases e3 : nl y = cb y
        · have yr : y ≠ root := by
            intro q
            rw [← q] at g4e
            omega
          obtain ⟨c1, c2, c3, c4⟩ := g6 y hy yr
          have zc : cf y = z := by
            rw [← e3] at c3
            exact wk_Ju g c3 j
          rw [← zc]
          have pc := (g7 y g4d yr).1
          exact ⟨c1, Or.inr ⟨by omega, fun q => absurd pc.2 q⟩⟩
        · have z0 := hz z j e3
          have zm : m0 < o z := by
            apply Classical.byContradiction
            intro q
            have := g11 z _ y (wk_Js j) z0 (by omega)
            have := g4d.1
            omega
          refine ⟨zm, ?_⟩
          by_cases c : o y ≤ o z
          · exact Or.inl ⟨c, fun q => absurd g4d.2 q⟩
          · by_cases f : la z = 0
            · exact Or.inr ⟨by omega, fun q => absurd f q⟩
            · have nz := (g8 z f).2.1
              exact (g9 z _ y zm (by omega) (wk_Js j)).2.symm
      · exact g9 y k z hy (by omega) j
    · rw [wk_un nl _ e] at hk'
      exact g9 y k z hy hk' j
  · intro p hp
    by_cases e : p = t
    · rw [e, wk_us]; omega
    · rw [wk_un nl _ e]; exact g12 p hp
theorem wk_lookL {root m0 t met : Nat} {o lo cf cb nl la : Nat → Nat} (G : wk_G n on a b root m0 t met o cf cb nl la) (L : wk_L on a b m0 o lo cb nl la) (v : Nat) (v1 : v ≤ lo t) (v2 : ∀ z, wk_J on a b (nl t) t z → nl t ≠ cb t → v ≤ o z) (v3 : v = lo t ∨ ∃ z, wk_J on a b (nl t) t z ∧ nl t ≠ cb t ∧ v = o z ∧ m0 < o z) : wk_L on a b m0 o (wk_u lo t v) cb (wk_u nl t (nl t + 1)) la := by
  intro p hp
  obtain ⟨l1, l2, l3, l4⟩ := L p hp
  by_cases e : p = t
  · subst e
    unfold wk_L1
    rw [wk_us, wk_us]
    refine ⟨by omega, fun k z hk j hc => ?_, fun q k z h j hc => ?_, ?_⟩
    · by_cases e2 : k = nl p
      · subst e2; exact v2 z j hc
      · have := l2 k z (by omega) j hc
        omega
    · have := l3 q k z h j hc
      omega
    · rcases v3 with v3 | ⟨z, j, hc, ez, mz⟩
      · rw [v3]; exact l4
      · exact Or.inr ⟨p, nl p, z, Or.inl rfl, j, hc, ez, mz⟩
  · unfold wk_L1
    rw [wk_un lo _ e, wk_un nl _ e]
    exact ⟨l1, l2, l3, l4⟩
/-! a step that meets a new point -/
theorem wk_Pm {m0 met z : Nat} {o la : Nat → Nat} (hz : o z = 0) (lz : la z = 0) (hm : m0 ≤ met) (p : Nat) : wk_P m0 (wk_u o z (met + 1)) la p ↔ (p = z ∨ wk_P m0 o la p) := by
  unfold wk_P
  by_cases e : p = z
  · rw [e, wk_us]
    exact ⟨fun _ => Or.inl rfl, fun _ => ⟨by omega, lz⟩⟩
  · rw [wk_un o _ e]
    exact ⟨fun h => Or.inr h, fun h => h.elim (fun q => absurd q e) id⟩
theorem wk_hm {m0 met z : Nat} {o la : Nat → Nat} (h2 : ∀ p, o p ≤ met) (hz : o z = 0) (lz : la z = 0) (hm : m0 ≤ met) {p q : Nat} (hp : p ≠ z) : wk_h m0 (wk_u o z (met + 1)) la p q ↔ wk_h m0 o la p q := by
  unfold wk_h
  rw [wk_un o _ hp]
  by_cases e : q = z
  · rw [e]
    exact ⟨fun h => absurd lz h.1, fun h => absurd lz h.1⟩
  · rw [wk_un o _ e]
    constructor
    · rintro ⟨a1, a2, a3⟩
      refine ⟨a1, a2, fun r hr => ?_⟩
      have := a3 r ((wk_Pm hz lz hm r).mpr (Or.inr hr))
      by_cases f : r = z
      · rw [f] at hr
        have := hr.1
        omega
      · rw [wk_un o _ f] at this
        exact this
    · rintro ⟨a1, a2, a3⟩
      refine ⟨a1, a2, fun r hr => ?_⟩
      by_cases f : r = z
      · rw [f, wk_us]
        have := h2 q
        omega
      · rw [wk_un o _ f]
        rcases (wk_Pm hz lz hm r).mp hr with q | q
        · exact absurd q f
        · exact a3 r q
theorem wk_meetG (g : wk_0 n on a b) {root m0 t met z : Nat} {o cf cb nl la : Nat → Nat} (G : wk_G n on a b root m0 t met o cf cb nl la) (hk : nl t < 16) (j : wk_J on a b (nl t) t z) (hz : o z = 0) : wk_G n on a b root m0 z (met + 1) (wk_u o z (met + 1)) (wk_u cf z t) (wk_u cb z (nl t)) (wk_u (wk_u nl t (nl t + 1)) z 0) la := by
  obtain ⟨g1, g2, g3, g4, g5, g6, g7, g8, g9, g10, g11, g12⟩ := G
  obtain ⟨g4a, g4b, g4c, g4d, g4e⟩ := g4
  have jn := wk_Jn g j
  have lz : la z = 0 := by
    apply Classical.byContradiction
    intro q
    have := (g8 z q).1
    omega
  have tz : t ≠ z := jn.2.2.2
  have rz : root ≠ z := by intro e; rw [e] at g4b; omega
  have hm : m0 ≤ met := by omega
  have pm := wk_Pm (m0 := m0) (met := met) hz lz hm
  have og : ∀ p, m0 < wk_u o z (met + 1) p → p = z ∨ (p ≠ z ∧ m0 < o p ∧ wk_u o z (met + 1) p = o p) := by
    intro p hp
    by_cases e : p = z
    · exact Or.inl e
    · rw [wk_un o _ e] at hp ⊢
      exact Or.inr ⟨e, hp, rfl⟩
  refine ⟨?_, ?_, ?_, ⟨by omega, by rw [wk_un o _ rz]; exact g4b, (pm root).mpr (Or.inr g4c), (pm z).mpr (Or.inl rfl), by rw [wk_un cb _ rz]; exact g4e⟩, ?_, ?_, ?_, ?_, ?_, ?_, ?_, ?_⟩
  · intro p hp
    rw [wk_un o _ (by omega)]
    exact g1 p hp
  · intro p
    by_cases e : p = z
    · rw [e, wk_us]; omega
    · rw [wk_un o _ e]
      have := g2 p
      omega
  · intro p r e0 e1
    by_cases e : p = z
    · by_cases f : r = z
      · rw [e, f]
      · rw [e, wk_us, wk_un o _ f] at e0
        have := g2 r
        omega
    · rw [wk_un o _ e] at e0 e1
      by_cases f : r = z
      · rw [f, wk_us] at e0
        have := g2 p
        omega
      · rw [wk_un o _ f] at e0
        exact g3 p r e0 e1
  · intro p hp
    rw [wk_us]
    by_cases e : p = z
    · rw [e, wk_us]; omega
    · rw [wk_un o _ e]
      have := g2 p
      omega
  · intro p hp hr
    by_cases e : p = z
    · rw [e, wk_us, wk_us, wk_us, wk_un o _ tz]
      refine ⟨g4d.1, ?_, wk_Js j, fun q => absurd g4d.2 q⟩
      have := g2 t
      omega
    · rw [wk_un o _ e] at hp
      obtain ⟨c1, c2, c3, c4⟩ := g6 p hp hr
      have cz : cf p ≠ z := by intro q; rw [q] at c1; omega
      rw [wk_un o _ e, wk_un cf _ e, wk_un cb _ e, wk_un o _ cz]
      exact ⟨c1, c2, c3, c4⟩
  · intro p hp hr
    by_cases e : p = z
    · rw [e, wk_us, wk_us, wk_un o _ tz]
      refine ⟨(pm t).mpr (Or.inr g4d), fun r hr => ?_⟩
      rcases (pm r).mp hr with q | q
      · rw [q, wk_us]; omega
      · have rz' : r ≠ z := by intro w; rw [w] at q; have := q.1; omega
        rw [wk_un o _ rz']
        exact Or.inl (g5 r q)
    · rcases (pm p).mp hp with q | q
      · exact absurd q e
      · obtain ⟨c1, c2⟩ := g7 p q hr
        have cz : cf p ≠ z := by intro w; rw [w] at c1; have := c1.1; omega
        rw [wk_un cf _ e, wk_un o _ e, wk_un o _ cz]
        refine ⟨(pm _).mpr (Or.inr c1), fun r hr => ?_⟩
        rcases (pm r).mp hr with w | w
        · rw [w, wk_us]
          have := g2 p
          omega
        · have rz' : r ≠ z := by intro x; rw [x] at w; have := w.1; omega
          rw [wk_un o _ rz']
          exact c2 r w
  · intro p hp
    obtain ⟨c1, c2, c3, c4, c5⟩ := g8 p hp
    have pz : p ≠ z := by intro w; rw [w] at c1; omega
    have pt : p ≠ t := by intro w; rw [w] at hp; exact hp g4d.2
    rw [wk_un o _ pz, wk_un _ _ pz, wk_un nl _ pt]
    refine ⟨c1, c2, c3, by omega, fun r hr => ?_⟩
    rcases (pm r).mp hr with w | w
    · rw [w, wk_us]; omega
    · have rz' : r ≠ z := by intro x; rw [x] at w; have := w.1; omega
      rw [wk_un o _ rz']
      exact c5 r w
  · intro y k w hy hk' jj
    rcases og y hy with e | ⟨e, hy', ey⟩
    · rw [e, wk_us] at hk'; omega
    · rw [wk_un _ _ e] at hk'
      by_cases e1 : y = t ∧ k = nl t
      · have wz : w = z := by
          rw [e1.1, e1.2] at jj
          exact wk_Ju g jj j
        rw [wz, wk_us]
        refine ⟨by omega, Or.inl ⟨?_, fun q => ?_⟩⟩
        · rw [wk_us, ey]
          have := g2 y
          omega
        · rw [e1.1] at q
          exact absurd g4d.2 q
      · have old : m0 < o w ∧ (wk_A o la y w ∨ wk_A o la w y) := by
          by_cases e2 : y = t
          · rw [e2, wk_us] at hk'
            refine g9 y k w hy' ?_ jj
            rw [e2]
            have : k ≠ nl t := fun q => e1 ⟨e2, q⟩
            omega
          · rw [wk_un nl _ e2] at hk'
            exact g9 y k w hy' hk' jj
        have wz : w ≠ z := by intro x; rw [x] at old; omega
        unfold wk_A at old ⊢
        rw [wk_un o _ wz, ey]
        exact old
  · intro c q hc hq hlt
    rcases og q hq with e | ⟨e, hq', eq⟩
    · rw [e, wk_us, wk_un o _ tz]
      rcases (pm c).mp hc with w | w
      · rw [w, e] at hlt; omega
      · have cz : c ≠ z := by intro x; rw [x] at w; have := w.1; omega
        rw [wk_un o _ cz]
        exact g5 c w
    · rcases (pm c).mp hc with w | w
      · rw [w, wk_us, eq] at hlt
        have := g2 q
        omega
      · have cz : c ≠ z := by intro x; rw [x] at w; have := w.1; omega
        rw [wk_un o _ cz, eq] at hlt
        have h := g10 c q w hq' hlt
        have fz : cf q ≠ z := by
          intro x
          rw [x] at h
          have := w.1
          omega
        rw [wk_un o _ cz, wk_un cf _ e, wk_un o _ fz]
        exact h
  · intro y k w jj h1 h2
    have yz : y ≠ z := by intro x; rw [x, wk_us] at h2; omega
    rw [wk_un o _ yz] at h1 h2
    have := g11 y k w jj h1 h2
    have wz : w ≠ z := by intro x; rw [x] at this; omega
    rw [wk_un o _ wz]
    exact this
  · intro p hp
    by_cases e : p = z
    · rw [e, wk_us]; omega
    · rw [wk_un o _ e] at hp
      rw [wk_un _ _ e]
      by_cases f : p = t
      · rw [f, wk_us]; omega
      · rw [wk_un nl _ f]; exact g12 p hp
theorem wk_meetL (g : wk_0 n on a b) {root m0 t met z : Nat} {o lo cf cb nl la : Nat → Nat} (G : wk_G n on a b root m0 t met o cf cb nl la) (L : wk_L on a b m0 o lo cb nl la) (j : wk_J on a b (nl t) t z) (hz : o z = 0) : wk_L on a b m0 (wk_u o z (met + 1)) (wk_u lo z (met + 1)) (wk_u cb z (nl t)) (wk_u (wk_u nl t (nl t + 1)) z 0) la := by
  obtain ⟨g1, g2, g3, ⟨g4a, g4b, g4c, g4d, g4e⟩, g5, g6, g7, g8, g9, g10, g11, g12⟩ := G
  have lz : la z = 0 := by
    apply Classical.byContradiction
    intro q
    have := (g8 z q).1
    omega
  have hm : m0 ≤ met := by omega
  have pm := wk_Pm (m0 := m0) (met := met) hz lz hm
  intro p hp
  by_cases e : p = z
  · subst e
    unfold wk_L1
    rw [wk_us, wk_us, wk_us]
    refine ⟨Nat.le_refl _, fun k w hk => by omega, fun q k w h => ?_, Or.inl rfl⟩
    have h1 := h.2.1
    rw [wk_us] at h1
    by_cases f : q = p
    · rw [f, wk_us] at h1; omega
    · rw [wk_un o _ f] at h1
      have := g2 q
      omega
  · rcases (pm p).mp hp with w | hp'
    · exact absurd w e
    · obtain ⟨l1, l2, l3, l4⟩ := L p hp'
      have op := g2 p
      have ow : ∀ w, lo p ≤ o w → lo p ≤ wk_u o z (met + 1) w := by
        intro w h
        by_cases f : w = z
        · rw [f, wk_us]; omega
        · rw [wk_un o _ f]; exact h
      unfold wk_L1
      rw [wk_un lo _ e, wk_un o _ e, wk_un cb _ e, wk_un _ _ e]
      refine ⟨l1, fun k w hk jj hc => ?_, fun q k w h jj hc => ?_, ?_⟩
      · by_cases f : p = t ∧ k = nl t
        · have wz : w = z := by
            rw [f.1, f.2] at jj
            exact wk_Ju g jj j
          rw [wz, wk_us]; omega
        · apply ow
          by_cases f2 : p = t
          · rw [f2, wk_us] at hk
            refine l2 k w ?_ jj hc
            rw [f2]
            have : k ≠ nl t := fun q => f ⟨f2, q⟩
            omega
          · rw [wk_un nl _ f2] at hk
            exact l2 k w hk jj hc
      · have qz : q ≠ z := by intro x; rw [x] at h; exact h.1 lz
        rw [wk_un cb _ qz] at hc
        exact ow w (l3 q k w ((wk_hm g2 hz lz hm e).mp h) jj hc)
      · rcases l4 with l4 | ⟨q, k, w, h1, h2, h3, h4, h5⟩
        · exact Or.inl l4
        · right
          have wz : w ≠ z := by intro x; rw [x] at h5; omega
          have qz : q ≠ z := by
            rcases h1 with h1 | h1
            · rw [h1]; exact e
            · intro x; rw [x] at h1; exact h1.1 lz
          refine ⟨q, k, w, ?_, h2, by rw [wk_un cb _ qz]; exact h3, by rw [wk_un o _ wz]; exact h4, by rw [wk_un o _ wz]; exact h5⟩
          rcases h1 with h1 | h1
          · exact Or.inl h1
          · exact Or.inr ((wk_hm g2 hz lz hm e).mpr h1)
theorem wk_meetB {root m0 t met z WB : Nat} {o cf cb nl la : Nat → Nat} (G : wk_G n on a b root m0 t met o cf cb nl la) (B : wk_B n on a b root WB cb la) (k : Nat) (hz : o z = 0) : wk_B n on a b root WB (wk_u cb z k) la := by
  refine ⟨B.1, fun c h1 h2 h3 => ?_⟩
  have cz : c ≠ z := by
    intro x
    rw [x] at h1
    have := (G.2.2.2.2.2.2.2.1 z h1).1
    omega
  rw [wk_un cb _ cz] at h3 ⊢
  exact B.2 c h1 h2 h3
theorem wk_meetH {root m0 t met z rb WH : Nat} {o cf cb nl la : Nat → Nat} (G : wk_G n on a b root m0 t met o cf cb nl la) (H : wk_H n on a b root m0 rb WH o cf la) (hz : o z = 0) : wk_H n on a b root m0 rb WH (wk_u o z (met + 1)) (wk_u cf z t) la := by
  obtain ⟨g1, g2, g3, ⟨g4a, g4b, g4c, g4d, g4e⟩, g5, g6, g7, g8, g9, g10, g11, g12⟩ := G
  obtain ⟨h1, h2, h3, h4, h5, h6⟩ := H
  have lz : la z = 0 := by
    apply Classical.byContradiction
    intro q
    have := (g8 z q).1
    omega
  have hm : m0 ≤ met := by omega
  have rz : root ≠ z := by intro e; rw [e] at g4b; omega
  refine ⟨h1, fun u hu ur uh q hq => ?_, fun h q hq => h3 h q ((wk_hm g2 hz lz hm rz).mp hq), fun h => ?_, fun h => ?_, h6⟩
  · by_cases e : u = z
    · rcases hq with hq | hq
      · rw [e] at hq; exact absurd lz hq.1
      · have w := hq.2.2.1
        rw [e, wk_us] at w
        by_cases f : q = z
        · rw [f, wk_us] at w; omega
        · rw [wk_un o _ f] at w
          have := g2 q
          omega
    · rw [wk_un o _ e] at hu hq
      refine h2 u hu ur uh q ?_
      rcases hq with hq | hq
      · left
        by_cases f : q = z
        · rw [f, wk_us] at hq
          have := (g8 u hq.1).2.2.2.1
          omega
        · rw [wk_un o _ f] at hq; exact hq
      · exact Or.inr ⟨hq.1, (wk_hm g2 hz lz hm e).mp hq.2⟩
  · obtain ⟨c, c1, c2, c3⟩ := h4 h
    have cz : c ≠ z := by intro x; rw [x] at c1; exact c1 lz
    exact ⟨c, c1, c2, by rw [wk_un cf _ cz]; exact c3⟩
  · obtain ⟨c, hc⟩ := h5 h
    exact ⟨c, fun q hq => hc q ((wk_hm g2 hz lz hm rz).mp hq)⟩
/-! a step that leaves a point -/
theorem wk_Pl {m0 t met : Nat} {o la : Nat → Nat} (hm : met ≠ 0) (p : Nat) : wk_P m0 o (wk_u la t met) p ↔ (wk_P m0 o la p ∧ p ≠ t) := by
  unfold wk_P
  by_cases e : p = t
  · rw [e, wk_us]
    exact ⟨fun h => absurd h.2 hm, fun h => absurd rfl h.2⟩
  · rw [wk_un la _ e]
    exact ⟨fun h => ⟨h, e⟩, fun h => h.1⟩
theorem wk_leaveG {root m0 t met : Nat} {o cf cb nl la : Nat → Nat} (G : wk_G n on a b root m0 t met o cf cb nl la) (hk : nl t = 16) (tr : t ≠ root) : wk_G n on a b root m0 (cf t) met o cf cb nl (wk_u la t met) := by
  obtain ⟨g1, g2, g3, ⟨g4a, g4b, g4c, g4d, g4e⟩, g5, g6, g7, g8, g9, g10, g11, g12⟩ := G
  have hm : met ≠ 0 := by omega
  have pl := wk_Pl (m0 := m0) (t := t) (met := met) (o := o) (la := la) hm
  obtain ⟨u1, u2, u3, u4⟩ := g6 t g4d.1 tr
  obtain ⟨u5, u6⟩ := g7 t g4d tr
  have ut : cf t ≠ t := by intro e; rw [e] at u2; omega
  have up : ∀ p, wk_P m0 o la p → p ≠ t → o p ≤ o (cf t) := by
    intro p hp hn
    rcases u6 p hp with h | h
    · exact h
    · have h2 := g5 p hp
      exact absurd (g3 p t (by omega) (by have := hp.1; omega)) hn
  refine ⟨g1, g2, g3, ⟨g4a, g4b, (pl root).mpr ⟨g4c, fun e => tr e.symm⟩, (pl _).mpr ⟨u5, ut⟩, g4e⟩, ?_, ?_, ?_, ?_, ?_, ?_, g11, g12⟩
  · intro p hp
    have hp := (pl p).mp hp
    exact up p hp.1 hp.2
  · intro p hp hr
    obtain ⟨c1, c2, c3, c4⟩ := g6 p hp hr
    refine ⟨c1, c2, c3, fun h => ?_⟩
    by_cases e : cf p = t
    · rw [e, wk_us]; exact g2 p
    · rw [wk_un la _ e] at h ⊢; exact c4 h
  · intro p hp hr
    have hp := (pl p).mp hp
    obtain ⟨c1, c2⟩ := g7 p hp.1 hr
    refine ⟨(pl _).mpr ⟨c1, fun e => ?_⟩, fun r hr => c2 r ((pl r).mp hr).1⟩
    have a1 := (g6 p hp.1.1 hr).2.1
    have a2 := g5 p hp.1
    rw [e] at a1
    omega
  · intro p hp
    by_cases e : p = t
    · rw [e, wk_us]
      refine ⟨g4d.1, hk, g2 t, Nat.le_refl _, fun r hr => ?_⟩
      have hr := (pl r).mp hr
      have := up r hr.1 hr.2
      omega
    · rw [wk_un la _ e] at hp ⊢
      obtain ⟨c1, c2, c3, c4, c5⟩ := g8 p hp
      exact ⟨c1, c2, c3, c4, fun r hr => c5 r ((pl r).mp hr).1⟩
  · intro y k z hy hk' jj
    obtain ⟨c1, c2⟩ := g9 y k z hy hk' jj
    have aa : ∀ y z, wk_A o la y z → wk_A o (wk_u la t met) y z := by
      intro y z h
      refine ⟨h.1, fun q => ?_⟩
      by_cases e : y = t
      · rw [e, wk_us]; exact g2 z
      · rw [wk_un la _ e] at q ⊢; exact h.2 q
    exact ⟨c1, c2.elim (fun q => Or.inl (aa _ _ q)) (fun q => Or.inr (aa _ _ q))⟩
  · intro c q hc
    exact g10 c q ((pl c).mp hc).1
/-- the path without t: what hangs where -/
theorem wk_hl {root m0 t met : Nat} {o cf cb nl la : Nat → Nat} (G : wk_G n on a b root m0 t met o cf cb nl la) (tr : t ≠ root) {p q : Nat} (hp : wk_P m0 o la p) (pt : p ≠ t) (h : wk_h m0 o (wk_u la t met) p q) : (p = cf t ∧ o t ≤ o q ∧ m0 < o q) ∨ (o q < o t ∧ wk_h m0 o la p q) := by
  obtain ⟨g1, g2, g3, ⟨g4a, g4b, g4c, g4d, g4e⟩, g5, g6, g7, g8, g9, g10, g11, g12⟩ := G
  have hm : met ≠ 0 := by omega
  have pl := wk_Pl (m0 := m0) (t := t) (met := met) (o := o) (la := la) hm
  obtain ⟨u1, u2, u3, u4⟩ := g6 t g4d.1 tr
  obtain ⟨u5, u6⟩ := g7 t g4d tr
  have ut : cf t ≠ t := by intro e; rw [e] at u2; omega
  obtain ⟨h1, h2, h3⟩ := h
  have mq : m0 < o q := by have := hp.1; omega
  by_cases c : o t ≤ o q
  · left
    refine ⟨?_, c, mq⟩
    have x := h3 (cf t) ((pl _).mpr ⟨u5, ut⟩)
    have y := u6 p hp
    have z := g5 p hp
    have w : o p ≠ o t := fun e => pt (g3 p t e (by have := hp.1; omega))
    exact g3 p (cf t) (by omega) (by have := hp.1; omega)
  · right
    refine ⟨by omega, ?_, h2, fun r hr => ?_⟩
    · by_cases e : q = t
      · rw [e] at c; omega
      · rw [wk_un la _ e] at h1; exact h1
    · by_cases e : r = t
      · rw [e]; omega
      · exact h3 r ((pl r).mpr ⟨hr, e⟩)
theorem wk_hk {root m0 t met : Nat} {o cf cb nl la : Nat → Nat} (G : wk_G n on a b root m0 t met o cf cb nl la) {p q : Nat} (h : wk_h m0 o la p q) : wk_h m0 o (wk_u la t met) p q := by
  obtain ⟨g1, g2, g3, ⟨g4a, g4b, g4c, g4d, g4e⟩, _⟩ := G
  have hm : met ≠ 0 := by omega
  obtain ⟨h1, h2, h3⟩ := h
  refine ⟨?_, h2, fun r hr => h3 r ((wk_Pl hm r).mp hr).1⟩
  by_cases e : q = t
  · rw [e, wk_us]; exact hm
  · rw [wk_un la _ e]; exact h1
/-- the points from t on are all behind, or t itself; they hang at t -/
theorem wk_hS {root m0 t met : Nat} {o cf cb nl la : Nat → Nat} (G : wk_G n on a b root m0 t met o cf cb nl la) {q : Nat} (h : o t < o q) : wk_h m0 o la t q := by
  obtain ⟨g1, g2, g3, ⟨g4a, g4b, g4c, g4d, g4e⟩, g5, _⟩ := G
  refine ⟨fun z => ?_, h, fun r hr => Or.inl (g5 r hr)⟩
  have := g5 q ⟨by have := g4d.1; omega, z⟩
  omega
theorem wk_hU {root m0 t met : Nat} {o cf cb nl la : Nat → Nat} (G : wk_G n on a b root m0 t met o cf cb nl la) (tr : t ≠ root) {q : Nat} (h : o t ≤ o q) : wk_h m0 o (wk_u la t met) (cf t) q := by
  have G0 := G
  obtain ⟨g1, g2, g3, ⟨g4a, g4b, g4c, g4d, g4e⟩, g5, g6, g7, g8, g9, g10, g11, g12⟩ := G
  have hm : met ≠ 0 := by omega
  obtain ⟨u1, u2, u3, u4⟩ := g6 t g4d.1 tr
  obtain ⟨u5, u6⟩ := g7 t g4d tr
  refine ⟨?_, by omega, fun r hr => ?_⟩
  · by_cases e : q = t
    · rw [e, wk_us]; exact hm
    · rw [wk_un la _ e]
      have ne : o t ≠ o q := fun w => e (g3 q t w.symm (by have := g4d.1; omega))
      exact (wk_hS G0 (by omega)).1
  · have hr := (wk_Pl hm r).mp hr
    rcases u6 r hr.1 with x | x
    · exact Or.inl x
    · have y := g5 r hr.1
      exact absurd (g3 r t (by omega) (by have := hr.1.1; omega)) hr.2
theorem wk_leaveL {root m0 t met : Nat} {o lo cf cb nl la : Nat → Nat} (G : wk_G n on a b root m0 t met o cf cb nl la) (L : wk_L on a b m0 o lo cb nl la) (hk : nl t = 16) (tr : t ≠ root) (g : wk_0 n on a b) (v : Nat) (hv : v = if lo t < lo (cf t) then lo t else lo (cf t)) : wk_L on a b m0 o (wk_u lo (cf t) v) cb nl (wk_u la t met) := by
  have G0 := G
  obtain ⟨g1, g2, g3, ⟨g4a, g4b, g4c, g4d, g4e⟩, g5, g6, g7, g8, g9, g10, g11, g12⟩ := G
  have hm : met ≠ 0 := by omega
  obtain ⟨u1, u2, u3, u4⟩ := g6 t g4d.1 tr
  obtain ⟨u5, u6⟩ := g7 t g4d tr
  obtain ⟨t1, t2, t3, t4⟩ := L t g4d
  have tl : ∀ q k z, o t ≤ o q → wk_J on a b k q z → k ≠ cb q → lo t ≤ o z := by
    intro q k z hq jj hc
    by_cases e : q = t
    · subst e
      exact t2 k z (by rw [hk]; exact (wk_Jn g jj).1) jj hc
    · have ne : o t ≠ o q := fun w => e (g3 q t w.symm (by have := g4d.1; omega))
      exact t3 q k z (wk_hS G0 (by omega)) jj hc
  intro p hp
  have hp := (wk_Pl hm p).mp hp
  obtain ⟨l1, l2, l3, l4⟩ := L p hp.1
  have hh : ∀ q k z, wk_h m0 o (wk_u la t met) p q → wk_J on a b k q z → k ≠ cb q → (p = cf t ∧ lo t ≤ o z) ∨ lo p ≤ o z := by
    intro q k z h jj hc
    rcases wk_hl G0 tr hp.1 hp.2 h with ⟨e1, e2, _⟩ | ⟨_, e2⟩
    · exact Or.inl ⟨e1, tl q k z e2 jj hc⟩
    · exact Or.inr (l3 q k z e2 jj hc)
  by_cases e : p = cf t
  · subst e
    have v1 : v ≤ lo t ∧ v ≤ lo (cf t) := by rw [hv]; split <;> omega
    unfold wk_L1
    rw [wk_us]
    refine ⟨by omega, fun k z h1 h2 h3 => ?_, fun q k z h1 h2 h3 => ?_, ?_⟩
    · have := l2 k z h1 h2 h3
      omega
    · have := hh q k z h1 h2 h3
      omega
    · by_cases c : lo t < lo (cf t)
      · rw [if_pos c] at hv
        rcases t4 with t4 | ⟨q, k, z, w1, w2, w3, w4, w5⟩
        · omega
        · right
          refine ⟨q, k, z, Or.inr (wk_hU G0 tr ?_), w2, w3, by omega, w5⟩
          rcases w1 with w1 | w1
          · rw [w1]; exact Nat.le_refl _
          · have := w1.2.1; omega
      · rw [if_neg c] at hv
        rcases l4 with l4 | ⟨q, k, z, w1, w2, w3, w4, w5⟩
        · left; omega
        · right
          exact ⟨q, k, z, w1.elim Or.inl (fun x => Or.inr (wk_hk G0 x)), w2, w3, by omega, w5⟩
  · unfold wk_L1
    rw [wk_un lo _ e]
    refine ⟨l1, l2, fun q k z h1 h2 h3 => ?_, ?_⟩
    · rcases hh q k z h1 h2 h3 with x | x
      · exact absurd x.1 e
      · exact x
    · rcases l4 with l4 | ⟨q, k, z, w1, w2, w3, w4, w5⟩
      · exact Or.inl l4
      · exact Or.inr ⟨q, k, z, w1.elim Or.inl (fun x => Or.inr (wk_hk G0 x)), w2, w3, w4, w5⟩
/-- lines from t and what is behind it to before it -/
theorem wk_S (g : wk_0 n on a b) {root m0 t met : Nat} {o lo cf cb nl la : Nat → Nat} (G : wk_G n on a b root m0 t met o cf cb nl la) (L : wk_L on a b m0 o lo cb nl la) (hk : nl t = 16) (tr : t ≠ root) {q k z : Nat} (hq : o t ≤ o q) (jj : wk_J on a b k q z) (hz : o z < o t) : o z ≤ o (cf t) ∧ m0 < o z ∧ ((q = t ∧ k = cb t ∧ z = cf t) ∨ (k ≠ cb q ∧ lo t ≤ o z)) := by
  have G0 := G
  obtain ⟨g1, g2, g3, ⟨g4a, g4b, g4c, g4d, g4e⟩, g5, g6, g7, g8, g9, g10, g11, g12⟩ := G
  obtain ⟨u1, u2, u3, u4⟩ := g6 t g4d.1 tr
  obtain ⟨u5, u6⟩ := g7 t g4d tr
  obtain ⟨t1, t2, t3, t4⟩ := L t g4d
  have k16 := (wk_Jn g jj).1
  have mq : m0 < o q := by have := g4d.1; omega
  have qn : nl q = 16 := by
    by_cases e : q = t
    · rw [e]; exact hk
    · have ne : o t ≠ o q := fun w => e (g3 q t w.symm (by have := g4d.1; omega))
      exact (g8 q (wk_hS G0 (by omega)).1).2.1
  obtain ⟨z1, z2⟩ := g9 q k z mq (by omega) jj
  have az : wk_A o la z q := by
    rcases z2 with z2 | z2
    · have := z2.1; omega
    · exact z2
  have pz : wk_P m0 o la z := by
    refine ⟨z1, ?_⟩
    apply Classical.byContradiction
    intro w
    have a1 := az.2 w
    have a2 := (g8 z w).2.2.2.2 t g4d
    omega
  have zt : z ≠ t := by intro e; rw [e] at hz; omega
  refine ⟨?_, z1, ?_⟩
  · rcases u6 z pz with x | x
    · exact x
    · omega
  · by_cases e : q = t
    · subst e
      by_cases f : k = cb q
      · left
        rw [f] at jj
        exact ⟨rfl, f, wk_Ju g jj u3⟩
      · exact Or.inr ⟨f, t2 k z (by omega) jj f⟩
    · right
      have ne : o t ≠ o q := fun w => e (g3 q t w.symm (by have := g4d.1; omega))
      have hs := wk_hS G0 (q := q) (by omega)
      have kc : k ≠ cb q := by
        intro f
        have qr : q ≠ root := by
          intro x
          rw [x, g4b] at hq
          have := g5 root g4c
          have := g4d.1
          exact e (g3 q t (by rw [x]; omega) (by omega))
        obtain ⟨c1, c2, c3, c4⟩ := g6 q mq qr
        rw [f] at jj
        have e3 : z = cf q := wk_Ju g jj c3
        have e4 := g10 t q g4d mq (by omega)
        rw [← e3] at e4
        omega
      exact ⟨kc, t3 q k z hs jj kc⟩
/-- tree lines join t with all that is behind it -/
theorem wk_TS {root m0 t met : Nat} {o cf cb nl la : Nat → Nat} (G : wk_G n on a b root m0 t met o cf cb nl la) {u q : Nat → Prop} (hu : ∀ x, o t < o x → wk_J on a b (cb x) x (cf x) → o t ≤ o (cf x) → u (cb x) ∧ q x ∧ q (cf x)) : ∀ (i x : Nat), o x ≤ i → o t ≤ o x → gr_R a b u q t x := by
  obtain ⟨g1, g2, g3, ⟨g4a, g4b, g4c, g4d, g4e⟩, g5, g6, g7, g8, g9, g10, g11, g12⟩ := G
  intro i
  induction i with
  | zero => intro x h1 h2; have := g4d.1; omega
  | succ i ih =>
    intro x h1 h2
    by_cases e : x = t
    · rw [e]; exact gr_rf t
    · have ne : o t ≠ o x := fun w => e (g3 x t w.symm (by have := g4d.1; omega))
      have mx : m0 < o x := by have := g4d.1; omega
      have xr : x ≠ root := by
        intro y
        have := g5 root g4c
        rw [y] at ne h2
        have := g4d.1
        omega
      obtain ⟨c1, c2, c3, c4⟩ := g6 x mx xr
      have c5 := g10 t x g4d mx (by omega)
      obtain ⟨d1, d2, d3⟩ := hu x (by omega) c3 c5
      exact gr_tr (ih (cf x) (by omega) c5) (wk_e (wk_Js c3) d1 d3 d2)
/-- tree lines join the root with all points before the bound -/
theorem wk_TO {root m0 t met : Nat} {o cf cb nl la : Nat → Nat} (G : wk_G n on a b root m0 t met o cf cb nl la) {u q : Nat → Prop} (B : Nat) (hu : ∀ x, m0 < o x → o x ≤ B → x ≠ root → wk_J on a b (cb x) x (cf x) → o (cf x) < o x → u (cb x) ∧ q x ∧ q (cf x)) : ∀ (i x : Nat), o x ≤ i → m0 < o x → o x ≤ B → gr_R a b u q root x := by
  obtain ⟨g1, g2, g3, ⟨g4a, g4b, g4c, g4d, g4e⟩, g5, g6, g7, g8, g9, g10, g11, g12⟩ := G
  intro i
  induction i with
  | zero => intro x h1 h2; omega
  | succ i ih =>
    intro x h1 h2 h3
    by_cases e : x = root
    · rw [e]; exact gr_rf root
    · obtain ⟨c1, c2, c3, c4⟩ := g6 x h2 e
      obtain ⟨d1, d2, d3⟩ := hu x h2 h3 e c3 c2
      exact gr_tr (ih (cf x) (by omega) c1 (by omega)) (wk_e (wk_Js c3) d1 d3 d2)
/-- all points of this walk are joined with its root -/
theorem wk_RW (g : wk_0 n on a b) {root m0 t met : Nat} {o cf cb nl la : Nat → Nat} (G : wk_G n on a b root m0 t met o cf cb nl la) {x : Nat} (h : m0 < o x) : gr_R a b on (fun x => x < n) root x := by
  refine wk_TO G met (fun y _ _ _ j _ => ?_) (o x) x (Nat.le_refl _) h (G.2.1 x)
  exact ⟨j.1, (wk_Jn g j).2.1, (wk_Jn g j).2.2.1⟩
theorem wk_brI (g : wk_0 n on a b) {root m0 t met : Nat} {o lo cf cb nl la : Nat → Nat} (G : wk_G n on a b root m0 t met o cf cb nl la) (L : wk_L on a b m0 o lo cb nl la) (hk : nl t = 16) (tr : t ≠ root) : wk_br n on a b (cb t) ↔ o (cf t) < lo t := by
  have G0 := G
  obtain ⟨g1, g2, g3, ⟨g4a, g4b, g4c, g4d, g4e⟩, g5, g6, g7, g8, g9, g10, g11, g12⟩ := G
  obtain ⟨u1, u2, u3, u4⟩ := g6 t g4d.1 tr
  have un := wk_Jn g u3
  -- the two ends, in either order
  have ori : ∀ u : Nat → Prop, gr_R a b u (fun x => x < n) (a (cb t)) (b (cb t)) ↔ gr_R a b u (fun x => x < n) t (cf t) := by
    intro u
    obtain ⟨_, ⟨h1, h2⟩ | ⟨h1, h2⟩⟩ := u3
    · rw [h1, h2]
    · rw [h1, h2]
      exact ⟨gr_sy, gr_sy⟩
  constructor
  · rintro ⟨_, nr⟩
    apply Classical.byContradiction
    intro le
    apply nr
    rw [ori]
    obtain ⟨t1, t2, t3, t4⟩ := L t g4d
    rcases t4 with t4 | ⟨q, k, z, w1, w2, w3, w4, w5⟩
    · omega
    · have qs : o t ≤ o q := by
        rcases w1 with w1 | w1
        · rw [w1]; exact Nat.le_refl _
        · have := w1.2.1; omega
      have kc : k ≠ cb t := by
        intro e
        rw [e] at w2
        rcases wk_J2 w2 u3 with ⟨x, y⟩ | ⟨x, y⟩
        · rw [x] at w3; exact w3 e
        · rw [x] at qs; omega
      have wn := wk_Jn g w2
      have r1 : gr_R a b (fun j => on j ∧ j ≠ cb t) (fun x => x < n) t q := by
        refine wk_TS G0 (fun x h1 h2 h3 => ⟨⟨h2.1, fun e => ?_⟩, (wk_Jn g h2).2.1, (wk_Jn g h2).2.2.1⟩) (o q) q (Nat.le_refl _) qs
        rw [e] at h2
        rcases wk_J2 h2 u3 with ⟨x1, y1⟩ | ⟨x1, y1⟩
        · rw [x1] at h1; omega
        · rw [x1] at h1; omega
      have r2 : gr_R a b (fun j => on j ∧ j ≠ cb t) (fun x => x < n) q z := wk_e w2 ⟨w2.1, kc⟩ wn.2.1 wn.2.2.1
      have out : ∀ y, m0 < o y → o y < o t → gr_R a b (fun j => on j ∧ j ≠ cb t) (fun x => x < n) root y := by
        intro y h1 h2
        refine wk_TO G0 (o t - 1) (fun x p1 p2 p3 p4 p5 => ⟨⟨p4.1, fun e => ?_⟩, (wk_Jn g p4).2.1, (wk_Jn g p4).2.2.1⟩) (o y) y (Nat.le_refl _) h1 (by omega)
        rw [e] at p4
        rcases wk_J2 p4 u3 with ⟨x1, y1⟩ | ⟨x1, y1⟩
        · rw [x1] at p2; omega
        · rw [y1] at p5; omega
      exact gr_tr r1 (gr_tr r2 (gr_tr (gr_sy (out z w5 (by omega))) (out (cf t) u1 u2)))
  · intro lt
    refine ⟨u3.1, fun r => ?_⟩
    rw [ori] at r
    have := r (fun x => o t ≤ o x) (wk_cl g (fun k hk => hk.1) (fun k x y hk' j _ _ hx => by
      apply Classical.byContradiction
      intro ny
      obtain ⟨s1, s2, s3⟩ := wk_S g G0 L hk tr hx j (by omega)
      rcases s3 with s3 | s3
      · exact hk'.2 s3.2.1
      · omega)) (Nat.le_refl _)
    omega
theorem wk_leaveB (g : wk_0 n on a b) {root m0 t met WB WB' : Nat} {o lo cf cb nl la : Nat → Nat} (G : wk_G n on a b root m0 t met o cf cb nl la) (L : wk_L on a b m0 o lo cb nl la) (B : wk_B n on a b root WB cb la) (hk : nl t = 16) (tr : t ≠ root) (hW : ∀ k, WB'.testBit k = true ↔ (WB.testBit k = true ∨ (k = cb t ∧ o (cf t) < lo t))) : wk_B n on a b root WB' cb (wk_u la t met) := by
  have br := wk_brI g G L hk tr
  refine ⟨fun k h => ?_, fun c h1 h2 h3 => ?_⟩
  · rcases (hW k).mp h with h | h
    · exact B.1 k h
    · rw [h.1]; exact br.mpr h.2
  · rw [hW]
    by_cases e : c = t
    · rw [e] at h3 ⊢
      exact Or.inr ⟨rfl, br.mp h3⟩
    · rw [wk_un la _ e] at h1
      exact Or.inl (B.2 c h1 h2 h3)
/-- nothing leads out of what is behind t but by the point before it -/
theorem wk_SC (g : wk_0 n on a b) {root m0 t met : Nat} {o lo cf cb nl la : Nat → Nat} (G : wk_G n on a b root m0 t met o cf cb nl la) (L : wk_L on a b m0 o lo cb nl la) (hk : nl t = 16) (tr : t ≠ root) (h : ∀ z, lo t ≤ o z → m0 < o z → o z ≤ o (cf t) → z = cf t) {y : Nat} (hy : o y < o t) : ¬ gr_R a b on (fun x => x < n ∧ x ≠ cf t) t y := by
  intro r
  have := r (fun x => o t ≤ o x) (wk_cl g (fun k hk => hk) (fun k x z hk' j _ hz hx => by
    apply Classical.byContradiction
    intro nz
    obtain ⟨s1, s2, s3⟩ := wk_S g G L hk tr hx j (by omega)
    rcases s3 with s3 | s3
    · exact hz.2 s3.2.2
    · exact hz.2 (h z s3.2 s2 s1))) (Nat.le_refl _)
  omega
/-- behind t all is joined with t, without the point before it -/
theorem wk_SB (g : wk_0 n on a b) {root m0 t met : Nat} {o cf cb nl la : Nat → Nat} (G : wk_G n on a b root m0 t met o cf cb nl la) (tr : t ≠ root) {x : Nat} (hx : o t ≤ o x) : gr_R a b on (fun x => x < n ∧ x ≠ cf t) t x := by
  have u2 := (G.2.2.2.2.2.1 t G.2.2.2.1.2.2.2.1.1 tr).2.1
  refine wk_TS G (fun y h1 h2 h3 => ⟨h2.1, ⟨(wk_Jn g h2).2.1, fun e => ?_⟩, (wk_Jn g h2).2.2.1, fun e => ?_⟩) (o x) x (Nat.le_refl _) hx
  · rw [e] at h1; omega
  · rw [e] at h3; omega
theorem wk_leaveH (g : wk_0 n on a b) {root m0 t met rb rb' WH WH' : Nat} {o lo cf cb nl la : Nat → Nat} (G : wk_G n on a b root m0 t met o cf cb nl la) (L : wk_L on a b m0 o lo cb nl la) (H : wk_H n on a b root m0 rb WH o cf la) (hk : nl t = 16) (tr : t ≠ root) (hr : rb' = if cf t = root then rb + 1 else rb) (hW : ∀ k, WH'.testBit k = true ↔ (WH.testBit k = true ∨ (k = cf t ∧ (if cf t = root then 1 < rb' else o (cf t) ≤ lo t)))) : wk_H n on a b root m0 rb' WH' o cf (wk_u la t met) := by
  have G0 := G
  obtain ⟨g1, g2, g3, ⟨g4a, g4b, g4c, g4d, g4e⟩, g5, g6, g7, g8, g9, g10, g11, g12⟩ := G
  obtain ⟨u1, u2, u3, u4⟩ := g6 t g4d.1 tr
  obtain ⟨u5, u6⟩ := g7 t g4d tr
  obtain ⟨h1, h2, h3, h4, h5, h6⟩ := H
  have un := wk_Jn g u3
  have hm : met ≠ 0 := by omega
  have ut : cf t ≠ t := by intro e; rw [e] at u2; omega
  have rn : root < n := by
    apply Classical.byContradiction
    intro q
    have := g1 root (by omega)
    omega
  have tn : t < n := un.2.1
  have rt : o root < o t := by
    have := g5 root g4c
    have : o root ≠ o t := fun e => tr (g3 t root e.symm (by have := g4d.1; omega))
    omega
  refine ⟨?_, ?_, ?_, ?_, ?_, ?_⟩
  · -- what is marked is a hinge
    intro p hp
    rcases (hW p).mp hp with hp | ⟨e, hq⟩
    · exact h1 p hp
    · subst e
      refine ⟨un.2.2.1, ?_⟩
      by_cases c : cf t = root
      · rw [if_pos c] at hq
        rw [if_pos c] at hr
        obtain ⟨c0, k1, k2, k3⟩ := h4 (by omega)
        have c0m := (g8 c0 k1).1
        have c0n : c0 < n := by
          apply Classical.byContradiction
          intro q
          have := g1 c0 (by omega)
          omega
        have c0t : c0 ≠ t := by intro e; rw [e] at k1; exact k1 g4d.2
        have c0l : o c0 < o t := by
          apply Classical.byContradiction
          intro q
          have ne : o t ≠ o c0 := fun w => c0t (g3 c0 t w.symm (by omega))
          have := g10 t c0 g4d c0m (by omega)
          rw [k3] at this
          omega
        refine ⟨t, c0, ⟨tn, fun e => ut e.symm⟩, ⟨c0n, fun e => k2 (e.trans c)⟩, gr_tr (gr_sy (wk_RW g G0 g4d.1)) (wk_RW g G0 c0m), ?_⟩
        refine wk_SC g G0 L hk tr (fun z _ z2 z3 => ?_) c0l
        rw [c] at z3 ⊢
        exact g3 z root (by omega) (by omega)
      · rw [if_neg c] at hq
        refine ⟨t, root, ⟨tn, fun e => ut e.symm⟩, ⟨rn, fun e => c e.symm⟩, gr_sy (wk_RW g G0 g4d.1), ?_⟩
        refine wk_SC g G0 L hk tr (fun z z1 z2 z3 => ?_) rt
        exact g3 z (cf t) (by omega) (by omega)
  · -- what isn't marked keeps its followers joined with the root
    intro u hu ur uh q hq
    have uh0 : ¬ WH.testBit u = true := fun w => uh ((hW u).mpr (Or.inl w))
    by_cases e : u = t
    · subst e
      refine h2 u hu ur uh0 q ?_
      rcases hq with hq | hq
      · exact Or.inr ⟨g4d.2, wk_hS G0 hq.2.1⟩
      · rw [wk_us] at hq
        exact absurd hq.1 hm
    · rw [wk_un la _ e] at hq
      rcases hq with hq | ⟨lu, hq⟩
      · exact h2 u hu ur uh0 q (Or.inl hq)
      · rcases wk_hl G0 tr ⟨hu, lu⟩ e hq with ⟨e1, e2, _⟩ | ⟨_, e2⟩
        · -- q is from t on, and u is the point before t
          have c : ¬ cf t = root := by rw [← e1]; exact ur
          have lt : lo t < o (cf t) := by
            apply Classical.byContradiction
            intro w
            exact uh ((hW u).mpr (Or.inr ⟨e1, by rw [if_neg c]; omega⟩))
          obtain ⟨t1, t2, t3, t4⟩ := L t g4d
          rcases t4 with t4 | ⟨q', k, z, w1, w2, w3, w4, w5⟩
          · omega
          · have qs : o t ≤ o q' := by
              rcases w1 with w1 | w1
              · rw [w1]; exact Nat.le_refl _
              · have := w1.2.1; omega
            have wn := wk_Jn g w2
            have qu : q' ≠ cf t := by intro x; rw [x] at qs; omega
            have zu : z ≠ cf t := by intro x; rw [x] at w4; omega
            have r1 := wk_SB g G0 tr e2
            have r2 := wk_SB g G0 tr qs
            have r3 : gr_R a b on (fun x => x < n ∧ x ≠ cf t) q' z := wk_e w2 w2.1 ⟨wn.2.1, qu⟩ ⟨wn.2.2.1, zu⟩
            have r4 : gr_R a b on (fun x => x < n ∧ x ≠ cf t) root z := by
              refine wk_TO G0 (o z) (fun x p1 p2 p3 p4 p5 => ⟨p4.1, ⟨(wk_Jn g p4).2.1, fun y => ?_⟩, (wk_Jn g p4).2.2.1, fun y => ?_⟩) (o z) z (Nat.le_refl _) w5 (Nat.le_refl _)
              · rw [y] at p2; omega
              · rw [y] at p5; omega
            rw [e1]
            exact gr_tr (gr_sy r1) (gr_tr r2 (gr_tr r3 (gr_sy r4)))
        · exact h2 u hu ur uh0 q (Or.inr ⟨lu, e2⟩)
  · intro h q hq
    have c : ¬ cf t = root := by
      intro c
      rw [if_pos c] at hr
      omega
    rw [if_neg c] at hr
    rcases wk_hl G0 tr g4c (fun e => tr e.symm) hq with ⟨e1, _, _⟩ | ⟨_, e2⟩
    · exact c e1.symm
    · exact h3 (by omega) q e2
  · intro h
    by_cases c : cf t = root
    · exact ⟨t, by rw [wk_us]; exact hm, tr, c⟩
    · rw [if_neg c] at hr
      obtain ⟨c0, k1, k2, k3⟩ := h4 (by omega)
      have c0t : c0 ≠ t := by intro e; rw [e] at k1; exact k1 g4d.2
      exact ⟨c0, by rw [wk_un la _ c0t]; exact k1, k2, k3⟩
  · intro h
    by_cases c : cf t = root
    · rw [if_pos c] at hr
      refine ⟨t, fun q hq => ?_⟩
      rcases wk_hl G0 tr g4c (fun e => tr e.symm) hq with ⟨_, e2, _⟩ | ⟨_, e2⟩
      · have := wk_SB g G0 tr e2
        rw [c] at this
        exact gr_sy this
      · exact absurd e2 (h3 (by omega) q)
    · rw [if_neg c] at hr
      obtain ⟨c0, k⟩ := h5 (by omega)
      refine ⟨c0, fun q hq => ?_⟩
      rcases wk_hl G0 tr g4c (fun e => tr e.symm) hq with ⟨e1, _, _⟩ | ⟨_, e2⟩
      · exact absurd e1.symm c
      · exact k q e2
  · intro h
    rw [hW]
    by_cases c : cf t = root
    · right
      rw [if_pos c]
      exact ⟨c.symm, by omega⟩
    · rw [if_neg c] at hr
      exact Or.inl (h6 (by omega))
/-! the end of a walk -/
/-- between walks: the points met are whole groups, and all about them is known -/
def wk_Z (n : Nat) (on : Nat → Prop) (a b : Nat → Nat) (met WB WH : Nat) (o ro : Nat → Nat) : Prop :=
  (∀ p, n ≤ p → o p = 0) ∧ (∀ p, o p ≤ met) ∧ (∀ p r, o p = o r → o p ≠ 0 → p = r) ∧
  (∀ y k z, wk_J on a b k y z → o y ≠ 0 → o z ≠ 0) ∧
  (∀ p, o p ≠ 0 → gr_R a b on (fun x => x < n) (ro p) p ∧ ro p < n ∧ ∀ r, r < ro p → ¬ gr_R a b on (fun x => x < n) r p) ∧
  (∀ k, WB.testBit k = true → wk_br n on a b k) ∧ (∀ k, on k → o (a k) ≠ 0 → wk_br n on a b k → WB.testBit k = true) ∧
  (∀ p, WH.testBit p = true → wk_hi n on a b p) ∧ (∀ p, o p ≠ 0 → wk_hi n on a b p → WH.testBit p = true)
theorem wk_end (g : wk_0 n on a b) {root m0 met rb WB WH WB0 WH0 : Nat} {o o0 cf cb nl la ro ro0 : Nat → Nat} (Z : wk_Z n on a b m0 WB0 WH0 o0 ro0) (G : wk_G n on a b root m0 root met o cf cb nl la) (B : wk_B n on a b root WB cb la) (H : wk_H n on a b root m0 rb WH o cf la) (hk : nl root = 16)
    (o1 : ∀ p, o0 p ≠ 0 → o p = o0 p ∧ ro p = ro0 p) (o2 : ∀ p, o p ≠ 0 → o p ≤ m0 → o0 p ≠ 0) (r1 : ∀ p, m0 < o p → ro p = root) (r2 : ∀ p, p < root → o0 p ≠ 0) (b0 : ∀ k, WB0.testBit k = true → WB.testBit k = true) (b1 : ∀ k, WH0.testBit k = true → WH.testBit k = true) : wk_Z n on a b met WB WH o ro := by
  have G0 := G
  obtain ⟨g1, g2, g3, ⟨g4a, g4b, g4c, g4d, g4e⟩, g5, g6, g7, g8, g9, g10, g11, g12⟩ := G
  obtain ⟨z1, z2, z3, z4, z5, z6, z7, z8, z9⟩ := Z
  obtain ⟨h1, h2, h3, h4, h5, h6⟩ := H
  have inn : ∀ p, o p ≠ 0 → p < n := by
    intro p hp
    apply Classical.byContradiction
    intro q
    exact hp (g1 p (by omega))
  -- every point of this walk but the root is behind
  have fin : ∀ p, m0 < o p → p ≠ root → la p ≠ 0 := by
    intro p hp hr q
    have := g5 p ⟨hp, q⟩
    exact hr (g3 p root (by omega) (by omega))
  have nl16 : ∀ p, m0 < o p → nl p = 16 := by
    intro p hp
    by_cases e : p = root
    · rw [e]; exact hk
    · exact (g8 p (fin p hp e)).2.1
  have clW : ∀ y k z, wk_J on a b k y z → m0 < o y → m0 < o z := by
    intro y k z j hy
    exact (g9 y k z hy (by rw [nl16 y hy]; exact (wk_Jn g j).1) j).1
  have RW : ∀ x y, gr_R a b on (fun x => x < n) x y → m0 < o x → m0 < o y := by
    intro x y r hx
    exact r (fun x => m0 < o x) (wk_cl g (fun k h => h) (fun k x y _ j _ _ h => clW x k y j h)) hx
  refine ⟨g1, g2, g3, ?_, ?_, B.1, ?_, h1, ?_⟩
  · intro y k z j hy
    by_cases c : m0 < o y
    · have := clW y k z j c
      omega
    · exact (g11 y k z j hy (by omega)).1
  · intro p hp
    by_cases c : m0 < o p
    · rw [r1 p c]
      refine ⟨wk_RW g G0 c, inn root (by omega), fun r hr hR => ?_⟩
      have q1 := RW p r (gr_sy hR) c
      have q2 := r2 r hr
      have q3 := (o1 r q2).1
      have q4 := z2 r
      omega
    · have q := o2 p hp (by omega)
      rw [(o1 p q).2]
      exact z5 p q
  · intro k hk' ha hb
    by_cases c : m0 < o (a k)
    · by_cases ex : ∃ x, m0 < o x ∧ x ≠ root ∧ cb x = k
      · obtain ⟨x, x1, x2, x3⟩ := ex
        rw [← x3] at hb ⊢
        exact B.2 x (fin x x1 x2) x2 hb
      · exfalso
        apply hb.2
        have kn := g k hk'
        have cb' := clW (a k) k (b k) ⟨hk', Or.inl ⟨rfl, rfl⟩⟩ c
        have rr : ∀ x, m0 < o x → gr_R a b (fun j => on j ∧ j ≠ k) (fun x => x < n) root x := by
          intro x hx
          refine wk_TO G0 met (fun y p1 p2 p3 p4 p5 => ⟨⟨p4.1, fun e => ex ⟨y, p1, p3, e⟩⟩, (wk_Jn g p4).2.1, (wk_Jn g p4).2.2.1⟩) (o x) x (Nat.le_refl _) hx (g2 x)
        exact gr_tr (gr_sy (rr _ c)) (rr _ cb')
    · have q := o2 (a k) ha (by omega)
      exact b0 k (z7 k hk' q hb)
  · intro u hu hh
    by_cases c : m0 < o u
    · apply Classical.byContradiction
      intro nw
      obtain ⟨un, x, y, hx, hy, r, nr⟩ := hh
      apply nr
      -- without u, x and y
      have tog : m0 < o x → gr_R a b on (fun x => x < n ∧ x ≠ u) x y := by
        intro cx
        have cy := RW x y r cx
        by_cases e : u = root
        · subst e
          have hang : ∀ q, m0 < o q → q ≠ u → wk_h m0 o la u q := by
            intro q hq qu
            refine ⟨fin q hq qu, ?_, fun r hr => Or.inl (g5 r hr)⟩
            have : o q ≠ o u := fun w => qu (g3 q u w (by omega))
            omega
          have rb1 : rb = 1 := by
            have : ¬ 2 ≤ rb := fun w => nw (h6 w)
            have : rb ≠ 0 := fun w => h3 w x (hang x cx hx.2)
            omega
          obtain ⟨c0, k⟩ := h5 rb1
          exact gr_tr (k x (hang x cx hx.2)) (gr_sy (k y (hang y cy hy.2)))
        · have all : ∀ (i q : Nat), o q ≤ i → m0 < o q → q ≠ u → gr_R a b on (fun x => x < n ∧ x ≠ u) q root := by
            intro i
            induction i with
            | zero => intro q h1 h2; omega
            | succ i ih =>
              intro q q1 q2 q3
              by_cases e2 : q = root
              · rw [e2]; exact gr_rf root
              · by_cases e3 : o u < o q ∧ o q ≤ la u
                · exact h2 u c e nw q (Or.inl ⟨fin u c e, e3.1, e3.2⟩)
                · obtain ⟨c1, c2, c3, c4⟩ := g6 q q2 e2
                  have cu : cf q ≠ u := by
                    intro w
                    rw [w] at c2 c4
                    exact e3 ⟨c2, c4 (fin u c e)⟩
                  exact gr_tr (wk_e c3 c3.1 ⟨(wk_Jn g c3).2.1, q3⟩ ⟨(wk_Jn g c3).2.2.1, cu⟩) (ih (cf q) (by omega) c1 cu)
          exact gr_tr (all (o x) x (Nat.le_refl _) cx hx.2) (gr_sy (all (o y) y (Nat.le_refl _) cy hy.2))
      by_cases cx : m0 < o x
      · exact tog cx
      · -- x's group hasn't u
        intro S cS sx
        have := r (fun z => S z ∧ ¬ m0 < o z) (wk_cl g (fun k h => h) (fun k v w _ j hv hw h => by
          have w1 : ¬ m0 < o w := fun q => h.2 (clW w k v (wk_Js j) q)
          refine ⟨?_, w1⟩
          have vu : v ≠ u := by intro e; rw [e] at h; exact h.2 c
          have wu : w ≠ u := by intro e; rw [e] at w1; exact w1 c
          exact wk_e (u := on) (q := fun x => x < n ∧ x ≠ u) j j.1 ⟨hv, vu⟩ ⟨hw, wu⟩ S cS h.1)) ⟨sx, cx⟩
        exact this.1
    · have q := o2 u hu (by omega)
      exact b1 u (z9 u q hh)
/-! the beginning of a walk -/
theorem wk_start (g : wk_0 n on a b) {root m0 WB WH : Nat} {o lo cf cb nl ro : Nat → Nat} (Z : wk_Z n on a b m0 WB WH o ro) (rn : root < n) (hr : o root = 0) :
    wk_G n on a b root m0 root (m0 + 1) (wk_u o root (m0 + 1)) (wk_u cf root root) (wk_u cb root 99) (wk_u nl root 0) (fun _ => 0) ∧
    wk_L on a b m0 (wk_u o root (m0 + 1)) (wk_u lo root (m0 + 1)) (wk_u cb root 99) (wk_u nl root 0) (fun _ => 0) ∧
    wk_B n on a b root WB (wk_u cb root 99) (fun _ => 0) ∧
    wk_H n on a b root m0 0 WH (wk_u o root (m0 + 1)) (wk_u cf root root) (fun _ => 0) := by
  obtain ⟨z1, z2, z3, z4, z5, z6, z7, z8, z9⟩ := Z
  have on1 : ∀ p, m0 < wk_u o root (m0 + 1) p → p = root := by
    intro p hp
    apply Classical.byContradiction
    intro e
    rw [wk_un o _ e] at hp
    have := z2 p
    omega
  refine ⟨⟨?_, ?_, ?_, ⟨by omega, wk_us _ _ _, ⟨by rw [wk_us]; omega, rfl⟩, ⟨by rw [wk_us]; omega, rfl⟩, by rw [wk_us]; omega⟩, ?_, ?_, ?_, ?_, ?_, ?_, ?_, ?_⟩, ?_, ⟨z6, fun c h => absurd rfl h⟩, ⟨z8, ?_, ?_, ?_, ?_, ?_⟩⟩
  · intro p hp
    rw [wk_un o _ (by omega)]
    exact z1 p hp
  · intro p
    by_cases e : p = root
    · rw [e, wk_us]; omega
    · rw [wk_un o _ e]
      have := z2 p
      omega
  · intro p r e0 e1
    by_cases e : p = root
    · by_cases f : r = root
      · rw [e, f]
      · rw [e, wk_us, wk_un o _ f] at e0
        have := z2 r
        omega
    · rw [wk_un o _ e] at e0 e1
      by_cases f : r = root
      · rw [f, wk_us] at e0
        have := z2 p
        omega
      · rw [wk_un o _ f] at e0
        exact z3 p r e0 e1
  · intro p hp
    rw [on1 p hp.1]
    exact Nat.le_refl _
  · intro p hp h
    exact absurd (on1 p hp) h
  · intro p hp h
    exact absurd (on1 p hp.1) h
  · intro p hp
    exact absurd rfl hp
  · intro y k z hy hk
    rw [on1 y hy, wk_us] at hk
    omega
  · intro c q hc hq h
    rw [on1 c hc.1, on1 q hq] at h
    omega
  · intro y k z j h1 h2
    have yr : y ≠ root := by intro e; rw [e, wk_us] at h2; omega
    rw [wk_un o _ yr] at h1
    have := z4 y k z j h1
    have zr : z ≠ root := by intro e; rw [e] at this; exact this hr
    rw [wk_un o _ zr]
    exact ⟨this, z2 z⟩
  · intro p hp
    rw [on1 p hp, wk_us]
    omega
  · intro p hp
    rw [on1 p hp.1]
    unfold wk_L1
    rw [wk_us, wk_us, wk_us, wk_us]
    exact ⟨Nat.le_refl _, fun k z h => by omega, fun q k z h => absurd rfl h.1, Or.inl rfl⟩
  · intro u hu ur
    exact absurd (on1 u hu) ur
  · intro _ q h
    exact h.1 rfl
  · intro h
    omega
  · intro h
    omega
  · intro h
    omega
end
/-! how many steps are left -/
def wk_s (f : Nat → Nat) : Nat → Nat
  | 0 => 0
  | n + 1 => wk_s f n + f n
theorem wk_s_le {f h : Nat → Nat} : ∀ n, (∀ i, i < n → f i ≤ h i) → wk_s f n ≤ wk_s h n := by
  intro n
  induction n with
  | zero => intro _; exact Nat.le_refl _
  | succ n ih =>
    intro k
    have x := ih (fun i hi => k i (by omega))
    have y := k n (by omega)
    show wk_s f n + f n ≤ wk_s h n + h n
    omega
theorem wk_s_lt {f h : Nat → Nat} (x : Nat) : ∀ n, (∀ i, i < n → f i ≤ h i) → x < n → f x < h x → wk_s f n < wk_s h n := by
  intro n
  induction n with
  | zero => intro _ h; omega
  | succ n ih =>
    intro k hx hl
    show wk_s f n + f n < wk_s h n + h n
    have y := k n (by omega)
    by_cases e : x = n
    · have z := wk_s_le n (fun i hi => k i (by omega))
      rw [e] at hl
      omega
    · have z := ih (fun i hi => k i (by omega)) (by omega) hl
      omega
theorem wk_s_ge {f : Nat → Nat} (x : Nat) : ∀ n, x < n → f x ≤ wk_s f n := by
  intro n
  induction n with
  | zero => intro h; omega
  | succ n ih =>
    intro h
    show f x ≤ wk_s f n + f n
    by_cases e : x = n
    · rw [e]; omega
    · have := ih (by omega)
      omega
theorem wk_s_b {f : Nat → Nat} {c : Nat} : ∀ n, (∀ i, i < n → f i ≤ c) → wk_s f n ≤ n * c := by
  intro n
  induction n with
  | zero => intro _; exact Nat.zero_le _
  | succ n ih =>
    intro h
    have x := ih (fun i hi => h i (by omega))
    have y := h n (by omega)
    show wk_s f n + f n ≤ (n + 1) * c
    rw [Nat.succ_mul]
    omega
/-- what point p still costs -/
def wk_m (m0 : Nat) (o nl la : Nat → Nat) (p : Nat) : Nat := if o p = 0 then 17 else if m0 < o p ∧ la p = 0 then 17 - nl p else 0
def wk_M (m0 : Nat) (o nl la : Nat → Nat) : Nat := wk_s (wk_m m0 o nl la) 8
theorem wk_Mb (m0 : Nat) (o nl la : Nat → Nat) : wk_M m0 o nl la ≤ 136 := wk_s_b (c := 17) 8 (fun i _ => by unfold wk_m; split <;> (try split) <;> omega)
theorem wk_Mp {m0 : Nat} {o nl la : Nat → Nat} {p : Nat} (h8 : p < 8) (h : wk_P m0 o la p) (hn : nl p ≤ 16) : 1 ≤ wk_M m0 o nl la := by
  have x := wk_s_ge (f := wk_m m0 o nl la) p 8 h8
  have y : 1 ≤ wk_m m0 o nl la p := by
    unfold wk_m
    have := h.1
    have h' : m0 < o p ∧ la p = 0 := h
    rw [if_neg (by omega), if_pos h']
    omega
  unfold wk_M
  omega
theorem wk_Mlook {m0 : Nat} {o nl la : Nat → Nat} {t : Nat} (h8 : t < 8) (h : wk_P m0 o la t) (hn : nl t < 16) : wk_M m0 o (wk_u nl t (nl t + 1)) la < wk_M m0 o nl la := by
  have h1 := h.1
  have h' : m0 < o t ∧ la t = 0 := h
  apply wk_s_lt t 8 _ h8
  · unfold wk_m
    rw [if_neg (by omega), if_pos h', if_neg (by omega), if_pos h', wk_us]
    omega
  · intro i _
    unfold wk_m
    by_cases e : i = t
    · rw [e, if_neg (by omega), if_pos h', if_neg (by omega), if_pos h', wk_us]
      omega
    · rw [wk_un nl _ e]
      exact Nat.le_refl _
theorem wk_Mmeet {m0 met : Nat} {o nl la : Nat → Nat} {t z : Nat} (h8 : t < 8) (h : wk_P m0 o la t) (hn : nl t < 16) (hz : o z = 0) (tz : t ≠ z) : wk_M m0 (wk_u o z (met + 1)) (wk_u (wk_u nl t (nl t + 1)) z 0) la < wk_M m0 o nl la := by
  have h1 := h.1
  have h' : m0 < o t ∧ la t = 0 := h
  apply wk_s_lt t 8 _ h8
  · unfold wk_m
    rw [wk_un o _ tz, if_neg (by omega), if_pos h', if_neg (by omega), if_pos h', wk_un _ _ tz, wk_us]
    omega
  · intro i _
    unfold wk_m
    by_cases e : i = z
    · rw [e, wk_us, wk_us, hz, if_neg (by omega), if_pos rfl]
      split <;> omega
    · rw [wk_un o _ e, wk_un _ _ e]
      by_cases f : i = t
      · rw [f, if_neg (by omega), if_pos h', if_neg (by omega), if_pos h', wk_us]
        omega
      · rw [wk_un nl _ f]
        exact Nat.le_refl _
theorem wk_Mleave {m0 met : Nat} {o nl la : Nat → Nat} {t : Nat} (h8 : t < 8) (h : wk_P m0 o la t) (hn : nl t = 16) (hm : met ≠ 0) : wk_M m0 o nl (wk_u la t met) < wk_M m0 o nl la := by
  have h1 := h.1
  have h' : m0 < o t ∧ la t = 0 := h
  apply wk_s_lt t 8 _ h8
  · unfold wk_m
    rw [if_neg (by omega), if_neg (by rw [wk_us]; omega), if_neg (by omega), if_pos h']
    omega
  · intro i _
    unfold wk_m
    by_cases e : i = t
    · rw [e, if_neg (by omega), if_neg (by rw [wk_us]; omega)]
      exact Nat.zero_le _
    · rw [wk_un la _ e]
      exact Nat.le_refl _
end
section
/-! sets that no line leaves: two to the number of groups -/
theorem mt_inj : ∀ (n m : Nat) (P Q : Nat → Bool) (f : Nat → Nat), (∀ s, s < n → P s = true → f s < m ∧ Q (f s) = true) → (∀ s t, s < n → t < n → P s = true → P t = true → f s = f t → s = t) → mt_c P n ≤ mt_c Q m := by
  intro n
  induction n with
  | zero => intro m P Q f _ _; exact Nat.zero_le _
  | succ n ih =>
    intro m P Q f h1 h2
    rw [mt_cS]
    by_cases e : P n = true
    · rw [if_pos e]
      obtain ⟨x1, x2⟩ := h1 n (by omega) e
      have b := mt_c_but (P := Q) (Q := fun t => Q t && decide (t ≠ f n)) (f n) m x1 x2 (by simp) (fun i _ hi => by simp [hi])
      have c := ih m P (fun t => Q t && decide (t ≠ f n)) f (fun s hs ps => by
        obtain ⟨y1, y2⟩ := h1 s (by omega) ps
        refine ⟨y1, ?_⟩
        have : f s ≠ f n := by
          intro q
          have := h2 s n (by omega) (by omega) ps e q
          omega
        simp [y2, this]) (fun s t hs ht => h2 s t (by omega) (by omega))
      omega
    · rw [if_neg e]
      have c := ih m P Q f (fun s hs => h1 s (by omega)) (fun s t hs ht => h2 s t (by omega) (by omega))
      omega
/-- a mask out of a predicate -/
def gr_mk (P : Nat → Bool) : Nat → Nat
  | 0 => 0
  | n + 1 => gr_mk P n ||| (if P n = true then 2 ^ n else 0)
theorem gr_mkT (P : Nat → Bool) : ∀ n i, (gr_mk P n).testBit i = (decide (i < n) && P i) := by
  intro n
  induction n with
  | zero => intro i; simp [gr_mk]
  | succ n ih =>
    intro i
    show (gr_mk P n ||| (if P n = true then 2 ^ n else 0)).testBit i = _
    rw [Nat.testBit_or, ih]
    by_cases e : i = n
    · subst e
      by_cases p : P i = true
      · rw [if_pos p, Nat.testBit_two_pow_self, p]; simp
      · rw [if_neg p]
        have : P i = false := by simpa using p
        rw [this]; simp
    · have : (if P n = true then 2 ^ n else 0).testBit i = false := by
        split
        · exact Nat.testBit_two_pow_of_ne (fun q => e q.symm)
        · exact Nat.zero_testBit i
      rw [this, Bool.or_false]
      have : decide (i < n) = decide (i < n + 1) := by
        by_cases c : i < n
        · rw [decide_eq_true c, decide_eq_true (by omega)]
        · rw [decide_eq_false c, decide_eq_false (by omega)]
      rw [this]
theorem gr_mkL (P : Nat → Bool) : ∀ n, gr_mk P n < 2 ^ n := by
  intro n
  induction n with
  | zero => show 0 < 1; omega
  | succ n ih =>
    show gr_mk P n ||| (if P n = true then 2 ^ n else 0) < 2 ^ (n + 1)
    have e : 2 ^ (n + 1) = 2 ^ n + 2 ^ n := by rw [Nat.pow_succ]; omega
    have p : 0 < 2 ^ n := Nat.two_pow_pos n
    apply Nat.or_lt_two_pow
    · omega
    · split <;> omega
/-- the subsets of a set -/
theorem gr_sub (M : Nat → Prop) : ∀ k, mt_c (fun t => gr_b (∀ p, t.testBit p = true → M p)) (2 ^ k) = 2 ^ (mt_c (fun p => gr_b (M p)) k) := by
  intro k
  induction k with
  | zero =>
    show 0 + (if gr_b (∀ p, Nat.testBit 0 p = true → M p) = true then 1 else 0) = 1
    rw [if_pos (gr_bT.mpr (fun p h => by rw [Nat.zero_testBit] at h; cases h))]
  | succ k ih =>
    have e : 2 ^ (k + 1) = 2 ^ k + 2 ^ k := by rw [Nat.pow_succ]; omega
    have bt : ∀ t, t < 2 ^ k → ∀ p, (2 ^ k + t).testBit p = true ↔ (p = k ∨ t.testBit p = true) := by
      intro t ht p
      by_cases c : p = k
      · subst c
        rw [Nat.testBit_two_pow_add_eq, Nat.testBit_lt_two_pow ht]
        simp
      · by_cases d : p < k
        · rw [Nat.testBit_two_pow_add_gt d]
          exact ⟨Or.inr, fun h => h.elim (fun q => absurd q c) id⟩
        · have w : 2 ^ (k + 1) ≤ 2 ^ p := Nat.pow_le_pow_right (by omega) (by omega)
          rw [Nat.testBit_lt_two_pow (by omega), Nat.testBit_lt_two_pow (by omega)]
          exact ⟨fun q => (by cases q), fun q => q.elim (fun q => absurd q c) id⟩
    rw [e, mt_c_add, ih, mt_cS]
    by_cases m : M k
    · rw [if_pos (gr_bT.mpr m), Nat.pow_succ]
      have : mt_c (fun i => gr_b (∀ p, (2 ^ k + i).testBit p = true → M p)) (2 ^ k) = 2 ^ (mt_c (fun p => gr_b (M p)) k) := by
        rw [← ih]
        apply mt_c_congr
        intro t ht
        apply gr_bC
        constructor
        · intro h p hp
          exact h p ((bt t ht p).mpr (Or.inr hp))
        · intro h p hp
          rcases (bt t ht p).mp hp with q | q
          · rw [q]; exact m
          · exact h p q
      rw [this]
      omega
    · have z : mt_c (fun i => gr_b (∀ p, (2 ^ k + i).testBit p = true → M p)) (2 ^ k) = 0 := mt_c_0 _ (fun t ht => gr_bF.mpr (fun h => m (h k ((bt t ht k).mpr (Or.inl rfl)))))
      rw [if_neg (fun q => m (gr_bT.mp q)), z]
      rfl
theorem gr_cs {a b : Nat → Nat} {u q : Nat → Prop} (q8 : ∀ p, q p → p < 8) : mt_c (fun s => gr_b ((∀ p, s.testBit p = true → q p) ∧ gr_C a b u q (fun p => s.testBit p = true))) 256 = 2 ^ (gr_n (gr_R a b u q) q) := by
  have E := gr_RE a b u q
  have s := gr_sub (gr_l (gr_R a b u q) q) 8
  have s' : mt_c (fun t => gr_b (∀ p, t.testBit p = true → gr_l (gr_R a b u q) q p)) 256 = 2 ^ (gr_n (gr_R a b u q) q) := s
  rw [← s']
  apply Nat.le_antisymm
  · apply mt_inj 256 256 _ _ (fun s => gr_mk (fun p => s.testBit p && gr_b (gr_l (gr_R a b u q) q p)) 8)
    · intro s hs h
      refine ⟨gr_mkL _ 8, gr_bT.mpr (fun p hp => ?_)⟩
      rw [gr_mkT] at hp
      simp only [Bool.and_eq_true] at hp
      exact gr_bT.mp hp.2.2
    · intro s t hs ht h1 h2 e
      have h1 := gr_bT.mp h1
      have h2 := gr_bT.mp h2
      have half : ∀ s t : Nat, ((∀ p, s.testBit p = true → q p) ∧ gr_C a b u q (fun p => s.testBit p = true)) → ((∀ p, t.testBit p = true → q p) ∧ gr_C a b u q (fun p => t.testBit p = true)) → gr_mk (fun p => s.testBit p && gr_b (gr_l (gr_R a b u q) q p)) 8 = gr_mk (fun p => t.testBit p && gr_b (gr_l (gr_R a b u q) q p)) 8 → ∀ p, s.testBit p = true → t.testBit p = true := by
        intro s t h1 h2 e p hp
        obtain ⟨y, _, ly, ry⟩ := gr_lex (R := gr_R a b u q) (q := q) E (h1.1 p hp)
        have sy : s.testBit y = true := gr_sy ry _ h1.2 hp
        have : (gr_mk (fun p => s.testBit p && gr_b (gr_l (gr_R a b u q) q p)) 8).testBit y = true := by
          rw [gr_mkT, decide_eq_true (q8 y ly.1), sy, gr_bT.mpr ly]
          rfl
        rw [e, gr_mkT] at this
        simp only [Bool.and_eq_true] at this
        exact ry _ h2.2 this.2.1
      apply Nat.eq_of_testBit_eq
      intro p
      have x := half s t h1 h2 e p
      have y := half t s h2 h1 e.symm p
      cases hs' : s.testBit p <;> cases ht' : t.testBit p <;> simp_all
  · apply mt_inj 256 256 _ _ (fun t => gr_mk (fun p => gr_b (q p ∧ ∃ x, t.testBit x = true ∧ gr_R a b u q x p)) 8)
    · intro t ht h
      have h := gr_bT.mp h
      refine ⟨gr_mkL _ 8, gr_bT.mpr ⟨fun p hp => ?_, ?_⟩⟩
      · rw [gr_mkT] at hp
        simp only [Bool.and_eq_true] at hp
        exact (gr_bT.mp hp.2).1
      · intro k hk ha hb
        dsimp only
        rw [gr_mkT, gr_mkT, decide_eq_true (q8 _ ha), decide_eq_true (q8 _ hb), Bool.true_and, Bool.true_and, gr_bT, gr_bT]
        exact ⟨fun ⟨_, x, h1, h2⟩ => ⟨hb, x, h1, gr_tr h2 (gr_ln hk ha hb)⟩, fun ⟨_, x, h1, h2⟩ => ⟨ha, x, h1, gr_tr h2 (gr_ln' hk ha hb)⟩⟩
    · intro s t hs ht h1 h2 e
      have h1 := gr_bT.mp h1
      have h2 := gr_bT.mp h2
      have half : ∀ s t : Nat, (∀ p, s.testBit p = true → gr_l (gr_R a b u q) q p) → (∀ p, t.testBit p = true → gr_l (gr_R a b u q) q p) → gr_mk (fun p => gr_b (q p ∧ ∃ x, s.testBit x = true ∧ gr_R a b u q x p)) 8 = gr_mk (fun p => gr_b (q p ∧ ∃ x, t.testBit x = true ∧ gr_R a b u q x p)) 8 → ∀ p, s.testBit p = true → t.testBit p = true := by
        intro s t h1 h2 e p hp
        have lp := h1 p hp
        have : (gr_mk (fun p => gr_b (q p ∧ ∃ x, s.testBit x = true ∧ gr_R a b u q x p)) 8).testBit p = true := by
          rw [gr_mkT, decide_eq_true (q8 p lp.1), gr_bT.mpr ⟨lp.1, p, hp, gr_rf p⟩]
          rfl
        rw [e, gr_mkT] at this
        simp only [Bool.and_eq_true] at this
        obtain ⟨_, x, x1, x2⟩ := gr_bT.mp this.2
        have lx := h2 x x1
        have : x = p := by
          apply Classical.byContradiction
          intro ne
          by_cases c : x < p
          · exact lp.2 x c lx.1 x2
          · exact lx.2 p (by omega) lp.1 (gr_sy x2)
        rw [← this]
        exact x1
      apply Nat.eq_of_testBit_eq
      intro p
      have x := half s t h1 h2 e p
      have y := half t s h2 h1 e.symm p
      cases hs' : s.testBit p <;> cases ht' : t.testBit p <;> simp_all
/-! distances -/
def gr_D (A : Nat → Nat → Prop) : Nat → Nat → Nat → Prop
  | 0, x, y => x = y
  | i + 1, x, y => gr_D A i x y ∨ ∃ z, gr_D A i x z ∧ A z y
theorem gr_Dl {A : Nat → Nat → Prop} : ∀ i x z y, A x z → gr_D A i z y → gr_D A (i + 1) x y := by
  intro i
  induction i with
  | zero =>
    intro x z y h e
    have e : z = y := e
    exact Or.inr ⟨x, rfl, e ▸ h⟩
  | succ i ih =>
    intro x z y h e
    rcases e with e | ⟨w, e1, e2⟩
    · exact Or.inl (ih x z y h e)
    · exact Or.inr ⟨w, ih x z w h e1, e2⟩
theorem gr_Ds {A : Nat → Nat → Prop} (sy : ∀ x y, A x y → A y x) : ∀ i x y, gr_D A i x y → gr_D A i y x := by
  intro i
  induction i with
  | zero => intro x y e; exact Eq.symm e
  | succ i ih =>
    intro x y e
    rcases e with e | ⟨w, e1, e2⟩
    · exact Or.inl (ih x y e)
    · exact gr_Dl i y w x (sy _ _ e2) (ih x w e1)
end
section
/-! the two spreads: a round of X (line by line), a round of Y (all lines at once) -/
section
variable (A B : Nat → Nat) (us kp : Nat)
/-- X: the lines before k, in turn -/
def sp_x : Nat → Nat → Nat
  | 0, r => r
  | k + 1, r => if (us.testBit k = true ∧ bi_d (bi_e (A k) (B k)) kp = 0) ∧ bi_e (A k) (B k) &&& sp_x k r ≠ 0 then sp_x k r ||| bi_e (A k) (B k) else sp_x k r
/-- Y: the lines before k, from set s -/
def sp_y (s : Nat) : Nat → Nat
  | 0 => s
  | k + 1 => if us.testBit k = true then (if s.testBit (B k) = true then (if s.testBit (A k) = true then sp_y s k ||| 2 ^ (B k) else sp_y s k) ||| 2 ^ (A k) else (if s.testBit (A k) = true then sp_y s k ||| 2 ^ (B k) else sp_y s k)) else sp_y s k
theorem sp_xG (r p : Nat) (h : r.testBit p = true) : ∀ k, (sp_x A B us kp k r).testBit p = true := by
  intro k
  induction k with
  | zero => exact h
  | succ k ih =>
    unfold sp_x
    split
    · rw [Nat.testBit_or, ih, Bool.true_or]
    · exact ih
theorem sp_xM (r : Nat) {p j : Nat} (h : (sp_x A B us kp j r).testBit p = true) : ∀ k, j ≤ k → (sp_x A B us kp k r).testBit p = true := by
  intro k
  induction k with
  | zero => intro hk; obtain rfl : j = 0 := by omega
            exact h
  | succ k ih =>
    intro hk
    by_cases e : j = k + 1
    · rw [← e]; exact h
    · have := ih (by omega)
      unfold sp_x
      split
      · rw [Nat.testBit_or, this, Bool.true_or]
      · exact this
theorem sp_xR : gr_rd A B (fun k => k < 16 ∧ us.testBit k = true) (fun p => kp.testBit p = true) (sp_x A B us kp 16) := by
  refine ⟨fun s p _ h => sp_xG A B us kp s p h 16, fun s k hk ha hb => ?_, fun s S c h => ?_⟩
  · have st : (s.testBit (A k) = true ∨ s.testBit (B k) = true) → (sp_x A B us kp (k + 1) s).testBit (A k) = true ∧ (sp_x A B us kp (k + 1) s).testBit (B k) = true := by
      intro h
      have h' : (sp_x A B us kp k s).testBit (A k) = true ∨ (sp_x A B us kp k s).testBit (B k) = true := h.elim (fun q => Or.inl (sp_xG A B us kp s _ q k)) (fun q => Or.inr (sp_xG A B us kp s _ q k))
      have e : sp_x A B us kp (k + 1) s = sp_x A B us kp k s ||| bi_e (A k) (B k) := by
        show (if (us.testBit k = true ∧ bi_d (bi_e (A k) (B k)) kp = 0) ∧ bi_e (A k) (B k) &&& sp_x A B us kp k s ≠ 0 then sp_x A B us kp k s ||| bi_e (A k) (B k) else sp_x A B us kp k s) = _
        rw [if_pos ⟨⟨hk.2, (bi_ed0 _ _ _).mpr ⟨ha, hb⟩⟩, (bi_enz _ _ _).mpr h'⟩]
      rw [e, Nat.testBit_or, Nat.testBit_or, (bi_eT (A k) (B k) (A k)).mpr (Or.inl rfl), (bi_eT (A k) (B k) (B k)).mpr (Or.inr rfl), Bool.or_true, Bool.or_true]
      exact ⟨rfl, rfl⟩
    exact ⟨fun h => sp_xM A B us kp s (st (Or.inl h)).2 16 (by omega), fun h => sp_xM A B us kp s (st (Or.inr h)).1 16 (by omega)⟩
  · have all : ∀ k, k ≤ 16 → ∀ p, (sp_x A B us kp k s).testBit p = true → kp.testBit p = true ∧ S p := by
      intro k
      induction k with
      | zero => intro _ p hp; exact h p hp
      | succ k ih =>
        intro hk p hp
        have ih := ih (by omega)
        unfold sp_x at hp
        split at hp
        · rename_i q
          rw [Nat.testBit_or, Bool.or_eq_true] at hp
          rcases hp with hp | hp
          · exact ih p hp
          · obtain ⟨⟨q1, q2⟩, q3⟩ := q
            have kk := (bi_ed0 _ _ _).mp q2
            have cc := c k ⟨by omega, q1⟩ kk.1 kk.2
            have ab : S (A k) ∧ S (B k) := by
              rcases (bi_enz _ _ _).mp q3 with w | w
              · have := (ih _ w).2
                exact ⟨this, cc.mp this⟩
              · have := (ih _ w).2
                exact ⟨cc.mpr this, this⟩
            rcases (bi_eT _ _ _).mp hp with w | w
            · rw [w]; exact ⟨kk.1, ab.1⟩
            · rw [w]; exact ⟨kk.2, ab.2⟩
        · exact ih p hp
    exact all 16 (by omega)
theorem sp_yT (s p : Nat) : ∀ k, (sp_y A B us s k).testBit p = true ↔ (s.testBit p = true ∨ ∃ j, j < k ∧ us.testBit j = true ∧ ((s.testBit (A j) = true ∧ p = B j) ∨ (s.testBit (B j) = true ∧ p = A j))) := by
  intro k
  induction k with
  | zero =>
    show s.testBit p = true ↔ _
    exact ⟨Or.inl, fun h => h.elim id (fun ⟨j, h, _⟩ => by omega)⟩
  | succ k ih =>
    have tp : ∀ q : Nat, (2 ^ q).testBit p = true ↔ p = q := by
      intro q
      rw [Nat.testBit_two_pow]
      simp
      exact ⟨Eq.symm, Eq.symm⟩
    have low : (∃ j, j < k + 1 ∧ us.testBit j = true ∧ ((s.testBit (A j) = true ∧ p = B j) ∨ (s.testBit (B j) = true ∧ p = A j))) ↔ (∃ j, j < k ∧ us.testBit j = true ∧ ((s.testBit (A j) = true ∧ p = B j) ∨ (s.testBit (B j) = true ∧ p = A j))) ∨ (us.testBit k = true ∧ ((s.testBit (A k) = true ∧ p = B k) ∨ (s.testBit (B k) = true ∧ p = A k))) := by
      constructor
      · rintro ⟨j, h1, h2⟩
        by_cases e : j = k
        · rw [e] at h2; exact Or.inr h2
        · exact Or.inl ⟨j, by omega, h2⟩
      · rintro (⟨j, h1, h2⟩ | h)
        · exact ⟨j, by omega, h2⟩
        · exact ⟨k, by omega, h⟩
    rw [low]
    unfold sp_y
    by_cases u : us.testBit k = true
    · rw [if_pos u]
      by_cases sb : s.testBit (B k) = true
      · rw [if_pos sb, Nat.testBit_or, Bool.or_eq_true, tp]
        by_cases sa : s.testBit (A k) = true
        · rw [if_pos sa, Nat.testBit_or, Bool.or_eq_true, tp, ih]
          constructor
          · rintro ((h | h) | h)
            · exact h.elim Or.inl (fun q => Or.inr (Or.inl q))
            · exact Or.inr (Or.inr ⟨u, Or.inl ⟨sa, h⟩⟩)
            · exact Or.inr (Or.inr ⟨u, Or.inr ⟨sb, h⟩⟩)
          · rintro (h | h | ⟨_, ⟨_, h⟩ | ⟨_, h⟩⟩)
            · exact Or.inl (Or.inl (Or.inl h))
            · exact Or.inl (Or.inl (Or.inr h))
            · exact Or.inl (Or.inr h)
            · exact Or.inr h
        · rw [if_neg sa, ih]
          constructor
          · rintro (h | h)
            · exact h.elim Or.inl (fun q => Or.inr (Or.inl q))
            · exact Or.inr (Or.inr ⟨u, Or.inr ⟨sb, h⟩⟩)
          · rintro (h | h | ⟨_, ⟨q, h⟩ | ⟨_, h⟩⟩)
            · exact Or.inl (Or.inl h)
            · exact Or.inl (Or.inr h)
            · exact absurd q sa
            · exact Or.inr h
      · rw [if_neg sb]
        by_cases sa : s.testBit (A k) = true
        · rw [if_pos sa, Nat.testBit_or, Bool.or_eq_true, tp, ih]
          constructor
          · rintro (h | h)
            · exact h.elim Or.inl (fun q => Or.inr (Or.inl q))
            · exact Or.inr (Or.inr ⟨u, Or.inl ⟨sa, h⟩⟩)
          · rintro (h | h | ⟨_, ⟨_, h⟩ | ⟨q, h⟩⟩)
            · exact Or.inl (Or.inl h)
            · exact Or.inl (Or.inr h)
            · exact Or.inr h
            · exact absurd q sb
        · rw [if_neg sa, ih]
          constructor
          · intro h
            exact h.elim Or.inl (fun q => Or.inr (Or.inl q))
          · rintro (h | h | ⟨_, ⟨q, h⟩ | ⟨q, h⟩⟩)
            · exact Or.inl h
            · exact Or.inr h
            · exact absurd q sa
            · exact absurd q sb
    · rw [if_neg u, ih]
      constructor
      · intro h
        exact h.elim Or.inl (fun q => Or.inr (Or.inl q))
      · rintro (h | h | h)
        · exact Or.inl h
        · exact Or.inr h
        · exact absurd h.1 u
theorem sp_yR : gr_rd A B (fun k => k < 16 ∧ us.testBit k = true) (fun p => kp.testBit p = true) (fun s => sp_y A B us s 16 &&& kp) := by
  have t : ∀ s p, (sp_y A B us s 16 &&& kp).testBit p = true ↔ ((s.testBit p = true ∨ ∃ j, j < 16 ∧ us.testBit j = true ∧ ((s.testBit (A j) = true ∧ p = B j) ∨ (s.testBit (B j) = true ∧ p = A j))) ∧ kp.testBit p = true) := by
    intro s p
    rw [Nat.testBit_and, Bool.and_eq_true, sp_yT]
  refine ⟨fun s p q h => ?_, fun s k hk ha hb => ⟨fun h => ?_, fun h => ?_⟩, fun s S c h p hp => ?_⟩
  · exact (t s p).mpr ⟨Or.inl h, q⟩
  · exact (t s _).mpr ⟨Or.inr ⟨k, hk.1, hk.2, Or.inl ⟨h, rfl⟩⟩, hb⟩
  · exact (t s _).mpr ⟨Or.inr ⟨k, hk.1, hk.2, Or.inr ⟨h, rfl⟩⟩, ha⟩
  · obtain ⟨hp, kp'⟩ := (t s p).mp hp
    refine ⟨kp', ?_⟩
    rcases hp with hp | ⟨j, j1, j2, ⟨j3, j4⟩ | ⟨j3, j4⟩⟩
    · exact (h p hp).2
    · rw [j4] at kp' ⊢
      exact (c j ⟨j1, j2⟩ (h _ j3).1 kp').mp (h _ j3).2
    · rw [j4] at kp' ⊢
      exact (c j ⟨j1, j2⟩ kp' (h _ j3).1).mpr (h _ j3).2
/-- X's spread and Y's joined reach the same -/
def sp_X (st : Nat) : Nat := gr_it (sp_x A B us kp 16) 7 (st &&& kp)
def sp_Y (st : Nat) : Nat := gr_it (fun s => sp_y A B us s 16 &&& kp) 8 (st &&& kp)
theorem sp_XT (h8 : kp < 256) (st p : Nat) : (sp_X A B us kp st).testBit p = true ↔ ∃ x, (st.testBit x = true ∧ kp.testBit x = true) ∧ gr_R A B (fun k => k < 16 ∧ us.testBit k = true) (fun p => kp.testBit p = true) x p := by
  unfold sp_X
  rw [gr_itT (sp_xR A B us kp) (fun p hp => ?_) (fun p hp => ?_) (by omega)]
  · constructor
    · rintro ⟨x, h, r⟩
      rw [Nat.testBit_and, Bool.and_eq_true] at h
      exact ⟨x, h, r⟩
    · rintro ⟨x, h, r⟩
      exact ⟨x, by rw [Nat.testBit_and, Bool.and_eq_true]; exact h, r⟩
  · apply Classical.byContradiction
    intro n
    have : 2 ^ 8 ≤ 2 ^ p := Nat.pow_le_pow_right (by omega) (by omega)
    rw [Nat.testBit_lt_two_pow (by omega)] at hp
    cases hp
  · rw [Nat.testBit_and, Bool.and_eq_true] at hp
    exact hp.2
theorem sp_YT (h8 : kp < 256) (st p : Nat) : (sp_Y A B us kp st).testBit p = true ↔ ∃ x, (st.testBit x = true ∧ kp.testBit x = true) ∧ gr_R A B (fun k => k < 16 ∧ us.testBit k = true) (fun p => kp.testBit p = true) x p := by
  unfold sp_Y
  rw [gr_itT (sp_yR A B us kp) (fun p hp => ?_) (fun p hp => ?_) (by omega)]
  · constructor
    · rintro ⟨x, h, r⟩
      rw [Nat.testBit_and, Bool.and_eq_true] at h
      exact ⟨x, h, r⟩
    · rintro ⟨x, h, r⟩
      exact ⟨x, by rw [Nat.testBit_and, Bool.and_eq_true]; exact h, r⟩
  · apply Classical.byContradiction
    intro n
    have : 2 ^ 8 ≤ 2 ^ p := Nat.pow_le_pow_right (by omega) (by omega)
    rw [Nat.testBit_lt_two_pow (by omega)] at hp
    cases hp
  · rw [Nat.testBit_and, Bool.and_eq_true] at hp
    exact hp.2
theorem sp_XY (h8 : kp < 256) (st : Nat) : sp_X A B us kp st = sp_Y A B us kp st := by
  apply Nat.eq_of_testBit_eq
  intro p
  have x := (sp_XT A B us kp h8 st p).trans (sp_YT A B us kp h8 st p).symm
  cases h1 : (sp_X A B us kp st).testBit p <;> cases h2 : (sp_Y A B us kp st).testBit p <;> simp_all
end
end
section
/-! counting groups by taking each group away -/
def gc_s (cl : Nat → Nat) (kp : Nat) : Nat → Nat × Nat
  | 0 => (kp, 0)
  | p + 1 => if (gc_s cl kp p).1.testBit p = true then (bi_d (gc_s cl kp p).1 (cl p), (gc_s cl kp p).2 + 1) else gc_s cl kp p
theorem gc_I {R : Nat → Nat → Prop} (E : gr_E R) {cl : Nat → Nat} {kp : Nat} (h : ∀ p x, kp.testBit p = true → kp.testBit x = true → ((cl p).testBit x = true ↔ R p x)) : ∀ p, (∀ x, (gc_s cl kp p).1.testBit x = true ↔ (kp.testBit x = true ∧ ∀ r, r < p → kp.testBit r = true → ¬ R r x)) ∧ (gc_s cl kp p).2 = mt_c (fun x => gr_b (gr_l R (fun x => kp.testBit x = true) x)) p := by
  intro p
  induction p with
  | zero =>
    refine ⟨fun x => ?_, rfl⟩
    show kp.testBit x = true ↔ _
    exact ⟨fun h => ⟨h, fun r hr => by omega⟩, fun h => h.1⟩
  | succ p ih =>
    obtain ⟨i1, i2⟩ := ih
    have il : (gc_s cl kp p).1.testBit p = true ↔ gr_l R (fun x => kp.testBit x = true) p := i1 p
    by_cases c : (gc_s cl kp p).1.testBit p = true
    · have e : gc_s cl kp (p + 1) = (bi_d (gc_s cl kp p).1 (cl p), (gc_s cl kp p).2 + 1) := by
        show (if _ then _ else _) = _
        rw [if_pos c]
      have lp := il.mp c
      rw [e, mt_cS]
      refine ⟨fun x => ?_, ?_⟩
      · show (bi_d (gc_s cl kp p).1 (cl p)).testBit x = true ↔ _
        rw [bi_dT, Bool.and_eq_true, i1]
        constructor
        · rintro ⟨⟨a1, a2⟩, a3⟩
          refine ⟨a1, fun r hr kr rr => ?_⟩
          by_cases q : r = p
          · rw [q] at rr kr
            rw [(h p x kr a1).mpr rr] at a3
            cases a3
          · exact a2 r (by omega) kr rr
        · rintro ⟨a1, a2⟩
          refine ⟨⟨a1, fun r hr => a2 r (by omega)⟩, ?_⟩
          have := a2 p (by omega) lp.1
          have : ¬ (cl p).testBit x = true := fun w => this ((h p x lp.1 a1).mp w)
          simpa using this
      · show (gc_s cl kp p).2 + 1 = _
        rw [i2, if_pos (gr_bT.mpr lp)]
    · have e : gc_s cl kp (p + 1) = gc_s cl kp p := by
        show (if _ then _ else _) = _
        rw [if_neg c]
      have lp : ¬ gr_l R (fun x => kp.testBit x = true) p := fun w => c (il.mpr w)
      rw [e, mt_cS]
      refine ⟨fun x => ?_, ?_⟩
      · rw [i1]
        constructor
        · rintro ⟨a1, a2⟩
          refine ⟨a1, fun r hr kr rr => ?_⟩
          by_cases q : r = p
          · rw [q] at rr kr
            obtain ⟨y, y1, y2, y3⟩ := gr_lex (R := R) (q := fun x => kp.testBit x = true) E kr
            have : y ≠ p := fun w => lp (w ▸ y2)
            exact a2 y (by omega) y2.1 (E.2.2 _ _ _ y3 rr)
          · exact a2 r (by omega) kr rr
        · rintro ⟨a1, a2⟩
          exact ⟨a1, fun r hr => a2 r (by omega)⟩
      · rw [i2, if_neg (fun w => lp (gr_bT.mp w))]
        rfl
theorem gc_T {R : Nat → Nat → Prop} (E : gr_E R) {cl : Nat → Nat} {kp : Nat} (h : ∀ p x, kp.testBit p = true → kp.testBit x = true → ((cl p).testBit x = true ↔ R p x)) : (gc_s cl kp 8).2 = gr_n R (fun x => kp.testBit x = true) := (gc_I E h 8).2
/-! the least of some numbers -/
def mf_v (P : Nat → Bool) (f : Nat → Nat) (c : Nat) : Nat → Nat
  | 0 => c
  | i + 1 => if P i = true ∧ f i < mf_v P f c i then f i else mf_v P f c i
theorem mf_I (P : Nat → Bool) (f : Nat → Nat) (c : Nat) : ∀ n, mf_v P f c n ≤ c ∧ (∀ i, i < n → P i = true → mf_v P f c n ≤ f i) ∧ (mf_v P f c n = c ∨ ∃ i, i < n ∧ P i = true ∧ mf_v P f c n = f i) := by
  intro n
  induction n with
  | zero => exact ⟨Nat.le_refl _, fun i hi => by omega, Or.inl rfl⟩
  | succ n ih =>
    obtain ⟨h1, h2, h3⟩ := ih
    by_cases q : P n = true ∧ f n < mf_v P f c n
    · have e : mf_v P f c (n + 1) = f n := by
        show (if _ then _ else _) = _
        rw [if_pos q]
      rw [e]
      refine ⟨by omega, fun i hi pi => ?_, Or.inr ⟨n, by omega, q.1, rfl⟩⟩
      by_cases w : i = n
      · rw [w]; exact Nat.le_refl _
      · have := h2 i (by omega) pi
        omega
    · have e : mf_v P f c (n + 1) = mf_v P f c n := by
        show (if _ then _ else _) = _
        rw [if_neg q]
      rw [e]
      refine ⟨h1, fun i hi pi => ?_, ?_⟩
      · by_cases w : i = n
        · rw [w] at pi ⊢
          apply Classical.byContradiction
          intro z
          exact q ⟨pi, by omega⟩
        · exact h2 i (by omega) pi
      · rcases h3 with h3 | ⟨i, i1, i2, i3⟩
        · exact Or.inl h3
        · exact Or.inr ⟨i, by omega, i2, i3⟩
end
section
/-! block: the two lines themselves change nothing -/
theorem bl_T {a b : Nat → Nat} {u q : Nat → Prop} {k l : Nat} : (∃ x y, (x = a k ∨ x = b k) ∧ q x ∧ (y = a l ∨ y = b l) ∧ gr_R a b u q x y) ↔ (∃ x y, (x = a k ∨ x = b k) ∧ q x ∧ (y = a l ∨ y = b l) ∧ gr_R a b (fun j => (u j ∧ j ≠ k) ∧ j ≠ l) q x y) := by
  constructor
  · rintro ⟨x, y, hx, qx, hy, r⟩
    apply Classical.byContradiction
    intro n
    have s := r (fun z => ∃ x, (x = a k ∨ x = b k) ∧ q x ∧ gr_R a b (fun j => (u j ∧ j ≠ k) ∧ j ≠ l) q x z) (fun j hj h1 h2 => ?_) ⟨x, hx, qx, gr_rf x⟩
    · obtain ⟨x', h1, h2, h3⟩ := s
      exact n ⟨x', y, h1, h2, hy, h3⟩
    · by_cases ek : j = k
      · rw [ek] at h1 h2 ⊢
        exact ⟨fun _ => ⟨b k, Or.inr rfl, h2, gr_rf _⟩, fun _ => ⟨a k, Or.inl rfl, h1, gr_rf _⟩⟩
      · by_cases el : j = l
        · rw [el]
          exact ⟨fun ⟨x', w1, w2, w3⟩ => absurd ⟨x', a l, w1, w2, Or.inl rfl, w3⟩ n, fun ⟨x', w1, w2, w3⟩ => absurd ⟨x', b l, w1, w2, Or.inr rfl, w3⟩ n⟩
        · have hu : (u j ∧ j ≠ k) ∧ j ≠ l := ⟨⟨hj, ek⟩, el⟩
          exact ⟨fun ⟨x', w1, w2, w3⟩ => ⟨x', w1, w2, gr_tr w3 (gr_ln (u := fun j => (u j ∧ j ≠ k) ∧ j ≠ l) hu h1 h2)⟩, fun ⟨x', w1, w2, w3⟩ => ⟨x', w1, w2, gr_tr w3 (gr_ln' (u := fun j => (u j ∧ j ≠ k) ∧ j ≠ l) hu h1 h2)⟩⟩
  · rintro ⟨x, y, hx, qx, hy, r⟩
    exact ⟨x, y, hx, qx, hy, gr_mono (fun j hj h1 h2 => ⟨hj.1.1, h1, h2⟩) r⟩
/-! one more line's distance -/
section
variable (A B : Nat → Nat) (us : Nat)
def sp_w (r : Nat) : Nat → Nat
  | 0 => r
  | k + 1 => if us.testBit k = true ∧ bi_e (A k) (B k) &&& r ≠ 0 then sp_w r k ||| bi_e (A k) (B k) else sp_w r k
theorem sp_wT (r p : Nat) : ∀ k, (sp_w A B us r k).testBit p = true ↔ (r.testBit p = true ∨ ∃ j, j < k ∧ us.testBit j = true ∧ (r.testBit (A j) = true ∨ r.testBit (B j) = true) ∧ (p = A j ∨ p = B j)) := by
  intro k
  induction k with
  | zero =>
    show r.testBit p = true ↔ _
    exact ⟨Or.inl, fun h => h.elim id (fun ⟨j, h, _⟩ => by omega)⟩
  | succ k ih =>
    by_cases c : us.testBit k = true ∧ bi_e (A k) (B k) &&& r ≠ 0
    · have e : sp_w A B us r (k + 1) = sp_w A B us r k ||| bi_e (A k) (B k) := by
        show (if _ then _ else _) = _
        rw [if_pos c]
      rw [e, Nat.testBit_or, Bool.or_eq_true, ih, bi_eT]
      constructor
      · rintro ((h | ⟨j, h1, h2⟩) | h)
        · exact Or.inl h
        · exact Or.inr ⟨j, by omega, h2⟩
        · exact Or.inr ⟨k, by omega, c.1, (bi_enz _ _ _).mp c.2, h⟩
      · rintro (h | ⟨j, h1, h2, h3, h4⟩)
        · exact Or.inl (Or.inl h)
        · by_cases w : j = k
          · rw [w] at h4; exact Or.inr h4
          · exact Or.inl (Or.inr ⟨j, by omega, h2, h3, h4⟩)
    · have e : sp_w A B us r (k + 1) = sp_w A B us r k := by
        show (if _ then _ else _) = _
        rw [if_neg c]
      rw [e, ih]
      constructor
      · rintro (h | ⟨j, h1, h2⟩)
        · exact Or.inl h
        · exact Or.inr ⟨j, by omega, h2⟩
      · rintro (h | ⟨j, h1, h2, h3, h4⟩)
        · exact Or.inl h
        · by_cases w : j = k
          · rw [w] at h2 h3
            exact absurd ⟨h2, (bi_enz _ _ _).mpr h3⟩ c
          · exact Or.inr ⟨j, by omega, h2, h3, h4⟩
/-- X's wider set is Y's step, within the points -/
theorem sp_wy {n s : Nat} (hl : ∀ j, j < 16 → us.testBit j = true → A j < n ∧ B j < n) (hs : ∀ p, s.testBit p = true → p < n) : sp_w A B us s 16 = (sp_y A B us s 16 &&& (2 ^ n - 1)) := by
  have both : ∀ p, (sp_w A B us s 16).testBit p = true ↔ (sp_y A B us s 16 &&& (2 ^ n - 1)).testBit p = true := by
    intro p
    rw [sp_wT, Nat.testBit_and, Bool.and_eq_true, sp_yT, bi_allT, decide_eq_true_iff]
    constructor
    · rintro (h | ⟨j, h1, h2, h3, h4⟩)
      · exact ⟨Or.inl h, hs p h⟩
      · obtain ⟨la, lb⟩ := hl j h1 h2
        rcases h4 with h4 | h4
        · refine ⟨?_, by omega⟩
          rcases h3 with h3 | h3
          · rw [h4]; exact Or.inl h3
          · exact Or.inr ⟨j, h1, h2, Or.inr ⟨h3, h4⟩⟩
        · refine ⟨?_, by omega⟩
          rcases h3 with h3 | h3
          · exact Or.inr ⟨j, h1, h2, Or.inl ⟨h3, h4⟩⟩
          · rw [h4]; exact Or.inl h3
    · rintro ⟨h | ⟨j, h1, h2, ⟨h3, h4⟩ | ⟨h3, h4⟩⟩, _⟩
      · exact Or.inl h
      · exact Or.inr ⟨j, h1, h2, Or.inl h3, Or.inr h4⟩
      · exact Or.inr ⟨j, h1, h2, Or.inr h3, Or.inl h4⟩
  apply Nat.eq_of_testBit_eq
  intro p
  have x := both p
  cases h1 : (sp_w A B us s 16).testBit p <;> cases h2 : (sp_y A B us s 16 &&& (2 ^ n - 1)).testBit p <;> simp_all
/-- the points at a distance of at most i -/
def sp_A (x y : Nat) : Prop := ∃ j, j < 16 ∧ us.testBit j = true ∧ ((A j = x ∧ B j = y) ∨ (A j = y ∧ B j = x))
theorem sp_As (x y : Nat) (h : sp_A A B us x y) : sp_A A B us y x := by
  obtain ⟨j, h1, h2, h3⟩ := h
  exact ⟨j, h1, h2, h3.elim Or.inr Or.inl⟩
theorem sp_D (x : Nat) : ∀ i y, (gr_it (fun s => sp_w A B us s 16) i (2 ^ x)).testBit y = true ↔ gr_D (sp_A A B us) i x y := by
  intro i
  induction i with
  | zero =>
    intro y
    show (2 ^ x).testBit y = true ↔ x = y
    rw [Nat.testBit_two_pow]
    simp
  | succ i ih =>
    intro y
    show (sp_w A B us (gr_it (fun s => sp_w A B us s 16) i (2 ^ x)) 16).testBit y = true ↔ gr_D (sp_A A B us) i x y ∨ ∃ z, gr_D (sp_A A B us) i x z ∧ sp_A A B us z y
    rw [sp_wT, ih]
    constructor
    · rintro (h | ⟨j, h1, h2, h3, h4⟩)
      · exact Or.inl h
      · rw [ih, ih] at h3
        rcases h4 with h4 | h4 <;> rcases h3 with h3 | h3
        · rw [h4]; exact Or.inl h3
        · exact Or.inr ⟨B j, h3, j, h1, h2, Or.inr ⟨h4.symm, rfl⟩⟩
        · exact Or.inr ⟨A j, h3, j, h1, h2, Or.inl ⟨rfl, h4.symm⟩⟩
        · rw [h4]; exact Or.inl h3
    · rintro (h | ⟨z, h1, j, h2, h3, ⟨h4, h5⟩ | ⟨h4, h5⟩⟩)
      · exact Or.inl h
      · refine Or.inr ⟨j, h2, h3, Or.inl ?_, Or.inr h5.symm⟩
        rw [ih, h4]; exact h1
      · refine Or.inr ⟨j, h2, h3, Or.inr ?_, Or.inl h4.symm⟩
        rw [ih, h5]; exact h1
end
end
section
/-! masks and counts out of predicates -/
theorem pv_lt {s n : Nat} (h : s < 2 ^ n) {p : Nat} (hp : s.testBit p = true) : p < n := by
  apply Classical.byContradiction
  intro q
  have : 2 ^ n ≤ 2 ^ p := Nat.pow_le_pow_right (by omega) (by omega)
  rw [Nat.testBit_lt_two_pow (by omega)] at hp
  cases hp
theorem pv_ext {s t : Nat} (h : ∀ p, s.testBit p = true ↔ t.testBit p = true) : s = t := by
  apply Nat.eq_of_testBit_eq
  intro p
  have x := h p
  cases h1 : s.testBit p <;> cases h2 : t.testBit p <;> simp_all
theorem pv_2p (x p : Nat) : (2 ^ x).testBit p = true ↔ p = x := by
  rw [Nat.testBit_two_pow, decide_eq_true_iff]
  exact ⟨Eq.symm, Eq.symm⟩
theorem pv_all (n p : Nat) : (2 ^ n - 1).testBit p = true ↔ p < n := by
  rw [bi_allT, decide_eq_true_iff]
theorem pv_a8 {n : Nat} (h : n ≤ 8) : 2 ^ n - 1 < 256 := by
  have : 2 ^ n ≤ 2 ^ 8 := Nat.pow_le_pow_right (by omega) h
  have : 0 < 2 ^ n := Nat.two_pow_pos n
  omega
theorem pv_dT (a b i : Nat) : (bi_d a b).testBit i = true ↔ (a.testBit i = true ∧ ¬ b.testBit i = true) := by
  rw [bi_dT, Bool.and_eq_true]
  cases b.testBit i <;> simp
theorem pv_d0 (s t : Nat) : bi_d s t = 0 ↔ ∀ p, s.testBit p = true → t.testBit p = true := by
  have h := bi_nz (bi_d s t)
  constructor
  · intro e p hp
    apply Classical.byContradiction
    intro q
    exact h.mpr ⟨p, (pv_dT s t p).mpr ⟨hp, q⟩⟩ e
  · intro w
    apply Classical.byContradiction
    intro q
    obtain ⟨i, hi⟩ := h.mp q
    rw [pv_dT] at hi
    exact hi.2 (w i hi.1)
noncomputable def pv_m (P : Nat → Prop) (n : Nat) : Nat := gr_mk (fun k => gr_b (P k)) n
theorem pv_mT {P : Nat → Prop} {n k : Nat} : (pv_m P n).testBit k = true ↔ (k < n ∧ P k) := by
  unfold pv_m
  rw [gr_mkT, Bool.and_eq_true, decide_eq_true_iff, gr_bT]
theorem pv_m0 (P : Nat → Prop) : pv_m P 0 = 0 := rfl
theorem pv_mP {P : Nat → Prop} {n : Nat} (h : P n) : pv_m P (n + 1) = pv_m P n ||| 2 ^ n := by
  show gr_mk (fun k => gr_b (P k)) n ||| (if gr_b (P n) = true then 2 ^ n else 0) = _
  rw [if_pos (gr_bT.mpr h)]
  rfl
theorem pv_mN {P : Nat → Prop} {n : Nat} (h : ¬ P n) : pv_m P (n + 1) = pv_m P n := by
  show gr_mk (fun k => gr_b (P k)) n ||| (if gr_b (P n) = true then 2 ^ n else 0) = _
  rw [if_neg (fun q => h (gr_bT.mp q)), Nat.or_zero]
  rfl
theorem pv_mL (P : Nat → Prop) (n : Nat) : pv_m P n < 2 ^ n := gr_mkL _ n
theorem pv_mC {P Q : Nat → Prop} {n : Nat} (h : ∀ k, k < n → (P k ↔ Q k)) : pv_m P n = pv_m Q n := by
  apply pv_ext
  intro p
  rw [pv_mT, pv_mT]
  exact ⟨fun w => ⟨w.1, (h p w.1).mp w.2⟩, fun w => ⟨w.1, (h p w.1).mpr w.2⟩⟩
theorem pv_mI {P : Nat → Prop} {n s : Nat} (h : ∀ k, s.testBit k = true ↔ (k < n ∧ P k)) : s = pv_m P n := by
  apply pv_ext
  intro p
  rw [pv_mT, h]
noncomputable def pv_c (P : Nat → Prop) (n : Nat) : Nat := mt_c (fun k => gr_b (P k)) n
theorem pv_c0 (P : Nat → Prop) : pv_c P 0 = 0 := rfl
theorem pv_cP {P : Nat → Prop} {n : Nat} (h : P n) : pv_c P (n + 1) = pv_c P n + 1 := by
  show mt_c (fun k => gr_b (P k)) n + (if gr_b (P n) = true then 1 else 0) = _
  rw [if_pos (gr_bT.mpr h)]
  rfl
theorem pv_cN {P : Nat → Prop} {n : Nat} (h : ¬ P n) : pv_c P (n + 1) = pv_c P n := by
  show mt_c (fun k => gr_b (P k)) n + (if gr_b (P n) = true then 1 else 0) = _
  rw [if_neg (fun q => h (gr_bT.mp q)), Nat.add_zero]
  rfl
theorem pv_cn (P : Nat → Prop) (n : Nat) : pv_c P n ≤ n := mt_c_n _ n
theorem pv_cC {P Q : Nat → Prop} {n : Nat} (h : ∀ k, k < n → (P k ↔ Q k)) : pv_c P n = pv_c Q n := mt_c_congr n (fun i hi => gr_bC (h i hi))
/-- the same count up to a further bound -/
theorem pv_cX {P : Nat → Prop} {n m : Nat} (hn : n ≤ m) (h : ∀ k, k < m → P k → k < n) : pv_c P m = pv_c P n := by
  obtain ⟨d, rfl⟩ : ∃ d, m = n + d := ⟨m - n, by omega⟩
  unfold pv_c
  rw [mt_c_add, mt_c_0 d (fun i hi => ?_), Nat.add_zero]
  apply gr_bF.mpr
  intro q
  have := h (n + i) (by omega) q
  omega
/-- ones of a mask -/
noncomputable def pv_o (s : Nat) : Nat := pv_c (fun k => s.testBit k = true) 16
theorem pv_oc {n s : Nat} (hn : n ≤ 16) (h : ∀ p, s.testBit p = true → p < n) : pv_o (bi_d (2 ^ n - 1) s) + pv_o s = n := by
  have h1 : pv_o (bi_d (2 ^ n - 1) s) = pv_c (fun k => (bi_d (2 ^ n - 1) s).testBit k = true) n := pv_cX hn (fun k _ w => by rw [pv_dT, pv_all] at w; exact w.1)
  have h2 : pv_o s = pv_c (fun k => s.testBit k = true) n := pv_cX hn (fun k _ w => h k w)
  rw [h1, h2]
  have : ∀ m, m ≤ n → pv_c (fun k => (bi_d (2 ^ n - 1) s).testBit k = true) m + pv_c (fun k => s.testBit k = true) m = m := by
    intro m
    induction m with
    | zero => intro _; rfl
    | succ m ih =>
      intro hm
      have ih := ih (by omega)
      by_cases c : s.testBit m = true
      · rw [pv_cP (P := fun k => s.testBit k = true) c, pv_cN (P := fun k => (bi_d (2 ^ n - 1) s).testBit k = true) (fun w => ((pv_dT _ _ _).mp w).2 c)]
        omega
      · rw [pv_cN (P := fun k => s.testBit k = true) c, pv_cP (P := fun k => (bi_d (2 ^ n - 1) s).testBit k = true) ((pv_dT _ _ _).mpr ⟨(pv_all n m).mpr (by omega), c⟩)]
        omega
  exact this n (Nat.le_refl n)
/-! the graph -/
def cx_G (n L : Nat) (A B : Nat → Nat) : Prop := (1 ≤ n ∧ n ≤ 8) ∧ L < 65536 ∧ ∀ k, k < 16 → L.testBit k = true → A k < n ∧ B k < n ∧ A k ≠ B k
theorem cx_0 {n L : Nat} {A B : Nat → Nat} (g : cx_G n L A B) : wk_0 n (fun k => k < 16 ∧ L.testBit k = true) A B := fun k hk => ⟨hk.1, g.2.2 k hk.1 hk.2⟩
theorem pv_qn (n : Nat) : (fun p => (2 ^ n - 1).testBit p = true) = (fun p => p < n) := funext (fun p => propext (pv_all n p))
theorem pv_qp (n p : Nat) : (fun x => (bi_d (2 ^ n - 1) (2 ^ p)).testBit x = true) = (fun x => x < n ∧ x ≠ p) := funext (fun x => propext (by rw [pv_dT, pv_all, pv_2p]))
theorem pv_uk (L k : Nat) : (fun j => j < 16 ∧ (bi_d L (2 ^ k)).testBit j = true) = (fun j => (j < 16 ∧ L.testBit j = true) ∧ j ≠ k) := funext (fun x => propext (by rw [pv_dT, pv_2p, and_assoc]))
section
variable (A B : Nat → Nat)
/-- the groups that the lines of us make of the points of kp -/
def pv_g (us kp : Nat) : Nat := (gc_s (fun p => sp_X A B us kp (2 ^ p)) kp 8).2
theorem pv_sp {us kp : Nat} (h8 : kp < 256) {p : Nat} (hp : kp.testBit p = true) (x : Nat) : (sp_X A B us kp (2 ^ p)).testBit x = true ↔ gr_R A B (fun k => k < 16 ∧ us.testBit k = true) (fun p => kp.testBit p = true) p x := by
  rw [sp_XT A B us kp h8]
  constructor
  · rintro ⟨y, ⟨h1, h2⟩, r⟩
    rw [pv_2p] at h1
    rw [h1] at r
    exact r
  · intro r
    exact ⟨p, ⟨(pv_2p p p).mpr rfl, hp⟩, r⟩
theorem pv_gT {us kp : Nat} (h8 : kp < 256) : pv_g A B us kp = gr_n (gr_R A B (fun k => k < 16 ∧ us.testBit k = true) (fun p => kp.testBit p = true)) (fun p => kp.testBit p = true) :=
  gc_T (gr_RE A B _ _) (fun p x hp _ => pv_sp A B h8 hp x)
theorem pv_g8 {us kp : Nat} (h8 : kp < 256) : pv_g A B us kp ≤ 8 := by
  rw [pv_gT A B h8]
  exact mt_c_n _ 8
/-- the bridges, the hinges -/
noncomputable def pv_b (n L : Nat) : Nat := pv_m (fun k => L.testBit k = true ∧ pv_g A B L (2 ^ n - 1) < pv_g A B (bi_d L (2 ^ k)) (2 ^ n - 1)) 16
noncomputable def pv_h (n L : Nat) : Nat := pv_m (fun p => pv_g A B L (2 ^ n - 1) < pv_g A B L (bi_d (2 ^ n - 1) (2 ^ p))) n
variable {A B}
theorem pv_bT {n L : Nat} (g : cx_G n L A B) (k : Nat) : (pv_b A B n L).testBit k = true ↔ wk_br n (fun k => k < 16 ∧ L.testBit k = true) A B k := by
  unfold pv_b wk_br
  have a8 := pv_a8 g.1.2
  have q8 : ∀ p, p < n → p < 8 := fun p hp => by have := g.1.2; omega
  rw [pv_mT, pv_gT A B a8, pv_gT A B a8, pv_qn, pv_uk]
  constructor
  · rintro ⟨k16, lk, h⟩
    obtain ⟨g1, g2, g3⟩ := g.2.2 k k16 lk
    exact ⟨⟨k16, lk⟩, (gr_bridge (u := fun k => k < 16 ∧ L.testBit k = true) (q := fun p => p < n) q8 ⟨k16, lk⟩ g1 g2).mp h⟩
  · rintro ⟨⟨k16, lk⟩, h⟩
    obtain ⟨g1, g2, g3⟩ := g.2.2 k k16 lk
    exact ⟨k16, lk, (gr_bridge (u := fun k => k < 16 ∧ L.testBit k = true) (q := fun p => p < n) q8 ⟨k16, lk⟩ g1 g2).mpr h⟩
theorem pv_hT {n L : Nat} (g : cx_G n L A B) (p : Nat) : (pv_h A B n L).testBit p = true ↔ wk_hi n (fun k => k < 16 ∧ L.testBit k = true) A B p := by
  unfold pv_h wk_hi
  have a8 := pv_a8 g.1.2
  have b8 : bi_d (2 ^ n - 1) (2 ^ p) < 256 := bi_dlt (n := 8) a8
  have q8 : ∀ p, p < n → p < 8 := fun p hp => by have := g.1.2; omega
  rw [pv_mT, pv_gT A B a8, pv_gT A B b8, pv_qn, pv_qp]
  constructor
  · rintro ⟨hp, h⟩
    exact ⟨hp, (gr_hinge (u := fun k => k < 16 ∧ L.testBit k = true) (q := fun p => p < n) q8 hp).mp h⟩
  · rintro ⟨hp, h⟩
    exact ⟨hp, (gr_hinge (u := fun k => k < 16 ∧ L.testBit k = true) (q := fun p => p < n) q8 hp).mpr h⟩
theorem pv_bI {n L s : Nat} (g : cx_G n L A B) (h : ∀ k, s.testBit k = true ↔ wk_br n (fun k => k < 16 ∧ L.testBit k = true) A B k) : s = pv_b A B n L := pv_ext (fun k => (h k).trans (pv_bT g k).symm)
theorem pv_hI {n L s : Nat} (g : cx_G n L A B) (h : ∀ p, s.testBit p = true ↔ wk_hi n (fun k => k < 16 ∧ L.testBit k = true) A B p) : s = pv_h A B n L := pv_ext (fun k => (h k).trans (pv_hT g k).symm)
end
end
section
/-! the engine of cuts over masks -/
section
variable (A B : Nat → Nat)
noncomputable def pv_x (L set kp : Nat) : Nat := pv_m (fun k => (L.testBit k = true ∧ bi_d (bi_e (A k) (B k)) kp = 0) ∧ bi_e (A k) (B k) &&& set ≠ 0 ∧ bi_d (bi_e (A k) (B k)) set ≠ 0) 16
theorem pv_xT (L set kp k : Nat) : (pv_x A B L set kp).testBit k = true ↔ ((k < 16 ∧ L.testBit k = true) ∧ (kp.testBit (A k) = true ∧ kp.testBit (B k) = true) ∧ ¬ (set.testBit (A k) = true ↔ set.testBit (B k) = true)) := by
  unfold pv_x
  have h : ∀ x y : Nat, (bi_e (A k) (B k) &&& set ≠ 0 ∧ bi_d (bi_e (A k) (B k)) set ≠ 0) ↔ ¬ (set.testBit (A k) = true ↔ set.testBit (B k) = true) := by
    intro _ _
    rw [bi_enz, ne_eq, bi_ed0]
    by_cases a : set.testBit (A k) = true <;> by_cases b : set.testBit (B k) = true <;> simp [a, b]
  rw [pv_mT, bi_ed0, h 0 0]
  constructor
  · rintro ⟨h1, ⟨h2, h3⟩, h4⟩
    exact ⟨⟨h1, h2⟩, h3, h4⟩
  · rintro ⟨⟨h1, h2⟩, h3, h4⟩
    exact ⟨h1, ⟨h2, h3⟩, h4⟩
theorem pv_x0 (L set kp : Nat) : pv_x A B L set kp = 0 ↔ gr_C A B (fun k => k < 16 ∧ L.testBit k = true) (fun p => kp.testBit p = true) (fun p => set.testBit p = true) := by
  have z := bi_nz (pv_x A B L set kp)
  constructor
  · intro e k hk ha hb
    apply Classical.byContradiction
    intro n
    exact z.mpr ⟨k, (pv_xT A B L set kp k).mpr ⟨hk, ⟨ha, hb⟩, n⟩⟩ e
  · intro c
    apply Classical.byContradiction
    intro n
    obtain ⟨k, hk⟩ := z.mp n
    obtain ⟨h1, ⟨h2, h3⟩, h4⟩ := (pv_xT A B L set kp k).mp hk
    exact h4 (c k h1 h2 h3)
theorem pv_xL (L set kp : Nat) : pv_x A B L set kp < 65536 := pv_mL _ 16
/-- how many sets no line leaves -/
noncomputable def pv_cs (L kp : Nat) : Nat := pv_c (fun s => bi_d s kp = 0 ∧ pv_x A B L s kp = 0) 256
theorem pv_csT {L kp : Nat} (h8 : kp < 256) : pv_cs A B L kp = 2 ^ (pv_g A B L kp) := by
  rw [pv_gT A B h8, ← gr_cs (fun p hp => pv_lt (n := 8) h8 hp)]
  unfold pv_cs pv_c
  apply mt_c_congr
  intro s _
  exact gr_bC ⟨fun w => ⟨(pv_d0 s kp).mp w.1, (pv_x0 A B L s kp).mp w.2⟩, fun w => ⟨(pv_d0 s kp).mpr w.1, (pv_x0 A B L s kp).mpr w.2⟩⟩
theorem pv_csL {L kp lp : Nat} (h8 : kp < 256) (g8 : lp < 256) : pv_cs A B L kp < pv_cs A B L lp ↔ pv_g A B L kp < pv_g A B L lp := by
  rw [pv_csT A B h8, pv_csT A B g8]
  exact Nat.pow_lt_pow_iff_right (by omega)
theorem pv_cs8 {L kp : Nat} : pv_cs A B L kp ≤ 256 := pv_cn _ 256
/-- the least set around p that no line leaves: sets before i -/
noncomputable def pv_lc (L p all : Nat) : Nat → Nat
  | 0 => all
  | i + 1 => if gr_b ((i.testBit p = true ∧ bi_d i all = 0) ∧ pv_x A B L i all = 0) = true then pv_lc L p all i &&& i else pv_lc L p all i
theorem pv_lcP {L p all i : Nat} (h : (i.testBit p = true ∧ bi_d i all = 0) ∧ pv_x A B L i all = 0) : pv_lc A B L p all (i + 1) = pv_lc A B L p all i &&& i := by
  show (if gr_b ((i.testBit p = true ∧ bi_d i all = 0) ∧ pv_x A B L i all = 0) = true then pv_lc A B L p all i &&& i else pv_lc A B L p all i) = _
  rw [if_pos (gr_bT.mpr h)]
theorem pv_lcN {L p all i : Nat} (h : ¬ ((i.testBit p = true ∧ bi_d i all = 0) ∧ pv_x A B L i all = 0)) : pv_lc A B L p all (i + 1) = pv_lc A B L p all i := by
  show (if gr_b ((i.testBit p = true ∧ bi_d i all = 0) ∧ pv_x A B L i all = 0) = true then pv_lc A B L p all i &&& i else pv_lc A B L p all i) = _
  rw [if_neg (fun q => h (gr_bT.mp q))]
theorem pv_lcT (L p all x : Nat) : ∀ i, (pv_lc A B L p all i).testBit x = true ↔ (all.testBit x = true ∧ ∀ s, s < i → s.testBit p = true → bi_d s all = 0 → pv_x A B L s all = 0 → s.testBit x = true) := by
  intro i
  induction i with
  | zero => exact ⟨fun h => ⟨h, fun s hs => by omega⟩, fun h => h.1⟩
  | succ i ih =>
    by_cases c : (i.testBit p = true ∧ bi_d i all = 0) ∧ pv_x A B L i all = 0
    · rw [pv_lcP A B c, Nat.testBit_and, Bool.and_eq_true, ih]
      constructor
      · rintro ⟨⟨h1, h2⟩, h3⟩
        refine ⟨h1, fun s hs s1 s2 s3 => ?_⟩
        by_cases e : s = i
        · rw [e]; exact h3
        · exact h2 s (by omega) s1 s2 s3
      · rintro ⟨h1, h2⟩
        exact ⟨⟨h1, fun s hs => h2 s (by omega)⟩, h2 i (by omega) c.1.1 c.1.2 c.2⟩
    · rw [pv_lcN A B c, ih]
      constructor
      · rintro ⟨h1, h2⟩
        refine ⟨h1, fun s hs s1 s2 s3 => ?_⟩
        by_cases e : s = i
        · rw [e] at s1 s2 s3
          exact absurd ⟨⟨s1, s2⟩, s3⟩ c
        · exact h2 s (by omega) s1 s2 s3
      · rintro ⟨h1, h2⟩
        exact ⟨h1, fun s hs => h2 s (by omega)⟩
theorem pv_lcB {L p all : Nat} (h8 : all < 256) (i : Nat) : pv_lc A B L p all i < 256 := by
  have : pv_lc A B L p all i = pv_lc A B L p all i &&& all := by
    apply pv_ext
    intro x
    rw [Nat.testBit_and, Bool.and_eq_true]
    exact ⟨fun h => ⟨h, ((pv_lcT A B L p all x i).mp h).1⟩, fun h => h.1⟩
  rw [this]
  exact Nat.and_lt_two_pow (n := 8) _ h8
theorem pv_lcR {L p all : Nat} (h8 : all < 256) (hp : all.testBit p = true) : pv_lc A B L p all 256 = sp_X A B L all (2 ^ p) := by
  apply pv_ext
  intro x
  rw [pv_lcT, pv_sp A B h8 hp]
  constructor
  · rintro ⟨h1, h2⟩ S c sp
    have m8 := gr_mkL (fun y => gr_b (all.testBit y = true ∧ S y)) 8
    have mt : ∀ y, (pv_m (fun y => all.testBit y = true ∧ S y) 8).testBit y = true ↔ (all.testBit y = true ∧ S y) := by
      intro y
      rw [pv_mT]
      exact ⟨fun h => h.2, fun h => ⟨pv_lt (n := 8) h8 h.1, h⟩⟩
    have := h2 (pv_m (fun y => all.testBit y = true ∧ S y) 8) m8 ((mt p).mpr ⟨hp, sp⟩) ((pv_d0 _ _).mpr (fun y hy => ((mt y).mp hy).1)) ((pv_x0 A B L _ all).mpr (fun k hk ha hb => by
      have := c k hk ha hb
      exact (mt _).trans ((show _ ↔ _ from ⟨fun w => ⟨hb, this.mp w.2⟩, fun w => ⟨ha, this.mpr w.2⟩⟩).trans (mt _).symm)))
    exact ((mt x).mp this).2
  · intro r
    refine ⟨?_, fun s hs s1 s2 s3 => ?_⟩
    · exact gr_in (fun _ _ _ _ => trivial) r hp
    · exact r (fun y => s.testBit y = true) ((pv_x0 A B L s all).mp s3) s1
/-- the bridges by cuts: sets before i -/
noncomputable def pv_cb (L all : Nat) : Nat → Nat
  | 0 => 0
  | i + 1 => if gr_b (bi_d i all = 0 ∧ pv_o (pv_x A B L i all) = 1) = true then pv_cb L all i ||| pv_x A B L i all else pv_cb L all i
theorem pv_cbP {L all i : Nat} (h : bi_d i all = 0 ∧ pv_o (pv_x A B L i all) = 1) : pv_cb A B L all (i + 1) = pv_cb A B L all i ||| pv_x A B L i all := by
  show (if gr_b (bi_d i all = 0 ∧ pv_o (pv_x A B L i all) = 1) = true then pv_cb A B L all i ||| pv_x A B L i all else pv_cb A B L all i) = _
  rw [if_pos (gr_bT.mpr h)]
theorem pv_cbN {L all i : Nat} (h : ¬ (bi_d i all = 0 ∧ pv_o (pv_x A B L i all) = 1)) : pv_cb A B L all (i + 1) = pv_cb A B L all i := by
  show (if gr_b (bi_d i all = 0 ∧ pv_o (pv_x A B L i all) = 1) = true then pv_cb A B L all i ||| pv_x A B L i all else pv_cb A B L all i) = _
  rw [if_neg (fun q => h (gr_bT.mp q))]
theorem pv_cbT (L all k : Nat) : ∀ i, (pv_cb A B L all i).testBit k = true ↔ ∃ s, s < i ∧ bi_d s all = 0 ∧ pv_o (pv_x A B L s all) = 1 ∧ (pv_x A B L s all).testBit k = true := by
  intro i
  induction i with
  | zero =>
    show Nat.testBit 0 k = true ↔ _
    rw [Nat.zero_testBit]
    exact ⟨fun h => (by cases h), fun ⟨s, h, _⟩ => (by omega)⟩
  | succ i ih =>
    by_cases c : bi_d i all = 0 ∧ pv_o (pv_x A B L i all) = 1
    · rw [pv_cbP A B c, Nat.testBit_or, Bool.or_eq_true, ih]
      constructor
      · rintro (⟨s, h1, h2⟩ | h)
        · exact ⟨s, by omega, h2⟩
        · exact ⟨i, by omega, c.1, c.2, h⟩
      · rintro ⟨s, h1, h2, h3, h4⟩
        by_cases e : s = i
        · rw [e] at h4; exact Or.inr h4
        · exact Or.inl ⟨s, by omega, h2, h3, h4⟩
    · rw [pv_cbN A B c, ih]
      constructor
      · rintro ⟨s, h1, h2⟩
        exact ⟨s, by omega, h2⟩
      · rintro ⟨s, h1, h2, h3, h4⟩
        by_cases e : s = i
        · rw [e] at h2 h3
          exact absurd ⟨h2, h3⟩ c
        · exact ⟨s, by omega, h2, h3, h4⟩
theorem pv_cbB (L all i : Nat) : pv_cb A B L all i < 65536 := by
  induction i with
  | zero => show 0 < 65536; omega
  | succ i ih =>
    by_cases c : bi_d i all = 0 ∧ pv_o (pv_x A B L i all) = 1
    · rw [pv_cbP A B c]
      exact Nat.or_lt_two_pow (n := 16) ih (pv_xL A B L i all)
    · rw [pv_cbN A B c]; exact ih
/-- one bit alone -/
theorem pv_o1 {s : Nat} : pv_o s = 1 → ∀ i j, i < 16 → j < 16 → s.testBit i = true → s.testBit j = true → i = j := by
  intro h i j hi hj si sj
  apply Classical.byContradiction
  intro ne
  have b := mt_c_but (P := fun k => gr_b (s.testBit k = true)) (Q := fun k => gr_b (s.testBit k = true ∧ k ≠ i)) i 16 hi (gr_bT.mpr si) (gr_bF.mpr (fun w => w.2 rfl)) (fun k _ hk => gr_bC ⟨fun w => w.1, fun w => ⟨w, hk⟩⟩)
  have z : mt_c (fun k => gr_b (s.testBit k = true ∧ k ≠ i)) 16 = 0 := by
    have : mt_c (fun k => gr_b (s.testBit k = true)) 16 = 1 := h
    omega
  have := mt_c_z 16 z j hj
  exact (gr_bF.mp this) ⟨sj, fun e => ne e.symm⟩
theorem pv_o1' {s i : Nat} (hi : i < 16) (h : ∀ j, j < 16 → (s.testBit j = true ↔ j = i)) : pv_o s = 1 := by
  have b := mt_c_but (P := fun k => gr_b (s.testBit k = true)) (Q := fun _ => false) i 16 hi (gr_bT.mpr ((h i hi).mpr rfl)) rfl (fun k hk ne => by
    rw [gr_bF.mpr (fun w => ne ((h k hk).mp w))])
  rw [mt_c_0 16 (fun _ _ => rfl)] at b
  exact b.symm
variable {A B}
theorem pv_cbR {n L : Nat} (g : cx_G n L A B) : pv_cb A B L (2 ^ n - 1) 256 = pv_b A B n L := by
  apply pv_bI g
  intro k
  rw [pv_cbT]
  unfold wk_br
  constructor
  · rintro ⟨s, s1, s2, s3, s4⟩
    obtain ⟨h1, _, h3⟩ := (pv_xT A B L s _ k).mp s4
    refine ⟨h1, fun r => h3 ?_⟩
    have cl : gr_C A B (fun j => (j < 16 ∧ L.testBit j = true) ∧ j ≠ k) (fun x => x < n) (fun x => s.testBit x = true) := by
      intro j hj ha hb
      apply Classical.byContradiction
      intro q
      have : (pv_x A B L s (2 ^ n - 1)).testBit j = true := (pv_xT A B L s _ j).mpr ⟨hj.1, ⟨(pv_all n _).mpr ha, (pv_all n _).mpr hb⟩, q⟩
      exact hj.2 (pv_o1 s3 j k hj.1.1 h1.1 this s4)
    exact ⟨fun w => r _ cl w, fun w => gr_sy r _ cl w⟩
  · rintro ⟨h1, h2⟩
    obtain ⟨g1, g2, g3⟩ := g.2.2 k h1.1 h1.2
    have mt : ∀ y, (pv_m (fun y => y < n ∧ gr_R A B (fun j => (j < 16 ∧ L.testBit j = true) ∧ j ≠ k) (fun x => x < n) (A k) y) 8).testBit y = true ↔ (y < n ∧ gr_R A B (fun j => (j < 16 ∧ L.testBit j = true) ∧ j ≠ k) (fun x => x < n) (A k) y) := by
      intro y
      rw [pv_mT]
      exact ⟨fun h => h.2, fun h => ⟨by have := g.1.2; omega, h⟩⟩
    have xt : ∀ j, j < 16 → ((pv_x A B L (pv_m (fun y => y < n ∧ gr_R A B (fun j => (j < 16 ∧ L.testBit j = true) ∧ j ≠ k) (fun x => x < n) (A k) y) 8) (2 ^ n - 1)).testBit j = true ↔ j = k) := by
      intro j hj
      rw [pv_xT, mt, mt]
      constructor
      · rintro ⟨j1, _, j3⟩
        apply Classical.byContradiction
        intro ne
        obtain ⟨f1, f2, f3⟩ := g.2.2 j j1.1 j1.2
        apply j3
        have u : (j < 16 ∧ L.testBit j = true) ∧ j ≠ k := ⟨j1, ne⟩
        exact ⟨fun w => ⟨f2, gr_tr w.2 (gr_ln (u := fun j => (j < 16 ∧ L.testBit j = true) ∧ j ≠ k) (q := fun x => x < n) u f1 f2)⟩, fun w => ⟨f1, gr_tr w.2 (gr_ln' (u := fun j => (j < 16 ∧ L.testBit j = true) ∧ j ≠ k) (q := fun x => x < n) u f1 f2)⟩⟩
      · intro e
        rw [e]
        refine ⟨h1, ⟨(pv_all n _).mpr g1, (pv_all n _).mpr g2⟩, fun w => h2 ?_⟩
        exact (w.mp ⟨g1, gr_rf _⟩).2
    refine ⟨_, pv_mL _ 8, (pv_d0 _ _).mpr (fun y hy => (pv_all n y).mpr ((mt y).mp hy).1), pv_o1' h1.1 xt, (xt k h1.1).mpr rfl⟩
/-- the hinges by cuts -/
theorem pv_chR {n L : Nat} (g : cx_G n L A B) : pv_m (fun p => pv_cs A B L (2 ^ n - 1) < pv_cs A B L (bi_d (2 ^ n - 1) (2 ^ p))) n = pv_h A B n L := by
  have a8 := pv_a8 g.1.2
  exact pv_mC (fun p _ => pv_csL A B a8 (bi_dlt (n := 8) a8))
end
/-! labels and the partition -/
noncomputable def pv_lb (R : Nat → Nat → Prop) (p : Nat) : Nat := Classical.epsilon (fun i => R i p ∧ ∀ r, r < i → ¬ R r p)
theorem pv_lbT {R : Nat → Nat → Prop} (E : gr_E R) (p : Nat) : R (pv_lb R p) p ∧ ∀ r, r < pv_lb R p → ¬ R r p := by
  have h : ∃ i, R i p ∧ ∀ r, r < i → ¬ R r p := by
    obtain ⟨k, _, k2, k3⟩ := gr_least (fun i => R i p) p (E.1 p)
    exact ⟨k, k2, k3⟩
  exact Classical.epsilon_spec h
theorem pv_lbU {R : Nat → Nat → Prop} (E : gr_E R) {p i : Nat} (h1 : R i p) (h2 : ∀ r, r < i → ¬ R r p) : i = pv_lb R p := by
  obtain ⟨k1, k2⟩ := pv_lbT E p
  apply Classical.byContradiction
  intro ne
  by_cases c : i < pv_lb R p
  · exact k2 i c h1
  · exact h2 _ (by omega) k1
theorem pv_lbP {R : Nat → Nat → Prop} (E : gr_E R) (p : Nat) : pv_lb R p ≤ p := by
  apply Classical.byContradiction
  intro q
  exact (pv_lbT E p).2 p (by omega) (E.1 p)
theorem pv_lbN {R : Nat → Nat → Prop} (E : gr_E R) {n : Nat} (hn : n ≤ 8) : pv_c (fun p => pv_lb R p = p) n = gr_n R (fun p => p < n) := by
  have e : gr_n R (fun p => p < n) = pv_c (gr_l R (fun p => p < n)) n := pv_cX hn (fun k _ h => h.1)
  rw [e]
  apply pv_cC
  intro p hp
  constructor
  · intro h
    refine ⟨hp, fun r hr _ => ?_⟩
    exact (pv_lbT E p).2 r (by omega)
  · rintro ⟨_, h⟩
    exact (pv_lbU E (E.1 p) (fun r hr => h r hr (by omega))).symm
def pv_pt (f : Nat → Nat) : Nat → Nat
  | 0 => 0
  | p + 1 => pv_pt f p + f p * 16 ^ p
theorem pv_ptL {f : Nat → Nat} {m : Nat} (h : ∀ p, p < m → f p < 16) : ∀ n, n ≤ m → pv_pt f n < 16 ^ n := by
  intro n
  induction n with
  | zero => intro _; show 0 < 1; omega
  | succ n ih =>
    intro hn
    have i := ih (by omega)
    show pv_pt f n + f n * 16 ^ n < 16 ^ (n + 1)
    have b : f n * 16 ^ n ≤ 15 * 16 ^ n := Nat.mul_le_mul_right _ (by have := h n (by omega); omega)
    rw [Nat.pow_succ]
    omega
theorem pv_ptE {f : Nat → Nat} {m : Nat} (h : ∀ p, p < m → f p < 16) {p : Nat} (hp : p < m) : pv_pt f m / 16 ^ p % 16 = f p := by
  have e : ∀ n, p < n → ∃ r, pv_pt f n = pv_pt f p + 16 ^ p * (f p + 16 * r) := by
    intro n
    induction n with
    | zero => intro h; omega
    | succ n ih =>
      intro hn
      by_cases c : p = n
      · subst c
        refine ⟨0, ?_⟩
        show pv_pt f p + f p * 16 ^ p = _
        rw [Nat.mul_zero, Nat.add_zero, Nat.mul_comm]
      · obtain ⟨r, hr⟩ := ih (by omega)
        refine ⟨r + f n * 16 ^ (n - p - 1), ?_⟩
        show pv_pt f n + f n * 16 ^ n = _
        have w : 16 ^ n = 16 ^ p * (16 * 16 ^ (n - p - 1)) := by
          rw [← Nat.pow_succ', ← Nat.pow_add]
          congr 1
          omega
        rw [hr, w]
        generalize 16 ^ p = x
        generalize 16 ^ (n - p - 1) = y
        grind
  obtain ⟨r, hr⟩ := e m hp
  have lt := pv_ptL h p (by omega)
  rw [hr, Nat.add_mul_div_left _ _ (Nat.pow_pos (by omega)), Nat.div_eq_of_lt lt]
  have := h p hp
  omega
theorem pv_ptC {f g : Nat → Nat} : ∀ n, (∀ p, p < n → f p = g p) → pv_pt f n = pv_pt g n := by
  intro n
  induction n with
  | zero => intro _; rfl
  | succ n ih =>
    intro h
    show pv_pt f n + f n * 16 ^ n = pv_pt g n + g n * 16 ^ n
    rw [ih (fun p hp => h p (by omega)), h n (by omega)]
end
section
/-! block -/
theorem pv_ukl (L k l : Nat) : (fun j => j < 16 ∧ (bi_d (bi_d L (2 ^ k)) (2 ^ l)).testBit j = true) = (fun j => ((j < 16 ∧ L.testBit j = true) ∧ j ≠ k) ∧ j ≠ l) := funext (fun x => propext (by
  rw [pv_dT, pv_dT, pv_2p, pv_2p]
  exact ⟨fun h => ⟨⟨⟨h.1, h.2.1.1⟩, h.2.1.2⟩, h.2.2⟩, fun h => ⟨h.1.1.1, ⟨h.1.1.2, h.1.2⟩, h.2⟩⟩))
section
variable {A B : Nat → Nat}
theorem pv_blE {us kp k l : Nat} (h8 : kp < 256) : (sp_X A B us kp (bi_e (A k) (B k)) &&& bi_e (A l) (B l) ≠ 0) ↔ ∃ x y, (x = A k ∨ x = B k) ∧ kp.testBit x = true ∧ (y = A l ∨ y = B l) ∧ gr_R A B (fun j => j < 16 ∧ us.testBit j = true) (fun p => kp.testBit p = true) x y := by
  rw [Nat.and_comm, bi_enz, sp_XT A B us kp h8, sp_XT A B us kp h8]
  constructor
  · rintro (⟨x, ⟨h1, h2⟩, r⟩ | ⟨x, ⟨h1, h2⟩, r⟩)
    · exact ⟨x, A l, (bi_eT _ _ _).mp h1, h2, Or.inl rfl, r⟩
    · exact ⟨x, B l, (bi_eT _ _ _).mp h1, h2, Or.inr rfl, r⟩
  · rintro ⟨x, y, h1, h2, h3 | h3, r⟩
    · rw [h3] at r
      exact Or.inl ⟨x, ⟨(bi_eT _ _ _).mpr h1, h2⟩, r⟩
    · rw [h3] at r
      exact Or.inr ⟨x, ⟨(bi_eT _ _ _).mpr h1, h2⟩, r⟩
theorem pv_bl {L kp k l : Nat} (h8 : kp < 256) : (sp_X A B L kp (bi_e (A k) (B k)) &&& bi_e (A l) (B l) ≠ 0) ↔ (sp_X A B (bi_d (bi_d L (2 ^ k)) (2 ^ l)) kp (bi_e (A k) (B k)) &&& bi_e (A l) (B l) ≠ 0) := by
  rw [pv_blE h8, pv_blE h8, pv_ukl]
  exact bl_T (u := fun j => j < 16 ∧ L.testBit j = true) (q := fun p => kp.testBit p = true)
end
/-! the least of two alike lists -/
theorem mf_eq {P Q : Nat → Bool} {f g : Nat → Nat} {c d n m : Nat} (h1 : ∀ i, i < n → P i = true → ∃ j, j < m ∧ Q j = true ∧ g j = f i) (h2 : ∀ j, j < m → Q j = true → ∃ i, i < n ∧ P i = true ∧ f i = g j) (h3 : ∃ i, i < n ∧ P i = true ∧ f i ≤ c) (h4 : ∃ j, j < m ∧ Q j = true ∧ g j ≤ d) : mf_v P f c n = mf_v Q g d m := by
  obtain ⟨a1, a2, a3⟩ := mf_I P f c n
  obtain ⟨b1, b2, b3⟩ := mf_I Q g d m
  obtain ⟨i0, i1, i2, i3⟩ := h3
  obtain ⟨j0, j1, j2, j3⟩ := h4
  have x := a2 i0 i1 i2
  have y := b2 j0 j1 j2
  have at1 : ∃ i, i < n ∧ P i = true ∧ mf_v P f c n = f i := by
    rcases a3 with a3 | a3
    · exact ⟨i0, i1, i2, by omega⟩
    · exact a3
  have at2 : ∃ j, j < m ∧ Q j = true ∧ mf_v Q g d m = g j := by
    rcases b3 with b3 | b3
    · exact ⟨j0, j1, j2, by omega⟩
    · exact b3
  obtain ⟨i, e1, e2, e3⟩ := at1
  obtain ⟨j, f1, f2, f3⟩ := at2
  obtain ⟨j', k1, k2, k3⟩ := h1 i e1 e2
  obtain ⟨i', l1, l2, l3⟩ := h2 j f1 f2
  have u := b2 j' k1 k2
  have v := a2 i' l1 l2
  omega
section
variable {A B : Nat → Nat}
/-- lines between a set and the rest, as Y counts them -/
noncomputable def pv_cut (A B : Nat → Nat) (L s : Nat) : Nat := pv_c (fun k => L.testBit k = true ∧ ¬ (s.testBit (A k) = true ↔ s.testBit (B k) = true)) 16
theorem pv_cutX {n L : Nat} (g : cx_G n L A B) (s : Nat) : pv_o (pv_x A B L s (2 ^ n - 1)) = pv_cut A B L s := by
  unfold pv_o pv_cut
  apply pv_cC
  intro k hk
  rw [pv_xT]
  constructor
  · rintro ⟨h1, _, h3⟩
    exact ⟨h1.2, h3⟩
  · rintro ⟨h1, h3⟩
    obtain ⟨g1, g2, g3⟩ := g.2.2 k hk h1
    exact ⟨⟨hk, h1⟩, ⟨(pv_all n _).mpr g1, (pv_all n _).mpr g2⟩, h3⟩
noncomputable def pv_wX (A B : Nat → Nat) (n L : Nat) : Nat → Nat := mf_v (fun s => gr_b (1 ≤ s ∧ s < 2 ^ n - 1)) (fun s => pv_cut A B L s) 16
noncomputable def pv_wY (A B : Nat → Nat) (L : Nat) : Nat → Nat := mf_v (fun s => gr_b (1 ≤ s)) (fun s => pv_cut A B L s) 100
theorem pv_w {n L : Nat} (h1 : 2 ≤ n) (h8 : n ≤ 8) : pv_wX A B n L 256 = pv_wY A B L (2 ^ n - 1) := by
  have a8 := pv_a8 h8
  have a4 : 2 ^ 2 ≤ 2 ^ n := Nat.pow_le_pow_right (by omega) h1
  have c16 := pv_cn (fun k => L.testBit k = true ∧ ¬ (Nat.testBit 1 (A k) = true ↔ Nat.testBit 1 (B k) = true)) 16
  have c1 : pv_cut A B L 1 ≤ 16 := c16
  apply mf_eq
  · intro i hi h
    have h := gr_bT.mp h
    exact ⟨i, h.2, gr_bT.mpr h.1, rfl⟩
  · intro j hj h
    have h := gr_bT.mp h
    exact ⟨j, by omega, gr_bT.mpr ⟨h, hj⟩, rfl⟩
  · exact ⟨1, by omega, gr_bT.mpr ⟨by omega, by omega⟩, c1⟩
  · exact ⟨1, by omega, gr_bT.mpr (by omega), by omega⟩
/-- points that can go -/
noncomputable def pv_fX (A B : Nat → Nat) (n L : Nat) : Nat → Nat := mf_v (fun s => gr_b ((1 ≤ s ∧ s < 2 ^ n - 1) ∧ 1 < pv_g A B L (bi_d (2 ^ n - 1) s))) (fun s => pv_o s) (n - 1)
noncomputable def pv_fY (A B : Nat → Nat) (n L : Nat) : Nat → Nat := mf_v (fun s => gr_b (1 ≤ s ∧ (pv_o s = 1 ∨ 1 < pv_g A B L s))) (fun s => n - pv_o s) 100
theorem pv_in {n s : Nat} (h : s ≤ 2 ^ n - 1) {p : Nat} (hp : s.testBit p = true) : p < n := by
  have := Nat.two_pow_pos n
  exact pv_lt (n := n) (by omega) hp
theorem pv_dd {n s : Nat} (h : s ≤ 2 ^ n - 1) : bi_d (2 ^ n - 1) (bi_d (2 ^ n - 1) s) = s := by
  apply pv_ext
  intro p
  rw [pv_dT, pv_dT, pv_all]
  constructor
  · rintro ⟨h1, h2⟩
    apply Classical.byContradiction
    intro q
    exact h2 ⟨h1, q⟩
  · intro hp
    exact ⟨pv_in h hp, fun w => w.2 hp⟩
theorem pv_dle (n s : Nat) : bi_d (2 ^ n - 1) s ≤ 2 ^ n - 1 := by
  have := Nat.two_pow_pos n
  have := bi_dlt (a := 2 ^ n - 1) (b := s) (n := n) (by omega)
  omega
/-- a part that is neither nothing nor all -/
theorem pv_dpr {n s : Nat} (h1 : 1 ≤ s) (h2 : s < 2 ^ n - 1) : 1 ≤ bi_d (2 ^ n - 1) s ∧ bi_d (2 ^ n - 1) s < 2 ^ n - 1 := by
  have l := pv_dle n s
  have e := pv_dd (n := n) (s := s) (by omega)
  have z0 : bi_d (2 ^ n - 1) 0 = 2 ^ n - 1 := by
    apply pv_ext
    intro p
    rw [pv_dT, Nat.zero_testBit]
    exact ⟨fun w => w.1, fun w => ⟨w, fun q => by cases q⟩⟩
  have z1 : bi_d (2 ^ n - 1) (2 ^ n - 1) = 0 := (pv_d0 _ _).mpr (fun p h => h)
  constructor
  · apply Classical.byContradiction
    intro q
    have : bi_d (2 ^ n - 1) s = 0 := by omega
    rw [this, z0] at e
    omega
  · apply Classical.byContradiction
    intro q
    have : bi_d (2 ^ n - 1) s = 2 ^ n - 1 := by omega
    rw [this, z1] at e
    omega
theorem pv_f {n L : Nat} (h1 : 2 ≤ n) (h8 : n ≤ 8) (hc : ¬ 1 < pv_g A B L (2 ^ n - 1)) : pv_fX A B n L 256 = pv_fY A B n L (2 ^ n - 1 + 1) := by
  have a8 := pv_a8 h8
  have a4 : 2 ^ 2 ≤ 2 ^ n := Nat.pow_le_pow_right (by omega) h1
  have p1 : 1 < 2 ^ n - 1 + 1 := by omega
  have oo : ∀ s, s ≤ 2 ^ n - 1 → pv_o (bi_d (2 ^ n - 1) s) + pv_o s = n := fun s hs => pv_oc (by omega) (fun p hp => pv_in hs hp)
  have o1 : pv_o 1 = 1 := pv_o1' (i := 0) (by omega) (fun j _ => by
    have := pv_2p 0 j
    exact this)
  have oall : pv_o (2 ^ n - 1) = n := by
    have := oo (2 ^ n - 1) (Nat.le_refl _)
    have z1 : bi_d (2 ^ n - 1) (2 ^ n - 1) = 0 := (pv_d0 _ _).mpr (fun p h => h)
    have z2 : pv_o 0 = 0 := mt_c_0 16 (fun i _ => gr_bF.mpr (show ¬ Nat.testBit 0 i = true by rw [Nat.zero_testBit]; exact fun q => by cases q))
    rw [z1, z2] at this
    omega
  obtain ⟨a1, a2, a3⟩ := mf_I (fun s => gr_b ((1 ≤ s ∧ s < 2 ^ n - 1) ∧ 1 < pv_g A B L (bi_d (2 ^ n - 1) s))) (fun s => pv_o s) (n - 1) 256
  obtain ⟨b1, b2, b3⟩ := mf_I (fun s => gr_b (1 ≤ s ∧ (pv_o s = 1 ∨ 1 < pv_g A B L s))) (fun s => n - pv_o s) 100 (2 ^ n - 1 + 1)
  have y1 := b2 1 p1 (gr_bT.mpr ⟨Nat.le_refl 1, Or.inl o1⟩)
  (try dsimp only at y1)
  rw [o1] at y1
  show mf_v (fun s => gr_b ((1 ≤ s ∧ s < 2 ^ n - 1) ∧ 1 < pv_g A B L (bi_d (2 ^ n - 1) s))) (fun s => pv_o s) (n - 1) 256 = mf_v (fun s => gr_b (1 ≤ s ∧ (pv_o s = 1 ∨ 1 < pv_g A B L s))) (fun s => n - pv_o s) 100 (2 ^ n - 1 + 1)
  apply Nat.le_antisymm
  · clear a3
    rcases b3 with b3 | ⟨j, j1, j2, j3⟩
    · omega
    · have j2 := gr_bT.mp j2
      (try dsimp only at j3)
      rcases j2.2 with q | q
      · rw [q] at j3
        omega
      · have ja : j ≠ 2 ^ n - 1 := by
          intro e
          rw [e] at q
          exact hc q
        have pr := pv_dpr j2.1 (show j < 2 ^ n - 1 by omega)
        have dd := pv_dd (n := n) (s := j) (by omega)
        have w := a2 (bi_d (2 ^ n - 1) j) (by omega) (gr_bT.mpr ⟨pr, by rw [dd]; exact q⟩)
        have s := oo j (by omega)
        (try dsimp only at w)
        omega
  · clear b3
    rcases a3 with a3 | ⟨i, i1, i2, i3⟩
    · omega
    · have i2 := gr_bT.mp i2
      (try dsimp only at i3)
      have pr := pv_dpr i2.1.1 i2.1.2
      have w := b2 (bi_d (2 ^ n - 1) i) (by omega) (gr_bT.mpr ⟨pr.1, Or.inr i2.2⟩)
      have s := oo i (by omega)
      (try dsimp only at w)
      omega
theorem pv_fXb {n L : Nat} (i : Nat) : pv_fX A B n L i ≤ n - 1 := (mf_I _ _ _ i).1
theorem pv_fYb {n L : Nat} (i : Nat) : pv_fY A B n L i ≤ 100 := (mf_I _ _ _ i).1
theorem pv_wXb {n L : Nat} (i : Nat) : pv_wX A B n L i ≤ 16 := (mf_I _ _ _ i).1
theorem pv_wYb {L : Nat} (i : Nat) : pv_wY A B L i ≤ 100 := (mf_I _ _ _ i).1
end
/-! a step of the fold -/
theorem mf_P {P : Nat → Bool} {f : Nat → Nat} {c i : Nat} (h : P i = true ∧ f i < mf_v P f c i) : mf_v P f c (i + 1) = f i := by
  show (if P i = true ∧ f i < mf_v P f c i then f i else mf_v P f c i) = _
  rw [if_pos h]
theorem mf_N {P : Nat → Bool} {f : Nat → Nat} {c i : Nat} (h : ¬ (P i = true ∧ f i < mf_v P f c i)) : mf_v P f c (i + 1) = mf_v P f c i := by
  show (if P i = true ∧ f i < mf_v P f c i then f i else mf_v P f c i) = _
  rw [if_neg h]
/-! rings, sides -/
section
variable (A B : Nat → Nat)
/-- X's layers, Y's layers -/
def pv_ly (us i x : Nat) : Nat := gr_it (fun s => sp_w A B us s 16) i (2 ^ x)
def pv_lz (us all i x : Nat) : Nat := gr_it (fun s => sp_y A B us s 16 &&& all) i (2 ^ x)
variable {A B}
theorem pv_lyE {n us : Nat} (hl : ∀ j, j < 16 → us.testBit j = true → A j < n ∧ B j < n) {x : Nat} (hx : x < n) : ∀ i, pv_ly A B us i x = pv_lz A B us (2 ^ n - 1) i x ∧ ∀ p, (pv_ly A B us i x).testBit p = true → p < n := by
  intro i
  induction i with
  | zero =>
    refine ⟨rfl, fun p hp => ?_⟩
    have : p = x := (pv_2p x p).mp hp
    omega
  | succ i ih =>
    have e : pv_ly A B us (i + 1) x = pv_lz A B us (2 ^ n - 1) (i + 1) x := by
      show sp_w A B us (pv_ly A B us i x) 16 = sp_y A B us (pv_lz A B us (2 ^ n - 1) i x) 16 &&& (2 ^ n - 1)
      rw [← ih.1]
      exact sp_wy A B us hl ih.2
    refine ⟨e, fun p hp => ?_⟩
    rw [e] at hp
    have hp : (sp_y A B us (pv_lz A B us (2 ^ n - 1) i x) 16 &&& (2 ^ n - 1)).testBit p = true := hp
    rw [Nat.testBit_and, Bool.and_eq_true, pv_all] at hp
    exact hp.2
theorem pv_lyS {us : Nat} (i x y : Nat) : (pv_ly A B us i x).testBit y = true ↔ (pv_ly A B us i y).testBit x = true := by
  unfold pv_ly
  rw [sp_D, sp_D]
  exact ⟨gr_Ds (sp_As A B us) i x y, gr_Ds (sp_As A B us) i y x⟩
end
/-- the points at an even distance, layers before i + 1 -/
def pv_ev (f : Nat → Nat) (s : Nat) : Nat → Nat
  | 0 => s
  | i + 1 => if (i + 1) % 2 = 0 then pv_ev f s i ||| bi_d (gr_it f (i + 1) s) (gr_it f i s) else pv_ev f s i
theorem pv_evP {f : Nat → Nat} {s i : Nat} (h : (i + 1) % 2 = 0) : pv_ev f s (i + 1) = pv_ev f s i ||| bi_d (gr_it f (i + 1) s) (gr_it f i s) := by
  show (if (i + 1) % 2 = 0 then _ else _) = _
  rw [if_pos h]
theorem pv_evN {f : Nat → Nat} {s i : Nat} (h : ¬ (i + 1) % 2 = 0) : pv_ev f s (i + 1) = pv_ev f s i := by
  show (if (i + 1) % 2 = 0 then _ else _) = _
  rw [if_neg h]
theorem pv_evC {f h : Nat → Nat} {s : Nat} (e : ∀ i, gr_it f i s = gr_it h i s) : ∀ i, pv_ev f s i = pv_ev h s i := by
  intro i
  induction i with
  | zero => rfl
  | succ i ih =>
    by_cases c : (i + 1) % 2 = 0
    · rw [pv_evP c, pv_evP c, ih, e, e]
    · rw [pv_evN c, pv_evN c, ih]
theorem pv_evB {f : Nat → Nat} {s n : Nat} (h : ∀ i, gr_it f i s < 2 ^ n) : ∀ i, pv_ev f s i < 2 ^ n := by
  intro i
  induction i with
  | zero => exact h 0
  | succ i ih =>
    by_cases c : (i + 1) % 2 = 0
    · rw [pv_evP c]
      exact Nat.or_lt_two_pow ih (bi_dlt (h (i + 1)))
    · rw [pv_evN c]; exact ih
/-- sides: (near, placed) before p -/
def pv_sd (ev sp : Nat → Nat) : Nat → Nat × Nat
  | 0 => (0, 0)
  | p + 1 => if (pv_sd ev sp p).2.testBit p = true then pv_sd ev sp p else ((pv_sd ev sp p).1 ||| ev p, (pv_sd ev sp p).2 ||| sp p)
theorem pv_sdP {ev sp : Nat → Nat} {p : Nat} (h : (pv_sd ev sp p).2.testBit p = true) : pv_sd ev sp (p + 1) = pv_sd ev sp p := by
  show (if _ then _ else _) = _
  rw [if_pos h]
theorem pv_sdN {ev sp : Nat → Nat} {p : Nat} (h : ¬ (pv_sd ev sp p).2.testBit p = true) : pv_sd ev sp (p + 1) = ((pv_sd ev sp p).1 ||| ev p, (pv_sd ev sp p).2 ||| sp p) := by
  show (if _ then _ else _) = _
  rw [if_neg h]
theorem pv_sdB {ev sp : Nat → Nat} {m : Nat} (h1 : ∀ p, ev p < 2 ^ m) (h2 : ∀ p, sp p < 2 ^ m) : ∀ p, (pv_sd ev sp p).1 < 2 ^ m ∧ (pv_sd ev sp p).2 < 2 ^ m := by
  intro p
  induction p with
  | zero => exact ⟨Nat.two_pow_pos m, Nat.two_pow_pos m⟩
  | succ p ih =>
    by_cases c : (pv_sd ev sp p).2.testBit p = true
    · rw [pv_sdP c]; exact ih
    · rw [pv_sdN c]
      exact ⟨Nat.or_lt_two_pow ih.1 (h1 p), Nat.or_lt_two_pow ih.2 (h2 p)⟩
theorem pv_sdD (a p s : Nat) : bi_d (bi_d a p) s = bi_d a (p ||| s) := by
  apply pv_ext
  intro i
  rw [pv_dT, pv_dT, pv_dT, Nat.testBit_or, Bool.or_eq_true]
  exact ⟨fun h => ⟨h.1.1, fun w => w.elim h.1.2 h.2⟩, fun h => ⟨⟨h.1, fun w => h.2 (Or.inl w)⟩, fun w => h.2 (Or.inr w)⟩⟩
section
variable {A B : Nat → Nat}
theorem pv_sdL {n L s : Nat} (g : cx_G n L A B) : pv_x A B L s (2 ^ n - 1) = L ↔ ∀ k, k < 16 → L.testBit k = true → ¬ (s.testBit (A k) = true ↔ s.testBit (B k) = true) := by
  constructor
  · intro e k hk lk
    rw [← e] at lk
    exact ((pv_xT A B L s _ k).mp lk).2.2
  · intro h
    apply pv_ext
    intro k
    rw [pv_xT]
    constructor
    · intro w
      exact w.1.2
    · intro lk
      have hk : k < 16 := pv_lt (n := 16) g.2.1 lk
      obtain ⟨g1, g2, g3⟩ := g.2.2 k hk lk
      exact ⟨⟨hk, lk⟩, ⟨(pv_all n _).mpr g1, (pv_all n _).mpr g2⟩, h k hk lk⟩
end
/-! trees -/
section
variable {A B : Nat → Nat}
noncomputable def pv_ty (A B : Nat → Nat) (n L : Nat) : Nat → Nat := pv_c (fun s => (bi_d s L = 0 ∧ pv_o s = n - 1) ∧ sp_X A B s (2 ^ n - 1) 1 = 2 ^ n - 1)
theorem pv_tyT {n L : Nat} (g : cx_G n L A B) : pv_ty A B n L 65536 = mt_N (fun k => L.testBit k) A B (n - 1) 16 (mt_r0 (n - 1)) := by
  rw [mt_NC]
  show mt_c _ 65536 = mt_c _ 65536
  apply mt_c_congr
  intro s hs
  obtain ⟨v, vm⟩ := mt_r0V (n - 1)
  have a8 := pv_a8 g.1.2
  have g0 := g.1.1
  have eb : ∀ {P : Prop} {x : Bool}, (P ↔ x = true) → gr_b P = x := by
    intro P x h
    cases hx : x
    · exact gr_bF.mpr (fun w => by rw [hx] at h; cases h.mp w)
    · exact gr_bT.mpr (h.mpr hx)
  apply eb
  rw [mt_okI (fun k => L.testBit k) A B (n - 1) s 16 (mt_r0 (n - 1)) v vm, mt_r0l]
  have e1 : mt_pk s 16 = pv_o s := mt_c_congr 16 (fun i _ => (eb Iff.rfl).symm)
  have e2 : bi_d s L = 0 ↔ ∀ j, j < 16 → s.testBit j = true → L.testBit j = true := by
    rw [pv_d0]
    exact ⟨fun h j _ => h j, fun h j w => h j (pv_lt (n := 16) hs w) w⟩
  (try dsimp only)
  rw [e1, e2]
  constructor
  · rintro ⟨⟨h1, h2⟩, h3⟩
    refine ⟨h1, h2, ?_⟩
    rw [mt_span A B (n - 1) s 16 (fun j hj w => by have := g.2.2 j hj (h1 j hj w); omega)]
    intro S cS s0 p hp
    have : (sp_X A B s (2 ^ n - 1) (2 ^ 0)).testBit p = true := by
      show (sp_X A B s (2 ^ n - 1) 1).testBit p = true
      rw [h3, pv_all]
      omega
    rw [pv_sp A B a8 ((pv_all n 0).mpr (by omega))] at this
    exact this S (fun k hk _ _ => cS k hk.1 hk.2) s0
  · rintro ⟨h1, h2, h3⟩
    refine ⟨⟨h1, h2⟩, ?_⟩
    rw [mt_span A B (n - 1) s 16 (fun j hj w => by have := g.2.2 j hj (h1 j hj w); omega)] at h3
    apply pv_ext
    intro p
    have c := pv_sp A B (us := s) a8 ((pv_all n 0).mpr (by omega)) p
    constructor
    · intro w
      exact gr_in (fun _ _ _ _ => trivial) (c.mp w) ((pv_all n 0).mpr (by omega))
    · intro w
      have pn := (pv_all n p).mp w
      refine c.mpr (fun S cS s0 => ?_)
      exact h3 S (fun j hj t => by
        have := g.2.2 j hj (h1 j hj t)
        exact cS j ⟨hj, t⟩ ((pv_all n _).mpr this.1) ((pv_all n _).mpr this.2.1)) s0 p (by omega)
end
end
section
/-! one walk: what holds at the head of its loop, all in one -/
def wr_I (n L : Nat) (A B : Nat → Nat) (root m0 : Nat) (o0 : Nat → Nat) (WB0 WH0 : Nat) (t met rb WB WH : Nat) (o lo cf cb nl la : Nat → Nat) : Prop :=
  wk_G n (fun k => k < 16 ∧ L.testBit k = true) A B root m0 t met o cf cb nl la ∧
  wk_L (fun k => k < 16 ∧ L.testBit k = true) A B m0 o lo cb nl la ∧
  wk_B n (fun k => k < 16 ∧ L.testBit k = true) A B root WB cb la ∧
  wk_H n (fun k => k < 16 ∧ L.testBit k = true) A B root m0 rb WH o cf la ∧
  (met = pv_c (fun p => o p ≠ 0) 8 ∧ rb + wk_M m0 o nl la ≤ 136 ∧ WB < 65536 ∧ WH < 256) ∧
  ((∀ k, WB0.testBit k = true → WB.testBit k = true) ∧ (∀ k, WH0.testBit k = true → WH.testBit k = true)) ∧
  (∀ p, o0 p ≠ 0 → o p = o0 p) ∧ (∀ p, o p ≠ 0 → o p ≤ m0 → o0 p ≠ 0)
section
variable {n L : Nat} {A B : Nat → Nat} {root m0 : Nat} {o0 : Nat → Nat} {WB0 WH0 t met rb WB WH : Nat} {o lo cf cb nl la : Nat → Nat}
/-- small facts -/
theorem wr_f (g : cx_G n L A B) (I : wr_I n L A B root m0 o0 WB0 WH0 t met rb WB WH o lo cf cb nl la) : t < n ∧ t < 8 ∧ root < n ∧ root < 8 ∧ nl t ≤ 16 ∧ met ≤ 8 ∧ (∀ p, o p ≤ 8) ∧ m0 < o t ∧ m0 < o root ∧ lo t ≤ 8 ∧ lo t ≤ o t ∧ rb ≤ 135 ∧ la t = 0 ∧ 1 ≤ wk_M m0 o nl la := by
  obtain ⟨G, Lw, Bw, H, ⟨c1, c2, c3, c4⟩, _, _, _⟩ := I
  obtain ⟨g1, g2, g3, ⟨g4a, g4b, g4c, g4d, g4e⟩, g5, g6, g7, g8, g9, g10, g11, g12⟩ := G
  have n8 := g.1.2
  have tn : t < n := by
    apply Classical.byContradiction
    intro q
    have := g1 t (by omega)
    have := g4d.1
    omega
  have rn : root < n := by
    apply Classical.byContradiction
    intro q
    have := g1 root (by omega)
    omega
  have m8 : met ≤ 8 := by rw [c1]; exact pv_cn _ 8
  have lt := (Lw t g4d).1
  have ot := g2 t
  have nt := g12 t g4d.1
  have mp := wk_Mp (m0 := m0) (o := o) (nl := nl) (la := la) (p := t) (by omega) g4d nt
  exact ⟨tn, by omega, rn, by omega, nt, m8, fun p => by have := g2 p; omega, g4d.1, g4c.1, by omega, lt, by omega, g4d.2, mp⟩
theorem wr_look (g : cx_G n L A B) (I : wr_I n L A B root m0 o0 WB0 WH0 t met rb WB WH o lo cf cb nl la) (hk : nl t < 16) (hz : ∀ z, wk_J (fun k => k < 16 ∧ L.testBit k = true) A B (nl t) t z → nl t ≠ cb t → o z ≠ 0) (v : Nat) (v1 : v ≤ lo t) (v2 : ∀ z, wk_J (fun k => k < 16 ∧ L.testBit k = true) A B (nl t) t z → nl t ≠ cb t → v ≤ o z) (v3 : v = lo t ∨ ∃ z, wk_J (fun k => k < 16 ∧ L.testBit k = true) A B (nl t) t z ∧ nl t ≠ cb t ∧ v = o z ∧ m0 < o z) : wr_I n L A B root m0 o0 WB0 WH0 t met rb WB WH o (wk_u lo t v) cf cb (wk_u nl t (nl t + 1)) la ∧ wk_M m0 o (wk_u nl t (nl t + 1)) la < wk_M m0 o nl la := by
  have f := wr_f g I
  obtain ⟨G, Lw, Bw, H, ⟨c1, c2, c3, c4⟩, c5, c6, c7⟩ := I
  have G0 := G
  obtain ⟨g1, g2, g3, ⟨g4a, g4b, g4c, g4d, g4e⟩, g5⟩ := G
  have m := wk_Mlook (m0 := m0) (o := o) (nl := nl) (la := la) (t := t) f.2.1 g4d hk
  exact ⟨⟨wk_lookG (cx_0 g) G0 hk hz, wk_lookL G0 Lw v v1 v2 v3, Bw, H, ⟨c1, by omega, c3, c4⟩, c5, c6, c7⟩, m⟩
theorem wr_meet (g : cx_G n L A B) (I : wr_I n L A B root m0 o0 WB0 WH0 t met rb WB WH o lo cf cb nl la) (hk : nl t < 16) {z : Nat} (j : wk_J (fun k => k < 16 ∧ L.testBit k = true) A B (nl t) t z) (hz : o z = 0) : wr_I n L A B root m0 o0 WB0 WH0 z (met + 1) rb WB WH (wk_u o z (met + 1)) (wk_u lo z (met + 1)) (wk_u cf z t) (wk_u cb z (nl t)) (wk_u (wk_u nl t (nl t + 1)) z 0) la ∧ wk_M m0 (wk_u o z (met + 1)) (wk_u (wk_u nl t (nl t + 1)) z 0) la < wk_M m0 o nl la := by
  have f := wr_f g I
  obtain ⟨G, Lw, Bw, H, ⟨c1, c2, c3, c4⟩, c5, c6, c7⟩ := I
  have G0 := G
  obtain ⟨g1, g2, g3, ⟨g4a, g4b, g4c, g4d, g4e⟩, g5⟩ := G
  have jn := wk_Jn (cx_0 g) j
  have m := wk_Mmeet (m0 := m0) (met := met) (o := o) (nl := nl) (la := la) (t := t) (z := z) f.2.1 g4d hk hz jn.2.2.2
  have n8 := g.1.2
  have c : pv_c (fun p => o p ≠ 0) 8 + 1 = pv_c (fun p => wk_u o z (met + 1) p ≠ 0) 8 := by
    apply mt_c_but z 8 (by omega)
    · exact gr_bT.mpr (show wk_u o z (met + 1) z ≠ 0 by rw [wk_us]; omega)
    · exact gr_bF.mpr (fun w => w hz)
    · intro i _ hi
      apply gr_bC
      show o i ≠ 0 ↔ wk_u o z (met + 1) i ≠ 0
      rw [wk_un o _ hi]
  refine ⟨⟨wk_meetG (cx_0 g) G0 hk j hz, wk_meetL (cx_0 g) G0 Lw j hz, wk_meetB G0 Bw (nl t) hz, wk_meetH G0 H hz, ⟨by omega, by omega, c3, c4⟩, c5, fun p hp => ?_, fun p h1 h2 => ?_⟩, m⟩
  · have : p ≠ z := by
      intro e
      rw [e] at hp
      have := c6 z hp
      omega
    rw [wk_un o _ this]
    exact c6 p hp
  · by_cases e : p = z
    · rw [e, wk_us] at h2
      omega
    · rw [wk_un o _ e] at h1 h2
      exact c7 p h1 h2
theorem wr_leave (g : cx_G n L A B) (I : wr_I n L A B root m0 o0 WB0 WH0 t met rb WB WH o lo cf cb nl la) (hk : nl t = 16) (tr : t ≠ root) {rb' WB' WH' v : Nat} (hv : v = if lo t < lo (cf t) then lo t else lo (cf t)) (hr : rb' = if cf t = root then rb + 1 else rb)
    (hB : WB' = if o (cf t) < lo t then WB ||| 2 ^ (cb t) else WB) (hH : WH' = if (if cf t = root then 1 < rb' else o (cf t) ≤ lo t) then WH ||| 2 ^ (cf t) else WH) : wr_I n L A B root m0 o0 WB0 WH0 (cf t) met rb' WB' WH' o (wk_u lo (cf t) v) cf cb nl (wk_u la t met) ∧ wk_M m0 o nl (wk_u la t met) < wk_M m0 o nl la := by
  have f := wr_f g I
  obtain ⟨G, Lw, Bw, H, ⟨c1, c2, c3, c4⟩, ⟨c5, c6⟩, c7, c8⟩ := I
  have G0 := G
  obtain ⟨g1, g2, g3, ⟨g4a, g4b, g4c, g4d, g4e⟩, g5, g6, g7, g8, g9⟩ := G
  have m := wk_Mleave (m0 := m0) (met := met) (o := o) (nl := nl) (la := la) (t := t) f.2.1 g4d hk (by omega)
  obtain ⟨k1, k2, k3, k4⟩ := g6 t g4d.1 tr
  have jn := wk_Jn (cx_0 g) k3
  have n8 := g.1.2
  have bT : ∀ k, WB'.testBit k = true ↔ (WB.testBit k = true ∨ (k = cb t ∧ o (cf t) < lo t)) := by
    intro k
    rw [hB]
    by_cases c : o (cf t) < lo t
    · rw [if_pos c, Nat.testBit_or, Bool.or_eq_true, pv_2p]
      exact ⟨fun h => h.elim Or.inl (fun q => Or.inr ⟨q, c⟩), fun h => h.elim Or.inl (fun q => Or.inr q.1)⟩
    · rw [if_neg c]
      exact ⟨Or.inl, fun h => h.elim id (fun q => absurd q.2 c)⟩
  have hT : ∀ k, WH'.testBit k = true ↔ (WH.testBit k = true ∨ (k = cf t ∧ (if cf t = root then 1 < rb' else o (cf t) ≤ lo t))) := by
    intro k
    rw [hH]
    by_cases c : (if cf t = root then 1 < rb' else o (cf t) ≤ lo t)
    · rw [if_pos c, Nat.testBit_or, Bool.or_eq_true, pv_2p]
      exact ⟨fun h => h.elim Or.inl (fun q => Or.inr ⟨q, c⟩), fun h => h.elim Or.inl (fun q => Or.inr q.1)⟩
    · rw [if_neg c]
      exact ⟨Or.inl, fun h => h.elim id (fun q => absurd q.2 c)⟩
  have b1 : WB' < 65536 := by
    rw [hB]
    split
    · exact Nat.or_lt_two_pow (n := 16) c3 (Nat.pow_lt_pow_right (by omega) jn.1)
    · exact c3
  have b2 : WH' < 256 := by
    have p8 : 2 ^ (cf t) < 2 ^ 8 := Nat.pow_lt_pow_right (by omega) (by omega)
    rw [hH]
    by_cases c : (if cf t = root then 1 < rb' else o (cf t) ≤ lo t)
    · rw [if_pos c]
      exact Nat.or_lt_two_pow (n := 8) c4 p8
    · rw [if_neg c]
      exact c4
  have r1 : rb' ≤ rb + 1 := by
    rw [hr]
    split <;> omega
  exact ⟨⟨wk_leaveG G0 hk tr, wk_leaveL G0 Lw hk tr (cx_0 g) v hv, wk_leaveB (cx_0 g) G0 Lw Bw hk tr bT, wk_leaveH (cx_0 g) G0 Lw H hk tr hr hT, ⟨c1, by omega, b1, b2⟩, ⟨fun k h => (bT k).mpr (Or.inl (c5 k h)), fun k h => (hT k).mpr (Or.inl (c6 k h))⟩, c7, c8⟩, m⟩
/-- between walks, with the count -/
def wr_Z (n L : Nat) (A B : Nat → Nat) (met WB WH : Nat) (o ro : Nat → Nat) : Prop :=
  wk_Z n (fun k => k < 16 ∧ L.testBit k = true) A B met WB WH o ro ∧ (met = pv_c (fun p => o p ≠ 0) 8 ∧ WB < 65536 ∧ WH < 256)
theorem wr_begin (g : cx_G n L A B) {ro : Nat → Nat} (Z : wr_Z n L A B m0 WB WH o ro) (rn : root < n) (hr : o root = 0) : wr_I n L A B root m0 o WB WH root (m0 + 1) 0 WB WH (wk_u o root (m0 + 1)) (wk_u lo root (m0 + 1)) (wk_u cf root root) (wk_u cb root 99) (wk_u nl root 0) (fun _ => 0) := by
  obtain ⟨Z, z1, z2, z3⟩ := Z
  obtain ⟨s1, s2, s3, s4⟩ := wk_start (cx_0 g) (lo := lo) (cf := cf) (cb := cb) (nl := nl) Z rn hr
  have n8 := g.1.2
  have c : pv_c (fun p => o p ≠ 0) 8 + 1 = pv_c (fun p => wk_u o root (m0 + 1) p ≠ 0) 8 := by
    apply mt_c_but root 8 (by omega)
    · exact gr_bT.mpr (show wk_u o root (m0 + 1) root ≠ 0 by rw [wk_us]; omega)
    · exact gr_bF.mpr (fun w => w hr)
    · intro i _ hi
      apply gr_bC
      show o i ≠ 0 ↔ wk_u o root (m0 + 1) i ≠ 0
      rw [wk_un o _ hi]
  have mb := wk_Mb m0 (wk_u o root (m0 + 1)) (wk_u nl root 0) (fun _ => 0)
  refine ⟨s1, s2, s3, s4, ⟨by omega, by omega, z2, z3⟩, ⟨fun k h => h, fun k h => h⟩, fun p hp => ?_, fun p h1 h2 => ?_⟩
  · have : p ≠ root := by
      intro e
      rw [e] at hp
      exact hp hr
    rw [wk_un o _ this]
  · by_cases e : p = root
    · rw [e, wk_us] at h2
      omega
    · rw [wk_un o _ e] at h1
      exact h1
theorem wr_fin (g : cx_G n L A B) {ro ro0 : Nat → Nat} (Z : wr_Z n L A B m0 WB0 WH0 o0 ro0) (I : wr_I n L A B root m0 o0 WB0 WH0 root met rb WB WH o lo cf cb nl la) (hk : nl root = 16) (r0 : ∀ p, o0 p ≠ 0 → ro p = ro0 p) (r1 : ∀ p, m0 < o p → ro p = root) (r2 : ∀ p, p < root → o0 p ≠ 0) : wr_Z n L A B met WB WH o ro := by
  obtain ⟨G, Lw, Bw, H, ⟨c1, c2, c3, c4⟩, ⟨c5, c6⟩, c7, c8⟩ := I
  exact ⟨wk_end (cx_0 g) Z.1 G Bw H hk (fun p hp => ⟨c7 p hp, r0 p hp⟩) c8 r1 r2 c5 c6, c1, c3, c4⟩
/-- nothing met yet -/
theorem wr_0 : wr_Z n L A B 0 0 0 (fun _ => 0) (fun _ => 0) := by
  have z : ∀ k, ¬ Nat.testBit 0 k = true := by
    intro k h
    rw [Nat.zero_testBit] at h
    cases h
  refine ⟨⟨fun _ _ => rfl, fun _ => Nat.le_refl _, fun _ _ _ h => absurd rfl h, fun _ _ _ _ h => absurd rfl h, fun _ h => absurd rfl h, fun k h => absurd h (z k), fun _ _ h => absurd rfl h, fun k h => absurd h (z k), fun _ h => absurd rfl h⟩, ?_, by omega, by omega⟩
  exact (mt_c_0 8 (fun i _ => gr_bF.mpr (fun h => h rfl))).symm
/-- all met: the answers -/
theorem wr_all (g : cx_G n L A B) {ro : Nat → Nat} (Z : wr_Z n L A B met WB WH o ro) (h : ∀ p, p < n → o p ≠ 0) : WB = pv_b A B n L ∧ WH = pv_h A B n L ∧ ∀ p, p < n → ro p = pv_lb (gr_R A B (fun k => k < 16 ∧ L.testBit k = true) (fun x => x < n)) p := by
  obtain ⟨⟨z1, z2, z3, z4, z5, z6, z7, z8, z9⟩, z10, z11, z12⟩ := Z
  refine ⟨pv_bI g (fun k => ⟨z6 k, fun w => ?_⟩), pv_hI g (fun p => ⟨z8 p, fun w => z9 p (h p w.1) w⟩), fun p hp => ?_⟩
  · have gk := g.2.2 k w.1.1 w.1.2
    exact z7 k w.1 (h _ gk.1) w
  · obtain ⟨q1, q2, q3⟩ := z5 p (h p hp)
    exact pv_lbU (gr_RE A B _ _) q1 q3
end
end
section
/-! the table of long numbers -/
theorem bz_z {x : Int} (h : x.natAbs < 2 ^ 61) : Int64.ofInt x = 0 ↔ x = 0 := by
  rw [← Int64.toInt_inj, Int64.toInt_ofInt_of_le (by omega) (by omega)]
  exact Iff.rfl
theorem bz_p1 (x : Int) : Int64.ofInt x + 1 = Int64.ofInt (x + 1) := (Int64.ofInt_add x 1).symm
theorem bz_m1 (x : Int) : Int64.ofInt x - 1 = Int64.ofInt (x - 1) := (Int64.ofInt_sub x 1).symm
theorem bz_mul (x y : Int) : Int64.ofInt x * Int64.ofInt y = Int64.ofInt (x * y) := (Int64.ofInt_mul x y).symm
def bz_F (L : Nat) (A B : Nat → Nat) (k : Nat) (tb : Nat → Int64) : Prop := ∀ i j, i < 8 → j < 8 → tb (i * 8 + j) = Int64.ofInt (mt_L (fun k => L.testBit k) A B (mt_r0 8) k i j)
theorem bz_F0 {L : Nat} {A B : Nat → Nat} {tb : Nat → Int64} (h : ∀ q, q < 64 → tb q = 0) : bz_F L A B 0 tb := by
  intro i j hi hj
  rw [h _ (by omega)]
  show 0 = Int64.ofInt (if i = j ∧ mt_r0 8 i ≠ i then 1 else 0)
  have e : mt_r0 8 i = i := by unfold mt_r0; rw [if_pos hi]
  rw [if_neg (fun q => q.2 e)]
  rfl
theorem bz_FN {L : Nat} {A B : Nat → Nat} {k : Nat} {tb : Nat → Int64} (h : bz_F L A B k tb) (hk : ¬ L.testBit k = true) : bz_F L A B (k + 1) tb := by
  intro i j hi hj
  rw [h i j hi hj]
  show _ = Int64.ofInt (mt_L (fun k => L.testBit k) A B (mt_r0 8) k i j + (if L.testBit k = true then _ else 0))
  rw [if_neg hk, Int.add_zero]
theorem bz_FS {L : Nat} {A B : Nat → Nat} {k a b : Nat} {tb : Nat → Int64} (h : bz_F L A B k tb) (hk : L.testBit k = true) (a8 : a < 8) (b8 : b < 8) (ne : a ≠ b) (e : (a = A k ∧ b = B k) ∨ (a = B k ∧ b = A k)) {t1 t2 t3 t4 : Nat → Int64}
    (h1 : t1 = vp_updL tb (a * 8 + a) (tb (a * 8 + a) + 1)) (h2 : t2 = vp_updL t1 (b * 8 + b) (t1 (b * 8 + b) + 1)) (h3 : t3 = vp_updL t2 (a * 8 + b) (t2 (a * 8 + b) - 1)) (h4 : t4 = vp_updL t3 (b * 8 + a) (t3 (b * 8 + a) - 1)) : bz_F L A B (k + 1) t4 := by
  intro i j hi hj
  have r : ∀ p, p < 8 → mt_r0 8 p = p := fun p hp => by unfold mt_r0; rw [if_pos hp]
  have bt : ∀ q, mt_bt A B (mt_r0 8) k q * mt_bt A B (mt_r0 8) k j = mt_bt A B (mt_r0 8) k q * mt_bt A B (mt_r0 8) k j := fun _ => rfl
  have s : mt_bt A B (mt_r0 8) k i * mt_bt A B (mt_r0 8) k j = (dt_dl a i - dt_dl b i) * (dt_dl a j - dt_dl b j) := by
    unfold mt_bt
    rcases e with ⟨e1, e2⟩ | ⟨e1, e2⟩
    · rw [← e1, ← e2, r a a8, r b b8]
    · rw [← e1, ← e2, r a a8, r b b8]
      grind
  show _ = Int64.ofInt (mt_L (fun k => L.testBit k) A B (mt_r0 8) k i j + (if L.testBit k = true then mt_bt A B (mt_r0 8) k i * mt_bt A B (mt_r0 8) k j else 0))
  rw [if_pos hk, s]
  have o := h i j hi hj
  have n1 : a * 8 + a ≠ b * 8 + b := by omega
  have n2 : a * 8 + a ≠ a * 8 + b := by omega
  have n3 : a * 8 + a ≠ b * 8 + a := by omega
  have n4 : b * 8 + b ≠ a * 8 + b := by omega
  have n5 : b * 8 + b ≠ b * 8 + a := by omega
  have n6 : a * 8 + b ≠ b * 8 + a := by omega
  by_cases ia : i = a
  · subst ia
    by_cases ja : j = i
    · subst ja
      rw [h4, pk_uLn n3, h3, pk_uLn n2, h2, pk_uLn n1, h1, pk_uLs, o, bz_p1, dt_dl1, dt_dl0 ne]
      congr 1
    · by_cases jb : j = b
      · subst jb
        rw [h4, pk_uLn n6, h3, pk_uLs, h2, pk_uLn (fun q => n4 q.symm), h1, pk_uLn (fun q => n2 q.symm), o, bz_m1, dt_dl1, dt_dl1, dt_dl0 ne, dt_dl0 (fun q => ne q.symm)]
        congr 1
      · rw [h4, pk_uLn (by omega), h3, pk_uLn (by omega), h2, pk_uLn (by omega), h1, pk_uLn (by omega), o, dt_dl0 ja, dt_dl0 jb]
        congr 1
        omega
  · by_cases ib : i = b
    · subst ib
      by_cases ja : j = a
      · subst ja
        rw [h4, pk_uLs, h3, pk_uLn (fun q => n6 q.symm), h2, pk_uLn (fun q => n5 q.symm), h1, pk_uLn (fun q => n3 q.symm), o, bz_m1, dt_dl1, dt_dl1, dt_dl0 ne, dt_dl0 (fun q => ne q.symm)]
        congr 1
      · by_cases jb : j = i
        · subst jb
          rw [h4, pk_uLn n5, h3, pk_uLn n4, h2, pk_uLs, h1, pk_uLn (fun q => n1 q.symm), o, bz_p1, dt_dl1, dt_dl0 ia]
          congr 1
        · rw [h4, pk_uLn (by omega), h3, pk_uLn (by omega), h2, pk_uLn (by omega), h1, pk_uLn (by omega), o, dt_dl0 ja, dt_dl0 jb]
          congr 1
          omega
    · rw [h4, pk_uLn (by omega), h3, pk_uLn (by omega), h2, pk_uLn (by omega), h1, pk_uLn (by omega), o, dt_dl0 ia, dt_dl0 ib]
      congr 1
      omega
/-! Bareiss's loops -/
/-- in step d, cells before (i, j) are new -/
def bz_T (M : Nat → Nat → Int) (s d i j : Nat) (tb : Nat → Int64) : Prop := ∀ i' j', d ≤ i' → i' < s → d ≤ j' → j' < s → tb (i' * 8 + j') = Int64.ofInt (if (d < i' ∧ d < j') ∧ (i' < i ∨ (i' = i ∧ j' < j)) then dt_bm M (d + 1) i' j' else dt_bm M d i' j')
theorem bz_T0 {M : Nat → Nat → Int} {s : Nat} {tb : Nat → Int64} (h : ∀ i j, i < s → j < s → tb (i * 8 + j) = Int64.ofInt (M i j)) : bz_T M s 0 1 1 tb := by
  intro i j _ hi _ hj
  rw [if_neg (by omega), dt_bm0]
  exact h i j hi hj
theorem bz_Tr {M : Nat → Nat → Int} {s d i : Nat} {tb : Nat → Int64} (h : bz_T M s d i s tb) : bz_T M s d (i + 1) (d + 1) tb := by
  intro i' j' h1 h2 h3 h4
  rw [h i' j' h1 h2 h3 h4]
  by_cases c : (d < i' ∧ d < j') ∧ (i' < i ∨ (i' = i ∧ j' < s))
  · rw [if_pos c, if_pos (by omega)]
  · rw [if_neg c, if_neg (by omega)]
theorem bz_Td {M : Nat → Nat → Int} {s d j : Nat} {tb : Nat → Int64} (h : bz_T M s d s j tb) : bz_T M s (d + 1) (d + 1 + 1) (d + 1 + 1) tb := by
  intro i' j' h1 h2 h3 h4
  rw [h i' j' (by omega) h2 (by omega) h4, if_pos (by omega), if_neg (by omega)]
theorem bz_Tw {M : Nat → Nat → Int} {s d i j : Nat} {tb : Nat → Int64} (h : bz_T M s d i j tb) (di : d < i) (hi : i < s) (dj : d < j) (hj : j < s) (s8 : s ≤ 8) : bz_T M s d i (j + 1) (vp_updL tb (i * 8 + j) (Int64.ofInt (dt_bm M (d + 1) i j))) := by
  intro i' j' h1 h2 h3 h4
  by_cases e : i' = i ∧ j' = j
  · rw [e.1, e.2, pk_uLs, if_pos (by omega)]
  · rw [pk_uLn (by omega), h i' j' h1 h2 h3 h4]
    by_cases c : (d < i' ∧ d < j') ∧ (i' < i ∨ (i' = i ∧ j' < j))
    · rw [if_pos c, if_pos (by omega)]
    · rw [if_neg c, if_neg (by omega)]
/-- what the step reads -/
theorem bz_rd {M : Nat → Nat → Int} {s d i j : Nat} {tb : Nat → Int64} (h : bz_T M s d i j tb) (di : d < i) (hi : i < s) (dj : d < j) (hj : j < s) : tb (i * 8 + j) = Int64.ofInt (dt_bm M d i j) ∧ tb (i * 8 + d) = Int64.ofInt (dt_bm M d i d) ∧ tb (d * 8 + j) = Int64.ofInt (dt_bm M d d j) := by
  refine ⟨?_, ?_, ?_⟩
  · rw [h i j (by omega) hi (by omega) hj, if_neg (by omega)]
  · rw [h i d (by omega) hi (by omega) (by omega), if_neg (by omega)]
  · rw [h d j (by omega) (by omega) (by omega) hj, if_neg (by omega)]
theorem bz_pow {d e : Nat} (h : d ≤ e) : (32 : Int) ^ d ≤ 32 ^ e := by
  have : (32 : Nat) ^ d ≤ 32 ^ e := Nat.pow_le_pow_right (by omega) h
  exact_mod_cast this
/-- the step's value -/
theorem bz_q {M : Nat → Nat → Int} {s d i j : Nat} (s7 : s ≤ 7) (hM : ∀ i, i < s → dt_sum (fun j => ((M i j).natAbs : Int)) s ≤ 32) (di : d < i) (hi : i < s) (dj : d < j) (hj : j < s) (nz : ∀ k, 1 ≤ k → k ≤ d → dt_d k M ≠ 0) :
    (Int64.ofInt (dt_bm M d i j) * Int64.ofInt (dt_d (d + 1) M) - Int64.ofInt (dt_bm M d i d) * Int64.ofInt (dt_bm M d d j)) / Int64.ofInt (dt_d d M) = Int64.ofInt (dt_bm M (d + 1) i j) := by
  have b1 := dt_bmB 32 (by omega) s M hM d i j (by omega) (by omega) hi hj
  have b2 := dt_bmB 32 (by omega) s M hM d d d (by omega) (by omega) (by omega) (by omega)
  have b3 := dt_bmB 32 (by omega) s M hM d i d (by omega) (by omega) hi (by omega)
  have b4 := dt_bmB 32 (by omega) s M hM d d j (by omega) (by omega) (by omega) hj
  rw [dt_bmd] at b2
  have p : (32 : Int) ^ (d + 1) ≤ 32 ^ 6 := bz_pow (by omega)
  have p6 : (32 : Int) ^ 6 = 1073741824 := by decide
  have bz : ∀ x y : Int, (x.natAbs : Int) ≤ 32 ^ (d + 1) → (y.natAbs : Int) ≤ 32 ^ (d + 1) → (x * y).natAbs < 2 ^ 61 := by
    intro x y hx hy
    rw [Int.natAbs_mul]
    have x' : x.natAbs ≤ 1073741824 := by omega
    have y' : y.natAbs ≤ 1073741824 := by omega
    have := Nat.mul_le_mul x' y'
    omega
  have b0 : (dt_d d M).natAbs < 2 ^ 61 := by
    cases d with
    | zero => show (1 : Int).natAbs < 2 ^ 61; decide
    | succ d =>
      have c := dt_bmB 32 (by omega) s M hM d d d (by omega) (by omega) (by omega) (by omega)
      rw [dt_bmd] at c
      have p' : (32 : Int) ^ (d + 1) ≤ 32 ^ 6 := bz_pow (by omega)
      omega
  have w0 : dt_d d M ≠ 0 := by
    cases d with
    | zero => show (1 : Int) ≠ 0; decide
    | succ d => exact nz (d + 1) (by omega) (Nat.le_refl _)
  rw [bz_mul, bz_mul]
  exact mt_q w0 (dt_bar d i j M di dj nz) (bz _ _ b1 b2) (bz _ _ b3 b4) b0
theorem bz_b {M : Nat → Nat → Int} {s d : Nat} (s7 : s ≤ 7) (hM : ∀ i, i < s → dt_sum (fun j => ((M i j).natAbs : Int)) s ≤ 32) (hd : d ≤ s) : (dt_d d M).natAbs < 2 ^ 61 := by
  cases d with
  | zero => show (1 : Int).natAbs < 2 ^ 61; decide
  | succ d =>
    have c := dt_bmB 32 (by omega) s M hM d d d (by omega) (by omega) (by omega) (by omega)
    rw [dt_bmd] at c
    have p' : (32 : Int) ^ (d + 1) ≤ 32 ^ 7 := bz_pow (by omega)
    have p7 : (32 : Int) ^ 7 = 34359738368 := by decide
    omega
/-- the table of the lines, without the last point -/
theorem bz_M (L : Nat) (A B : Nat → Nat) (s : Nat) : ∀ i, i < s → dt_sum (fun j => ((mt_L (fun k => L.testBit k) A B (mt_r0 s) 16 i j).natAbs : Int)) s ≤ 32 := fun i hi => mt_rs (fun k => L.testBit k) A B hi 16
theorem bz_FT {L : Nat} {A B : Nat → Nat} {s : Nat} (s8 : s ≤ 8) {tb : Nat → Int64} (h : bz_F L A B 16 tb) : bz_T (mt_L (fun k => L.testBit k) A B (mt_r0 s) 16) s 0 1 1 tb := bz_T0 (fun i j hi hj => by
  rw [h i j (by omega) (by omega), mt_Lr (fun k => L.testBit k) A B s8 16 i j hi hj])
end
section
/-! X: the small methods, spread, the count of groups -/
def cx_X (L : Nat) (A B : Nat → Nat) (en : Nat → Int32) : Prop := ∀ k, k < 16 → L.testBit k = true → en k = nI (bi_e (A k) (B k))
theorem cx_e8 {n L : Nat} {A B : Nat → Nat} (g : cx_G n L A B) {k : Nat} (hk : k < 16) (h : L.testBit k = true) : bi_e (A k) (B k) < 256 := by
  obtain ⟨h1, h2, _⟩ := g.2.2 k hk h
  have n8 := g.1.2
  exact Nat.or_lt_two_pow (n := 8) (Nat.pow_lt_pow_right (by omega) (by omega)) (Nat.pow_lt_pow_right (by omega) (by omega))
theorem sp_xB {A B : Nat → Nat} {us kp r : Nat} (hk : kp < 256) (hr : r < 256) : ∀ i, sp_x A B us kp i r < 256 := by
  intro i
  induction i with
  | zero => exact hr
  | succ i ih =>
    unfold sp_x
    split
    · rename_i q
      obtain ⟨q1, q2⟩ := (bi_ed0 _ _ _).mp q.1.2
      exact Nat.or_lt_two_pow (n := 8) ih (Nat.or_lt_two_pow (n := 8) (Nat.pow_lt_pow_right (by omega) (pv_lt (n := 8) hk q1)) (Nat.pow_lt_pow_right (by omega) (pv_lt (n := 8) hk q2)))
    · exact ih
theorem sp_itB {A B : Nat → Nat} {us kp r : Nat} (hk : kp < 256) (hr : r < 256) : ∀ i, gr_it (sp_x A B us kp 16) i r < 256 := by
  intro i
  induction i with
  | zero => exact hr
  | succ i ih => exact sp_xB hk ih 16
theorem sp_XB {A B : Nat → Nat} {us kp st : Nat} (hk : kp < 256) : sp_X A B us kp st < 256 := sp_itB hk (Nat.and_lt_two_pow (n := 8) st hk) 7
theorem sp_xP {A B : Nat → Nat} {us kp i r : Nat} (h : (us.testBit i = true ∧ bi_d (bi_e (A i) (B i)) kp = 0) ∧ bi_e (A i) (B i) &&& sp_x A B us kp i r ≠ 0) : sp_x A B us kp (i + 1) r = sp_x A B us kp i r ||| bi_e (A i) (B i) := by
  show (if _ then _ else _) = _
  rw [if_pos h]
theorem sp_xN {A B : Nat → Nat} {us kp i r : Nat} (h : ¬ ((us.testBit i = true ∧ bi_d (bi_e (A i) (B i)) kp = 0) ∧ bi_e (A i) (B i) &&& sp_x A B us kp i r ≠ 0)) : sp_x A B us kp (i + 1) r = sp_x A B us kp i r := by
  show (if _ then _ else _) = _
  rw [if_neg h]
theorem xl_lowest {post : Int32 → Prop} {s i : Nat} (hs : s < 2 ^ 31) (hi : i < 8) (h1 : s.testBit i = true) (h2 : ∀ j, j < i → ¬ s.testBit j = true) (k : post (nI i)) : wpX_lowest post (nI s) := by
  have a : ∀ f j, 8 < f + j → j ≤ i → wX_lowest_2 post (nI s) f (nI j) := by
    intro f
    induction f with
    | zero => intro j h h'; omega
    | succ f ih =>
      intro j h h'
      rw [wX_lowest_2]
      refine br_f (nI_ge (b := 8) (by omega) (by omega)) ?_
      by_cases e : j = i
      · subst e
        exact br_t ((bi_b1 hs (by omega)).mpr h1) k
      · exact br_f (fun q => h2 j (by omega) ((bi_b1 hs (by omega)).mp q)) (nm_r (nI_1 j) (ih (j + 1) (by omega) (by omega)))
  exact ⟨9, a 9 0 (by omega) (by omega)⟩
theorem xl_engine {post : Int32 → Prop} {x : Int32} (h1 : x = 0 ∨ x = 1 ∨ x = 2 → post 1) (h0 : ¬ (x = 0 ∨ x = 1 ∨ x = 2) → post 0) : wpX_isEngine post x := by
  by_cases a : x = 0
  · exact br_t a (h1 (Or.inl a))
  · by_cases b : x = 1
    · exact br_f a (br_t b (h1 (Or.inr (Or.inl b))))
    · by_cases c : x = 2
      · exact br_f a (br_f b (br_t c (h1 (Or.inr (Or.inr c)))))
      · exact br_f a (br_f b (br_f c (h0 (fun q => q.elim a (fun q => q.elim b c)))))
theorem xl_bits {post : Int32 → Prop} {s : Nat} (hs : s < 2 ^ 31) (k : post (nI (pv_o s))) : wpX_countBits post (nI s) := by
  have a : ∀ f i, 16 < f + i → i ≤ 16 → wX_countBits_4 post (nI s) f (nI (pv_c (fun k => s.testBit k = true) i)) (nI i) := by
    intro f
    induction f with
    | zero => intro i h h'; omega
    | succ f ih =>
      intro i h h'
      rw [wX_countBits_4]
      by_cases e : i = 16
      · subst e
        exact br_t (nI_le (b := 16) (by omega) (by omega)) k
      · refine br_f (nI_ge (b := 16) (by omega) (by omega)) (nm_r (e' := nI (pv_c (fun k => s.testBit k = true) (i + 1))) ?_ (nm_r (nI_1 i) (ih (i + 1) (by omega) (by omega))))
        rw [bi_bit hs (by omega)]
        by_cases c : s.testBit i = true
        · rw [if_pos c, pv_cP (P := fun k => s.testBit k = true) c]
          exact nI_1 _
        · rw [if_neg c, pv_cN (P := fun k => s.testBit k = true) c]
          exact Int32.add_zero _
  exact ⟨17, a 17 0 (by omega) (by omega)⟩
section
variable {n L : Nat} {A B : Nat → Nat} {vm vr vb vh : Int32} {en od lw fr cy nx rt : Nat → Int32} {tb : Nat → Int64}
theorem xl_lineN {post : Int32 → Prop} {j : Nat} (hL : L < 65536) (hj : j < 16) (h1 : L.testBit j = true → post 1) (h0 : ¬ L.testBit j = true → post 0) : wpX_isLine post (nI n, nI L, vm, vr, vb, vh, en, od, lw, fr, cy, nx, rt, tb) (nI j) :=
  br_f (nI_pos (by omega)) (br_f (nI_ge (b := 16) hj (by omega)) (ek_if (bi_b1 (by omega) (by omega)) h1 h0))
theorem xl_line {post : Int32 → Prop} {x : Int32} (hL : L < 65536) (h1 : ∀ j, j < 16 → x = nI j → L.testBit j = true → post 1) (h0 : (∀ j, j < 16 → x = nI j → ¬ L.testBit j = true) → post 0) : wpX_isLine post (nI n, nI L, vm, vr, vb, vh, en, od, lw, fr, cy, nx, rt, tb) x := by
  rcases pk_ix x (n := 16) (by omega) with h | h | ⟨j, hj, rfl⟩
  · exact br_t h (h0 (fun j hj e => absurd h (by rw [e]; exact nI_pos (by omega))))
  · have q : ¬ x < 0 := by
      intro q
      have : (nI 16) < 0 := Int32.lt_of_le_of_lt h q
      exact absurd this (by decide)
    exact br_f q (br_t h (h0 (fun j hj e => absurd h (by rw [e]; exact nI_ge hj (by omega)))))
  · exact xl_lineN hL hj (h1 j hj rfl) (fun w => h0 (fun i hi e => by rw [← (nI_eq (by omega) (by omega)).mp e]; exact w))
theorem xl_point {post : Int32 → Prop} {x : Int32} (hn : n ≤ 8) (h1 : ∀ j, j < n → x = nI j → post 1) (h0 : (∀ j, j < n → ¬ x = nI j) → post 0) : wpX_isPoint post (nI n, nI L, vm, vr, vb, vh, en, od, lw, fr, cy, nx, rt, tb) x := by
  rcases pk_ix x (n := n) (by omega) with h | h | ⟨j, hj, rfl⟩
  · exact br_t h (h0 (fun j hj e => absurd h (by rw [e]; exact nI_pos (by omega))))
  · by_cases q : x < 0
    · exact br_t q (h0 (fun j hj e => absurd q (by rw [e]; exact nI_pos (by omega))))
    · exact br_f q (br_t h (h0 (fun j hj e => absurd h (by rw [e]; exact nI_ge hj (by omega)))))
  · exact br_f (nI_pos (by omega)) (br_f (nI_ge hj (by omega)) (h1 j hj rfl))
theorem xl_all {post : Int32 → Prop} (hn : n ≤ 8) (k : post (nI (2 ^ n - 1))) : wpX_allPoints post (nI n, nI L, vm, vr, vb, vh, en, od, lw, fr, cy, nx, rt, tb) := by
  show post (((1 : Int32) <<< (nI n &&& 31)) - 1)
  rw [bi_all (by omega)]
  exact k
theorem xs_18 {post : Int32 → Prop} {J8 : Int32 → Int32 → Prop} (g : cx_G n L A B) (hX : cx_X L A B en) {us kp : Nat} {x5 : Int32} (hu : ∀ k, k < 16 → us.testBit k = true → L.testBit k = true) (u16 : us < 65536) (k8 : kp < 256) {r : Nat} (r8 : r < 256) (k : J8 (nI (sp_x A B us kp 16 r)) (x5 + 1)) : ∀ f i, 16 < f + i → i ≤ 16 → wX_spread_18 post J8 (nI kp) (nI us) x5 (nI n) (nI L) vm vr vb vh en od lw fr cy nx rt tb f (nI (sp_x A B us kp i r)) (nI i) := by
  intro f
  induction f with
  | zero => intro i h h'; omega
  | succ f ih =>
    intro i h h'
    rw [wX_spread_18]
    by_cases e : i = 16
    · subst e
      exact br_t (nI_le (b := 16) (by omega) (by omega)) (nm_e k)
    · have i16 : i < 16 := by omega
      have c : (nI i).toNatClampNeg = i := nI_clamp (by omega)
      have v : vp_in (nI i) 16 := vp_in_nI i16 (by omega)
      have sb := sp_xB (A := A) (B := B) (us := us) k8 r8 i
      have nxt : ∀ s, sp_x A B us kp (i + 1) r = s → wX_spread_18 post J8 (nI kp) (nI us) x5 (nI n) (nI L) vm vr vb vh en od lw fr cy nx rt tb f (nI s) (nI (i + 1)) := by
        intro s es
        rw [← es]
        exact ih (i + 1) (by omega) (by omega)
      refine br_f (nI_ge (b := 16) (by omega) (by omega)) (ek_if (bi_b1 (by omega) (by omega)) (fun u => ?_) (fun u => ?_))
      · have ei := hX i i16 (hu i i16 u)
        have e8 := cx_e8 g i16 (hu i i16 u)
        refine ⟨v, ek_if (d := bi_d (bi_e (A i) (B i)) kp = 0) (by rw [c, ei, bi_not, bi_z (Nat.lt_trans (bi_dlt (n := 8) e8) (by omega))]) (fun q => ?_) (fun q => ?_)⟩
        · refine br_f (by decide) ⟨v, ek_if (d := bi_e (A i) (B i) &&& sp_x A B us kp i r = 0) (by rw [c, ei, nx_and, bi_z (Nat.lt_trans (Nat.and_lt_two_pow (n := 8) _ sb) (by omega))]) (fun w => ?_) (fun w => ?_)⟩
          · exact nm_r (nI_1 i) (nxt _ (sp_xN (fun z => z.2 w)))
          · exact ⟨v, nm_r (by rw [c, ei, bi_or]) (nm_r (nI_1 i) (nxt _ (sp_xP ⟨⟨u, q⟩, w⟩)))⟩
        · exact br_t rfl (nm_r (nI_1 i) (nxt _ (sp_xN (fun z => q z.1.2))))
      · exact br_t rfl (nm_r (nI_1 i) (nxt _ (sp_xN (fun z => u z.1.1))))
theorem xl_spread {post : Int32 → Prop} (g : cx_G n L A B) (hX : cx_X L A B en) {st kp us : Nat} (hu : ∀ k, k < 16 → us.testBit k = true → L.testBit k = true) (u16 : us < 65536) (k8 : kp < 256) (k : post (nI (sp_X A B us kp st))) : wpX_spread post (nI n, nI L, vm, vr, vb, vh, en, od, lw, fr, cy, nx, rt, tb) (nI st) (nI kp) (nI us) := by
  have r8 : st &&& kp < 256 := Nat.and_lt_two_pow (n := 8) st k8
  have a : ∀ f i, 7 < f + i → i ≤ 7 → wX_spread_8 post (nI kp) (nI us) (nI n) (nI L) vm vr vb vh en od lw fr cy nx rt tb f (nI (gr_it (sp_x A B us kp 16) i (st &&& kp))) (nI (i + 1)) := by
    intro f
    induction f with
    | zero => intro i h h'; omega
    | succ f ih =>
      intro i h h'
      rw [wX_spread_8]
      by_cases e : i = 7
      · subst e
        exact br_t (nI_le (a := 8) (b := 8) (by omega) (by omega)) k
      · refine br_f (nI_ge (a := i + 1) (b := 8) (by omega) (by omega)) ⟨17, xs_18 g hX hu u16 k8 (sp_itB k8 r8 i) ?_ 17 0 (by omega) (by omega)⟩
        rw [nI_1 (i + 1)]
        exact ih (i + 1) (by omega) (by omega)
  exact nm_r (nx_and st kp) ⟨8, a 8 0 (by omega) (by omega)⟩
theorem gc_P {cl : Nat → Nat} {kp p : Nat} (h : (gc_s cl kp p).1.testBit p = true) : gc_s cl kp (p + 1) = (bi_d (gc_s cl kp p).1 (cl p), (gc_s cl kp p).2 + 1) := by
  show (if _ then _ else _) = _
  rw [if_pos h]
theorem gc_N {cl : Nat → Nat} {kp p : Nat} (h : ¬ (gc_s cl kp p).1.testBit p = true) : gc_s cl kp (p + 1) = gc_s cl kp p := by
  show (if _ then _ else _) = _
  rw [if_neg h]
theorem gc_B {cl : Nat → Nat} {kp : Nat} (h : kp < 256) : ∀ p, (gc_s cl kp p).1 < 256 := by
  intro p
  induction p with
  | zero => exact h
  | succ p ih =>
    by_cases c : (gc_s cl kp p).1.testBit p = true
    · rw [gc_P c]; exact bi_dlt (n := 8) ih
    · rw [gc_N c]; exact ih
theorem xl_count {post : Int32 → Prop} (g : cx_G n L A B) (hX : cx_X L A B en) {kp us : Nat} (hu : ∀ k, k < 16 → us.testBit k = true → L.testBit k = true) (u16 : us < 65536) (k8 : kp < 256) (k : post (nI (pv_g A B us kp))) : wpX_countGroups post (nI n, nI L, vm, vr, vb, vh, en, od, lw, fr, cy, nx, rt, tb) (nI kp) (nI us) := by
  have a : ∀ f p, 8 < f + p → p ≤ 8 → wX_countGroups_8 post (nI kp) (nI us) (nI n) (nI L) vm vr vb vh en od lw fr cy nx rt tb f (nI (gc_s (fun p => sp_X A B us kp (2 ^ p)) kp p).2) (nI (gc_s (fun p => sp_X A B us kp (2 ^ p)) kp p).1) (nI p) := by
    intro f
    induction f with
    | zero => intro p h h'; omega
    | succ f ih =>
      intro p h h'
      rw [wX_countGroups_8]
      by_cases e : p = 8
      · subst e
        exact br_t (nI_le (b := 8) (by omega) (by omega)) k
      · have b8 := gc_B (cl := fun p => sp_X A B us kp (2 ^ p)) k8 p
        refine br_f (nI_ge (b := 8) (by omega) (by omega)) (ek_if (bi_b1 (by omega) (by omega)) (fun u => ?_) (fun u => ?_))
        · rw [bi_1 (by omega)]
          refine xl_spread g hX hu u16 k8 (nm_r (bi_not _ _) (nm_r (nI_1 _) (nm_r (nI_1 p) ?_)))
          have := ih (p + 1) (by omega) (by omega)
          rw [gc_P u] at this
          exact this
        · refine nm_r (nI_1 p) ?_
          have := ih (p + 1) (by omega) (by omega)
          rw [gc_N u] at this
          exact this
  exact ⟨9, a 9 0 (by omega) (by omega)⟩
theorem cx_dL {L k : Nat} : ∀ j, j < 16 → (bi_d L (2 ^ k)).testBit j = true → L.testBit j = true := fun j _ h => ((pv_dT _ _ _).mp h).1
theorem xl_flB {post : Int32 → Prop} (g : cx_G n L A B) (hX : cx_X L A B en) (k : post (nI (pv_b A B n L))) : wpX_floodBridges post (nI n, nI L, vm, vr, vb, vh, en, od, lw, fr, cy, nx, rt, tb) := by
  have a8 := pv_a8 g.1.2
  have L16 := g.2.1
  unfold wpX_floodBridges
  dsimp only
  refine xl_all g.1.2 ?_
  refine xl_count g hX (fun _ _ h => h) L16 a8 ?_
  refine ⟨17, ?_⟩
  have a : ∀ f i, 16 < f + i → i ≤ 16 → wX_floodBridges_20 post (nI (2 ^ n - 1)) (nI (pv_g A B L (2 ^ n - 1))) (nI n) (nI L) vm vr vb vh en od lw fr cy nx rt tb f (nI (pv_m (fun k => L.testBit k = true ∧ pv_g A B L (2 ^ n - 1) < pv_g A B (bi_d L (2 ^ k)) (2 ^ n - 1)) i)) (nI i) := by
    intro f
    induction f with
    | zero => intro i h h'; omega
    | succ f ih =>
      intro i h h'
      rw [wX_floodBridges_20]
      by_cases e : i = 16
      · subst e
        exact br_t (nI_le (b := 16) (by omega) (by omega)) k
      · have nxt := ih (i + 1) (by omega) (by omega)
        refine br_f (nI_ge (b := 16) (by omega) (by omega)) (xl_lineN L16 (by omega) (fun u => br_f (by decide) ?_) (fun u => br_t rfl (nm_r (nI_1 i) ?_)))
        · rw [bi_1 (by omega), bi_not]
          have g1 := pv_g8 A B (us := L) a8
          have g2 := pv_g8 A B (us := bi_d L (2 ^ i)) a8
          refine xl_count g hX cx_dL (bi_dlt (n := 16) L16) a8 (pk_le (pv_g A B (bi_d L (2 ^ i)) (2 ^ n - 1)) (pv_g A B L (2 ^ n - 1)) (fun w => nm_r (nI_1 i) ?_) (fun w => ?_))
          · rw [pv_mN (P := (fun k => L.testBit k = true ∧ pv_g A B L (2 ^ n - 1) < pv_g A B (bi_d L (2 ^ k)) (2 ^ n - 1))) (n := i) (fun z => absurd z.2 (Nat.not_lt.mpr w))] at nxt
            exact nxt
          · rw [pv_mP (P := (fun k => L.testBit k = true ∧ pv_g A B L (2 ^ n - 1) < pv_g A B (bi_d L (2 ^ k)) (2 ^ n - 1))) ⟨u, w⟩] at nxt
            exact nm_r (by first | rw [bi_1 (by omega), bi_or] | rw [bi_or]) (nm_r (nI_1 i) nxt)
        · rw [pv_mN (P := (fun k => L.testBit k = true ∧ pv_g A B L (2 ^ n - 1) < pv_g A B (bi_d L (2 ^ k)) (2 ^ n - 1))) (n := i) (fun z => u z.1)] at nxt
          exact nxt
  exact a 17 0 (by omega) (by omega)
theorem xl_flH {post : Int32 → Prop} (g : cx_G n L A B) (hX : cx_X L A B en) (k : post (nI (pv_h A B n L))) : wpX_floodHinges post (nI n, nI L, vm, vr, vb, vh, en, od, lw, fr, cy, nx, rt, tb) := by
  have a8 := pv_a8 g.1.2
  have n8 := g.1.2
  have L16 := g.2.1
  unfold wpX_floodHinges
  dsimp only
  refine xl_all g.1.2 ?_
  refine xl_count g hX (fun _ _ h => h) L16 a8 ?_
  refine ⟨n + 1, ?_⟩
  have a : ∀ f i, n < f + i → i ≤ n → wX_floodHinges_20 post (nI (2 ^ n - 1)) (nI (pv_g A B L (2 ^ n - 1))) (nI n) (nI L) vm vr vb vh en od lw fr cy nx rt tb f (nI (pv_m (fun p => pv_g A B L (2 ^ n - 1) < pv_g A B L (bi_d (2 ^ n - 1) (2 ^ p))) i)) (nI i) := by
    intro f
    induction f with
    | zero => intro i h h'; omega
    | succ f ih =>
      intro i h h'
      rw [wX_floodHinges_20]
      by_cases e : i = n
      · subst e
        exact br_t (nI_le (by omega) (by omega)) k
      · have nxt := ih (i + 1) (by omega) (by omega)
        refine br_f (nI_ge (by omega) (by omega)) ?_
        rw [bi_1 (by omega), bi_not]
        have g1 := pv_g8 A B (us := L) a8
        have b8 : bi_d (2 ^ n - 1) (2 ^ i) < 256 := bi_dlt (n := 8) a8
        have g2 := pv_g8 A B (us := L) b8
        refine xl_count g hX (fun _ _ h => h) L16 b8 (pk_le (pv_g A B L (bi_d (2 ^ n - 1) (2 ^ i))) (pv_g A B L (2 ^ n - 1)) (fun w => nm_r (nI_1 i) ?_) (fun w => ?_))
        · rw [pv_mN (P := (fun p => pv_g A B L (2 ^ n - 1) < pv_g A B L (bi_d (2 ^ n - 1) (2 ^ p)))) (n := i) (Nat.not_lt.mpr w)] at nxt
          exact nxt
        · rw [pv_mP (P := fun p => pv_g A B L (2 ^ n - 1) < pv_g A B L (bi_d (2 ^ n - 1) (2 ^ p))) w] at nxt
          exact nm_r (by first | rw [bi_1 (by omega), bi_or] | rw [bi_or]) (nm_r (nI_1 i) nxt)
  exact a (n + 1) 0 (by omega) (by omega)
end
end
section
/-! X: the engine of cuts -/
/-- the partition of labels below its bound -/
theorem xl_ptL {R : Nat → Nat → Prop} (E : gr_E R) {n : Nat} (n8 : n ≤ 8) (p : Nat) (h : p ≤ n) : pv_pt (pv_lb R) p < 16 ^ p := pv_ptL (m := n) (fun q hq => by have := pv_lbP E q; omega) p h
section
variable {n L : Nat} {A B : Nat → Nat} {vm vr vb vh : Int32} {en od lw fr cy nx rt : Nat → Int32} {tb : Nat → Int64}
theorem xl_cross {post : Int32 → Prop} (g : cx_G n L A B) (hX : cx_X L A B en) {s kp : Nat} (s8 : s < 256) (k8 : kp < 256) (k : post (nI (pv_x A B L s kp))) : wpX_crossing post (nI n, nI L, vm, vr, vb, vh, en, od, lw, fr, cy, nx, rt, tb) (nI s) (nI kp) := by
  have L16 := g.2.1
  have a : ∀ f i, 16 < f + i → i ≤ 16 → wX_crossing_5 post (nI s) (nI kp) (nI n) (nI L) vm vr vb vh en od lw fr cy nx rt tb f (nI (pv_m (fun k => (L.testBit k = true ∧ bi_d (bi_e (A k) (B k)) kp = 0) ∧ bi_e (A k) (B k) &&& s ≠ 0 ∧ bi_d (bi_e (A k) (B k)) s ≠ 0) i)) (nI i) := by
    intro f
    induction f with
    | zero => intro i h h'; omega
    | succ f ih =>
      intro i h h'
      rw [wX_crossing_5]
      by_cases e : i = 16
      · subst e
        exact br_t (nI_le (b := 16) (by omega) (by omega)) k
      · have i16 : i < 16 := by omega
        have c : (nI i).toNatClampNeg = i := nI_clamp (by omega)
        have v : vp_in (nI i) 16 := vp_in_nI i16 (by omega)
        have no : ¬ ((L.testBit i = true ∧ bi_d (bi_e (A i) (B i)) kp = 0) ∧ bi_e (A i) (B i) &&& s ≠ 0 ∧ bi_d (bi_e (A i) (B i)) s ≠ 0) → wX_crossing_5 post (nI s) (nI kp) (nI n) (nI L) vm vr vb vh en od lw fr cy nx rt tb f (nI (pv_m (fun k => (L.testBit k = true ∧ bi_d (bi_e (A k) (B k)) kp = 0) ∧ bi_e (A k) (B k) &&& s ≠ 0 ∧ bi_d (bi_e (A k) (B k)) s ≠ 0) i)) (nI (i + 1)) := by
          intro w
          have nxt := ih (i + 1) (by omega) (by omega)
          rw [pv_mN (P := fun k => (L.testBit k = true ∧ bi_d (bi_e (A k) (B k)) kp = 0) ∧ bi_e (A k) (B k) &&& s ≠ 0 ∧ bi_d (bi_e (A k) (B k)) s ≠ 0) (n := i) w] at nxt
          exact nxt
        refine br_f (nI_ge (b := 16) (by omega) (by omega)) (ek_if (bi_b1 (by omega) (by omega)) (fun u => ?_) (fun u => ?_))
        · have ei := hX i i16 u
          have e8 := cx_e8 g i16 u
          refine ⟨v, ek_if (d := bi_d (bi_e (A i) (B i)) kp = 0) (by rw [c, ei, bi_not, bi_z (Nat.lt_trans (bi_dlt (n := 8) e8) (by omega))]) (fun q => ?_) (fun q => ?_)⟩
          · refine br_f (by decide) ⟨v, ek_if (d := bi_e (A i) (B i) &&& s = 0) (by rw [c, ei, nx_and, bi_z (Nat.lt_trans (Nat.and_lt_two_pow (n := 8) _ s8) (by omega))]) (fun w => ?_) (fun w => ⟨v, ek_if (d := bi_d (bi_e (A i) (B i)) s = 0) (by rw [c, ei, bi_not, bi_z (Nat.lt_trans (bi_dlt (n := 8) e8) (by omega))]) (fun z => ?_) (fun z => ?_)⟩)⟩
            · exact nm_r (nI_1 i) (no (fun z => z.2.1 w))
            · exact nm_r (nI_1 i) (no (fun y => y.2.2 z))
            · have nxt := ih (i + 1) (by omega) (by omega)
              rw [pv_mP (P := fun k => (L.testBit k = true ∧ bi_d (bi_e (A k) (B k)) kp = 0) ∧ bi_e (A k) (B k) &&& s ≠ 0 ∧ bi_d (bi_e (A k) (B k)) s ≠ 0) (n := i) ⟨⟨u, q⟩, w, z⟩] at nxt
              exact nm_r (by first | rw [bi_1 (by omega), bi_or] | rw [bi_or]) (nm_r (nI_1 i) nxt)
          · exact br_t rfl (nm_r (nI_1 i) (no (fun z => q z.1.2)))
        · exact br_t rfl (nm_r (nI_1 i) (no (fun z => u z.1.1)))
  exact ⟨17, a 17 0 (by omega) (by omega)⟩
theorem xl_least {post : Int32 → Prop} (g : cx_G n L A B) (hX : cx_X L A B en) {p all : Nat} (p8 : p < 8) (a8 : all < 256) (k : post (nI (pv_lc A B L p all 256))) : wpX_leastClosed post (nI n, nI L, vm, vr, vb, vh, en, od, lw, fr, cy, nx, rt, tb) (nI p) (nI all) := by
  have a : ∀ f i, 256 < f + i → i ≤ 256 → wX_leastClosed_5 post (nI p) (nI all) (nI n) (nI L) vm vr vb vh en od lw fr cy nx rt tb f (nI (pv_lc A B L p all i)) (nI i) := by
    intro f
    induction f with
    | zero => intro i h h'; omega
    | succ f ih =>
      intro i h h'
      rw [wX_leastClosed_5]
      by_cases e : i = 256
      · subst e
        exact br_t (nI_le (b := 256) (by omega) (by omega)) k
      · have i8 : i < 256 := by omega
        have no : ¬ ((i.testBit p = true ∧ bi_d i all = 0) ∧ pv_x A B L i all = 0) → wX_leastClosed_5 post (nI p) (nI all) (nI n) (nI L) vm vr vb vh en od lw fr cy nx rt tb f (nI (pv_lc A B L p all i)) (nI (i + 1)) := by
          intro w
          have nxt := ih (i + 1) (by omega) (by omega)
          rw [pv_lcN A B w] at nxt
          exact nxt
        refine br_f (nI_ge (b := 256) (by omega) (by omega)) (ek_if (bi_b1 (by omega) (by omega)) (fun u => ?_) (fun u => ?_))
        · refine ek_if (d := bi_d i all = 0) (by rw [bi_not, bi_z (Nat.lt_trans (bi_dlt (n := 8) i8) (by omega))]) (fun q => ?_) (fun q => ?_)
          · have xl := pv_xL A B L i all
            refine br_f (by decide) (xl_cross g hX i8 a8 (ek_if (bi_z (by omega)) (fun w => ?_) (fun w => ?_)))
            · have nxt := ih (i + 1) (by omega) (by omega)
              rw [pv_lcP A B ⟨⟨u, q⟩, w⟩] at nxt
              exact nm_r (nx_and _ _) (nm_r (nI_1 i) nxt)
            · exact nm_r (nI_1 i) (no (fun z => w z.2))
          · exact br_t rfl (nm_r (nI_1 i) (no (fun z => q z.1.2)))
        · exact br_t rfl (nm_r (nI_1 i) (no (fun z => u z.1.1)))
  exact ⟨257, a 257 0 (by omega) (by omega)⟩
/-- the lowest point of a group is its label -/
theorem xl_low {post : Int32 → Prop} (g : cx_G n L A B) {p : Nat} (hp : p < n) (k : post (nI (pv_lb (gr_R A B (fun k => k < 16 ∧ L.testBit k = true) (fun x => x < n)) p))) : wpX_lowest post (nI (sp_X A B L (2 ^ n - 1) (2 ^ p))) := by
  have a8 := pv_a8 g.1.2
  have n8 := g.1.2
  have E := gr_RE A B (fun k => k < 16 ∧ L.testBit k = true) (fun x => x < n)
  have t : ∀ x, (sp_X A B L (2 ^ n - 1) (2 ^ p)).testBit x = true ↔ gr_R A B (fun k => k < 16 ∧ L.testBit k = true) (fun x => x < n) p x := by
    intro x
    rw [pv_sp A B a8 ((pv_all n p).mpr hp), pv_qn]
  obtain ⟨l1, l2⟩ := pv_lbT E p
  have l3 := pv_lbP E p
  have b := sp_XB (A := A) (B := B) (us := L) (st := 2 ^ p) a8
  exact xl_lowest (by omega) (by omega) ((t _).mpr (E.2.1 _ _ l1)) (fun j hj w => l2 j hj (E.2.1 _ _ ((t j).mp w))) k
theorem xl_label {post : Int32 → Prop} (g : cx_G n L A B) (hX : cx_X L A B en) {x : Int32} {p : Nat} (hp : p < n) (hx : x = 0 ∨ x = 1 ∨ x = 2) (hr : x = 1 → rt p = nI (pv_lb (gr_R A B (fun k => k < 16 ∧ L.testBit k = true) (fun x => x < n)) p)) (k : post (nI (pv_lb (gr_R A B (fun k => k < 16 ∧ L.testBit k = true) (fun x => x < n)) p))) : wpX_leastOfGroup post (nI n, nI L, vm, vr, vb, vh, en, od, lw, fr, cy, nx, rt, tb) x (nI p) := by
  have a8 := pv_a8 g.1.2
  have n8 := g.1.2
  have c : (nI p).toNatClampNeg = p := nI_clamp (by omega)
  unfold wpX_leastOfGroup
  dsimp only
  by_cases e : x = 1
  · refine br_t e ⟨vp_in_nI (by omega) (by omega), ?_⟩
    rw [c, hr e]
    exact k
  · refine br_f e ?_
    refine xl_all n8 ?_
    by_cases e0 : x = 0
    · refine br_t e0 ?_
      rw [bi_1 (by omega)]
      exact xl_spread g hX (fun _ _ h => h) g.2.1 a8 (xl_low g hp k)
    · refine br_f e0 (xl_least g hX (by omega) a8 ?_)
      rw [pv_lcR A B a8 ((pv_all n p).mpr hp)]
      exact xl_low g hp k
theorem xl_sh {m p : Nat} (hp : p < 8) (hm : m < 16) : (nI m).toInt64 <<< ((nI p * 4).toInt64 &&& 63) = lN (m * 16 ^ p) := by
  have e : nI p * 4 = nI (p * 4) := pk_mul p 4
  rw [e, nI_l (by omega), wb_shl m (k := p * 4) (by omega), Nat.pow_mul']
/-- the partition, once rootOf is right -/
theorem xl_part0 {post : Int64 → SX → Prop} (g : cx_G n L A B) (hX : cx_X L A B en) {x : Int32} (hx : x = 0 ∨ x = 1 ∨ x = 2) (hr : x = 1 → ∀ p, p < n → rt p = nI (pv_lb (gr_R A B (fun k => k < 16 ∧ L.testBit k = true) (fun x => x < n)) p)) (k : post (lN (pv_pt (pv_lb (gr_R A B (fun k => k < 16 ∧ L.testBit k = true) (fun x => x < n))) n)) (nI n, nI L, vm, vr, vb, vh, en, od, lw, fr, cy, nx, rt, tb)) : ∃ f, wX_partitionBy_14 post x (nI n) (nI L) vm vr vb vh en od lw fr cy nx rt tb f 0 0 := by
  have n8 := g.1.2
  have E := gr_RE A B (fun k => k < 16 ∧ L.testBit k = true) (fun x => x < n)
  have a : ∀ f p, n < f + p → p ≤ n → wX_partitionBy_14 post x (nI n) (nI L) vm vr vb vh en od lw fr cy nx rt tb f (lN (pv_pt (pv_lb (gr_R A B (fun k => k < 16 ∧ L.testBit k = true) (fun x => x < n))) p)) (nI p) := by
    intro f
    induction f with
    | zero => intro p h h'; omega
    | succ f ih =>
      intro p h h'
      rw [wX_partitionBy_14]
      by_cases e : p = n
      · subst e
        exact br_t (nI_le (by omega) (by omega)) k
      · have pn : p < n := by omega
        have l3 := pv_lbP E p
        refine br_f (nI_ge (by omega) (by omega)) (xl_label g hX pn hx (fun w => hr w p pn) (nm_r (e' := lN (pv_pt (pv_lb (gr_R A B (fun k => k < 16 ∧ L.testBit k = true) (fun x => x < n))) (p + 1))) ?_ (nm_r (nI_1 p) (ih (p + 1) (by omega) (by omega)))))
        rw [xl_sh (by omega) (by omega)]
        have lt : pv_pt (pv_lb (gr_R A B (fun k => k < 16 ∧ L.testBit k = true) (fun x => x < n))) p < 16 ^ p := xl_ptL E n8 p (by omega)
        have p16 : (2 : Nat) ^ (p * 4) = 16 ^ p := Nat.pow_mul' 2 p 4
        have le : pv_lb (gr_R A B (fun k => k < 16 ∧ L.testBit k = true) (fun x => x < n)) p * 16 ^ p ≤ 15 * 16 ^ p := Nat.mul_le_mul_right _ (by omega)
        have le2 : 16 ^ p ≤ 16 ^ 8 := Nat.pow_le_pow_right (by omega) (by omega)
        exact g_or' p16 lt (by omega)
  exact ⟨n + 1, a (n + 1) 0 (by omega) (by omega)⟩
theorem xl_cutB {post : Int32 → Prop} (g : cx_G n L A B) (hX : cx_X L A B en) (k : post (nI (pv_b A B n L))) : wpX_cutBridges post (nI n, nI L, vm, vr, vb, vh, en, od, lw, fr, cy, nx, rt, tb) := by
  have a8 := pv_a8 g.1.2
  unfold wpX_cutBridges
  dsimp only
  refine xl_all g.1.2 ?_
  refine ⟨257, ?_⟩
  have a : ∀ f i, 256 < f + i → i ≤ 256 → wX_cutBridges_9 post (nI (2 ^ n - 1)) (nI n) (nI L) vm vr vb vh en od lw fr cy nx rt tb f (nI (pv_cb A B L (2 ^ n - 1) i)) (nI i) := by
    intro f
    induction f with
    | zero => intro i h h'; omega
    | succ f ih =>
      intro i h h'
      rw [wX_cutBridges_9]
      by_cases e : i = 256
      · subst e
        refine br_t (nI_le (b := 256) (by omega) (by omega)) ?_
        rw [pv_cbR g]
        exact k
      · have i8 : i < 256 := by omega
        have nxt := ih (i + 1) (by omega) (by omega)
        refine br_f (nI_ge (b := 256) (by omega) (by omega)) (ek_if (d := bi_d i (2 ^ n - 1) = 0) (by rw [bi_not, bi_z (Nat.lt_trans (bi_dlt (n := 8) i8) (by omega))]) (fun q => ?_) (fun q => ?_))
        · have xl := pv_xL A B L i (2 ^ n - 1)
          have o16 : pv_o (pv_x A B L i (2 ^ n - 1)) ≤ 16 := pv_cn _ 16
          refine xl_cross g hX i8 a8 (xl_bits (by omega) (pk_eq (pv_o (pv_x A B L i (2 ^ n - 1))) 1 (fun w => ?_) (fun w => nm_r (nI_1 i) ?_)))
          · rw [pv_cbP A B ⟨q, w⟩] at nxt
            exact nm_r (bi_or _ _) (nm_r (nI_1 i) nxt)
          · rw [pv_cbN A B (fun z => w z.2)] at nxt
            exact nxt
        · rw [pv_cbN A B (fun z => q z.1)] at nxt
          exact nm_r (nI_1 i) nxt
  exact a 257 0 (by omega) (by omega)
theorem xl_closed {post : Int32 → Prop} (g : cx_G n L A B) (hX : cx_X L A B en) {kp : Nat} (k8 : kp < 256) (k : post (nI (pv_cs A B L kp))) : wpX_closedSets post (nI n, nI L, vm, vr, vb, vh, en, od, lw, fr, cy, nx, rt, tb) (nI kp) := by
  have a : ∀ f i, 256 < f + i → i ≤ 256 → wX_closedSets_4 post (nI kp) (nI n) (nI L) vm vr vb vh en od lw fr cy nx rt tb f (nI (pv_c (fun s => bi_d s kp = 0 ∧ pv_x A B L s kp = 0) i)) (nI i) := by
    intro f
    induction f with
    | zero => intro i h h'; omega
    | succ f ih =>
      intro i h h'
      rw [wX_closedSets_4]
      by_cases e : i = 256
      · subst e
        exact br_t (nI_le (b := 256) (by omega) (by omega)) k
      · have i8 : i < 256 := by omega
        have nxt := ih (i + 1) (by omega) (by omega)
        refine br_f (nI_ge (b := 256) (by omega) (by omega)) (ek_if (d := bi_d i kp = 0) (by rw [bi_not, bi_z (Nat.lt_trans (bi_dlt (n := 8) i8) (by omega))]) (fun q => ?_) (fun q => ?_))
        · have xl := pv_xL A B L i kp
          refine xl_cross g hX i8 k8 (ek_if (bi_z (by omega)) (fun w => ?_) (fun w => nm_r (nI_1 i) ?_))
          · rw [pv_cP (P := fun s => bi_d s kp = 0 ∧ pv_x A B L s kp = 0) (n := i) ⟨q, w⟩] at nxt
            exact nm_r (nI_1 _) (nm_r (nI_1 i) nxt)
          · rw [pv_cN (P := fun s => bi_d s kp = 0 ∧ pv_x A B L s kp = 0) (n := i) (fun z => w z.2)] at nxt
            exact nxt
        · rw [pv_cN (P := fun s => bi_d s kp = 0 ∧ pv_x A B L s kp = 0) (n := i) (fun z => q z.1)] at nxt
          exact nm_r (nI_1 i) nxt
  exact ⟨257, a 257 0 (by omega) (by omega)⟩
theorem xl_cutH {post : Int32 → Prop} (g : cx_G n L A B) (hX : cx_X L A B en) (k : post (nI (pv_h A B n L))) : wpX_cutHinges post (nI n, nI L, vm, vr, vb, vh, en, od, lw, fr, cy, nx, rt, tb) := by
  have a8 := pv_a8 g.1.2
  have n8 := g.1.2
  have c1 := pv_cs8 A B (L := L) (kp := 2 ^ n - 1)
  unfold wpX_cutHinges
  dsimp only
  refine xl_all g.1.2 ?_
  refine xl_closed g hX a8 ?_
  refine ⟨n + 1, ?_⟩
  have a : ∀ f i, n < f + i → i ≤ n → wX_cutHinges_16 post (nI (2 ^ n - 1)) (nI (pv_cs A B L (2 ^ n - 1))) (nI n) (nI L) vm vr vb vh en od lw fr cy nx rt tb f (nI (pv_m (fun p => pv_cs A B L (2 ^ n - 1) < pv_cs A B L (bi_d (2 ^ n - 1) (2 ^ p))) i)) (nI i) := by
    intro f
    induction f with
    | zero => intro i h h'; omega
    | succ f ih =>
      intro i h h'
      rw [wX_cutHinges_16]
      by_cases e : i = n
      · subst e
        refine br_t (nI_le (by omega) (by omega)) ?_
        rw [pv_chR g]
        exact k
      · have nxt := ih (i + 1) (by omega) (by omega)
        refine br_f (nI_ge (by omega) (by omega)) ?_
        rw [bi_1 (by omega), bi_not]
        have b8 : bi_d (2 ^ n - 1) (2 ^ i) < 256 := bi_dlt (n := 8) a8
        have c2 := pv_cs8 A B (L := L) (kp := bi_d (2 ^ n - 1) (2 ^ i))
        refine xl_closed g hX b8 (pk_le (pv_cs A B L (bi_d (2 ^ n - 1) (2 ^ i))) (pv_cs A B L (2 ^ n - 1)) (fun w => nm_r (nI_1 i) ?_) (fun w => ?_))
        · rw [pv_mN (P := fun p => pv_cs A B L (2 ^ n - 1) < pv_cs A B L (bi_d (2 ^ n - 1) (2 ^ p))) (n := i) (Nat.not_lt.mpr w)] at nxt
          exact nxt
        · rw [pv_mP (P := fun p => pv_cs A B L (2 ^ n - 1) < pv_cs A B L (bi_d (2 ^ n - 1) (2 ^ p))) (n := i) w] at nxt
          exact nm_r (by first | rw [bi_1 (by omega), bi_or] | rw [bi_or]) (nm_r (nI_1 i) nxt)
  exact a (n + 1) 0 (by omega) (by omega)
end
end
section
/-! X: the walk -/
/-- the arrays of the walk against naturals -/
def wr_R (m0 root : Nat) (ro0 o lo cf cb nl : Nat → Nat) (od lw fr cy nx rt : Nat → Int32) : Prop := ∀ p, p < 8 → od p = nI (o p) ∧ (m0 < o p → lw p = nI (lo p) ∧ fr p = nI (cf p) ∧ cy p = (if cb p < 16 then nI (cb p) else -1) ∧ nx p = nI (nl p) ∧ rt p = nI root) ∧ (o p ≠ 0 → o p ≤ m0 → rt p = nI (ro0 p))
theorem wr_Rlook {m0 root t v : Nat} {ro0 o lo cf cb nl : Nat → Nat} {od lw lw' fr cy nx rt : Nat → Int32} (R : wr_R m0 root ro0 o lo cf cb nl od lw fr cy nx rt) (h1 : lw' t = nI v) (h2 : ∀ p, p ≠ t → lw' p = lw p) : wr_R m0 root ro0 o (wk_u lo t v) cf cb (wk_u nl t (nl t + 1)) od lw' fr cy (upd nx t (nI (nl t + 1))) rt := by
  intro p p8
  obtain ⟨r1, r2, r3⟩ := R p p8
  refine ⟨r1, fun hp => ?_, r3⟩
  obtain ⟨s1, s2, s3, s4, s5⟩ := r2 hp
  by_cases e : p = t
  · rw [e] at s2 s3 s5 ⊢
    rw [wk_us, wk_us, pk_us]
    exact ⟨h1, s2, s3, rfl, s5⟩
  · rw [wk_un lo _ e, wk_un nl _ e, pk_un e, h2 p e]
    exact ⟨s1, s2, s3, s4, s5⟩
theorem wr_Rmeet {m0 root t z met : Nat} {ro0 o lo cf cb nl : Nat → Nat} {od lw fr cy nx rt : Nat → Int32} (R : wr_R m0 root ro0 o lo cf cb nl od lw fr cy nx rt) (hm : m0 ≤ met) (k16 : nl t < 16) : wr_R m0 root ro0 (wk_u o z (met + 1)) (wk_u lo z (met + 1)) (wk_u cf z t) (wk_u cb z (nl t)) (wk_u (wk_u nl t (nl t + 1)) z 0) (upd od z (nI (met + 1))) (upd lw z (nI (met + 1))) (upd fr z (nI t)) (upd cy z (nI (nl t))) (upd (upd nx t (nI (nl t + 1))) z 0) (upd rt z (nI root)) := by
  intro p p8
  obtain ⟨r1, r2, r3⟩ := R p p8
  by_cases e : p = z
  · rw [e, wk_us, wk_us, wk_us, wk_us, wk_us, pk_us, pk_us, pk_us, pk_us, pk_us, pk_us, if_pos k16]
    exact ⟨rfl, fun _ => ⟨rfl, rfl, rfl, rfl, rfl⟩, fun _ h => by omega⟩
  · rw [wk_un o _ e, wk_un lo _ e, wk_un cf _ e, wk_un cb _ e, wk_un _ _ e, pk_un e, pk_un e, pk_un e, pk_un e, pk_un e, pk_un e]
    refine ⟨r1, fun hp => ?_, r3⟩
    obtain ⟨s1, s2, s3, s4, s5⟩ := r2 hp
    refine ⟨s1, s2, s3, ?_, s5⟩
    by_cases f : p = t
    · rw [f, wk_us, pk_us]
    · rw [wk_un nl _ f, pk_un f]
      exact s4
theorem wr_Rbegin {m0 root : Nat} {ro0 o lo cf cb nl : Nat → Nat} {od lw fr cy nx rt : Nat → Int32} (h1 : ∀ p, p < 8 → od p = nI (o p)) (h2 : ∀ p, o p ≤ m0) (h3 : ∀ p, p < 8 → o p ≠ 0 → rt p = nI (ro0 p)) : wr_R m0 root ro0 (wk_u o root (m0 + 1)) (wk_u lo root (m0 + 1)) (wk_u cf root root) (wk_u cb root 99) (wk_u nl root 0) (upd od root (nI (m0 + 1))) (upd lw root (nI (m0 + 1))) (upd fr root (nI root)) (upd cy root (-1)) (upd nx root 0) (upd rt root (nI root)) := by
  intro p p8
  by_cases e : p = root
  · rw [e, wk_us, wk_us, wk_us, wk_us, wk_us, pk_us, pk_us, pk_us, pk_us, pk_us, pk_us, if_neg (by omega)]
    exact ⟨rfl, fun _ => ⟨rfl, rfl, rfl, rfl, rfl⟩, fun _ h => by omega⟩
  · rw [wk_un o _ e, pk_un e, pk_un (f := rt) e]
    refine ⟨h1 p p8, fun h => ?_, fun h _ => h3 p p8 h⟩
    have := h2 p
    omega
section
variable {n L : Nat} {A B : Nat → Nat} {vm vr vb vh : Int32} {en od lw fr cy nx rt : Nat → Int32} {tb : Nat → Int64}
theorem xw_meet {post : SX → Prop} {p : Nat} {x1 x2 x3 : Int32} {m : Nat} (p8 : p < 8) (k : post (nI n, nI L, nI (m + 1), vr, vb, vh, en, upd od p (nI (m + 1)), upd lw p (nI (m + 1)), upd fr p x1, upd cy p x2, upd nx p 0, upd rt p x3, tb)) : wpX_meet post (nI n, nI L, nI m, vr, vb, vh, en, od, lw, fr, cy, nx, rt, tb) (nI p) x1 x2 x3 := by
  have c : (nI p).toNatClampNeg = p := nI_clamp (by omega)
  have v : vp_in (nI p) 8 := vp_in_nI p8 (by omega)
  unfold wpX_meet
  dsimp only
  rw [c]
  exact nm_r (nI_1 m) ⟨v, nm_e ⟨v, nm_e ⟨v, nm_e ⟨v, nm_e ⟨v, nm_e ⟨v, nm_e k⟩⟩⟩⟩⟩⟩
theorem xw_leads {post : Int32 → Prop} (g : cx_G n L A B) (hX : cx_X L A B en) {t k : Nat} {cb : Nat → Nat} (t8 : t < 8) (k16 : k < 16) (hc : cy t = (if cb t < 16 then nI (cb t) else -1)) (h1 : ∀ z, wk_J (fun k => k < 16 ∧ L.testBit k = true) A B k t z → k ≠ cb t → post 1) (h0 : (∀ z, wk_J (fun k => k < 16 ∧ L.testBit k = true) A B k t z → ¬ k ≠ cb t) → post 0) : wpX_leadsOn post (nI n, nI L, vm, vr, vb, vh, en, od, lw, fr, cy, nx, rt, tb) (nI t) (nI k) := by
  have L16 := g.2.1
  have c : (nI t).toNatClampNeg = t := nI_clamp (by omega)
  have ck : (nI k).toNatClampNeg = k := nI_clamp (by omega)
  refine ek_if (bi_b1 (by omega) (by omega)) (fun u => ?_) (fun u => ?_)
  · have ei := hX k k16 u
    have e8 := cx_e8 g k16 u
    refine ⟨vp_in_nI k16 (by omega), ek_if (d := (bi_e (A k) (B k)).testBit t = true) (by rw [ck, ei]; exact bi_b1 (by omega) (by omega)) (fun w => ?_) (fun w => ?_)⟩
    · have w := (bi_eT _ _ _).mp w
      have ex : ∃ z, wk_J (fun k => k < 16 ∧ L.testBit k = true) A B k t z := by
        rcases w with w | w
        · exact ⟨B k, ⟨k16, u⟩, Or.inl ⟨w.symm, rfl⟩⟩
        · exact ⟨A k, ⟨k16, u⟩, Or.inr ⟨rfl, w.symm⟩⟩
      obtain ⟨z, hz⟩ := ex
      refine br_f (by decide) ⟨vp_in_nI t8 (by omega), ek_if (d := k = cb t) ?_ (fun q => ?_) (fun q => ?_)⟩
      · rw [c, hc]
        by_cases q : cb t < 16
        · rw [if_pos q]; exact nI_eq (by omega) (by omega)
        · rw [if_neg q]
          constructor
          · intro w
            exfalso
            have := nI_pos (n := k) (by omega)
            rw [w] at this
            exact this (by decide)
          · intro w
            omega
      · exact h0 (fun z _ w => w q)
      · exact h1 z hz q
    · refine br_t rfl (h0 (fun z hz => ?_))
      exfalso
      apply w
      rw [bi_eT]
      rcases hz.2 with q | q
      · exact Or.inl q.1.symm
      · exact Or.inr q.2.symm
  · exact br_t rfl (h0 (fun z hz => absurd hz.1.2 u))
/-- the other end -/
theorem xw_there {post : Int32 → Prop} (g : cx_G n L A B) (hX : cx_X L A B en) {t k z : Nat} (hz : wk_J (fun k => k < 16 ∧ L.testBit k = true) A B k t z) (kk : post (nI z)) : wpX_lowest post (en (nI k).toNatClampNeg &&& (((1 : Int32) <<< (nI t &&& 31)) ^^^ (-1))) := by
  have jn := wk_Jn (cx_0 g) hz
  have n8 := g.1.2
  have ck : (nI k).toNatClampNeg = k := nI_clamp (by omega)
  have ei := hX k jn.1 hz.1.2
  have e8 := cx_e8 g jn.1 hz.1.2
  have d8 : bi_d (bi_e (A k) (B k)) (2 ^ t) < 256 := bi_dlt (n := 8) e8
  rw [ck, ei, bi_1 (by omega), bi_not]
  have tt : ∀ x, (bi_d (bi_e (A k) (B k)) (2 ^ t)).testBit x = true ↔ x = z := by
    intro x
    rw [pv_dT, bi_eT, pv_2p]
    obtain ⟨_, h⟩ := hz
    omega
  exact xl_lowest (by omega) (by omega) ((tt z).mpr rfl) (fun j hj w => by have := (tt j).mp w; omega) kk
theorem xw_81 {post : SX → Prop} {t root u rb WH lt ou : Nat} (t8 : t < 8) (u8 : u < 8) (r8 : root < 8) (rb8 : rb ≤ 200) (l8 : lt ≤ 8) (o8 : ou ≤ 8) (hl : lw t = nI lt) (ho : od u = nI ou) (k : post (nI n, nI L, vm, nI rb, vb, nI (if (if u = root then 1 < rb else ou ≤ lt) then WH ||| 2 ^ u else WH), en, od, lw, fr, cy, nx, rt, tb)) : wX_leave_81 post (nI t) (nI root) (nI u) (nI n) (nI L) vm (nI rb) vb (nI WH) en od lw fr cy nx rt tb := by
  have c : (nI t).toNatClampNeg = t := nI_clamp (by omega)
  have cu : (nI u).toNatClampNeg = u := nI_clamp (by omega)
  have hy : (if u = root then 1 < rb else ou ≤ lt) → wX_leave_122 post (nI u) 1 (nI n) (nI L) vm (nI rb) vb (nI WH) en od lw fr cy nx rt tb := by
    intro h
    rw [if_pos h] at k
    exact br_f (by decide) (nm_r (by rw [bi_1 (by omega), bi_or]) k)
  have hn : ¬ (if u = root then 1 < rb else ou ≤ lt) → wX_leave_122 post (nI u) 0 (nI n) (nI L) vm (nI rb) vb (nI WH) en od lw fr cy nx rt tb := by
    intro h
    rw [if_neg h] at k
    exact br_t rfl k
  by_cases e : u = root
  · rw [if_pos e] at hy hn
    exact br_t (by rw [e]) (pk_le rb 1 (fun w => hn (by omega)) (fun w => hy w))
  · rw [if_neg e] at hy hn
    exact br_f (fun q => e ((nI_eq (by omega) (by omega)).mp q)) ⟨vp_in_nI t8 (by omega), vp_in_nI u8 (by omega), by
      rw [c, cu, hl, ho]
      exact pk_lt lt ou (fun w => hn (by omega)) (fun w => hy w)⟩
theorem xw_leave {post : SX → Prop} {t root u rb WB WH lt lu ou kb : Nat} (t8 : t < 8) (u8 : u < 8) (r8 : root < 8) (tu : t ≠ u) (rb8 : rb ≤ 150) (l8 : lt ≤ 8) (lu8 : lu ≤ 8) (o8 : ou ≤ 8) (kb16 : kb < 16) (hf : fr t = nI u) (hc : cy t = nI kb) (hl : lw t = nI lt) (hlu : lw u = nI lu) (ho : od u = nI ou)
    (k : ∀ lw', lw' u = nI (if lt < lu then lt else lu) → (∀ p, p ≠ u → lw' p = lw p) → post (nI n, nI L, vm, nI (if u = root then rb + 1 else rb), nI (if ou < lt then WB ||| 2 ^ kb else WB), nI (if (if u = root then 1 < (if u = root then rb + 1 else rb) else ou ≤ lt) then WH ||| 2 ^ u else WH), en, od, lw', fr, cy, nx, rt, tb)) : wpX_leave post (nI n, nI L, vm, nI rb, nI WB, nI WH, en, od, lw, fr, cy, nx, rt, tb) (nI t) (nI root) := by
  have c : (nI t).toNatClampNeg = t := nI_clamp (by omega)
  have cu : (nI u).toNatClampNeg = u := nI_clamp (by omega)
  have vt : vp_in (nI t) 8 := vp_in_nI t8 (by omega)
  have vu : vp_in (nI u) 8 := vp_in_nI u8 (by omega)
  have s66 : ∀ (lw' : Nat → Int32) (wb : Nat), lw' t = nI lt → post (nI n, nI L, vm, nI (if u = root then rb + 1 else rb), nI wb, nI (if (if u = root then 1 < (if u = root then rb + 1 else rb) else ou ≤ lt) then WH ||| 2 ^ u else WH), en, od, lw', fr, cy, nx, rt, tb) → wX_leave_66 post (nI t) (nI root) (nI u) (nI n) (nI L) vm (nI rb) (nI wb) (nI WH) en od lw' fr cy nx rt tb := by
    intro lw' wb h1 h2
    by_cases e : u = root
    · rw [if_pos e] at h2
      exact br_t (by rw [e]) (nm_r (nI_1 rb) (xw_81 t8 u8 r8 (by omega) l8 o8 h1 ho h2))
    · rw [if_neg e] at h2
      exact br_f (fun q => e ((nI_eq (by omega) (by omega)).mp q)) (xw_81 t8 u8 r8 (by omega) l8 o8 h1 ho h2)
  have s34 : ∀ (lw' : Nat → Int32), lw' t = nI lt → post (nI n, nI L, vm, nI (if u = root then rb + 1 else rb), nI (if ou < lt then WB ||| 2 ^ kb else WB), nI (if (if u = root then 1 < (if u = root then rb + 1 else rb) else ou ≤ lt) then WH ||| 2 ^ u else WH), en, od, lw', fr, cy, nx, rt, tb) → wX_leave_34 post (nI t) (nI root) (nI u) (nI n) (nI L) vm (nI rb) (nI WB) (nI WH) en od lw' fr cy nx rt tb := by
    intro lw' h1 h2
    refine ⟨vt, vu, ?_⟩
    rw [c, cu, h1, ho]
    refine pk_le lt ou (fun w => ?_) (fun w => ⟨vt, ?_⟩)
    · rw [if_neg (show ¬ ou < lt by omega)] at h2
      exact s66 lw' WB h1 h2
    · rw [if_pos (show ou < lt from w)] at h2
      rw [hc, bi_1 (by omega), bi_or]
      exact nm_e (s66 lw' _ h1 h2)
  unfold wpX_leave
  dsimp only
  rw [c]
  refine ⟨vt, nm_r hf ⟨vt, vu, ?_⟩⟩
  rw [cu, hl, hlu]
  refine pk_le lu lt (fun w => ?_) (fun w => ⟨vt, vu, nm_e ?_⟩)
  · exact s34 lw hl (k lw (by rw [if_neg (by omega)]; exact hlu) (fun _ _ => rfl))
  · exact s34 _ (by rw [pk_un tu]; exact hl) (k _ (by rw [pk_us, if_pos w]) (fun p hp => pk_un hp))
theorem xw_loop {post : SX → Prop} (g : cx_G n L A B) (hX : cx_X L A B en) {root m0 WB0 WH0 : Nat} {o0 ro0 : Nat → Nat}
    (fin : ∀ (met rb WB WH : Nat) (o lo cf cb nl la : Nat → Nat) (od lw fr cy nx rt : Nat → Int32), wr_I n L A B root m0 o0 WB0 WH0 root met rb WB WH o lo cf cb nl la → nl root = 16 → wr_R m0 root ro0 o lo cf cb nl od lw fr cy nx rt → post (nI n, nI L, nI met, nI rb, nI WB, nI WH, en, od, lw, fr, cy, nx, rt, tb)) :
    ∀ (f st t met rb WB WH : Nat) (o lo cf cb nl la : Nat → Nat) (od lw fr cy nx rt : Nat → Int32), wr_I n L A B root m0 o0 WB0 WH0 t met rb WB WH o lo cf cb nl la → wr_R m0 root ro0 o lo cf cb nl od lw fr cy nx rt → wk_M m0 o nl la + st ≤ 136 → wk_M m0 o nl la < f → wX_walkFrom_17 post (nI root) f (nI t) (nI st) (nI n) (nI L) (nI met) (nI rb) (nI WB) (nI WH) en od lw fr cy nx rt tb := by
  intro f
  induction f with
  | zero => intro st t met rb WB WH o lo cf cb nl la od lw fr cy nx rt I R h1 h2; omega
  | succ f ih =>
    intro st t met rb WB WH o lo cf cb nl la od lw fr cy nx rt I R h1 h2
    obtain ⟨tn, t8, rn, r8, nl16, met8, o8, mt, mr, lo8, loo, rb8, lat, M1⟩ := wr_f g I
    have c : (nI t).toNatClampNeg = t := nI_clamp (by omega)
    have vt : vp_in (nI t) 8 := vp_in_nI t8 (by omega)
    obtain ⟨rt1, rt2, rt3⟩ := R t t8
    obtain ⟨q1, q2, q3, q4, q5⟩ := rt2 mt
    rw [wX_walkFrom_17]
    refine br_f (nI_ge (b := 136) (by omega) (by omega)) ⟨vt, nm_r (e' := nI (nl t)) (by rw [c, q4]) ?_⟩
    by_cases hk : nl t < 16
    · have look : ∀ (v : Nat) (lw' : Nat → Int32), (∀ z, wk_J (fun k => k < 16 ∧ L.testBit k = true) A B (nl t) t z → nl t ≠ cb t → o z ≠ 0) → v ≤ lo t → (∀ z, wk_J (fun k => k < 16 ∧ L.testBit k = true) A B (nl t) t z → nl t ≠ cb t → v ≤ o z) → (v = lo t ∨ ∃ z, wk_J (fun k => k < 16 ∧ L.testBit k = true) A B (nl t) t z ∧ nl t ≠ cb t ∧ v = o z ∧ m0 < o z) → lw' t = nI v → (∀ p, p ≠ t → lw' p = lw p) → wX_walkFrom_17 post (nI root) f (nI t) (nI (st + 1)) (nI n) (nI L) (nI met) (nI rb) (nI WB) (nI WH) en od lw' fr cy (upd nx t (nI (nl t + 1))) rt tb := by
        intro v lw' a1 a2 a3 a4 a5 a6
        obtain ⟨I', M'⟩ := wr_look g I hk a1 v a2 a3 a4
        exact ih (st + 1) t met rb WB WH o (wk_u lo t v) cf cb (wk_u nl t (nl t + 1)) la od lw' fr cy _ rt I' (wr_Rlook R a5 a6) (by omega) (by omega)
      refine br_f (nI_ge (b := 16) hk (by omega)) ⟨vt, nm_r (e' := upd nx t (nI (nl t + 1))) (by rw [c, nI_1]) ?_⟩
      refine xw_leads g hX t8 hk q3 (fun z jz kc => br_f (by decide) ⟨vp_in_nI hk (by omega), ?_⟩) (fun h0 => br_t rfl (nm_r (nI_1 st) ?_))
      · have jn := wk_Jn (cx_0 g) jz
        have n8 := g.1.2
        have z8 : z < 8 := by omega
        have cz : (nI z).toNatClampNeg = z := nI_clamp (by omega)
        have vz : vp_in (nI z) 8 := vp_in_nI z8 (by omega)
        have oz := (R z z8).1
        have oz8 := o8 z
        have uz : ∀ z', wk_J (fun k => k < 16 ∧ L.testBit k = true) A B (nl t) t z' → z' = z := fun z' j' => wk_Ju (cx_0 g) j' jz
        refine xw_there g hX jz ⟨vz, ek_if (d := o z = 0) (by rw [cz, oz, bi_z (by omega)]) (fun hz => ?_) (fun hz => ?_)⟩
        · obtain ⟨I', M'⟩ := wr_meet g I hk jz hz
          refine xw_meet z8 ?_
          exact nm_r (nI_1 st) (ih (st + 1) z (met + 1) rb WB WH _ _ _ _ _ la _ _ _ _ _ _ I' (wr_Rmeet R (by have := I.1.2.2.2.1.1; omega) hk) (by omega) (by omega))
        · have mz : m0 < o z := by
            apply Classical.byContradiction
            intro q
            have := I.1.2.2.2.2.2.2.2.2.2.2.1 z (nl t) t (wk_Js jz) hz (by omega)
            omega
          refine ⟨vz, vt, ek_if (d := lo t ≤ o z) (by rw [c, cz, q1, oz, nI_leI (by omega) (by omega)]) (fun le => nm_r (nI_1 st) ?_) (fun nle => ⟨vz, vt, nm_r (e' := upd lw t (nI (o z))) (by rw [c, cz, oz]) (nm_r (nI_1 st) ?_)⟩)⟩
          · exact look (lo t) lw (fun z' j' _ => by rw [uz z' j']; exact hz) (Nat.le_refl _) (fun z' j' _ => by rw [uz z' j']; exact le) (Or.inl rfl) q1 (fun _ _ => rfl)
          · exact look (o z) _ (fun z' j' _ => by rw [uz z' j']; exact hz) (by omega) (fun z' j' _ => by rw [uz z' j']; exact Nat.le_refl _) (Or.inr ⟨z, jz, kc, rfl, mz⟩) pk_us (fun p hp => pk_un hp)
      · exact look (lo t) lw (fun z' j' kc => absurd kc (h0 z' j')) (Nat.le_refl _) (fun z' j' kc => absurd kc (h0 z' j')) (Or.inl rfl) q1 (fun _ _ => rfl)
    · have k16 : nl t = 16 := by omega
      refine br_t (show (16 : Int32) ≤ nI (nl t) by rw [k16]; decide) ?_
      by_cases tr : t = root
      · refine br_t (by rw [tr]) ?_
        rw [tr] at I k16
        exact fin met rb WB WH o lo cf cb nl la od lw fr cy nx rt I k16 R
      · have G := I.1
        obtain ⟨c1, c2, c3, c4⟩ := G.2.2.2.2.2.1 t mt tr
        have jn := wk_Jn (cx_0 g) c3
        have n8 := g.1.2
        have u8 : cf t < 8 := by omega
        obtain ⟨ru1, ru2, ru3⟩ := R (cf t) u8
        obtain ⟨p1, p2, p3, p4, p5⟩ := ru2 c1
        have pu := (G.2.2.2.2.2.2.1 t ⟨mt, lat⟩ tr).1
        have lou := (I.2.1 (cf t) pu).1
        have ou8 := o8 (cf t)
        rw [if_pos jn.1] at q3
        refine br_f (fun q => tr ((nI_eq (by omega) (by omega)).mp q)) (xw_leave (lt := lo t) (lu := lo (cf t)) (ou := o (cf t)) (kb := cb t) t8 u8 r8 (fun e => jn.2.2.2 e) (by omega) lo8 (by omega) ou8 jn.1 q2 q3 q1 p1 ru1 (fun lw' a1 a2 => ⟨vt, nm_r (e' := nI (cf t)) (by rw [c, q2]) (nm_r (nI_1 st) ?_)⟩))
        obtain ⟨I', M'⟩ := wr_leave g I k16 tr (rb' := if cf t = root then rb + 1 else rb) rfl rfl rfl rfl
        refine ih (st + 1) (cf t) met _ _ _ o _ cf cb nl _ od lw' fr cy nx rt I' ?_ (by omega) (by omega)
        intro p p8
        obtain ⟨r1, r2, r3⟩ := R p p8
        refine ⟨r1, fun hp => ?_, r3⟩
        obtain ⟨s1, s2, s3, s4, s5⟩ := r2 hp
        refine ⟨?_, s2, s3, s4, s5⟩
        by_cases e : p = cf t
        · rw [e, wk_us]; exact a1
        · rw [wk_un lo _ e, a2 p e]; exact s1
theorem xw_from {post : SX → Prop} (g : cx_G n L A B) (hX : cx_X L A B en) {root m0 WB WH : Nat} {o ro : Nat → Nat} (Z : wr_Z n L A B m0 WB WH o ro) (rn : root < n) (hr : o root = 0) (r2 : ∀ p, p < root → o p ≠ 0) (h1 : ∀ p, p < 8 → od p = nI (o p)) (h3 : ∀ p, p < 8 → o p ≠ 0 → rt p = nI (ro p))
    (k : ∀ (vr' : Int32) (met WB' WH' : Nat) (o' ro' : Nat → Nat) (od lw fr cy nx rt : Nat → Int32), wr_Z n L A B met WB' WH' o' ro' → (∀ p, p < root + 1 → o' p ≠ 0) → (∀ p, p < 8 → od p = nI (o' p)) → (∀ p, p < 8 → o' p ≠ 0 → rt p = nI (ro' p)) → post (nI n, nI L, nI met, vr', nI WB', nI WH', en, od, lw, fr, cy, nx, rt, tb)) : wpX_walkFrom post (nI n, nI L, nI m0, vr, nI WB, nI WH, en, od, lw, fr, cy, nx, rt, tb) (nI root) := by
  have n8 := g.1.2
  unfold wpX_walkFrom
  dsimp only
  refine xw_meet (by omega) ?_
  refine ⟨138, ?_⟩
  have b := wr_begin g (lo := fun _ => 0) (cf := fun _ => 0) (cb := fun _ => 0) (nl := fun _ => 0) Z rn hr
  have mb := wk_Mb m0 (wk_u o root (m0 + 1)) (wk_u (fun _ => 0) root 0) (fun _ => 0)
  refine xw_loop g hX (root := root) (m0 := m0) (WB0 := WB) (WH0 := WH) (o0 := o) (ro0 := ro) ?_ 138 0 root (m0 + 1) 0 WB WH _ _ _ _ _ _ _ _ _ _ _ _ b (wr_Rbegin h1 Z.1.2.1 h3) (by omega) (by omega)
  intro met rb WB' WH' o' lo cf cb nl la od' lw' fr' cy' nx' rt' I nr R
  have G := I.1
  have c7 := I.2.2.2.2.2.2.1
  have c8 := I.2.2.2.2.2.2.2
  have fi := wr_fin g (ro := fun p => if m0 < o' p then root else ro p) Z I nr (fun p hp => by
    have e := c7 p hp
    have := Z.1.2.1 p
    show (if m0 < o' p then root else ro p) = ro p
    rw [if_neg (by omega)]) (fun p hp => by show (if m0 < o' p then root else ro p) = root; rw [if_pos hp]) r2
  refine k (nI rb) met WB' WH' o' (fun p => if m0 < o' p then root else ro p) od' lw' fr' cy' nx' rt' fi (fun p hp => ?_) (fun p p8 => (R p p8).1) (fun p p8 hp => ?_)
  · by_cases e : p = root
    · rw [e]
      have := G.2.2.2.1.2.1
      omega
    · have := r2 p (by omega)
      rw [c7 p this]
      exact this
  · by_cases e : m0 < o' p
    · show rt' p = nI (if m0 < o' p then root else ro p)
      rw [if_pos e]
      exact ((R p p8).2.1 e).2.2.2.2
    · show rt' p = nI (if m0 < o' p then root else ro p)
      rw [if_neg e]
      exact (R p p8).2.2 hp (by omega)
theorem xw_38 {post : SX → Prop} (g : cx_G n L A B) (hX : cx_X L A B en)
    (k : ∀ (vm' vr' : Int32) (od lw fr cy nx rt : Nat → Int32), (∀ p, p < n → rt p = nI (pv_lb (gr_R A B (fun k => k < 16 ∧ L.testBit k = true) (fun x => x < n)) p)) → post (nI n, nI L, vm', vr', nI (pv_b A B n L), nI (pv_h A B n L), en, od, lw, fr, cy, nx, rt, tb)) :
    ∀ (f p m0 WB WH : Nat) (vr : Int32) (o ro : Nat → Nat) (od lw fr cy nx rt : Nat → Int32), n < f + p → p ≤ n → wr_Z n L A B m0 WB WH o ro → (∀ q, q < p → o q ≠ 0) → (∀ p, p < 8 → od p = nI (o p)) → (∀ p, p < 8 → o p ≠ 0 → rt p = nI (ro p)) → wX_walkAll_38 post f (nI p) (nI n) (nI L) (nI m0) vr (nI WB) (nI WH) en od lw fr cy nx rt tb := by
  intro f
  have n8 := g.1.2
  induction f with
  | zero => intro p m0 WB WH vr o ro od lw fr cy nx rt h1 h2; omega
  | succ f ih =>
    intro p m0 WB WH vr o ro od lw fr cy nx rt h1 h2 Z h3 h4 h5
    rw [wX_walkAll_38]
    by_cases e : p = n
    · subst e
      refine br_t (nI_le (by omega) (by omega)) ?_
      obtain ⟨w1, w2, w3⟩ := wr_all g Z h3
      rw [w1, w2]
      exact k _ _ _ _ _ _ _ _ (fun q hq => by rw [h5 q (by omega) (h3 q hq), w3 q hq])
    · have pn : p < n := by omega
      have c : (nI p).toNatClampNeg = p := nI_clamp (by omega)
      have ob := Z.1.2.1 p
      have mb : m0 ≤ 8 := by rw [Z.2.1]; exact pv_cn _ 8
      refine br_f (nI_ge (by omega) (by omega)) ⟨vp_in_nI (by omega) (by omega), ek_if (d := o p = 0) (by rw [c, h4 p (by omega), bi_z (by omega)]) (fun z => ?_) (fun z => nm_r (nI_1 p) ?_)⟩
      · refine xw_from g hX Z pn z h3 h4 h5 ?_
        intro vr' met WB' WH' o' ro' od' lw' fr' cy' nx' rt' Z' a1 a2 a3
        exact nm_r (nI_1 p) (ih (p + 1) met WB' WH' vr' o' ro' od' lw' fr' cy' nx' rt' (by omega) (by omega) Z' a1 a2 a3)
      · refine ih (p + 1) m0 WB WH vr o ro od lw fr cy nx rt (by omega) (by omega) Z (fun q hq => ?_) h4 h5
        by_cases w : q = p
        · rw [w]; exact z
        · exact h3 q (by omega)
theorem xw_all {post : SX → Prop} (g : cx_G n L A B) (hX : cx_X L A B en)
    (k : ∀ (vm' vr' : Int32) (od lw fr cy nx rt : Nat → Int32), (∀ p, p < n → rt p = nI (pv_lb (gr_R A B (fun k => k < 16 ∧ L.testBit k = true) (fun x => x < n)) p)) → post (nI n, nI L, vm', vr', nI (pv_b A B n L), nI (pv_h A B n L), en, od, lw, fr, cy, nx, rt, tb)) : wpX_walkAll post (nI n, nI L, vm, vr, vb, vh, en, od, lw, fr, cy, nx, rt, tb) := by
  have n8 := g.1.2
  refine ⟨9, ?_⟩
  have a : ∀ (f i : Nat) (od : Nat → Int32), 8 < f + i → i ≤ 8 → (∀ q, q < i → od q = 0) → wX_walkAll_17 post (nI n) (nI L) 0 vr 0 0 f (nI i) en od lw fr cy nx rt tb := by
    intro f
    induction f with
    | zero => intro i od h1 h2; omega
    | succ f ih =>
      intro i od h1 h2 h3
      rw [wX_walkAll_17]
      by_cases e : i = 8
      · subst e
        exact br_t (nI_le (b := 8) (by omega) (by omega)) ⟨n + 1, xw_38 g hX k (n + 1) 0 0 0 0 vr (fun _ => 0) (fun _ => 0) od lw fr cy nx rt (by omega) (by omega) wr_0 (fun q hq => by omega) (fun p hp => h3 p hp) (fun p _ h => absurd rfl h)⟩
      · have c : (nI i).toNatClampNeg = i := nI_clamp (by omega)
        refine br_f (nI_ge (b := 8) (by omega) (by omega)) ⟨vp_in_nI (by omega) (by omega), nm_e (nm_r (nI_1 i) (ih (i + 1) _ (by omega) (by omega) (fun q hq => ?_)))⟩
        rw [c]
        by_cases w : q = i
        · rw [w, pk_us]
        · rw [pk_un w]; exact h3 q (by omega)
  exact a 9 0 od (by omega) (by omega) (fun q hq => by omega)
end
end
section
/-! X: groups, bridges, hinges, agree, block, island, weakest, fragile -/
theorem xl_sr {P p : Nat} (hP : P < 2 ^ 62) (hp : p < 8) : (lN P >>> ((nI p * 4).toInt64 &&& 63)) &&& 15 = lN (P / 16 ^ p % 16) := by
  have e : nI p * 4 = nI (p * 4) := pk_mul p 4
  have d : (((nI (p * 4)).toInt64 &&& 63).toBitVec.smod 64).toNat = p * 4 := by
    rw [wb_c (p * 4) (by omega), wb_tb, wb_sm (p * 4) (by omega), BitVec.toNat_ofNat]
    omega
  have q : P / 16 ^ p < 2 ^ 64 := Nat.lt_of_le_of_lt (Nat.div_le_self _ _) (by omega)
  rw [e, pf_shr d hP, Nat.pow_mul']
  exact g_mask (p := 16) (s := 4) (by decide) (by omega) q
section
variable {n L : Nat} {A B : Nat → Nat} {vm vr vb vh : Int32} {en od lw fr cy nx rt : Nat → Int32} {tb : Nat → Int64}
theorem xc_part {post : Int64 → SX → Prop} (g : cx_G n L A B) (hX : cx_X L A B en) {x : Int32} (hx : x = 0 ∨ x = 1 ∨ x = 2) (k : ∀ vm vr vb vh od lw fr cy nx rt, post (lN (pv_pt (pv_lb (gr_R A B (fun k => k < 16 ∧ L.testBit k = true) (fun x => x < n))) n)) (nI n, nI L, vm, vr, vb, vh, en, od, lw, fr, cy, nx, rt, tb)) : wpX_partitionBy post (nI n, nI L, vm, vr, vb, vh, en, od, lw, fr, cy, nx, rt, tb) x := by
  by_cases e : x = 1
  · refine br_t e ?_
    refine xw_all g hX ?_
    intro vm' vr' od' lw' fr' cy' nx' rt' h
    exact xl_part0 g hX hx (fun _ p hp => h p hp) (k _ _ _ _ _ _ _ _ _ _)
  · exact br_f e (xl_part0 g hX hx (fun w => absurd w e) (k _ _ _ _ _ _ _ _ _ _))
theorem xc_21 {post : Int32 → SX → Prop} (g : cx_G n L A B) (k : post (nI (pv_g A B L (2 ^ n - 1))) (nI n, nI L, vm, vr, vb, vh, en, od, lw, fr, cy, nx, rt, tb)) : ∃ f, wX_groups_21 post (lN (pv_pt (pv_lb (gr_R A B (fun k => k < 16 ∧ L.testBit k = true) (fun x => x < n))) n)) (nI n) (nI L) vm vr vb vh en od lw fr cy nx rt tb f 0 0 := by
  have n8 := g.1.2
  have a8 := pv_a8 n8
  have E := gr_RE A B (fun k => k < 16 ∧ L.testBit k = true) (fun x => x < n)
  have l16 : ∀ p, p < n → pv_lb (gr_R A B (fun k => k < 16 ∧ L.testBit k = true) (fun x => x < n)) p < 16 := fun p hp => by
    have := pv_lbP E p
    omega
  have cnt : pv_c (fun p => pv_lb (gr_R A B (fun k => k < 16 ∧ L.testBit k = true) (fun x => x < n)) p = p) n = pv_g A B L (2 ^ n - 1) := by
    rw [pv_lbN E n8, pv_gT A B a8, pv_qn]
  have lt := pv_ptL l16 n (Nat.le_refl n)
  have le : 16 ^ n ≤ 16 ^ 8 := Nat.pow_le_pow_right (by omega) n8
  have a : ∀ f p, n < f + p → p ≤ n → wX_groups_21 post (lN (pv_pt (pv_lb (gr_R A B (fun k => k < 16 ∧ L.testBit k = true) (fun x => x < n))) n)) (nI n) (nI L) vm vr vb vh en od lw fr cy nx rt tb f (nI (pv_c (fun p => pv_lb (gr_R A B (fun k => k < 16 ∧ L.testBit k = true) (fun x => x < n)) p = p) p)) (nI p) := by
    intro f
    induction f with
    | zero => intro p h h'; omega
    | succ f ih =>
      intro p h h'
      rw [wX_groups_21]
      by_cases e : p = n
      · rw [e, cnt]
        exact br_t (nI_le (by omega) (by omega)) k
      · have pn : p < n := by omega
        have lp := l16 p pn
        have nxt := ih (p + 1) (by omega) (by omega)
        refine br_f (nI_ge (by omega) (by omega)) (ek_if (d := pv_lb (gr_R A B (fun k => k < 16 ∧ L.testBit k = true) (fun x => x < n)) p = p) (by rw [xl_sr (by omega) (by omega), pv_ptE l16 pn, nI_l (by omega), lN_eq (by omega) (by omega)]) (fun w => ?_) (fun w => ?_))
        · rw [pv_cP (P := fun p => pv_lb (gr_R A B (fun k => k < 16 ∧ L.testBit k = true) (fun x => x < n)) p = p) (n := p) w] at nxt
          exact nm_r (nI_1 _) (nm_r (nI_1 p) nxt)
        · rw [pv_cN (P := fun p => pv_lb (gr_R A B (fun k => k < 16 ∧ L.testBit k = true) (fun x => x < n)) p = p) (n := p) w] at nxt
          exact nm_r (nI_1 p) nxt
  exact ⟨n + 1, a (n + 1) 0 (by omega) (by omega)⟩
theorem xc_groups {post : Int32 → SX → Prop} (g : cx_G n L A B) (hX : cx_X L A B en) {x : Int32} (k1 : (x = 0 ∨ x = 1 ∨ x = 2) → ∀ vm vr vb vh od lw fr cy nx rt, post (nI (pv_g A B L (2 ^ n - 1))) (nI n, nI L, vm, vr, vb, vh, en, od, lw, fr, cy, nx, rt, tb)) (k0 : ¬ (x = 0 ∨ x = 1 ∨ x = 2) → post (-1) (nI n, nI L, vm, vr, vb, vh, en, od, lw, fr, cy, nx, rt, tb)) : wpX_groups post (nI n, nI L, vm, vr, vb, vh, en, od, lw, fr, cy, nx, rt, tb) x := by
  unfold wpX_groups
  dsimp only
  refine xl_engine (fun hx => br_f (by decide) ?_) (fun hx => br_t rfl (k0 hx))
  refine xc_part g hX hx ?_
  intro vm' vr' vb' vh' od' lw' fr' cy' nx' rt'
  exact xc_21 g (k1 hx _ _ _ _ _ _ _ _ _ _)
theorem xc_brBy {post : Int32 → SX → Prop} (g : cx_G n L A B) (hX : cx_X L A B en) {x : Int32} (hx : x = 0 ∨ x = 1 ∨ x = 2) (k : ∀ vm vr vb vh od lw fr cy nx rt, post (nI (pv_b A B n L)) (nI n, nI L, vm, vr, vb, vh, en, od, lw, fr, cy, nx, rt, tb)) : wpX_bridgesBy post (nI n, nI L, vm, vr, vb, vh, en, od, lw, fr, cy, nx, rt, tb) x := by
  by_cases e : x = 0
  · refine br_t e ?_
    exact xl_flB g hX (k _ _ _ _ _ _ _ _ _ _)
  · refine br_f e ?_
    by_cases e2 : x = 2
    · refine br_t e2 ?_
      exact xl_cutB g hX (k _ _ _ _ _ _ _ _ _ _)
    · refine br_f e2 ?_
      refine xw_all g hX ?_
      intro vm' vr' od' lw' fr' cy' nx' rt' h
      exact k _ _ _ _ _ _ _ _ _ _
theorem xc_hiBy {post : Int32 → SX → Prop} (g : cx_G n L A B) (hX : cx_X L A B en) {x : Int32} (hx : x = 0 ∨ x = 1 ∨ x = 2) (k : ∀ vm vr vb vh od lw fr cy nx rt, post (nI (pv_h A B n L)) (nI n, nI L, vm, vr, vb, vh, en, od, lw, fr, cy, nx, rt, tb)) : wpX_hingesBy post (nI n, nI L, vm, vr, vb, vh, en, od, lw, fr, cy, nx, rt, tb) x := by
  by_cases e : x = 0
  · refine br_t e ?_
    exact xl_flH g hX (k _ _ _ _ _ _ _ _ _ _)
  · refine br_f e ?_
    by_cases e2 : x = 2
    · refine br_t e2 ?_
      exact xl_cutH g hX (k _ _ _ _ _ _ _ _ _ _)
    · refine br_f e2 ?_
      refine xw_all g hX ?_
      intro vm' vr' od' lw' fr' cy' nx' rt' h
      exact k _ _ _ _ _ _ _ _ _ _
theorem xc_bridges {post : Int32 → SX → Prop} (g : cx_G n L A B) (hX : cx_X L A B en) {x : Int32} (k1 : (x = 0 ∨ x = 1 ∨ x = 2) → ∀ vm vr vb vh od lw fr cy nx rt, post (nI (pv_b A B n L)) (nI n, nI L, vm, vr, vb, vh, en, od, lw, fr, cy, nx, rt, tb)) (k0 : ¬ (x = 0 ∨ x = 1 ∨ x = 2) → post (-1) (nI n, nI L, vm, vr, vb, vh, en, od, lw, fr, cy, nx, rt, tb)) : wpX_bridges post (nI n, nI L, vm, vr, vb, vh, en, od, lw, fr, cy, nx, rt, tb) x := by
  unfold wpX_bridges
  dsimp only
  refine xl_engine (fun hx => br_f (by decide) ?_) (fun hx => br_t rfl (k0 hx))
  refine xc_brBy g hX hx ?_
  intro vm' vr' vb' vh' od' lw' fr' cy' nx' rt'
  exact k1 hx _ _ _ _ _ _ _ _ _ _
theorem xc_hinges {post : Int32 → SX → Prop} (g : cx_G n L A B) (hX : cx_X L A B en) {x : Int32} (k1 : (x = 0 ∨ x = 1 ∨ x = 2) → ∀ vm vr vb vh od lw fr cy nx rt, post (nI (pv_h A B n L)) (nI n, nI L, vm, vr, vb, vh, en, od, lw, fr, cy, nx, rt, tb)) (k0 : ¬ (x = 0 ∨ x = 1 ∨ x = 2) → post (-1) (nI n, nI L, vm, vr, vb, vh, en, od, lw, fr, cy, nx, rt, tb)) : wpX_hinges post (nI n, nI L, vm, vr, vb, vh, en, od, lw, fr, cy, nx, rt, tb) x := by
  unfold wpX_hinges
  dsimp only
  refine xl_engine (fun hx => br_f (by decide) ?_) (fun hx => br_t rfl (k0 hx))
  refine xc_hiBy g hX hx ?_
  intro vm' vr' vb' vh' od' lw' fr' cy' nx' rt'
  exact k1 hx _ _ _ _ _ _ _ _ _ _
theorem xc_agree {post : Int32 → SX → Prop} (g : cx_G n L A B) (hX : cx_X L A B en) {x y : Int32} (k1 : (x = 0 ∨ x = 1 ∨ x = 2) → (y = 0 ∨ y = 1 ∨ y = 2) → ∀ vm vr vb vh od lw fr cy nx rt, post 1 (nI n, nI L, vm, vr, vb, vh, en, od, lw, fr, cy, nx, rt, tb)) (k0 : ¬ ((x = 0 ∨ x = 1 ∨ x = 2) ∧ (y = 0 ∨ y = 1 ∨ y = 2)) → post 0 (nI n, nI L, vm, vr, vb, vh, en, od, lw, fr, cy, nx, rt, tb)) : wpX_agree post (nI n, nI L, vm, vr, vb, vh, en, od, lw, fr, cy, nx, rt, tb) x y := by
  unfold wpX_agree
  dsimp only
  refine xl_engine (fun hx => br_f (by decide) ?_) (fun hx => br_t rfl (k0 (fun w => hx w.1)))
  refine xl_engine (fun hy => br_f (by decide) ?_) (fun hy => br_t rfl (k0 (fun w => hy w.2)))
  refine xc_part g hX hx ?_
  intro vm' vr' vb' vh' od' lw' fr' cy' nx' rt'
  refine xc_part g hX hy ?_
  intro vm' vr' vb' vh' od' lw' fr' cy' nx' rt'
  refine br_t rfl ?_
  refine xc_brBy g hX hx ?_
  intro vm' vr' vb' vh' od' lw' fr' cy' nx' rt'
  refine xc_brBy g hX hy ?_
  intro vm' vr' vb' vh' od' lw' fr' cy' nx' rt'
  refine br_t rfl ?_
  refine xc_hiBy g hX hx ?_
  intro vm' vr' vb' vh' od' lw' fr' cy' nx' rt'
  refine xc_hiBy g hX hy ?_
  intro vm' vr' vb' vh' od' lw' fr' cy' nx' rt'
  exact br_t rfl (k1 hx hy _ _ _ _ _ _ _ _ _ _)
theorem xc_parted {post : Int32 → Prop} (g : cx_G n L A B) (hX : cx_X L A B en) {sa sb : Nat} (b8 : sb < 256) (h1 : (∃ p, p < n ∧ sp_X A B L (bi_d (2 ^ n - 1) (2 ^ p)) sa &&& sb = 0) → post 1) (h0 : (∀ p, p < n → ¬ (sp_X A B L (bi_d (2 ^ n - 1) (2 ^ p)) sa &&& sb = 0)) → post 0) : wpX_partedByPoint post (nI n, nI L, vm, vr, vb, vh, en, od, lw, fr, cy, nx, rt, tb) (nI sa) (nI sb) := by
  have n8 := g.1.2
  have a8 := pv_a8 n8
  unfold wpX_partedByPoint
  dsimp only
  refine xl_all n8 ?_
  refine ⟨n + 1, ?_⟩
  have a : ∀ f p, n < f + p → p ≤ n → (∀ q, q < p → ¬ (sp_X A B L (bi_d (2 ^ n - 1) (2 ^ q)) sa &&& sb = 0)) → wX_partedByPoint_8 post (nI sa) (nI sb) (nI (2 ^ n - 1)) (nI n) (nI L) vm vr vb vh en od lw fr cy nx rt tb f (nI p) := by
    intro f
    induction f with
    | zero => intro p h h'; omega
    | succ f ih =>
      intro p h h' hq
      rw [wX_partedByPoint_8]
      by_cases e : p = n
      · subst e
        exact br_t (nI_le (by omega) (by omega)) (h0 hq)
      · have k8 : bi_d (2 ^ n - 1) (2 ^ p) < 256 := bi_dlt (n := 8) a8
        refine br_f (nI_ge (by omega) (by omega)) (nm_r (e' := nI (bi_d (2 ^ n - 1) (2 ^ p))) (by rw [bi_1 (by omega), bi_not]) ?_)
        refine xl_spread g hX (fun _ _ h => h) g.2.1 k8 ?_
        refine ek_if (d := sp_X A B L (bi_d (2 ^ n - 1) (2 ^ p)) sa &&& sb = 0) (by rw [nx_and, bi_z (Nat.lt_trans (Nat.and_lt_two_pow (n := 8) _ b8) (by omega))]) (fun w => h1 ⟨p, by omega, w⟩) (fun w => nm_r (nI_1 p) (ih (p + 1) (by omega) (by omega) (fun q hq' => ?_)))
        by_cases e2 : q = p
        · rw [e2]; exact w
        · exact hq q (by omega)
  exact a (n + 1) 0 (by omega) (by omega) (fun q hq => by omega)
/-- the block of line k -/
noncomputable def xc_bl (A B : Nat → Nat) (n L k : Nat) (j : Nat) : Prop := L.testBit j = true ∧ ∀ p, p < n → ¬ (sp_X A B L (bi_d (2 ^ n - 1) (2 ^ p)) (bi_e (A k) (B k)) &&& bi_e (A j) (B j) = 0)
theorem xc_block {post : Int32 → Prop} (g : cx_G n L A B) (hX : cx_X L A B en) {x : Int32} (k1 : ∀ k, k < 16 → x = nI k → L.testBit k = true → post (nI (2 ^ k ||| pv_m (xc_bl A B n L k) 16))) (k0 : (∀ k, k < 16 → x = nI k → ¬ L.testBit k = true) → post (-1)) : wpX_block post (nI n, nI L, vm, vr, vb, vh, en, od, lw, fr, cy, nx, rt, tb) x := by
  have L16 := g.2.1
  unfold wpX_block
  dsimp only
  refine xl_line L16 (fun k hk ek lk => br_f (by decide) ?_) (fun h => br_t rfl (k0 h))
  subst ek
  have ck : (nI k).toNatClampNeg = k := nI_clamp (by omega)
  have ek := hX k hk lk
  refine nm_r (bi_1 (by omega)) ⟨17, ?_⟩
  have a : ∀ f i, 16 < f + i → i ≤ 16 → wX_block_16 post (nI k) (nI n) (nI L) vm vr vb vh en od lw fr cy nx rt tb f (nI (2 ^ k ||| pv_m (xc_bl A B n L k) i)) (nI i) := by
    intro f
    induction f with
    | zero => intro i h h'; omega
    | succ f ih =>
      intro i h h'
      rw [wX_block_16]
      by_cases e : i = 16
      · subst e
        exact br_t (nI_le (b := 16) (by omega) (by omega)) (k1 k hk rfl lk)
      · have i16 : i < 16 := by omega
        have ci : (nI i).toNatClampNeg = i := nI_clamp (by omega)
        have nxt := ih (i + 1) (by omega) (by omega)
        have no : ¬ xc_bl A B n L k i → wX_block_16 post (nI k) (nI n) (nI L) vm vr vb vh en od lw fr cy nx rt tb f (nI (2 ^ k ||| pv_m (xc_bl A B n L k) i)) (nI (i + 1)) := by
          intro w
          rw [pv_mN w] at nxt
          exact nxt
        refine br_f (nI_ge (b := 16) (by omega) (by omega)) (xl_lineN L16 i16 (fun u => br_f (by decide) ⟨vp_in_nI hk (by omega), vp_in_nI i16 (by omega), ?_⟩) (fun u => br_t rfl (nm_r (nI_1 i) (no (fun w => u w.1)))))
        rw [ck, ci, ek, hX i i16 u]
        refine xc_parted g hX (cx_e8 g i16 u) (fun ⟨p, hp, w⟩ => br_f (by decide) (nm_r (nI_1 i) (no (fun z => z.2 p hp w)))) (fun w => br_t rfl ?_)
        rw [pv_mP ⟨u, w⟩, ← Nat.or_assoc] at nxt
        exact nm_r (by rw [bi_1 (by omega), bi_or]) (nm_r (nI_1 i) nxt)
  have := a 17 0 (by omega) (by omega)
  rw [pv_m0, Nat.or_zero] at this
  exact this
theorem xc_island {post : Int32 → Prop} (g : cx_G n L A B) (hX : cx_X L A B en) {x : Int32} (k1 : ∀ p, p < n → x = nI p → post (nI (sp_X A B (bi_d L (pv_b A B n L)) (2 ^ n - 1) (2 ^ p)))) (k0 : (∀ p, p < n → ¬ x = nI p) → post (-1)) : wpX_island post (nI n, nI L, vm, vr, vb, vh, en, od, lw, fr, cy, nx, rt, tb) x := by
  have n8 := g.1.2
  unfold wpX_island
  dsimp only
  refine xl_point n8 (fun p hp ep => br_f (by decide) ?_) (fun h => br_t rfl (k0 h))
  refine xl_flB g hX ?_
  refine nm_r (bi_not _ _) ?_
  refine xl_all n8 ?_
  subst ep
  rw [bi_1 (by omega)]
  exact xl_spread g hX (fun j _ w => ((pv_dT _ _ _).mp w).1) (bi_dlt (n := 16) g.2.1) (pv_a8 n8) (k1 p hp rfl)
theorem xc_weak {post : Int32 → Prop} (g : cx_G n L A B) (hX : cx_X L A B en) (k1 : n ≠ 1 → ¬ 1 < pv_g A B L (2 ^ n - 1) → post (nI (pv_wX A B n L 256))) (k0 : (n = 1 ∨ 1 < pv_g A B L (2 ^ n - 1)) → post 0) : wpX_weakest post (nI n, nI L, vm, vr, vb, vh, en, od, lw, fr, cy, nx, rt, tb) := by
  have n8 := g.1.2
  have a8 := pv_a8 n8
  unfold wpX_weakest
  dsimp only
  refine xl_all n8 ?_
  refine pk_eq n 1 (fun w => k0 (Or.inl w)) (fun n1 => ?_)
  refine xl_count g hX (fun _ _ h => h) g.2.1 a8 ?_
  have g8 := pv_g8 A B (us := L) a8
  refine pk_le (pv_g A B L (2 ^ n - 1)) 1 (fun w => ⟨256, ?_⟩) (fun w => k0 (Or.inr w))
  have k := k1 n1 (by omega)
  have a : ∀ f i, 256 < f + i → 1 ≤ i → i ≤ 256 → wX_weakest_33 post (nI (2 ^ n - 1)) (nI n) (nI L) vm vr vb vh en od lw fr cy nx rt tb f (nI (pv_wX A B n L i)) (nI i) := by
    intro f
    induction f with
    | zero => intro i h h' h''; omega
    | succ f ih =>
      intro i h h' h''
      rw [wX_weakest_33]
      by_cases e : i = 256
      · subst e
        exact br_t (nI_le (b := 256) (by omega) (by omega)) k
      · have nxt := ih (i + 1) (by omega) (by omega) (by omega)
        refine br_f (nI_ge (b := 256) (by omega) (by omega)) (pk_le (2 ^ n - 1) i (fun q => nm_r (nI_1 i) ?_) (fun q => ?_))
        · unfold pv_wX at nxt ⊢
          rw [mf_N (fun z => by have := gr_bT.mp z.1; omega)] at nxt
          exact nxt
        · refine xl_cross g hX (by omega) a8 ?_
          have xl := pv_xL A B L i (2 ^ n - 1)
          refine xl_bits (by omega) ?_
          rw [pv_cutX g]
          have b1 : pv_wX A B n L i ≤ 16 := pv_wXb i
          have b2 : pv_cut A B L i ≤ 16 := pv_cn _ 16
          refine pk_le (pv_wX A B n L i) (pv_cut A B L i) (fun z => nm_r (nI_1 i) ?_) (fun z => nm_r (nI_1 i) ?_)
          · unfold pv_wX at nxt z ⊢
            rw [mf_N (fun y => by have := y.2; omega)] at nxt
            exact nxt
          · unfold pv_wX at nxt z
            rw [mf_P ⟨gr_bT.mpr ⟨h', q⟩, z⟩] at nxt
            exact nxt
  have := a 256 1 (by omega) (by omega) (by omega)
  have e1 : pv_wX A B n L 1 = 16 := by
    unfold pv_wX
    rw [mf_N (fun z => by have := gr_bT.mp z.1; omega)]
    rfl
  rw [e1] at this
  exact this
theorem xc_frag {post : Int32 → Prop} (g : cx_G n L A B) (hX : cx_X L A B en) (k1 : n ≠ 1 → ¬ 1 < pv_g A B L (2 ^ n - 1) → post (nI (pv_fX A B n L 256))) (k0 : (n = 1 ∨ 1 < pv_g A B L (2 ^ n - 1)) → post 0) : wpX_fragile post (nI n, nI L, vm, vr, vb, vh, en, od, lw, fr, cy, nx, rt, tb) := by
  have n8 := g.1.2
  have n0 := g.1.1
  have a8 := pv_a8 n8
  unfold wpX_fragile
  dsimp only
  refine xl_all n8 ?_
  refine pk_eq n 1 (fun w => k0 (Or.inl w)) (fun n1 => ?_)
  refine xl_count g hX (fun _ _ h => h) g.2.1 a8 ?_
  have g8 := pv_g8 A B (us := L) a8
  refine pk_le (pv_g A B L (2 ^ n - 1)) 1 (fun w => nm_r (e' := nI (n - 1)) (pk_sub (b := 1) n0) ⟨256, ?_⟩) (fun w => k0 (Or.inr w))
  have k := k1 n1 (by omega)
  have a : ∀ f i, 256 < f + i → 1 ≤ i → i ≤ 256 → wX_fragile_37 post (nI (2 ^ n - 1)) (nI n) (nI L) vm vr vb vh en od lw fr cy nx rt tb f (nI (pv_fX A B n L i)) (nI i) := by
    intro f
    induction f with
    | zero => intro i h h' h''; omega
    | succ f ih =>
      intro i h h' h''
      rw [wX_fragile_37]
      by_cases e : i = 256
      · subst e
        exact br_t (nI_le (b := 256) (by omega) (by omega)) k
      · have nxt := ih (i + 1) (by omega) (by omega) (by omega)
        refine br_f (nI_ge (b := 256) (by omega) (by omega)) (pk_le (2 ^ n - 1) i (fun q => nm_r (nI_1 i) ?_) (fun q => ?_))
        · unfold pv_fX at nxt ⊢
          rw [mf_N (fun z => by have := (gr_bT.mp z.1).1; omega)] at nxt
          exact nxt
        · refine xl_bits (by omega) ?_
          have b1 : pv_fX A B n L i ≤ n - 1 := pv_fXb i
          have b2 : pv_o i ≤ 16 := pv_cn _ 16
          refine pk_le (pv_fX A B n L i) (pv_o i) (fun z => nm_r (nI_1 i) ?_) (fun z => ?_)
          · unfold pv_fX at nxt z ⊢
            rw [mf_N (fun y => by have := y.2; omega)] at nxt
            exact nxt
          · rw [bi_not]
            have b8 : bi_d (2 ^ n - 1) i < 256 := bi_dlt (n := 8) a8
            refine xl_count g hX (fun _ _ h => h) g.2.1 b8 ?_
            have c8 := pv_g8 A B (us := L) b8
            refine pk_le (pv_g A B L (bi_d (2 ^ n - 1) i)) 1 (fun y => nm_r (nI_1 i) ?_) (fun y => nm_r (nI_1 i) ?_)
            · unfold pv_fX at nxt z ⊢
              rw [mf_N (fun v => by have := (gr_bT.mp v.1).2; omega)] at nxt
              exact nxt
            · unfold pv_fX at nxt z
              rw [mf_P ⟨gr_bT.mpr ⟨⟨h', q⟩, y⟩, z⟩] at nxt
              exact nxt
  have := a 256 1 (by omega) (by omega) (by omega)
  have e1 : pv_fX A B n L 1 = n - 1 := by
    unfold pv_fX
    rw [mf_N (fun z => by have := (gr_bT.mp z.1).1; omega)]
    rfl
  rw [e1] at this
  exact this
end
end
section
/-! X: rings, sides, trees -/
/-- the least ring by layers -/
def pv_rP (D : Nat → Prop) (r : Int32) : Prop := (∃ l, 2 ≤ l ∧ l ≤ 8 ∧ D (l - 1) ∧ (∀ j, 2 ≤ j → j < l → ¬ D (j - 1)) ∧ r = nI l) ∨ ((∀ j, 2 ≤ j → j ≤ 8 → ¬ D (j - 1)) ∧ r = -3)
noncomputable def pv_ring (D : Nat → Prop) : Int32 := Classical.epsilon (pv_rP D)
theorem pv_rU {D : Nat → Prop} {r s : Int32} (h : pv_rP D r) (k : pv_rP D s) : r = s := by
  rcases h with ⟨l, h1, h2, h3, h4, h5⟩ | ⟨h1, h2⟩
  · rcases k with ⟨m, k1, k2, k3, k4, k5⟩ | ⟨k1, k2⟩
    · have : l = m := by
        apply Classical.byContradiction
        intro ne
        by_cases c : l < m
        · exact k4 l h1 c h3
        · exact h4 m k1 (by omega) k3
      rw [h5, k5, this]
    · exact absurd h3 (k1 l h1 h2)
  · rcases k with ⟨m, k1, k2, k3, k4, k5⟩ | ⟨k1, k2⟩
    · exact absurd k3 (h1 m k1 k2)
    · rw [h2, k2]
theorem pv_rE {D : Nat → Prop} {r : Int32} (h : pv_rP D r) : r = pv_ring D := pv_rU h (Classical.epsilon_spec (p := pv_rP D) ⟨r, h⟩)
theorem pv_rX (D : Nat → Prop) : ∃ r, pv_rP D r := by
  by_cases h : ∃ l, 2 ≤ l ∧ l ≤ 8 ∧ D (l - 1)
  · obtain ⟨l, h1, h2, h3⟩ := h
    obtain ⟨m, m1, m2, m3⟩ := gr_least (fun l => 2 ≤ l ∧ l ≤ 8 ∧ D (l - 1)) l ⟨h1, h2, h3⟩
    exact ⟨nI m, Or.inl ⟨m, m2.1, m2.2.1, m2.2.2, fun j j1 j2 j3 => m3 j j2 ⟨j1, by have := m2.2.1; omega, j3⟩, rfl⟩⟩
  · exact ⟨-3, Or.inr ⟨fun j j1 j2 j3 => h ⟨j, j1, j2, j3⟩, rfl⟩⟩
theorem pv_rS (D : Nat → Prop) : pv_rP D (pv_ring D) := by
  obtain ⟨r, h⟩ := pv_rX D
  rw [← pv_rE h]
  exact h
theorem pv_rB (D : Nat → Prop) : pv_ring D = -3 ∨ ∃ l, 2 ≤ l ∧ l ≤ 8 ∧ pv_ring D = nI l := by
  rcases pv_rS D with ⟨l, h1, h2, _, _, h5⟩ | ⟨_, h2⟩
  · exact Or.inr ⟨l, h1, h2, h5⟩
  · exact Or.inl h2
theorem pv_rC {D F : Nat → Prop} (h : ∀ i, D i ↔ F i) : pv_ring D = pv_ring F := by
  have : D = F := funext (fun i => propext (h i))
  rw [this]
theorem sp_wB {A B : Nat → Nat} {us L n r : Nat} (g : cx_G n L A B) (hu : ∀ k, k < 16 → us.testBit k = true → L.testBit k = true) (hr : r < 256) : ∀ i, i ≤ 16 → sp_w A B us r i < 256 := by
  intro i
  induction i with
  | zero => intro _; exact hr
  | succ i ih =>
    intro h
    unfold sp_w
    split
    · rename_i q
      exact Nat.or_lt_two_pow (n := 8) (ih (by omega)) (cx_e8 g (by omega) (hu i (by omega) q.1))
    · exact ih (by omega)
theorem sp_wP {A B : Nat → Nat} {us r i : Nat} (h : us.testBit i = true ∧ bi_e (A i) (B i) &&& r ≠ 0) : sp_w A B us r (i + 1) = sp_w A B us r i ||| bi_e (A i) (B i) := by
  show (if _ then _ else _) = _
  rw [if_pos h]
theorem sp_wN {A B : Nat → Nat} {us r i : Nat} (h : ¬ (us.testBit i = true ∧ bi_e (A i) (B i) &&& r ≠ 0)) : sp_w A B us r (i + 1) = sp_w A B us r i := by
  show (if _ then _ else _) = _
  rw [if_neg h]
theorem pv_lyB {A B : Nat → Nat} {us L n x : Nat} (g : cx_G n L A B) (hu : ∀ k, k < 16 → us.testBit k = true → L.testBit k = true) (hx : x < 8) : ∀ i, pv_ly A B us i x < 256 := by
  intro i
  induction i with
  | zero => exact Nat.pow_lt_pow_right (n := 8) (by omega) hx
  | succ i ih => exact sp_wB g hu ih 16 (Nat.le_refl _)
section
variable {n L : Nat} {A B : Nat → Nat} {vm vr vb vh : Int32} {en od lw fr cy nx rt : Nat → Int32} {tb : Nat → Int64}
theorem xd_widen {post : Int32 → Prop} (g : cx_G n L A B) (hX : cx_X L A B en) {r us : Nat} (hu : ∀ k, k < 16 → us.testBit k = true → L.testBit k = true) (u16 : us < 65536) (r8 : r < 256) (k : post (nI (sp_w A B us r 16))) : wpX_widen post (nI n, nI L, vm, vr, vb, vh, en, od, lw, fr, cy, nx, rt, tb) (nI r) (nI us) := by
  have a : ∀ f i, 16 < f + i → i ≤ 16 → wX_widen_5 post (nI r) (nI us) (nI n) (nI L) vm vr vb vh en od lw fr cy nx rt tb f (nI (sp_w A B us r i)) (nI i) := by
    intro f
    induction f with
    | zero => intro i h h'; omega
    | succ f ih =>
      intro i h h'
      rw [wX_widen_5]
      by_cases e : i = 16
      · subst e
        exact br_t (nI_le (b := 16) (by omega) (by omega)) k
      · have i16 : i < 16 := by omega
        have c : (nI i).toNatClampNeg = i := nI_clamp (by omega)
        have v : vp_in (nI i) 16 := vp_in_nI i16 (by omega)
        have nxt := ih (i + 1) (by omega) (by omega)
        refine br_f (nI_ge (b := 16) (by omega) (by omega)) (ek_if (bi_b1 (by omega) (by omega)) (fun u => ?_) (fun u => ?_))
        · have ei := hX i i16 (hu i i16 u)
          refine ⟨v, ek_if (d := bi_e (A i) (B i) &&& r = 0) (by rw [c, ei, nx_and, bi_z (Nat.lt_trans (Nat.and_lt_two_pow (n := 8) _ r8) (by omega))]) (fun w => ?_) (fun w => ?_)⟩
          · rw [sp_wN (fun z => z.2 w)] at nxt
            exact nm_r (nI_1 i) nxt
          · rw [sp_wP ⟨u, w⟩] at nxt
            exact ⟨v, nm_r (by rw [c, ei, bi_or]) (nm_r (nI_1 i) nxt)⟩
        · rw [sp_wN (fun z => u z.1)] at nxt
          exact nm_r (nI_1 i) nxt
  exact ⟨17, a 17 0 (by omega) (by omega)⟩
/-- the layers around line k -/
def xd_D (A B : Nat → Nat) (L k i : Nat) : Prop := (pv_ly A B (bi_d L (2 ^ k)) i (A k)).testBit (B k) = true
theorem xd_ring {post : Int32 → Prop} (g : cx_G n L A B) (hX : cx_X L A B en) {k : Nat} (hk : k < 16) (lk : L.testBit k = true) (kk : post (pv_ring (xd_D A B L k))) : wpX_leastRing post (nI n, nI L, vm, vr, vb, vh, en, od, lw, fr, cy, nx, rt, tb) (nI k) := by
  have n8 := g.1.2
  have ck : (nI k).toNatClampNeg = k := nI_clamp (by omega)
  have vk : vp_in (nI k) 16 := vp_in_nI hk (by omega)
  obtain ⟨g1, g2, g3⟩ := g.2.2 k hk lk
  have ek := hX k hk lk
  have e8 := cx_e8 g hk lk
  -- the lesser end x and the other y
  have xy : ∃ x y, x < y ∧ y < 8 ∧ (∀ i, (pv_ly A B (bi_d L (2 ^ k)) i x).testBit y = true ↔ xd_D A B L k i) ∧ (∀ z, (bi_e (A k) (B k)).testBit z = true ↔ (z = x ∨ z = y)) := by
    by_cases c : A k < B k
    · exact ⟨A k, B k, c, by omega, fun i => Iff.rfl, fun z => bi_eT _ _ _⟩
    · refine ⟨B k, A k, by omega, by omega, fun i => pv_lyS i _ _, fun z => ?_⟩
      rw [bi_eT]
      exact ⟨fun h => h.elim Or.inr Or.inl, fun h => h.elim Or.inr Or.inl⟩
  obtain ⟨x, y, xly, y8, hD, hE⟩ := xy
  have u16 : bi_d L (2 ^ k) < 65536 := bi_dlt (n := 16) g.2.1
  have gy : bi_d (bi_e (A k) (B k)) (2 ^ x) = 2 ^ y := by
    apply pv_ext
    intro z
    rw [pv_dT, hE, pv_2p, pv_2p]
    omega
  have a : ∀ f l, 8 < f + l → l ≤ 8 → 1 ≤ l → (∀ j, 2 ≤ j → j ≤ l → ¬ xd_D A B L k (j - 1)) → wX_leastRing_43 post (nI (2 ^ y)) (nI (bi_d L (2 ^ k))) (nI n) (nI L) vm vr vb vh en od lw fr cy nx rt tb f (nI (pv_ly A B (bi_d L (2 ^ k)) (l - 1) x)) (nI (l + 1)) := by
    intro f
    induction f with
    | zero => intro l h h' h''; omega
    | succ f ih =>
      intro l h h' h'' hn
      rw [wX_leastRing_43]
      by_cases e : l = 8
      · subst e
        refine br_t (nI_lt (a := 8) (b := 9) (by omega) (by omega)) ?_
        have : (-3 : Int32) = pv_ring (xd_D A B L k) := pv_rE (Or.inr ⟨fun j j1 j2 => hn j j1 j2, rfl⟩)
        rw [this]
        exact kk
      · have lb := pv_lyB g (us := bi_d L (2 ^ k)) cx_dL (show x < 8 by omega)
        refine br_f (nI_nlt (a := 8) (b := l + 1) (by omega) (by omega)) ?_
        refine xd_widen g hX cx_dL u16 (lb (l - 1)) ?_
        have es : sp_w A B (bi_d L (2 ^ k)) (pv_ly A B (bi_d L (2 ^ k)) (l - 1) x) 16 = pv_ly A B (bi_d L (2 ^ k)) l x := by
          obtain ⟨m, rfl⟩ : ∃ m, l = m + 1 := ⟨l - 1, by omega⟩
          rfl
        rw [es]
        have l8 := lb l
        refine ek_if (d := ¬ xd_D A B L k l) ?_ (fun w => nm_r (nI_1 (l + 1)) (ih (l + 1) (by omega) (by omega) (by omega) (fun j j1 j2 => ?_))) (fun w => ?_)
        · rw [nx_and, bi_z (Nat.lt_trans (Nat.and_lt_two_pow (n := 8) _ (Nat.pow_lt_pow_right (by omega) y8)) (by omega)), ← hD l]
          have bz := bi_nz (pv_ly A B (bi_d L (2 ^ k)) l x &&& 2 ^ y)
          constructor
          · intro z w
            exact bz.mpr ⟨y, by rw [Nat.testBit_and, w, Nat.testBit_two_pow_self]; rfl⟩ z
          · intro w
            apply Classical.byContradiction
            intro z
            obtain ⟨i, hi⟩ := bz.mp z
            rw [Nat.testBit_and, Bool.and_eq_true, pv_2p] at hi
            rw [hi.2] at hi
            exact w hi.1
        · by_cases e2 : j = l + 1
          · rw [e2]; exact w
          · exact hn j j1 (by omega)
        · have : nI (l + 1) = pv_ring (xd_D A B L k) := pv_rE (Or.inl ⟨l + 1, by omega, by omega, Classical.byContradiction w, fun j j1 j2 => hn j j1 (by omega), rfl⟩)
          rw [this]
          exact kk
  refine ⟨vk, ?_⟩
  rw [ck, ek]
  refine xl_lowest (i := x) (by omega) (by omega) ((hE x).mpr (Or.inl rfl)) (fun j hj w => by have := (hE j).mp w; omega) ⟨vk, nm_r (e' := nI (2 ^ y)) (by rw [bi_1 (by omega), bi_not, gy]) (nm_r (e' := nI (bi_d L (2 ^ k))) (by rw [bi_1 (by omega), bi_not]) (nm_r (bi_1 (by omega)) ⟨8, a 8 1 (by omega) (by omega) (by omega) (fun j j1 j2 => by omega)⟩))⟩
theorem xd_around {post : Int32 → Prop} (g : cx_G n L A B) (hX : cx_X L A B en) {x : Int32} (k1 : ∀ k, k < 16 → x = nI k → L.testBit k = true → post (pv_ring (xd_D A B L k))) (k0 : (∀ k, k < 16 → x = nI k → ¬ L.testBit k = true) → post (-1)) : wpX_around post (nI n, nI L, vm, vr, vb, vh, en, od, lw, fr, cy, nx, rt, tb) x := by
  unfold wpX_around
  dsimp only
  refine xl_line g.2.1 (fun k hk ek lk => br_f (by decide) ?_) (fun h => br_t rfl (k0 h))
  subst ek
  exact xd_ring g hX hk lk (k1 k hk rfl lk)
/-- the shortest ring: lines before i -/
noncomputable def pv_sh (A B : Nat → Nat) (L : Nat) : Nat → Int32
  | 0 => -3
  | i + 1 => if gr_b (L.testBit i = true ∧ ¬ pv_ring (xd_D A B L i) = -3 ∧ (pv_sh A B L i = -3 ∨ ¬ pv_sh A B L i ≤ pv_ring (xd_D A B L i))) = true then pv_ring (xd_D A B L i) else pv_sh A B L i
theorem pv_shP {i : Nat} (h : L.testBit i = true ∧ ¬ pv_ring (xd_D A B L i) = -3 ∧ (pv_sh A B L i = -3 ∨ ¬ pv_sh A B L i ≤ pv_ring (xd_D A B L i))) : pv_sh A B L (i + 1) = pv_ring (xd_D A B L i) := by
  show (if _ then _ else _) = _
  rw [if_pos (gr_bT.mpr h)]
theorem pv_shN {i : Nat} (h : ¬ (L.testBit i = true ∧ ¬ pv_ring (xd_D A B L i) = -3 ∧ (pv_sh A B L i = -3 ∨ ¬ pv_sh A B L i ≤ pv_ring (xd_D A B L i)))) : pv_sh A B L (i + 1) = pv_sh A B L i := by
  show (if _ then _ else _) = _
  rw [if_neg (fun q => h (gr_bT.mp q))]
theorem pv_shB : ∀ i, pv_sh A B L i = -3 ∨ ∃ l, 2 ≤ l ∧ l ≤ 8 ∧ pv_sh A B L i = nI l := by
  intro i
  induction i with
  | zero => exact Or.inl rfl
  | succ i ih =>
    by_cases c : L.testBit i = true ∧ ¬ pv_ring (xd_D A B L i) = -3 ∧ (pv_sh A B L i = -3 ∨ ¬ pv_sh A B L i ≤ pv_ring (xd_D A B L i))
    · rw [pv_shP c]; exact pv_rB _
    · rw [pv_shN c]; exact ih
theorem xd_short {post : Int32 → Prop} (g : cx_G n L A B) (hX : cx_X L A B en) (k : post (pv_sh A B L 16)) : wpX_shortest post (nI n, nI L, vm, vr, vb, vh, en, od, lw, fr, cy, nx, rt, tb) := by
  have a : ∀ f i, 16 < f + i → i ≤ 16 → wX_shortest_5 post (nI n) (nI L) vm vr vb vh en od lw fr cy nx rt tb f (pv_sh A B L i) (nI i) := by
    intro f
    induction f with
    | zero => intro i h h'; omega
    | succ f ih =>
      intro i h h'
      rw [wX_shortest_5]
      by_cases e : i = 16
      · subst e
        exact br_t (nI_le (b := 16) (by omega) (by omega)) k
      · have i16 : i < 16 := by omega
        have nxt := ih (i + 1) (by omega) (by omega)
        refine br_f (nI_ge (b := 16) (by omega) (by omega)) (xl_lineN g.2.1 i16 (fun u => br_f (by decide) ?_) (fun u => br_t rfl (nm_r (nI_1 i) ?_)))
        · refine xd_ring g hX i16 u ?_
          by_cases w : pv_ring (xd_D A B L i) = -3
          · refine br_t w (nm_r (nI_1 i) ?_)
            rw [pv_shN (fun z => z.2.1 w)] at nxt
            exact nxt
          · refine br_f w ?_
            by_cases z : pv_sh A B L i = -3
            · refine br_t z (nm_r (nI_1 i) ?_)
              rw [pv_shP ⟨u, w, Or.inl z⟩] at nxt
              exact nxt
            · refine br_f z ?_
              by_cases y : pv_sh A B L i ≤ pv_ring (xd_D A B L i)
              · refine br_t y (nm_r (nI_1 i) ?_)
                rw [pv_shN (fun q => q.2.2.elim z (fun v => v y))] at nxt
                exact nxt
              · refine br_f y (nm_r (nI_1 i) ?_)
                rw [pv_shP ⟨u, w, Or.inr y⟩] at nxt
                exact nxt
        · rw [pv_shN (fun z => u z.1)] at nxt
          exact nxt
  exact ⟨17, a 17 0 (by omega) (by omega)⟩
theorem xd_par {i : Nat} (h : i < 2 ^ 31) : (nI i &&& 1 = 0) ↔ i % 2 = 0 := by
  have e : nI i &&& 1 = nI (i % 2) := by
    show nI i &&& nI 1 = _
    rw [nx_and, Nat.and_one_is_mod]
  rw [e, bi_z (by omega)]
theorem xd_even {post : Int32 → Prop} (g : cx_G n L A B) (hX : cx_X L A B en) {p : Nat} (p8 : p < 8) (k : post (nI (pv_ev (fun s => sp_w A B L s 16) (2 ^ p) 7))) : wpX_evenPoints post (nI n, nI L, vm, vr, vb, vh, en, od, lw, fr, cy, nx, rt, tb) (nI (2 ^ p)) := by
  have lb := pv_lyB g (us := L) (fun _ _ h => h) p8
  have a : ∀ f i, 7 < f + i → i ≤ 7 → wX_evenPoints_7 post (nI n) (nI L) vm vr vb vh en od lw fr cy nx rt tb f (nI (pv_ev (fun s => sp_w A B L s 16) (2 ^ p) i)) (nI (pv_ly A B L i p)) (nI (i + 1)) := by
    intro f
    induction f with
    | zero => intro i h h'; omega
    | succ f ih =>
      intro i h h'
      rw [wX_evenPoints_7]
      by_cases e : i = 7
      · subst e
        exact br_t (nI_le (a := 8) (b := 8) (by omega) (by omega)) k
      · have nxt := ih (i + 1) (by omega) (by omega)
        refine br_f (nI_ge (a := i + 1) (b := 8) (by omega) (by omega)) ?_
        refine xd_widen g hX (fun _ _ h => h) g.2.1 (lb i) ?_
        refine ek_if (xd_par (by omega)) (fun w => ?_) (fun w => nm_r (nI_1 (i + 1)) ?_)
        · rw [pv_evP w] at nxt
          exact nm_r (by rw [bi_not, bi_or]; rfl) (nm_r (nI_1 (i + 1)) nxt)
        · rw [pv_evN w] at nxt
          exact nxt
  exact ⟨8, a 8 0 (by omega) (by omega)⟩
theorem xd_sides {post : Int32 → Prop} (g : cx_G n L A B) (hX : cx_X L A B en) (k1 : (∀ k, k < 16 → L.testBit k = true → ¬ ((pv_sd (fun p => pv_ev (fun s => sp_w A B L s 16) (2 ^ p) 7) (fun p => sp_X A B L (2 ^ n - 1) (2 ^ p)) n).1.testBit (A k) = true ↔ (pv_sd (fun p => pv_ev (fun s => sp_w A B L s 16) (2 ^ p) 7) (fun p => sp_X A B L (2 ^ n - 1) (2 ^ p)) n).1.testBit (B k) = true)) → post (nI (pv_sd (fun p => pv_ev (fun s => sp_w A B L s 16) (2 ^ p) 7) (fun p => sp_X A B L (2 ^ n - 1) (2 ^ p)) n).1))
    (k0 : ¬ (∀ k, k < 16 → L.testBit k = true → ¬ ((pv_sd (fun p => pv_ev (fun s => sp_w A B L s 16) (2 ^ p) 7) (fun p => sp_X A B L (2 ^ n - 1) (2 ^ p)) n).1.testBit (A k) = true ↔ (pv_sd (fun p => pv_ev (fun s => sp_w A B L s 16) (2 ^ p) 7) (fun p => sp_X A B L (2 ^ n - 1) (2 ^ p)) n).1.testBit (B k) = true)) → post (-3)) : wpX_sides post (nI n, nI L, vm, vr, vb, vh, en, od, lw, fr, cy, nx, rt, tb) := by
  have n8 := g.1.2
  have a8 := pv_a8 n8
  have sb : ∀ p, p ≤ n → (pv_sd (fun p => pv_ev (fun s => sp_w A B L s 16) (2 ^ p) 7) (fun p => sp_X A B L (2 ^ n - 1) (2 ^ p)) p).1 < 256 ∧ (pv_sd (fun p => pv_ev (fun s => sp_w A B L s 16) (2 ^ p) 7) (fun p => sp_X A B L (2 ^ n - 1) (2 ^ p)) p).2 < 256 := by
    intro p
    induction p with
    | zero => intro _; exact ⟨by show 0 < 256; omega, by show 0 < 256; omega⟩
    | succ p ih =>
      intro hp
      have ih := ih (by omega)
      by_cases c : (pv_sd (fun p => pv_ev (fun s => sp_w A B L s 16) (2 ^ p) 7) (fun p => sp_X A B L (2 ^ n - 1) (2 ^ p)) p).2.testBit p = true
      · rw [pv_sdP c]; exact ih
      · rw [pv_sdN c]
        exact ⟨Nat.or_lt_two_pow (n := 8) ih.1 (pv_evB (n := 8) (pv_lyB g (us := L) (fun _ _ h => h) (show p < 8 by omega)) 7), Nat.or_lt_two_pow (n := 8) ih.2 (sp_XB a8)⟩
  unfold wpX_sides
  dsimp only
  refine xl_all n8 ?_
  refine ⟨n + 1, ?_⟩
  have a : ∀ f p, n < f + p → p ≤ n → wX_sides_12 post (nI (2 ^ n - 1)) (nI n) (nI L) vm vr vb vh en od lw fr cy nx rt tb f (nI (pv_sd (fun p => pv_ev (fun s => sp_w A B L s 16) (2 ^ p) 7) (fun p => sp_X A B L (2 ^ n - 1) (2 ^ p)) p).1) (nI (pv_sd (fun p => pv_ev (fun s => sp_w A B L s 16) (2 ^ p) 7) (fun p => sp_X A B L (2 ^ n - 1) (2 ^ p)) p).2) (nI p) := by
    intro f
    induction f with
    | zero => intro p h h'; omega
    | succ f ih =>
      intro p h h'
      have sp := sb p h'
      rw [wX_sides_12]
      by_cases e : p = n
      · subst e
        refine br_t (nI_le (by omega) (by omega)) ?_
        refine xl_cross g hX sp.1 a8 ?_
        have xl := pv_xL A B L (pv_sd (fun p => pv_ev (fun s => sp_w A B L s 16) (2 ^ p) 7) (fun q => sp_X A B L (2 ^ p - 1) (2 ^ q)) p).1 (2 ^ p - 1)
        have L16 := g.2.1
        refine ek_if (d := ∀ k, k < 16 → L.testBit k = true → ¬ ((pv_sd (fun p => pv_ev (fun s => sp_w A B L s 16) (2 ^ p) 7) (fun q => sp_X A B L (2 ^ p - 1) (2 ^ q)) p).1.testBit (A k) = true ↔ (pv_sd (fun p => pv_ev (fun s => sp_w A B L s 16) (2 ^ p) 7) (fun q => sp_X A B L (2 ^ p - 1) (2 ^ q)) p).1.testBit (B k) = true)) (by rw [nI_eq (by omega) (by omega)]; exact pv_sdL g) k1 k0
      · have nxt := ih (p + 1) (by omega) (by omega)
        refine br_f (nI_ge (by omega) (by omega)) (ek_if (bi_b0 (by omega) (by omega)) (fun u => ?_) (fun u => nm_r (nI_1 p) ?_))
        · rw [pv_sdN u] at nxt
          rw [bi_1 (by omega)]
          refine xd_even g hX (by omega) ?_
          refine nm_r (bi_or _ _) ?_
          refine xl_spread g hX (fun _ _ h => h) g.2.1 a8 ?_
          exact nm_r (bi_or _ _) (nm_r (nI_1 p) nxt)
        · rw [pv_sdP (Classical.byContradiction u)] at nxt
          exact nxt
  exact a (n + 1) 0 (by omega) (by omega)
end
end
section
/-! X: trees -/
theorem xt_ix (a b : Nat) : nI a * 8 + nI b = nI (a * 8 + b) := by
  rw [show nI a * 8 = nI (a * 8) from pk_mul a 8, nI_add]
theorem xt_cl {a b : Nat} (ha : a < 8) (hb : b < 8) : (nI (a * 8 + b)).toNatClampNeg = a * 8 + b := nI_clamp (by omega)
theorem xt_in {a b : Nat} (ha : a < 8) (hb : b < 8) : vp_in (nI (a * 8 + b)) 64 := vp_in_nI (by omega) (by omega)
section
variable {n L : Nat} {A B : Nat → Nat} {vm vr vb vh : Int32} {en od lw fr cy nx rt : Nat → Int32} {tb : Nat → Int64}
theorem xt_23 {post : SX → Prop} (g : cx_G n L A B) (hX : cx_X L A B en) (k : ∀ tb, bz_F L A B 16 tb → post (nI n, nI L, vm, vr, vb, vh, en, od, lw, fr, cy, nx, rt, tb)) : ∀ (f i : Nat) (tb : Nat → Int64), 16 < f + i → i ≤ 16 → bz_F L A B i tb → wX_fillTable_23 post (nI n) (nI L) vm vr vb vh f (nI i) en od lw fr cy nx rt tb := by
  intro f
  have n8 := g.1.2
  induction f with
  | zero => intro i tb h h'; omega
  | succ f ih =>
    intro i tb h h' hF
    rw [wX_fillTable_23]
    by_cases e : i = 16
    · subst e
      exact br_t (nI_le (b := 16) (by omega) (by omega)) (k tb hF)
    · have i16 : i < 16 := by omega
      have ci : (nI i).toNatClampNeg = i := nI_clamp (by omega)
      have vi : vp_in (nI i) 16 := vp_in_nI i16 (by omega)
      refine br_f (nI_ge (b := 16) (by omega) (by omega)) (xl_lineN g.2.1 i16 (fun u => br_f (by decide) ⟨vi, ?_⟩) (fun u => br_t rfl (nm_r (nI_1 i) (ih (i + 1) tb (by omega) (by omega) (bz_FN hF u)))))
      have ei := hX i i16 u
      have e8 := cx_e8 g i16 u
      obtain ⟨g1, g2, g3⟩ := g.2.2 i i16 u
      have xy : ∃ x y, x < y ∧ y < 8 ∧ ((x = A i ∧ y = B i) ∨ (x = B i ∧ y = A i)) := by
        by_cases c : A i < B i
        · exact ⟨A i, B i, c, by omega, Or.inl ⟨rfl, rfl⟩⟩
        · exact ⟨B i, A i, by omega, by omega, Or.inr ⟨rfl, rfl⟩⟩
      obtain ⟨x, y, xly, y8, hE'⟩ := xy
      have hE : ∀ z, (bi_e (A i) (B i)).testBit z = true ↔ (z = x ∨ z = y) := by
        intro z
        rw [bi_eT]
        omega
      have gy : bi_d (bi_e (A i) (B i)) (2 ^ x) = 2 ^ y := by
        apply pv_ext
        intro z
        rw [pv_dT, hE, pv_2p, pv_2p]
        omega
      have x8 : x < 8 := by omega
      have y31 : 2 ^ y < 256 := Nat.pow_lt_pow_right (n := 8) (by omega) y8
      rw [ci, ei]
      refine xl_lowest (i := x) (by omega) x8 ((hE x).mpr (Or.inl rfl)) (fun j hj w => by have := (hE j).mp w; omega) ⟨vi, ?_⟩
      rw [bi_1 (by omega), bi_not, gy]
      refine xl_lowest (i := y) (by omega) y8 ((pv_2p y y).mpr rfl) (fun j hj w => by have := (pv_2p y j).mp w; omega) ?_
      rw [xt_ix x x, xt_ix y y, xt_ix x y, xt_ix y x, xt_cl x8 x8, xt_cl y8 y8, xt_cl x8 y8, xt_cl y8 x8]
      exact ⟨xt_in x8 x8, xt_in x8 x8, nm_e ⟨xt_in y8 y8, xt_in y8 y8, nm_e ⟨xt_in x8 y8, xt_in x8 y8, nm_e ⟨xt_in y8 x8, xt_in y8 x8, nm_e (nm_r (nI_1 i) (ih (i + 1) _ (by omega) (by omega) (bz_FS hF u x8 y8 (by omega) hE' rfl rfl rfl rfl)))⟩⟩⟩⟩
theorem xt_fill {post : SX → Prop} (g : cx_G n L A B) (hX : cx_X L A B en) (k : ∀ tb, bz_F L A B 16 tb → post (nI n, nI L, vm, vr, vb, vh, en, od, lw, fr, cy, nx, rt, tb)) : wpX_fillTable post (nI n, nI L, vm, vr, vb, vh, en, od, lw, fr, cy, nx, rt, tb) := by
  refine ⟨65, ?_⟩
  have a : ∀ (f i : Nat) (tb : Nat → Int64), 64 < f + i → i ≤ 64 → (∀ q, q < i → tb q = 0) → wX_fillTable_2 post (nI n) (nI L) vm vr vb vh f (nI i) en od lw fr cy nx rt tb := by
    intro f
    induction f with
    | zero => intro i tb h h'; omega
    | succ f ih =>
      intro i tb h h' hz
      rw [wX_fillTable_2]
      by_cases e : i = 64
      · subst e
        exact br_t (nI_le (b := 64) (by omega) (by omega)) ⟨17, xt_23 g hX k 17 0 tb (by omega) (by omega) (bz_F0 hz)⟩
      · have c : (nI i).toNatClampNeg = i := nI_clamp (by omega)
        refine br_f (nI_ge (b := 64) (by omega) (by omega)) ⟨vp_in_nI (by omega) (by omega), nm_e (nm_r (nI_1 i) (ih (i + 1) _ (by omega) (by omega) (fun q hq => ?_)))⟩
        rw [c]
        by_cases w : q = i
        · rw [w, pk_uLs]
        · rw [pk_uLn w]; exact hz q (by omega)
  exact a 65 0 tb (by omega) (by omega) (fun q hq => by omega)
theorem xt_68 {post : Int64 → SX → Prop} {J5 : Int64 → Int32 → (Nat → Int32) → (Nat → Int32) → (Nat → Int32) → (Nat → Int32) → (Nat → Int32) → (Nat → Int32) → (Nat → Int32) → (Nat → Int64) → Prop} {J41 : Int32 → (Nat → Int32) → (Nat → Int32) → (Nat → Int32) → (Nat → Int32) → (Nat → Int32) → (Nat → Int32) → (Nat → Int32) → (Nat → Int64) → Prop} {M : Nat → Nat → Int} {s d i : Nat} (s7 : s ≤ 7) (hM : ∀ i, i < s → dt_sum (fun j => ((M i j).natAbs : Int)) s ≤ 32) (nz : ∀ k, 1 ≤ k → k ≤ d → dt_d k M ≠ 0) (di : d < i) (hi : i < s)
    (hJ : ∀ tb, bz_T M s d i s tb → J41 (nI (i + 1)) en od lw fr cy nx rt tb) : ∀ (f j : Nat) (tb : Nat → Int64), s < f + j → d < j → j ≤ s → bz_T M s d i j tb → wX_determinant_68 post J5 J41 (nI s) (Int64.ofInt (dt_d d M)) (nI d) (Int64.ofInt (dt_d (d + 1) M)) (nI i) (Int64.ofInt (dt_bm M d i d)) (nI n) (nI L) vm vr vb vh f (nI j) en od lw fr cy nx rt tb := by
  intro f
  induction f with
  | zero => intro j tb h h' h''; omega
  | succ f ih =>
    intro j tb h h' h'' hT
    rw [wX_determinant_68]
    by_cases e : j = s
    · subst e
      exact br_t (nI_le (by omega) (by omega)) (nm_r (nI_1 i) (hJ tb hT))
    · have js : j < s := by omega
      obtain ⟨r1, r2, r3⟩ := bz_rd hT di hi h' js
      have i8 : i < 8 := by omega
      have j8 : j < 8 := by omega
      have d8 : d < 8 := by omega
      have w0 : ¬ Int64.ofInt (dt_d d M) = 0 := by
        rw [bz_z (bz_b s7 hM (by omega))]
        intro q
        by_cases d0 : d = 0
        · rw [d0] at q
          have : (1 : Int) = 0 := q
          omega
        · exact nz d (by omega) (Nat.le_refl _) q
      refine br_f (nI_ge (by omega) (by omega)) ?_
      rw [xt_ix i j, xt_ix d j, xt_cl i8 j8, xt_cl d8 j8]
      exact ⟨xt_in i8 j8, nm_r (by rw [r1]) ⟨xt_in d8 j8, nm_r (by rw [r3]) ⟨w0, xt_in i8 j8, nm_r (by rw [bz_q s7 hM di hi h' js nz]) (nm_r (nI_1 j) (ih (j + 1) _ (by omega) (by omega) (by omega) (bz_Tw hT di hi h' js (by omega))))⟩⟩⟩
theorem xt_41 {post : Int64 → SX → Prop} {J5 : Int64 → Int32 → (Nat → Int32) → (Nat → Int32) → (Nat → Int32) → (Nat → Int32) → (Nat → Int32) → (Nat → Int32) → (Nat → Int32) → (Nat → Int64) → Prop} {M : Nat → Nat → Int} {s d : Nat} (s7 : s ≤ 7) (hM : ∀ i, i < s → dt_sum (fun j => ((M i j).natAbs : Int)) s ≤ 32) (nz : ∀ k, 1 ≤ k → k ≤ d → dt_d k M ≠ 0) (ds : d < s)
    (hJ : ∀ tb, bz_T M s d s (d + 1) tb → J5 (Int64.ofInt (dt_d (d + 1) M)) (nI (d + 1)) en od lw fr cy nx rt tb) : ∀ (f i : Nat) (tb : Nat → Int64), s < f + i → d < i → i ≤ s → bz_T M s d i (d + 1) tb → wX_determinant_41 post J5 (nI s) (Int64.ofInt (dt_d d M)) (nI d) (Int64.ofInt (dt_d (d + 1) M)) (nI n) (nI L) vm vr vb vh f (nI i) en od lw fr cy nx rt tb := by
  intro f
  induction f with
  | zero => intro i tb h h' h''; omega
  | succ f ih =>
    intro i tb h h' h'' hT
    rw [wX_determinant_41]
    by_cases e : i = s
    · subst e
      exact br_t (nI_le (by omega) (by omega)) (nm_r (nI_1 d) (hJ tb hT))
    · have is : i < s := by omega
      have i8 : i < 8 := by omega
      have d8 : d < 8 := by omega
      have r2 : tb (i * 8 + d) = Int64.ofInt (dt_bm M d i d) := by
        rw [hT i d (by omega) is (Nat.le_refl _) ds, if_neg (by omega)]
      refine br_f (nI_ge (by omega) (by omega)) ?_
      rw [xt_ix i d, xt_cl i8 d8]
      exact ⟨xt_in i8 d8, nm_r r2 (nm_r (nI_1 d) ⟨s + 1, xt_68 s7 hM nz h' is (fun tb hT' => ih (i + 1) tb (by omega) (by omega) (by omega) (bz_Tr hT')) (s + 1) (d + 1) tb (by omega) (by omega) (by omega) hT⟩)⟩
theorem xt_det {post : Int64 → SX → Prop} {M : Nat → Nat → Int} {s : Nat} (s7 : s ≤ 7) (hM : ∀ i, i < s → dt_sum (fun j => ((M i j).natAbs : Int)) s ≤ 32) (zp : ∀ d, d ≤ s → dt_d d M = 0 → dt_d s M = 0) (h0 : bz_T M s 0 1 1 tb) (k : ∀ tb, post (Int64.ofInt (dt_d s M)) (nI n, nI L, vm, vr, vb, vh, en, od, lw, fr, cy, nx, rt, tb)) : wpX_determinant post (nI n, nI L, vm, vr, vb, vh, en, od, lw, fr, cy, nx, rt, tb) (nI s) := by
  have a : ∀ (f d : Nat) (tb : Nat → Int64), s < f + d → d ≤ s → (∀ k, 1 ≤ k → k ≤ d → dt_d k M ≠ 0) → bz_T M s d (d + 1) (d + 1) tb → wX_determinant_5 post (nI s) (nI n) (nI L) vm vr vb vh f (Int64.ofInt (dt_d d M)) (nI d) en od lw fr cy nx rt tb := by
    intro f
    induction f with
    | zero => intro d tb h h'; omega
    | succ f ih =>
      intro d tb h h' nz hT
      rw [wX_determinant_5]
      by_cases e : d = s
      · subst e
        exact br_t (nI_le (by omega) (by omega)) (k tb)
      · have ds : d < s := by omega
        have d8 : d < 8 := by omega
        have r1 : tb (d * 8 + d) = Int64.ofInt (dt_d (d + 1) M) := by
          rw [hT d d (Nat.le_refl _) ds (Nat.le_refl _) ds, if_neg (by omega), dt_bmd]
        refine br_f (nI_ge (by omega) (by omega)) ?_
        rw [xt_ix d d, xt_cl d8 d8]
        refine ⟨xt_in d8 d8, nm_r r1 (ek_if (bz_z (bz_b s7 hM (by omega))) (fun z => ?_) (fun z => nm_r (nI_1 d) ⟨s + 1, ?_⟩))⟩
        · have := k tb
          rw [zp (d + 1) (by omega) z] at this
          exact this
        · refine xt_41 s7 hM nz ds (fun tb hT' => ?_) (s + 1) (d + 1) tb (by omega) (by omega) (by omega) hT
          refine ih (d + 1) tb (by omega) (by omega) (fun k k1 k2 => ?_) (bz_Td hT')
          by_cases e2 : k = d + 1
          · rw [e2]; exact z
          · exact nz k k1 (by omega)
  exact ⟨s + 1, a (s + 1) 0 tb (by omega) (by omega) (fun k k1 k2 => by omega) h0⟩
theorem xt_trees {post : Int32 → SX → Prop} (g : cx_G n L A B) (hX : cx_X L A B en) (k : ∀ tb, post (nI (pv_ty A B n L 65536)) (nI n, nI L, vm, vr, vb, vh, en, od, lw, fr, cy, nx, rt, tb)) : wpX_trees post (nI n, nI L, vm, vr, vb, vh, en, od, lw, fr, cy, nx, rt, tb) := by
  have n8 := g.1.2
  have n1 := g.1.1
  have N : dt_d (n - 1) (mt_L (fun k => L.testBit k) A B (mt_r0 (n - 1)) 16) = ((pv_ty A B n L 65536 : Nat) : Int) := by
    rw [pv_tyT g, mt_tree (fun k => L.testBit k) A B (n - 1) 16 (mt_r0 (n - 1)) (mt_r0V (n - 1)).1]
  unfold wpX_trees
  dsimp only
  refine xt_fill g hX ?_
  intro tb' hF
  have e : nI n - 1 = nI (n - 1) := pk_sub (b := 1) n1
  dsimp only
  rw [e]
  refine xt_det (M := mt_L (fun k => L.testBit k) A B (mt_r0 (n - 1)) 16) (by omega) (bz_M L A B (n - 1)) (fun d hd z => mt_piv (fun k => L.testBit k) A B hd 16 z) (bz_FT (by omega) hF) ?_
  intro tb''
  dsimp only
  rw [N, Int64.ofInt_eq_ofNat]
  have q : (Int64.ofNat (pv_ty A B n L 65536)).toInt32 = nI (pv_ty A B n L 65536) := lN_i _
  rw [q]
  exact k tb''
end
end
section
/-! Y: its methods against the same values -/
def cx_Y (L : Nat) (A B : Nat → Nat) (th ya yb : Nat → Int32) : Prop := ∀ k, k < 16 → th k = (if L.testBit k = true then 1 else 0) ∧ (L.testBit k = true → ya k = nI (A k) ∧ yb k = nI (B k))
theorem cx_th {L : Nat} {A B : Nat → Nat} {th ya yb : Nat → Int32} (hY : cx_Y L A B th ya yb) {k : Nat} (hk : k < 16) : th (nI k).toNatClampNeg = 0 ↔ ¬ L.testBit k = true := by
  rw [nI_clamp (by omega), (hY k hk).1]
  by_cases c : L.testBit k = true
  · rw [if_pos c]
    exact ⟨fun q => absurd q (by decide), fun q => absurd c q⟩
  · rw [if_neg c]
    exact ⟨fun _ => c, fun _ => rfl⟩
theorem sp_yB {A B : Nat → Nat} {us kp r : Nat} (hk : kp < 256) : ∀ i, gr_it (fun s => sp_y A B us s 16 &&& kp) i (r &&& kp) < 256 := by
  intro i
  cases i with
  | zero => exact Nat.and_lt_two_pow (n := 8) r hk
  | succ i => exact Nat.and_lt_two_pow (n := 8) _ hk
theorem yl_engX {x : Int32} : (x = 0 ∨ x = 1 ∨ x = 2) ↔ (¬ x < 0 ∧ ¬ 2 < x) := by
  constructor
  · rintro (h | h | h) <;> rw [h] <;> decide
  · rintro ⟨h1, h2⟩
    obtain ⟨j, hj, e⟩ := nI_of h1
    rw [e] at h2
    have : ¬ 2 < j := fun w => h2 (nI_lt (a := 2) w hj)
    have : j = 0 ∨ j = 1 ∨ j = 2 := by omega
    rcases this with w | w | w
    · exact Or.inl (by rw [e, w]; rfl)
    · exact Or.inr (Or.inl (by rw [e, w]; rfl))
    · exact Or.inr (Or.inr (by rw [e, w]; rfl))
section
variable {n L : Nat} {A B : Nat → Nat} {th ya yb : Nat → Int32}
theorem yl_engine {post : Int32 → Prop} {x : Int32} (h1 : (x = 0 ∨ x = 1 ∨ x = 2) → post 1) (h0 : ¬ (x = 0 ∨ x = 1 ∨ x = 2) → post 0) : wpY_engine post (nI n, th, ya, yb) x := by
  by_cases a : x < 0
  · exact br_t a (h0 (fun w => (yl_engX.mp w).1 a))
  · by_cases b : 2 < x
    · exact br_f a (br_t b (h0 (fun w => (yl_engX.mp w).2 b)))
    · exact br_f a (br_f b (h1 (yl_engX.mpr ⟨a, b⟩)))
theorem yl_is {post : Int32 → Prop} {x : Int32} (hY : cx_Y L A B th ya yb) (h1 : ∀ j, j < 16 → x = nI j → L.testBit j = true → post 1) (h0 : (∀ j, j < 16 → x = nI j → ¬ L.testBit j = true) → post 0) : wpY_is post (nI n, th, ya, yb) x := by
  rcases pk_ix x (n := 16) (by omega) with h | h | ⟨j, hj, rfl⟩
  · exact br_t h (h0 (fun j hj e => absurd h (by rw [e]; exact nI_pos (by omega))))
  · have q : ¬ x < 0 := by
      intro q
      have : (nI 16) < 0 := Int32.lt_of_le_of_lt h q
      exact absurd this (by decide)
    exact br_f q (br_t h (h0 (fun j hj e => absurd h (by rw [e]; exact nI_ge hj (by omega)))))
  · exact br_f (nI_pos (by omega)) (br_f (nI_ge (b := 16) hj (by omega)) ⟨vp_in_nI hj (by omega), ek_if (cx_th hY hj) (fun w => h0 (fun i hi e => by rw [← (nI_eq (by omega) (by omega)).mp e]; exact w)) (fun w => h1 j hj rfl (Classical.byContradiction w))⟩)
theorem yl_point {post : Int32 → Prop} {x : Int32} (hn : n ≤ 8) (h1 : ∀ j, j < n → x = nI j → post 1) (h0 : (∀ j, j < n → ¬ x = nI j) → post 0) : wpY_point post (nI n, th, ya, yb) x := by
  rcases pk_ix x (n := n) (by omega) with h | h | ⟨j, hj, rfl⟩
  · exact br_t h (h0 (fun j hj e => absurd h (by rw [e]; exact nI_pos (by omega))))
  · by_cases q : x < 0
    · exact br_t q (h0 (fun j hj e => absurd q (by rw [e]; exact nI_pos (by omega))))
    · exact br_f q (br_t h (h0 (fun j hj e => absurd h (by rw [e]; exact nI_ge hj (by omega)))))
  · exact br_f (nI_pos (by omega)) (br_f (nI_ge hj (by omega)) (h1 j hj rfl))
theorem yl_all {post : Int32 → Prop} (hn : n ≤ 8) (k : post (nI (2 ^ n - 1))) : wpY_all post (nI n, th, ya, yb) := by
  show post (((1 : Int32) <<< (nI n &&& 31)) - 1)
  rw [bi_all (by omega)]
  exact k
theorem yl_lines {post : Int32 → Prop} (g : cx_G n L A B) (hY : cx_Y L A B th ya yb) (k : post (nI L)) : wpY_lines post (nI n, th, ya, yb) := by
  have e16 : pv_m (fun k => L.testBit k = true) 16 = L := (pv_mI (fun k => ⟨fun h => ⟨pv_lt (n := 16) g.2.1 h, h⟩, fun h => h.2⟩)).symm
  have a : ∀ f i, 16 < f + i → i ≤ 16 → wY_lines_4 post (nI n) th ya yb f (nI (pv_m (fun k => L.testBit k = true) i)) (nI i) := by
    intro f
    induction f with
    | zero => intro i h h'; omega
    | succ f ih =>
      intro i h h'
      rw [wY_lines_4]
      by_cases e : i = 16
      · subst e
        refine br_t (nI_le (b := 16) (by omega) (by omega)) ?_
        rw [e16]
        exact k
      · have i16 : i < 16 := by omega
        have nxt := ih (i + 1) (by omega) (by omega)
        refine br_f (nI_ge (b := 16) (by omega) (by omega)) ⟨vp_in_nI i16 (by omega), ek_if (cx_th hY i16) (fun w => nm_r (nI_1 i) ?_) (fun w => ?_)⟩
        · rw [pv_mN (P := fun k => L.testBit k = true) (n := i) w] at nxt
          exact nxt
        · rw [pv_mP (P := fun k => L.testBit k = true) (n := i) (Classical.byContradiction w)] at nxt
          exact nm_r (by rw [bi_1 (by omega), bi_or]) (nm_r (nI_1 i) nxt)
  exact ⟨17, a 17 0 (by omega) (by omega)⟩
theorem yl_step {post : Int32 → Prop} (g : cx_G n L A B) (hY : cx_Y L A B th ya yb) {s us kp : Nat} (hu : ∀ k, k < 16 → us.testBit k = true → L.testBit k = true) (u16 : us < 65536) (s8 : s < 256) (k : post (nI (sp_y A B us s 16 &&& kp))) : wpY_step post (nI n, th, ya, yb) (nI s) (nI us) (nI kp) := by
  have n8 := g.1.2
  have a : ∀ f i, 16 < f + i → i ≤ 16 → wY_step_6 post (nI s) (nI us) (nI kp) (nI n) th ya yb f (nI (sp_y A B us s i)) (nI i) := by
    intro f
    induction f with
    | zero => intro i h h'; omega
    | succ f ih =>
      intro i h h'
      rw [wY_step_6]
      by_cases e : i = 16
      · subst e
        refine br_t (nI_le (b := 16) (by omega) (by omega)) ?_
        rw [nx_and]
        exact k
      · have i16 : i < 16 := by omega
        have c : (nI i).toNatClampNeg = i := nI_clamp (by omega)
        have v : vp_in (nI i) 16 := vp_in_nI i16 (by omega)
        have nxt := ih (i + 1) (by omega) (by omega)
        have es : sp_y A B us s (i + 1) = (if us.testBit i = true then (if s.testBit (B i) = true then (if s.testBit (A i) = true then sp_y A B us s i ||| 2 ^ (B i) else sp_y A B us s i) ||| 2 ^ (A i) else (if s.testBit (A i) = true then sp_y A B us s i ||| 2 ^ (B i) else sp_y A B us s i)) else sp_y A B us s i) := rfl
        rw [es] at nxt
        refine br_f (nI_ge (b := 16) (by omega) (by omega)) (ek_if (bi_b1 (by omega) (by omega)) (fun u => ?_) (fun u => nm_r (nI_1 i) ?_))
        · obtain ⟨ea, eb⟩ := (hY i i16).2 (hu i i16 u)
          obtain ⟨g1, g2, g3⟩ := g.2.2 i i16 (hu i i16 u)
          rw [if_pos u] at nxt
          have s55 : ∀ w, wY_step_6 post (nI s) (nI us) (nI kp) (nI n) th ya yb f (nI (if s.testBit (B i) = true then w ||| 2 ^ (A i) else w)) (nI (i + 1)) → wY_step_55 post (wY_step_6 post (nI s) (nI us) (nI kp) (nI n) th ya yb f) (nI s) (nI us) (nI kp) (nI i) (nI w) (nI n) th ya yb := by
            intro w hw
            refine ⟨v, ek_if (d := s.testBit (B i) = true) (by rw [c, eb]; exact bi_b1 (by omega) (by omega)) (fun q => ?_) (fun q => nm_r (nI_1 i) ?_)⟩
            · rw [if_pos q] at hw
              exact ⟨v, nm_r (by rw [c, ea, bi_1 (by omega), bi_or]) (nm_r (nI_1 i) hw)⟩
            · rw [if_neg q] at hw
              exact hw
          refine ⟨v, ek_if (d := s.testBit (A i) = true) (by rw [c, ea]; exact bi_b1 (by omega) (by omega)) (fun q => ⟨v, ?_⟩) (fun q => ?_)⟩
          · rw [if_pos q] at nxt
            rw [c, eb, bi_1 (by omega), bi_or]
            exact s55 _ nxt
          · rw [if_neg q] at nxt
            exact s55 _ nxt
        · rw [if_neg u] at nxt
          exact nxt
  exact ⟨17, a 17 0 (by omega) (by omega)⟩
theorem yl_joined {post : Int32 → Prop} (g : cx_G n L A B) (hY : cx_Y L A B th ya yb) {st us kp : Nat} (hu : ∀ k, k < 16 → us.testBit k = true → L.testBit k = true) (u16 : us < 65536) (k8 : kp < 256) (k : post (nI (sp_X A B us kp st))) : wpY_joined post (nI n, th, ya, yb) (nI st) (nI us) (nI kp) := by
  have a : ∀ f i, 8 < f + i → i ≤ 8 → wY_joined_8 post (nI us) (nI kp) (nI n) th ya yb f (nI (gr_it (fun s => sp_y A B us s 16 &&& kp) i (st &&& kp))) (nI i) := by
    intro f
    induction f with
    | zero => intro i h h'; omega
    | succ f ih =>
      intro i h h'
      rw [wY_joined_8]
      by_cases e : i = 8
      · subst e
        refine br_t (nI_le (b := 8) (by omega) (by omega)) ?_
        rw [sp_XY A B us kp k8 st] at k
        exact k
      · refine br_f (nI_ge (b := 8) (by omega) (by omega)) ?_
        refine yl_step g hY hu u16 (sp_yB k8 i) ?_
        exact nm_r (nI_1 i) (ih (i + 1) (by omega) (by omega))
  exact nm_r (nx_and st kp) ⟨9, a 9 0 (by omega) (by omega)⟩
theorem yl_many {post : Int32 → Prop} (g : cx_G n L A B) (hY : cx_Y L A B th ya yb) {kp us : Nat} (hu : ∀ k, k < 16 → us.testBit k = true → L.testBit k = true) (u16 : us < 65536) (k8 : kp < 256) (k : post (nI (pv_g A B us kp))) : wpY_many post (nI n, th, ya, yb) (nI us) (nI kp) := by
  have a : ∀ f p, 8 < f + p → p ≤ 8 → wY_many_8 post (nI us) (nI kp) (nI n) th ya yb f (nI (gc_s (fun p => sp_X A B us kp (2 ^ p)) kp p).1) (nI (gc_s (fun p => sp_X A B us kp (2 ^ p)) kp p).2) (nI p) := by
    intro f
    induction f with
    | zero => intro p h h'; omega
    | succ f ih =>
      intro p h h'
      rw [wY_many_8]
      by_cases e : p = 8
      · subst e
        exact br_t (nI_le (b := 8) (by omega) (by omega)) k
      · have b8 := gc_B (cl := fun p => sp_X A B us kp (2 ^ p)) k8 p
        refine br_f (nI_ge (b := 8) (by omega) (by omega)) (ek_if (bi_b1 (by omega) (by omega)) (fun u => ?_) (fun u => ?_))
        · rw [bi_1 (by omega)]
          refine yl_joined g hY hu u16 k8 (nm_r (bi_not _ _) (nm_r (nI_1 _) (nm_r (nI_1 p) ?_)))
          have := ih (p + 1) (by omega) (by omega)
          rw [gc_P u] at this
          exact this
        · refine nm_r (nI_1 p) ?_
          have := ih (p + 1) (by omega) (by omega)
          rw [gc_N u] at this
          exact this
  exact ⟨9, a 9 0 (by omega) (by omega)⟩
theorem yl_groups {post : Int32 → Prop} (g : cx_G n L A B) (hY : cx_Y L A B th ya yb) {x : Int32} (k1 : (x = 0 ∨ x = 1 ∨ x = 2) → post (nI (pv_g A B L (2 ^ n - 1)))) (k0 : ¬ (x = 0 ∨ x = 1 ∨ x = 2) → post (-1)) : wpY_groups post (nI n, th, ya, yb) x := by
  unfold wpY_groups
  dsimp only
  refine yl_engine (fun hx => br_f (by decide) ?_) (fun hx => br_t rfl (k0 hx))
  refine yl_lines g hY ?_
  refine yl_all g.1.2 ?_
  exact yl_many g hY (fun _ _ h => h) g.2.1 (pv_a8 g.1.2) (k1 hx)
theorem yl_bridges {post : Int32 → Prop} (g : cx_G n L A B) (hY : cx_Y L A B th ya yb) {x : Int32} (k1 : (x = 0 ∨ x = 1 ∨ x = 2) → post (nI (pv_b A B n L))) (k0 : ¬ (x = 0 ∨ x = 1 ∨ x = 2) → post (-1)) : wpY_bridges post (nI n, th, ya, yb) x := by
  have n8 := g.1.2
  have a8 := pv_a8 n8
  have L16 := g.2.1
  have a : ∀ f i, 16 < f + i → i ≤ 16 → wY_bridges_4 post x (nI n) th ya yb f (nI (pv_m (fun k => L.testBit k = true ∧ pv_g A B L (2 ^ n - 1) < pv_g A B (bi_d L (2 ^ k)) (2 ^ n - 1)) i)) (nI i) := by
    intro f
    induction f with
    | zero => intro i h h'; omega
    | succ f ih =>
      intro i h h'
      rw [wY_bridges_4]
      by_cases e : i = 16
      · subst e
        refine br_t (nI_le (b := 16) (by omega) (by omega)) ?_
        exact yl_engine (fun hx => br_f (by decide) (k1 hx)) (fun hx => br_t rfl (k0 hx))
      · have i16 : i < 16 := by omega
        have nxt := ih (i + 1) (by omega) (by omega)
        have no : ¬ (L.testBit i = true ∧ pv_g A B L (2 ^ n - 1) < pv_g A B (bi_d L (2 ^ i)) (2 ^ n - 1)) → wY_bridges_56 post (wY_bridges_4 post x (nI n) th ya yb f) x (nI (pv_m (fun k => L.testBit k = true ∧ pv_g A B L (2 ^ n - 1) < pv_g A B (bi_d L (2 ^ k)) (2 ^ n - 1)) i)) (nI i) (nI n) th ya yb := by
          intro w
          rw [pv_mN (P := fun k => L.testBit k = true ∧ pv_g A B L (2 ^ n - 1) < pv_g A B (bi_d L (2 ^ k)) (2 ^ n - 1)) (n := i) w] at nxt
          exact br_t rfl (nm_r (nI_1 i) nxt)
        refine br_f (nI_ge (b := 16) (by omega) (by omega)) ⟨vp_in_nI i16 (by omega), ek_if (cx_th hY i16) (fun w => no (fun z => w z.1)) (fun w => ?_)⟩
        have u : L.testBit i = true := Classical.byContradiction w
        have g1 := pv_g8 A B (us := L) a8
        have g2 := pv_g8 A B (us := bi_d L (2 ^ i)) a8
        refine yl_lines g hY ?_
        refine yl_all n8 ?_
        rw [bi_1 (by omega), bi_not]
        refine yl_many g hY cx_dL (bi_dlt (n := 16) L16) a8 ?_
        refine yl_lines g hY ?_
        refine yl_all n8 ?_
        refine yl_many g hY (fun _ _ h => h) L16 a8 ?_
        refine pk_le (pv_g A B (bi_d L (2 ^ i)) (2 ^ n - 1)) (pv_g A B L (2 ^ n - 1)) (fun q => no (fun z => absurd z.2 (Nat.not_lt.mpr q))) (fun q => ?_)
        rw [pv_mP (P := fun k => L.testBit k = true ∧ pv_g A B L (2 ^ n - 1) < pv_g A B (bi_d L (2 ^ k)) (2 ^ n - 1)) (n := i) ⟨u, q⟩] at nxt
        exact br_f (by decide) (nm_r (by rw [bi_1 (by omega), bi_or]) (nm_r (nI_1 i) nxt))
  exact ⟨17, a 17 0 (by omega) (by omega)⟩
theorem yl_hinges {post : Int32 → Prop} (g : cx_G n L A B) (hY : cx_Y L A B th ya yb) {x : Int32} (k1 : (x = 0 ∨ x = 1 ∨ x = 2) → post (nI (pv_h A B n L))) (k0 : ¬ (x = 0 ∨ x = 1 ∨ x = 2) → post (-1)) : wpY_hinges post (nI n, th, ya, yb) x := by
  have n8 := g.1.2
  have a8 := pv_a8 n8
  have L16 := g.2.1
  have a : ∀ f i, n < f + i → i ≤ n → wY_hinges_4 post x (nI n) th ya yb f (nI (pv_m (fun p => pv_g A B L (2 ^ n - 1) < pv_g A B L (bi_d (2 ^ n - 1) (2 ^ p))) i)) (nI i) := by
    intro f
    induction f with
    | zero => intro i h h'; omega
    | succ f ih =>
      intro i h h'
      rw [wY_hinges_4]
      by_cases e : i = n
      · subst e
        refine br_t (nI_le (by omega) (by omega)) ?_
        exact yl_engine (fun hx => br_f (by decide) (k1 hx)) (fun hx => br_t rfl (k0 hx))
      · have nxt := ih (i + 1) (by omega) (by omega)
        have b8 : bi_d (2 ^ n - 1) (2 ^ i) < 256 := bi_dlt (n := 8) a8
        have g1 := pv_g8 A B (us := L) a8
        have g2 := pv_g8 A B (us := L) b8
        refine br_f (nI_ge (by omega) (by omega)) ?_
        refine yl_lines g hY ?_
        refine yl_all n8 ?_
        rw [bi_1 (by omega), bi_not]
        refine yl_many g hY (fun _ _ h => h) L16 b8 ?_
        refine yl_lines g hY ?_
        refine yl_all n8 ?_
        refine yl_many g hY (fun _ _ h => h) L16 a8 ?_
        refine pk_le (pv_g A B L (bi_d (2 ^ n - 1) (2 ^ i))) (pv_g A B L (2 ^ n - 1)) (fun q => nm_r (nI_1 i) ?_) (fun q => ?_)
        · rw [pv_mN (P := fun p => pv_g A B L (2 ^ n - 1) < pv_g A B L (bi_d (2 ^ n - 1) (2 ^ p))) (n := i) (Nat.not_lt.mpr q)] at nxt
          exact nxt
        · rw [pv_mP (P := fun p => pv_g A B L (2 ^ n - 1) < pv_g A B L (bi_d (2 ^ n - 1) (2 ^ p))) (n := i) q] at nxt
          exact nm_r (by first | rw [bi_1 (by omega), bi_or] | rw [bi_or]) (nm_r (nI_1 i) nxt)
  exact ⟨n + 1, a (n + 1) 0 (by omega) (by omega)⟩
theorem yl_agree {post : Int32 → Prop} {x y : Int32} (k1 : (x = 0 ∨ x = 1 ∨ x = 2) → (y = 0 ∨ y = 1 ∨ y = 2) → post 1) (k0 : ¬ ((x = 0 ∨ x = 1 ∨ x = 2) ∧ (y = 0 ∨ y = 1 ∨ y = 2)) → post 0) : wpY_agree post (nI n, th, ya, yb) x y := by
  unfold wpY_agree
  dsimp only
  refine yl_engine (fun hx => br_f (by decide) ?_) (fun hx => br_t rfl (k0 (fun w => hx w.1)))
  exact yl_engine (fun hy => br_f (by decide) (k1 hx hy)) (fun hy => br_t rfl (k0 (fun w => hy w.2)))
theorem yl_ends {post : Int32 → Prop} (g : cx_G n L A B) (hY : cx_Y L A B th ya yb) {k : Nat} (hk : k < 16) (lk : L.testBit k = true) (kk : post (nI (bi_e (A k) (B k)))) : wpY_ends post (nI n, th, ya, yb) (nI k) := by
  have n8 := g.1.2
  have v : vp_in (nI k) 16 := vp_in_nI hk (by omega)
  have c : (nI k).toNatClampNeg = k := nI_clamp (by omega)
  obtain ⟨ea, eb⟩ := (hY k hk).2 lk
  obtain ⟨g1, g2, g3⟩ := g.2.2 k hk lk
  refine ⟨v, v, ?_⟩
  rw [c, ea, eb, bi_1 (by omega), bi_1 (by omega), bi_or]
  exact kk
theorem yl_tog0 {post : Int32 → Prop} {x1 x2 x3 : Int32} (hn : n ≤ 8) (k : post 0) : ∀ f p, n < f + p → p ≤ n → wY_together_23 post x1 x2 x3 (nI n) th ya yb f 0 (nI p) := by
  intro f
  induction f with
  | zero => intro p h h'; omega
  | succ f ih =>
    intro p h h'
    rw [wY_together_23]
    by_cases e : p = n
    · subst e
      exact br_t (nI_le (by omega) (by omega)) ⟨rfl, k⟩
    · exact br_f (nI_ge (by omega) (by omega)) (br_t rfl (nm_r (nI_1 p) (ih (p + 1) (by omega) (by omega))))
theorem yl_together {post : Int32 → Prop} (g : cx_G n L A B) (hY : cx_Y L A B th ya yb) {k l : Nat} (hk : k < 16) (lk : L.testBit k = true) (hl : l < 16) (ll : L.testBit l = true) (h1 : (∀ p, p < n → ¬ (sp_X A B (bi_d (bi_d L (2 ^ k)) (2 ^ l)) (bi_d (2 ^ n - 1) (2 ^ p)) (bi_e (A k) (B k)) &&& bi_e (A l) (B l) = 0)) → post 1) (h0 : ¬ (∀ p, p < n → ¬ (sp_X A B (bi_d (bi_d L (2 ^ k)) (2 ^ l)) (bi_d (2 ^ n - 1) (2 ^ p)) (bi_e (A k) (B k)) &&& bi_e (A l) (B l) = 0)) → post 0) : wpY_together post (nI n, th, ya, yb) (nI k) (nI l) := by
  have n8 := g.1.2
  have a8 := pv_a8 n8
  unfold wpY_together
  dsimp only
  refine yl_lines g hY ?_
  refine nm_r (e' := nI (bi_d (bi_d L (2 ^ k)) (2 ^ l))) (by rw [bi_1 (by omega), bi_not, bi_1 (by omega), bi_not]) ⟨n + 1, ?_⟩
  have a : ∀ f p, n < f + p → p ≤ n → (∀ q, q < p → ¬ (sp_X A B (bi_d (bi_d L (2 ^ k)) (2 ^ l)) (bi_d (2 ^ n - 1) (2 ^ q)) (bi_e (A k) (B k)) &&& bi_e (A l) (B l) = 0)) → wY_together_23 post (nI k) (nI l) (nI (bi_d (bi_d L (2 ^ k)) (2 ^ l))) (nI n) th ya yb f 1 (nI p) := by
    intro f
    induction f with
    | zero => intro p h h'; omega
    | succ f ih =>
      intro p h h' hq
      rw [wY_together_23]
      by_cases e : p = n
      · subst e
        exact br_t (nI_le (by omega) (by omega)) ⟨rfl, h1 hq⟩
      · have k8 : bi_d (2 ^ n - 1) (2 ^ p) < 256 := bi_dlt (n := 8) a8
        refine br_f (nI_ge (by omega) (by omega)) (br_f (by decide) ?_)
        refine yl_ends g hY hk lk ?_
        refine yl_all n8 ?_
        rw [bi_1 (by omega), bi_not]
        refine yl_joined g hY (fun j _ w => ((pv_dT _ _ _).mp ((pv_dT _ _ _).mp w).1).1) (bi_dlt (n := 16) (bi_dlt (n := 16) g.2.1)) k8 ?_
        refine yl_ends g hY hl ll ?_
        refine ek_if (d := sp_X A B (bi_d (bi_d L (2 ^ k)) (2 ^ l)) (bi_d (2 ^ n - 1) (2 ^ p)) (bi_e (A k) (B k)) &&& bi_e (A l) (B l) = 0) (by rw [nx_and, bi_z (Nat.lt_trans (Nat.and_lt_two_pow (n := 8) _ (cx_e8 g hl ll)) (by omega))]) (fun w => nm_r (nI_1 p) ?_) (fun w => nm_r (nI_1 p) (ih (p + 1) (by omega) (by omega) (fun q hq' => ?_)))
        · exact yl_tog0 n8 (h0 (fun z => z p (by omega) w)) f (p + 1) (by omega) (by omega)
        · by_cases e2 : q = p
          · rw [e2]; exact w
          · exact hq q (by omega)
  exact a (n + 1) 0 (by omega) (by omega) (fun q hq => by omega)
def yl_bl (A B : Nat → Nat) (n L k : Nat) (l : Nat) : Prop := L.testBit l = true ∧ l ≠ k ∧ ∀ p, p < n → ¬ (sp_X A B (bi_d (bi_d L (2 ^ k)) (2 ^ l)) (bi_d (2 ^ n - 1) (2 ^ p)) (bi_e (A k) (B k)) &&& bi_e (A l) (B l) = 0)
theorem yl_block {post : Int32 → Prop} (g : cx_G n L A B) (hY : cx_Y L A B th ya yb) {x : Int32} (k1 : ∀ k, k < 16 → x = nI k → L.testBit k = true → post (nI (2 ^ k ||| pv_m (yl_bl A B n L k) 16))) (k0 : (∀ k, k < 16 → x = nI k → ¬ L.testBit k = true) → post (-1)) : wpY_block post (nI n, th, ya, yb) x := by
  unfold wpY_block
  dsimp only
  refine yl_is hY (fun k hk ek lk => br_f (by decide) ?_) (fun h => br_t rfl (k0 h))
  subst ek
  refine nm_r (bi_1 (by omega)) ⟨17, ?_⟩
  have a : ∀ f i, 16 < f + i → i ≤ 16 → wY_block_16 post (nI k) (nI n) th ya yb f (nI (2 ^ k ||| pv_m (yl_bl A B n L k) i)) (nI i) := by
    intro f
    induction f with
    | zero => intro i h h'; omega
    | succ f ih =>
      intro i h h'
      rw [wY_block_16]
      by_cases e : i = 16
      · subst e
        exact br_t (nI_le (b := 16) (by omega) (by omega)) (k1 k hk rfl lk)
      · have i16 : i < 16 := by omega
        have nxt := ih (i + 1) (by omega) (by omega)
        have no : ¬ yl_bl A B n L k i → wY_block_16 post (nI k) (nI n) th ya yb f (nI (2 ^ k ||| pv_m (yl_bl A B n L k) i)) (nI (i + 1)) := by
          intro w
          rw [pv_mN w] at nxt
          exact nxt
        refine br_f (nI_ge (b := 16) (by omega) (by omega)) ⟨vp_in_nI i16 (by omega), ek_if (cx_th hY i16) (fun w => nm_r (nI_1 i) (no (fun z => w z.1))) (fun w => pk_eq i k (fun q => nm_r (nI_1 i) (no (fun z => z.2.1 q))) (fun q => ?_))⟩
        have u : L.testBit i = true := Classical.byContradiction w
        refine yl_together g hY hk lk i16 u (fun z => br_f (by decide) ?_) (fun z => br_t rfl (nm_r (nI_1 i) (no (fun y => z y.2.2))))
        rw [pv_mP ⟨u, q, z⟩, ← Nat.or_assoc] at nxt
        exact nm_r (by rw [bi_1 (by omega), bi_or]) (nm_r (nI_1 i) nxt)
  have := a 17 0 (by omega) (by omega)
  rw [pv_m0, Nat.or_zero] at this
  exact this
theorem yl_island {post : Int32 → Prop} (g : cx_G n L A B) (hY : cx_Y L A B th ya yb) {x : Int32} (k1 : ∀ p, p < n → x = nI p → post (nI (sp_X A B (bi_d L (pv_b A B n L)) (2 ^ n - 1) (2 ^ p)))) (k0 : (∀ p, p < n → ¬ x = nI p) → post (-1)) : wpY_island post (nI n, th, ya, yb) x := by
  have n8 := g.1.2
  unfold wpY_island
  dsimp only
  refine yl_point n8 (fun p hp ep => br_f (by decide) ?_) (fun h => br_t rfl (k0 h))
  refine yl_lines g hY ?_
  refine yl_bridges g hY (fun _ => ?_) (fun h => absurd (Or.inl rfl) h)
  refine yl_all n8 ?_
  subst ep
  rw [bi_1 (by omega), bi_not]
  exact yl_joined g hY (fun j _ w => ((pv_dT _ _ _).mp w).1) (bi_dlt (n := 16) g.2.1) (pv_a8 n8) (k1 p hp rfl)
end
end
section
/-! Y: firm, weakest, fragile, trees, rings, sides -/
theorem pv_g1 {A B : Nat → Nat} {n L : Nat} (h1 : 1 ≤ n) (h8 : n ≤ 8) : 1 ≤ pv_g A B L (2 ^ n - 1) := by
  rw [pv_gT A B (pv_a8 h8), pv_qn]
  apply Classical.byContradiction
  intro q
  have z : mt_c (fun p => gr_b (gr_l (gr_R A B (fun k => k < 16 ∧ L.testBit k = true) (fun p => p < n)) (fun p => p < n) p)) 8 = 0 := by
    show gr_n _ _ = 0
    omega
  have := mt_c_z 8 z 0 (by omega)
  exact (gr_bF.mp this) ⟨h1, fun r hr => by omega⟩
theorem yb_ne {s a b : Nat} (hs : s < 2 ^ 31) (ha : a < 32) (hb : b < 32) : ((nI s >>> (nI a &&& 31)) &&& 1 = (nI s >>> (nI b &&& 31)) &&& 1) ↔ (s.testBit a = true ↔ s.testBit b = true) := by
  rw [bi_bit hs ha, bi_bit hs hb]
  by_cases c : s.testBit a = true <;> by_cases d : s.testBit b = true
  · rw [if_pos c, if_pos d]; exact ⟨fun _ => ⟨fun _ => d, fun _ => c⟩, fun _ => rfl⟩
  · rw [if_pos c, if_neg d]; exact ⟨fun q => absurd q (by decide), fun q => absurd (q.mp c) d⟩
  · rw [if_neg c, if_pos d]; exact ⟨fun q => absurd q (by decide), fun q => absurd (q.mpr d) c⟩
  · rw [if_neg c, if_neg d]; exact ⟨fun _ => ⟨fun q => absurd q c, fun q => absurd q d⟩, fun _ => rfl⟩
section
variable {n L : Nat} {A B : Nat → Nat} {th ya yb : Nat → Int32}
theorem yl_firm {post : Int32 → Prop} (g : cx_G n L A B) (hY : cx_Y L A B th ya yb) (k1 : n ≠ 1 → ¬ 1 < pv_g A B L (2 ^ n - 1) → post 1) (k0 : (n = 1 ∨ 1 < pv_g A B L (2 ^ n - 1)) → post 0) : wpY_firm post (nI n, th, ya, yb) := by
  have n8 := g.1.2
  have n1 := g.1.1
  have a8 := pv_a8 n8
  have g8 := pv_g8 A B (us := L) a8
  have g1 := pv_g1 (A := A) (B := B) (L := L) n1 n8
  unfold wpY_firm
  dsimp only
  refine pk_le n 1 (fun w => k0 (Or.inl (by omega))) (fun w => ?_)
  refine yl_lines g hY ?_
  refine yl_all n8 ?_
  refine yl_many g hY (fun _ _ h => h) g.2.1 a8 ?_
  exact pk_eq (pv_g A B L (2 ^ n - 1)) 1 (fun q => k1 (by omega) (by omega)) (fun q => k0 (Or.inr (by omega)))
theorem yl_ones {post : Int32 → Prop} {s : Nat} (hs : s < 2 ^ 31) (k : post (nI (pv_o s))) : wpY_ones post (nI n, th, ya, yb) (nI s) := by
  have a : ∀ f i, 16 < f + i → i ≤ 16 → wY_ones_4 post (nI s) (nI n) th ya yb f (nI (pv_c (fun k => s.testBit k = true) i)) (nI i) := by
    intro f
    induction f with
    | zero => intro i h h'; omega
    | succ f ih =>
      intro i h h'
      rw [wY_ones_4]
      by_cases e : i = 16
      · subst e
        exact br_t (nI_le (b := 16) (by omega) (by omega)) k
      · refine br_f (nI_ge (b := 16) (by omega) (by omega)) (nm_r (e' := nI (pv_c (fun k => s.testBit k = true) (i + 1))) ?_ (nm_r (nI_1 i) (ih (i + 1) (by omega) (by omega))))
        rw [bi_bit hs (by omega)]
        by_cases c : s.testBit i = true
        · rw [if_pos c, pv_cP (P := fun k => s.testBit k = true) c]
          exact nI_1 _
        · rw [if_neg c, pv_cN (P := fun k => s.testBit k = true) c]
          exact Int32.add_zero _
  exact ⟨17, a 17 0 (by omega) (by omega)⟩
theorem yl_cut {post : Int32 → Prop} (g : cx_G n L A B) (hY : cx_Y L A B th ya yb) {s : Nat} (hs : s < 2 ^ 31) (k : post (nI (pv_cut A B L s))) : wpY_cut post (nI n, th, ya, yb) (nI s) := by
  have n8 := g.1.2
  have a : ∀ f i, 16 < f + i → i ≤ 16 → wY_cut_4 post (nI s) (nI n) th ya yb f (nI (pv_c (fun k => L.testBit k = true ∧ ¬ (s.testBit (A k) = true ↔ s.testBit (B k) = true)) i)) (nI i) := by
    intro f
    induction f with
    | zero => intro i h h'; omega
    | succ f ih =>
      intro i h h'
      rw [wY_cut_4]
      by_cases e : i = 16
      · subst e
        exact br_t (nI_le (b := 16) (by omega) (by omega)) k
      · have i16 : i < 16 := by omega
        have c : (nI i).toNatClampNeg = i := nI_clamp (by omega)
        have v : vp_in (nI i) 16 := vp_in_nI i16 (by omega)
        have nxt := ih (i + 1) (by omega) (by omega)
        have no : ¬ (L.testBit i = true ∧ ¬ (s.testBit (A i) = true ↔ s.testBit (B i) = true)) → wY_cut_46 post (wY_cut_4 post (nI s) (nI n) th ya yb f) (nI s) (nI (pv_c (fun k => L.testBit k = true ∧ ¬ (s.testBit (A k) = true ↔ s.testBit (B k) = true)) i)) (nI i) (nI n) th ya yb := by
          intro w
          rw [pv_cN (P := fun k => L.testBit k = true ∧ ¬ (s.testBit (A k) = true ↔ s.testBit (B k) = true)) (n := i) w] at nxt
          exact br_t rfl (nm_r (nI_1 i) nxt)
        refine br_f (nI_ge (b := 16) (by omega) (by omega)) ⟨v, ek_if (cx_th hY i16) (fun w => no (fun z => w z.1)) (fun w => ?_)⟩
        have u : L.testBit i = true := Classical.byContradiction w
        obtain ⟨ea, eb⟩ := (hY i i16).2 u
        obtain ⟨g1, g2, g3⟩ := g.2.2 i i16 u
        refine ⟨v, v, ek_if (d := (s.testBit (A i) = true ↔ s.testBit (B i) = true)) (by rw [c, ea, eb]; exact yb_ne hs (by omega) (by omega)) (fun q => no (fun z => z.2 q)) (fun q => br_f (by decide) ?_)⟩
        rw [pv_cP (P := fun k => L.testBit k = true ∧ ¬ (s.testBit (A k) = true ↔ s.testBit (B k) = true)) (n := i) ⟨u, q⟩] at nxt
        exact nm_r (nI_1 _) (nm_r (nI_1 i) nxt)
  exact ⟨17, a 17 0 (by omega) (by omega)⟩
theorem yl_weak {post : Int32 → Prop} (g : cx_G n L A B) (hY : cx_Y L A B th ya yb) (k1 : n ≠ 1 → ¬ 1 < pv_g A B L (2 ^ n - 1) → post (nI (pv_wY A B L (2 ^ n - 1)))) (k0 : (n = 1 ∨ 1 < pv_g A B L (2 ^ n - 1)) → post 0) : wpY_weakest post (nI n, th, ya, yb) := by
  have n8 := g.1.2
  have n1 := g.1.1
  have a8 := pv_a8 n8
  have a1 : 2 ^ 1 ≤ 2 ^ n := Nat.pow_le_pow_right (by omega) n1
  have a : ∀ f i, 2 ^ n - 1 < f + i → 1 ≤ i → i ≤ 2 ^ n - 1 → wY_weakest_5 post (nI n) th ya yb f (nI (pv_wY A B L i)) (nI i) := by
    intro f
    induction f with
    | zero => intro i h h' h''; omega
    | succ f ih =>
      intro i h h' h''
      rw [wY_weakest_5]
      refine yl_all n8 ?_
      by_cases e : i = 2 ^ n - 1
      · refine br_t (nI_le (by omega) (by omega)) ?_
        rw [e]
        exact yl_firm g hY (fun w1 w2 => br_f (by decide) (k1 w1 w2)) (fun w => br_t rfl (k0 w))
      · have nxt := ih (i + 1) (by omega) (by omega) (by omega)
        have b1 : pv_wY A B L i ≤ 100 := pv_wYb i
        have b2 : pv_cut A B L i ≤ 16 := pv_cn _ 16
        refine br_f (nI_ge (by omega) (by omega)) ?_
        refine yl_cut g hY (by omega) ?_
        refine pk_le (pv_wY A B L i) (pv_cut A B L i) (fun z => nm_r (nI_1 i) ?_) (fun z => ?_)
        · unfold pv_wY at nxt z ⊢
          rw [mf_N (fun y => by have := y.2; omega)] at nxt
          exact nxt
        · refine yl_cut g hY (by omega) (nm_r (nI_1 i) ?_)
          unfold pv_wY at nxt z
          rw [mf_P ⟨gr_bT.mpr h', z⟩] at nxt
          exact nxt
  have := a (2 ^ n - 1) 1 (by omega) (by omega) (by omega)
  have e1 : pv_wY A B L 1 = 100 := by
    unfold pv_wY
    rw [mf_N (fun z => by have := gr_bT.mp z.1; omega)]
    rfl
  rw [e1] at this
  exact ⟨_, this⟩
theorem yl_frag {post : Int32 → Prop} (g : cx_G n L A B) (hY : cx_Y L A B th ya yb) (k1 : n ≠ 1 → ¬ 1 < pv_g A B L (2 ^ n - 1) → post (nI (pv_fY A B n L (2 ^ n - 1 + 1)))) (k0 : (n = 1 ∨ 1 < pv_g A B L (2 ^ n - 1)) → post 0) : wpY_fragile post (nI n, th, ya, yb) := by
  have n8 := g.1.2
  have n1 := g.1.1
  have a8 := pv_a8 n8
  have a1 : 2 ^ 1 ≤ 2 ^ n := Nat.pow_le_pow_right (by omega) n1
  have a : ∀ f i, 2 ^ n - 1 + 1 < f + i → 1 ≤ i → i ≤ 2 ^ n - 1 + 1 → wY_fragile_5 post (nI n) th ya yb f (nI (pv_fY A B n L i)) (nI i) := by
    intro f
    induction f with
    | zero => intro i h h' h''; omega
    | succ f ih =>
      intro i h h' h''
      rw [wY_fragile_5]
      refine yl_all n8 ?_
      by_cases e : i = 2 ^ n - 1 + 1
      · refine br_t (nI_lt (by omega) (by omega)) ?_
        rw [e]
        exact yl_firm g hY (fun w1 w2 => br_f (by decide) (k1 w1 w2)) (fun w => br_t rfl (k0 w))
      · have nxt := ih (i + 1) (by omega) (by omega) (by omega)
        have b1 : pv_fY A B n L i ≤ 100 := pv_fYb i
        have i8 : i < 256 := by omega
        have oc := pv_oc (n := n) (s := i) (by omega) (fun p hp => pv_in (by omega) hp)
        have no : ¬ (pv_o i = 1 ∨ 1 < pv_g A B L i) → wY_fragile_40 post (wY_fragile_5 post (nI n) th ya yb f) (nI (pv_fY A B n L i)) (nI i) 0 (nI n) th ya yb := by
          intro w
          refine yl_ones (by omega) (nm_r (e' := nI (n - pv_o i)) (pk_sub (by omega)) (br_t rfl (nm_r (nI_1 i) ?_)))
          unfold pv_fY at nxt ⊢
          rw [mf_N (fun z => w (gr_bT.mp z.1).2)] at nxt
          exact nxt
        have yes : (pv_o i = 1 ∨ 1 < pv_g A B L i) → wY_fragile_35 post (wY_fragile_5 post (nI n) th ya yb f) (nI (pv_fY A B n L i)) (nI i) (nI n) th ya yb := by
          intro w
          refine yl_ones (by omega) (nm_r (e' := nI (n - pv_o i)) (pk_sub (by omega)) (br_f (by decide) (pk_le (pv_fY A B n L i) (n - pv_o i) (fun z => nm_r (nI_1 i) ?_) (fun z => nm_r (nI_1 i) ?_))))
          · unfold pv_fY at nxt z ⊢
            rw [mf_N (fun y => by have := y.2; omega)] at nxt
            exact nxt
          · unfold pv_fY at nxt z
            rw [mf_P ⟨gr_bT.mpr ⟨h', w⟩, z⟩] at nxt
            exact nxt
        have g8 := pv_g8 A B (us := L) i8
        refine br_f (nI_nlt (by omega) (by omega)) ?_
        refine yl_ones (by omega) ?_
        refine pk_eq (pv_o i) 1 (fun w => yes (Or.inl w)) (fun w => ?_)
        refine yl_lines g hY ?_
        refine yl_many g hY (fun _ _ h => h) g.2.1 i8 ?_
        exact pk_le (pv_g A B L i) 1 (fun z => no (fun y => y.elim w (fun y => by omega))) (fun z => yes (Or.inr z))
  have := a (2 ^ n) 1 (by omega) (by omega) (by omega)
  have e1 : pv_fY A B n L 1 = 100 := by
    unfold pv_fY
    rw [mf_N (fun z => by have := (gr_bT.mp z.1).1; omega)]
    rfl
  rw [e1] at this
  exact ⟨_, this⟩
theorem yl_trees {post : Int32 → Prop} (g : cx_G n L A B) (hY : cx_Y L A B th ya yb) (k : post (nI (pv_ty A B n L 65536))) : wpY_trees post (nI n, th, ya, yb) := by
  have n8 := g.1.2
  have n1 := g.1.1
  have a8 := pv_a8 n8
  have en1 : nI n - 1 = nI (n - 1) := pk_sub (b := 1) n1
  unfold wpY_trees
  dsimp only
  refine yl_lines g hY ?_
  refine ⟨65537, ?_⟩
  have a : ∀ f i, 65536 < f + i → i ≤ 65536 → wY_trees_9 post (nI L) (nI n) th ya yb f (nI (pv_ty A B n L i)) (nI i) := by
    intro f
    induction f with
    | zero => intro i h h'; omega
    | succ f ih =>
      intro i h h'
      rw [wY_trees_9]
      by_cases e : i = 65536
      · subst e
        exact br_t (nI_le (b := 65536) (by omega) (by omega)) k
      · have i16 : i < 65536 := by omega
        have nxt := ih (i + 1) (by omega) (by omega)
        have no : ¬ ((bi_d i L = 0 ∧ pv_o i = n - 1) ∧ sp_X A B i (2 ^ n - 1) 1 = 2 ^ n - 1) → wY_trees_58 post (wY_trees_9 post (nI L) (nI n) th ya yb f) (nI (pv_ty A B n L i)) (nI L) (nI i) (nI n) th ya yb := by
          intro w
          unfold pv_ty at nxt ⊢
          rw [pv_cN (P := fun s => (bi_d s L = 0 ∧ pv_o s = n - 1) ∧ sp_X A B s (2 ^ n - 1) 1 = 2 ^ n - 1) (n := i) w] at nxt
          exact br_t rfl (nm_r (nI_1 i) nxt)
        refine br_f (nI_ge (b := 65536) (by omega) (by omega)) (ek_if (d := bi_d i L = 0) (by rw [bi_not, bi_z (Nat.lt_trans (bi_dlt (n := 16) i16) (by omega))]) (fun q => ?_) (fun q => no (fun z => q z.1.1)))
        have o16 : pv_o i ≤ 16 := pv_cn _ 16
        refine yl_ones (by omega) ?_
        rw [en1]
        refine pk_eq (pv_o i) (n - 1) (fun w => ?_) (fun w => no (fun z => w z.1.2))
        refine yl_all n8 ?_
        refine yl_joined (st := 1) g hY (fun j _ w => (pv_d0 i L).mp q j w) i16 a8 ?_
        refine yl_all n8 ?_
        have xb := sp_XB (A := A) (B := B) (us := i) (st := 1) a8
        refine pk_eq (sp_X A B i (2 ^ n - 1) 1) (2 ^ n - 1) (fun z => br_f (by decide) ?_) (fun z => no (fun y => z y.2))
        unfold pv_ty at nxt ⊢
        rw [pv_cP (P := fun s => (bi_d s L = 0 ∧ pv_o s = n - 1) ∧ sp_X A B s (2 ^ n - 1) 1 = 2 ^ n - 1) (n := i) ⟨⟨q, w⟩, z⟩] at nxt
        exact nm_r (nI_1 _) (nm_r (nI_1 i) nxt)
  exact a 65537 0 (by omega) (by omega)
theorem yl_around {post : Int32 → Prop} (g : cx_G n L A B) (hY : cx_Y L A B th ya yb) {x : Int32} (k1 : ∀ k, k < 16 → x = nI k → L.testBit k = true → post (pv_ring (xd_D A B L k))) (k0 : (∀ k, k < 16 → x = nI k → ¬ L.testBit k = true) → post (-1)) : wpY_around post (nI n, th, ya, yb) x := by
  have n8 := g.1.2
  unfold wpY_around
  dsimp only
  refine yl_is hY (fun k hk ek lk => br_f (by decide) ?_) (fun h => br_t rfl (k0 h))
  subst ek
  have kk := k1 k hk rfl lk
  have v : vp_in (nI k) 16 := vp_in_nI hk (by omega)
  have c : (nI k).toNatClampNeg = k := nI_clamp (by omega)
  obtain ⟨ea, eb⟩ := (hY k hk).2 lk
  obtain ⟨g1, g2, g3⟩ := g.2.2 k hk lk
  have ly := pv_lyE (A := A) (B := B) (n := n) (us := bi_d L (2 ^ k)) (fun j hj w => by have := g.2.2 j hj (cx_dL j hj w); exact ⟨this.1, this.2.1⟩) g1
  have lb := pv_lyB g (us := bi_d L (2 ^ k)) cx_dL (show A k < 8 by omega)
  have d0 : ¬ xd_D A B L k 0 := by
    intro w
    have := (pv_2p (A k) (B k)).mp w
    omega
  have a : ∀ f i, 8 < f + i → i ≤ 8 → (∀ j, j < i → ¬ xd_D A B L k j) → wY_around_21 post (nI k) (nI n) th ya yb f (nI (pv_ly A B (bi_d L (2 ^ k)) i (A k))) (nI (i + 1)) := by
    intro f
    induction f with
    | zero => intro i h h'; omega
    | succ f ih =>
      intro i h h' hn
      rw [wY_around_21]
      by_cases e : i = 8
      · subst e
        refine br_t (nI_le (a := 9) (b := 9) (by omega) (by omega)) ?_
        have : (-3 : Int32) = pv_ring (xd_D A B L k) := pv_rE (Or.inr ⟨fun j j1 j2 => hn (j - 1) (by omega), rfl⟩)
        rw [this]
        exact kk
      · have li := lb i
        refine br_f (nI_ge (a := i + 1) (b := 9) (by omega) (by omega)) ⟨v, ek_if (d := xd_D A B L k i) (by rw [c, eb]; exact bi_b1 (by omega) (by omega)) (fun w => ?_) (fun w => ?_)⟩
        · have i0 : i ≠ 0 := fun q => d0 (by rw [q] at w; exact w)
          have : nI (i + 1) = pv_ring (xd_D A B L k) := pv_rE (Or.inl ⟨i + 1, by omega, by omega, w, fun j j1 j2 => hn (j - 1) (by omega), rfl⟩)
          rw [this]
          exact kk
        · refine yl_lines g hY ?_
          refine yl_all n8 ?_
          rw [bi_1 (by omega), bi_not]
          refine yl_step g hY cx_dL (bi_dlt (n := 16) g.2.1) li (nm_r (nI_1 (i + 1)) ?_)
          have es : sp_y A B (bi_d L (2 ^ k)) (pv_ly A B (bi_d L (2 ^ k)) i (A k)) 16 &&& (2 ^ n - 1) = pv_ly A B (bi_d L (2 ^ k)) (i + 1) (A k) := by
            rw [(ly (i + 1)).1, (ly i).1]
            rfl
          rw [es]
          refine ih (i + 1) (by omega) (by omega) (fun j hj => ?_)
          by_cases e2 : j = i
          · rw [e2]; exact w
          · exact hn j (by omega)
  refine ⟨v, nm_r (e' := nI (2 ^ (A k))) (by rw [c, ea, bi_1 (by omega)]) ⟨9, a 9 0 (by omega) (by omega) (fun j hj => by omega)⟩⟩
theorem yl_short {post : Int32 → Prop} (g : cx_G n L A B) (hY : cx_Y L A B th ya yb) (k : post (pv_sh A B L 16)) : wpY_shortest post (nI n, th, ya, yb) := by
  have a : ∀ f i, 16 < f + i → i ≤ 16 → wY_shortest_5 post (nI n) th ya yb f (pv_sh A B L i) (nI i) := by
    intro f
    induction f with
    | zero => intro i h h'; omega
    | succ f ih =>
      intro i h h'
      rw [wY_shortest_5]
      by_cases e : i = 16
      · subst e
        exact br_t (nI_le (b := 16) (by omega) (by omega)) k
      · have i16 : i < 16 := by omega
        have nxt := ih (i + 1) (by omega) (by omega)
        have m1 : (-1 : Int32) ≤ 0 := by decide
        have m3 : (-3 : Int32) ≤ 0 := by decide
        have m3' : (-3 : Int32) < 0 := by decide
        refine br_f (nI_ge (b := 16) (by omega) (by omega)) ?_
        refine yl_around g hY (fun j hj ej lj => ?_) (fun w => ?_)
        · have ej : i = j := (nI_eq (by omega) (by omega)).mp ej
          subst ej
          rcases pv_rB (xd_D A B L i) with w | ⟨l, l1, l2, w⟩
          · refine br_t (by rw [w]; exact m3) (nm_r (nI_1 i) ?_)
            rw [pv_shN (fun z => z.2.1 w)] at nxt
            exact nxt
          · have r3 : ¬ pv_ring (xd_D A B L i) = -3 := by
              rw [w]
              intro q
              have := nI_pos (n := l) (by omega)
              rw [q] at this
              exact this (by decide)
            refine br_f (by rw [w]; exact nI_nle (by omega) (by omega)) ?_
            rcases pv_shB (A := A) (B := B) (L := L) i with z | ⟨m, q1, q2, z⟩
            · refine br_t (by rw [z]; exact m3') (nm_r (nI_1 i) ?_)
              rw [pv_shP ⟨lj, r3, Or.inl z⟩] at nxt
              exact nxt
            · have z3 : ¬ pv_sh A B L i = -3 := by
                rw [z]
                intro q
                have := nI_pos (n := m) (by omega)
                rw [q] at this
                exact this (by decide)
              refine br_f (by rw [z]; exact nI_pos (by omega)) ?_
              by_cases y : pv_sh A B L i ≤ pv_ring (xd_D A B L i)
              · refine br_t y (nm_r (nI_1 i) ?_)
                rw [pv_shN (fun q => q.2.2.elim z3 (fun v => v y))] at nxt
                exact nxt
              · refine br_f y (nm_r (nI_1 i) ?_)
                rw [pv_shP ⟨lj, r3, Or.inr y⟩] at nxt
                exact nxt
        · refine br_t m1 (nm_r (nI_1 i) ?_)
          rw [pv_shN (fun z => w i i16 rfl z.1)] at nxt
          exact nxt
  exact ⟨17, a 17 0 (by omega) (by omega)⟩
theorem yl_even {post : Int32 → Prop} (g : cx_G n L A B) (hY : cx_Y L A B th ya yb) {p : Nat} (pn : p < n) (k : post (nI (pv_ev (fun s => sp_w A B L s 16) (2 ^ p) 7))) : wpY_even post (nI n, th, ya, yb) (nI p) := by
  have n8 := g.1.2
  have ly := pv_lyE (A := A) (B := B) (n := n) (us := L) (fun j hj w => by have := g.2.2 j hj w; exact ⟨this.1, this.2.1⟩) pn
  have lb := pv_lyB g (us := L) (fun _ _ h => h) (show p < 8 by omega)
  have a : ∀ f i, 7 < f + i → i ≤ 7 → wY_even_9 post (nI n) th ya yb f (nI (pv_ly A B L i p)) (nI (pv_ev (fun s => sp_w A B L s 16) (2 ^ p) i)) (nI (i + 1)) := by
    intro f
    induction f with
    | zero => intro i h h'; omega
    | succ f ih =>
      intro i h h'
      rw [wY_even_9]
      by_cases e : i = 7
      · subst e
        exact br_t (nI_le (a := 8) (b := 8) (by omega) (by omega)) k
      · have nxt := ih (i + 1) (by omega) (by omega)
        refine br_f (nI_ge (a := i + 1) (b := 8) (by omega) (by omega)) ?_
        refine yl_lines g hY ?_
        refine yl_all n8 ?_
        refine yl_step g hY (fun _ _ h => h) g.2.1 (lb i) ?_
        have es : sp_y A B L (pv_ly A B L i p) 16 &&& (2 ^ n - 1) = pv_ly A B L (i + 1) p := by
          rw [(ly (i + 1)).1, (ly i).1]
          rfl
        rw [es]
        have pr : nI (i + 1) - nI (i + 1) / 2 * 2 = nI ((i + 1) % 2) := pk_rem (d := 2) (by omega) (by omega) (by omega)
        refine ⟨by decide, ek_if (d := (i + 1) % 2 = 0) (by rw [pr, bi_z (by omega)]) (fun w => ?_) (fun w => nm_r (nI_1 (i + 1)) ?_)⟩
        · rw [pv_evP w] at nxt
          exact nm_r (by rw [bi_not, bi_or]; rfl) (nm_r (nI_1 (i + 1)) nxt)
        · rw [pv_evN w] at nxt
          exact nxt
  exact nm_r (bi_1 (by omega)) ⟨8, a 8 0 (by omega) (by omega)⟩
theorem yl_65o {post : Int32 → Prop} {x2 : Int32} (k : post (-3)) : ∀ f i, 16 < f + i → i ≤ 16 → wY_sides_65 post x2 (nI n) th ya yb f 0 (nI i) := by
  intro f
  induction f with
  | zero => intro i h h'; omega
  | succ f ih =>
    intro i h h'
    rw [wY_sides_65]
    by_cases e : i = 16
    · subst e
      exact br_t (nI_le (b := 16) (by omega) (by omega)) (br_t rfl k)
    · exact br_f (nI_ge (b := 16) (by omega) (by omega)) (br_t rfl (nm_r (nI_1 i) (ih (i + 1) (by omega) (by omega))))
theorem yl_65 {post : Int32 → Prop} (g : cx_G n L A B) (hY : cx_Y L A B th ya yb) {s : Nat} (hs : s < 2 ^ 31) (k1 : (∀ k, k < 16 → L.testBit k = true → ¬ (s.testBit (A k) = true ↔ s.testBit (B k) = true)) → post (nI s)) (k0 : ¬ (∀ k, k < 16 → L.testBit k = true → ¬ (s.testBit (A k) = true ↔ s.testBit (B k) = true)) → post (-3)) : ∀ f i, 16 < f + i → i ≤ 16 → (∀ k, k < i → L.testBit k = true → ¬ (s.testBit (A k) = true ↔ s.testBit (B k) = true)) → wY_sides_65 post (nI s) (nI n) th ya yb f 1 (nI i) := by
  intro f
  have n8 := g.1.2
  induction f with
  | zero => intro i h h'; omega
  | succ f ih =>
    intro i h h' hq
    rw [wY_sides_65]
    by_cases e : i = 16
    · subst e
      exact br_t (nI_le (b := 16) (by omega) (by omega)) (br_f (by decide) (k1 hq))
    · have i16 : i < 16 := by omega
      have c : (nI i).toNatClampNeg = i := nI_clamp (by omega)
      have v : vp_in (nI i) 16 := vp_in_nI i16 (by omega)
      refine br_f (nI_ge (b := 16) (by omega) (by omega)) (br_f (by decide) ⟨v, ek_if (cx_th hY i16) (fun w => nm_r (nI_1 i) (ih (i + 1) (by omega) (by omega) (fun k hk lk => ?_))) (fun w => ?_)⟩)
      · by_cases e2 : k = i
        · rw [e2] at lk; exact absurd lk w
        · exact hq k (by omega) lk
      · have u : L.testBit i = true := Classical.byContradiction w
        obtain ⟨ea, eb⟩ := (hY i i16).2 u
        obtain ⟨g1, g2, g3⟩ := g.2.2 i i16 u
        refine ⟨v, v, ek_if (d := (s.testBit (A i) = true ↔ s.testBit (B i) = true)) (by rw [c, ea, eb]; exact yb_ne hs (by omega) (by omega)) (fun q => nm_r (nI_1 i) ?_) (fun q => nm_r (nI_1 i) (ih (i + 1) (by omega) (by omega) (fun k hk lk => ?_)))⟩
        · exact yl_65o (k0 (fun z => z i i16 u q)) f (i + 1) (by omega) (by omega)
        · by_cases e2 : k = i
          · rw [e2]; exact q
          · exact hq k (by omega) lk
theorem yl_sides {post : Int32 → Prop} (g : cx_G n L A B) (hY : cx_Y L A B th ya yb) (k1 : (∀ k, k < 16 → L.testBit k = true → ¬ ((pv_sd (fun p => pv_ev (fun s => sp_w A B L s 16) (2 ^ p) 7) (fun p => sp_X A B L (2 ^ n - 1) (2 ^ p)) n).1.testBit (A k) = true ↔ (pv_sd (fun p => pv_ev (fun s => sp_w A B L s 16) (2 ^ p) 7) (fun p => sp_X A B L (2 ^ n - 1) (2 ^ p)) n).1.testBit (B k) = true)) → post (nI (pv_sd (fun p => pv_ev (fun s => sp_w A B L s 16) (2 ^ p) 7) (fun p => sp_X A B L (2 ^ n - 1) (2 ^ p)) n).1))
    (k0 : ¬ (∀ k, k < 16 → L.testBit k = true → ¬ ((pv_sd (fun p => pv_ev (fun s => sp_w A B L s 16) (2 ^ p) 7) (fun p => sp_X A B L (2 ^ n - 1) (2 ^ p)) n).1.testBit (A k) = true ↔ (pv_sd (fun p => pv_ev (fun s => sp_w A B L s 16) (2 ^ p) 7) (fun p => sp_X A B L (2 ^ n - 1) (2 ^ p)) n).1.testBit (B k) = true)) → post (-3)) : wpY_sides post (nI n, th, ya, yb) := by
  have n8 := g.1.2
  have a8 := pv_a8 n8
  have sb : ∀ p, p ≤ n → (pv_sd (fun p => pv_ev (fun s => sp_w A B L s 16) (2 ^ p) 7) (fun p => sp_X A B L (2 ^ n - 1) (2 ^ p)) p).1 < 256 := by
    intro p
    induction p with
    | zero => intro _; show 0 < 256; omega
    | succ p ih =>
      intro hp
      have ih := ih (by omega)
      by_cases c : (pv_sd (fun p => pv_ev (fun s => sp_w A B L s 16) (2 ^ p) 7) (fun p => sp_X A B L (2 ^ n - 1) (2 ^ p)) p).2.testBit p = true
      · rw [pv_sdP c]; exact ih
      · rw [pv_sdN c]
        exact Nat.or_lt_two_pow (n := 8) ih (pv_evB (n := 8) (pv_lyB g (us := L) (fun _ _ h => h) (show p < 8 by omega)) 7)
  unfold wpY_sides
  dsimp only
  refine yl_all n8 ?_
  refine ⟨n + 1, ?_⟩
  have a : ∀ f p, n < f + p → p ≤ n → wY_sides_9 post (nI n) th ya yb f (nI (bi_d (2 ^ n - 1) (pv_sd (fun p => pv_ev (fun s => sp_w A B L s 16) (2 ^ p) 7) (fun p => sp_X A B L (2 ^ n - 1) (2 ^ p)) p).2)) (nI (pv_sd (fun p => pv_ev (fun s => sp_w A B L s 16) (2 ^ p) 7) (fun p => sp_X A B L (2 ^ n - 1) (2 ^ p)) p).1) (nI p) := by
    intro f
    induction f with
    | zero => intro p h h'; omega
    | succ f ih =>
      intro p h h'
      have sp := sb p h'
      rw [wY_sides_9]
      by_cases e : p = n
      · subst e
        exact br_t (nI_le (by omega) (by omega)) ⟨17, yl_65 g hY (by omega) k1 k0 17 0 (by omega) (by omega) (fun k hk => by omega)⟩
      · have pn : p < n := by omega
        have nxt := ih (p + 1) (by omega) (by omega)
        have d8 : bi_d (2 ^ n - 1) (pv_sd (fun p => pv_ev (fun s => sp_w A B L s 16) (2 ^ p) 7) (fun p => sp_X A B L (2 ^ n - 1) (2 ^ p)) p).2 < 256 := bi_dlt (n := 8) a8
        refine br_f (nI_ge (by omega) (by omega)) (ek_if (d := ¬ (pv_sd (fun p => pv_ev (fun s => sp_w A B L s 16) (2 ^ p) 7) (fun p => sp_X A B L (2 ^ n - 1) (2 ^ p)) p).2.testBit p = true) (by rw [bi_b1 (by omega) (by omega), pv_dT, pv_all]; exact ⟨fun w => w.2, fun w => ⟨pn, w⟩⟩) (fun u => ?_) (fun u => nm_r (nI_1 p) ?_))
        · rw [pv_sdN u] at nxt
          refine yl_even g hY pn ?_
          refine nm_r (bi_or _ _) ?_
          refine yl_lines g hY ?_
          refine yl_all n8 ?_
          rw [bi_1 (by omega)]
          refine yl_joined g hY (fun _ _ h => h) g.2.1 a8 ?_
          refine nm_r (by rw [bi_not, pv_sdD]) (nm_r (nI_1 p) nxt)
        · rw [pv_sdP (Classical.byContradiction u)] at nxt
          exact nxt
  have := a (n + 1) 0 (by omega) (by omega)
  have z : bi_d (2 ^ n - 1) 0 = 2 ^ n - 1 := by
    apply pv_ext
    intro p
    rw [pv_dT, Nat.zero_testBit]
    exact ⟨fun w => w.1, fun w => ⟨w, fun q => by cases q⟩⟩
  have e0 : (pv_sd (fun p => pv_ev (fun s => sp_w A B L s 16) (2 ^ p) 7) (fun p => sp_X A B L (2 ^ n - 1) (2 ^ p)) 0).2 = 0 := rfl
  rw [e0, z] at this
  exact this
end
end
section
/-! the relation, and what is owed -/
def i_Rel (_ : Nat) (u : SX) (v : SY) : Prop := ∃ (n L : Nat) (A B : Nat → Nat) (vm vr vb vh : Int32) (en od lw fr cy nx rt : Nat → Int32) (tb : Nat → Int64) (th ya yb : Nat → Int32), u = (nI n, nI L, vm, vr, vb, vh, en, od, lw, fr, cy, nx, rt, tb) ∧ v = (nI n, th, ya, yb) ∧ cx_G n L A B ∧ cx_X L A B en ∧ cx_Y L A B th ya yb
theorem rl_mk {k n L : Nat} {A B : Nat → Nat} {vm vr vb vh : Int32} {en od lw fr cy nx rt : Nat → Int32} {tb : Nat → Int64} {th ya yb : Nat → Int32} (g : cx_G n L A B) (hX : cx_X L A B en) (hY : cx_Y L A B th ya yb) : i_Rel k (nI n, nI L, vm, vr, vb, vh, en, od, lw, fr, cy, nx, rt, tb) (nI n, th, ya, yb) := ⟨n, L, A, B, vm, vr, vb, vh, en, od, lw, fr, cy, nx, rt, tb, th, ya, yb, rfl, rfl, g, hX, hY⟩
theorem i_up {k : Nat} {u : SX} {v : SY} (h : i_Rel k u v) : i_Rel (k + 3) u v := h
theorem rl_0 (A B : Nat → Nat) {n : Nat} (h1 : 1 ≤ n) (h8 : n ≤ 8) : cx_G n 0 A B := ⟨⟨h1, h8⟩, by omega, fun k _ h => absurd h (by rw [Nat.zero_testBit]; exact fun q => by cases q)⟩
theorem rl_X0 (A B : Nat → Nat) (en : Nat → Int32) : cx_X 0 A B en := fun k _ h => absurd h (by rw [Nat.zero_testBit]; exact fun q => by cases q)
theorem rl_Y0 (A B : Nat → Nat) {th ya yb : Nat → Int32} (h : ∀ q, q < 16 → th q = 0) : cx_Y 0 A B th ya yb := fun k hk => ⟨by
  rw [h k hk, if_neg (by rw [Nat.zero_testBit]; exact fun q => by cases q)], fun h => absurd h (by rw [Nat.zero_testBit]; exact fun q => by cases q)⟩
theorem i_vc0 : wpX_init (fun u => wpY_init (fun v => i_Rel 0 u v)) := rl_mk (k := 0) (n := 1) (L := 0) (rl_0 (fun _ => 0) (fun _ => 0) (by omega) (by omega)) (rl_X0 _ _ _) (rl_Y0 _ _ (fun _ _ => rfl))
theorem rl_vb0 : vp_nar .boolean 0 = 0 := by decide
theorem rl_vb1 : vp_nar .boolean 1 = 1 := by decide
theorem i_vc_begin {k : Nat} {u : SX} {v : SY} (I : i_Rel k u v) (hk : k + 3 ≤ 1536) (v1 : Int32) : wpX_begin (fun r u' => wpY_begin (fun r' v' => r' = r ∧ i_Rel (k + 3) u' v') v v1) u v1 := by
  obtain ⟨n, L, A, B, vm, vr, vb, vh, en, od, lw, fr, cy, nx, rt, tb, th, ya, yb, rfl, rfl, g, hX, hY⟩ := I
  by_cases h1 : v1 < 1
  · exact br_t h1 (br_t h1 ⟨rfl, rl_mk g hX hY⟩)
  · by_cases h8 : v1 ≤ 8
    · have h0 : ¬ v1 < 0 := fun q => h1 (Int32.lt_trans q (by decide))
      obtain ⟨m, m8, rfl⟩ := nI_of2 (M := 8) (n := 8) (by decide) h0 h8
      have m1 : 1 ≤ m := by
        apply Classical.byContradiction
        intro q
        obtain rfl : m = 0 := by omega
        exact h1 (by decide)
      refine br_f h1 (br_t h8 (br_f h1 (br_t h8 ⟨17, ?_⟩)))
      have a : ∀ (f i : Nat) (th : Nat → Int32), 16 < f + i → i ≤ 16 → (∀ q, q < i → th q = 0) → wY_begin_20 (fun r' v' => r' = 1 ∧ i_Rel (k + 3) (nI m, 0, vm, vr, vb, vh, en, od, lw, fr, cy, nx, rt, tb) v') (nI m) f (nI i) th ya yb := by
        intro f
        induction f with
        | zero => intro i th h h'; omega
        | succ f ih =>
          intro i th h h' hz
          rw [wY_begin_20]
          by_cases e : i = 16
          · subst e
            exact br_t (nI_le (b := 16) (by omega) (by omega)) ⟨rfl, rl_mk (L := 0) (rl_0 A B m1 m8) (rl_X0 _ _ _) (rl_Y0 _ _ hz)⟩
          · have c : (nI i).toNatClampNeg = i := nI_clamp (by omega)
            refine br_f (nI_ge (b := 16) (by omega) (by omega)) ⟨vp_in_nI (by omega) (by omega), nm_e (nm_r (nI_1 i) (ih (i + 1) _ (by omega) (by omega) (fun q hq => ?_)))⟩
            rw [c, rl_vb0]
            by_cases w : q = i
            · rw [w, pk_us]
            · rw [pk_un w]; exact hz q (by omega)
      exact a 17 0 th (by omega) (by omega) (fun q hq => by omega)
    · exact br_f h1 (br_f h8 (br_f h1 (br_f h8 ⟨rfl, rl_mk g hX hY⟩)))
section
variable {n L : Nat} {A B : Nat → Nat} {vm vr vb vh : Int32} {en od lw fr cy nx rt : Nat → Int32} {tb : Nat → Int64} {th ya yb : Nat → Int32}
theorem rl_xadd {post : Int32 → SX → Prop} (L16 : L < 65536) {a b q : Nat} (a8 : a < 8) (b8 : b < 8) (q16 : q < 16) (hq : ¬ L.testBit q = true) (hj : ∀ j, j < q → L.testBit j = true) (k : post (nI q) (nI n, nI (L ||| 2 ^ q), vm, vr, vb, vh, upd en q (nI (bi_e a b)), od, lw, fr, cy, nx, rt, tb)) : ∀ f i, 16 < f + i → i ≤ q → wX_add_25 post (nI a) (nI b) (nI n) (nI L) vm vr vb vh en od lw fr cy nx rt tb f (nI i) := by
  intro f
  induction f with
  | zero => intro i h h'; omega
  | succ f ih =>
    intro i h h'
    have c : (nI i).toNatClampNeg = i := nI_clamp (by omega)
    rw [wX_add_25]
    refine br_f (nI_ge (b := 16) (by omega) (by omega)) (xl_lineN L16 (by omega) (fun u => br_f (by decide) (nm_r (nI_1 i) (ih (i + 1) (by omega) ?_))) (fun u => br_t rfl ⟨vp_in_nI (by omega) (by omega), ?_⟩))
    · apply Classical.byContradiction
      intro w
      have : i = q := by omega
      rw [this] at u
      exact hq u
    · have e : i = q := by
        apply Classical.byContradiction
        intro w
        exact u (hj i (by omega))
      subst e
      exact nm_r (e' := upd en i (nI (bi_e a b))) (by rw [c, bi_1 (by omega), bi_1 (by omega), bi_or]; rfl) (nm_r (e' := nI (L ||| 2 ^ i)) (by rw [bi_1 (by omega), bi_or]) k)
theorem rl_xfull {post : Int32 → SX → Prop} (L16 : L < 65536) {x y : Int32} (hj : ∀ j, j < 16 → L.testBit j = true) (k : post (-2) (nI n, nI L, vm, vr, vb, vh, en, od, lw, fr, cy, nx, rt, tb)) : ∀ f i, 16 < f + i → i ≤ 16 → wX_add_25 post x y (nI n) (nI L) vm vr vb vh en od lw fr cy nx rt tb f (nI i) := by
  intro f
  induction f with
  | zero => intro i h h'; omega
  | succ f ih =>
    intro i h h'
    rw [wX_add_25]
    by_cases e : i = 16
    · subst e
      exact br_t (nI_le (b := 16) (by omega) (by omega)) k
    · exact br_f (nI_ge (b := 16) (by omega) (by omega)) (xl_lineN L16 (by omega) (fun u => br_f (by decide) (nm_r (nI_1 i) (ih (i + 1) (by omega) (by omega)))) (fun u => absurd (hj i (by omega)) u))
theorem rl_yadd {post : Int32 → SY → Prop} (hY : cx_Y L A B th ya yb) {x y : Int32} {q : Nat} (q16 : q < 16) (hq : ¬ L.testBit q = true) (hj : ∀ j, j < q → L.testBit j = true) (k : post (nI q) (nI n, upd th q 1, upd ya q x, upd yb q y)) : ∀ f i, 16 < f + i → i ≤ q → wY_add_25 post x y (nI n) th ya yb f (nI i) := by
  intro f
  induction f with
  | zero => intro i h h'; omega
  | succ f ih =>
    intro i h h'
    have c : (nI i).toNatClampNeg = i := nI_clamp (by omega)
    have v : vp_in (nI i) 16 := vp_in_nI (by omega) (by omega)
    rw [wY_add_25]
    refine br_f (nI_ge (b := 16) (by omega) (by omega)) ⟨v, ek_if (cx_th hY (by omega)) (fun u => ?_) (fun u => nm_r (nI_1 i) (ih (i + 1) (by omega) ?_))⟩
    · have e : i = q := by
        apply Classical.byContradiction
        intro w
        exact u (hj i (by omega))
      subst e
      rw [c, rl_vb1]
      exact ⟨v, nm_e ⟨v, nm_e ⟨v, nm_e k⟩⟩⟩
    · apply Classical.byContradiction
      intro w
      have : i = q := by omega
      rw [this] at u
      exact u hq
theorem rl_yfull {post : Int32 → SY → Prop} (hY : cx_Y L A B th ya yb) {x y : Int32} (hj : ∀ j, j < 16 → L.testBit j = true) (k : post (-2) (nI n, th, ya, yb)) : ∀ f i, 16 < f + i → i ≤ 16 → wY_add_25 post x y (nI n) th ya yb f (nI i) := by
  intro f
  induction f with
  | zero => intro i h h'; omega
  | succ f ih =>
    intro i h h'
    rw [wY_add_25]
    by_cases e : i = 16
    · subst e
      exact br_t (nI_le (b := 16) (by omega) (by omega)) k
    · exact br_f (nI_ge (b := 16) (by omega) (by omega)) ⟨vp_in_nI (by omega) (by omega), ek_if (cx_th hY (by omega)) (fun u => absurd (hj i (by omega)) u) (fun u => nm_r (nI_1 i) (ih (i + 1) (by omega) (by omega)))⟩
/-- a line more -/
theorem rl_more (g : cx_G n L A B) (hX : cx_X L A B en) (hY : cx_Y L A B th ya yb) {a b q : Nat} (an : a < n) (bn : b < n) (ab : a ≠ b) (q16 : q < 16) : cx_G n (L ||| 2 ^ q) (wk_u A q a) (wk_u B q b) ∧ cx_X (L ||| 2 ^ q) (wk_u A q a) (wk_u B q b) (upd en q (nI (bi_e a b))) ∧ cx_Y (L ||| 2 ^ q) (wk_u A q a) (wk_u B q b) (upd th q 1) (upd ya q (nI a)) (upd yb q (nI b)) := by
  have t : ∀ j, (L ||| 2 ^ q).testBit j = true ↔ (L.testBit j = true ∨ j = q) := by
    intro j
    rw [Nat.testBit_or, Bool.or_eq_true, pv_2p]
  refine ⟨⟨g.1, Nat.or_lt_two_pow (n := 16) g.2.1 (Nat.pow_lt_pow_right (by omega) q16), fun j hj h => ?_⟩, fun j hj h => ?_, fun j hj => ?_⟩
  · by_cases e : j = q
    · rw [e, wk_us, wk_us]
      exact ⟨an, bn, ab⟩
    · rw [wk_un A _ e, wk_un B _ e]
      exact g.2.2 j hj (((t j).mp h).elim id (fun w => absurd w e))
  · by_cases e : j = q
    · rw [e, wk_us, wk_us, pk_us]
    · rw [wk_un A _ e, wk_un B _ e, pk_un e]
      exact hX j hj (((t j).mp h).elim id (fun w => absurd w e))
  · by_cases e : j = q
    · rw [e, wk_us, wk_us, pk_us, pk_us, pk_us, if_pos ((t q).mpr (Or.inr rfl))]
      exact ⟨rfl, fun _ => ⟨rfl, rfl⟩⟩
    · rw [wk_un A _ e, wk_un B _ e, pk_un e, pk_un e, pk_un e]
      obtain ⟨y1, y2⟩ := hY j hj
      by_cases c : L.testBit j = true
      · rw [if_pos ((t j).mpr (Or.inl c)), y1, if_pos c]
        exact ⟨rfl, fun _ => y2 c⟩
      · have nc : ¬ (L ||| 2 ^ q).testBit j = true := fun w => ((t j).mp w).elim c e
        rw [if_neg nc, y1, if_neg c]
        exact ⟨rfl, fun w => absurd w nc⟩
/-- a line less -/
theorem rl_less (g : cx_G n L A B) (hX : cx_X L A B en) (hY : cx_Y L A B th ya yb) {q : Nat} : cx_G n (bi_d L (2 ^ q)) A B ∧ cx_X (bi_d L (2 ^ q)) A B en ∧ cx_Y (bi_d L (2 ^ q)) A B (upd th q 0) ya yb := by
  refine ⟨⟨g.1, bi_dlt (n := 16) g.2.1, fun j hj h => g.2.2 j hj (cx_dL j hj h)⟩, fun j hj h => hX j hj (cx_dL j hj h), fun j hj => ?_⟩
  obtain ⟨y1, y2⟩ := hY j hj
  refine ⟨?_, fun h => y2 (cx_dL j hj h)⟩
  by_cases e : j = q
  · rw [e, pk_us, if_neg (fun w => ((pv_dT _ _ _).mp w).2 ((pv_2p q q).mpr rfl))]
  · rw [pk_un e, y1]
    by_cases c : L.testBit j = true
    · rw [if_pos c, if_pos ((pv_dT _ _ _).mpr ⟨c, fun w => e ((pv_2p q j).mp w)⟩)]
    · rw [if_neg c, if_neg (fun w => c ((pv_dT _ _ _).mp w).1)]
theorem rl_bl (g : cx_G n L A B) {k : Nat} : 2 ^ k ||| pv_m (yl_bl A B n L k) 16 = 2 ^ k ||| pv_m (xc_bl A B n L k) 16 := by
  have a8 := pv_a8 g.1.2
  apply pv_ext
  intro j
  rw [Nat.testBit_or, Nat.testBit_or, Bool.or_eq_true, Bool.or_eq_true, pv_2p, pv_mT, pv_mT]
  by_cases e : j = k
  · exact ⟨fun _ => Or.inl e, fun _ => Or.inl e⟩
  · constructor
    · rintro (h | ⟨h1, h2, h3, h4⟩)
      · exact Or.inl h
      · exact Or.inr ⟨h1, h2, fun p hp => (pv_bl (bi_dlt (n := 8) a8)).mpr (h4 p hp)⟩
    · rintro (h | ⟨h1, h2, h4⟩)
      · exact Or.inl h
      · exact Or.inr ⟨h1, h2, e, fun p hp => (pv_bl (bi_dlt (n := 8) a8)).mp (h4 p hp)⟩
end
theorem i_vc_add {k : Nat} {u : SX} {v : SY} (I : i_Rel k u v) (hk : k + 3 ≤ 1536) (v1 : Int32) (v2 : Int32) : wpX_add (fun r u' => wpY_add (fun r' v' => r' = r ∧ i_Rel (k + 3) u' v') v v1 v2) u v1 v2 := by
  obtain ⟨n, L, A, B, vm, vr, vb, vh, en, od, lw, fr, cy, nx, rt, tb, th, ya, yb, rfl, rfl, g, hX, hY⟩ := I
  have n8 := g.1.2
  unfold wpX_add wpY_add
  dsimp only
  refine xl_point n8 (fun a an ea => br_f (by decide) ?_) (fun h => br_t rfl (yl_point n8 (fun a an ea => absurd ea (h a an)) (fun _ => br_t rfl ⟨rfl, rl_mk g hX hY⟩)))
  refine xl_point n8 (fun b bn eb => br_f (by decide) ?_) (fun h => br_t rfl (yl_point n8 (fun _ _ _ => br_f (by decide) (yl_point n8 (fun b bn eb => absurd eb (h b bn)) (fun _ => br_t rfl ⟨rfl, rl_mk g hX hY⟩))) (fun h => absurd ea (h a an))))
  by_cases e : v1 = v2
  · exact br_t e (yl_point n8 (fun _ _ _ => br_f (by decide) (yl_point n8 (fun _ _ _ => br_f (by decide) (br_t e ⟨rfl, rl_mk g hX hY⟩)) (fun h => absurd eb (h b bn)))) (fun h => absurd ea (h a an)))
  · refine br_f e ?_
    have ab : a ≠ b := by
      intro q
      rw [ea, eb, q] at e
      exact e rfl
    by_cases fr' : ∃ q, q < 16 ∧ ¬ L.testBit q = true
    · obtain ⟨q0, q1, q2⟩ := fr'
      obtain ⟨q, _, q3, q4⟩ := gr_least (fun q => q < 16 ∧ ¬ L.testBit q = true) q0 ⟨q1, q2⟩
      have hj : ∀ j, j < q → L.testBit j = true := fun j hj => Classical.byContradiction (fun w => q4 j hj ⟨by have := q3.1; omega, w⟩)
      obtain ⟨m1, m2, m3⟩ := rl_more g hX hY an bn ab q3.1
      refine ⟨17, ?_⟩
      subst ea
      subst eb
      refine rl_xadd g.2.1 (by omega) (by omega) q3.1 q3.2 hj ?_ 17 0 (by omega) (by omega)
      exact yl_point n8 (fun _ _ _ => br_f (by decide) (yl_point n8 (fun _ _ _ => br_f (by decide) (br_f e ⟨17, rl_yadd hY q3.1 q3.2 hj ⟨rfl, rl_mk m1 m2 m3⟩ 17 0 (by omega) (by omega)⟩)) (fun h => absurd rfl (h b bn)))) (fun h => absurd rfl (h a an))
    · have hj : ∀ j, j < 16 → L.testBit j = true := fun j hj => Classical.byContradiction (fun w => fr' ⟨j, hj, w⟩)
      refine ⟨17, ?_⟩
      refine rl_xfull g.2.1 hj ?_ 17 0 (by omega) (by omega)
      exact yl_point n8 (fun _ _ _ => br_f (by decide) (yl_point n8 (fun _ _ _ => br_f (by decide) (br_f e ⟨17, rl_yfull hY hj ⟨rfl, rl_mk g hX hY⟩ 17 0 (by omega) (by omega)⟩)) (fun h => absurd eb (h b bn)))) (fun h => absurd ea (h a an))
theorem i_vc_remove {k : Nat} {u : SX} {v : SY} (I : i_Rel k u v) (hk : k + 3 ≤ 1536) (v1 : Int32) : wpX_remove (fun r u' => wpY_remove (fun r' v' => r' = r ∧ i_Rel (k + 3) u' v') v v1) u v1 := by
  obtain ⟨n, L, A, B, vm, vr, vb, vh, en, od, lw, fr, cy, nx, rt, tb, th, ya, yb, rfl, rfl, g, hX, hY⟩ := I
  unfold wpX_remove wpY_remove
  dsimp only
  refine xl_line g.2.1 (fun q hq eq lq => br_f (by decide) ?_) (fun h => br_t rfl (yl_is hY (fun q hq eq lq => absurd lq (h q hq eq)) (fun _ => br_t rfl ⟨rfl, rl_mk g hX hY⟩)))
  subst eq
  have c : (nI q).toNatClampNeg = q := nI_clamp (by omega)
  obtain ⟨m1, m2, m3⟩ := rl_less g hX hY (q := q)
  refine nm_r (e' := nI (bi_d L (2 ^ q))) (by rw [bi_1 (by omega), bi_not]) ?_
  refine yl_is hY (fun j hj ej lj => br_f (by decide) ⟨vp_in_nI hq (by omega), nm_r (e' := upd th q 0) (by rw [c, rl_vb0]) ⟨rfl, rl_mk m1 m2 m3⟩⟩) (fun h => absurd lq (h q hq rfl))
theorem i_vc_lines {k : Nat} {u : SX} {v : SY} (I : i_Rel k u v) (hk : k + 3 ≤ 1536) : wpX_lines (fun r => wpY_lines (fun r' => r' = r ∧ i_Rel (k + 3) u v) v) u := by
  obtain ⟨n, L, A, B, vm, vr, vb, vh, en, od, lw, fr, cy, nx, rt, tb, th, ya, yb, rfl, rfl, g, hX, hY⟩ := I
  unfold wpX_lines
  dsimp only
  exact yl_lines g hY ⟨rfl, rl_mk g hX hY⟩
theorem i_vc_groups {k : Nat} {u : SX} {v : SY} (I : i_Rel k u v) (hk : k + 3 ≤ 1536) (v1 : Int32) : wpX_groups (fun r u' => wpY_groups (fun r' => r' = r ∧ i_Rel (k + 3) u' v) v v1) u v1 := by
  obtain ⟨n, L, A, B, vm, vr, vb, vh, en, od, lw, fr, cy, nx, rt, tb, th, ya, yb, rfl, rfl, g, hX, hY⟩ := I
  refine xc_groups g hX ?_ ?_
  · intro hx vm vr vb vh od lw fr cy nx rt
    exact yl_groups g hY (fun _ => ⟨rfl, rl_mk g hX hY⟩) (fun h => absurd hx h)
  · intro hx
    exact yl_groups g hY (fun h => absurd h hx) (fun _ => ⟨rfl, rl_mk g hX hY⟩)
theorem i_vc_bridges {k : Nat} {u : SX} {v : SY} (I : i_Rel k u v) (hk : k + 3 ≤ 1536) (v1 : Int32) : wpX_bridges (fun r u' => wpY_bridges (fun r' => r' = r ∧ i_Rel (k + 3) u' v) v v1) u v1 := by
  obtain ⟨n, L, A, B, vm, vr, vb, vh, en, od, lw, fr, cy, nx, rt, tb, th, ya, yb, rfl, rfl, g, hX, hY⟩ := I
  refine xc_bridges g hX ?_ ?_
  · intro hx vm vr vb vh od lw fr cy nx rt
    exact yl_bridges g hY (fun _ => ⟨rfl, rl_mk g hX hY⟩) (fun h => absurd hx h)
  · intro hx
    exact yl_bridges g hY (fun h => absurd h hx) (fun _ => ⟨rfl, rl_mk g hX hY⟩)
theorem i_vc_hinges {k : Nat} {u : SX} {v : SY} (I : i_Rel k u v) (hk : k + 3 ≤ 1536) (v1 : Int32) : wpX_hinges (fun r u' => wpY_hinges (fun r' => r' = r ∧ i_Rel (k + 3) u' v) v v1) u v1 := by
  obtain ⟨n, L, A, B, vm, vr, vb, vh, en, od, lw, fr, cy, nx, rt, tb, th, ya, yb, rfl, rfl, g, hX, hY⟩ := I
  refine xc_hinges g hX ?_ ?_
  · intro hx vm vr vb vh od lw fr cy nx rt
    exact yl_hinges g hY (fun _ => ⟨rfl, rl_mk g hX hY⟩) (fun h => absurd hx h)
  · intro hx
    exact yl_hinges g hY (fun h => absurd h hx) (fun _ => ⟨rfl, rl_mk g hX hY⟩)
theorem i_vc_agree {k : Nat} {u : SX} {v : SY} (I : i_Rel k u v) (hk : k + 3 ≤ 1536) (v1 : Int32) (v2 : Int32) : wpX_agree (fun r u' => wpY_agree (fun r' => r' = r ∧ i_Rel (k + 3) u' v) v v1 v2) u v1 v2 := by
  obtain ⟨n, L, A, B, vm, vr, vb, vh, en, od, lw, fr, cy, nx, rt, tb, th, ya, yb, rfl, rfl, g, hX, hY⟩ := I
  refine xc_agree g hX ?_ ?_
  · intro hx hy vm vr vb vh od lw fr cy nx rt
    exact yl_agree (fun _ _ => ⟨rfl, rl_mk g hX hY⟩) (fun h => absurd ⟨hx, hy⟩ h)
  · intro hx
    exact yl_agree (fun h1 h2 => absurd ⟨h1, h2⟩ hx) (fun _ => ⟨rfl, rl_mk g hX hY⟩)
theorem i_vc_block {k : Nat} {u : SX} {v : SY} (I : i_Rel k u v) (hk : k + 3 ≤ 1536) (v1 : Int32) : wpX_block (fun r => wpY_block (fun r' => r' = r ∧ i_Rel (k + 3) u v) v v1) u v1 := by
  obtain ⟨n, L, A, B, vm, vr, vb, vh, en, od, lw, fr, cy, nx, rt, tb, th, ya, yb, rfl, rfl, g, hX, hY⟩ := I
  refine xc_block g hX (fun q hq eq lq => ?_) (fun h => ?_)
  · refine yl_block g hY (fun j hj ej lj => ⟨?_, rl_mk g hX hY⟩) (fun h => absurd lq (h q hq eq))
    have e : j = q := (nI_eq (by omega) (by omega)).mp (ej.symm.trans eq)
    rw [e, rl_bl g]
  · exact yl_block g hY (fun j hj ej lj => absurd lj (h j hj ej)) (fun _ => ⟨rfl, rl_mk g hX hY⟩)
theorem i_vc_island {k : Nat} {u : SX} {v : SY} (I : i_Rel k u v) (hk : k + 3 ≤ 1536) (v1 : Int32) : wpX_island (fun r => wpY_island (fun r' => r' = r ∧ i_Rel (k + 3) u v) v v1) u v1 := by
  obtain ⟨n, L, A, B, vm, vr, vb, vh, en, od, lw, fr, cy, nx, rt, tb, th, ya, yb, rfl, rfl, g, hX, hY⟩ := I
  have n8 := g.1.2
  refine xc_island g hX (fun p hp ep => ?_) (fun h => ?_)
  · refine yl_island g hY (fun j hj ej => ⟨?_, rl_mk g hX hY⟩) (fun h => absurd ep (h p hp))
    have e : j = p := (nI_eq (by omega) (by omega)).mp (ej.symm.trans ep)
    rw [e]
  · exact yl_island g hY (fun j hj ej => absurd ej (h j hj)) (fun _ => ⟨rfl, rl_mk g hX hY⟩)
theorem i_vc_weakest {k : Nat} {u : SX} {v : SY} (I : i_Rel k u v) (hk : k + 3 ≤ 1536) : wpX_weakest (fun r => wpY_weakest (fun r' => r' = r ∧ i_Rel (k + 3) u v) v) u := by
  obtain ⟨n, L, A, B, vm, vr, vb, vh, en, od, lw, fr, cy, nx, rt, tb, th, ya, yb, rfl, rfl, g, hX, hY⟩ := I
  have n1 := g.1.1
  refine xc_weak g hX (fun h1 h2 => ?_) (fun h => ?_)
  · exact yl_weak g hY (fun _ _ => ⟨by rw [pv_w (by omega) g.1.2], rl_mk g hX hY⟩) (fun h => absurd h (fun w => w.elim h1 h2))
  · exact yl_weak g hY (fun h1 h2 => absurd h (fun w => w.elim h1 h2)) (fun _ => ⟨rfl, rl_mk g hX hY⟩)
theorem i_vc_fragile {k : Nat} {u : SX} {v : SY} (I : i_Rel k u v) (hk : k + 3 ≤ 1536) : wpX_fragile (fun r => wpY_fragile (fun r' => r' = r ∧ i_Rel (k + 3) u v) v) u := by
  obtain ⟨n, L, A, B, vm, vr, vb, vh, en, od, lw, fr, cy, nx, rt, tb, th, ya, yb, rfl, rfl, g, hX, hY⟩ := I
  have n1 := g.1.1
  refine xc_frag g hX (fun h1 h2 => ?_) (fun h => ?_)
  · exact yl_frag g hY (fun _ _ => ⟨by rw [pv_f (by omega) g.1.2 h2], rl_mk g hX hY⟩) (fun h => absurd h (fun w => w.elim h1 h2))
  · exact yl_frag g hY (fun h1 h2 => absurd h (fun w => w.elim h1 h2)) (fun _ => ⟨rfl, rl_mk g hX hY⟩)
theorem i_vc_trees {k : Nat} {u : SX} {v : SY} (I : i_Rel k u v) (hk : k + 3 ≤ 1536) : wpX_trees (fun r u' => wpY_trees (fun r' => r' = r ∧ i_Rel (k + 3) u' v) v) u := by
  obtain ⟨n, L, A, B, vm, vr, vb, vh, en, od, lw, fr, cy, nx, rt, tb, th, ya, yb, rfl, rfl, g, hX, hY⟩ := I
  exact xt_trees g hX (fun tb => yl_trees g hY ⟨rfl, rl_mk g hX hY⟩)
theorem i_vc_shortest {k : Nat} {u : SX} {v : SY} (I : i_Rel k u v) (hk : k + 3 ≤ 1536) : wpX_shortest (fun r => wpY_shortest (fun r' => r' = r ∧ i_Rel (k + 3) u v) v) u := by
  obtain ⟨n, L, A, B, vm, vr, vb, vh, en, od, lw, fr, cy, nx, rt, tb, th, ya, yb, rfl, rfl, g, hX, hY⟩ := I
  exact xd_short g hX (yl_short g hY ⟨rfl, rl_mk g hX hY⟩)
theorem i_vc_around {k : Nat} {u : SX} {v : SY} (I : i_Rel k u v) (hk : k + 3 ≤ 1536) (v1 : Int32) : wpX_around (fun r => wpY_around (fun r' => r' = r ∧ i_Rel (k + 3) u v) v v1) u v1 := by
  obtain ⟨n, L, A, B, vm, vr, vb, vh, en, od, lw, fr, cy, nx, rt, tb, th, ya, yb, rfl, rfl, g, hX, hY⟩ := I
  refine xd_around g hX (fun q hq eq lq => ?_) (fun h => ?_)
  · refine yl_around g hY (fun j hj ej lj => ⟨?_, rl_mk g hX hY⟩) (fun h => absurd lq (h q hq eq))
    have e : j = q := (nI_eq (by omega) (by omega)).mp (ej.symm.trans eq)
    rw [e]
  · exact yl_around g hY (fun j hj ej lj => absurd lj (h j hj ej)) (fun _ => ⟨rfl, rl_mk g hX hY⟩)
theorem i_vc_sides {k : Nat} {u : SX} {v : SY} (I : i_Rel k u v) (hk : k + 3 ≤ 1536) : wpX_sides (fun r => wpY_sides (fun r' => r' = r ∧ i_Rel (k + 3) u v) v) u := by
  obtain ⟨n, L, A, B, vm, vr, vb, vh, en, od, lw, fr, cy, nx, rt, tb, th, ya, yb, rfl, rfl, g, hX, hY⟩ := I
  refine xd_sides g hX (fun h => ?_) (fun h => ?_)
  · exact yl_sides g hY (fun _ => ⟨rfl, rl_mk g hX hY⟩) (fun w => absurd h w)
  · exact yl_sides g hY (fun w => absurd w h) (fun _ => ⟨rfl, rl_mk g hX hY⟩)
end

-- to stand before this part (rows to paste, by name): pk_us pk_un pk_uLs pk_uLn pk_sub pk_m1 pk_mul pk_le pk_lt pk_eq pk_in pk_cl pk_tn pk_shl pk_shlN pk_shr pk_shrN pk_ix pk_loop, s_l nx_and nx_xor
/-! masks: Int32 and Nat -/
theorem bi_or (a b : Nat) : nI a ||| nI b = nI (a ||| b) := by
  apply Int32.toBitVec_inj.1
  show BitVec.ofNat 32 a ||| BitVec.ofNat 32 b = BitVec.ofNat 32 (a ||| b)
  apply BitVec.eq_of_getLsbD_eq
  intro i hi
  simp [hi]
/-- a without b -/
def bi_d (a b : Nat) : Nat := a ^^^ (a &&& b)
theorem bi_dT (a b i : Nat) : (bi_d a b).testBit i = (a.testBit i && !b.testBit i) := by
  unfold bi_d
  rw [Nat.testBit_xor, Nat.testBit_and]
  cases a.testBit i <;> cases b.testBit i <;> rfl
theorem bi_m1 : (-1 : Int32).toBitVec = BitVec.allOnes 32 := by decide
theorem bi_not (a b : Nat) : nI a &&& (nI b ^^^ (-1)) = nI (bi_d a b) := by
  apply Int32.toBitVec_inj.1
  rw [Int32.toBitVec_and, Int32.toBitVec_xor, bi_m1]
  show BitVec.ofNat 32 a &&& (BitVec.ofNat 32 b ^^^ BitVec.allOnes 32) = BitVec.ofNat 32 (bi_d a b)
  apply BitVec.eq_of_getLsbD_eq
  intro i hi
  rw [BitVec.getLsbD_and, BitVec.getLsbD_xor, BitVec.getLsbD_allOnes, BitVec.getLsbD_ofNat, BitVec.getLsbD_ofNat, BitVec.getLsbD_ofNat, bi_dT]
  simp [hi]
theorem bi_dlt {a b n : Nat} (h : a < 2 ^ n) : bi_d a b < 2 ^ n := by
  unfold bi_d
  exact Nat.xor_lt_two_pow h (Nat.lt_of_le_of_lt Nat.and_le_left h)
theorem bi_1 {k : Nat} (h : k < 31) : (1 : Int32) <<< (nI k &&& 31) = nI (2 ^ k) := by
  have l : 2 ^ k < 2 ^ 32 := Nat.pow_lt_pow_right (by omega) (by omega)
  have := pk_shlN (n := 1) (nI k &&& 31) k (s_l k (by omega)) (by omega)
  rw [Nat.one_mul] at this
  exact this
theorem bi_bit {a k : Nat} (ha : a < 2 ^ 31) (hk : k < 32) : (nI a >>> (nI k &&& 31)) &&& 1 = (if a.testBit k = true then 1 else 0) := by
  rw [pk_shrN ha _ k (s_l k hk)]
  show nI (a / 2 ^ k) &&& nI 1 = _
  rw [nx_and, Nat.and_one_is_mod, Nat.testBit_eq_decide_div_mod_eq]
  generalize a / 2 ^ k = z
  have : z % 2 = 0 ∨ z % 2 = 1 := by omega
  rcases this with e | e
  · rw [e]; rfl
  · rw [e]; rfl
theorem bi_b1 {a k : Nat} (ha : a < 2 ^ 31) (hk : k < 32) : ((nI a >>> (nI k &&& 31)) &&& 1 = 1) ↔ a.testBit k = true := by
  rw [bi_bit ha hk]
  split
  · rename_i h; exact ⟨fun _ => h, fun _ => rfl⟩
  · rename_i h; exact ⟨fun q => absurd q (by decide), fun q => absurd q h⟩
theorem bi_b0 {a k : Nat} (ha : a < 2 ^ 31) (hk : k < 32) : ((nI a >>> (nI k &&& 31)) &&& 1 = 0) ↔ ¬ a.testBit k = true := by
  rw [bi_bit ha hk]
  split
  · rename_i h; exact ⟨fun q => absurd q (by decide), fun q => absurd h q⟩
  · rename_i h; exact ⟨fun _ => h, fun _ => rfl⟩
theorem bi_z {a : Nat} (ha : a < 2 ^ 31) : nI a = 0 ↔ a = 0 := by
  rw [← nI_0, nI_eq ha (by omega)]
theorem bi_all {n : Nat} (h : n < 31) : (1 : Int32) <<< (nI n &&& 31) - 1 = nI (2 ^ n - 1) := by
  rw [bi_1 h]
  have : 1 ≤ 2 ^ n := Nat.one_le_two_pow
  show nI (2 ^ n) - nI 1 = _
  exact pk_sub this
theorem bi_allT (n i : Nat) : (2 ^ n - 1).testBit i = decide (i < n) := Nat.testBit_two_pow_sub_one n i
/-! the two ends of a line as a mask -/
def bi_e (a b : Nat) : Nat := 2 ^ a ||| 2 ^ b
theorem bi_eT (a b i : Nat) : (bi_e a b).testBit i = true ↔ (i = a ∨ i = b) := by
  unfold bi_e
  rw [Nat.testBit_or, Nat.testBit_two_pow, Nat.testBit_two_pow]
  simp
  constructor
  · rintro (h | h)
    · exact Or.inl h.symm
    · exact Or.inr h.symm
  · rintro (h | h)
    · exact Or.inl h.symm
    · exact Or.inr h.symm
/-- a mask is not 0 if and only if it has a bit -/
theorem bi_nz (a : Nat) : a ≠ 0 ↔ ∃ i, a.testBit i = true := by
  constructor
  · intro h
    exact Nat.exists_testBit_of_ne_zero h
  · rintro ⟨i, h⟩ e
    rw [e, Nat.zero_testBit] at h
    cases h
theorem bi_enz (a b s : Nat) : (bi_e a b &&& s ≠ 0) ↔ (s.testBit a = true ∨ s.testBit b = true) := by
  rw [bi_nz]
  constructor
  · rintro ⟨i, h⟩
    rw [Nat.testBit_and, Bool.and_eq_true, bi_eT] at h
    rcases h with ⟨h | h, g⟩
    · rw [h] at g; exact Or.inl g
    · rw [h] at g; exact Or.inr g
  · rintro (h | h)
    · exact ⟨a, by rw [Nat.testBit_and, Bool.and_eq_true, bi_eT]; exact ⟨Or.inl rfl, h⟩⟩
    · exact ⟨b, by rw [Nat.testBit_and, Bool.and_eq_true, bi_eT]; exact ⟨Or.inr rfl, h⟩⟩
theorem bi_ed0 (a b s : Nat) : (bi_d (bi_e a b) s = 0) ↔ (s.testBit a = true ∧ s.testBit b = true) := by
  have h := bi_nz (bi_d (bi_e a b) s)
  constructor
  · intro e
    constructor
    · apply Classical.byContradiction
      intro n
      exact h.mpr ⟨a, by rw [bi_dT, Bool.and_eq_true, bi_eT]; exact ⟨Or.inl rfl, by simpa using n⟩⟩ e
    · apply Classical.byContradiction
      intro n
      exact h.mpr ⟨b, by rw [bi_dT, Bool.and_eq_true, bi_eT]; exact ⟨Or.inr rfl, by simpa using n⟩⟩ e
  · rintro ⟨e, f⟩
    apply Classical.byContradiction
    intro n
    obtain ⟨i, hi⟩ := h.mp n
    rw [bi_dT, Bool.and_eq_true, bi_eT] at hi
    rcases hi with ⟨q | q, w⟩
    · rw [q, e] at w; cases w
    · rw [q, f] at w; cases w

/-! the table of long numbers -/
theorem bz_z {x : Int} (h : x.natAbs < 2 ^ 61) : Int64.ofInt x = 0 ↔ x = 0 := by
  rw [← Int64.toInt_inj, Int64.toInt_ofInt_of_le (by omega) (by omega)]
  exact Iff.rfl
theorem bz_p1 (x : Int) : Int64.ofInt x + 1 = Int64.ofInt (x + 1) := (Int64.ofInt_add x 1).symm
theorem bz_m1 (x : Int) : Int64.ofInt x - 1 = Int64.ofInt (x - 1) := (Int64.ofInt_sub x 1).symm
theorem bz_mul (x y : Int) : Int64.ofInt x * Int64.ofInt y = Int64.ofInt (x * y) := (Int64.ofInt_mul x y).symm
def bz_F (L : Nat) (A B : Nat → Nat) (k : Nat) (tb : Nat → Int64) : Prop := ∀ i j, i < 8 → j < 8 → tb (i * 8 + j) = Int64.ofInt (mt_L (fun k => L.testBit k) A B (mt_r0 8) k i j)
theorem bz_F0 {L : Nat} {A B : Nat → Nat} {tb : Nat → Int64} (h : ∀ q, q < 64 → tb q = 0) : bz_F L A B 0 tb := by
  intro i j hi hj
  rw [h _ (by omega)]
  show 0 = Int64.ofInt (if i = j ∧ mt_r0 8 i ≠ i then 1 else 0)
  have e : mt_r0 8 i = i := by unfold mt_r0; rw [if_pos hi]
  rw [if_neg (fun q => q.2 e)]
  rfl
theorem bz_FN {L : Nat} {A B : Nat → Nat} {k : Nat} {tb : Nat → Int64} (h : bz_F L A B k tb) (hk : ¬ L.testBit k = true) : bz_F L A B (k + 1) tb := by
  intro i j hi hj
  rw [h i j hi hj]
  show _ = Int64.ofInt (mt_L (fun k => L.testBit k) A B (mt_r0 8) k i j + (if L.testBit k = true then _ else 0))
  rw [if_neg hk, Int.add_zero]
theorem bz_FS {L : Nat} {A B : Nat → Nat} {k a b : Nat} {tb : Nat → Int64} (h : bz_F L A B k tb) (hk : L.testBit k = true) (a8 : a < 8) (b8 : b < 8) (ne : a ≠ b) (e : (a = A k ∧ b = B k) ∨ (a = B k ∧ b = A k)) {t1 t2 t3 t4 : Nat → Int64}
    (h1 : t1 = vp_updL tb (a * 8 + a) (tb (a * 8 + a) + 1)) (h2 : t2 = vp_updL t1 (b * 8 + b) (t1 (b * 8 + b) + 1)) (h3 : t3 = vp_updL t2 (a * 8 + b) (t2 (a * 8 + b) - 1)) (h4 : t4 = vp_updL t3 (b * 8 + a) (t3 (b * 8 + a) - 1)) : bz_F L A B (k + 1) t4 := by
  intro i j hi hj
  have r : ∀ p, p < 8 → mt_r0 8 p = p := fun p hp => by unfold mt_r0; rw [if_pos hp]
  have bt : ∀ q, mt_bt A B (mt_r0 8) k q * mt_bt A B (mt_r0 8) k j = mt_bt A B (mt_r0 8) k q * mt_bt A B (mt_r0 8) k j := fun _ => rfl
  have s : mt_bt A B (mt_r0 8) k i * mt_bt A B (mt_r0 8) k j = (dt_dl a i - dt_dl b i) * (dt_dl a j - dt_dl b j) := by
    unfold mt_bt
    rcases e with ⟨e1, e2⟩ | ⟨e1, e2⟩
    · rw [← e1, ← e2, r a a8, r b b8]
    · rw [← e1, ← e2, r a a8, r b b8]
      grind
  show _ = Int64.ofInt (mt_L (fun k => L.testBit k) A B (mt_r0 8) k i j + (if L.testBit k = true then mt_bt A B (mt_r0 8) k i * mt_bt A B (mt_r0 8) k j else 0))
  rw [if_pos hk, s]
  have o := h i j hi hj
  have n1 : a * 8 + a ≠ b * 8 + b := by omega
  have n2 : a * 8 + a ≠ a * 8 + b := by omega
  have n3 : a * 8 + a ≠ b * 8 + a := by omega
  have n4 : b * 8 + b ≠ a * 8 + b := by omega
  have n5 : b * 8 + b ≠ b * 8 + a := by omega
  have n6 : a * 8 + b ≠ b * 8 + a := by omega
  by_cases ia : i = a
  · subst ia
    by_cases ja : j = i
    · subst ja
      rw [h4, pk_uLn n3, h3, pk_uLn n2, h2, pk_uLn n1, h1, pk_uLs, o, bz_p1, dt_dl1, dt_dl0 ne]
      congr 1
    · by_cases jb : j = b
      · subst jb
        rw [h4, pk_uLn n6, h3, pk_uLs, h2, pk_uLn (fun q => n4 q.symm), h1, pk_uLn (fun q => n2 q.symm), o, bz_m1, dt_dl1, dt_dl1, dt_dl0 ne, dt_dl0 (fun q => ne q.symm)]
        congr 1
      · rw [h4, pk_uLn (by omega), h3, pk_uLn (by omega), h2, pk_uLn (by omega), h1, pk_uLn (by omega), o, dt_dl0 ja, dt_dl0 jb]
        congr 1
        omega
  · by_cases ib : i = b
    · subst ib
      by_cases ja : j = a
      · subst ja
        rw [h4, pk_uLs, h3, pk_uLn (fun q => n6 q.symm), h2, pk_uLn (fun q => n5 q.symm), h1, pk_uLn (fun q => n3 q.symm), o, bz_m1, dt_dl1, dt_dl1, dt_dl0 ne, dt_dl0 (fun q => ne q.symm)]
        congr 1
      · by_cases jb : j = i
        · subst jb
          rw [h4, pk_uLn n5, h3, pk_uLn n4, h2, pk_uLs, h1, pk_uLn (fun q => n1 q.symm), o, bz_p1, dt_dl1, dt_dl0 ia]
          congr 1
        · rw [h4, pk_uLn (by omega), h3, pk_uLn (by omega), h2, pk_uLn (by omega), h1, pk_uLn (by omega), o, dt_dl0 ja, dt_dl0 jb]
          congr 1
          omega
    · rw [h4, pk_uLn (by omega), h3, pk_uLn (by omega), h2, pk_uLn (by omega), h1, pk_uLn (by omega), o, dt_dl0 ia, dt_dl0 ib]
      congr 1
      omega
/-! Bareiss's loops -/
/-- in step d, cells before (i, j) are new -/
def bz_T (M : Nat → Nat → Int) (s d i j : Nat) (tb : Nat → Int64) : Prop := ∀ i' j', d ≤ i' → i' < s → d ≤ j' → j' < s → tb (i' * 8 + j') = Int64.ofInt (if (d < i' ∧ d < j') ∧ (i' < i ∨ (i' = i ∧ j' < j)) then dt_bm M (d + 1) i' j' else dt_bm M d i' j')
theorem bz_T0 {M : Nat → Nat → Int} {s : Nat} {tb : Nat → Int64} (h : ∀ i j, i < s → j < s → tb (i * 8 + j) = Int64.ofInt (M i j)) : bz_T M s 0 1 1 tb := by
  intro i j _ hi _ hj
  rw [if_neg (by omega), dt_bm0]
  exact h i j hi hj
theorem bz_Tr {M : Nat → Nat → Int} {s d i : Nat} {tb : Nat → Int64} (h : bz_T M s d i s tb) : bz_T M s d (i + 1) (d + 1) tb := by
  intro i' j' h1 h2 h3 h4
  rw [h i' j' h1 h2 h3 h4]
  by_cases c : (d < i' ∧ d < j') ∧ (i' < i ∨ (i' = i ∧ j' < s))
  · rw [if_pos c, if_pos (by omega)]
  · rw [if_neg c, if_neg (by omega)]
theorem bz_Td {M : Nat → Nat → Int} {s d j : Nat} {tb : Nat → Int64} (h : bz_T M s d s j tb) : bz_T M s (d + 1) (d + 1 + 1) (d + 1 + 1) tb := by
  intro i' j' h1 h2 h3 h4
  rw [h i' j' (by omega) h2 (by omega) h4, if_pos (by omega), if_neg (by omega)]
theorem bz_Tw {M : Nat → Nat → Int} {s d i j : Nat} {tb : Nat → Int64} (h : bz_T M s d i j tb) (di : d < i) (hi : i < s) (dj : d < j) (hj : j < s) (s8 : s ≤ 8) : bz_T M s d i (j + 1) (vp_updL tb (i * 8 + j) (Int64.ofInt (dt_bm M (d + 1) i j))) := by
  intro i' j' h1 h2 h3 h4
  by_cases e : i' = i ∧ j' = j
  · rw [e.1, e.2, pk_uLs, if_pos (by omega)]
  · rw [pk_uLn (by omega), h i' j' h1 h2 h3 h4]
    by_cases c : (d < i' ∧ d < j') ∧ (i' < i ∨ (i' = i ∧ j' < j))
    · rw [if_pos c, if_pos (by omega)]
    · rw [if_neg c, if_neg (by omega)]
/-- what the step reads -/
theorem bz_rd {M : Nat → Nat → Int} {s d i j : Nat} {tb : Nat → Int64} (h : bz_T M s d i j tb) (di : d < i) (hi : i < s) (dj : d < j) (hj : j < s) : tb (i * 8 + j) = Int64.ofInt (dt_bm M d i j) ∧ tb (i * 8 + d) = Int64.ofInt (dt_bm M d i d) ∧ tb (d * 8 + j) = Int64.ofInt (dt_bm M d d j) := by
  refine ⟨?_, ?_, ?_⟩
  · rw [h i j (by omega) hi (by omega) hj, if_neg (by omega)]
  · rw [h i d (by omega) hi (by omega) (by omega), if_neg (by omega)]
  · rw [h d j (by omega) (by omega) (by omega) hj, if_neg (by omega)]
theorem bz_pow {d e : Nat} (h : d ≤ e) : (32 : Int) ^ d ≤ 32 ^ e := by
  have : (32 : Nat) ^ d ≤ 32 ^ e := Nat.pow_le_pow_right (by omega) h
  exact_mod_cast this
/-- the step's value -/
theorem bz_q {M : Nat → Nat → Int} {s d i j : Nat} (s7 : s ≤ 7) (hM : ∀ i, i < s → dt_sum (fun j => ((M i j).natAbs : Int)) s ≤ 32) (di : d < i) (hi : i < s) (dj : d < j) (hj : j < s) (nz : ∀ k, 1 ≤ k → k ≤ d → dt_d k M ≠ 0) :
    (Int64.ofInt (dt_bm M d i j) * Int64.ofInt (dt_d (d + 1) M) - Int64.ofInt (dt_bm M d i d) * Int64.ofInt (dt_bm M d d j)) / Int64.ofInt (dt_d d M) = Int64.ofInt (dt_bm M (d + 1) i j) := by
  have b1 := dt_bmB 32 (by omega) s M hM d i j (by omega) (by omega) hi hj
  have b2 := dt_bmB 32 (by omega) s M hM d d d (by omega) (by omega) (by omega) (by omega)
  have b3 := dt_bmB 32 (by omega) s M hM d i d (by omega) (by omega) hi (by omega)
  have b4 := dt_bmB 32 (by omega) s M hM d d j (by omega) (by omega) (by omega) hj
  rw [dt_bmd] at b2
  have p : (32 : Int) ^ (d + 1) ≤ 32 ^ 6 := bz_pow (by omega)
  have p6 : (32 : Int) ^ 6 = 1073741824 := by decide
  have bz : ∀ x y : Int, (x.natAbs : Int) ≤ 32 ^ (d + 1) → (y.natAbs : Int) ≤ 32 ^ (d + 1) → (x * y).natAbs < 2 ^ 61 := by
    intro x y hx hy
    rw [Int.natAbs_mul]
    have x' : x.natAbs ≤ 1073741824 := by omega
    have y' : y.natAbs ≤ 1073741824 := by omega
    have := Nat.mul_le_mul x' y'
    omega
  have b0 : (dt_d d M).natAbs < 2 ^ 61 := by
    cases d with
    | zero => show (1 : Int).natAbs < 2 ^ 61; decide
    | succ d =>
      have c := dt_bmB 32 (by omega) s M hM d d d (by omega) (by omega) (by omega) (by omega)
      rw [dt_bmd] at c
      have p' : (32 : Int) ^ (d + 1) ≤ 32 ^ 6 := bz_pow (by omega)
      omega
  have w0 : dt_d d M ≠ 0 := by
    cases d with
    | zero => show (1 : Int) ≠ 0; decide
    | succ d => exact nz (d + 1) (by omega) (Nat.le_refl _)
  rw [bz_mul, bz_mul]
  exact mt_q w0 (dt_bar d i j M di dj nz) (bz _ _ b1 b2) (bz _ _ b3 b4) b0
theorem bz_b {M : Nat → Nat → Int} {s d : Nat} (s7 : s ≤ 7) (hM : ∀ i, i < s → dt_sum (fun j => ((M i j).natAbs : Int)) s ≤ 32) (hd : d ≤ s) : (dt_d d M).natAbs < 2 ^ 61 := by
  cases d with
  | zero => show (1 : Int).natAbs < 2 ^ 61; decide
  | succ d =>
    have c := dt_bmB 32 (by omega) s M hM d d d (by omega) (by omega) (by omega) (by omega)
    rw [dt_bmd] at c
    have p' : (32 : Int) ^ (d + 1) ≤ 32 ^ 7 := bz_pow (by omega)
    have p7 : (32 : Int) ^ 7 = 34359738368 := by decide
    omega
/-- the table of the lines, without the last point -/
theorem bz_M (L : Nat) (A B : Nat → Nat) (s : Nat) : ∀ i, i < s → dt_sum (fun j => ((mt_L (fun k => L.testBit k) A B (mt_r0 s) 16 i j).natAbs : Int)) s ≤ 32 := fun i hi => mt_rs (fun k => L.testBit k) A B hi 16
theorem bz_FT {L : Nat} {A B : Nat → Nat} {s : Nat} (s8 : s ≤ 8) {tb : Nat → Int64} (h : bz_F L A B 16 tb) : bz_T (mt_L (fun k => L.testBit k) A B (mt_r0 s) 16) s 0 1 1 tb := bz_T0 (fun i j hi hj => by
  rw [h i j (by omega) (by omega), mt_Lr (fun k => L.testBit k) A B s8 16 i j hi hj])

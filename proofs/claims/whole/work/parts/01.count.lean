/-! counting below a bound -/
def mt_c (P : Nat → Bool) : Nat → Nat
  | 0 => 0
  | n + 1 => mt_c P n + (if P n = true then 1 else 0)
theorem mt_cS (P : Nat → Bool) (n : Nat) : mt_c P (n + 1) = mt_c P n + (if P n = true then 1 else 0) := rfl
theorem mt_c_congr {P Q : Nat → Bool} : ∀ n, (∀ i, i < n → P i = Q i) → mt_c P n = mt_c Q n := by
  intro n
  induction n with
  | zero => intro _; rfl
  | succ n ih =>
    intro h
    rw [mt_cS, mt_cS, ih (fun i hi => h i (by omega)), h n (by omega)]
theorem mt_c_add (P : Nat → Bool) (m : Nat) : ∀ n, mt_c P (m + n) = mt_c P m + mt_c (fun i => P (m + i)) n := by
  intro n
  induction n with
  | zero => rfl
  | succ n ih =>
    show mt_c P ((m + n) + 1) = _
    rw [mt_cS, mt_cS, ih]
    omega
theorem mt_c_0 {P : Nat → Bool} : ∀ n, (∀ i, i < n → P i = false) → mt_c P n = 0 := by
  intro n
  induction n with
  | zero => intro _; rfl
  | succ n ih =>
    intro h
    rw [mt_cS, ih (fun i hi => h i (by omega)), h n (by omega)]
    rfl
theorem mt_c_z {P : Nat → Bool} : ∀ n, mt_c P n = 0 → ∀ i, i < n → P i = false := by
  intro n
  induction n with
  | zero => intro _ i hi; omega
  | succ n ih =>
    intro h i hi
    rw [mt_cS] at h
    by_cases e : i = n
    · rw [e]
      by_cases q : P n = true
      · rw [if_pos q] at h; omega
      · simpa using q
    · exact ih (by omega) i (by omega)
theorem mt_c_but {P Q : Nat → Bool} (x : Nat) : ∀ n, x < n → P x = true → Q x = false → (∀ i, i < n → i ≠ x → Q i = P i) → mt_c Q n + 1 = mt_c P n := by
  intro n
  induction n with
  | zero => intro h; omega
  | succ n ih =>
    intro hx hp hq h
    rw [mt_cS, mt_cS]
    by_cases e : x = n
    · subst e
      rw [mt_c_congr x (fun i hi => h i (by omega) (by omega)), hp, hq]
      rfl
    · have := ih (by omega) hp hq (fun i hi hn => h i (by omega) hn)
      rw [h n (by omega) (fun q => e q.symm)]
      omega
theorem mt_c_le {P Q : Nat → Bool} : ∀ n, (∀ i, i < n → P i = true → Q i = true) → mt_c P n ≤ mt_c Q n := by
  intro n
  induction n with
  | zero => intro _; exact Nat.le_refl _
  | succ n ih =>
    intro h
    have a := ih (fun i hi => h i (by omega))
    rw [mt_cS, mt_cS]
    by_cases e : P n = true
    · rw [if_pos e, if_pos (h n (by omega) e)]; omega
    · rw [if_neg e]; omega
theorem mt_c_lt {P Q : Nat → Bool} {x : Nat} : ∀ n, (∀ i, i < n → P i = true → Q i = true) → x < n → P x = false → Q x = true → mt_c P n + 1 ≤ mt_c Q n := by
  intro n
  induction n with
  | zero => intro _ h; omega
  | succ n ih =>
    intro h hx hp hq
    rw [mt_cS, mt_cS]
    by_cases e : x = n
    · subst e
      have a := mt_c_le x (fun i hi => h i (by omega))
      rw [if_neg (by rw [hp]; exact fun z => by cases z), if_pos hq]
      omega
    · have a := ih (fun i hi => h i (by omega)) (by omega) hp hq
      by_cases f : P n = true
      · rw [if_pos f, if_pos (h n (by omega) f)]; omega
      · rw [if_neg f]; omega
theorem mt_c_n (P : Nat → Bool) : ∀ n, mt_c P n ≤ n := by
  intro n
  induction n with
  | zero => exact Nat.le_refl _
  | succ n ih => rw [mt_cS]; split <;> omega
theorem mt_c_full {P : Nat → Bool} : ∀ n, n ≤ mt_c P n → ∀ i, i < n → P i = true := by
  intro n
  induction n with
  | zero => intro _ i hi; omega
  | succ n ih =>
    intro h i hi
    have b := mt_c_n P n
    rw [mt_cS] at h
    by_cases e : P n = true
    · rw [if_pos e] at h
      by_cases f : i = n
      · rw [f]; exact e
      · exact ih (by omega) i (by omega)
    · rw [if_neg e] at h; omega

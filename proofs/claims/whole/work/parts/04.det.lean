/-! the determinant over Nat-indexed matrices, by the first row; facts about columns -/
def dt_sum (f : Nat → Int) : Nat → Int
  | 0 => 0
  | n + 1 => dt_sum f n + f n
def dt_sk (j c : Nat) : Nat := if c < j then c else c + 1
def dt_sg (j : Nat) : Int := if j % 2 = 0 then 1 else -1
def dt_d : Nat → (Nat → Nat → Int) → Int
  | 0, _ => 1
  | n + 1, A => dt_sum (fun j => dt_sg j * A 0 j * dt_d n (fun r c => A (r + 1) (dt_sk j c))) (n + 1)
theorem dt_s (n : Nat) (A : Nat → Nat → Int) : dt_d (n + 1) A = dt_sum (fun j => dt_sg j * A 0 j * dt_d n (fun r c => A (r + 1) (dt_sk j c))) (n + 1) := rfl
theorem dt_sumS (f : Nat → Int) (n : Nat) : dt_sum f (n + 1) = dt_sum f n + f n := rfl
theorem dt_sum_congr {f g : Nat → Int} : ∀ n, (∀ i, i < n → f i = g i) → dt_sum f n = dt_sum g n := by
  intro n
  induction n with
  | zero => intro _; rfl
  | succ n ih =>
    intro h
    rw [dt_sumS, dt_sumS, ih (fun i hi => h i (by omega)), h n (by omega)]
theorem dt_sum_lin (f g : Nat → Int) (s t : Int) : ∀ n, dt_sum (fun j => s * f j + t * g j) n = s * dt_sum f n + t * dt_sum g n := by
  intro n
  induction n with
  | zero => simp [dt_sum]
  | succ n ih =>
    rw [dt_sumS, dt_sumS, dt_sumS, ih]
    grind
theorem dt_sum_0 {f : Nat → Int} : ∀ n, (∀ i, i < n → f i = 0) → dt_sum f n = 0 := by
  intro n
  induction n with
  | zero => intro _; rfl
  | succ n ih =>
    intro h
    rw [dt_sumS, ih (fun i hi => h i (by omega)), h n (by omega)]
    rfl
theorem dt_sum_one {f : Nat → Int} (c : Nat) : ∀ n, c < n → (∀ j, j < n → j ≠ c → f j = 0) → dt_sum f n = f c := by
  intro n
  induction n with
  | zero => intro h; omega
  | succ n ih =>
    intro hc h
    rw [dt_sumS]
    by_cases e : c = n
    · subst e
      rw [dt_sum_0 c (fun i hi => h i (by omega) (by omega))]
      omega
    · rw [ih (by omega) (fun j hj hn => h j (by omega) hn), h n (by omega) (by omega)]
      omega
theorem dt_sum_two {f : Nat → Int} (c : Nat) : ∀ n, c + 1 < n → (∀ j, j < n → j ≠ c → j ≠ c + 1 → f j = 0) → dt_sum f n = f c + f (c + 1) := by
  intro n
  induction n with
  | zero => intro h; omega
  | succ n ih =>
    intro hc h
    rw [dt_sumS]
    by_cases e : n = c + 1
    · subst e
      rw [dt_sum_one c (c + 1) (by omega) (fun i hi hn => h i (by omega) hn (by omega))]
    · rw [ih (by omega) (fun j hj hn hm => h j (by omega) hn hm), h n (by omega) (by omega) (by omega)]
      omega
theorem dt_skne (j c : Nat) : dt_sk j c ≠ j := by
  unfold dt_sk; split <;> omega
theorem dt_sklt {j c n : Nat} (h : c < n) : dt_sk j c < n + 1 := by
  unfold dt_sk; split <;> omega
theorem dt_skat {j c n : Nat} (hc : c < n + 1) (hj : j < n + 1) (e : j ≠ c) : ∃ d, d < n ∧ dt_sk j d = c ∧ ∀ q, q ≠ d → dt_sk j q ≠ c := by
  by_cases h : c < j
  · refine ⟨c, by omega, ?_, ?_⟩
    · unfold dt_sk; split <;> omega
    · intro q hq; unfold dt_sk; split <;> omega
  · refine ⟨c - 1, by omega, ?_, ?_⟩
    · unfold dt_sk; split <;> omega
    · intro q hq; unfold dt_sk; split <;> omega
theorem dt_congr : ∀ (n : Nat) (A B : Nat → Nat → Int), (∀ i j, i < n → j < n → A i j = B i j) → dt_d n A = dt_d n B := by
  intro n
  induction n with
  | zero => intro A B _; rfl
  | succ n ih =>
    intro A B h
    rw [dt_s, dt_s]
    apply dt_sum_congr
    intro j hj
    show dt_sg j * A 0 j * dt_d n (fun r c => A (r + 1) (dt_sk j c)) = dt_sg j * B 0 j * dt_d n (fun r c => B (r + 1) (dt_sk j c))
    rw [h 0 j (by omega) hj, ih (fun r c => A (r + 1) (dt_sk j c)) (fun r c => B (r + 1) (dt_sk j c)) (fun r c hr hc => h (r + 1) (dt_sk j c) (by omega) (dt_sklt hc))]
theorem dt_lin : ∀ (n c : Nat) (A B C : Nat → Nat → Int) (s t : Int), c < n → (∀ i j, j ≠ c → A i j = B i j) → (∀ i j, j ≠ c → A i j = C i j) → (∀ i, A i c = s * B i c + t * C i c) → dt_d n A = s * dt_d n B + t * dt_d n C := by
  intro n
  induction n with
  | zero => intro c A B C s t h; omega
  | succ n ih =>
    intro c A B C s t hc hB hC hA
    rw [dt_s, dt_s, dt_s, ← dt_sum_lin]
    apply dt_sum_congr
    intro j hj
    show dt_sg j * A 0 j * dt_d n (fun r c => A (r + 1) (dt_sk j c)) = s * (dt_sg j * B 0 j * dt_d n (fun r c => B (r + 1) (dt_sk j c))) + t * (dt_sg j * C 0 j * dt_d n (fun r c => C (r + 1) (dt_sk j c)))
    by_cases e : j = c
    · have eB : (fun r q => A (r + 1) (dt_sk j q)) = (fun r q => B (r + 1) (dt_sk j q)) := by
        funext r q
        exact hB _ _ (by rw [← e]; exact dt_skne j q)
      have eC : (fun r q => A (r + 1) (dt_sk j q)) = (fun r q => C (r + 1) (dt_sk j q)) := by
        funext r q
        exact hC _ _ (by rw [← e]; exact dt_skne j q)
      rw [← eB, ← eC, e, hA 0]
      generalize dt_d n (fun r q => A (r + 1) (dt_sk c q)) = D
      grind
    · obtain ⟨d, hd, e1, e2⟩ := dt_skat hc hj e
      have h := ih d (fun r q => A (r + 1) (dt_sk j q)) (fun r q => B (r + 1) (dt_sk j q)) (fun r q => C (r + 1) (dt_sk j q)) s t hd (fun r q hq => hB _ _ (e2 q hq)) (fun r q hq => hC _ _ (e2 q hq)) (fun r => by show A (r + 1) (dt_sk j d) = s * B (r + 1) (dt_sk j d) + t * C (r + 1) (dt_sk j d); rw [e1]; exact hA _)
      rw [h, ← hB 0 j e, ← hC 0 j e]
      generalize dt_d n (fun r q => B (r + 1) (dt_sk j q)) = D
      generalize dt_d n (fun r q => C (r + 1) (dt_sk j q)) = F
      grind
theorem dt_sgS (c : Nat) : dt_sg (c + 1) = - dt_sg c := by
  unfold dt_sg
  split <;> split <;> omega
theorem dt_adj : ∀ (n c : Nat) (A : Nat → Nat → Int), c + 1 < n → (∀ i, A i c = A i (c + 1)) → dt_d n A = 0 := by
  intro n
  induction n with
  | zero => intro c A h; omega
  | succ n ih =>
    intro c A hc hA
    rw [dt_s, dt_sum_two c (n + 1) hc ?_]
    · have e : (fun r q => A (r + 1) (dt_sk c q)) = (fun r q => A (r + 1) (dt_sk (c + 1) q)) := by
        funext r q
        by_cases h : q = c
        · have e1 : dt_sk c q = c + 1 := by unfold dt_sk; split <;> omega
          have e2 : dt_sk (c + 1) q = c := by unfold dt_sk; split <;> omega
          rw [e1, e2]; exact (hA _).symm
        · have e1 : dt_sk c q = dt_sk (c + 1) q := by unfold dt_sk; split <;> split <;> omega
          rw [e1]
      show dt_sg c * A 0 c * dt_d n (fun r q => A (r + 1) (dt_sk c q)) + dt_sg (c + 1) * A 0 (c + 1) * dt_d n (fun r q => A (r + 1) (dt_sk (c + 1) q)) = 0
      rw [← e, ← hA 0, dt_sgS]
      generalize dt_d n (fun r q => A (r + 1) (dt_sk c q)) = D
      grind
    · intro j hj h1 h2
      show dt_sg j * A 0 j * dt_d n (fun r q => A (r + 1) (dt_sk j q)) = 0
      have z : dt_d n (fun r q => A (r + 1) (dt_sk j q)) = 0 := by
        by_cases h : j < c
        · refine ih (c - 1) _ (by omega) (fun i => ?_)
          have e1 : dt_sk j (c - 1) = c := by unfold dt_sk; split <;> omega
          have e2 : dt_sk j (c - 1 + 1) = c + 1 := by unfold dt_sk; split <;> omega
          show A (i + 1) (dt_sk j (c - 1)) = A (i + 1) (dt_sk j (c - 1 + 1))
          rw [e1, e2]; exact hA _
        · refine ih c _ (by omega) (fun i => ?_)
          have e1 : dt_sk j c = c := by unfold dt_sk; split <;> omega
          have e2 : dt_sk j (c + 1) = c + 1 := by unfold dt_sk; split <;> omega
          show A (i + 1) (dt_sk j c) = A (i + 1) (dt_sk j (c + 1))
          rw [e1, e2]; exact hA _
      rw [z]; omega
/-- A with the columns c and c + 1 set to u and v -/
def dt_s2 (A : Nat → Nat → Int) (c : Nat) (u v : Nat → Int) (i j : Nat) : Int := if j = c then u i else if j = c + 1 then v i else A i j
theorem dt_s2_c (A : Nat → Nat → Int) (c : Nat) (u v : Nat → Int) (i : Nat) : dt_s2 A c u v i c = u i := by
  unfold dt_s2; rw [if_pos rfl]
theorem dt_s2_d (A : Nat → Nat → Int) (c : Nat) (u v : Nat → Int) (i : Nat) : dt_s2 A c u v i (c + 1) = v i := by
  unfold dt_s2; rw [if_neg (by omega), if_pos rfl]
theorem dt_s2_o (A : Nat → Nat → Int) (c : Nat) (u v : Nat → Int) (i j : Nat) (h1 : j ≠ c) (h2 : j ≠ c + 1) : dt_s2 A c u v i j = A i j := by
  unfold dt_s2; rw [if_neg h1, if_neg h2]
theorem dt_s2_1 {n c : Nat} (A : Nat → Nat → Int) (u w v : Nat → Int) (h : c + 1 < n) : dt_d n (dt_s2 A c (fun i => u i + w i) v) = dt_d n (dt_s2 A c u v) + dt_d n (dt_s2 A c w v) := by
  have := dt_lin n c (dt_s2 A c (fun i => u i + w i) v) (dt_s2 A c u v) (dt_s2 A c w v) 1 1 (by omega) (fun i j hj => by unfold dt_s2; rw [if_neg hj, if_neg hj]) (fun i j hj => by unfold dt_s2; rw [if_neg hj, if_neg hj]) (fun i => by rw [dt_s2_c, dt_s2_c, dt_s2_c]; omega)
  omega
theorem dt_s2_2 {n c : Nat} (A : Nat → Nat → Int) (u w v : Nat → Int) (h : c + 1 < n) : dt_d n (dt_s2 A c v (fun i => u i + w i)) = dt_d n (dt_s2 A c v u) + dt_d n (dt_s2 A c v w) := by
  have k : ∀ (x y : Nat → Int) (i j : Nat), j ≠ c + 1 → dt_s2 A c v x i j = dt_s2 A c v y i j := by
    intro x y i j hj
    unfold dt_s2
    split
    · rfl
    · simp only [if_neg hj]
  have := dt_lin n (c + 1) (dt_s2 A c v (fun i => u i + w i)) (dt_s2 A c v u) (dt_s2 A c v w) 1 1 h (k _ _) (k _ _) (fun i => by rw [dt_s2_d, dt_s2_d, dt_s2_d]; omega)
  omega
theorem dt_s2_s {n c : Nat} (A : Nat → Nat → Int) (u v : Nat → Int) (h : c + 1 < n) : dt_d n (dt_s2 A c u v) = - dt_d n (dt_s2 A c v u) := by
  have z : ∀ w : Nat → Int, dt_d n (dt_s2 A c w w) = 0 := fun w => dt_adj n c _ h (fun i => by rw [dt_s2_c, dt_s2_d])
  have a := z (fun i => u i + v i)
  rw [dt_s2_1 A u v _ h, dt_s2_2 A u v _ h, dt_s2_2 A u v _ h, z u, z v] at a
  omega
theorem dt_eqc : ∀ (d n c : Nat) (A : Nat → Nat → Int), c + (d + 1) < n → (∀ i, A i c = A i (c + (d + 1))) → dt_d n A = 0 := by
  intro d
  induction d with
  | zero => intro n c A h e; exact dt_adj n c A h e
  | succ d ih =>
    intro n c A h e
    have e0 : A = dt_s2 A (c + (d + 1)) (fun i => A i (c + (d + 1))) (fun i => A i (c + (d + 1) + 1)) := by
      funext i j
      unfold dt_s2
      split
      · rename_i q; rw [q]
      · split
        · rename_i q; rw [q]
        · rfl
    rw [e0, dt_s2_s A _ _ (by omega), ih n c _ (by omega) (fun i => ?_)]
    · rfl
    · rw [dt_s2_c, dt_s2_o A _ _ _ i c (by omega) (by omega)]
      exact e i
theorem dt_eq {n c d : Nat} (A : Nat → Nat → Int) (hc : c < n) (hd : d < n) (hn : c ≠ d) (e : ∀ i, A i c = A i d) : dt_d n A = 0 := by
  by_cases h : c < d
  · have q : c + ((d - c - 1) + 1) = d := by omega
    exact dt_eqc (d - c - 1) n c A (by omega) (fun i => by rw [q]; exact e i)
  · have q : d + ((c - d - 1) + 1) = c := by omega
    exact dt_eqc (c - d - 1) n d A (by omega) (fun i => by rw [q]; exact (e i).symm)
/-- column c gets s times itself and t times column d -/
theorem dt_comb {n c d : Nat} (A B : Nat → Nat → Int) (s t : Int) (hc : c < n) (hd : d < n) (hn : c ≠ d) (h1 : ∀ i j, j ≠ c → B i j = A i j) (h2 : ∀ i, B i c = s * A i c + t * A i d) : dt_d n B = s * dt_d n A := by
  have l := dt_lin n c B A (fun i j => if j = c then A i d else A i j) s t hc h1 (fun i j hj => by rw [h1 i j hj]; show A i j = if j = c then A i d else A i j; rw [if_neg hj]) (fun i => by rw [h2 i]; show s * A i c + t * A i d = s * A i c + t * (if c = c then A i d else A i c); rw [if_pos rfl])
  have z : dt_d n (fun i j => if j = c then A i d else A i j) = 0 := dt_eq _ hc hd hn (fun i => by show (if c = c then A i d else A i c) = (if d = c then A i d else A i d); rw [if_pos rfl, if_neg (fun q => hn q.symm)])
  rw [l, z]
  omega
theorem dt_row0 : ∀ (n r : Nat) (A : Nat → Nat → Int), r < n → (∀ j, j < n → A r j = 0) → dt_d n A = 0 := by
  intro n
  induction n with
  | zero => intro r A h; omega
  | succ n ih =>
    intro r A hr h
    rw [dt_s]
    apply dt_sum_0
    intro j hj
    show dt_sg j * A 0 j * dt_d n (fun r q => A (r + 1) (dt_sk j q)) = 0
    cases r with
    | zero => rw [h j hj]; simp
    | succ r =>
      rw [ih r (fun r q => A (r + 1) (dt_sk j q)) (by omega) (fun q hq => h _ (dt_sklt hq))]
      simp
theorem dt_head (n : Nat) (A : Nat → Nat → Int) (h : ∀ j, 0 < j → j < n + 1 → A 0 j = 0) : dt_d (n + 1) A = A 0 0 * dt_d n (fun r c => A (r + 1) (c + 1)) := by
  rw [dt_s, dt_sum_one 0 (n + 1) (by omega) (fun j hj hn => by show dt_sg j * A 0 j * dt_d n (fun r c => A (r + 1) (dt_sk j c)) = 0; rw [h j (by omega) hj]; simp)]
  have e : (fun r c => A (r + 1) (dt_sk 0 c)) = (fun r c => A (r + 1) (c + 1)) := by
    funext r c
    have : dt_sk 0 c = c + 1 := by unfold dt_sk; split <;> omega
    rw [this]
  show dt_sg 0 * A 0 0 * dt_d n (fun r c => A (r + 1) (dt_sk 0 c)) = _
  rw [e]
  have : dt_sg 0 = 1 := by unfold dt_sg; simp
  rw [this, Int.one_mul]
theorem dt_id : ∀ (n : Nat) (A : Nat → Nat → Int), (∀ i j, i < n → j < n → A i j = if i = j then 1 else 0) → dt_d n A = 1 := by
  intro n
  induction n with
  | zero => intro A _; rfl
  | succ n ih =>
    intro A h
    rw [dt_head n A (fun j h0 hj => by rw [h 0 j (by omega) hj, if_neg (by omega)]), h 0 0 (by omega) (by omega), if_pos rfl, ih _ (fun i j hi hj => ?_)]
    · rfl
    · rw [h (i + 1) (j + 1) (by omega) (by omega)]
      by_cases e : i = j
      · rw [if_pos e, if_pos (by omega)]
      · rw [if_neg e, if_neg (by omega)]
/-- the columns before k, but x, are cleared in row x by column x -/
def dt_clr (A : Nat → Nat → Int) (x k i j : Nat) : Int := if j < k ∧ j ≠ x then A i j - A x j * A i x else A i j
theorem dt_clrT {n x : Nat} (A : Nat → Nat → Int) (hx : x < n) : ∀ k, k ≤ n → dt_d n (dt_clr A x k) = dt_d n A := by
  intro k
  induction k with
  | zero =>
    intro _
    have e : dt_clr A x 0 = A := by
      funext i j
      unfold dt_clr
      rw [if_neg (by omega)]
    rw [e]
  | succ k ih =>
    intro hk
    rw [← ih (by omega)]
    by_cases e : k = x
    · have e : dt_clr A x (k + 1) = dt_clr A x k := by
        funext i j
        unfold dt_clr
        by_cases h : j < k ∧ j ≠ x
        · rw [if_pos h, if_pos (by omega)]
        · rw [if_neg h, if_neg (by omega)]
      rw [e]
    · rw [dt_comb (c := k) (d := x) (dt_clr A x k) (dt_clr A x (k + 1)) 1 (- A x k) (by omega) hx e (fun i j hj => ?_) (fun i => ?_), Int.one_mul]
      · unfold dt_clr
        by_cases h : j < k ∧ j ≠ x
        · rw [if_pos h, if_pos (by omega)]
        · rw [if_neg h, if_neg (by omega)]
      · have e1 : dt_clr A x (k + 1) i k = A i k - A x k * A i x := by unfold dt_clr; rw [if_pos (by omega)]
        have e2 : dt_clr A x k i k = A i k := by unfold dt_clr; rw [if_neg (by omega)]
        have e3 : dt_clr A x k i x = A i x := by unfold dt_clr; rw [if_neg (by omega)]
        rw [e1, e2, e3]
        grind
theorem dt_unit {n x : Nat} (A B : Nat → Nat → Int) (hx : x < n) (h1 : ∀ i j, j ≠ x → A i j = B i j) (h2 : A x x = B x x) (h3 : ∀ j, j < n → j ≠ x → A x j = 0) : dt_d n A = dt_d n B := by
  have l := dt_lin n x A B (fun i j => if j = x then A i x - B i x else A i j) 1 1 hx h1 (fun i j hj => by show A i j = if j = x then A i x - B i x else A i j; rw [if_neg hj]) (fun i => by show A i x = 1 * B i x + 1 * (if x = x then A i x - B i x else A i x); rw [if_pos rfl]; omega)
  rw [l, dt_row0 n x (fun i j => if j = x then A i x - B i x else A i j) hx (fun j hj => ?_)]
  · omega
  · show (if j = x then A x x - B x x else A x j) = 0
    by_cases e : j = x
    · rw [if_pos e, h2]; omega
    · rw [if_neg e]; exact h3 j hj e
def dt_dl (x i : Nat) : Int := if i = x then 1 else 0
theorem dt_dl1 (x : Nat) : dt_dl x x = 1 := by unfold dt_dl; rw [if_pos rfl]
theorem dt_dl0 {x i : Nat} (h : i ≠ x) : dt_dl x i = 0 := by unfold dt_dl; rw [if_neg h]
/-- x goes into y: the row and the column x are the unit's, those of y take them up -/
def dt_con (A : Nat → Nat → Int) (x y i j : Nat) : Int :=
  if i = x ∨ j = x then (if i = j then 1 else 0) else A i j + dt_dl y j * A i x + dt_dl y i * (A x j + dt_dl y j * A x x)
def dt_q (A : Nat → Nat → Int) (x y : Nat) (u : Nat → Int) (i j : Nat) : Int := if j = x then u i else A i j + dt_dl y j * A i x
theorem dt_qx (A : Nat → Nat → Int) (x y : Nat) (u : Nat → Int) (i : Nat) : dt_q A x y u i x = u i := by unfold dt_q; rw [if_pos rfl]
theorem dt_qn (A : Nat → Nat → Int) {x y j : Nat} (u : Nat → Int) (i : Nat) (h : j ≠ x) : dt_q A x y u i j = A i j + dt_dl y j * A i x := by unfold dt_q; rw [if_neg h]
theorem dt_qy {n x y : Nat} (A : Nat → Nat → Int) (hx : x < n) (hxy : x ≠ y) : dt_d n (dt_q A x y (fun i => A i x)) = dt_d n A := by
  by_cases hy : y < n
  · rw [dt_comb (c := y) (d := x) A (dt_q A x y (fun i => A i x)) 1 1 hy hx (fun q => hxy q.symm) (fun i j hj => ?_) (fun i => ?_), Int.one_mul]
    · by_cases e : j = x
      · rw [e, dt_qx]
      · rw [dt_qn A _ i e, dt_dl0 hj]; omega
    · rw [dt_qn A _ i (fun q => hxy q.symm), dt_dl1]; omega
  · apply dt_congr
    intro i j hi hj
    by_cases e : j = x
    · rw [e, dt_qx]
    · rw [dt_qn A _ i e, dt_dl0 (by omega)]; omega
/-- a line between x and y: without it, and with x in y -/
theorem dt_delcon {n x y : Nat} (A P : Nat → Nat → Int) (hx : x < n) (hxy : x ≠ y) (hP : ∀ i j, P i j = A i j + (dt_dl x i - dt_dl y i) * (dt_dl x j - dt_dl y j)) : dt_d n P = dt_d n A + dt_d n (dt_con A x y) := by
  have hyx : y ≠ x := fun q => hxy q.symm
  have s1 : dt_d n P = dt_d n (dt_q A x y (fun i => A i x + (dt_dl x i - dt_dl y i))) := by
    rw [← dt_qy P hx hxy]
    apply dt_congr
    intro i j hi hj
    by_cases e : j = x
    · rw [e, dt_qx, dt_qx, hP, dt_dl1, dt_dl0 hxy]; omega
    · rw [dt_qn P _ i e, dt_qn A _ i e, hP, hP, dt_dl1, dt_dl0 e, dt_dl0 hxy]
      by_cases f : j = y
      · rw [f, dt_dl1]; omega
      · rw [dt_dl0 f]; omega
  have s2 := dt_lin n x (dt_q A x y (fun i => A i x + (dt_dl x i - dt_dl y i))) (dt_q A x y (fun i => A i x)) (dt_q A x y (fun i => dt_dl x i - dt_dl y i)) 1 1 hx (fun i j hj => by rw [dt_qn A _ i hj, dt_qn A _ i hj]) (fun i j hj => by rw [dt_qn A _ i hj, dt_qn A _ i hj]) (fun i => by rw [dt_qx, dt_qx, dt_qx]; omega)
  rw [dt_qy A hx hxy] at s2
  have s3 := dt_clrT (dt_q A x y (fun i => dt_dl x i - dt_dl y i)) hx n (Nat.le_refl n)
  have s4 : dt_d n (dt_clr (dt_q A x y (fun i => dt_dl x i - dt_dl y i)) x n) = dt_d n (dt_con A x y) := by
    have u := dt_unit (n := n) (x := x) (fun i j => if j = x then dt_dl x i - dt_dl y i else dt_q A x y (fun i => dt_dl x i - dt_dl y i) i j - dt_q A x y (fun i => dt_dl x i - dt_dl y i) x j * (dt_dl x i - dt_dl y i)) (fun i j => if j = x then dt_dl x i else dt_q A x y (fun i => dt_dl x i - dt_dl y i) i j - dt_q A x y (fun i => dt_dl x i - dt_dl y i) x j * (dt_dl x i - dt_dl y i)) hx (fun i j hj => by (try dsimp only); rw [if_neg hj, if_neg hj]) (by (try dsimp only); rw [if_pos rfl, if_pos rfl, dt_dl1, dt_dl0 hxy]; rfl) (fun j hj hn => by (try dsimp only); rw [if_neg hn, dt_dl1, dt_dl0 hxy]; omega)
    rw [dt_congr n (dt_clr (dt_q A x y (fun i => dt_dl x i - dt_dl y i)) x n) _ (fun i j hi hj => ?_), u]
    · apply dt_congr
      intro i j hi hj
      (try dsimp only)
      unfold dt_con
      by_cases e : j = x
      · rw [if_pos e, if_pos (Or.inr e), e]
        rfl
      · rw [if_neg e, dt_qn A _ i e, dt_qn A _ x e]
        by_cases f : i = x
        · rw [if_pos (Or.inl f), if_neg (by omega), f, dt_dl1, dt_dl0 hxy]; omega
        · rw [if_neg (by omega), dt_dl0 f]
          grind
    · unfold dt_clr
      by_cases e : j = x
      · rw [if_neg (by omega), if_pos e, e, dt_qx]
      · rw [if_pos ⟨hj, e⟩, if_neg e, dt_qx]
  omega
/-! Chio's step and Bareiss's cells -/
def dt_chio (A : Nat → Nat → Int) (r c : Nat) : Int := A 0 0 * A (r + 1) (c + 1) - A 0 (c + 1) * A (r + 1) 0
def dt_chk (A : Nat → Nat → Int) (k i j : Nat) : Int := if 0 < j ∧ j ≤ k then A 0 0 * A i j - A 0 j * A i 0 else A i j
theorem dt_chkT (n : Nat) (A : Nat → Nat → Int) : ∀ k, k ≤ n → dt_d (n + 1) (dt_chk A k) = (A 0 0) ^ k * dt_d (n + 1) A := by
  intro k
  induction k with
  | zero =>
    intro _
    have e : dt_chk A 0 = A := by
      funext i j
      unfold dt_chk
      rw [if_neg (by omega)]
    rw [e, Int.pow_zero, Int.one_mul]
  | succ k ih =>
    intro hk
    rw [dt_comb (c := k + 1) (d := 0) (dt_chk A k) (dt_chk A (k + 1)) (A 0 0) (- A 0 (k + 1)) (by omega) (by omega) (by omega) (fun i j hj => ?_) (fun i => ?_), ih (by omega), Int.pow_succ]
    · grind
    · unfold dt_chk
      by_cases h : 0 < j ∧ j ≤ k
      · rw [if_pos h, if_pos (by omega)]
      · rw [if_neg h, if_neg (by omega)]
    · have e1 : dt_chk A (k + 1) i (k + 1) = A 0 0 * A i (k + 1) - A 0 (k + 1) * A i 0 := by unfold dt_chk; rw [if_pos (by omega)]
      have e2 : dt_chk A k i (k + 1) = A i (k + 1) := by unfold dt_chk; rw [if_neg (by omega)]
      have e3 : dt_chk A k i 0 = A i 0 := by unfold dt_chk; rw [if_neg (by omega)]
      rw [e1, e2, e3]
      grind
theorem dt_chioT (n : Nat) (A : Nat → Nat → Int) : A 0 0 * dt_d n (dt_chio A) = (A 0 0) ^ n * dt_d (n + 1) A := by
  rw [← dt_chkT n A n (Nat.le_refl n), dt_head n (dt_chk A n) (fun j h0 hj => ?_)]
  · have e : dt_chk A n 0 0 = A 0 0 := by unfold dt_chk; rw [if_neg (by omega)]
    rw [e, dt_congr n (dt_chio A) (fun r c => dt_chk A n (r + 1) (c + 1)) (fun i j hi hj => ?_)]
    unfold dt_chk dt_chio
    rw [if_pos (by omega)]
  · unfold dt_chk
    rw [if_pos (by omega)]
    grind
/-- the leading rows and columns before d, with row i and column j -/
def dt_bm (A : Nat → Nat → Int) (d i j : Nat) : Int := dt_d (d + 1) (fun r c => A (if r < d then r else i) (if c < d then c else j))
theorem dt_1 (A : Nat → Nat → Int) : dt_d 1 A = A 0 0 := by
  rw [dt_head 0 A (fun j h0 hj => by omega)]
  exact Int.mul_one _
theorem dt_bm0 (A : Nat → Nat → Int) (i j : Nat) : dt_bm A 0 i j = A i j := by
  unfold dt_bm
  rw [dt_1]
  simp
theorem dt_bmd (A : Nat → Nat → Int) (d : Nat) : dt_bm A d d d = dt_d (d + 1) A := by
  unfold dt_bm
  apply dt_congr
  intro i j hi hj
  have e1 : (if i < d then i else d) = i := by split <;> omega
  have e2 : (if j < d then j else d) = j := by split <;> omega
  show A (if i < d then i else d) (if j < d then j else d) = A i j
  rw [e1, e2]
theorem dt_bmC (A : Nat → Nat → Int) (d i j : Nat) (h0 : A 0 0 ≠ 0) : dt_bm (dt_chio A) d i j = (A 0 0) ^ d * dt_bm A (d + 1) (i + 1) (j + 1) := by
  have c := dt_chioT (d + 1) (fun r c => A (if r < d + 1 then r else i + 1) (if c < d + 1 then c else j + 1))
  have e0 : (fun r c => A (if r < d + 1 then r else i + 1) (if c < d + 1 then c else j + 1)) 0 0 = A 0 0 := by
    show A (if 0 < d + 1 then 0 else i + 1) (if 0 < d + 1 then 0 else j + 1) = A 0 0
    rw [if_pos (by omega), if_pos (by omega)]
  have k : ∀ r p : Nat, (if r + 1 < d + 1 then r + 1 else p + 1) = (if r < d then r else p) + 1 := by
    intro r p
    split <;> split <;> omega
  have e1 : dt_chio (fun r c => A (if r < d + 1 then r else i + 1) (if c < d + 1 then c else j + 1)) = (fun r c => dt_chio A (if r < d then r else i) (if c < d then c else j)) := by
    funext r c
    show A (if 0 < d + 1 then 0 else i + 1) (if 0 < d + 1 then 0 else j + 1) * A (if r + 1 < d + 1 then r + 1 else i + 1) (if c + 1 < d + 1 then c + 1 else j + 1) - A (if 0 < d + 1 then 0 else i + 1) (if c + 1 < d + 1 then c + 1 else j + 1) * A (if r + 1 < d + 1 then r + 1 else i + 1) (if 0 < d + 1 then 0 else j + 1) = A 0 0 * A ((if r < d then r else i) + 1) ((if c < d then c else j) + 1) - A 0 ((if c < d then c else j) + 1) * A ((if r < d then r else i) + 1) 0
    rw [if_pos (show 0 < d + 1 by omega), if_pos (show 0 < d + 1 by omega), k, k]
  try dsimp only at c e0
  rw [e0, e1] at c
  have c' : A 0 0 * dt_bm (dt_chio A) d i j = A 0 0 * ((A 0 0) ^ d * dt_bm A (d + 1) (i + 1) (j + 1)) := by
    refine c.trans ?_
    show (A 0 0) ^ (d + 1) * dt_bm A (d + 1) (i + 1) (j + 1) = A 0 0 * ((A 0 0) ^ d * dt_bm A (d + 1) (i + 1) (j + 1))
    rw [Int.pow_succ]
    grind
  exact Int.eq_of_mul_eq_mul_left h0 c'
theorem dt_bar : ∀ (d i j : Nat) (A : Nat → Nat → Int), d < i → d < j → (∀ k, 1 ≤ k → k ≤ d → dt_d k A ≠ 0) → dt_bm A (d + 1) i j * dt_d d A = dt_bm A d i j * dt_d (d + 1) A - dt_bm A d i d * dt_bm A d d j := by
  intro d
  induction d with
  | zero =>
    intro i j A hi hj _
    have c := dt_chioT 1 (fun r c => A (if r < 1 then r else i) (if c < 1 then c else j))
    rw [dt_bm0, dt_bm0, dt_bm0, dt_1]
    show dt_d 2 (fun r c => A (if r < 1 then r else i) (if c < 1 then c else j)) * 1 = _
    rw [dt_1] at c
    have e0 : (fun r c => A (if r < 1 then r else i) (if c < 1 then c else j)) 0 0 = A 0 0 := rfl
    have e1 : dt_chio (fun r c => A (if r < 1 then r else i) (if c < 1 then c else j)) 0 0 = A 0 0 * A i j - A 0 j * A i 0 := rfl
    have e2 : dt_d 2 (fun r c => A (if r < 1 then r else i) (if c < 1 then c else j)) = A 0 0 * A i j - A 0 j * A i 0 := by
      rw [dt_s]
      show 0 + dt_sg 0 * A 0 0 * dt_d 1 (fun r c => A (if r + 1 < 1 then r + 1 else i) (if dt_sk 0 c < 1 then dt_sk 0 c else j)) + dt_sg 1 * A 0 j * dt_d 1 (fun r c => A (if r + 1 < 1 then r + 1 else i) (if dt_sk 1 c < 1 then dt_sk 1 c else j)) = _
      rw [dt_1, dt_1]
      have f0 : dt_sg 0 = 1 := by decide
      have f1 : dt_sg 1 = -1 := by decide
      have g0 : dt_sk 0 0 = 1 := by decide
      have g1 : dt_sk 1 0 = 0 := by decide
      rw [f0, f1, g0, g1]
      simp
      grind
    rw [e2]
    grind
  | succ d ih =>
    intro i j A hi hj hp
    have h0 : A 0 0 ≠ 0 := by rw [← dt_1 A]; exact hp 1 (by omega) (by omega)
    obtain ⟨i, rfl⟩ : ∃ q, i = q + 1 := ⟨i - 1, by omega⟩
    obtain ⟨j, rfl⟩ : ∃ q, j = q + 1 := ⟨j - 1, by omega⟩
    have t : ∀ k, A 0 0 * dt_d k (dt_chio A) = (A 0 0) ^ k * dt_d (k + 1) A := fun k => dt_chioT k A
    have p0 : ∀ k, (A 0 0) ^ k ≠ 0 := fun k => Int.pow_ne_zero h0
    have q := ih i j (dt_chio A) (by omega) (by omega) (fun k h1 h2 z => by
      have w := t k
      rw [z, Int.mul_zero] at w
      exact Int.mul_ne_zero (p0 k) (hp (k + 1) (by omega) (by omega)) w.symm)
    rw [dt_bmC A _ _ _ h0, dt_bmC A _ _ _ h0, dt_bmC A _ _ _ h0, dt_bmC A _ _ _ h0] at q
    have t1 := t d
    have t2 := t (d + 1)
    have z : (A 0 0) ^ (d + 1) * (A 0 0) ^ d ≠ 0 := Int.mul_ne_zero (p0 _) (p0 _)
    apply Int.eq_of_mul_eq_mul_left z
    have q' := congrArg (fun w => A 0 0 * w) q
    (try dsimp only at q')
    rw [Int.pow_succ] at *
    generalize (A 0 0) ^ d = y at *
    generalize A 0 0 = a at *
    generalize dt_d d (dt_chio A) = u1 at *
    generalize dt_d (d + 1) (dt_chio A) = u2 at *
    generalize dt_bm A (d + 1 + 1) (i + 1) (j + 1) = m1 at *
    generalize dt_bm A (d + 1) (i + 1) (j + 1) = m2 at *
    generalize dt_bm A (d + 1) (i + 1) (d + 1) = m3 at *
    generalize dt_bm A (d + 1) (d + 1) (j + 1) = m4 at *
    generalize dt_d (d + 1) A = w1 at *
    generalize dt_d (d + 1 + 1) A = w2 at *
    grind
/-! a bound by the rows' sums -/
theorem dt_sum_sk (f : Nat → Int) : ∀ n j, j < n + 1 → dt_sum (fun c => f (dt_sk j c)) n + f j = dt_sum f (n + 1) := by
  intro n
  induction n with
  | zero =>
    intro j hj
    obtain rfl : j = 0 := by omega
    rfl
  | succ n ih =>
    intro j hj
    by_cases e : j = n + 1
    · subst e
      have e2 : ∀ c, c < n + 1 → f (dt_sk (n + 1) c) = f c := by
        intro c hc
        have : dt_sk (n + 1) c = c := by unfold dt_sk; split <;> omega
        rw [this]
      rw [dt_sum_congr (f := fun c => f (dt_sk (n + 1) c)) (g := f) (n + 1) e2]
      rfl
    · have h := ih j (by omega)
      have e1 : dt_sk j n = n + 1 := by unfold dt_sk; split <;> omega
      rw [dt_sumS, dt_sumS f (n + 1), ← h]
      (try dsimp only)
      rw [e1]
      omega
theorem dt_sum_le {f g : Nat → Int} : ∀ n, (∀ i, i < n → f i ≤ g i) → dt_sum f n ≤ dt_sum g n := by
  intro n
  induction n with
  | zero => intro _; exact Int.le_refl _
  | succ n ih =>
    intro h
    have a := ih (fun i hi => h i (by omega))
    have b := h n (by omega)
    rw [dt_sumS, dt_sumS]
    omega
theorem dt_sum_nn {f : Nat → Int} : ∀ n, (∀ i, i < n → 0 ≤ f i) → 0 ≤ dt_sum f n := by
  intro n
  induction n with
  | zero => intro _; exact Int.le_refl _
  | succ n ih =>
    intro h
    have a := ih (fun i hi => h i (by omega))
    have b := h n (by omega)
    rw [dt_sumS]
    omega
theorem dt_sum_abs (f : Nat → Int) : ∀ n, ((dt_sum f n).natAbs : Int) ≤ dt_sum (fun j => ((f j).natAbs : Int)) n := by
  intro n
  induction n with
  | zero => exact Int.le_refl _
  | succ n ih =>
    rw [dt_sumS, dt_sumS]
    (try dsimp only)
    omega
theorem dt_sum_mulr (f : Nat → Int) (c : Int) : ∀ n, dt_sum (fun j => f j * c) n = dt_sum f n * c := by
  intro n
  induction n with
  | zero => simp [dt_sum]
  | succ n ih => rw [dt_sumS, dt_sumS, ih, Int.add_mul]
theorem dt_bound (K : Int) (hK : 0 ≤ K) : ∀ (n : Nat) (A : Nat → Nat → Int), (∀ i, i < n → dt_sum (fun j => ((A i j).natAbs : Int)) n ≤ K) → ((dt_d n A).natAbs : Int) ≤ K ^ n := by
  intro n
  induction n with
  | zero => intro A _; show (((1 : Int).natAbs : Nat) : Int) ≤ K ^ 0; rw [Int.pow_zero]; decide
  | succ n ih =>
    intro A h
    have m : ∀ j, j < n + 1 → ((dt_d n (fun r c => A (r + 1) (dt_sk j c))).natAbs : Int) ≤ K ^ n := by
      intro j hj
      apply ih
      intro i hi
      have s := dt_sum_sk (fun c => ((A (i + 1) c).natAbs : Int)) n j hj
      have b := h (i + 1) (by omega)
      have p : (0 : Int) ≤ ((A (i + 1) j).natAbs : Int) := Int.natCast_nonneg _
      (try dsimp only at s ⊢)
      omega
    rw [dt_s]
    refine Int.le_trans (dt_sum_abs _ _) ?_
    refine Int.le_trans (dt_sum_le (g := fun j => ((A 0 j).natAbs : Int) * K ^ n) (n + 1) (fun j hj => ?_)) ?_
    · (try dsimp only)
      have e : (dt_sg j * A 0 j * dt_d n (fun r c => A (r + 1) (dt_sk j c))).natAbs = (A 0 j).natAbs * (dt_d n (fun r c => A (r + 1) (dt_sk j c))).natAbs := by
        rw [Int.natAbs_mul, Int.natAbs_mul]
        have : (dt_sg j).natAbs = 1 := by unfold dt_sg; split <;> rfl
        rw [this, Nat.one_mul]
      rw [e, Int.natCast_mul]
      exact Int.mul_le_mul_of_nonneg_left (m j hj) (Int.natCast_nonneg _)
    · rw [dt_sum_mulr, Int.pow_succ, Int.mul_comm (K ^ n) K]
      exact Int.mul_le_mul_of_nonneg_right (h 0 (by omega)) (Int.pow_nonneg hK)
theorem dt_sum_pick (f : Nat → Int) (h : ∀ i, 0 ≤ f i) (d : Nat) : ∀ n j, d ≤ j → j < n → dt_sum f d + f j ≤ dt_sum f n := by
  intro n
  induction n with
  | zero => intro j _ hj; omega
  | succ n ih =>
    intro j hd hj
    rw [dt_sumS]
    by_cases e : j = n
    · subst e
      have : dt_sum f d ≤ dt_sum f j := by
        clear ih hj
        induction j with
        | zero => obtain rfl : d = 0 := by omega
                  exact Int.le_refl _
        | succ j ih =>
          by_cases e : d = j + 1
          · rw [e]; exact Int.le_refl _
          · have a := ih (by omega)
            have b := h j
            rw [dt_sumS]
            omega
      omega
    · have a := ih j hd (by omega)
      have b := h n
      omega
theorem dt_bmB (K : Int) (hK : 0 ≤ K) (m : Nat) (A : Nat → Nat → Int) (h : ∀ i, i < m → dt_sum (fun j => ((A i j).natAbs : Int)) m ≤ K) (d i j : Nat) (hi : d ≤ i) (hj : d ≤ j) (im : i < m) (jm : j < m) : ((dt_bm A d i j).natAbs : Int) ≤ K ^ (d + 1) := by
  unfold dt_bm
  apply dt_bound K hK
  intro r hr
  have rr : (if r < d then r else i) < m := by split <;> omega
  have a := h _ rr
  have b := dt_sum_pick (fun q => ((A (if r < d then r else i) q).natAbs : Int)) (fun q => Int.natCast_nonneg _) d m j hj jm
  rw [dt_sumS]
  (try dsimp only at a b ⊢)
  rw [if_neg (Nat.lt_irrefl d), dt_sum_congr (g := fun q => ((A (if r < d then r else i) q).natAbs : Int)) d (fun c hc => by (try dsimp only); rw [if_pos hc])]
  omega

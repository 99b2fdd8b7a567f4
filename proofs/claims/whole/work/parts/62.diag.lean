/-! the numbers of orders through those one hop before -/
def pd (y i : Nat) : Bool := y.testBit (i + 1) && !y.testBit i
def smN (f : Nat → Nat) : Nat → Nat
  | 0 => 0
  | n + 1 => smN f n + f n
theorem smN_s (f : Nat → Nat) (n : Nat) : smN f (n + 1) = smN f n + f n := rfl
theorem smN_cg {f g : Nat → Nat} : ∀ n, (∀ i, i < n → f i = g i) → smN f n = smN g n := by
  intro n
  induction n with
  | zero => intro _; rfl
  | succ n ih => intro h; rw [smN_s, smN_s, ih (fun i hi => h i (by omega)), h n (by omega)]
theorem smN_add {f g : Nat → Nat} : ∀ n, smN (fun i => f i + g i) n = smN f n + smN g n := by
  intro n
  induction n with
  | zero => rfl
  | succ n ih => rw [smN_s, smN_s, smN_s, ih]; omega
theorem smN_0 : ∀ n, smN (fun _ => 0) n = 0 := by
  intro n
  induction n with
  | zero => rfl
  | succ n ih => rw [smN_s, ih]
theorem tb_pd1 : ∀ k, k < 256 → ∀ n, n < 7 → ohop k n = true → pd (k + 2 ^ n) n = true := by decide +kernel
theorem tb_pd2 : ∀ y, y < 256 → ∀ n, n < 7 → pd y n = true → 2 ^ n ≤ y ∧ ohop (y - 2 ^ n) n = true := by decide +kernel
theorem oN_s (s k y : Nat) : oN s (k + 1) y = oN s k y + (if oW k 7 y = true then oN s k k else 0) := rfl
theorem oW_sum {k y X : Nat} (hk : k < y) (hy : y < 256) : ∀ n, n ≤ 7 → (if oW k n y = true then X else 0) = smN (fun i => if pd y i = true ∧ y - 2 ^ i = k then X else 0) n := by
  intro n
  induction n with
  | zero => intro _; rfl
  | succ n ih =>
    intro hn
    rw [smN_s, ← ih (by omega), oW_s]
    by_cases q : ohop k n = true ∧ y = k + 2 ^ n
    · have h1 : oW k n y = false := by rw [q.2]; exact oW_new n (Nat.le_refl _)
      have h2 : pd y n = true := by rw [q.2]; exact tb_pd1 k (by omega) n (by omega) q.1
      have hb : (y == k + 2 ^ n) = true := beq_iff_eq.2 q.2
      rw [h1, q.1, hb, if_pos (show (false || true && true) = true from rfl), if_neg (show ¬ false = true by decide), if_pos ⟨h2, by omega⟩, Nat.zero_add]
    · have h3 : ¬ (pd y n = true ∧ y - 2 ^ n = k) := by
        intro z
        obtain ⟨z1, z2⟩ := tb_pd2 y hy n (by omega) z.1
        rw [z.2] at z2
        exact q ⟨z2, by omega⟩
      have h4 : (ohop k n && y == k + 2 ^ n) = false := by
        cases hh : ohop k n
        · rfl
        · rw [Bool.true_and]
          exact beq_eq_false_iff_ne.2 (fun z => q ⟨hh, z⟩)
      rw [h4, Bool.or_false, if_neg h3, Nat.add_zero]
theorem oN_diagI {s y : Nat} (hy : y < 256) : ∀ k, k ≤ y → oN s k y = (if y = s then 1 else 0) + smN (fun i => if pd y i = true ∧ y - 2 ^ i < k then oN s (y - 2 ^ i) (y - 2 ^ i) else 0) 7 := by
  intro k
  induction k with
  | zero =>
    intro _
    rw [smN_cg (g := fun _ => 0) 7 (fun i _ => if_neg (fun z => absurd z.2 (by omega))), smN_0]
    rfl
  | succ k ih =>
    intro hk
    rw [oN_s, ih (by omega), oW_sum (by omega) hy 7 (Nat.le_refl _), Nat.add_assoc, ← smN_add]
    congr 1
    refine smN_cg 7 (fun i _ => ?_)
    by_cases h1 : pd y i = true
    · by_cases h2 : y - 2 ^ i = k
      · rw [if_neg (fun z => absurd z.2 (by omega)), if_pos ⟨h1, h2⟩, if_pos ⟨h1, by omega⟩, h2, Nat.zero_add]
      · have z1 : ¬ (pd y i = true ∧ y - 2 ^ i = k) := fun z => h2 z.2
        rw [if_neg z1, Nat.add_zero]
        by_cases h3 : y - 2 ^ i < k
        · have z2 : pd y i = true ∧ y - 2 ^ i < k := ⟨h1, h3⟩
          have z3 : pd y i = true ∧ y - 2 ^ i < k + 1 := ⟨h1, by omega⟩
          rw [if_pos z2, if_pos z3]
        · have z2 : ¬ (pd y i = true ∧ y - 2 ^ i < k) := fun z => h3 z.2
          have z3 : ¬ (pd y i = true ∧ y - 2 ^ i < k + 1) := fun z => absurd z.2 (by omega)
          rw [if_neg z2, if_neg z3]
    · rw [if_neg (fun z => h1 z.1), if_neg (fun z => h1 z.1), if_neg (fun z => h1 z.1)]
theorem oN_diag {s y : Nat} (hy : y < 256) : oN s y y = (if y = s then 1 else 0) + smN (fun i => if pd y i = true then oN s (y - 2 ^ i) (y - 2 ^ i) else 0) 7 := by
  rw [oN_diagI hy y (Nat.le_refl _)]
  congr 1
  refine smN_cg 7 (fun i hi => ?_)
  by_cases h1 : pd y i = true
  · have h2 := (tb_pd2 y hy i hi h1).1
    have h3 : 0 < 2 ^ i := Nat.two_pow_pos i
    rw [if_pos ⟨h1, by omega⟩, if_pos h1]
  · rw [if_neg (fun z => h1 z.1), if_neg h1]

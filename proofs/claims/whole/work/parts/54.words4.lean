/-! worths as plain numbers, their bounds -/
def pworN (a b : Nat) : Nat → Nat → Nat
  | 0, _ => 1
  | m + 1, s => match pfst (m + 1) s with
    | none => a ^ ppop s * b ^ (m + 1 - ppop s)
    | some i => a * b * (pworN a b m (pwo s i) + pworN a b m (pwo s (i + 1)))
theorem ppow_N (a : Nat) : ∀ n, ppow (lN a) n = lN (a ^ n) := by
  intro n
  induction n with
  | zero => rfl
  | succ n ih => show ppow (lN a) n * lN a = _; rw [ih, lN_mul, Nat.pow_succ]
theorem pwor_N (a b : Nat) : ∀ m s, pwor (lN a) (lN b) m s = lN (pworN a b m s) := by
  intro m
  induction m with
  | zero => intro s; rfl
  | succ m ih =>
    intro s
    show (match pfst (m + 1) s with
      | none => ppow (lN a) (ppop s) * ppow (lN b) (m + 1 - ppop s)
      | some i => lN a * lN b * (pwor (lN a) (lN b) m (pwo s i) + pwor (lN a) (lN b) m (pwo s (i + 1)))) = lN (match pfst (m + 1) s with
      | none => a ^ ppop s * b ^ (m + 1 - ppop s)
      | some i => a * b * (pworN a b m (pwo s i) + pworN a b m (pwo s (i + 1))))
    cases pfst (m + 1) s with
    | none => dsimp only; rw [ppow_N, ppow_N, lN_mul]
    | some i => dsimp only; rw [ih, ih, lN_add, lN_mul, lN_mul]
def pbd : Nat → Nat
  | 0 => 1
  | 1 => 9
  | m + 2 => 162 * pbd (m + 1)
theorem pbd_le : ∀ m, m < 7 → pbd m ≤ 2 ^ 40 ∧ 9 ^ m ≤ pbd m := by decide +kernel
theorem pow_split {a b p q : Nat} (ha : a ≤ 9) (hb : b ≤ 9) : a ^ p * b ^ q ≤ 9 ^ (p + q) := by
  rw [Nat.pow_add]
  exact Nat.mul_le_mul (Nat.pow_le_pow_left ha p) (Nat.pow_le_pow_left hb q)
theorem pworN_le {a b : Nat} (ha : a ≤ 9) (hb : b ≤ 9) : ∀ m, m < 7 → ∀ s, s < 2 ^ m → pworN a b m s ≤ pbd m := by
  intro m
  induction m with
  | zero => intro _ s _; exact Nat.le_refl _
  | succ m ih =>
    intro hm s hs
    show (match pfst (m + 1) s with
      | none => a ^ ppop s * b ^ (m + 1 - ppop s)
      | some i => a * b * (pworN a b m (pwo s i) + pworN a b m (pwo s (i + 1)))) ≤ _
    have hpop : ppop s ≤ m + 1 := by
      rw [← ppopI_64, ppopI_up (a := m + 1) (b := 64) hs (by omega)]
      exact ppopI_le s (m + 1)
    cases hf : pfst (m + 1) s with
    | none =>
      dsimp only
      have h1 := pow_split (p := ppop s) (q := m + 1 - ppop s) ha hb
      rw [show ppop s + (m + 1 - ppop s) = m + 1 by omega] at h1
      exact Nat.le_trans h1 (pbd_le (m + 1) hm).2
    | some i =>
      dsimp only
      have hb3 := tb_words (m + 1) hm s hs
      unfold tbw at hb3
      rw [hf] at hb3
      simp only [Bool.and_eq_true, decide_eq_true_eq] at hb3
      have hi := hb3.1.2
      have w1 := ih (by omega) _ (tb_wol m (by omega) s hs i (by omega))
      have w2 := ih (by omega) _ (tb_wol m (by omega) s hs (i + 1) (by omega))
      obtain ⟨k, hk⟩ : ∃ k, m = k + 1 := ⟨m - 1, by omega⟩
      have hab : a * b ≤ 81 := Nat.mul_le_mul ha hb
      have h3 : a * b * (pworN a b m (pwo s i) + pworN a b m (pwo s (i + 1))) ≤ 81 * (pbd m + pbd m) := Nat.mul_le_mul hab (Nat.add_le_add w1 w2)
      have h4 : pbd (m + 1) = 162 * pbd m := by rw [hk]; rfl
      rw [h4]
      exact Nat.le_trans h3 (by omega)
def pswN (f : Nat → Nat) (g : Nat) : Nat → Nat
  | 0 => 0
  | k + 1 => if k &&& g = g then pswN f g k + f k else pswN f g k
theorem pswS_N (f : Nat → Nat) (g : Nat) : ∀ k, pswS (fun s => lN (f s)) g k = lN (pswN f g k) := by
  intro k
  induction k with
  | zero => rfl
  | succ k ih =>
    unfold pswS pswN
    by_cases h : k &&& g = g
    · rw [if_pos h, if_pos h, ih, lN_add]
    · rw [if_neg h, if_neg h, ih]
theorem psw_eq (a b m g k : Nat) : pswS (pwor (lN a) (lN b) m) g k = lN (pswN (pworN a b m) g k) := by
  rw [← pswS_N]
  congr 1
  funext s
  exact pwor_N a b m s
theorem pswN_le {f : Nat → Nat} {g B n : Nat} (hf : ∀ s, s < n → f s ≤ B) : ∀ k, k ≤ n → pswN f g k ≤ k * B := by
  intro k
  induction k with
  | zero => intro _; exact Nat.zero_le _
  | succ k ih =>
    intro hk
    have h1 := ih (by omega)
    have h2 := hf k (by omega)
    unfold pswN
    rw [Nat.add_mul, Nat.one_mul]
    split <;> omega
theorem pswN_pos {f : Nat → Nat} (h0 : 0 < f 0) : ∀ k, 0 < k → 0 < pswN f 0 k := by
  intro k
  induction k with
  | zero => intro h; omega
  | succ k ih =>
    intro _
    unfold pswN
    rw [if_pos (Nat.and_zero k)]
    by_cases e : k = 0
    · subst e; omega
    · have := ih (by omega)
      omega
theorem pop0 : ppop 0 = 0 := by decide +kernel
theorem fst0 : ∀ m, m < 7 → pfst m 0 = none := by decide +kernel
theorem pworN_0 {a b m : Nat} (hm : m < 7) (hb : 0 < b) : 0 < pworN a b m 0 := by
  cases m with
  | zero => exact Nat.one_pos
  | succ m =>
    show 0 < (match pfst (m + 1) 0 with
      | none => a ^ ppop 0 * b ^ (m + 1 - ppop 0)
      | some i => a * b * (pworN a b m (pwo 0 i) + pworN a b m (pwo 0 (i + 1))))
    rw [fst0 (m + 1) hm]
    dsimp only
    rw [pop0, Nat.pow_zero, Nat.one_mul]
    exact Nat.pow_pos hb
theorem psw_bd {a b m g : Nat} (ha : a ≤ 9) (hb : b ≤ 9) (hm : m < 7) : pswN (pworN a b m) g (2 ^ m) ≤ 2 ^ 46 := by
  have h1 := pswN_le (f := pworN a b m) (g := g) (B := 2 ^ 40) (n := 2 ^ m) (fun s hs => Nat.le_trans (pworN_le ha hb m hm s hs) (pbd_le m hm).1) (2 ^ m) (Nat.le_refl _)
  have h2 := (pw64 (n := m) (by omega)).2
  have h3 : 2 ^ m * 2 ^ 40 ≤ 64 * 2 ^ 40 := Nat.mul_le_mul_right _ h2
  omega
theorem abs_c {A : Nat} (h : A < 2 ^ 63) : (if 0 < lN A then lN A else -lN A) = lN A := by
  by_cases q : 0 < lN A
  · rw [if_pos q]
  · rw [if_neg q]
    have : A = 0 := by
      rw [show (0 : Int64) = lN 0 from rfl, pk_lLT (by decide) h] at q
      omega
    rw [this]
    rfl
theorem abs_m {A : Nat} (h : A < 2 ^ 63) : (if 0 ≤ lg_cmp (lN A) 0 then lN A else -lN A) = lN A := by
  have q : 0 ≤ lg_cmp (lN A) 0 := by
    have h1 : ¬ lg_cmp (lN A) 0 < 0 := by
      rw [lgc_lt, pk_lT h, t0]
      omega
    rw [Int32.lt_iff_toInt_lt] at h1
    rw [Int32.le_iff_toInt_le]
    omega
  rw [if_pos q]

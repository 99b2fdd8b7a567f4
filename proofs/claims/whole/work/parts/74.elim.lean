/-! elimination of a table whose rows outweigh what is off its diagonal -/
theorem zsum_le {f g : Nat → Int} : ∀ n, (∀ i, i < n → f i ≤ g i) → zsum n f ≤ zsum n g := by
  intro n
  induction n with
  | zero => intro _; exact Int.le_refl _
  | succ n ih => intro h; rw [zsum_s, zsum_s]; have h1 := ih (fun i hi => h i (by omega)); have h2 := h n (by omega); omega
theorem zsum_ind (a : Nat) (c : Int) : ∀ n, zsum n (fun t => if t = a then c else 0) = if a < n then c else 0 := by
  intro n
  induction n with
  | zero => rw [if_neg (by omega)]; rfl
  | succ n ih =>
    rw [zsum_s, ih]
    by_cases q : n = a
    · rw [if_neg (by omega), if_pos q, if_pos (by omega), Int.zero_add]
    · rw [if_neg q, Int.add_zero]
      by_cases w : a < n
      · rw [if_pos w, if_pos (by omega)]
      · rw [if_neg w, if_neg (by omega)]
theorem zsum_one {f : Nat → Int} {n a : Nat} (ha : a < n) (h : ∀ i, i < n → i ≠ a → f i ≤ 0) : zsum n f ≤ f a := by
  have h1 := zsum_le (f := f) (g := fun t => if t = a then f a else 0) n (fun i hi => by
    by_cases q : i = a
    · rw [if_pos q, q]; exact Int.le_refl _
    · rw [if_neg q]; exact h i hi q)
  rw [zsum_ind, if_pos ha] at h1
  exact h1
theorem zsum_two {f : Nat → Int} {n a b : Nat} (ha : a < n) (hb : b < n) (hab : a ≠ b) (h : ∀ i, i < n → i ≠ a → i ≠ b → f i ≤ 0) : zsum n f ≤ f a + f b := by
  have h1 := zsum_le (f := f) (g := fun t => (if t = a then f a else 0) + (if t = b then f b else 0)) n (fun i hi => by
    by_cases q : i = a
    · rw [if_pos q, q, if_neg hab, Int.add_zero]; exact Int.le_refl _
    · rw [if_neg q, Int.zero_add]
      by_cases w : i = b
      · rw [if_pos w, w]; exact Int.le_refl _
      · rw [if_neg w]; exact h i hi q w)
  rw [zsum_add, zsum_ind, zsum_ind, if_pos ha, if_pos hb] at h1
  exact h1
def zr (M : Nat → Nat → Int) (m k i : Nat) (x : Nat → Int) : Int := zsum m (fun j => if k ≤ j then zb M k i j * x j else 0)
def zI4 (M : Nat → Nat → Int) (m : Nat) (C : Int) (x : Nat → Int) (k : Nat) : Prop :=
  0 < zdet k M ∧ (∀ i, k ≤ i → ∃ (E : Int) (R y : Nat → Int), zS M k i E R y) ∧ (∀ i j, k ≤ i → i < m → k ≤ j → j < m → i ≠ j → zb M k i j ≤ 0) ∧ (∀ i, k ≤ i → i < m → 0 < zr M m k i x) ∧ (∀ i, k ≤ i → i < m → 0 ≤ zr M m k i (fun _ => 1)) ∧ (∀ i, k ≤ i → i < m → zb M k i i ≤ C * zdet k M)
theorem zpos {D a : Int} (hD : 0 < D) (h : 0 < D * a) : 0 < a := by
  rcases Int.lt_trichotomy a 0 with q | q | q
  · have := Int.mul_nonpos_of_nonneg_of_nonpos (Int.le_of_lt hD) (Int.le_of_lt q)
    omega
  · rw [q, Int.mul_zero] at h; omega
  · exact q
theorem znn {D a : Int} (hD : 0 < D) (h : 0 ≤ D * a) : 0 ≤ a := by
  rcases Int.lt_or_le a 0 with q | q
  · have h1 : 0 < D * (-a) := Int.mul_pos hD (by omega)
    rw [Int.mul_neg] at h1
    omega
  · exact q
theorem znp {D a : Int} (hD : 0 < D) (h : D * a ≤ 0) : a ≤ 0 := by
  have := znn (a := -a) hD (by rw [Int.mul_neg]; omega)
  omega
theorem zI_piv {M : Nat → Nat → Int} {m : Nat} {C : Int} {x : Nat → Int} (hx : ∀ i, i < m → 0 < x i) {k : Nat} (hk : k < m) (h : zI4 M m C x k) {i : Nat} (hki : k ≤ i) (hi : i < m) : 0 < zb M k i i := by
  obtain ⟨h1, h2, h3, h4, h5, h6⟩ := h
  have a := h4 i hki hi
  have b := zsum_one (f := fun j => if k ≤ j then zb M k i j * x j else 0) hi (fun j hj hne => by
    by_cases q : k ≤ j
    · rw [if_pos q]
      exact Int.mul_nonpos_of_nonpos_of_nonneg (h3 i j hki hi q hj (fun e => hne e.symm)) (Int.le_of_lt (hx j hj))
    · rw [if_neg q]; exact Int.le_refl _)
  have b : zr M m k i x ≤ if k ≤ i then zb M k i i * x i else 0 := b
  rw [if_pos hki] at b
  have c : 0 < x i * zb M k i i := by rw [Int.mul_comm]; omega
  exact zpos (hx i hi) c
theorem zI4_s {M : Nat → Nat → Int} {m : Nat} {C : Int} {x : Nat → Int} (hx : ∀ i, i < m → 0 < x i) {k : Nat} (hk : k < m) (h : zI4 M m C x k) : zI4 M m C x (k + 1) ∧ ∀ i j, k + 1 ≤ i → zdet k M * zb M (k + 1) i j = zb M k k k * zb M k i j - zb M k i k * zb M k k j := by
  have hp := zI_piv hx hk h (Nat.le_refl k) hk
  obtain ⟨h1, h2, h3, h4, h5, h6⟩ := h
  have hd : zdet (k + 1) M = zb M k k k := (zb_kk M k).symm
  obtain ⟨F, Q, y, g⟩ := h2 k (Nat.le_refl _)
  have bar : ∀ i j, k + 1 ≤ i → zdet k M * zb M (k + 1) i j = zb M k k k * zb M k i j - zb M k i k * zb M k k j := by
    intro i j hi
    obtain ⟨E, R, z, e⟩ := h2 i (by omega)
    exact (zbar e g (by omega) (by omega) j).2
  have hQ : Q k ≠ 0 := (zbar g g (by omega) (by omega) 0).1
  have rsum : ∀ (w : Nat → Int) i, k + 1 ≤ i → zdet k M * zr M m (k + 1) i w = zb M k k k * zr M m k i w + -(zb M k i k) * zr M m k k w := by
    intro w i hi
    unfold zr
    rw [← zsum_mul, ← zsum_mul, ← zsum_mul, ← zsum_add]
    refine zsum_cg m (fun j _ => ?_)
    by_cases q : k + 1 ≤ j
    · rw [if_pos q, if_pos (show k ≤ j by omega), if_pos (show k ≤ j by omega)]
      have := bar i j hi
      generalize zb M (k + 1) i j = n at this ⊢
      generalize zdet k M = D at this ⊢
      rw [← Int.mul_assoc, this]
      grind
    · rw [if_neg q]
      by_cases q2 : k ≤ j
      · have ej : j = k := by omega
        subst ej
        rw [if_pos q2, if_pos q2]
        grind
      · rw [if_neg q2, if_neg q2]; omega
  refine ⟨⟨by omega, fun i hi => ?_, fun i j hi him hj hjm hne => ?_, fun i hi him => ?_, fun i hi him => ?_, fun i hi him => ?_⟩, bar⟩
  · obtain ⟨E, R, z, e⟩ := h2 i (by omega)
    exact ⟨_, _, _, zS_s e g hQ⟩
  · refine znp h1 ?_
    rw [bar i j hi]
    have a1 := Int.mul_nonpos_of_nonneg_of_nonpos (Int.le_of_lt hp) (h3 i j (by omega) him (by omega) hjm hne)
    have a2 := Int.mul_nonneg_of_nonpos_of_nonpos (h3 i k (by omega) him (Nat.le_refl _) hk (by omega)) (h3 k j (Nat.le_refl _) hk (by omega) hjm (by omega))
    omega
  · refine zpos h1 ?_
    rw [rsum x i hi]
    have a1 := Int.mul_pos hp (h4 i (by omega) him)
    have a2 := Int.mul_nonneg (show 0 ≤ -(zb M k i k) by have := h3 i k (by omega) him (Nat.le_refl _) hk (by omega); omega) (Int.le_of_lt (h4 k (Nat.le_refl _) hk))
    omega
  · refine znn h1 ?_
    rw [rsum _ i hi]
    have a1 := Int.mul_nonneg (Int.le_of_lt hp) (h5 i (by omega) him)
    have a2 := Int.mul_nonneg (show 0 ≤ -(zb M k i k) by have := h3 i k (by omega) him (Nat.le_refl _) hk (by omega); omega) (h5 k (Nat.le_refl _) hk)
    omega
  · have a0 := bar i i hi
    have a2 := Int.mul_nonneg_of_nonpos_of_nonpos (h3 i k (by omega) him (Nat.le_refl _) hk (by omega)) (h3 k i (Nat.le_refl _) hk (by omega) him (by omega))
    have a3 := Int.mul_le_mul_of_nonneg_left (h6 i (by omega) him) (Int.le_of_lt hp)
    rw [hd]
    have a4 : 0 ≤ zdet k M * (C * zb M k k k - zb M (k + 1) i i) := by
      have e : zdet k M * (C * zb M k k k - zb M (k + 1) i i) = zb M k k k * (C * zdet k M) - zdet k M * zb M (k + 1) i i := by
        generalize zb M (k + 1) i i = n
        generalize zdet k M = D
        generalize zb M k k k = p
        grind
      rw [e, a0]
      omega
    have := znn h1 a4
    omega
theorem zI_0 {M : Nat → Nat → Int} {m : Nat} {C : Int} {x : Nat → Int} (h1 : ∀ i j, i < m → j < m → i ≠ j → M i j ≤ 0) (h2 : ∀ i, i < m → 0 < zsum m (fun j => M i j * x j)) (h3 : ∀ i, i < m → 0 ≤ zsum m (fun j => M i j)) (h4 : ∀ i, i < m → M i i ≤ C) : zI4 M m C x 0 := by
  have e : ∀ (w : Nat → Int) i, zr M m 0 i w = zsum m (fun j => M i j * w j) := by
    intro w i
    refine zsum_cg m (fun j _ => ?_)
    rw [if_pos (Nat.zero_le _), zb_0]
  refine ⟨Int.one_pos, fun i _ => ⟨1, M i, fun _ => 0, zS_0 M i⟩, fun i j _ hi _ hj hne => ?_, fun i _ hi => ?_, fun i _ hi => ?_, fun i _ hi => ?_⟩
  · rw [zb_0]; exact h1 i j hi hj hne
  · rw [e]; exact h2 i hi
  · rw [e]
    have := h3 i hi
    rw [zsum_cg (f := fun j => M i j * 1) (g := fun j => M i j) m (fun j _ => Int.mul_one _)]
    exact this
  · rw [zb_0]
    show M i i ≤ C * 1
    rw [Int.mul_one]
    exact h4 i hi
theorem zI_k {M : Nat → Nat → Int} {m : Nat} {C : Int} {x : Nat → Int} (hx : ∀ i, i < m → 0 < x i) (h : zI4 M m C x 0) : ∀ k, k ≤ m → zI4 M m C x k := by
  intro k
  induction k with
  | zero => intro _; exact h
  | succ k ih => intro hk; exact (zI4_s hx (by omega) (ih (by omega))).1
theorem zI_D {M : Nat → Nat → Int} {m : Nat} {C : Int} {x : Nat → Int} (hC : 0 ≤ C) (hx : ∀ i, i < m → 0 < x i) (h : zI4 M m C x 0) : ∀ k, k ≤ m → zdet k M ≤ C ^ k := by
  intro k
  induction k with
  | zero => intro _; rw [Int.pow_zero]; exact Int.le_refl _
  | succ k ih =>
    intro hk
    have h1 := ih (by omega)
    have h2 := (zI_k hx h k (by omega)).2.2.2.2.2 k (Nat.le_refl _) (by omega)
    rw [zb_kk] at h2
    have h3 := Int.mul_le_mul_of_nonneg_left h1 hC
    rw [Int.pow_succ, Int.mul_comm]
    omega
theorem zI_abs {M : Nat → Nat → Int} {m : Nat} {C : Int} {x : Nat → Int} (hC : 0 ≤ C) (hx : ∀ i, i < m → 0 < x i) {k : Nat} (hk : k < m) (h : zI4 M m C x k) {i j : Nat} (hki : k ≤ i) (hi : i < m) (hkj : k ≤ j) (hj : j < m) : -(C * zdet k M) ≤ zb M k i j ∧ zb M k i j ≤ C * zdet k M := by
  have hp := zI_piv hx hk h hki hi
  obtain ⟨h1, h2, h3, h4, h5, h6⟩ := h
  have h7 := h6 i hki hi
  have h8 := Int.mul_nonneg hC (Int.le_of_lt h1)
  by_cases q : i = j
  · subst q
    omega
  · have a := h3 i j hki hi hkj hj q
    have b := h5 i hki hi
    have c := zsum_two (f := fun t => if k ≤ t then zb M k i t * (fun _ => (1 : Int)) t else 0) hi hj q (fun t ht hne1 hne2 => by
      by_cases w : k ≤ t
      · rw [if_pos w]
        show zb M k i t * 1 ≤ 0
        rw [Int.mul_one]
        exact h3 i t hki hi w ht (fun e => hne1 e.symm)
      · rw [if_neg w]; exact Int.le_refl _)
    have c : zr M m k i (fun _ => 1) ≤ (if k ≤ i then zb M k i i * 1 else 0) + (if k ≤ j then zb M k i j * 1 else 0) := c
    rw [if_pos hki, if_pos hkj, Int.mul_one, Int.mul_one] at c
    omega
/-! the same in longs -/
def iL (z : Int) : Int64 := Int64.ofInt z
theorem iL_mul (a b : Int) : iL a * iL b = iL (a * b) := (Int64.ofInt_mul a b).symm
theorem iL_sub (a b : Int) : iL a - iL b = iL (a - b) := (Int64.ofInt_sub a b).symm
theorem iL_to {a : Int} (h1 : -2 ^ 63 ≤ a) (h2 : a < 2 ^ 63) : (iL a).toInt = a := Int64.toInt_ofInt_of_le h1 h2
theorem iL_N (n : Nat) : iL (n : Int) = lN n := Int64.ofInt_eq_ofNat
theorem iL_ne {a : Int} (h1 : -2 ^ 63 ≤ a) (h2 : a < 2 ^ 63) (h : a ≠ 0) : iL a ≠ 0 := by
  intro e
  have := congrArg Int64.toInt e
  rw [iL_to h1 h2] at this
  exact h this
theorem iL_div {D Q : Int} (hD : 0 < D) (h1 : -2 ^ 63 < D * Q) (h2 : D * Q < 2 ^ 63) (hD2 : D < 2 ^ 63) : iL (D * Q) / iL D = iL Q := by
  have q1 : -2 ^ 63 < Q := by
    rcases Int.lt_or_le Q 0 with q | q
    · have : D * Q ≤ 1 * Q := Int.mul_le_mul_of_nonpos_right (by omega) (by omega)
      omega
    · omega
  have q2 : Q < 2 ^ 63 := by
    rcases Int.lt_or_le 0 Q with q | q
    · have : 1 * Q ≤ D * Q := Int.mul_le_mul_of_nonneg_right (by omega) (by omega)
      omega
    · omega
  apply Int64.toInt_inj.1
  rw [Int64.toInt_div, iL_to (by omega) h2, iL_to (by omega) hD2, iL_to (by omega) q2, Int.mul_tdiv_cancel_left _ (by omega), Int.bmod_eq_of_le (by omega) (by omega)]
/-- all that the elimination of size m needs -/
def zOK (M : Nat → Nat → Int) (m : Nat) : Prop := (∀ k, k ≤ m → 0 < zdet k M ∧ zdet k M < 2 ^ 40) ∧ (∀ k i j, k < m → k ≤ i → i < m → k ≤ j → j < m → -2 ^ 40 < zb M k i j ∧ zb M k i j < 2 ^ 40) ∧ (∀ k i j, k + 1 < m → k + 1 ≤ i → i < m → k + 1 ≤ j → j < m → (iL (zb M k i j) * iL (zb M k k k) - iL (zb M k i k) * iL (zb M k k j)) / iL (zdet k M) = iL (zb M (k + 1) i j))
theorem zpow_le {C : Int} (hC : 1 ≤ C) {a b : Nat} (h : a ≤ b) : C ^ a ≤ C ^ b := by
  obtain ⟨d, rfl⟩ : ∃ d, b = a + d := ⟨b - a, by omega⟩
  clear h
  induction d with
  | zero => exact Int.le_refl _
  | succ d ih =>
    have hp : 0 ≤ C ^ (a + d) := Int.pow_nonneg (by omega)
    have := Int.mul_le_mul_of_nonneg_left hC hp
    rw [← Nat.add_assoc, Int.pow_succ]
    omega
theorem zOK_of {M : Nat → Nat → Int} {m : Nat} {C : Int} {x : Nat → Int} (hC : 1 ≤ C) (hx : ∀ i, i < m → 0 < x i) (h : zI4 M m C x 0) (hm : m ≤ 7) (hb1 : C ^ m < 2 ^ 40) (hb2 : ∀ k, k + 1 < m → C ^ (2 * k + 2) < 2 ^ 63) : zOK M m := by
  have hD : ∀ k, k ≤ m → 0 < zdet k M ∧ zdet k M ≤ C ^ k := fun k hk => ⟨(zI_k hx h k hk).1, zI_D (by omega) hx h k hk⟩
  have hA : ∀ k i j, k < m → k ≤ i → i < m → k ≤ j → j < m → -(C ^ (k + 1)) ≤ zb M k i j ∧ zb M k i j ≤ C ^ (k + 1) := by
    intro k i j hk hki hi hkj hj
    have a := zI_abs (by omega) hx hk (zI_k hx h k (by omega)) hki hi hkj hj
    have b := Int.mul_le_mul_of_nonneg_left (hD k (by omega)).2 (show 0 ≤ C by omega)
    rw [Int.pow_succ, Int.mul_comm]
    omega
  refine ⟨fun k hk => ?_, fun k i j hk hki hi hkj hj => ?_, fun k i j hk hki hi hkj hj => ?_⟩
  · have a := hD k hk
    have b := zpow_le hC hk
    omega
  · have a := hA k i j hk hki hi hkj hj
    have b := zpow_le hC (show k + 1 ≤ m by omega)
    omega
  · have bar := (zI4_s hx (show k < m by omega) (zI_k hx h k (by omega))).2 i j hki
    have d := hD k (by omega)
    have a := hA (k + 1) i j hk hki hi hkj hj
    have b := hb2 k hk
    have p1 : 0 ≤ C ^ (k + 1 + 1) := Int.pow_nonneg (by omega)
    have u1 : zdet k M * zb M (k + 1) i j ≤ zdet k M * C ^ (k + 1 + 1) := Int.mul_le_mul_of_nonneg_left a.2 (by omega)
    have u2 : zdet k M * -(C ^ (k + 1 + 1)) ≤ zdet k M * zb M (k + 1) i j := Int.mul_le_mul_of_nonneg_left a.1 (by omega)
    rw [Int.mul_neg] at u2
    have u3 : zdet k M * C ^ (k + 1 + 1) ≤ C ^ k * C ^ (k + 1 + 1) := Int.mul_le_mul_of_nonneg_right d.2 p1
    have u4 : C ^ k * C ^ (k + 1 + 1) = C ^ (2 * k + 2) := by
      rw [← Int.pow_add]
      congr 1
      omega
    have hk7 := zpow_le hC (show k ≤ m by omega)
    have e : iL (zb M k i j) * iL (zb M k k k) - iL (zb M k i k) * iL (zb M k k j) = iL (zdet k M * zb M (k + 1) i j) := by
      rw [iL_mul, iL_mul, iL_sub, bar, Int.mul_comm (zb M k i j)]
    rw [e]
    exact iL_div d.1 (by omega) (by omega) (by omega)

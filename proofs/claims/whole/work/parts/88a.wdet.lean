/-! the class's determinant of ways -/
def bd : Nat → Int
  | 0 => 1
  | n + 1 => (n + 1 : Nat) * (256 * bd n)
theorem bd_nn : ∀ n, 0 ≤ bd n := by
  intro n
  induction n with
  | zero => decide
  | succ n ih => exact Int.mul_nonneg (by omega) (by omega)
theorem ab_mul {a d D : Int} (ha1 : -256 ≤ a) (ha2 : a ≤ 256) (hD : 0 ≤ D) (hd1 : -D ≤ d) (hd2 : d ≤ D) : -(256 * D) ≤ a * d ∧ a * d ≤ 256 * D := by
  rcases Int.lt_or_le a 0 with q | q
  · have e : a * d = (-a) * (-d) := by rw [Int.neg_mul_neg]
    have h1 : (-a) * (-d) ≤ (-a) * D := Int.mul_le_mul_of_nonneg_left (by omega) (by omega)
    have h2 : (-a) * (-D) ≤ (-a) * (-d) := Int.mul_le_mul_of_nonneg_left (by omega) (by omega)
    have h3 : (-a) * D ≤ 256 * D := Int.mul_le_mul_of_nonneg_right (by omega) hD
    rw [Int.mul_neg] at h2
    rw [e]
    omega
  · have h1 : a * d ≤ a * D := Int.mul_le_mul_of_nonneg_left hd2 q
    have h2 : a * (-D) ≤ a * d := Int.mul_le_mul_of_nonneg_left hd1 q
    have h3 : a * D ≤ 256 * D := Int.mul_le_mul_of_nonneg_right ha2 hD
    rw [Int.mul_neg] at h2
    omega
theorem zsum_ab {f : Nat → Int} {c : Int} : ∀ n, (∀ i, i < n → -c ≤ f i ∧ f i ≤ c) → -((n : Int) * c) ≤ zsum n f ∧ zsum n f ≤ (n : Int) * c := by
  intro n
  induction n with
  | zero => intro _; rw [zsum_0]; omega
  | succ n ih =>
    intro h
    have h1 := ih (fun i hi => h i (by omega))
    have h2 := h n (by omega)
    have e : ((n + 1 : Nat) : Int) * c = (n : Int) * c + c := by rw [Int.natCast_add, Int.add_mul]; omega
    rw [zsum_s, e]
    omega
theorem zdet_ab : ∀ n (M : Nat → Nat → Int), (∀ i j, i < n → j < n → 0 ≤ M i j ∧ M i j ≤ 256) → -(bd n) ≤ zdet n M ∧ zdet n M ≤ bd n := by
  intro n
  induction n with
  | zero => intro M _; exact ⟨show -(1 : Int) ≤ 1 by decide, show (1 : Int) ≤ 1 by decide⟩
  | succ n ih =>
    intro M h
    refine zsum_ab (n + 1) (fun j hj => ?_)
    have h1 := ih (fun i c => M i (psk j c)) (fun i c hi hc => h i _ (by omega) (psk_le hc))
    have h2 := h n j (by omega) hj
    refine ab_mul ?_ ?_ (bd_nn n) h1.1 h1.2 <;> (unfold zsg; split <;> omega)
theorem zb_det (M : Nat → Nat → Int) (k i j : Nat) : zb M k i j = zdet (k + 1) (fun r c => M (if r = k then i else r) (zc k j c)) := by
  rw [zdet_s]
  unfold zb
  refine zD_cg (fun r hr c _ => ?_) (fun c _ => ?_)
  · rw [if_neg (by omega)]
  · rw [if_pos rfl]
theorem zb_ab {M : Nat → Nat → Int} {n : Nat} (h : ∀ i j, i < n → j < n → 0 ≤ M i j ∧ M i j ≤ 256) {k i j : Nat} (hk : k < n) (hi : i < n) (hj : j < n) : -(bd (k + 1)) ≤ zb M k i j ∧ zb M k i j ≤ bd (k + 1) := by
  rw [zb_det]
  refine zdet_ab (k + 1) _ (fun r c hr hc => h _ _ ?_ ?_)
  · split <;> omega
  · unfold zc
    split <;> omega
theorem bd_4 : ∀ n, n ≤ 4 → bd n ≤ 2 ^ 37 := by decide
theorem bd_2 : ∀ n, n ≤ 2 → bd n ≤ 2 ^ 17 := by decide
theorem pdetF_gen {M : Nat → Nat → Int} {n : Nat} (hn : n ≤ 4) (hM : ∀ i j, i < n → j < n → 0 ≤ M i j ∧ M i j ≤ 256) (hp : ∀ k, k ≤ n → 0 ≤ zdet k M) (hz : ∀ k, k ≤ n → zdet k M = 0 → zdet n M = 0) : ∀ d k (A : Nat → Nat → Int64), k + d = n → zdet k M ≠ 0 → (∀ i, k ≤ i → ∃ (E : Int) (R y : Nat → Int), zS M k i E R y) → (∀ i j, k ≤ i → i < n → k ≤ j → j < n → A i j = iL (zb M k i j)) → pdetF n d A k (iL (zdet k M)) = iL (zdet n M) := by
  intro d
  induction d with
  | zero =>
    intro k A e _ _ _
    have e : k = n := by omega
    rw [e]; rfl
  | succ d ih =>
    intro k A e h0 hS hA
    have hk : k < n := by omega
    have hkk := hA k k (Nat.le_refl _) hk (Nat.le_refl _) hk
    rw [zb_kk] at hkk
    have b1 := zdet_ab (k + 1) M (fun i j hi hj => hM i j (by omega) (by omega))
    have b1' := bd_4 (k + 1) (by omega)
    have b0 := zdet_ab k M (fun i j hi hj => hM i j (by omega) (by omega))
    have b0' := bd_4 k (by omega)
    have hpk := hp k (by omega)
    have hpk1 := hp (k + 1) (by omega)
    show (if A k k = 0 then 0 else pdetF n d (pclr A n k (iL (zdet k M))) (k + 1) (A k k)) = _
    by_cases q : zdet (k + 1) M = 0
    · rw [hkk, q, hz (k + 1) (by omega) q]; rfl
    · have hne : ¬ A k k = 0 := by rw [hkk]; exact iL_ne (by omega) (by omega) q
      have hne0 : ¬ iL (zdet k M) = 0 := iL_ne (by omega) (by omega) h0
      rw [if_neg hne, hkk]
      obtain ⟨F, Q, y, g⟩ := hS k (Nat.le_refl _)
      have hQ : Q k ≠ 0 := (zbar g g q h0 0).1
      refine ih (k + 1) _ (by omega) q (fun i hi => ?_) (fun i j hi hin hj hjn => ?_)
      · obtain ⟨E, R, z, s⟩ := hS i (by omega)
        exact ⟨_, _, _, zS_s s g hQ⟩
      · unfold pclr
        rw [if_pos ⟨by omega, hin, by omega, hjn⟩, if_neg hne0, hA i j (by omega) hin (by omega) hjn, hkk, hA i k (by omega) hin (Nat.le_refl _) hk, hA k j (Nat.le_refl _) hk (by omega) hjn, ← zb_kk]
        obtain ⟨E, R, z, s⟩ := hS i (by omega)
        have bar := (zbar s g q h0 j).2
        have c1 := zb_ab hM (k := k + 1) (i := i) (j := j) (by omega) hin hjn
        have c1' := bd_4 (k + 1 + 1) (by omega)
        have c0' := bd_2 k (by omega)
        have u1 : zdet k M * zb M (k + 1) i j ≤ zdet k M * 2 ^ 37 := Int.mul_le_mul_of_nonneg_left (by omega) hpk
        have u2 : zdet k M * -(2 ^ 37) ≤ zdet k M * zb M (k + 1) i j := Int.mul_le_mul_of_nonneg_left (by omega) hpk
        rw [Int.mul_neg] at u2
        have u3 : zdet k M * 2 ^ 37 ≤ 2 ^ 17 * 2 ^ 37 := Int.mul_le_mul_of_nonneg_right (by omega) (by decide)
        have u4 : (2 : Int) ^ 17 * 2 ^ 37 < 2 ^ 63 := by decide
        have e2 : iL (zb M k i j) * iL (zb M k k k) - iL (zb M k i k) * iL (zb M k k j) = iL (zdet k M * zb M (k + 1) i j) := by
          rw [iL_mul, iL_mul, iL_sub, bar, Int.mul_comm (zb M k i j)]
        rw [e2]
        exact iL_div (by omega) (by omega) (by omega) (by omega)
theorem ways_det {n m π : Nat} {x y : Nat → Nat} (hn : n ≤ 4) (hm : m ≤ 8) (hx : okT n π x) (hy : okT n (π + m) y) {A : Nat → Nat → Int64} (hA : ∀ i j, i < n → j < n → A i j = lN (wR m (x i) (y j))) : pdet n A = iL (zK n m π x y) := by
  have hk : ∀ k, k ≤ n → zdet k (fun i j => (wR m (x i) (y j) : Int)) = zK k m π x y := fun k hk => zG_K k m π x y (hx.pre hk) (hy.pre hk)
  rw [← hk n (Nat.le_refl _)]
  have h8 : 2 ^ m ≤ 2 ^ 8 := Nat.pow_le_pow_right (by decide) hm
  refine pdetF_gen (M := fun i j => (wR m (x i) (y j) : Int)) hn (fun i j _ _ => ?_) (fun k h => ?_) (fun k h z => ?_) n 0 A (by omega) (show (1 : Int) ≠ 0 by decide) (fun i _ => ⟨1, _, fun _ => 0, zS_0 _ i⟩) (fun i j _ hi _ hj => ?_)
  · have := wR_le m (x i) (y j)
    show 0 ≤ ((wR m (x i) (y j) : Nat) : Int) ∧ ((wR m (x i) (y j) : Nat) : Int) ≤ 256
    omega
  · rw [hk k h]; exact zK_nn k _ _ _ _
  · rw [hk k h] at z
    rw [hk n (Nat.le_refl _)]
    exact Classical.byContradiction (fun c => zK_pre h m π x y c z)
  · rw [zb_0, hA i j hi hj, iL_N]

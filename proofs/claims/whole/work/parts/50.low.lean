/-! lowest terms: Euclid's way in both -/
theorem lN_z {y : Nat} (h : y < 2 ^ 63) : lg_cmp (lN y) (0 : Int64) = 0 ↔ y = 0 := by
  rw [lgc_eq, show (0 : Int64) = lN 0 from rfl, pk_lEQ h (by decide)]
theorem lN_ne {y : Nat} (h : y < 2 ^ 63) (h0 : ¬ y = 0) : ¬ lN y = 0 := by
  rw [show (0 : Int64) = lN 0 from rfl, pk_lEQ h (by decide)]
  exact h0
theorem rem_half {x y k : Nat} (hy : y < 2 ^ (k + 1)) (h0 : ¬ y = 0) (hr : ¬ x % y = 0) : y % (x % y) < 2 ^ k := by
  have h1 : x % y < y := Nat.mod_lt _ (by omega)
  rw [Nat.pow_succ] at hy
  by_cases h : 2 * (x % y) ≤ y
  · have := Nat.mod_lt y (y := x % y) (by omega)
    omega
  · have h2 : y % (x % y) = y - x % y := by
      rw [Nat.mod_eq_sub_mod (by omega), Nat.mod_eq_of_lt (by omega)]
    omega
section LW
variable {G : hz_G} {τ : hz_T} {φ : Int64 → hz_T → Prop}
theorem cd_loop {g : Nat} (H : φ (lN g) τ) : ∀ k i x y, x < 2 ^ 63 → y < 2 ^ 63 → y < 2 ^ k → i + 2 * k ≤ 100 → Nat.gcd x y = g → zRun G MX9_commonDivisor 9 [(4, .long (lN x)), (6, .long (lN y)), (8, .int (nI i))] [] τ (zpl φ) := by
  intro k
  induction k with
  | zero =>
    intro i x y hx hy hk hi hg
    have h0 : y = 0 := by
      rw [Nat.pow_zero] at hk
      omega
    rw [h0, Nat.gcd_zero_right] at hg
    rw [← hg] at H
    refine V_X9_commonDivisor_9 _ _ _ τ ⟨fun _ => pl_ok H, fun _ => ⟨fun _ => pl_ok H, fun q => absurd ((lN_z hy).mpr h0) q⟩⟩
  | succ k ih =>
    intro i x y hx hy hk hi hg
    refine V_X9_commonDivisor_9 _ _ _ τ ⟨fun q => absurd (show nI 100 ≤ nI i from q) (nI_ge (by omega) (by decide)), fun _ => ⟨fun q => ?_, fun q => ?_⟩⟩
    · have h0 := (lN_z hy).mp q
      rw [h0, Nat.gcd_zero_right] at hg
      rw [← hg] at H
      exact pl_ok H
    · have h0 : ¬ y = 0 := fun e => q ((lN_z hy).mpr e)
      have hl : x % y < y := Nat.mod_lt _ (by omega)
      refine ⟨lN_ne hy h0, ?_⟩
      rw [pk_lRem hx (by omega) hy, i1]
      have hg2 : Nat.gcd y (x % y) = g := by rw [← hg, Nat.gcd_comm x y, Nat.gcd_rec y x, Nat.gcd_comm]
      refine V_X9_commonDivisor_9 _ _ _ τ ⟨fun q => absurd (show nI 100 ≤ nI (i + 1) from q) (nI_ge (by omega) (by decide)), fun _ => ⟨fun q => ?_, fun q => ?_⟩⟩
      · have h1 := (lN_z (by omega)).mp q
        rw [h1, Nat.gcd_zero_right] at hg2
        rw [← hg2] at H
        exact pl_ok H
      · have h1 : ¬ x % y = 0 := fun e => q ((lN_z (by omega)).mpr e)
        have hl2 : y % (x % y) < x % y := Nat.mod_lt _ (by omega)
        refine ⟨lN_ne (by omega) h1, ?_⟩
        rw [pk_lRem hy (by omega) (by omega), i1]
        refine ih (i + 2) _ _ (by omega) (by omega) (rem_half hk h0 h1) (by omega) ?_
        rw [← hg2, Nat.gcd_comm y (x % y), Nat.gcd_rec (x % y) y, Nat.gcd_comm]
def plow (up : Int64) (a d : Nat) (w : Int32) : Int64 := (if w = 0 then up else lN d) / lN (Nat.gcd a d)
theorem sp_clow {up : Int64} {a d : Nat} {w : Int32} (ha : (if 0 < up then up else -up) = lN a) (ha2 : a < 2 ^ 63) (hd0 : 0 < d) (hd : d < 2 ^ 50) (H : φ (plow up a d w) τ) : zCall G MX9_lowest [.long up, .long (lN d), .int w] τ (zpl φ) := by
  have hg : 0 < Nat.gcd a d := Nat.gcd_pos_of_pos_right _ hd0
  have hgl : Nat.gcd a d ≤ d := Nat.gcd_le_right _ hd0
  refine C_X9_lowest up (lN d) w τ ?_
  rw [ha]
  refine C_X9_commonDivisor _ _ τ ?_
  refine cd_loop (g := Nat.gcd a d) ?_ 50 0 a d ha2 (by omega) hd (by omega) rfl
  refine ⟨fun _ => ⟨lN_ne (by omega) (by omega), pl_ok H⟩, fun q => ?_⟩
  have := (lN_z (by omega)).mp q
  omega
theorem sp_mlow {up : Int64} {a d : Nat} {w : Int32} (ha : (if 0 ≤ lg_cmp up 0 then up else -up) = lN a) (ha2 : a < 2 ^ 63) (hd0 : 0 < d) (hd : d < 2 ^ 63) (H : φ (plow up a d w) τ) : zCall G MX12_lowest [.long up, .long (lN d), .int w] τ (zpl φ) := by
  have hg : 0 < Nat.gcd a d := Nat.gcd_pos_of_pos_right _ hd0
  have hgl : Nat.gcd a d ≤ d := Nat.gcd_le_right _ hd0
  refine C_X12_lowest up (lN d) w τ (fun v1 e1 => ?_)
  rw [ha] at e1
  rw [e1]
  have key : ∀ m x y, y < m → x < 2 ^ 63 → y < 2 ^ 63 → Nat.gcd x y = Nat.gcd a d → zRun G MX12_lowest 17 [(0, .long up), (2, .long (lN d)), (4, .int w), (5, .long (lN x)), (7, .long (lN y))] [] τ (zpl φ) := by
    intro m
    induction m with
    | zero => intro x y h; exact absurd h (Nat.not_lt_zero _)
    | succ m ih =>
      intro x y hm hx hy hgc
      refine V_X12_lowest_17 _ _ _ _ _ τ ⟨fun q => ?_, fun q => ?_⟩
      · have h0 := (lN_z hy).mp q
        rw [h0, Nat.gcd_zero_right] at hgc
        rw [hgc]
        exact ⟨lN_ne (by omega) (by omega), pl_ok H⟩
      · have h0 : ¬ y = 0 := fun e => q ((lN_z hy).mpr e)
        have hl : x % y < y := Nat.mod_lt _ (by omega)
        refine ⟨lN_ne hy h0, ?_⟩
        rw [pk_lRem hx (by omega) hy]
        refine ih y (x % y) (by omega) hy (by omega) ?_
        rw [← hgc, Nat.gcd_comm x y, Nat.gcd_rec y x, Nat.gcd_comm]
  exact key (d + 1) a d (by omega) ha2 hd rfl
end LW
/-! shocks -/
def shk (l r : Nat) : Int64 := (((10 : Int32) - nI l) - nI r).toInt64
def sha (l r : Nat) : Nat := if l + r ≤ 10 then 10 - (l + r) else l + r - 10
theorem tb_shk : ∀ l, l < 11 → ∀ r, r < 11 → (if 0 < shk l r then shk l r else -shk l r) = lN (sha l r) ∧ (if 0 ≤ lg_cmp (shk l r) 0 then shk l r else -shk l r) = lN (sha l r) ∧ (if (((10 : Int32) - nI l) - nI r) = 0 then (1 : Int32) else 0) = (if nI l + nI r = (10 : Int32) then (1 : Int32) else 0) ∧ sha l r ≤ 10 := by decide +kernel
theorem pair_shock {G : hz_G} {τ : hz_T} (hI : Inv τ) (x0 : Int32) (x1 : Int32) (x2 : Int32) : PI G MX11_shock MX12_shock [.ref 0, .int x0, .int x1, .int x2] [.ref 29, .int x0, .int x1, .int x2] τ := by
  have e1 : (10 : Int32).toInt = 10 := by decide
  have e2 : (10 : Int64).toInt = 10 := by decide
  have e3 : (2 : Int32).toInt = 2 := by decide
  have e4 : (2 : Int64).toInt = 2 := by decide
  refine C_X11_shock x0 x1 x2 τ (sp_within ?_)
  rw [t0', e1]
  refine b_a (fun hl => pi_ok ?_) (fun hl => sp_within ?_)
  · refine C_X12_shock x0 x1 x2 τ (sp_in ?_)
    rw [t0, e2, i64]
    exact b_a (fun _ => pi_ok ⟨rfl, hI⟩) (fun h => absurd h hl)
  rw [t0', e1]
  refine b_a (fun hr => pi_ok ?_) (fun hr => sp_within ?_)
  · refine C_X12_shock x0 x1 x2 τ (sp_in ?_)
    rw [t0, e2, i64]
    refine b_a (fun h => absurd hl h) (fun _ => sp_in ?_)
    rw [t0, e2, i64]
    exact b_a (fun _ => pi_ok ⟨rfl, hI⟩) (fun h => absurd h hr)
  rw [t0', e3]
  obtain ⟨l, hl', rfl⟩ := of_range (n := 11) hl.1 (by omega)
  obtain ⟨r, hr', rfl⟩ := of_range (n := 11) hr.1 (by omega)
  obtain ⟨t1, t2, t3, t4⟩ := tb_shk l hl' r hr'
  have model : ∀ z : Int32, (0 ≤ x2.toInt ∧ x2.toInt ≤ 2 → ((¬ nI l = nI r → ((¬ x2 = (2 : Int32) → z = (plow (shk l r) (sha l r) 10 x2).toInt32) ∧ (x2 = (2 : Int32) → z = (if nI l + nI r = (10 : Int32) then (1 : Int32) else 0)))) ∧ (nI l = nI r → z = -104))) → (¬ (0 ≤ x2.toInt ∧ x2.toInt ≤ 2) → z = -100) → zCall G MX12_shock [.ref 29, .int (nI l), .int (nI r), .int x2] τ (zpi (fun b τ2 => z = b ∧ Inv τ2)) := by
    intro z hy hn
    refine C_X12_shock _ _ _ τ (sp_in ?_)
    rw [t0, e2, i64]
    refine b_a (fun h => absurd hl h) (fun _ => sp_in ?_)
    rw [t0, e2, i64]
    refine b_a (fun h => absurd hr h) (fun _ => sp_in ?_)
    rw [t0, e4, i64]
    refine b_b (fun h => ⟨fun q => ⟨fun q2 => ?_, fun q2 => pi_ok ⟨((hy h).1 q).2 q2, hI⟩⟩, fun q => pi_ok ⟨(hy h).2 q, hI⟩⟩) (fun h => pi_ok ⟨hn h, hI⟩)
    exact sp_mlow (up := shk l r) (a := sha l r) (d := 10) t2 (by omega) (by decide) (by decide) (pi_ok ⟨((hy h).1 q).1 q2, hI⟩)
  refine b_b (fun h => ⟨fun q => ⟨fun q2 => ?_, fun q2 => pi_ok (model _ (fun _ => ⟨fun _ => ⟨fun q3 => absurd q2 q3, fun _ => t3⟩, fun q3 => absurd q3 q⟩) (fun q3 => absurd h q3))⟩, fun q => pi_ok (model _ (fun _ => ⟨fun q3 => absurd q q3, fun _ => rfl⟩) (fun q3 => absurd h q3))⟩) (fun h => pi_ok (model _ (fun q3 => absurd q3 h) (fun _ => rfl)))
  exact sp_clow (up := shk l r) (a := sha l r) (d := 10) t1 (by omega) (by decide) (by decide) (pi_ok (model _ (fun _ => ⟨fun _ => ⟨fun _ => rfl, fun q3 => absurd q3 q2⟩, fun q3 => absurd q3 q⟩) (fun q3 => absurd h q3)))

theorem sx8 (x : Int32) : (x <<< ((24 : Int32) &&& 31)) >>> ((24 : Int32) &&& 31) = x.toInt8.toInt32 := by
  apply b_ext
  intro i hi
  rw [show (24 : Int32) = nI 24 from rfl, b_sshr 24 (by decide) _ hi]
  have hr : bt x.toInt8.toInt32 i = if i < 8 then bt x i else bt x 7 := by
    unfold bt
    rw [Int8.toBitVec_toInt32, Int32.toBitVec_toInt8, BitVec.getLsbD_signExtend]
    simp only [hi, decide_true, Bool.true_and]
    by_cases h : i < 8
    · rw [if_pos h, if_pos h, BitVec.getLsbD_signExtend]
      simp [h]
      intro hh
      omega
    · rw [if_neg h, if_neg h, BitVec.msb_eq_getLsbD_last, BitVec.getLsbD_signExtend]
      simp
  rw [hr]
  by_cases h : i < 8
  · rw [if_pos (by omega), if_pos h, b_shl 24 (by decide) _ (by omega)]
    simp
  · rw [if_neg (by omega), if_neg h, b_shl 24 (by decide) _ (by decide)]
    simp
theorem sx16 (x : Int32) : (x <<< ((16 : Int32) &&& 31)) >>> ((16 : Int32) &&& 31) = x.toInt16.toInt32 := by
  apply b_ext
  intro i hi
  rw [show (16 : Int32) = nI 16 from rfl, b_sshr 16 (by decide) _ hi]
  have hr : bt x.toInt16.toInt32 i = if i < 16 then bt x i else bt x 15 := by
    unfold bt
    rw [Int16.toBitVec_toInt32, Int32.toBitVec_toInt16, BitVec.getLsbD_signExtend]
    simp only [hi, decide_true, Bool.true_and]
    by_cases h : i < 16
    · rw [if_pos h, if_pos h, BitVec.getLsbD_signExtend]
      simp [h]
      intro hh
      omega
    · rw [if_neg h, if_neg h, BitVec.msb_eq_getLsbD_last, BitVec.getLsbD_signExtend]
      simp
  rw [hr]
  by_cases h : i < 16
  · rw [if_pos (by omega), if_pos h, b_shl 16 (by decide) _ (by omega)]
    simp
  · rw [if_neg (by omega), if_neg h, b_shl 16 (by decide) _ (by decide)]
    simp
theorem nI_m1 {d : Nat} (h : d < 2 ^ 31) : ¬ nI d = -1 := by
  intro q
  have := congrArg Int32.toInt q
  rw [nI_toInt h] at this
  have e : ((-1 : Int32)).toInt = -1 := by decide
  omega
theorem nI_m4 {d : Nat} (h : d < 2 ^ 31) : ¬ nI d = -4 := by
  intro q
  have := congrArg Int32.toInt q
  rw [nI_toInt h] at this
  have e : ((-4 : Int32)).toInt = -4 := by decide
  omega
/-- a cell of a sheet of kind d holds what is left of x -/
def nrw (d : Nat) (x : Int32) : Int32 := if d = 0 then x.toInt8.toInt32 else if d = 1 then x.toInt16.toInt32 else x
theorem pair_lay {G : hz_G} {τ : hz_T} (hI : Inv τ) (x0 : Int32) (x1 : Int32) (x2 : Int32) : PI G MX11_lay MX12_lay [.ref 0, .int x0, .int x1, .int x2] [.ref 29, .int x0, .int x1, .int x2] τ := by
  have e3 : (3 : Int64).toInt = 3 := by decide
  refine C_X11_lay x0 x1 x2 τ (sp_isSheet (b_b (fun hc => ?_) (fun hc => pi_ok ?_)))
  rotate_left
  · refine C_X12_lay x0 x1 x2 τ (sp_in ?_)
    rw [t0, e3, i64]
    exact b_b (fun h => absurd h hc) (fun _ => pi_ok ⟨rfl, hI⟩)
  obtain ⟨k, hk, rfl⟩ := of_range (n := 4) hc.1 (by omega)
  obtain ⟨v, -, -, -, hsh, -⟩ := id hI
  have hkk := hsh k hk
  refine sp_isNothing hk ?_
  rcases hkk with ⟨g1, g2⟩ | ⟨d, n, hd, hn, g1, g2, g3, g4, g5⟩
  · rw [if_pos g1]
    refine ⟨fun q => absurd q (by decide), fun _ => pi_ok ?_⟩
    refine C_X12_lay _ _ _ τ (sp_in ?_)
    rw [t0, e3, i64]
    exact b_b (fun _ => ⟨k, rfl, hk, fun q => absurd g2 q, fun _ => pi_ok ⟨rfl, hI⟩⟩) (fun h => absurd hc h)
  · rw [if_neg (by rw [g1]; exact nI_m1 (by omega))]
    refine ⟨fun _ => sp_hasCell hk hn g3 ?_, fun q => absurd rfl q⟩
    have em : (nI n - 1).toInt64.toInt = (n : Int) - 1 := by
      rw [i64, kx_1, pk_sub_toInt (by omega) (by omega)]
      rfl
    -- what the reference does, from a state in which its own sheet is as it was
    have hm : ∀ (z : Int32) (τ1 : hz_T), τ1.1.1 46 k = nI d → τ1.1.1 47 k = nI n → (¬ (0 ≤ x1.toInt ∧ x1.toInt < n) → z = -12 ∧ Inv τ1) → (∀ i, i < n → x1 = nI i → z = 1 ∧ Inv (zI τ1 48 (64 * k + i) (nrw d x2))) → zCall G MX12_lay [.ref 29, .int (nI k), .int x1, .int x2] τ1 (zpi (fun b τ2 => z = b ∧ Inv τ2)) := by
      intro z τ1 f1 f2 hno hyes
      refine C_X12_lay _ _ _ τ1 (sp_in ?_)
      rw [t0, e3, i64]
      refine b_b (fun _ => ⟨k, rfl, hk, fun _ => ⟨k, rfl, hk, ?_⟩, fun q => absurd (f1 ▸ q) (nI_m4 (by omega))⟩) (fun h => absurd hc h)
      rw [f2]
      refine sp_in ?_
      rw [t0, i64, em]
      have hiff : (0 ≤ x1.toInt ∧ x1.toInt ≤ (n : Int) - 1) ↔ (0 ≤ x1.toInt ∧ x1.toInt < n) := by omega
      refine b_b (fun h => ⟨k, rfl, hk, ?_⟩) (fun h => pi_ok (hno (fun q => h (hiff.mpr q))))
      obtain ⟨i, hi, rfl⟩ := of_range (hiff.mp h).1 (hiff.mp h).2
      have hy := hyes i hi rfl
      rw [f1]
      have c0 : nI d = 0 ↔ d = 0 := by rw [← nI_0, nI_eq (by omega) (by decide)]
      have c1 : nI d = 1 ↔ d = 1 := by rw [kx_1, nI_eq (by omega) (by decide)]
      refine ⟨fun q => ⟨k, rfl, hk, 64 * k + i, ix64', by omega, pi_ok ⟨hy.1, ?_⟩⟩, fun q => ⟨64 * k + i, ix64', by omega, pi_ok ⟨hy.1, ?_⟩⟩⟩
      · rw [f1, sx16]
        have h2 := hy.2
        unfold nrw at h2
        rw [if_neg (fun e => q (c0.mpr e))] at h2
        by_cases e : d = 1
        · rw [if_pos e] at h2; rw [if_pos (c1.mpr e)]; exact h2
        · rw [if_neg e] at h2; rw [if_neg (fun q => e (c1.mp q))]; exact h2
      · rw [sx8]
        have h2 := hy.2
        unfold nrw at h2
        rw [if_pos (c0.mp q)] at h2
        exact h2
    refine b_b (fun h => ?_) (fun h => pi_ok (hm _ τ g2 g4 (fun _ => ⟨rfl, hI⟩) (fun i hi e => ?_)))
    · obtain ⟨i, hi, rfl⟩ := of_range h.1 h.2
      refine C_X7_put _ _ _ τ (sp_hasCell hk hn g3 (b_b (fun _ => ⟨k, rfl, hk, ?_⟩) (fun q => absurd h q)))
      have fin : ∀ y, y = nrw d x2 → zpv (fun τ108 => zpi (fun a τ1 => zCall G MX12_lay [.ref 29, .int (nI k), .int (nI i), .int x2] τ1 (zpi (fun b τ2 => a = b ∧ Inv τ2))) (some (.int (1 : Int32))) τ108) none (zI τ 28 (64 * k + i) y) := by
        intro y hy
        refine pv_ok (pi_ok (hm 1 _ g2 g4 (fun q => absurd h q) (fun i' hi' e => ⟨rfl, ?_⟩)))
        have : i' = i := by
          rw [nI_eq (by omega) (by omega)] at e
          exact e.symm
        subst this
        subst hy
        refine inv_sheet hI ((Sm.rf.I (by decide)).I (by decide)) (fun k' hk' => ?_)
        have r28 : ∀ p, (zI (zI τ 28 (64 * k + i') (nrw d x2)) 48 (64 * k + i') (nrw d x2)).1.1 28 p = if p = 64 * k + i' then nrw d x2 else τ.1.1 28 p := by
          intro p
          rw [zI_row (by decide), zI_at]
          simp
        have r48 : ∀ p, (zI (zI τ 28 (64 * k + i') (nrw d x2)) 48 (64 * k + i') (nrw d x2)).1.1 48 p = if p = 64 * k + i' then nrw d x2 else τ.1.1 48 p := by
          intro p
          rw [zI_at, zI_row (by decide)]
          simp
        rcases hsh k' hk' with w | ⟨d', n', w1, w2, w3, w4, w5, w6, w7⟩
        · exact Or.inl w
        · refine Or.inr ⟨d', n', w1, w2, w3, w4, w5, w6, fun p hp => ?_⟩
          rw [r28, r48, w7 p hp]
      refine C_X7_narrowed _ _ τ ?_
      rw [g1]
      have c0 : nI d = 0 ↔ d = 0 := by rw [← nI_0, nI_eq (by omega) (by decide)]
      have c1 : nI d = 1 ↔ d = 1 := by rw [kx_1, nI_eq (by omega) (by decide)]
      refine ⟨fun q => pi_ok ⟨64 * k + i, ix64, by omega, fin _ ?_⟩, fun q => pi_ok ⟨64 * k + i, ix64, by omega, fin _ ?_⟩, fun q1 q2 => pi_ok ⟨64 * k + i, ix64, by omega, fin _ ?_⟩⟩
      · unfold nrw; rw [if_pos (c0.mp q)]
      · unfold nrw; rw [if_neg (by have := c1.mp q; omega), if_pos (c1.mp q)]
      · unfold nrw; rw [if_neg (fun e => q1 (c0.mpr e)), if_neg (fun e => q2 (c1.mpr e))]
    · exfalso
      apply h
      rw [e, nI_toInt (by omega)]
      omega

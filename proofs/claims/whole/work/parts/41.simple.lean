theorem pair_fault {G : hz_G} {τ : hz_T} (hI : Inv τ) : PI G MX11_fault MX12_fault [.ref 0] [.ref 29] τ := by
  refine C_X11_fault τ (C_X4_faultFound τ (pi_ok (pi_ok (C_X12_fault τ (pi_ok ⟨?_, hI⟩)))))
  obtain ⟨v, -, -, h, -⟩ := hI
  exact h
theorem t7 : (7 : Int64).toInt = 7 := by decide
theorem t0 : (0 : Int64).toInt = 0 := by decide
theorem t0' : (0 : Int32).toInt = 0 := by decide
theorem t7' : (7 : Int32).toInt = 7 := by decide
theorem pair_told {G : hz_G} {τ : hz_T} (hI : Inv τ) (x0 : Int32) : PI G MX11_told MX12_told [.ref 0, .int x0] [.ref 29, .int x0] τ := by
  obtain ⟨v, hl, hrest⟩ := id hI
  refine C_X11_told x0 τ (sp_within ?_)
  rw [t0', t7']
  refine b_a (fun hc => pi_ok ?_) (fun hc => ?_)
  · refine C_X12_told x0 τ (sp_in ?_)
    rw [t0, t7, i64]
    refine b_a (fun _ => pi_ok ⟨rfl, hI⟩) (fun h => absurd h hc)
  · obtain ⟨j, hj, rfl⟩ := of_range (n := 8) hc.1 (by omega)
    refine C_X1_value (nI j) τ ⟨fun q => absurd q (nI_pos (by omega)), fun _ => ⟨fun q => absurd q (nI_ge hj (by decide)), fun _ => ⟨j, rfl, hj, pi_ok (pi_ok ?_)⟩⟩⟩
    refine C_X12_told (nI j) τ (sp_in ?_)
    rw [t0, t7, i64]
    refine b_a (fun h => absurd hc h) (fun _ => ⟨j, rfl, hj, pi_ok ⟨?_, hI⟩⟩)
    rw [(hl.2 j hj).1, (hl.2 j hj).2]
theorem pair_rule {G : hz_G} {τ : hz_T} (hI : Inv τ) (x0 : Int32) (x1 : Int32) : PI G MX11_rule MX12_rule [.ref 0, .int x0, .int x1] [.ref 29, .int x0, .int x1] τ := by
  have e1 : (1 : Int32).toInt = 1 := by decide
  have e2 : (10 : Int32).toInt = 10 := by decide
  have e3 : (1 : Int64).toInt = 1 := by decide
  have e4 : (10 : Int64).toInt = 10 := by decide
  refine C_X11_rule x0 x1 τ (sp_within ?_)
  rw [e1, e2]
  refine b_a (fun hc => pi_ok ?_) (fun hc => sp_within ?_)
  · refine C_X12_rule x0 x1 τ (sp_in ?_)
    rw [e3, e4, i64]
    exact b_a (fun _ => pi_ok ⟨rfl, hI⟩) (fun h => absurd h hc)
  rw [e1, e2]
  have hm : ∀ z : Int32, (1 ≤ x1.toInt ∧ x1.toInt ≤ 10 → z = (if x0 < (5 : Int32) then (if x1 ≤ x0 then (if x0 ≤ x1 then (3 : Int32) else (1 : Int32)) else (0 : Int32)) else (if x1 < (5 : Int32) then (if x1 ≤ x0 then (if x0 ≤ x1 then (3 : Int32) else (1 : Int32)) else (0 : Int32)) else (2 : Int32)))) → (¬ (1 ≤ x1.toInt ∧ x1.toInt ≤ 10) → z = -1) → zCall G MX12_rule [.ref 29, .int x0, .int x1] τ (zpi (fun b τ2 => z = b ∧ Inv τ2)) := by
    intro z h1 h2
    refine C_X12_rule x0 x1 τ (sp_in ?_)
    rw [e3, e4, i64]
    refine b_a (fun h => absurd hc h) (fun _ => sp_in ?_)
    rw [e3, e4, i64]
    exact b_b (fun h => pi_ok ⟨h1 h, hI⟩) (fun h => pi_ok ⟨h2 h, hI⟩)
  have le : x1 ≤ x0 ↔ x1.toInt ≤ x0.toInt := Int32.le_iff_toInt_le
  have le' : x0 ≤ x1 ↔ x0.toInt ≤ x1.toInt := Int32.le_iff_toInt_le
  have eq : x0 = x1 ↔ x0.toInt = x1.toInt := Int32.toInt_inj.symm
  refine b_b (fun h => ⟨fun h5 => ⟨fun hn => pi_ok (hm _ (fun _ => ?_) (fun q => absurd h q)), fun hn => pi_ok (hm _ (fun _ => ?_) (fun q => absurd h q))⟩, fun h5 => ⟨fun h6 => ⟨fun hn => pi_ok (hm _ (fun _ => ?_) (fun q => absurd h q)), fun hn => pi_ok (hm _ (fun _ => ?_) (fun q => absurd h q))⟩, fun h6 => pi_ok (hm _ (fun _ => ?_) (fun q => absurd h q))⟩⟩) (fun h => pi_ok (hm _ (fun q => absurd q h) (fun _ => rfl)))
  · rw [if_pos h5]
    rw [eq] at hn
    by_cases h7 : x1 ≤ x0
    · rw [if_pos h7, if_pos h7, if_neg (fun q => hn (by rw [le] at h7; rw [le'] at q; omega))]
    · rw [if_neg h7, if_neg h7]
  · rw [if_pos h5]
    subst hn
    rw [if_pos (le.mpr (Int.le_refl _)), if_pos (le'.mpr (Int.le_refl _))]
  · rw [if_neg h5, if_pos h6]
    rw [eq] at hn
    by_cases h7 : x1 ≤ x0
    · rw [if_pos h7, if_pos h7, if_neg (fun q => hn (by rw [le] at h7; rw [le'] at q; omega))]
    · rw [if_neg h7, if_neg h7]
  · rw [if_neg h5, if_pos h6]
    subst hn
    rw [if_pos (le.mpr (Int.le_refl _)), if_pos (le'.mpr (Int.le_refl _))]
  · rw [if_neg h5, if_neg h6]
/-! the tape -/
theorem I_tape.len {τ : hz_T} (h : I_tape τ) : ∃ m : Nat, m ≤ 120 ∧ τ.1.1 1 1 = nI m ∧ τ.1.1 29 3 = nI m := by
  obtain ⟨m, h1, h2, h3, -⟩ := h
  exact ⟨m, h1, h2, h3⟩
/-- the tapes have changed as told, all else is as it was -/
theorem inv_tape {τ τ' : hz_T} (hI : Inv τ) (hs : Sm [1, 2, 29, 32] τ τ') (hF : τ'.1.1 29 4 = τ.1.1 29 4) (hT : I_tape τ') : Inv τ' := by
  obtain ⟨v, a1, a2, a3, a4, a5, a6, a7, a8⟩ := hI
  have f : ∀ q, q ∉ [1, 2, 29, 32] → τ'.1.1 q = τ.1.1 q := fun q hq => (hs q hq).1
  have g : ∀ q, q ∉ [1, 2, 29, 32] → τ'.1.2 q = τ.1.2 q := fun q hq => (hs q hq).2
  refine ⟨v, a1.fr (f 4 (by decide)) (f 30 (by decide)), hT, ?_, fun k hk => (a4 k hk).fr (f 26 (by decide)) (f 27 (by decide)) (f 28 (by decide)) (f 46 (by decide)) (f 47 (by decide)) (f 48 (by decide)), a5.fr (f 33 (by decide)) (f 34 (by decide)), a6.fr (f 7 (by decide)) (g 8 (by decide)) (g 9 (by decide)), ?_, a8.fr (f 16 (by decide)) (g 17 (by decide))⟩
  · unfold I_fault at a3 ⊢
    rw [f 5 (by decide), hF]
    exact a3
  · exact a7.fr (by rw [f 10 (by decide)]) (by rw [g 10 (by decide)]) (by rw [g 10 (by decide)]) (f 11 (by decide)) (g 12 (by decide)) (g 13 (by decide))
theorem pair_end {G : hz_G} {τ : hz_T} (hI : Inv τ) (x0 : Int32) : PI G MX11_end MX12_end [.ref 0, .int x0] [.ref 29, .int x0] τ := by
  obtain ⟨v, a1, a2, -⟩ := id hI
  obtain ⟨m, hm, h1, h2, hb⟩ := a2
  refine C_X11_end x0 τ (C_X8_length τ (pi_ok ?_))
  have key : ∀ z τ1, (0 ≤ x0.toInt ∧ x0.toInt ≤ m → z = nI m ∧ τ1 = zI τ 1 1 x0) → (¬ (0 ≤ x0.toInt ∧ x0.toInt ≤ m) → z = -1 ∧ τ1 = τ) → zCall G MX12_end [.ref 29, .int x0] τ1 (zpi (fun b τ2 => z = b ∧ Inv τ2)) := by
    intro z τ1 hy hn
    have hlen : τ1.1.1 29 3 = nI m := by
      by_cases h : 0 ≤ x0.toInt ∧ x0.toInt ≤ m
      · rw [(hy h).2]; exact h2
      · rw [(hn h).2]; exact h2
    refine C_X12_end x0 τ1 ?_
    rw [hlen]
    refine sp_in ?_
    rw [t0, i64, i64, nI_toInt (by omega)]
    refine b_b (fun h => pi_ok ?_) (fun h => pi_ok ⟨(hn h).1, by rw [(hn h).2]; exact hI⟩)
    obtain ⟨hz, hτ⟩ := hy h
    subst hτ
    obtain ⟨j, hj, rfl⟩ := of_range (n := m + 1) h.1 (by omega)
    refine ⟨by rw [hz, hlen], inv_tape hI ?_ rfl ⟨j, by omega, rfl, rfl, fun i hi => hb i (by omega)⟩⟩
    exact (Sm.rf.I (by decide)).I (by decide)
  refine C_X8_cut x0 τ ⟨fun hc => ?_, fun hc => ⟨fun hd => ?_, fun hd => ?_⟩⟩
  · rw [Int32.lt_iff_toInt_lt, t0'] at hc
    exact pi_ok (pi_ok (key _ _ (fun h => by omega) (fun _ => ⟨rfl, rfl⟩)))
  · rw [Int32.lt_iff_toInt_lt, t0'] at hc
    rw [h1, Int32.le_iff_toInt_le, nI_toInt (by omega)] at hd
    exact pi_ok (pi_ok (key _ _ (fun h => ⟨by rw [h1]; rfl, rfl⟩) (fun h => by omega)))
  · rw [Int32.lt_iff_toInt_lt, t0'] at hc
    rw [h1, Int32.le_iff_toInt_le, nI_toInt (by omega)] at hd
    exact pi_ok (pi_ok (key _ _ (fun h => by omega) (fun _ => ⟨rfl, rfl⟩)))

/-! feed: eight bytes -/
def fby (x : Int64) (k : Nat) : Int32 := (x >>> ((nI k).toInt64 &&& 63)).toInt32
theorem fsh : ∀ i, i < 8 → (56 : Int32) - (8 : Int32) * nI i = nI (56 - 8 * i) := by decide +kernel
theorem fdn : ∀ i, i < 8 → nI (56 - 8 * i) + (-8 : Int32) = (if i = 7 then (-8 : Int32) else nI (56 - 8 * (i + 1))) := by decide +kernel
theorem nI_8 (m : Nat) : nI m + (8 : Int32) = nI (m + 8) := by rw [kx_8, nI_add]
theorem nI_120 {m : Nat} (h : m ≤ 1000) : nI m ≤ (120 : Int32) ↔ m ≤ 120 := by rw [kx_120, nI_leI (by omega) (by decide)]
theorem pair_feed {G : hz_G} {τ : hz_T} (hI : Inv τ) (x0 : Int64) : PI G MX11_feed MX12_feed [.ref 0, .long x0] [.ref 29, .long x0] τ := by
  obtain ⟨v, a1, a2, -⟩ := id hI
  obtain ⟨m, hm, h1, h2, hb⟩ := a2
  -- the reference, from a state in which only the class's tape has changed
  have model : ∀ (z : Int32) (τ1 : hz_T), τ1.1.1 29 3 = nI m → (¬ m + 8 ≤ 120 → z = -3 ∧ Inv τ1) → (m + 8 ≤ 120 → z = nI (m + 8) ∧ ∀ τ2, Sm [29, 32] τ1 τ2 → τ2.1.1 29 3 = nI (m + 8) → τ2.1.1 29 4 = τ1.1.1 29 4 → (∀ j, j < m → τ2.1.1 32 j = τ1.1.1 32 j) → (∀ i, i < 8 → τ2.1.1 32 (m + i) = fby x0 (56 - 8 * i) &&& 255) → Inv τ2) → zCall G MX12_feed [.ref 29, .long x0] τ1 (zpi (fun b τ2 => z = b ∧ Inv τ2)) := by
    intro z τ1 hl hno hyes
    refine C_X12_feed _ τ1 ?_
    rw [hl, nI_8]
    refine ⟨fun q => ?_, fun q => pi_ok (hno (fun e => q ((nI_120 (by omega)).mpr e)))⟩
    have hle := (nI_120 (by omega)).mp q
    obtain ⟨hz, hend⟩ := hyes hle
    refine lp (α := Unit) (fun i _ τ' => zRun G MX12_feed 18 [(0, .ref 29), (1, .long x0), (3, .int (if i = 8 then (-8 : Int32) else nI (56 - 8 * i)))] [] τ' (zpi (fun b τ2 => z = b ∧ Inv τ2))) (fun i _ τ' => Sm [29, 32] τ1 τ' ∧ τ'.1.1 29 3 = nI (m + i) ∧ τ'.1.1 29 4 = τ1.1.1 29 4 ∧ (∀ j, j < m → τ'.1.1 32 j = τ1.1.1 32 j) ∧ ∀ k, k < i → τ'.1.1 32 (m + k) = fby x0 (56 - 8 * k) &&& 255) 8 ?_ ?_ 0 () _ (Nat.zero_le _) ⟨Sm.rf, hl, rfl, fun j hj => rfl, fun k hk => by omega⟩
    · intro _ τ' h
      refine V_X12_feed_18 _ _ τ' ⟨fun _ => pi_ok ⟨by rw [h.2.1]; exact hz, hend τ' h.1 h.2.1 h.2.2.1 h.2.2.2.1 h.2.2.2.2⟩, fun q => absurd (by decide) q⟩
    · intro i _ τ' hi h ih
      refine V_X12_feed_18 _ _ τ' ?_
      rw [if_neg (by omega)]
      refine ⟨fun q => absurd q (nI_pos (by omega)), fun _ => ⟨m + i, h.2.1, by omega, ?_⟩⟩
      rw [fdn i hi]
      have hn := ih () (zI (zI τ' 32 (m + i) (fby x0 (56 - 8 * i) &&& 255)) 29 3 (τ'.1.1 29 3 + 1)) ⟨(h.1.I (by decide)).I (by decide), by rw [zI_at, if_pos ⟨rfl, rfl⟩, h.2.1, i1]; rfl, by rw [zI_at, if_neg (by decide)]; exact h.2.2.1, fun j hj => by rw [zI_row (by decide), zI_at, if_neg (by omega)]; exact h.2.2.2.1 j hj, fun k hk => by
        rw [zI_row (by decide), zI_at]
        by_cases e : k = i
        · rw [if_pos ⟨rfl, by omega⟩, e]
        · rw [if_neg (by omega)]; exact h.2.2.2.2 k (by omega)⟩
      have e8 : (if i + 1 = 8 then (-8 : Int32) else nI (56 - 8 * (i + 1))) = (if i = 7 then (-8 : Int32) else nI (56 - 8 * (i + 1))) := by
        by_cases e : i = 7
        · rw [if_pos e, if_pos (by omega)]
        · rw [if_neg e, if_neg (by omega)]
      rw [e8] at hn
      exact hn
  refine C_X11_feed x0 τ (C_X8_append x0 τ ?_)
  rw [h1, nI_8]
  have e120 : nI (m + 8) ≤ nI 120 ↔ m + 8 ≤ 120 := nI_leI (by omega) (by decide)
  refine ⟨fun q => ?_, fun q => pi_ok ⟨fun _ => pi_ok ?_, fun q2 => absurd rfl q2⟩⟩
  · have hle := e120.mp q
    refine lp (α := Unit) (fun i _ τ' => zRun G MX8_append 19 [(0, .ref 1), (1, .long x0), (3, .int (nI i))] [] τ' (zpi (fun x101 τ102 => ((x101 = 0 → zpi (fun a τ1 => zCall G MX12_feed [.ref 29, .long x0] τ1 (zpi (fun b τ2 => a = b ∧ Inv τ2))) (some (.int (-3 : Int32))) τ102) ∧ (¬ x101 = 0 → zCall G MX8_length [.ref 1] τ102 (zpi (fun x105 τ106 => zpi (fun a τ1 => zCall G MX12_feed [.ref 29, .long x0] τ1 (zpi (fun b τ2 => a = b ∧ Inv τ2))) (some (.int x105)) τ106))))))) (fun i _ τ' => Sm [2] τ τ' ∧ (∀ j, j < m → τ'.1.1 2 j = τ.1.1 2 j) ∧ ∀ k, k < i → τ'.1.1 2 (m + k) &&& 255 = fby x0 (56 - 8 * k) &&& 255) 8 ?_ ?_ 0 () _ (Nat.zero_le _) ⟨Sm.rf, fun j hj => rfl, fun k hk => by omega⟩
    · intro _ τ' h
      have hl1 : τ'.1.1 1 1 = nI m := by rw [(h.1 1 (by decide)).1]; exact h1
      refine V_X8_append_19 _ _ τ' ⟨fun _ => pi_ok ⟨fun q => absurd q (by decide), fun _ => C_X8_length _ (pi_ok (pi_ok ?_))⟩, fun q => absurd (show nI 8 ≤ nI 8 from nI_le (Nat.le_refl _) (by decide)) q⟩
      rw [hl1, nI_8]
      have e1 : (zI τ' 1 1 (nI (m + 8))).1.1 1 1 = nI (m + 8) := rfl
      rw [e1]
      refine model _ _ ?_ (fun q => absurd hle q) (fun _ => ⟨rfl, fun τ2 s1 s2 s3 s4 s5 => ?_⟩)
      · rw [zI_row (by decide), (h.1 29 (by decide)).1]
        exact h2
      · refine inv_tape hI (((h.1.wk (by decide)).I (by decide)).tr (s1.wk (by decide))) ?_ ⟨m + 8, hle, ?_, s2, fun j hj => ?_⟩
        · rw [s3, zI_row (by decide), (h.1 29 (by decide)).1]
        · rw [(s1 1 (by decide)).1]
          rfl
        · rw [(s1 2 (by decide)).1, zI_row (by decide)]
          by_cases hj2 : j < m
          · obtain ⟨b, hb1, hb2, hb3⟩ := hb j hj2
            refine ⟨b, hb1, by rw [h.2.1 j hj2]; exact hb2, ?_⟩
            rw [s4 j hj2, zI_row (by decide), (h.1 32 (by decide)).1]
            exact hb3
          · obtain ⟨i, hi, e⟩ : ∃ i, i < 8 ∧ j = m + i := ⟨j - m, by omega, by omega⟩
            rw [e, h.2.2 i hi, s5 i hi]
            obtain ⟨b, hb1, hb2⟩ := pk_andE (fby x0 (56 - 8 * i)) (m := 255) 8 (by decide)
            exact ⟨b, hb1, hb2, hb2⟩
    · intro i _ τ' hi h ih
      have hl1 : τ'.1.1 1 1 = nI m := by rw [(h.1 1 (by decide)).1]; exact h1
      refine V_X8_append_19 _ _ τ' ⟨fun q => absurd (show nI 8 ≤ nI i from q) (nI_ge hi (by decide)), fun _ => ⟨m + i, by rw [hl1, nI_add], by omega, ?_⟩⟩
      rw [i1, fsh i hi]
      refine ih () _ ⟨h.1.I (by decide), fun j hj => by rw [zI_at, if_neg (by omega)]; exact h.2.1 j hj, fun k hk => ?_⟩
      rw [zI_at]
      by_cases e : k = i
      · rw [if_pos ⟨rfl, by omega⟩, e, bp_b, bp_b]
        rfl
      · rw [if_neg (by omega)]
        exact h.2.2 k (by omega)
  · exact model _ _ h2 (fun _ => ⟨rfl, hI⟩) (fun e => absurd (e120.mpr e) q)

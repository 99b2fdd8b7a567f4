def ntzf (x0 : Int32) : Int32 := ((fun (v101 : Int32) => (if 0 < v101 then (if v101 ≤ (65536 : Int32) then (if v101 ≤ (256 : Int32) then (if v101 ≤ (16 : Int32) then (if v101 ≤ (4 : Int32) then ((1 : Int32) + (v101.toUInt32 >>> ((1 : Int32).toUInt32 &&& Int32.toUInt32 31)).toInt32) else ((fun (v103 : Int32) => (((1 : Int32) + (2 : Int32)) + (v103.toUInt32 >>> ((1 : Int32).toUInt32 &&& Int32.toUInt32 31)).toInt32)) ((v101.toUInt32 >>> ((2 : Int32).toUInt32 &&& Int32.toUInt32 31)).toInt32))) else ((fun (v106 : Int32) => (if v106 ≤ (4 : Int32) then (((1 : Int32) + (4 : Int32)) + (v106.toUInt32 >>> ((1 : Int32).toUInt32 &&& Int32.toUInt32 31)).toInt32) else ((fun (v108 : Int32) => ((((1 : Int32) + (4 : Int32)) + (2 : Int32)) + (v108.toUInt32 >>> ((1 : Int32).toUInt32 &&& Int32.toUInt32 31)).toInt32)) ((v106.toUInt32 >>> ((2 : Int32).toUInt32 &&& Int32.toUInt32 31)).toInt32)))) ((v101.toUInt32 >>> ((4 : Int32).toUInt32 &&& Int32.toUInt32 31)).toInt32))) else ((fun (v112 : Int32) => (if v112 ≤ (16 : Int32) then (if v112 ≤ (4 : Int32) then (((1 : Int32) + (8 : Int32)) + (v112.toUInt32 >>> ((1 : Int32).toUInt32 &&& Int32.toUInt32 31)).toInt32) else ((fun (v114 : Int32) => ((((1 : Int32) + (8 : Int32)) + (2 : Int32)) + (v114.toUInt32 >>> ((1 : Int32).toUInt32 &&& Int32.toUInt32 31)).toInt32)) ((v112.toUInt32 >>> ((2 : Int32).toUInt32 &&& Int32.toUInt32 31)).toInt32))) else ((fun (v117 : Int32) => (if v117 ≤ (4 : Int32) then ((((1 : Int32) + (8 : Int32)) + (4 : Int32)) + (v117.toUInt32 >>> ((1 : Int32).toUInt32 &&& Int32.toUInt32 31)).toInt32) else ((fun (v119 : Int32) => (((((1 : Int32) + (8 : Int32)) + (4 : Int32)) + (2 : Int32)) + (v119.toUInt32 >>> ((1 : Int32).toUInt32 &&& Int32.toUInt32 31)).toInt32)) ((v117.toUInt32 >>> ((2 : Int32).toUInt32 &&& Int32.toUInt32 31)).toInt32)))) ((v112.toUInt32 >>> ((4 : Int32).toUInt32 &&& Int32.toUInt32 31)).toInt32)))) ((v101.toUInt32 >>> ((8 : Int32).toUInt32 &&& Int32.toUInt32 31)).toInt32))) else ((fun (v124 : Int32) => (if v124 ≤ (256 : Int32) then (if v124 ≤ (16 : Int32) then (if v124 ≤ (4 : Int32) then (((1 : Int32) + (16 : Int32)) + (v124.toUInt32 >>> ((1 : Int32).toUInt32 &&& Int32.toUInt32 31)).toInt32) else ((fun (v126 : Int32) => ((((1 : Int32) + (16 : Int32)) + (2 : Int32)) + (v126.toUInt32 >>> ((1 : Int32).toUInt32 &&& Int32.toUInt32 31)).toInt32)) ((v124.toUInt32 >>> ((2 : Int32).toUInt32 &&& Int32.toUInt32 31)).toInt32))) else ((fun (v129 : Int32) => (if v129 ≤ (4 : Int32) then ((((1 : Int32) + (16 : Int32)) + (4 : Int32)) + (v129.toUInt32 >>> ((1 : Int32).toUInt32 &&& Int32.toUInt32 31)).toInt32) else ((fun (v131 : Int32) => (((((1 : Int32) + (16 : Int32)) + (4 : Int32)) + (2 : Int32)) + (v131.toUInt32 >>> ((1 : Int32).toUInt32 &&& Int32.toUInt32 31)).toInt32)) ((v129.toUInt32 >>> ((2 : Int32).toUInt32 &&& Int32.toUInt32 31)).toInt32)))) ((v124.toUInt32 >>> ((4 : Int32).toUInt32 &&& Int32.toUInt32 31)).toInt32))) else ((fun (v135 : Int32) => (if v135 ≤ (16 : Int32) then (if v135 ≤ (4 : Int32) then ((((1 : Int32) + (16 : Int32)) + (8 : Int32)) + (v135.toUInt32 >>> ((1 : Int32).toUInt32 &&& Int32.toUInt32 31)).toInt32) else ((fun (v137 : Int32) => (((((1 : Int32) + (16 : Int32)) + (8 : Int32)) + (2 : Int32)) + (v137.toUInt32 >>> ((1 : Int32).toUInt32 &&& Int32.toUInt32 31)).toInt32)) ((v135.toUInt32 >>> ((2 : Int32).toUInt32 &&& Int32.toUInt32 31)).toInt32))) else ((fun (v140 : Int32) => (if v140 ≤ (4 : Int32) then (((((1 : Int32) + (16 : Int32)) + (8 : Int32)) + (4 : Int32)) + (v140.toUInt32 >>> ((1 : Int32).toUInt32 &&& Int32.toUInt32 31)).toInt32) else ((fun (v142 : Int32) => ((((((1 : Int32) + (16 : Int32)) + (8 : Int32)) + (4 : Int32)) + (2 : Int32)) + (v142.toUInt32 >>> ((1 : Int32).toUInt32 &&& Int32.toUInt32 31)).toInt32)) ((v140.toUInt32 >>> ((2 : Int32).toUInt32 &&& Int32.toUInt32 31)).toInt32)))) ((v135.toUInt32 >>> ((4 : Int32).toUInt32 &&& Int32.toUInt32 31)).toInt32)))) ((v124.toUInt32 >>> ((8 : Int32).toUInt32 &&& Int32.toUInt32 31)).toInt32)))) ((v101.toUInt32 >>> ((16 : Int32).toUInt32 &&& Int32.toUInt32 31)).toInt32))) else (v101 &&& (32 : Int32)))) ((x0 ^^^ (-1 : Int32)) &&& (x0 - (1 : Int32))))
theorem sp_ntz {G : hz_G} {τ : hz_T} {φ : Int32 → hz_T → Prop} {x0 : Int32} (H : φ (ntzf x0) τ) : zCall G MJ6_numberOfTrailingZeros_0f7a4 [.int x0] τ (zpi φ) := by
  unfold ntzf at H
  refine C_J6_numberOfTrailingZeros_0f7a4 x0 τ ?_
  intro v101 e102
  rw [← e102] at H
  try dsimp only at H
  refine ⟨fun q148 => ?_, fun q148 => ?_⟩
  · rw [if_pos q148] at H
    refine ⟨fun q147 => ?_, fun q147 => ?_⟩
    · rw [if_pos q147] at H
      refine ⟨fun q123 => ?_, fun q123 => ?_⟩
      · rw [if_pos q123] at H
        refine ⟨fun q111 => ?_, fun q111 => ?_⟩
        · rw [if_pos q111] at H
          refine ⟨fun q105 => ?_, fun q105 => ?_⟩
          · rw [if_pos q105] at H
            exact pi_ok H
          · rw [if_neg q105] at H
            intro v103 e104
            rw [← e104] at H
            try dsimp only at H
            exact pi_ok H
        · rw [if_neg q111] at H
          intro v106 e107
          rw [← e107] at H
          try dsimp only at H
          refine ⟨fun q110 => ?_, fun q110 => ?_⟩
          · rw [if_pos q110] at H
            exact pi_ok H
          · rw [if_neg q110] at H
            intro v108 e109
            rw [← e109] at H
            try dsimp only at H
            exact pi_ok H
      · rw [if_neg q123] at H
        intro v112 e113
        rw [← e113] at H
        try dsimp only at H
        refine ⟨fun q122 => ?_, fun q122 => ?_⟩
        · rw [if_pos q122] at H
          refine ⟨fun q116 => ?_, fun q116 => ?_⟩
          · rw [if_pos q116] at H
            exact pi_ok H
          · rw [if_neg q116] at H
            intro v114 e115
            rw [← e115] at H
            try dsimp only at H
            exact pi_ok H
        · rw [if_neg q122] at H
          intro v117 e118
          rw [← e118] at H
          try dsimp only at H
          refine ⟨fun q121 => ?_, fun q121 => ?_⟩
          · rw [if_pos q121] at H
            exact pi_ok H
          · rw [if_neg q121] at H
            intro v119 e120
            rw [← e120] at H
            try dsimp only at H
            exact pi_ok H
    · rw [if_neg q147] at H
      intro v124 e125
      rw [← e125] at H
      try dsimp only at H
      refine ⟨fun q146 => ?_, fun q146 => ?_⟩
      · rw [if_pos q146] at H
        refine ⟨fun q134 => ?_, fun q134 => ?_⟩
        · rw [if_pos q134] at H
          refine ⟨fun q128 => ?_, fun q128 => ?_⟩
          · rw [if_pos q128] at H
            exact pi_ok H
          · rw [if_neg q128] at H
            intro v126 e127
            rw [← e127] at H
            try dsimp only at H
            exact pi_ok H
        · rw [if_neg q134] at H
          intro v129 e130
          rw [← e130] at H
          try dsimp only at H
          refine ⟨fun q133 => ?_, fun q133 => ?_⟩
          · rw [if_pos q133] at H
            exact pi_ok H
          · rw [if_neg q133] at H
            intro v131 e132
            rw [← e132] at H
            try dsimp only at H
            exact pi_ok H
      · rw [if_neg q146] at H
        intro v135 e136
        rw [← e136] at H
        try dsimp only at H
        refine ⟨fun q145 => ?_, fun q145 => ?_⟩
        · rw [if_pos q145] at H
          refine ⟨fun q139 => ?_, fun q139 => ?_⟩
          · rw [if_pos q139] at H
            exact pi_ok H
          · rw [if_neg q139] at H
            intro v137 e138
            rw [← e138] at H
            try dsimp only at H
            exact pi_ok H
        · rw [if_neg q145] at H
          intro v140 e141
          rw [← e141] at H
          try dsimp only at H
          refine ⟨fun q144 => ?_, fun q144 => ?_⟩
          · rw [if_pos q144] at H
            exact pi_ok H
          · rw [if_neg q144] at H
            intro v142 e143
            rw [← e143] at H
            try dsimp only at H
            exact pi_ok H
  · rw [if_neg q148] at H
    exact pi_ok H
theorem ntz_small2 : ∀ a, a < 64 → ∀ b, b < 64 → ¬ 64 * a + b = 0 → ntzf (nI (64 * a + b)) = nI (((List.range 12).find? (fun i => (64 * a + b).testBit i)).getD 0) := by decide +kernel
/-! words -/
def HW (v : Nat → Nat) : Prop := v 1 = 1 ∧ v 2 = 1 ∧ v 3 = 0 ∧ v 5 = 0 ∧ v 7 = 0 ∧ 0 < v 4 ∧ 0 < v 6
theorem nI_z {a : Nat} (h : a ≤ 9) : nI a = 0 ↔ a = 0 := by rw [← nI_0, nI_eq (by omega) (by decide)]
theorem nI_o {a : Nat} (h : a ≤ 9) : nI a = 1 ↔ a = 1 := by rw [kx_1, nI_eq (by omega) (by decide)]
theorem nI_lz {a : Nat} (h : a ≤ 9) : nI a ≤ 0 ↔ a = 0 := by rw [← nI_0, nI_leI (by omega) (by decide)]; omega
theorem hw_eq {v : Nat → Nat} (hv : LaneOK v) [hd : Decidable (HW v)] : (if (if v 1 = 1 then (1 : Int32) else 0) = 0 then (0 : Int32) else (if nI (v 2) = (1 : Int32) then (if nI (v 3) = 0 then (if nI (v 5) = 0 then (if nI (v 7) = 0 then (if nI (v 4) ≤ 0 then (0 : Int32) else (if nI (v 6) ≤ 0 then (0 : Int32) else (1 : Int32))) else (0 : Int32)) else (0 : Int32)) else (0 : Int32)) else (0 : Int32))) = (if HW v then 1 else 0) := by
  have z3 := nI_z (hv.v (j := 3) (by decide))
  have z5 := nI_z (hv.v (j := 5) (by decide))
  have z7 := nI_z (hv.v (j := 7) (by decide))
  have o2 := nI_o (hv.v (j := 2) (by decide))
  have l4 := nI_lz (hv.v (j := 4) (by decide))
  have l6 := nI_lz (hv.v (j := 6) (by decide))
  by_cases h1 : v 1 = 1
  · rw [if_pos h1, if_neg (by decide)]
    by_cases h2 : v 2 = 1
    · rw [if_pos (o2.mpr h2)]
      by_cases h3 : v 3 = 0
      · rw [if_pos (z3.mpr h3)]
        by_cases h5 : v 5 = 0
        · rw [if_pos (z5.mpr h5)]
          by_cases h7 : v 7 = 0
          · rw [if_pos (z7.mpr h7)]
            by_cases h4 : v 4 = 0
            · rw [if_pos (l4.mpr h4), if_neg (fun h => by have := h.2.2.2.2.2.1; omega)]
            · rw [if_neg (fun q => h4 (l4.mp q))]
              by_cases h6 : v 6 = 0
              · rw [if_pos (l6.mpr h6), if_neg (fun h => by have := h.2.2.2.2.2.2; omega)]
              · rw [if_neg (fun q => h6 (l6.mp q)), if_pos ⟨h1, h2, h3, h5, h7, by omega, by omega⟩]
          · rw [if_neg (fun q => h7 (z7.mp q)), if_neg (fun h => h7 h.2.2.2.2.1)]
        · rw [if_neg (fun q => h5 (z5.mp q)), if_neg (fun h => h5 h.2.2.2.1)]
      · rw [if_neg (fun q => h3 (z3.mp q)), if_neg (fun h => h3 h.2.2.1)]
    · rw [if_neg (fun q => h2 (o2.mp q)), if_neg (fun h => h2 h.2.1)]
  · rw [if_neg h1, if_pos rfl, if_neg (fun h => h1 h.1)]
section WO
variable {G : hz_G} {τ : hz_T} {v : Nat → Nat} {φ : Int32 → hz_T → Prop} {ψ : Int64 → hz_T → Prop}
theorem sp_chasWords (hL : LC v τ) [hd : Decidable (HW v)] (H : φ (if HW v then 1 else 0) τ) : zCall G MX1_hasWords [.ref 3] τ (zpi φ) := by
  refine C_X1_hasWords τ (sp_copen hL (pi_ok ?_))
  rw [hL.2 2 (by decide), hL.2 3 (by decide), hL.2 4 (by decide), hL.2 5 (by decide), hL.2 6 (by decide), hL.2 7 (by decide), hw_eq hL.1]
  exact H
theorem sp_mhaveWords (hL : LM v τ) [hd : Decidable (HW v)] (H : φ (if HW v then 1 else 0) τ) : zCall G MX12_haveWords [.ref 29] τ (zpi φ) := by
  refine C_X12_haveWords τ (sp_mopen hL (pi_ok ?_))
  rw [hL.2 2 (by decide), hL.2 3 (by decide), hL.2 4 (by decide), hL.2 5 (by decide), hL.2 6 (by decide), hL.2 7 (by decide), hw_eq hL.1]
  exact H
theorem sp_cvalue (hL : LC v τ) {j : Nat} (hj : j < 8) (H : φ (nI (v j)) τ) : zCall G MX1_value [.ref 3, .int (nI j)] τ (zpi φ) := by
  refine C_X1_value (nI j) τ ⟨fun q => absurd q (nI_pos (by omega)), fun _ => ⟨fun q => absurd q (nI_ge hj (by decide)), fun _ => ⟨j, rfl, hj, pi_ok ?_⟩⟩⟩
  rw [hL.2 j hj]
  exact H
theorem sp_power {a : Int64} {e : Nat} (he : e ≤ 64) (H : ψ (ppow a e) τ) : zCall G MX10_power [.long a, .int (nI e)] τ (zpl ψ) := by
  refine C_X10_power _ _ τ ?_
  refine lp (α := Unit) (fun i _ τ' => zRun G MX10_power 5 [(0, .long a), (2, .int (nI e)), (3, .long (ppow a i)), (5, .int (nI i))] [] τ' (zpl ψ)) (fun i _ τ' => τ' = τ) e ?_ ?_ 0 () _ (Nat.zero_le _) rfl
  · intro _ τ' q
    rw [← q] at H
    exact V_X10_power_5 _ _ _ _ τ' ⟨fun _ => pl_ok H, fun q => absurd (nI_le (Nat.le_refl _) (by omega)) q⟩
  · intro i _ τ' hi q ih
    refine V_X10_power_5 _ _ _ _ τ' ⟨fun q => absurd q (nI_ge hi (by omega)), fun _ => ?_⟩
    rw [i1]
    exact ih () _ q
theorem tb_wo : ∀ s, s < 64 → ∀ i, i < 7 → (nI s &&& (((1 : Int32) <<< (nI i &&& 31)) - (1 : Int32))) ||| ((nI s >>> ((nI i + (1 : Int32)) &&& 31)) <<< (nI i &&& 31)) = nI (pwo s i) := by decide +kernel
theorem tb_wol : ∀ m, m < 6 → ∀ s, s < 2 ^ (m + 1) → ∀ i, i < m + 1 → pwo s i < 2 ^ m := by decide +kernel
theorem sp_cwithout {s i : Nat} (hs : s < 64) (hi : i < 7) (H : φ (nI (pwo s i)) τ) : zCall G MX10_without [.int (nI s), .int (nI i)] τ (zpi φ) := C_X10_without _ _ τ (pi_ok (by rw [tb_wo s hs i hi]; exact H))
theorem sp_mwithout {s i : Nat} (hs : s < 64) (hi : i < 7) (H : φ (nI (pwo s i)) τ) : zCall G MX12_without [.int (nI s), .int (nI i)] τ (zpi φ) := C_X12_without _ _ τ (pi_ok (by rw [tb_wo s hs i hi]; exact H))
theorem tb_ix : ∀ m, m < 7 → ∀ s, s < 2 ^ m → ((1 : Int32) <<< (nI m &&& 31)) ||| nI s = nI (2 ^ m + s) ∧ ((1 : Int32) <<< (nI m &&& 31)) + nI s = nI (2 ^ m + s) ∧ 2 ^ m + s < 128 := by decide +kernel
theorem sp_at {m s : Nat} (hm : m < 7) (hs : s < 2 ^ m) (H : ψ (τ.1.2 17 (2 ^ m + s)) τ) : zCall G MX10_at [.ref 16, .int (nI m), .int (nI s)] τ (zpl ψ) := by
  obtain ⟨t1, -, t3⟩ := tb_ix m hm s hs
  refine C_X10_at _ _ τ ?_
  rw [t1]
  exact ⟨fun q => absurd q (nI_pos (by omega)), fun _ => ⟨fun q => absurd q (nI_ge t3 (by decide)), fun _ => ⟨_, rfl, t3, pl_ok H⟩⟩⟩
def prw (m s : Nat) : Int32 := if nI m = 0 then (0 : Int32) else ((nI s &&& ((nI s >>> ((1 : Int32) &&& 31)) ^^^ (-1 : Int32))) &&& (((1 : Int32) <<< ((nI m - (1 : Int32)) &&& 31)) - (1 : Int32)))
def tbw (m s : Nat) : Bool := match pfst m s with
  | none => decide (prw m s = 0) && decide (ppop s ≤ m)
  | some i => decide (¬ prw m s = 0) && decide (ntzf (prw m s) = nI i) && decide (i + 1 < m) && decide (1 ≤ m)
theorem tb_words : ∀ m, m < 7 → ∀ s, s < 2 ^ m → tbw m s = true := by decide +kernel
/-- the worths of all lanes shorter than m stand in row q -/
def wrow (a b : Int64) (q m : Nat) (τ : hz_T) : Prop := ∀ k s, k < m → s < 2 ^ k → τ.1.2 q (2 ^ k + s) = pwor a b k s
theorem sp_fromShorter (hL : LC v τ) {m s : Nat} (hm : m < 7) (hs : s < 2 ^ m) (hw : wrow (lN (v 4)) (lN (v 6)) 17 m τ) (H : ψ (pwor (lN (v 4)) (lN (v 6)) m s) τ) : zCall G MX10_fromShorter [.ref 16, .int (nI m), .int (nI s)] τ (zpl ψ) := by
  have h4 := hL.1.v (j := 4) (by decide)
  have h6 := hL.1.v (j := 6) (by decide)
  have hs64 : s < 64 := Nat.lt_of_lt_of_le hs (pw64 (by omega)).2
  have hb := tb_words m hm s hs
  unfold tbw at hb
  refine C_X10_fromShorter _ _ τ (sp_cvalue hL (j := 4) (by decide) (sp_cvalue hL (j := 6) (by decide) (fun v1 e1 => ?_)))
  have e1 : v1 = prw m s := e1
  rw [toI64 (by omega), toI64 (by omega)]
  cases hf : pfst m s with
  | none =>
    rw [hf] at hb
    simp only [Bool.and_eq_true, decide_eq_true_eq] at hb
    refine ⟨fun q => absurd (e1.trans hb.1) q, fun _ => sp_bc ?_⟩
    rw [bcf_eq (by omega)]
    refine sp_power (by have := ppop_le s; omega) ?_
    rw [pk_sub hb.2]
    refine sp_power (by omega) (pl_ok ?_)
    have e : pwor (lN (v 4)) (lN (v 6)) m s = ppow (lN (v 4)) (ppop s) * ppow (lN (v 6)) (m - ppop s) := by
      cases m with
      | zero =>
        have h0 : ppop s = 0 := by omega
        rw [h0]
        rfl
      | succ m => unfold pwor; rw [hf]
    rw [← e]
    exact H
  | some i =>
    rw [hf] at hb
    simp only [Bool.and_eq_true, decide_eq_true_eq] at hb
    obtain ⟨⟨⟨b1, b2⟩, b3⟩, b4⟩ := hb
    refine ⟨fun _ => sp_ntz ?_, fun q => absurd (e1.symm.trans q) b1⟩
    rw [e1, b2]
    obtain ⟨k, rfl⟩ : ∃ k, m = k + 1 := ⟨m - 1, by omega⟩
    have w1 := tb_wol k (by omega) s hs i (by omega)
    have w2 := tb_wol k (by omega) s hs (i + 1) (by omega)
    have em : nI (k + 1) - (1 : Int32) = nI k := nI_pred k
    refine sp_cwithout hs64 (by omega) ?_
    rw [em]
    refine sp_at (by omega) w1 ?_
    rw [i1]
    refine sp_cwithout hs64 (by omega) (sp_at (by omega) w2 (pl_ok ?_))
    rw [hw k _ (by omega) w1, hw k _ (by omega) w2]
    unfold pwor at H
    rw [hf] at H
    exact H
end WO

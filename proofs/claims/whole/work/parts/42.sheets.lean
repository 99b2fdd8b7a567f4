theorem lp {α : Type} (R I : Nat → α → hz_T → Prop) (n : Nat) (hx : ∀ a τ, I n a τ → R n a τ) (hs : ∀ i a τ, i < n → I i a τ → (∀ a' τ', I (i + 1) a' τ' → R (i + 1) a' τ') → R i a τ) : ∀ i a τ, i ≤ n → I i a τ → R i a τ := by
  have key : ∀ m i a τ, i + m = n → I i a τ → R i a τ := by
    intro m
    induction m with
    | zero => intro i a τ h hi; have : i = n := by omega
              subst this; exact hx a τ hi
    | succ m ih => intro i a τ h hi; exact hs i a τ (by omega) hi (fun a' τ' h' => ih (i + 1) a' τ' (by omega) h')
  intro i a τ h hi
  exact key (n - i) i a τ (by omega) hi
theorem i1 (i : Nat) : nI i + (1 : Int32) = nI (i + 1) := by rw [kx_1, nI_add]
section SH
variable {G : hz_G} {τ : hz_T} {φ : Int32 → hz_T → Prop}
theorem sp_isSheet {x : Int32} (H : φ (if 0 ≤ x.toInt ∧ x.toInt ≤ 3 then 1 else 0) τ) : zCall G MX7_isSheet [.int x] τ (zpi φ) := by
  refine C_X7_isSheet x τ (pi_ok ?_)
  have e : (if x < 0 then (0 : Int32) else if (4 : Int32) ≤ x then 0 else 1) = (if 0 ≤ x.toInt ∧ x.toInt ≤ 3 then 1 else 0) := by
    have h1 : x < 0 ↔ x.toInt < 0 := Int32.lt_iff_toInt_lt
    have h2 : (4 : Int32) ≤ x ↔ 4 ≤ x.toInt := Int32.le_iff_toInt_le
    by_cases a : x.toInt < 0
    · rw [if_pos (h1.mpr a), if_neg (by omega)]
    · rw [if_neg (fun q => a (h1.mp q))]
      by_cases b : 4 ≤ x.toInt
      · rw [if_pos (h2.mpr b), if_neg (by omega)]
      · rw [if_neg (fun q => b (h2.mp q)), if_pos (by omega)]
  rw [e]
  exact H
theorem sp_isKind {x : Int32} (H : φ (if 0 ≤ x.toInt ∧ x.toInt ≤ 2 then 1 else 0) τ) : zCall G MX7_isKind [.int x] τ (zpi φ) := by
  refine C_X7_isKind x τ (pi_ok ?_)
  have e : (if x < 0 then (0 : Int32) else if (2 : Int32) < x then 0 else 1) = (if 0 ≤ x.toInt ∧ x.toInt ≤ 2 then 1 else 0) := by
    have h1 : x < 0 ↔ x.toInt < 0 := Int32.lt_iff_toInt_lt
    have h2 : (2 : Int32) < x ↔ 2 < x.toInt := Int32.lt_iff_toInt_lt
    by_cases a : x.toInt < 0
    · rw [if_pos (h1.mpr a), if_neg (by omega)]
    · rw [if_neg (fun q => a (h1.mp q))]
      by_cases b : 2 < x.toInt
      · rw [if_pos (h2.mpr b), if_neg (by omega)]
      · rw [if_neg (fun q => b (h2.mp q)), if_pos (by omega)]
  rw [e]
  exact H
theorem nI_r {k n : Nat} (h : k ≤ n) (hn : n < 2 ^ 31) : 0 ≤ (nI k).toInt ∧ (nI k).toInt ≤ n := by rw [nI_toInt (by omega)]; omega
theorem sp_isNothing {k : Nat} (hk : k < 4) (H : φ (if τ.1.1 26 k = -1 then 1 else 0) τ) : zCall G MX7_isNothing [.ref 25, .int (nI k)] τ (zpi φ) :=
  C_X7_isNothing (nI k) τ (sp_isSheet (b_a (fun h => absurd (nI_r (n := 3) (by omega) (by decide)) h) (fun _ => ⟨k, rfl, hk, pi_ok H⟩)))
theorem sp_size {k : Nat} (hk : k < 4) (H : φ (τ.1.1 27 k) τ) : zCall G MX7_size [.ref 25, .int (nI k)] τ (zpi φ) :=
  C_X7_size (nI k) τ (sp_isSheet (b_a (fun h => absurd (nI_r (n := 3) (by omega) (by decide)) h) (fun _ => ⟨k, rfl, hk, pi_ok H⟩)))
theorem sp_isOfKind {k : Nat} (hk : k < 4) {d : Int32} (H : φ (if τ.1.1 26 k = d then 1 else 0) τ) : zCall G MX7_isOfKind [.ref 25, .int (nI k), .int d] τ (zpi φ) :=
  C_X7_isOfKind (nI k) d τ (sp_isSheet (b_a (fun h => absurd (nI_r (n := 3) (by omega) (by decide)) h) (fun _ => ⟨k, rfl, hk, pi_ok H⟩)))
theorem sp_hasCell {k n : Nat} (hk : k < 4) (hn : n ≤ 64) (hsz : τ.1.1 27 k = nI n) {x : Int32} (H : φ (if 0 ≤ x.toInt ∧ x.toInt < n then 1 else 0) τ) : zCall G MX7_hasCell [.ref 25, .int (nI k), .int x] τ (zpi φ) := by
  have h1 : x < 0 ↔ x.toInt < 0 := Int32.lt_iff_toInt_lt
  have h2 : nI n ≤ x ↔ (n : Int) ≤ x.toInt := by rw [Int32.le_iff_toInt_le, nI_toInt (by omega)]
  refine C_X7_hasCell (nI k) x τ (sp_isSheet (b_a (fun h => absurd (nI_r (n := 3) (by omega) (by decide)) h) (fun _ => ⟨fun hc => pi_ok ?_, fun hc => ⟨k, rfl, hk, pi_ok ?_⟩⟩)))
  · rw [h1] at hc
    rw [if_neg (by omega)] at H
    exact H
  · rw [h1] at hc
    have e : (if τ.1.1 27 k ≤ x then (0 : Int32) else 1) = (if 0 ≤ x.toInt ∧ x.toInt < n then 1 else 0) := by
      rw [hsz]
      by_cases b : (n : Int) ≤ x.toInt
      · rw [if_pos (h2.mpr b), if_neg (by omega)]
      · rw [if_neg (fun q => b (h2.mp q)), if_pos (by omega)]
    rw [e]
    exact H
theorem ix64 {k i : Nat} : nI k * (64 : Int32) + nI i = nI (64 * k + i) := by
  rw [show (64 : Int32) = nI 64 from rfl, pk_mul, nI_add, Nat.mul_comm]
theorem ix64' {k i : Nat} : (64 : Int32) * nI k + nI i = nI (64 * k + i) := by
  rw [show (64 : Int32) = nI 64 from rfl, pk_mul, nI_add]
theorem sp_cell {k n i : Nat} (hk : k < 4) (hn : n ≤ 64) (hsz : τ.1.1 27 k = nI n) (hi : i < n) (H : φ (τ.1.1 28 (64 * k + i)) τ) : zCall G MX7_cell [.ref 25, .int (nI k), .int (nI i)] τ (zpi φ) := by
  refine C_X7_cell (nI k) (nI i) τ (sp_hasCell hk hn hsz (b_a (fun h => ?_) (fun _ => ⟨64 * k + i, ix64, by omega, pi_ok H⟩)))
  rw [nI_toInt (by omega)] at h
  omega
end SH
theorem pair_count {G : hz_G} {τ : hz_T} (hI : Inv τ) (x0 : Int32) : PI G MX11_count MX12_count [.ref 0, .int x0] [.ref 29, .int x0] τ := by
  obtain ⟨v, hl, ht, -, hs, -⟩ := id hI
  obtain ⟨m, hm, h1, h2⟩ := ht.len
  refine C_X11_count x0 τ ⟨fun e => ?_, fun e => ?_, fun e => ?_, fun e1 e2 e3 => ?_⟩
  · subst e
    exact sp_cstates hl.c (pi_ok (C_X12_count 0 τ ⟨fun h => absurd rfl h, fun _ => sp_mstates hl.m (pi_ok ⟨rfl, hI⟩)⟩))
  · subst e
    exact C_X8_length τ (pi_ok (pi_ok (C_X12_count 1 τ ⟨fun h => pi_ok ⟨by rw [h1, h2]; rfl, hI⟩, fun h => absurd h (by decide)⟩)))
  · subst e
    refine sp_isNothing (k := 0) (by decide) ?_
    have h0 := hs 0 (by decide)
    refine b_a (fun h => sp_size (k := 0) (by decide) (pi_ok (C_X12_count 2 τ ⟨fun _ => pi_ok ⟨?_, hI⟩, fun h => absurd h (by decide)⟩))) (fun h => pi_ok (C_X12_count 2 τ ⟨fun _ => pi_ok ⟨?_, hI⟩, fun h => absurd h (by decide)⟩))
    · rcases h0 with h0 | ⟨d, n, hd, hn, g1, g2, g3, g4, -⟩
      · exact absurd h0.1 h
      · have e4 : ¬ nI d = -4 := by
          intro q
          have := congrArg Int32.toInt q
          rw [nI_toInt (by omega)] at this
          have e : ((-4 : Int32)).toInt = -4 := by decide
          omega
        rw [if_neg (by decide), if_pos rfl, g2, if_neg e4, g3, g4]
    · rcases h0 with h0 | ⟨d, n, hd, hn, g1, g2, g3, g4, -⟩
      · rw [if_neg (by decide), if_pos rfl, if_pos h0.2]
      · rw [g1] at h
        have := congrArg Int32.toInt h
        rw [nI_toInt (by omega)] at this
        have e : ((-1 : Int32)).toInt = -1 := by decide
        omega
  · exact pi_ok (C_X12_count x0 τ ⟨fun h => pi_ok ⟨by rw [if_neg e2, if_neg e3], hI⟩, fun h => absurd h e1⟩)
/-! sheets: what a change of one sheet keeps -/
theorem inv_sheet {τ τ' : hz_T} (hI : Inv τ) (hs : Sm [26, 27, 28, 46, 47, 48] τ τ') (hS : ∀ k, k < 4 → I_sheet k τ') : Inv τ' := by
  obtain ⟨v, a1, a2, a3, a4, a5, a6, a7, a8⟩ := hI
  have f : ∀ q, q ∉ [26, 27, 28, 46, 47, 48] → τ'.1.1 q = τ.1.1 q := fun q hq => (hs q hq).1
  have g : ∀ q, q ∉ [26, 27, 28, 46, 47, 48] → τ'.1.2 q = τ.1.2 q := fun q hq => (hs q hq).2
  refine ⟨v, a1.fr (f 4 (by decide)) (f 30 (by decide)), a2.fr (f 1 (by decide)) (f 2 (by decide)) (by rw [f 29 (by decide)]) (f 32 (by decide)), ?_, hS, a5.fr (f 33 (by decide)) (f 34 (by decide)), a6.fr (f 7 (by decide)) (g 8 (by decide)) (g 9 (by decide)), ?_, a8.fr (f 16 (by decide)) (g 17 (by decide))⟩
  · unfold I_fault at a3 ⊢
    rw [f 5 (by decide), f 29 (by decide)]
    exact a3
  · exact a7.fr (by rw [f 10 (by decide)]) (by rw [g 10 (by decide)]) (by rw [g 10 (by decide)]) (f 11 (by decide)) (g 12 (by decide)) (g 13 (by decide))
/-- row q is cleared from 64 k on, i places -/
def clr (q k i : Nat) (τ τ' : hz_T) : Prop := Sm [q] τ τ' ∧ ∀ p, τ'.1.1 q p = if 64 * k ≤ p ∧ p < 64 * k + i then 0 else τ.1.1 q p
theorem clr_0 {q k : Nat} {τ : hz_T} : clr q k 0 τ τ := ⟨Sm.rf, fun p => by rw [if_neg (by omega)]⟩
theorem clr_s {q k i : Nat} {τ τ' : hz_T} (h : clr q k i τ τ') : clr q k (i + 1) τ (zI τ' q (64 * k + i) 0) := by
  refine ⟨h.1.I (by simp), fun p => ?_⟩
  rw [zI_at, h.2 p]
  by_cases hp : p = 64 * k + i
  · rw [if_pos ⟨rfl, hp⟩, if_pos (by omega)]
  · rw [if_neg (fun q => hp q.2)]
    by_cases h2 : 64 * k ≤ p ∧ p < 64 * k + i
    · rw [if_pos h2, if_pos (by omega)]
    · rw [if_neg h2, if_neg (by omega)]
theorem sp_renew {G : hz_G} {τ : hz_T} {φ : hz_T → Prop} {k d n : Nat} (hk : k < 4) (hd : d ≤ 2) (hn : n ≤ 64) (H : ∀ τ', clr 28 k n (zI (zI τ 26 k (nI d)) 27 k (nI n)) τ' → φ τ') : zCall G MX7_renew [.ref 25, .int (nI k), .int (nI d), .int (nI n)] τ (zpv φ) := by
  refine C_X7_renew (nI k) (nI d) (nI n) τ (sp_isSheet ?_)
  refine b_a (fun h => absurd (nI_r (n := 3) (by omega) (by decide)) h) (fun _ => sp_isKind ?_)
  refine b_a (fun h => absurd (nI_r (n := 2) (by omega) (by decide)) h) (fun _ => ?_)
  refine ⟨fun h => absurd h (nI_pos (by omega)), fun _ => ⟨fun _ => ⟨k, rfl, hk, k, rfl, hk, ?_⟩, fun h => absurd (show nI n ≤ nI 64 from nI_le hn (by decide)) h⟩⟩
  refine lp (α := Unit) (fun i _ τ' => zRun G MX7_renew 42 [(0, .ref 25), (1, .int (nI k)), (3, .int (nI n)), (4, .int (nI i))] [] τ' (zpv φ)) (fun i _ τ' => clr 28 k i (zI (zI τ 26 k (nI d)) 27 k (nI n)) τ') n ?_ ?_ 0 () _ (Nat.zero_le _) clr_0
  · intro _ τ' h
    exact V_X7_renew_42 _ _ _ τ' ⟨fun _ => pv_ok (H τ' h), fun q => absurd (nI_le (Nat.le_refl n) (by omega)) q⟩
  · intro i _ τ' hi h ih
    refine V_X7_renew_42 _ _ _ τ' ⟨fun q => absurd q (nI_ge hi (by omega)), fun _ => ⟨64 * k + i, ix64, by omega, ?_⟩⟩
    rw [i1]
    exact ih () _ (clr_s h)
theorem pair_sheet {G : hz_G} {τ : hz_T} (hI : Inv τ) (x0 : Int32) (x1 : Int32) (x2 : Int32) : PI G MX11_sheet MX12_sheet [.ref 0, .int x0, .int x1, .int x2] [.ref 29, .int x0, .int x1, .int x2] τ := by
  have e3 : (3 : Int64).toInt = 3 := by decide
  have e2 : (2 : Int64).toInt = 2 := by decide
  have l64 : x2 ≤ (64 : Int32) ↔ x2.toInt ≤ 64 := Int32.le_iff_toInt_le
  have l0 : 0 ≤ x2 ↔ 0 ≤ x2.toInt := Int32.le_iff_toInt_le
  refine C_X11_sheet x0 x1 x2 τ (sp_isSheet (b_a (fun hc => pi_ok ?_) (fun hc => sp_isKind (b_a (fun hd => pi_ok ?_) (fun hd => ⟨fun h64 => ⟨fun h0 => ?_, fun h0 => pi_ok ?_⟩, fun h64 => pi_ok ?_⟩)))))
  · refine C_X12_sheet x0 x1 x2 τ (sp_in ?_)
    rw [t0, e3, i64]
    exact b_a (fun _ => pi_ok ⟨rfl, hI⟩) (fun h => absurd h hc)
  · refine C_X12_sheet x0 x1 x2 τ (sp_in ?_)
    rw [t0, e3, i64]
    refine b_a (fun h => absurd hc h) (fun h => sp_in ?_)
    rw [t0, e2, i64]
    exact b_a (fun _ => pi_ok ⟨rfl, hI⟩) (fun h => absurd h hd)
  · obtain ⟨k, hk, rfl⟩ := of_range (n := 4) hc.1 (by omega)
    obtain ⟨d, hd', rfl⟩ := of_range (n := 3) hd.1 (by omega)
    rw [l64] at h64
    rw [l0] at h0
    obtain ⟨n, hn, rfl⟩ := of_range (n := 65) h0 (by omega)
    refine sp_renew hk (by omega) (by omega) (fun τ1 h1 => pi_ok ?_)
    refine C_X12_sheet _ _ _ τ1 (sp_in ?_)
    rw [t0, e3, i64]
    refine b_a (fun h => absurd hc h) (fun h => sp_in ?_)
    rw [t0, e2, i64]
    refine b_a (fun h => absurd hd h) (fun h => ⟨fun _ => ⟨fun _ => ⟨k, rfl, hk, k, rfl, hk, ?_⟩, fun q => absurd (l0.mpr h0) q⟩, fun q => absurd (l64.mpr h64) q⟩)
    refine lp (α := Unit) (fun i _ τ' => zRun G MX12_sheet 56 [(0, .ref 29), (1, .int (nI k)), (4, .int (nI i))] [] τ' (zpi (fun b τ2 => (1 : Int32) = b ∧ Inv τ2))) (fun i _ τ' => clr 48 k i (zI (zI τ1 46 k (nI d)) 47 k (nI n)) τ') 64 ?_ ?_ 0 () _ (Nat.zero_le _) clr_0
    · intro _ τ2 h2
      refine V_X12_sheet_56 _ _ τ2 ⟨fun _ => pi_ok ⟨rfl, ?_⟩, fun q => absurd (show nI 64 ≤ nI 64 from nI_le (Nat.le_refl _) (by decide)) q⟩
      have s1 : Sm [26, 27, 28, 46, 47, 48] τ τ1 := ((Sm.rf.I (by decide)).I (by decide)).tr (h1.1.wk (by decide))
      have s2 : Sm [26, 27, 28, 46, 47, 48] τ τ2 := ((s1.I (by decide)).I (by decide)).tr (h2.1.wk (by decide))
      have r26 : τ2.1.1 26 = (zI τ 26 k (nI d)).1.1 26 := by rw [(h2.1 26 (by decide)).1, zI_row (by decide), zI_row (by decide), (h1.1 26 (by decide)).1, zI_row (by decide)]
      have r27 : τ2.1.1 27 = (zI τ 27 k (nI n)).1.1 27 := by
        rw [(h2.1 27 (by decide)).1, zI_row (by decide), zI_row (by decide), (h1.1 27 (by decide)).1]
        rfl
      have r28 : τ2.1.1 28 = τ1.1.1 28 := by rw [(h2.1 28 (by decide)).1, zI_row (by decide), zI_row (by decide)]
      have r46 : τ2.1.1 46 = (zI τ 46 k (nI d)).1.1 46 := by
        rw [(h2.1 46 (by decide)).1, zI_row (by decide)]
        funext j
        rw [zI_at, zI_at, (h1.1 46 (by decide)).1, zI_row (by decide), zI_row (by decide)]
      have r47 : τ2.1.1 47 = (zI τ 47 k (nI n)).1.1 47 := by
        rw [(h2.1 47 (by decide)).1]
        funext j
        show (if 47 = 47 ∧ j = k then nI n else (zI τ1 46 k (nI d)).1.1 47 j) = (if 47 = 47 ∧ j = k then nI n else τ.1.1 47 j)
        rw [zI_row (by decide), (h1.1 47 (by decide)).1, zI_row (by decide), zI_row (by decide)]
      have c28 : ∀ p, τ2.1.1 28 p = if 64 * k ≤ p ∧ p < 64 * k + n then 0 else τ.1.1 28 p := by
        intro p
        rw [r28, h1.2 p, zI_row (by decide), zI_row (by decide)]
      have c48 : ∀ p, τ2.1.1 48 p = if 64 * k ≤ p ∧ p < 64 * k + 64 then 0 else τ.1.1 48 p := by
        intro p
        rw [h2.2 p, zI_row (by decide), zI_row (by decide), (h1.1 48 (by decide)).1, zI_row (by decide), zI_row (by decide)]
      refine inv_sheet hI s2 (fun k' hk' => ?_)
      obtain ⟨v, -, -, -, hsh, -⟩ := hI
      unfold I_sheet
      rw [r26, r27, r46, r47]
      by_cases e : k' = k
      · subst e
        refine Or.inr ⟨d, n, by omega, by omega, ?_, ?_, ?_, ?_, fun i hi => ?_⟩
        · rw [zI_at, if_pos ⟨rfl, rfl⟩]
        · rw [zI_at, if_pos ⟨rfl, rfl⟩]
        · rw [zI_at, if_pos ⟨rfl, rfl⟩]
        · rw [zI_at, if_pos ⟨rfl, rfl⟩]
        · rw [c28, c48, if_pos (by omega), if_pos (by omega)]
      · rw [zI_at, zI_at, zI_at, zI_at, if_neg (fun q => e q.2), if_neg (fun q => e q.2), if_neg (fun q => e q.2), if_neg (fun q => e q.2)]
        rcases hsh k' hk' with h | ⟨d', n', g1, g2, g3, g4, g5, g6, g7⟩
        · exact Or.inl h
        · refine Or.inr ⟨d', n', g1, g2, g3, g4, g5, g6, fun i hi => ?_⟩
          rw [c28, c48, if_neg (by omega), if_neg (by omega)]
          exact g7 i hi
    · intro i _ τ' hi h ih
      refine V_X12_sheet_56 _ _ τ' ⟨fun q => absurd (show nI 64 ≤ nI i from q) (nI_ge hi (by decide)), fun _ => ⟨64 * k + i, ix64', by omega, ?_⟩⟩
      rw [i1]
      exact ih () _ (clr_s h)
  · refine C_X12_sheet x0 x1 x2 τ (sp_in ?_)
    rw [t0, e3, i64]
    refine b_a (fun h => absurd hc h) (fun h => sp_in ?_)
    rw [t0, e2, i64]
    exact b_a (fun h => absurd hd h) (fun _ => ⟨fun _ => ⟨fun q => absurd q h0, fun _ => pi_ok ⟨rfl, hI⟩⟩, fun q => absurd h64 q⟩)
  · refine C_X12_sheet x0 x1 x2 τ (sp_in ?_)
    rw [t0, e3, i64]
    refine b_a (fun h => absurd hc h) (fun h => sp_in ?_)
    rw [t0, e2, i64]
    exact b_a (fun h => absurd hd h) (fun _ => ⟨fun q => absurd q h64, fun _ => pi_ok ⟨rfl, hI⟩⟩)

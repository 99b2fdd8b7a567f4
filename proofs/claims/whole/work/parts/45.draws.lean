/-! one bit of a long, by an arithmetic shift -/
theorem ls_sm : ∀ k, k < 64 → (((nI k).toInt64 &&& 63).toBitVec.smod 64).toNat = k := by decide +kernel
theorem lbit {P k : Nat} (hP : P < 2 ^ 64) (hk : k < 64) : (lN P >>> ((nI k).toInt64 &&& 63)) &&& 1 = lN (if P.testBit k then 1 else 0) := by
  apply wb_inj
  apply BitVec.eq_of_getLsbD_eq
  intro i hi
  rw [Int64.toBitVec_and, BitVec.getLsbD_and, Int64.toBitVec_shiftRight]
  show (((lN P).toBitVec.sshiftRight (((nI k).toInt64 &&& 63).toBitVec.smod 64).toNat).getLsbD i && (1 : Int64).toBitVec.getLsbD i) = _
  rw [ls_sm k hk, BitVec.getLsbD_sshiftRight, wb_tb, wb_tb]
  have h1 : ∀ i, i < 64 → (1 : Int64).toBitVec.getLsbD i = decide (i = 0) := by decide +kernel
  rw [h1 i hi]
  by_cases h0 : i = 0
  · subst h0
    have hb : (BitVec.ofNat 64 P).getLsbD k = P.testBit k := by
      rw [BitVec.getLsbD_ofNat]; simp [hk]
    simp only [Nat.add_zero, hk, if_true, hb, decide_true, Bool.and_true]
    cases P.testBit k <;> simp
  · simp only [h0, decide_false, Bool.and_false]
    cases P.testBit k
    · simp
    · rw [BitVec.getLsbD_ofNat, if_pos rfl]
      have : Nat.testBit 1 i = false := by
        cases hb : Nat.testBit 1 i with
        | false => rfl
        | true => exact absurd (Nat.testBit_one_eq_true_iff_self_eq_zero.mp hb) h0
      simp [this]
theorem lN_i32 (n : Nat) : (lN n).toInt32 = nI n := lN_i n
def ppopI (P k : Nat) : Nat := ((List.range k).filter (fun t => P.testBit t)).length
theorem ppopI_s (P k : Nat) : ppopI P (k + 1) = ppopI P k + (if P.testBit k then 1 else 0) := by
  unfold ppopI
  rw [List.range_succ, List.filter_append, List.length_append]
  congr 1
  cases h : P.testBit k <;> simp [h]
theorem ppopI_64 (P : Nat) : ppopI P 64 = ppop P := rfl
theorem ppopI_le (P k : Nat) : ppopI P k ≤ k := by
  unfold ppopI
  exact Nat.le_trans (List.length_filter_le _ _) (by simp)
theorem ppop_le (P : Nat) : ppop P ≤ 64 := ppopI_le P 64
section DR
variable {G : hz_G} {τ : hz_T} {φ : Int32 → hz_T → Prop}
theorem sp_sizeOf {P : Nat} (hP : P < 2 ^ 64) (H : φ (nI (ppop P)) τ) : zCall G MX12_sizeOf [.long (lN P)] τ (zpi φ) := by
  refine C_X12_sizeOf _ τ ?_
  have key : ∀ m k, k + m = 64 → zRun G MX12_sizeOf 4 [(0, .long (lN P)), (2, .int (nI (ppopI P k))), (3, .int (nI k))] [] τ (zpi φ) := by
    intro m
    induction m with
    | zero =>
      intro k e
      have : k = 64 := by omega
      subst this
      exact V_X12_sizeOf_4 _ _ _ τ ⟨fun _ => pi_ok H, fun q => absurd (show nI 64 ≤ nI 64 from nI_le (Nat.le_refl _) (by decide)) q⟩
    | succ m ih =>
      intro k e
      refine V_X12_sizeOf_4 _ _ _ τ ⟨fun q => absurd (show nI 64 ≤ nI k from q) (nI_ge (by omega) (by decide)), fun _ v hv => ?_⟩
      rw [lbit hP (by omega), lN_i32, nI_add, ← ppopI_s] at hv
      subst hv
      rw [i1]
      exact ih (k + 1) (by omega)
  exact key 64 0 rfl
/-! Integer.bitCount -/
def bcf (x0 : Int32) : Int32 :=
  let v1 := x0 - ((x0.toUInt32 >>> ((1 : Int32).toUInt32 &&& Int32.toUInt32 31)).toInt32 &&& (1431655765 : Int32))
  let v3 := (v1 &&& (858993459 : Int32)) + ((v1.toUInt32 >>> ((2 : Int32).toUInt32 &&& Int32.toUInt32 31)).toInt32 &&& (858993459 : Int32))
  let v5 := (v3 + (v3.toUInt32 >>> ((4 : Int32).toUInt32 &&& Int32.toUInt32 31)).toInt32) &&& (252645135 : Int32)
  let v7 := v5 + (v5.toUInt32 >>> ((8 : Int32).toUInt32 &&& Int32.toUInt32 31)).toInt32
  let v9 := v7 + (v7.toUInt32 >>> ((16 : Int32).toUInt32 &&& Int32.toUInt32 31)).toInt32
  v9 &&& (63 : Int32)
theorem sp_bc {x : Int32} (H : φ (bcf x) τ) : zCall G MJ6_bitCount_0f7a4 [.int x] τ (zpi φ) := by
  refine C_J6_bitCount_0f7a4 x τ (fun v1 h1 v3 h3 v5 h5 v7 h7 v9 h9 => pi_ok ?_)
  subst h1; subst h3; subst h5; subst h7; subst h9
  exact H
theorem bcf_small2 : ∀ a, a < 64 → ∀ b, b < 64 → bcf (nI (64 * a + b)) = nI (ppopI (64 * a + b) 12) := by decide +kernel
theorem bcf_small (s : Nat) (h : s < 4096) : bcf (nI s) = nI (ppopI s 12) := by
  have := bcf_small2 (s / 64) (by omega) (s % 64) (by omega)
  rwa [Nat.div_add_mod] at this
theorem ppopI_up {P a b : Nat} (hP : P < 2 ^ a) (h : a ≤ b) : ppopI P b = ppopI P a := by
  induction b with
  | zero => have : a = 0 := by omega
            subst this; rfl
  | succ b ih =>
    by_cases e : a = b + 1
    · subst e; rfl
    · rw [ppopI_s, ih (by omega), Nat.testBit_lt_two_pow (Nat.lt_of_lt_of_le hP (Nat.pow_le_pow_right (by decide) (by omega)))]
      simp
theorem bcf_eq {s : Nat} (h : s < 4096) : bcf (nI s) = nI (ppop s) := by rw [bcf_small s h, ← ppopI_64, ppopI_up (a := 12) (b := 64) h (by decide)]
theorem toI64 {n : Nat} (h : n < 2 ^ 31) : (nI n).toInt64 = lN n := nI_l h
/-! rounds -/
def pon (n s : Nat) : Nat := pit n (2 ^ n) s
def prl (n start : Nat) : Nat → Nat → Nat → Nat
  | 0, _, len => len
  | f + 1, at_, len => if at_ = start then len else prl n start f (pstep n at_) (len + 1)
def prlen (n s : Nat) : Nat := prl n (pon n s) (2 ^ n) (pstep n (pon n s)) 1
def ptl (n : Nat) : Nat → Nat → Nat → Nat → Nat
  | 0, _, _, len => len
  | f + 1, a, b, len => if a = b then len else ptl n f (pstep n a) (pstep n b) (len + 1)
def ptlen (n s : Nat) : Nat := ptl n (2 ^ n) s (pit n (prlen n s) s) 0
def prh (n s : Nat) : Nat → Nat
  | 0 => 0
  | m + 1 => prh n s m + ppop (prdy n (pit n m s))
def pvis (n : Nat) : Nat → List Nat → Nat → Option (List Nat × Nat)
  | 0, _, _ => none
  | f + 1, vs, t => if t ∈ vs then some (vs, t) else pvis n f (vs ++ [t]) (pstep n t)
def pmh (n t : Nat) : Nat → Nat
  | 0 => 0
  | m + 1 => pmh n t m + phop n (pit n m t)
def prok (n s : Nat) : Bool := match pvis n 65 [] s with
  | none => false
  | some (vs, t) => decide (vs.length - vs.idxOf t = prlen n s) && decide (vs.idxOf t = ptlen n s) && decide (vs.idxOf t ≤ vs.length) && decide (vs.length ≤ 64) && decide (pmh n t (prlen n s) = prh n (pon n s) (prlen n s)) && decide (prlen n s ≤ 64)
theorem tb_round : ∀ n, n < 7 → 1 ≤ n → ∀ s, s < 2 ^ n → prok n s = true := by decide +kernel
theorem prl_le (n start : Nat) : ∀ f a len, prl n start f a len ≤ len + f := by
  intro f
  induction f with
  | zero => intro a len; exact Nat.le_refl _
  | succ f ih =>
    intro a len
    unfold prl
    split
    · omega
    · have := ih (pstep n a) (len + 1)
      omega
theorem sp_onRound {n s : Nat} (h1 : 1 ≤ n) (hn : n ≤ 6) (hs : s < 2 ^ n) (H : φ (nI (pon n s)) τ) : zCall G MX6_onRound [.int (nI s), .int (nI n)] τ (zpi φ) := by
  have hp := pw64 hn
  refine C_X6_onRound _ _ τ ?_
  rw [pw_small n hn]
  exact sp_after h1 hn hs (by omega) (pi_ok H)
theorem sp_roundLength {n s : Nat} (h1 : 1 ≤ n) (hn : n ≤ 6) (hs : s < 2 ^ n) (H : φ (nI (prlen n s)) τ) : zCall G MX6_roundLength [.int (nI s), .int (nI n)] τ (zpi φ) := by
  have hp := pw64 hn
  have hon := pit_lt h1 hn hs (2 ^ n)
  have hst := (tb_step n (by omega) h1 _ hon).2
  refine C_X6_roundLength _ _ τ (sp_onRound h1 hn hs (sp_step h1 hn hon ?_))
  have key : ∀ f i a len, i + f = 2 ^ n → a < 2 ^ n → prl n (pon n s) f a len = prlen n s → zRun G MX6_roundLength 18 [(1, .int (nI n)), (2, .int (nI (pon n s))), (3, .int (nI a)), (4, .int (nI len)), (5, .int (nI i))] [] τ (zpi φ) := by
    intro f
    induction f with
    | zero =>
      intro i a len e ha he
      have he : len = prlen n s := he
      subst he
      refine V_X6_roundLength_18 _ _ _ _ _ τ ?_
      rw [pw_small n hn]
      exact ⟨fun _ => pi_ok H, fun q => absurd (nI_le (by omega) (by omega)) q⟩
    | succ f ih =>
      intro i a len e ha he
      refine V_X6_roundLength_18 _ _ _ _ _ τ ?_
      rw [pw_small n hn]
      have heq : nI a = nI (pon n s) ↔ a = pon n s := nI_eq (by omega) (by unfold pon; omega)
      refine ⟨fun q => absurd q (nI_ge (by omega) (by omega)), fun _ => ⟨fun q => ?_, fun q => ?_⟩⟩
      · rw [heq] at q
        unfold prl at he
        rw [if_pos q] at he
        subst he
        exact pi_ok H
      · rw [heq] at q
        unfold prl at he
        rw [if_neg q] at he
        refine sp_step h1 hn ha ?_
        rw [i1, i1]
        exact ih (i + 1) _ (len + 1) (by omega) (tb_step n (by omega) h1 _ ha).2 he
  have := key (2 ^ n) 0 _ 1 (by omega) hst rfl
  rw [nI_0, ← kx_1] at this
  exact this
theorem prok_at {n s : Nat} (h1 : 1 ≤ n) (hn : n ≤ 6) (hs : s < 2 ^ n) : ∃ (vs : List Nat) (t : Nat), pvis n 65 [] s = some (vs, t) ∧ vs.length - vs.idxOf t = prlen n s ∧ vs.idxOf t = ptlen n s ∧ vs.idxOf t ≤ vs.length ∧ vs.length ≤ 64 ∧ pmh n t (prlen n s) = prh n (pon n s) (prlen n s) ∧ prlen n s ≤ 64 := by
  have h := tb_round n (by omega) h1 s hs
  unfold prok at h
  cases hv : pvis n 65 [] s with
  | none => rw [hv] at h; cases h
  | some p =>
    obtain ⟨vs, t⟩ := p
    rw [hv] at h
    simp only [Bool.and_eq_true, decide_eq_true_eq] at h
    exact ⟨vs, t, rfl, h.1.1.1.1.1, h.1.1.1.1.2, h.1.1.1.2, h.1.1.2, h.1.2, h.2⟩
theorem sp_tailLength {n s : Nat} (h1 : 1 ≤ n) (hn : n ≤ 6) (hs : s < 2 ^ n) (H : φ (nI (ptlen n s)) τ) : zCall G MX6_tailLength [.int (nI s), .int (nI n)] τ (zpi φ) := by
  have hp := pw64 hn
  obtain ⟨vs, t, -, -, -, -, -, -, hle⟩ := prok_at h1 hn hs
  refine C_X6_tailLength _ _ τ (sp_roundLength h1 hn hs (sp_after h1 hn hs (by omega) ?_))
  have key : ∀ f i a b len, i + f = 2 ^ n → a < 2 ^ n → b < 2 ^ n → ptl n f a b len = ptlen n s → zRun G MX6_tailLength 19 [(1, .int (nI n)), (2, .int (nI a)), (3, .int (nI b)), (4, .int (nI len)), (5, .int (nI i))] [] τ (zpi φ) := by
    intro f
    induction f with
    | zero =>
      intro i a b len e ha hb he
      have he : len = ptlen n s := he
      subst he
      refine V_X6_tailLength_19 _ _ _ _ _ τ ?_
      rw [pw_small n hn]
      exact ⟨fun _ => pi_ok H, fun q => absurd (nI_le (by omega) (by omega)) q⟩
    | succ f ih =>
      intro i a b len e ha hb he
      refine V_X6_tailLength_19 _ _ _ _ _ τ ?_
      rw [pw_small n hn]
      have heq : nI a = nI b ↔ a = b := nI_eq (by omega) (by omega)
      refine ⟨fun q => absurd q (nI_ge (by omega) (by omega)), fun _ => ⟨fun q => ?_, fun q => ?_⟩⟩
      · rw [heq] at q
        unfold ptl at he
        rw [if_pos q] at he
        subst he
        exact pi_ok H
      · rw [heq] at q
        unfold ptl at he
        rw [if_neg q] at he
        refine sp_step h1 hn ha (sp_step h1 hn hb ?_)
        rw [i1, i1]
        exact ih (i + 1) _ _ (len + 1) (by omega) (tb_step n (by omega) h1 _ ha).2 (tb_step n (by omega) h1 _ hb).2 he
  have := key (2 ^ n) 0 s _ 0 (by omega) hs (pit_lt h1 hn hs (prlen n s)) rfl
  rw [nI_0] at this
  exact this
theorem sp_roundHops {n s : Nat} (h1 : 1 ≤ n) (hn : n ≤ 6) (hs : s < 2 ^ n) (H : φ (nI (prh n (pon n s) (prlen n s))) τ) : zCall G MX6_roundHops [.int (nI s), .int (nI n)] τ (zpi φ) := by
  have hp := pw64 hn
  obtain ⟨vs, t, -, -, -, -, -, -, hle⟩ := prok_at h1 hn hs
  have hon : pon n s < 2 ^ n := pit_lt h1 hn hs (2 ^ n)
  refine C_X6_roundHops _ _ τ (sp_onRound h1 hn hs (sp_roundLength h1 hn hs ?_))
  have key : ∀ f i, i + f = prlen n s → zRun G MX6_roundHops 18 [(1, .int (nI n)), (2, .int (nI (pit n i (pon n s)))), (3, .int (nI (prlen n s))), (4, .int (nI (prh n (pon n s) i))), (5, .int (nI i))] [] τ (zpi φ) := by
    intro f
    induction f with
    | zero =>
      intro i e
      have : i = prlen n s := by omega
      subst this
      exact V_X6_roundHops_18 _ _ _ _ _ τ ⟨fun _ => pi_ok H, fun q => absurd (nI_le (Nat.le_refl _) (by omega)) q⟩
    | succ f ih =>
      intro i e
      have hi := pit_lt h1 hn hon i
      have hr := (tb_ready n (by omega) h1 _ hi).2
      refine V_X6_roundHops_18 _ _ _ _ _ τ ⟨fun q => absurd q (nI_ge (by omega) (by omega)), fun _ => sp_ready h1 hn hi (sp_bc (sp_step h1 hn hi ?_))⟩
      rw [bcf_eq (by omega), nI_add, i1]
      exact ih (i + 1) (by omega)
  have := key (prlen n s) 0 (by omega)
  rw [nI_0] at this
  exact this
end DR

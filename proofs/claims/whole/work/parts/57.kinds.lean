/-! what a row takes of another, to the left -/
def vq (n : Nat) : Nat → Nat → Nat → Nat
  | 0, _, p => p
  | k + 1, row, p => if row.testBit p then p else vq n k row (if p = 0 then n - 1 else p - 1)
def vlf (n a b : Nat) : Nat → Nat
  | 0 => b
  | k + 1 => if a.testBit k then vlf n a b k ^^^ 2 ^ (vq n (n - 1) (vlf n a b k) k) else vlf n a b k
def vhor (K : Nat → Nat) (n : Nat) : Nat → Nat
  | 0 => 0
  | t + 1 => 3 * vhor K n t + K (n - (t + 1))
def vkd (b l i : Nat) : Nat := if b.testBit i then (if l.testBit i then 2 else 1) else 0
theorem tb_vq : ∀ n, n < 7 → ∀ r, r < 2 ^ n → r ≠ 0 → ∀ k, k < n → r.testBit (vq n (n - 1) r k) = true ∧ vq n (n - 1) r k < n := by decide +kernel
theorem tb_pop : ∀ r, r < 64 → ∀ q, q < 6 → r.testBit q = true → ppopI (r ^^^ 2 ^ q) 6 + 1 = ppopI r 6 ∧ (r ^^^ 2 ^ q) &&& r = r ^^^ 2 ^ q ∧ nI r &&& (nI (2 ^ q) ^^^ (-1 : Int32)) = nI (r ^^^ 2 ^ q) := by decide +kernel
theorem tb_mono : ∀ a, a < 64 → ∀ k, k < 7 → ppopI a k ≤ ppopI a 6 := by decide +kernel
theorem tb_sub : ∀ b, b < 64 → ∀ l, l < 64 → l &&& b = l → nI b &&& (nI l ^^^ (-1 : Int32)) = nI (b ^^^ l) ∧ nI b &&& (nI (b ^^^ l) ^^^ (-1 : Int32)) = nI l ∧ ∀ i, i < 6 → (if (b ^^^ l).testBit i then (1 : Int32) else 0) + 2 * (if l.testBit i then (1 : Int32) else 0) = nI (vkd b l i) := by decide +kernel
theorem tb_dn : ∀ m, m < 7 → nI (m + 1) - (1 : Int32) = nI m ∧ nI m + (-1 : Int32) = nI m - 1 ∧ ¬ nI m < (0 : Int32) := by decide +kernel
theorem nI_mul' (a b : Nat) : nI a * nI b = nI (a * b) := (Int32.ofNat_mul a b).symm
theorem pop6 {n a : Nat} (hn : n ≤ 6) (ha : a < 2 ^ n) : ppop a = ppopI a 6 := by
  rw [← ppopI_64]
  exact ppopI_up (Nat.lt_of_lt_of_le ha (Nat.pow_le_pow_right (by decide) hn)) (by decide)
theorem vlf_s {n a b k : Nat} : vlf n a b (k + 1) = if a.testBit k then vlf n a b k ^^^ 2 ^ (vq n (n - 1) (vlf n a b k) k) else vlf n a b k := rfl
theorem vlf_inv {n a b : Nat} (hn : n ≤ 6) (ha : a < 2 ^ n) (hb : b < 2 ^ n) (hc : ppopI a 6 ≤ ppopI b 6) : ∀ k, k ≤ n → ppopI (vlf n a b k) 6 + ppopI a k = ppopI b 6 ∧ vlf n a b k < 2 ^ n ∧ vlf n a b k &&& b = vlf n a b k ∧ (k < n → a.testBit k = true → vlf n a b k ≠ 0) := by
  have h64 : 2 ^ n ≤ 2 ^ 6 := Nat.pow_le_pow_right (by decide) hn
  have nz : ∀ k r, k < n → a.testBit k = true → ppopI r 6 + ppopI a k = ppopI b 6 → r ≠ 0 := by
    intro k r hk hb e q
    subst q
    have e0 : ppopI 0 6 = 0 := by decide
    have e1 := ppopI_s a k
    rw [if_pos hb] at e1
    have e2 := tb_mono a (by omega) (k + 1) (by omega)
    omega
  intro k
  induction k with
  | zero =>
    intro _
    have e0 : ppopI b 6 + ppopI a 0 = ppopI b 6 := rfl
    exact ⟨e0, hb, Nat.and_self b, fun hk hbit => nz 0 b hk hbit e0⟩
  | succ k ih =>
    intro hk
    obtain ⟨i1, i2, i3, i4⟩ := ih (by omega)
    have es := ppopI_s a k
    have key : ppopI (vlf n a b (k + 1)) 6 + ppopI a (k + 1) = ppopI b 6 ∧ vlf n a b (k + 1) < 2 ^ n ∧ vlf n a b (k + 1) &&& b = vlf n a b (k + 1) := by
      rw [vlf_s]
      by_cases hbit : a.testBit k = true
      · rw [if_pos hbit] at es ⊢
        have h0 := i4 (by omega) hbit
        obtain ⟨q1, q2⟩ := tb_vq n (by omega) _ i2 h0 k (by omega)
        obtain ⟨p1, p2, -⟩ := tb_pop _ (by omega) _ (by omega) q1
        refine ⟨by omega, xor_lt i2 (Nat.pow_lt_pow_right (by decide) q2), ?_⟩
        rw [← p2, Nat.and_assoc, i3]
      · rw [if_neg hbit] at es ⊢
        exact ⟨by omega, i2, i3⟩
    exact ⟨key.1, key.2.1, key.2.2, fun h1 h2 => nz _ _ h1 h2 key.1⟩
section KN
variable {G : hz_G} {τ : hz_T} {φ : Int32 → hz_T → Prop}
theorem bit_if {P : Prop} [Decidable P] : ((if P then (1 : Int32) else 0) = 1) ↔ P := by
  by_cases h : P
  · rw [if_pos h]; exact ⟨fun _ => h, fun _ => rfl⟩
  · rw [if_neg h]; exact ⟨fun q => absurd q (by decide), fun q => absurd q h⟩
theorem vdn {n p : Nat} (hn : n ≤ 6) (hp : p < n) : (if nI p = 0 then nI n - (1 : Int32) else nI p - 1) = nI (if p = 0 then n - 1 else p - 1) := by
  by_cases e : p = 0
  · subst e
    rw [if_pos nI_0, if_pos rfl]
    have := (tb_dn (n - 1) (by omega)).1
    rwa [Nat.sub_add_cancel (by omega)] at this
  · rw [if_neg (fun q => e ((nI_z (by omega)).1 q)), if_neg e]
    have := (tb_dn (p - 1) (by omega)).1
    rwa [Nat.sub_add_cancel (by omega)] at this
theorem sp_ftl {n r i : Nat} (hn : n ≤ 6) (hi : i < n) (hr : r < 2 ^ n) (h0 : r ≠ 0) (H : φ (nI (2 ^ vq n (n - 1) r i)) τ) : zCall G MX0_firstToTheLeft [.int (nI r), .int (nI i), .int (nI n)] τ (zpi φ) := by
  have h64 : 2 ^ n ≤ 2 ^ 6 := Nat.pow_le_pow_right (by decide) hn
  refine C_X0_firstToTheLeft _ _ _ τ ?_
  obtain ⟨t1, t2⟩ := tb_vq n (by omega) r hr h0 i hi
  have key : ∀ m t p, t + m + 1 = n → p < n → vq n m r p = vq n (n - 1) r i → zRun G MX0_firstToTheLeft 5 [(0, .int (nI r)), (2, .int (nI n)), (3, .int (nI p)), (4, .int (nI t))] [] τ (zpi φ) := by
    intro m
    induction m with
    | zero =>
      intro t p e hp hv
      have hv : p = vq n (n - 1) r i := hv
      refine V_X0_firstToTheLeft_5 _ _ _ _ τ ⟨fun q => absurd q (nI_ge (by omega) (by omega)), fun _ => ?_⟩
      rw [has_bit (by omega) (by omega), bit_if, one_shl (by omega), hv]
      exact ⟨fun q => absurd t1 q, fun _ => pi_ok H⟩
    | succ m ih =>
      intro t p e hp hv
      refine V_X0_firstToTheLeft_5 _ _ _ _ τ ⟨fun q => absurd q (nI_ge (by omega) (by omega)), fun _ => ?_⟩
      rw [has_bit (by omega) (by omega), bit_if, one_shl (by omega)]
      have hv' : (if r.testBit p then p else vq n m r (if p = 0 then n - 1 else p - 1)) = vq n (n - 1) r i := hv
      refine ⟨fun q w hw => ?_, fun q => pi_ok ?_⟩
      · rw [if_neg q] at hv'
        rw [hw, vdn hn hp, i1]
        exact ih (t + 1) _ (by omega) (by split <;> omega) hv'
      · rw [if_pos q] at hv'
        rw [hv']; exact H
  have := key (n - 1) 0 i (by omega) hi rfl
  rwa [nI_0] at this
theorem sp_taken {n a b : Nat} (hn : n ≤ 6) (ha : a < 2 ^ n) (hb : b < 2 ^ n) (hc : ppopI a 6 ≤ ppopI b 6) (H : φ (nI (b ^^^ vlf n a b n)) τ) : zCall G MX0_taken [.int (nI a), .int (nI b), .int (nI n)] τ (zpi φ) := by
  have h64 : 2 ^ n ≤ 2 ^ 6 := Nat.pow_le_pow_right (by decide) hn
  refine C_X0_taken _ _ _ τ ?_
  have hinv := vlf_inv hn ha hb hc
  have key : ∀ m k, k + m = n → zRun G MX0_taken 5 [(0, .int (nI a)), (1, .int (nI b)), (2, .int (nI n)), (3, .int (nI (vlf n a b k))), (4, .int (nI k))] [] τ (zpi φ) := by
    intro m
    induction m with
    | zero =>
      intro k e
      have e : k = n := by omega
      obtain ⟨-, i2, i3, -⟩ := hinv n (Nat.le_refl _)
      rw [e]
      refine V_X0_taken_5 _ _ _ _ _ τ ⟨fun _ => pi_ok ?_, fun q => absurd (nI_le (Nat.le_refl _) (by omega)) q⟩
      rw [(tb_sub b (by omega) _ (by omega) i3).1]
      exact H
    | succ m ih =>
      intro k e
      obtain ⟨-, i2, i3, i4⟩ := hinv k (by omega)
      refine V_X0_taken_5 _ _ _ _ _ τ ⟨fun q => absurd q (nI_ge (by omega) (by omega)), fun _ => ?_⟩
      rw [has_bit (by omega) (by omega), bit_if, i1]
      have hs := ih (k + 1) (by omega)
      rw [vlf_s] at hs
      refine ⟨fun q => ?_, fun q => ?_⟩
      · rwa [if_neg q] at hs
      · rw [if_pos q] at hs
        have h0 := i4 (by omega) q
        obtain ⟨q1, q2⟩ := tb_vq n (by omega) _ i2 h0 k (by omega)
        refine sp_ftl hn (by omega) i2 h0 ?_
        rwa [(tb_pop _ (by omega) _ (by omega) q1).2.2]
  have := key n 0 (by omega)
  rwa [nI_0] at this
theorem sp_wordOf {n b l : Nat} (hn : n ≤ 6) (hb : b < 2 ^ n) (hl : l < 2 ^ n) (hs : l &&& b = l) (H : φ (nI (vhor (vkd b l) n n)) τ) : zCall G MX0_wordOf [.int (nI (b ^^^ l)), .int (nI l), .int (nI n)] τ (zpi φ) := by
  have h64 : 2 ^ n ≤ 2 ^ 6 := Nat.pow_le_pow_right (by decide) hn
  have hx := xor_lt hb hl
  refine C_X0_wordOf _ _ _ τ ?_
  obtain ⟨-, -, tk⟩ := tb_sub b (by omega) l (by omega) hs
  have key : ∀ m t, t + m = n → zRun G MX0_wordOf 7 [(0, .int (nI (b ^^^ l))), (1, .int (nI l)), (3, .int (nI (vhor (vkd b l) n t))), (4, .int (nI m - 1))] [] τ (zpi φ) := by
    intro m
    induction m with
    | zero =>
      intro t e
      have e : t = n := by omega
      rw [e]
      exact V_X0_wordOf_7 _ _ _ _ τ ⟨fun _ => pi_ok H, fun q => absurd (by decide) q⟩
    | succ m ih =>
      intro t e
      obtain ⟨d1, d2, d3⟩ := tb_dn m (by omega)
      rw [d1]
      refine V_X0_wordOf_7 _ _ _ _ τ ⟨fun q => absurd q d3, fun _ => C_X0_kindAt _ _ _ τ (pi_ok ?_)⟩
      rw [has_bit (by omega) (by omega), has_bit (by omega) (by omega), tk m (by omega), d2, kx_3, nI_mul', nI_add]
      have h := ih (t + 1) (by omega)
      have em : n - (t + 1) = m := by omega
      have ev : vhor (vkd b l) n (t + 1) = vhor (vkd b l) n t * 3 + vkd b l m := by
        show 3 * vhor (vkd b l) n t + vkd b l (n - (t + 1)) = _
        rw [em, Nat.mul_comm]
      rwa [ev] at h
  exact key n 0 (by omega)
theorem sp_viewOf {v : Nat → Nat} {a b : Nat} (hL : LM v τ) (ha : a < 2 ^ v 0) (hb : b < 2 ^ v 0) (hc : ppopI a 6 ≤ ppopI b 6) (H : φ (nI (vhor (vkd b (vlf (v 0) a b (v 0))) (v 0) (v 0))) τ) : zCall G MX12_viewOf [.ref 29, .int (nI a), .int (nI b)] τ (zpi φ) := by
  have hn := hL.1.n.2
  have h64 : 2 ^ v 0 ≤ 2 ^ 6 := Nat.pow_le_pow_right (by decide) hn
  refine C_X12_viewOf _ _ τ (sp_mplaces hL ?_)
  generalize v 0 = n at *
  have hinv := vlf_inv hn ha hb hc
  have last : ∀ m t, t + m = n → zRun G MX12_viewOf 85 [(0, .ref 29), (2, .int (nI b)), (4, .int (nI (vlf n a b n))), (5, .int (nI (vhor (vkd b (vlf n a b n)) n t))), (6, .int (nI m - 1))] [] τ (zpi φ) := by
    obtain ⟨-, i2, -, -⟩ := hinv n (Nat.le_refl _)
    generalize vlf n a b n = l at *
    intro m
    induction m with
    | zero =>
      intro t e
      have e : t = n := by omega
      rw [e]
      exact V_X12_viewOf_85 _ _ _ _ τ ⟨fun _ => pi_ok H, fun q => absurd (by decide) q⟩
    | succ m ih =>
      intro t e
      obtain ⟨d1, d2, d3⟩ := tb_dn m (by omega)
      have h := ih (t + 1) (by omega)
      have em : n - (t + 1) = m := by omega
      have ev : vhor (vkd b l) n (t + 1) = 3 * vhor (vkd b l) n t + vkd b l m := by
        show 3 * vhor (vkd b l) n t + vkd b l (n - (t + 1)) = _
        rw [em]
      rw [ev, ← nI_add, ← nI_mul', ← kx_3] at h
      rw [d1]
      refine V_X12_viewOf_85 _ _ _ _ τ ⟨fun q => absurd q d3, fun _ => sp_has (by omega) (by omega) (b_b (fun p => sp_has (by omega) (by omega) (fun w hw => ?_)) (fun p => ?_))⟩
      · rw [d2, hw]
        have ek : (if (if l.testBit m = true then (1 : Int32) else 0) = 0 then (1 : Int32) else 2) = nI (vkd b l m) := by
          unfold vkd
          rw [if_pos p]
          by_cases hl : l.testBit m = true
          · rw [if_pos hl, if_pos hl]; decide
          · rw [if_neg hl, if_neg hl]; decide
        rw [ek]; exact h
      · rw [d2]
        have ek : (0 : Int32) = nI (vkd b l m) := by
          unfold vkd
          rw [if_neg p]; decide
        rw [ek]; exact h
  have key : ∀ m k, k + m = n → zRun G MX12_viewOf 11 [(0, .ref 29), (1, .int (nI a)), (2, .int (nI b)), (3, .int (nI n)), (4, .int (nI (vlf n a b k))), (5, .int (nI k))] [] τ (zpi φ) := by
    intro m
    induction m with
    | zero =>
      intro k e
      have e : k = n := by omega
      rw [e]
      exact V_X12_viewOf_11 _ _ _ _ _ τ ⟨fun _ => last n 0 (by omega), fun q => absurd (nI_le (Nat.le_refl _) (by omega)) q⟩
    | succ m ih =>
      intro k e
      obtain ⟨-, i2, i3, i4⟩ := hinv k (by omega)
      have hs := ih (k + 1) (by omega)
      rw [vlf_s] at hs
      refine V_X12_viewOf_11 _ _ _ _ _ τ ⟨fun q => absurd q (nI_ge (by omega) (by omega)), fun _ => sp_has (by omega) (by omega) (b_a (fun q => ?_) (fun q => ?_))⟩
      · rw [if_neg q] at hs
        rw [i1]; exact hs
      · rw [if_pos q] at hs
        have h0 := i4 (by omega) q
        obtain ⟨q1, q2⟩ := tb_vq n (by omega) _ i2 h0 k (by omega)
        generalize vlf n a b k = r at *
        have inner : ∀ f p, p < n → vq n f r p = vq n (n - 1) r k → zRun G MX12_viewOf 31 [(0, .ref 29), (1, .int (nI a)), (2, .int (nI b)), (3, .int (nI n)), (4, .int (nI r)), (5, .int (nI k)), (6, .int (nI p))] [] τ (zpi φ) := by
          have fin : ∀ p, p < n → p = vq n (n - 1) r k → zRun G MX12_viewOf 31 [(0, .ref 29), (1, .int (nI a)), (2, .int (nI b)), (3, .int (nI n)), (4, .int (nI r)), (5, .int (nI k)), (6, .int (nI p))] [] τ (zpi φ) := by
            intro p hp hv
            refine V_X12_viewOf_31 _ _ _ _ _ _ τ (sp_has (by omega) (by omega) (b_b (fun _ => ?_) (fun q => absurd (by rw [hv]; exact q1) q)))
            rw [one_shl (by omega), nx_xor, i1, hv]; exact hs
          intro f
          induction f with
          | zero => intro p hp hv; exact fin p hp hv
          | succ f ihf =>
            intro p hp hv
            have hv' : (if r.testBit p then p else vq n f r (if p = 0 then n - 1 else p - 1)) = vq n (n - 1) r k := hv
            by_cases hb' : r.testBit p = true
            · rw [if_pos hb'] at hv'
              exact fin p hp hv'
            · rw [if_neg hb'] at hv'
              refine V_X12_viewOf_31 _ _ _ _ _ _ τ (sp_has (by omega) (by omega) (b_b (fun q => absurd q hb') (fun _ w hw => ?_)))
              have ez : (if nI p ≤ 0 then nI n - (1 : Int32) else nI p - 1) = nI (if p = 0 then n - 1 else p - 1) := by
                rw [← vdn hn hp]
                by_cases e0 : p = 0
                · rw [if_pos ((nI_lz (by omega)).2 e0), if_pos ((nI_z (by omega)).2 e0)]
                · rw [if_neg (fun q => e0 ((nI_lz (by omega)).1 q)), if_neg (fun q => e0 ((nI_z (by omega)).1 q))]
              rw [hw, ez]
              exact ihf _ (by split <;> omega) hv'
        exact inner (n - 1) k (by omega) rfl
  have := key n 0 (by omega)
  rwa [nI_0] at this
end KN
theorem pop_cmp {a b : Nat} : nI (ppop a) ≤ nI (ppop b) ↔ ppop a ≤ ppop b := by
  have h1 := ppop_le a
  have h2 := ppop_le b
  rw [nI_leI (by omega) (by omega)]
theorem pair_view {G : hz_G} {τ : hz_T} (hI : Inv τ) (x0 : Int32) (x1 : Int32) : PI G MX11_view MX12_view [.ref 0, .int x0, .int x1] [.ref 29, .int x0, .int x1] τ := by
  obtain ⟨v, hv⟩ := hI.to
  have hl := hv.1
  have hn := hl.1.n
  have h64 : 2 ^ v 0 ≤ 2 ^ 6 := Nat.pow_le_pow_right (by decide) hn.2
  refine C_X11_view x0 x1 τ (sp_cisState hl.c (b_a (fun hp => pi_ok ?_) (fun hp => sp_cisState hl.c (b_a (fun hr => pi_ok ?_) (fun hr => ?_)))))
  · exact C_X12_view x0 x1 τ (sp_misState hl.m (b_a (fun _ => pi_ok ⟨rfl, hI⟩) (fun h => absurd h hp)))
  · exact C_X12_view x0 x1 τ (sp_misState hl.m (b_a (fun h => absurd hp h) (fun _ => sp_misState hl.m (b_a (fun _ => pi_ok ⟨rfl, hI⟩) (fun h => absurd h hr)))))
  · obtain ⟨a, ha, rfl⟩ := st_of hp
    obtain ⟨b, hb, rfl⟩ := st_of hr
    refine sp_bc (sp_bc ?_)
    rw [bcf_eq (by omega), bcf_eq (by omega), pop_cmp]
    have pa := pop6 hn.2 ha
    have pb := pop6 hn.2 hb
    refine ⟨fun hle => ?_, fun hle => pi_ok ?_⟩
    · have hc : ppopI a 6 ≤ ppopI b 6 := by omega
      obtain ⟨-, i2, i3, -⟩ := vlf_inv hn.2 ha hb hc (v 0) (Nat.le_refl _)
      refine sp_cplaces hl.c (sp_taken hn.2 ha hb hc ?_)
      rw [(tb_sub b (by omega) _ (by omega) i3).2.1]
      refine sp_wordOf hn.2 hb i2 i3 (pi_ok ?_)
      refine C_X12_view _ _ τ (sp_misState hl.m (b_a (fun h => absurd hp h) (fun _ => sp_misState hl.m (b_a (fun h => absurd hr h) (fun _ => ?_)))))
      rw [toI64 (by omega), toI64 (by omega)]
      refine sp_sizeOf (by omega) (sp_sizeOf (by omega) ?_)
      rw [pop_cmp]
      exact ⟨fun _ => sp_viewOf hl.m ha hb hc (pi_ok ⟨rfl, hI⟩), fun q => absurd hle q⟩
    · refine C_X12_view _ _ τ (sp_misState hl.m (b_a (fun h => absurd hp h) (fun _ => sp_misState hl.m (b_a (fun h => absurd hr h) (fun _ => ?_)))))
      rw [toI64 (by omega), toI64 (by omega)]
      refine sp_sizeOf (by omega) (sp_sizeOf (by omega) ?_)
      rw [pop_cmp]
      exact ⟨fun q => absurd q hle, fun _ => pi_ok ⟨rfl, hI⟩⟩

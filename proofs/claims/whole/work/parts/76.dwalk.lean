/-! the walk of a determinant -/
theorem idm_inj {m a b i j : Nat} (hb : b < m) (hj : j < m) (h : a * m + b = i * m + j) : a = i ∧ b = j := by
  have e1 : (a * m + b) / m = a := by rw [Nat.add_comm, Nat.add_mul_div_right _ _ (by omega), Nat.div_eq_of_lt hb, Nat.zero_add]
  have e2 : (i * m + j) / m = i := by rw [Nat.add_comm, Nat.add_mul_div_right _ _ (by omega), Nat.div_eq_of_lt hj, Nat.zero_add]
  have e : a = i := by rw [← e1, ← e2, h]
  subst e
  exact ⟨rfl, by omega⟩
theorem idx_lt {m i j : Nat} (hi : i < m) (hj : j < m) : i * m + j < m * m := by
  have : (i + 1) * m ≤ m * m := Nat.mul_le_mul_right _ hi
  rw [Nat.succ_mul] at this
  omega
theorem idx_I (i m j : Nat) : nI i * nI m + nI j = nI (i * m + j) := by rw [nI_mul', nI_add]
section DW
variable {G : hz_G} {τ : hz_T} {χ : hz_T → Prop} {ψ : Int64 → hz_T → Prop}
theorem sp_clearBelow {q0 n0 : Nat} (hq0 : q0 < 49) (hs0 : hz_sh q0 = (22, n0)) (hn0 : n0 < 2 ^ 31) {m k : Nat} (hm : m * m ≤ n0) (hk : k < m) {A : Nat → Nat → Int64} (hA : ∀ i j, i < m → j < m → τ.1.2 q0 (i * m + j) = A i j) {bf : Int64} (H : ∀ τ', Sm [q0] τ τ' → (∀ i j, i < m → j < m → τ'.1.2 q0 (i * m + j) = pclr A m k bf i j) → χ τ') : zCall G MX9_clearBelow [.ref q0, .int (nI m), .int (nI k), .long bf] τ (zpv χ) := by
  have hmm : m ≤ m * m := Nat.le_mul_self m
  have hkk := idx_lt hk hk
  refine C_X9_clearBelow hq0 hs0 hn0 _ _ _ τ ⟨k * m + k, idx_I k m k, by omega, ?_⟩
  rw [i1, hA k k hk hk]
  have outer : ∀ d i τ1, i + d = m → k + 1 ≤ i → Sm [q0] τ τ1 → (∀ a b, a < m → b < m → τ1.1.2 q0 (a * m + b) = if a < i then pclr A m k bf a b else A a b) → zRun G MX9_clearBelow 14 [(0, .ref q0), (1, .int (nI m)), (2, .int (nI k)), (3, .long bf), (5, .long (A k k)), (7, .int (nI i))] [] τ1 (zpv χ) := by
    intro d
    induction d with
    | zero =>
      intro i τ1 e hki g1 g2
      have e : i = m := by omega
      subst e
      refine V_X9_clearBelow_14 hq0 hs0 hn0 _ _ _ _ _ τ1 ⟨fun _ => pv_ok (H τ1 g1 (fun a b ha hb => ?_)), fun q => absurd (nI_le (Nat.le_refl _) (by omega)) q⟩
      rw [g2 a b ha hb, if_pos ha]
    | succ d ih =>
      intro i τ1 e hki g1 g2
      have hi : i < m := by omega
      refine V_X9_clearBelow_14 hq0 hs0 hn0 _ _ _ _ _ τ1 ⟨fun q => absurd q (nI_ge (by omega) (by omega)), fun _ => ?_⟩
      rw [i1]
      have inner : ∀ d j τ2, j + d = m → k + 1 ≤ j → Sm [q0] τ τ2 → (∀ a b, a < m → b < m → τ2.1.2 q0 (a * m + b) = if a < i ∨ (a = i ∧ b < j) then pclr A m k bf a b else A a b) → zRun G MX9_clearBelow 25 [(0, .ref q0), (1, .int (nI m)), (2, .int (nI k)), (3, .long bf), (5, .long (A k k)), (7, .int (nI i)), (8, .int (nI j))] [] τ2 (zpv χ) := by
        intro d
        induction d with
        | zero =>
          intro j τ2 e' hkj g3 g4
          have e' : j = m := by omega
          subst e'
          refine V_X9_clearBelow_25 hq0 hs0 hn0 _ _ _ _ _ _ τ2 ⟨fun _ => ?_, fun q => absurd (nI_le (Nat.le_refl _) (by omega)) q⟩
          rw [i1]
          refine ih (i + 1) τ2 (by omega) (by omega) g3 (fun a b ha hb => ?_)
          rw [g4 a b ha hb]
          by_cases w : a < i + 1
          · rw [if_pos w, if_pos (by omega)]
          · rw [if_neg w, if_neg (by omega)]
        | succ d ihd =>
          intro j τ2 e' hkj g3 g4
          have hj : j < m := by omega
          have b1 := idx_lt hi hj
          have b2 := idx_lt hi hk
          have b3 := idx_lt hk hj
          have r1 : τ2.1.2 q0 (i * m + j) = A i j := by rw [g4 i j hi hj, if_neg (by omega)]
          have r2 : τ2.1.2 q0 (i * m + k) = A i k := by
            rw [g4 i k hi hk]
            split
            · unfold pclr
              rw [if_neg (by omega)]
            · rfl
          have r3 : τ2.1.2 q0 (k * m + j) = A k j := by
            rw [g4 k j hk hj]
            split
            · unfold pclr
              rw [if_neg (by omega)]
            · rfl
          have hn : pclr A m k bf i j = if bf = 0 then 0 else (A i j * A k k - A i k * A k j) / bf := by
            unfold pclr
            rw [if_pos ⟨by omega, hi, by omega, hj⟩]
          have hnext : ∀ x : Int64, x = pclr A m k bf i j → zRun G MX9_clearBelow 25 [(0, .ref q0), (1, .int (nI m)), (2, .int (nI k)), (3, .long bf), (5, .long (A k k)), (7, .int (nI i)), (8, .int (nI (j + 1)))] [] (zL τ2 q0 (i * m + j) x) (zpv χ) := by
            intro x hx
            refine ihd (j + 1) _ (by omega) (by omega) (g3.L (List.mem_cons_self ..)) (fun a b ha hb => ?_)
            rw [zL_at]
            by_cases w : a = i ∧ b = j
            · rw [if_pos ⟨rfl, by rw [w.1, w.2]⟩, if_pos (by omega), hx, w.1, w.2]
            · rw [if_neg (fun y => w (idm_inj hb hj y.2)), g4 a b ha hb]
              by_cases z : a < i ∨ (a = i ∧ b < j)
              · rw [if_pos z, if_pos (by omega)]
              · rw [if_neg z, if_neg (by omega)]
          refine V_X9_clearBelow_25 hq0 hs0 hn0 _ _ _ _ _ _ τ2 ⟨fun q => absurd q (nI_ge (by omega) (by omega)), fun _ => ⟨i * m + j, idx_I i m j, by omega, i * m + k, idx_I i m k, by omega, k * m + j, idx_I k m j, by omega, fun x hx => ?_⟩⟩
          rw [r1, r2, r3] at hx
          rw [i1, lgc_eq]
          refine ⟨fun q => ⟨q, i * m + j, idx_I i m j, by omega, hnext _ ?_⟩, fun q => ⟨i * m + j, idx_I i m j, by omega, hnext _ ?_⟩⟩
          · rw [hn, if_neg q, hx]
          · rw [hn, if_pos q]
      refine inner (m - (k + 1)) (k + 1) τ1 (by omega) (Nat.le_refl _) g1 (fun a b ha hb => ?_)
      rw [g2 a b ha hb]
      by_cases w : a < i
      · rw [if_pos w, if_pos (Or.inl w)]
      · rw [if_neg w]
        by_cases z : a < i ∨ (a = i ∧ b < k + 1)
        · rw [if_pos z]
          unfold pclr
          rw [if_neg (by omega)]
        · rw [if_neg z]
  refine outer (m - (k + 1)) (k + 1) τ (by omega) (Nat.le_refl _) Sm.rf (fun a b ha hb => ?_)
  rw [hA a b ha hb]
  split
  · unfold pclr
    rw [if_neg (by omega)]
  · rfl
theorem sp_det {q0 n0 : Nat} (hq0 : q0 < 49) (hs0 : hz_sh q0 = (22, n0)) (hn0 : n0 < 2 ^ 31) {m : Nat} (hm : m * m ≤ n0) {A : Nat → Nat → Int64} (hA : ∀ i j, i < m → j < m → τ.1.2 q0 (i * m + j) = A i j) (H : ∀ τ', Sm [q0] τ τ' → ψ (pdet m A) τ') : zCall G MX9_determinant [.ref q0, .int (nI m)] τ (zpl ψ) := by
  have hmm : m ≤ m * m := Nat.le_mul_self m
  refine C_X9_determinant hq0 hs0 hn0 _ τ ⟨fun q => (neg_no (by omega) q).elim, fun _ => ?_⟩
  rw [nI_mul', nI_leI (by omega) hn0]
  refine ⟨fun _ => ?_, fun q => absurd hm q⟩
  have loop : ∀ d k τ1 (B : Nat → Nat → Int64) (bf : Int64), k + d = m → Sm [q0] τ τ1 → (∀ i j, i < m → j < m → τ1.1.2 q0 (i * m + j) = B i j) → (∀ τ', Sm [q0] τ τ' → ψ (pdetF m d B k bf) τ') → zRun G MX9_determinant 19 [(0, .ref q0), (1, .int (nI m)), (2, .long bf), (4, .int (nI k))] [] τ1 (zpl ψ) := by
    intro d
    induction d with
    | zero =>
      intro k τ1 B bf e g1 g2 K
      have e : k = m := by omega
      subst e
      exact V_X9_determinant_19 hq0 hs0 hn0 _ _ _ τ1 ⟨fun _ => pl_ok (K τ1 g1), fun q => absurd (nI_le (Nat.le_refl _) (by omega)) q⟩
    | succ d ih =>
      intro k τ1 B bf e g1 g2 K
      have hk : k < m := by omega
      have b1 := idx_lt hk hk
      refine V_X9_determinant_19 hq0 hs0 hn0 _ _ _ τ1 ⟨fun q => absurd q (nI_ge (by omega) (by omega)), fun _ => sp_clearBelow hq0 hs0 hn0 hm hk g2 (fun τ2 g3 g4 => ⟨k * m + k, idx_I k m k, by omega, ?_⟩)⟩
      have ekk : τ2.1.2 q0 (k * m + k) = B k k := by
        rw [g4 k k hk hk]
        unfold pclr
        rw [if_neg (by omega)]
      have K2 : ∀ τ', Sm [q0] τ τ' → ψ (if B k k = 0 then 0 else pdetF m d (pclr B m k bf) (k + 1) (B k k)) τ' := K
      rw [ekk, lgc_eq, i1]
      refine ⟨fun q => ih (k + 1) τ2 _ _ (by omega) (g1.tr g3) g4 (fun τ' h => ?_), fun q => pl_ok ?_⟩
      · have := K2 τ' h
        rw [if_neg q] at this
        exact this
      · have := K2 τ2 (g1.tr g3)
        rw [if_pos q] at this
        exact this
  exact loop m 0 τ A 1 (by omega) Sm.rf hA H
end DW
/-! the determinant of a table that is eliminated without a loss -/
theorem pdetF_eq {M : Nat → Nat → Int} {m : Nat} (h : zOK M m) : ∀ n k (A : Nat → Nat → Int64), k + n = m → (∀ i j, k ≤ i → i < m → k ≤ j → j < m → A i j = iL (zb M k i j)) → pdetF m n A k (iL (zdet k M)) = iL (zdet m M) := by
  intro n
  induction n with
  | zero =>
    intro k A e _
    have e : k = m := by omega
    rw [e]; rfl
  | succ n ih =>
    intro k A e hA
    have hk : k < m := by omega
    have hkk := hA k k (Nat.le_refl _) hk (Nat.le_refl _) hk
    have hd := h.1 (k + 1) (by omega)
    have hd0 := h.1 k (by omega)
    rw [zb_kk] at hkk
    have hne : ¬ A k k = 0 := by
      rw [hkk]
      exact iL_ne (by omega) (by omega) (by omega)
    have hne0 : ¬ iL (zdet k M) = 0 := iL_ne (by omega) (by omega) (by omega)
    show (if A k k = 0 then 0 else pdetF m n (pclr A m k (iL (zdet k M))) (k + 1) (A k k)) = _
    rw [if_neg hne, hkk]
    refine ih (k + 1) _ (by omega) (fun i j hi him hj hjm => ?_)
    unfold pclr
    rw [if_pos ⟨by omega, him, by omega, hjm⟩, if_neg hne0, hA i j (by omega) him (by omega) hjm, hkk, hA i k (by omega) him (Nat.le_refl _) hk, hA k j (Nat.le_refl _) hk (by omega) hjm, ← zb_kk]
    exact h.2.2 k i j (by omega) hi him hj hjm
theorem pdet_eq {M : Nat → Nat → Int} {m : Nat} (h : zOK M m) {A : Nat → Nat → Int64} (hA : ∀ i j, i < m → j < m → A i j = iL (M i j)) : pdet m A = iL (zdet m M) := pdetF_eq h m 0 A (by omega) (fun i j _ hi _ hj => by rw [hA i j hi hj, zb_0])
theorem tb_ng : ∀ a, a < 64 → (-(nI a)).toInt64 = iL (-(a : Int)) := by decide +kernel
def wN (v : Nat → Nat) (P r : Nat) : Nat := (zdet (ppop P - 1) (zM v P r)).toNat
theorem pofl_z {v : Nat → Nat} (h : LaneOK v) (P i j : Nat) : pofl v (pmem P) i j = if i = j then lN (pout v (memP P i)) else iL (-(prate v (memP P i) (memP P j) : Int)) := by
  have h1 := pout_le h (memP P i)
  have h2 := prate_le h (memP P i) (memP P j)
  unfold pofl
  by_cases q : i = j
  · rw [if_pos q, if_pos q]
    exact toI64 (by have := h1; unfold memP at this; omega)
  · rw [if_neg q, if_neg q]
    exact tb_ng (prate v (memP P i) (memP P j)) (by omega)
theorem pwt_w {v : Nat → Nat} (hK : LaneOK v) {s : Nat} (hs : s < 2 ^ v 0) (hsh : preach v s = ppart v s) (hN : ppop (ppart v s) ≤ 8) {r : Nat} (hr : r < ppop (ppart v s)) : pwt v (pmem (ppart v s)) r = lN (wN v (ppart v s) r) ∧ 0 < wN v (ppart v s) r ∧ wN v (ppart v s) r < 2 ^ 40 := by
  have ok := zM_OK hK hs hsh hN hr
  have hd := ok.1 (ppop (ppart v s) - 1) (Nat.le_refl _)
  have e : pwt v (pmem (ppart v s)) r = iL (zdet (ppop (ppart v s) - 1) (zM v (ppart v s) r)) := by
    refine pdet_eq ok (fun i j hi hj => ?_)
    rw [pofl_z hK]
    unfold zM
    by_cases q : i = j
    · rw [if_pos (by rw [q]), if_pos q, iL_N]
    · rw [if_neg (fun y => q (psk_inj y)), if_neg q]
  have e2 : ((wN v (ppart v s) r : Nat) : Int) = zdet (ppop (ppart v s) - 1) (zM v (ppart v s) r) := by
    unfold wN
    omega
  refine ⟨?_, by omega, by omega⟩
  rw [e, ← e2, iL_N]

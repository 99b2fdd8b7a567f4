/-! the reference's weights -/
theorem ix8 (i j : Nat) : (8 : Int32) * nI i + nI j = nI (8 * i + j) := by rw [kx_8, nI_mul', nI_add]
theorem psk_I {r i : Nat} (hr : r < 2 ^ 20) (hi : i < 2 ^ 20) : (if nI r ≤ nI i then (nI i + (1 : Int32)) else nI i) = nI (psk r i) := by
  unfold psk
  by_cases q : i < r
  · rw [if_pos q, if_neg (nI_ge q (by omega))]
  · rw [if_neg q, if_pos (nI_le (by omega) (by omega)), i1]
def MR (v : Nat → Nat) (P : Nat) (τ : hz_T) : Prop := τ.1.1 29 15 = nI (ppop P) ∧ (∀ i, i < ppop P → τ.1.1 36 i = nI (memP P i)) ∧ (∀ i, i < ppop P → τ.1.2 37 i = lN (wN v P i))
section MW
variable {G : hz_G} {τ : hz_T} {v : Nat → Nat} {χ : hz_T → Prop} {φ : Int32 → hz_T → Prop} {ψ : Int64 → hz_T → Prop}
theorem sp_mweightOf (hL : LM v τ) {s : Nat} (hs : s < 2 ^ v 0) (hsh : preach v s = ppart v s) (hN : ppop (ppart v s) ≤ 8) (h15 : τ.1.1 29 15 = nI (ppop (ppart v s))) (hm : ∀ i, i < ppop (ppart v s) → τ.1.1 36 i = nI (memP (ppart v s) i)) {r : Nat} (hr : r < ppop (ppart v s)) (H : ∀ τ', Sk [38] τ τ' → ψ (lN (wN v (ppart v s) r)) τ') : zCall G MX12_weightOf [.ref 29, .int (nI r)] τ (zpl ψ) := by
  have hK := hL.1
  have ok := zM_OK hK hs hsh hN hr
  have hw := pwt_w hK hs hsh hN hr
  obtain ⟨m, hm1⟩ : ∃ m, ppop (ppart v s) = m + 1 := ⟨ppop (ppart v s) - 1, by omega⟩
  have eW : lN (wN v (ppart v s) r) = iL (zdet m (zM v (ppart v s) r)) := by
    have hd := ok.1 (ppop (ppart v s) - 1) (Nat.le_refl _)
    rw [hm1, Nat.add_sub_cancel] at hd
    have e2 : ((wN v (ppart v s) r : Nat) : Int) = zdet m (zM v (ppart v s) r) := by
      unfold wN
      rw [hm1, Nat.add_sub_cancel]
      omega
    rw [← iL_N, e2]
  rw [hm1, Nat.add_sub_cancel] at ok
  rw [eW] at H
  have e1 : τ.1.1 29 15 - (1 : Int32) = nI m := by rw [h15, hm1, kx_1, pk_sub (by omega), Nat.add_sub_cancel]
  refine C_X12_weightOf _ τ ?_
  rw [e1]
  generalize hM : zM v (ppart v s) r = M at ok H
  -- the elimination
  have elim : ∀ d k τ1, k + 1 + d = m → Sk [38] τ τ1 → (∀ a b, k ≤ a → a < m → k ≤ b → b < m → τ1.1.2 38 (8 * a + b) = iL (zb M k a b)) → zRun G MX12_weightOf 150 [(0, .ref 29), (2, .int (nI m)), (3, .long (iL (zdet k M))), (5, .int (nI k))] [] τ1 (zpl ψ) := by
    intro d
    induction d with
    | zero =>
      intro k τ1 e g1 g2
      have e : m = k + 1 := by omega
      refine V_X12_weightOf_150 _ _ _ τ1 ?_
      rw [i1, ← e]
      refine ⟨fun _ => ⟨fun _ => ⟨8 * k + k, ?_, by omega, pl_ok ?_⟩, fun q => absurd ((nI_eq (a := m) (b := 0) (by omega) (by decide)).1 q) (by omega)⟩, fun q => absurd (nI_le (Nat.le_refl _) (by omega)) q⟩
      · rw [kx_1, pk_sub (by omega), kx_8, nI_mul', nI_add, pk_sub (by omega)]
        congr 1
        omega
      · rw [g2 k k (Nat.le_refl _) (by omega) (Nat.le_refl _) (by omega), zb_kk, ← e]
        exact H τ1 g1
    | succ d ih =>
      intro k τ1 e g1 g2
      have hd := ok.1 k (by omega)
      have hne : ¬ iL (zdet k M) = 0 := iL_ne (by omega) (by omega) (by omega)
      refine V_X12_weightOf_150 _ _ _ τ1 ?_
      rw [i1]
      refine ⟨fun q => absurd q (nI_ge (by omega) (by omega)), fun _ => ?_⟩
      have outer : ∀ f i τ2, i + f = m → k + 1 ≤ i → Sk [38] τ τ2 → (∀ a b, k ≤ a → a < m → k ≤ b → b < m → τ2.1.2 38 (8 * a + b) = if k < a ∧ k < b ∧ a < i then iL (zb M (k + 1) a b) else iL (zb M k a b)) → zRun G MX12_weightOf 164 [(0, .ref 29), (2, .int (nI m)), (3, .long (iL (zdet k M))), (5, .int (nI k)), (6, .int (nI i))] [] τ2 (zpl ψ) := by
        intro f
        induction f with
        | zero =>
          intro i τ2 e2 hki g3 g4
          have e2 : i = m := by omega
          refine V_X12_weightOf_164 _ _ _ _ τ2 ?_
          rw [e2]
          refine ⟨fun _ => ⟨8 * k + k, ix8 k k, by omega, ?_⟩, fun q => absurd (nI_le (Nat.le_refl _) (by omega)) q⟩
          rw [g4 k k (Nat.le_refl _) (by omega) (Nat.le_refl _) (by omega), if_neg (by omega), zb_kk, i1]
          refine ih (k + 1) τ2 (by omega) g3 (fun a b ha ham hb hbm => ?_)
          rw [g4 a b (by omega) ham (by omega) hbm, if_pos ⟨by omega, by omega, by omega⟩]
        | succ f ihf =>
          intro i τ2 e2 hki g3 g4
          have hi : i < m := by omega
          refine V_X12_weightOf_164 _ _ _ _ τ2 ⟨fun q => absurd q (nI_ge (by omega) (by omega)), fun _ => ?_⟩
          rw [i1]
          have inner : ∀ f j τ3, j + f = m → k + 1 ≤ j → Sk [38] τ τ3 → (∀ a b, k ≤ a → a < m → k ≤ b → b < m → τ3.1.2 38 (8 * a + b) = if k < a ∧ k < b ∧ (a < i ∨ (a = i ∧ b < j)) then iL (zb M (k + 1) a b) else iL (zb M k a b)) → zRun G MX12_weightOf 176 [(0, .ref 29), (2, .int (nI m)), (3, .long (iL (zdet k M))), (5, .int (nI k)), (6, .int (nI i)), (7, .int (nI j))] [] τ3 (zpl ψ) := by
            intro f
            induction f with
            | zero =>
              intro j τ3 e3 hkj g5 g6
              have e3 : j = m := by omega
              refine V_X12_weightOf_176 _ _ _ _ _ τ3 ?_
              rw [e3, i1]
              refine ⟨fun _ => ihf (i + 1) τ3 (by omega) (by omega) g5 (fun a b ha ham hb hbm => ?_), fun q => absurd (nI_le (Nat.le_refl _) (by omega)) q⟩
              rw [g6 a b ha ham hb hbm]
              by_cases w : k < a ∧ k < b ∧ a < i + 1
              · rw [if_pos w, if_pos (by omega)]
              · rw [if_neg w, if_neg (by omega)]
            | succ f ihg =>
              intro j τ3 e3 hkj g5 g6
              have hj : j < m := by omega
              refine V_X12_weightOf_176 _ _ _ _ _ τ3 ⟨fun q => absurd q (nI_ge (by omega) (by omega)), fun _ => ⟨8 * i + j, ix8 i j, by omega, 8 * k + k, ix8 k k, by omega, 8 * i + k, ix8 i k, by omega, 8 * k + j, ix8 k j, by omega, hne, 8 * i + j, ix8 i j, by omega, ?_⟩⟩
              rw [g6 i j (by omega) hi (by omega) hj, if_neg (by omega), g6 k k (Nat.le_refl _) (by omega) (Nat.le_refl _) (by omega), if_neg (by omega), g6 i k (by omega) hi (Nat.le_refl _) (by omega), if_neg (by omega), g6 k j (Nat.le_refl _) (by omega) (by omega) hj, if_neg (by omega), ok.2.2 k i j (by omega) (by omega) hi (by omega) hj, i1 j]
              refine ihg (j + 1) _ (by omega) (by omega) (g5.L (by decide)) (fun a b ha ham hb hbm => ?_)
              rw [zL_at]
              by_cases w : a = i ∧ b = j
              · rw [if_pos ⟨rfl, by rw [w.1, w.2]⟩, if_pos (by omega), w.1, w.2]
              · rw [if_neg (by omega), g6 a b ha ham hb hbm]
                by_cases z : k < a ∧ k < b ∧ (a < i ∨ (a = i ∧ b < j))
                · rw [if_pos z, if_pos (by omega)]
                · rw [if_neg z, if_neg (by omega)]
          refine inner (m - (k + 1)) (k + 1) τ2 (by omega) (Nat.le_refl _) g3 (fun a b ha ham hb hbm => ?_)
          rw [g4 a b ha ham hb hbm]
          by_cases w : k < a ∧ k < b ∧ a < i
          · rw [if_pos w, if_pos (by omega)]
          · rw [if_neg w, if_neg (by omega)]
      refine outer (m - (k + 1)) (k + 1) τ1 (by omega) (Nat.le_refl _) g1 (fun a b ha ham hb hbm => ?_)
      rw [g2 a b ha ham hb hbm, if_neg (by omega)]
  -- the table
  have fill : ∀ d i τ1, i + d = m → Sk [38] τ τ1 → (∀ a b, a < i → b < m → τ1.1.2 38 (8 * a + b) = iL (M a b)) → zRun G MX12_weightOf 9 [(0, .ref 29), (1, .int (nI r)), (2, .int (nI m)), (3, .int (nI i))] [] τ1 (zpl ψ) := by
    intro d
    induction d with
    | zero =>
      intro i τ1 e g1 g2
      have e : i = m := by omega
      refine V_X12_weightOf_9 _ _ _ τ1 ?_
      rw [e]
      refine ⟨fun _ => ?_, fun q => absurd (nI_le (Nat.le_refl _) (by omega)) q⟩
      rcases Nat.eq_zero_or_pos m with z | z
      · refine V_X12_weightOf_150 _ _ _ τ1 ?_
        rw [z]
        refine ⟨fun _ => ⟨fun q => absurd rfl q, fun _ => pl_ok ?_⟩, fun q => absurd (show nI 0 ≤ nI 0 + 1 by decide) q⟩
        have := H τ1 g1
        rw [z] at this
        exact this
      · exact elim (m - 1) 0 τ1 (by omega) g1 (fun a b _ ham _ hbm => by rw [g2 a b (by omega) hbm, zb_0])
    | succ d ih =>
      intro i τ1 e g1 g2
      have hi : i < m := by omega
      have hpi := psk_le (j := r) hi
      have mi := memP_at (show psk r i < ppop (ppart v s) by omega)
      have hm1' : ∀ i, i < ppop (ppart v s) → τ1.1.1 36 i = nI (memP (ppart v s) i) := fun i hi => by rw [(g1.1 36 (by decide)).1]; exact hm i hi
      have h151 : τ1.1.1 29 15 = nI (ppop (ppart v s)) := by rw [(g1.1 29 (by decide)).1]; exact h15
      have hL1 := hL.sk g1 (by decide)
      have ba := part_lt mi.1
      refine V_X12_weightOf_9 _ _ _ τ1 ⟨fun q => absurd q (nI_ge (by omega) (by omega)), fun _ => ⟨psk r i, psk_I (by omega) (by omega), by omega, ?_⟩⟩
      rw [hm1' _ (by omega)]
      have row : ∀ f j τ2, j + f = m → Sk [38] τ τ2 → (∀ a b, (a < i ∨ (a = i ∧ b < j)) → b < m → τ2.1.2 38 (8 * a + b) = iL (M a b)) → zRun G MX12_weightOf 76 [(0, .ref 29), (1, .int (nI r)), (2, .int (nI m)), (3, .int (nI i)), (4, .int (nI (memP (ppart v s) (psk r i)))), (5, .long (lN (pout v (memP (ppart v s) (psk r i))))), (7, .int (nI j))] [] τ2 (zpl ψ) := by
        intro f
        induction f with
        | zero =>
          intro j τ2 e2 g3 g4
          have e2 : j = m := by omega
          refine V_X12_weightOf_76 _ _ _ _ _ _ τ2 ?_
          rw [e2, i1 i]
          exact ⟨fun _ => ih (i + 1) τ2 (by omega) g3 (fun a b ha hb => g4 a b (by omega) hb), fun q => absurd (nI_le (Nat.le_refl _) (by omega)) q⟩
        | succ f ihf =>
          intro j τ2 e2 g3 g4
          have hj : j < m := by omega
          have hpj := psk_le (j := r) hj
          have mj := memP_at (show psk r j < ppop (ppart v s) by omega)
          have bb := part_lt mj.1
          have hrt := prate_le hK (memP (ppart v s) (psk r i)) (memP (ppart v s) (psk r j))
          have hnext : ∀ x : Int64, x = iL (M i j) → zRun G MX12_weightOf 76 [(0, .ref 29), (1, .int (nI r)), (2, .int (nI m)), (3, .int (nI i)), (4, .int (nI (memP (ppart v s) (psk r i)))), (5, .long (lN (pout v (memP (ppart v s) (psk r i))))), (7, .int (nI (j + 1)))] [] (zL τ2 38 (8 * i + j) x) (zpl ψ) := by
            intro x hx
            refine ihf (j + 1) _ (by omega) (g3.L (by decide)) (fun a b hab hb => ?_)
            rw [zL_at]
            by_cases w : a = i ∧ b = j
            · rw [if_pos ⟨rfl, by rw [w.1, w.2]⟩, hx, w.1, w.2]
            · rw [if_neg (by omega)]
              exact g4 a b (by omega) hb
          refine V_X12_weightOf_76 _ _ _ _ _ _ τ2 ⟨fun q => absurd q (nI_ge (by omega) (by omega)), fun _ => ?_⟩
          rw [nI_eq (by omega) (by omega), i1 j]
          refine ⟨fun q => ⟨psk r j, by rw [← i1 j]; exact psk_I (by omega) (by omega), by omega, ?_⟩, fun q => ⟨8 * i + j, ix8 i j, by omega, hnext _ ?_⟩⟩
          · have h36 : τ2.1.1 36 (psk r j) = nI (memP (ppart v s) (psk r j)) := by rw [(g3.1 36 (by decide)).1]; exact hm _ (by omega)
            rw [h36]
            refine sp_rateOf (hL.sk g3 (by decide)) ba bb ⟨8 * i + j, ix8 i j, by omega, hnext _ ?_⟩
            rw [tb_ng _ (by omega), ← hM]
            unfold zM
            rw [if_neg q]
          · rw [← hM]
            unfold zM
            rw [if_pos q, iL_N]
      have out : ∀ f j, j + f = ppop (ppart v s) → zRun G MX12_weightOf 39 [(0, .ref 29), (1, .int (nI r)), (2, .int (nI m)), (3, .int (nI i)), (4, .int (nI (memP (ppart v s) (psk r i)))), (5, .long (lN (psum j (fun t => prate v (memP (ppart v s) (psk r i)) (memP (ppart v s) t))))), (7, .int (nI j))] [] τ1 (zpl ψ) := by
        intro f
        induction f with
        | zero =>
          intro j e2
          have e2 : j = ppop (ppart v s) := by omega
          refine V_X12_weightOf_39 _ _ _ _ _ _ τ1 ?_
          rw [h151, e2, out_mem hK hs hsh mi.1]
          exact ⟨fun _ => row m 0 τ1 (by omega) g1 (fun a b hab hb => g2 a b (by omega) hb), fun q => absurd (nI_le (Nat.le_refl _) (by omega)) q⟩
        | succ f ihf =>
          intro j e2
          have hj : j < ppop (ppart v s) := by omega
          have mj := memP_at hj
          have h := ihf (j + 1) (by omega)
          have hrt := prate_le hK (memP (ppart v s) (psk r i)) (memP (ppart v s) j)
          refine V_X12_weightOf_39 _ _ _ _ _ _ τ1 ?_
          rw [h151, i1 j]
          refine ⟨fun q => absurd q (nI_ge (by omega) (by omega)), fun _ => ⟨j, rfl, by omega, ?_⟩⟩
          rw [hm1' j hj]
          refine sp_rateOf hL1 ba (part_lt mj.1) ?_
          rw [toI64 (by omega), lN_add]
          rw [psum_s] at h
          exact h
      exact out (ppop (ppart v s)) 0 (by omega)
  exact fill m 0 τ (by omega) Sk.rf (fun a b h => absurd h (by omega))
theorem sp_layRest (hv : InvV v τ) {s : Nat} (hs : s < 2 ^ v 0) (H4 : ¬ preach v s = ppart v s → ∀ τ', InvV v τ' → φ (-4) τ') (H6 : preach v s = ppart v s → ¬ ppop (ppart v s) ≤ 8 → ∀ τ', InvV v τ' → φ (-6) τ') (H1 : preach v s = ppart v s → ppop (ppart v s) ≤ 8 → ∀ τ', InvV v τ' → MR v (ppart v s) τ' → φ 1 τ') : zCall G MX12_layRest [.ref 29, .int (nI s)] τ (zpi φ) := by
  have hK := hv.1.1
  have hle := ppop_le (ppart v s)
  refine C_X12_layRest _ τ (sp_layReaches hv.1.m (fun τ1 g1 g2 => ?_))
  have hv1 := hv.sk g1 (by decide)
  refine sp_misShut hv1.1.m g2 hs (b_b (fun c => sp_layMembers hv1.1.m g2 hs (fun τ2 g3 g4 g5 => ?_)) (fun c => pi_ok (H4 c τ1 hv1)))
  have hv2 := hv1.sk g3 (by decide)
  rw [g4, kx_8, nI_leI (by omega) (by decide)]
  refine ⟨fun q => ?_, fun q => pi_ok (H6 c q τ2 hv2)⟩
  have loop : ∀ d i τ3, i + d = ppop (ppart v s) → Sk [37, 38] τ2 τ3 → (∀ a, a < i → τ3.1.2 37 a = lN (wN v (ppart v s) a)) → zRun G MX12_layRest 34 [(0, .ref 29), (2, .int (nI i))] [] τ3 (zpi φ) := by
    intro d
    induction d with
    | zero =>
      intro i τ3 e k1 k2
      have e : i = ppop (ppart v s) := by omega
      have k15 : τ3.1.1 29 15 = nI (ppop (ppart v s)) := by rw [(k1.1 29 (by decide)).1]; exact g4
      refine V_X12_layRest_34 _ τ3 ?_
      rw [k15, e]
      rw [e] at k2
      refine ⟨fun _ => pi_ok (H1 c q τ3 (hv2.sk k1 (by decide)) ⟨k15, fun a ha => ?_, k2⟩), fun q => absurd (nI_le (Nat.le_refl _) (by omega)) q⟩
      rw [(k1.1 36 (by decide)).1]; exact g5 a ha
    | succ d ih =>
      intro i τ3 e k1 k2
      have hi : i < ppop (ppart v s) := by omega
      have k15 : τ3.1.1 29 15 = nI (ppop (ppart v s)) := by rw [(k1.1 29 (by decide)).1]; exact g4
      refine V_X12_layRest_34 _ τ3 ?_
      rw [k15, i1]
      refine ⟨fun q => absurd q (nI_ge (by omega) (by omega)), fun _ => sp_mweightOf (hv2.1.m.sk k1 (by decide)) hs c q k15 (fun a ha => by rw [(k1.1 36 (by decide)).1]; exact g5 a ha) hi (fun τ4 k4 => ⟨i, rfl, by omega, ?_⟩)⟩
      refine ih (i + 1) _ (by omega) ((k1.tr (k4.wk (by decide))).L (by decide)) (fun a ha => ?_)
      rw [zL_at]
      by_cases w : a = i
      · rw [if_pos ⟨rfl, w⟩, w]
      · rw [if_neg (fun y => w y.2), (k4.1 37 (by decide)).2]; exact k2 a (by omega)
  exact loop (ppop (ppart v s)) 0 τ2 (by omega) Sk.rf (fun a h => absurd h (by omega))
theorem sp_weightAll {P : Nat} (hR : MR v P τ) (H : ψ (lN (psum (ppop P) (wN v P))) τ) : zCall G MX12_weightAll [.ref 29] τ (zpl ψ) := by
  have hle := ppop_le P
  refine C_X12_weightAll τ ?_
  have loop : ∀ d i, i + d = ppop P → zRun G MX12_weightAll 4 [(0, .ref 29), (1, .long (lN (psum i (wN v P)))), (3, .int (nI i))] [] τ (zpl ψ) := by
    intro d
    induction d with
    | zero =>
      intro i e
      have e : i = ppop P := by omega
      refine V_X12_weightAll_4 _ _ τ ?_
      rw [hR.1, e]
      exact ⟨fun _ => pl_ok H, fun q => absurd (nI_le (Nat.le_refl _) (by omega)) q⟩
    | succ d ih =>
      intro i e
      have h := ih (i + 1) (by omega)
      refine V_X12_weightAll_4 _ _ τ ?_
      rw [hR.1, i1]
      refine ⟨fun q => absurd q (nI_ge (by omega) (by omega)), fun _ => ⟨i, rfl, by omega, ?_⟩⟩
      rw [hR.2.2 i (by omega), lN_add]
      rw [psum_s] at h
      exact h
  exact loop (ppop P) 0 (by omega)
end MW

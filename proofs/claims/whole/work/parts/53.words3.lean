section WM
variable {G : hz_G} {τ : hz_T} {v : Nat → Nat} {χ : hz_T → Prop} {φ : Int32 → hz_T → Prop} {ψ : Int64 → hz_T → Prop}
theorem pwor_some {a b : Int64} {m s i : Nat} (h : pfst (m + 1) s = some i) : pwor a b (m + 1) s = a * b * (pwor a b m (pwo s i) + pwor a b m (pwo s (i + 1))) := by
  show (match pfst (m + 1) s with
    | none => ppow a (ppop s) * ppow b (m + 1 - ppop s)
    | some i => a * b * (pwor a b m (pwo s i) + pwor a b m (pwo s (i + 1)))) = _
  rw [h]
theorem lmul_r (A B a : Int64) : A * B * a = A * a * B := by rw [Int64.mul_assoc, Int64.mul_comm B a, ← Int64.mul_assoc]
theorem abI {a b : Nat} (ha : a ≤ 9) (hb : b ≤ 9) : (nI a * nI b).toInt64 = lN a * lN b := by
  have : a * b ≤ 81 := Nat.mul_le_mul ha hb
  rw [pk_mul, toI64 (by omega), lN_mul]
theorem sp_layWorths (hL : LM v τ) (H : ∀ τ', Sk [39] τ τ' → wrow (lN (v 4)) (lN (v 6)) 39 (v 0 + 1) τ' → χ τ') : zCall G MX12_layWorths [.ref 29] τ (zpv χ) := by
  have hn := hL.1.n
  have h4 := hL.1.v (j := 4) (by decide)
  have h6 := hL.1.v (j := 6) (by decide)
  refine C_X12_layWorths τ ?_
  rw [hL.2 4 (by decide), hL.2 6 (by decide)]
  refine lp (α := Unit) (fun i _ τ' => zRun G MX12_layWorths 24 [(0, .ref 29), (1, .int (nI (v 4))), (2, .int (nI (v 6))), (3, .int (nI i))] [] τ' (zpv χ)) (fun i _ τ' => 1 ≤ i ∧ Sk [39] τ τ' ∧ wrow (lN (v 4)) (lN (v 6)) 39 i τ') (v 0 + 1) ?_ ?_ 1 () _ (by omega) ⟨Nat.le_refl _, Sk.rf.L (by decide), fun k s hk hs => ?_⟩
  rotate_left
  · intro i _ τ1 hi h ih
    have hp := pw64 (n := i) (by omega)
    refine V_X12_layWorths_24 _ _ _ τ1 (sp_mplaces (hL.sk h.2.1 (by decide)) ⟨fun q => absurd q (nI_nlt (by omega) (by omega)), fun _ => ?_⟩)
    refine lp (α := Unit) (fun s _ τ' => zRun G MX12_layWorths 35 [(0, .ref 29), (1, .int (nI (v 4))), (2, .int (nI (v 6))), (3, .int (nI i)), (4, .int (nI s))] [] τ' (zpv χ)) (fun s _ τ' => Sk [39] τ τ' ∧ wrow (lN (v 4)) (lN (v 6)) 39 i τ' ∧ ∀ t, t < s → τ'.1.2 39 (2 ^ i + t) = pwor (lN (v 4)) (lN (v 6)) i t) (2 ^ i) ?_ ?_ 0 () _ (Nat.zero_le _) ⟨h.2.1, h.2.2, fun t ht => by omega⟩
    · intro _ τ' g
      refine V_X12_layWorths_35 _ _ _ _ τ' ?_
      rw [pw_small i (by omega)]
      refine ⟨fun _ => ?_, fun q => absurd (nI_le (Nat.le_refl _) (by omega)) q⟩
      rw [i1]
      exact ih () τ' ⟨by omega, g.1, wrow_put g.2.1 g.2.2 (fun k s _ _ => rfl)⟩
    · intro s _ τ' hs g ih2
      obtain ⟨-, t2, t3⟩ := tb_ix i (by omega) s hs
      have hs64 : s < 64 := by omega
      have store : ∀ x : Int64, x = pwor (lN (v 4)) (lN (v 6)) i s → zRun G MX12_layWorths 35 [(0, .ref 29), (1, .int (nI (v 4))), (2, .int (nI (v 6))), (3, .int (nI i)), (4, .int (nI s + (1 : Int32)))] [] (zL τ' 39 (2 ^ i + s) x) (zpv χ) := by
        intro x hx
        rw [i1]
        refine ih2 () _ ⟨g.1.L (by decide), fun k s' hk hs' => ?_, fun t ht => ?_⟩
        · rw [zL_at, if_neg (fun q => by have := (idx_inj hs' hs q.2).1; omega)]
          exact g.2.1 k s' hk hs'
        · rw [zL_at]
          by_cases e : t = s
          · rw [if_pos ⟨rfl, by rw [e]⟩, e, hx]
          · rw [if_neg (fun q => e (by have := q.2; omega))]
            exact g.2.2 t (by omega)
      -- no grain ahead of a free place: a product
      have prod : pfst i s = none → zRun G MX12_layWorths 148 [(0, .ref 29), (1, .int (nI (v 4))), (2, .int (nI (v 6))), (3, .int (nI i)), (4, .int (nI s)), (6, .long (1 : Int64)), (8, .int (0 : Int32))] [] τ' (zpv χ) := by
        intro hf
        refine lp (α := Unit) (fun k _ τ2 => zRun G MX12_layWorths 148 [(0, .ref 29), (1, .int (nI (v 4))), (2, .int (nI (v 6))), (3, .int (nI i)), (4, .int (nI s)), (6, .long (ppow (lN (v 4)) (ppopI s k) * ppow (lN (v 6)) (k - ppopI s k))), (8, .int (nI k))] [] τ2 (zpv χ)) (fun k _ τ2 => τ2 = τ') i ?_ ?_ 0 () _ (Nat.zero_le _) rfl
        · intro _ τ2 e
          rw [e]
          refine V_X12_layWorths_148 _ _ _ _ _ _ τ' ⟨fun _ => ⟨2 ^ i + s, t2, t3, store _ ?_⟩, fun q => absurd (nI_le (Nat.le_refl _) (by omega)) q⟩
          have e64 : ppopI s i = ppop s := by rw [← ppopI_64, ppopI_up (a := i) (b := 64) hs (by omega)]
          rw [e64]
          obtain ⟨m, hm⟩ : ∃ m, i = m + 1 := ⟨i - 1, by omega⟩
          rw [hm] at hf ⊢
          unfold pwor
          rw [hf]
        · intro k _ τ2 hk e ih3
          rw [e]
          have hle := ppopI_le s k
          refine V_X12_layWorths_148 _ _ _ _ _ _ τ' ⟨fun q => absurd q (nI_ge hk (by omega)), fun _ => sp_has (by omega) (by omega) (fun v1 e1 => ?_)⟩
          rw [i1]
          have e2 : v1 = ppow (lN (v 4)) (ppopI s (k + 1)) * ppow (lN (v 6)) (k + 1 - ppopI s (k + 1)) := by
            rw [e1, toI64 (by omega), toI64 (by omega), ppopI_s]
            cases hb : s.testBit k with
            | true =>
              rw [if_pos rfl, if_neg (by decide), if_pos rfl, lmul_r, show k + 1 - (ppopI s k + 1) = k - ppopI s k by omega]
              rfl
            | false =>
              rw [if_pos (by decide), if_neg (by decide), Nat.add_zero, show k + 1 - ppopI s k = k - ppopI s k + 1 by omega, Int64.mul_assoc]
              rfl
          rw [e2]
          exact ih3 () τ' rfl
      refine V_X12_layWorths_35 _ _ _ _ τ' ?_
      rw [pw_small i (by omega)]
      refine ⟨fun q => absurd q (nI_ge hs (by omega)), fun _ => ?_⟩
      have search : ∀ k j, j + k = i → (∀ j', j' < j → ¬ (s.testBit j' = true ∧ s.testBit (j' + 1) = false)) → zRun G MX12_layWorths 46 [(0, .ref 29), (1, .int (nI (v 4))), (2, .int (nI (v 6))), (3, .int (nI i)), (4, .int (nI s)), (5, .int (nI j))] [] τ' (zpv χ) := by
        intro k
        induction k with
        | zero =>
          intro j e hb
          refine V_X12_layWorths_46 _ _ _ _ _ τ' ?_
          rw [i1]
          have hle : nI i ≤ nI (j + 1) := nI_le (by omega) (by omega)
          exact ⟨fun _ => ⟨fun _ => prod (pfst_none.mpr (fun j' hj' => hb j' (by omega))), fun q => absurd hle q⟩, fun q => absurd hle q⟩
        | succ k ihk =>
          intro j e hb
          refine V_X12_layWorths_46 _ _ _ _ _ τ' ?_
          rw [i1]
          by_cases hj : i ≤ j + 1
          · have hle : nI i ≤ nI (j + 1) := nI_le hj (by omega)
            exact ⟨fun _ => ⟨fun _ => prod (pfst_none.mpr (fun j' hj' => hb j' (by omega))), fun q => absurd hle q⟩, fun q => absurd hle q⟩
          · have hle : ¬ nI i ≤ nI (j + 1) := nI_ge (by omega) (by omega)
            have next : ¬ (s.testBit j = true ∧ s.testBit (j + 1) = false) → zRun G MX12_layWorths 46 [(0, .ref 29), (1, .int (nI (v 4))), (2, .int (nI (v 6))), (3, .int (nI i)), (4, .int (nI s)), (5, .int (nI (j + 1)))] [] τ' (zpv χ) := fun hq => ihk (j + 1) (by omega) (fun j' hj' => by
              by_cases e : j' = j
              · rw [e]; exact hq
              · exact hb j' (by omega))
            refine ⟨fun q => absurd q hle, fun _ => sp_has (by omega) (by omega) (b_a (fun q => next (fun z => q z.1)) (fun q => sp_has (by omega) (by omega) (b_a (fun q2 => ?_) (fun q2 => next (fun z => by rw [z.2] at q2; cases q2)))))⟩
            have hf : pfst i s = some j := pfst_some (by omega) hb ⟨q, by simpa using q2⟩
            obtain ⟨m, hm⟩ : ∃ m, i = m + 1 := ⟨i - 1, by omega⟩
            have hs' : s < 2 ^ (m + 1) := by rw [← hm]; exact hs
            have w1 := tb_wol m (by omega) s hs' j (by omega)
            have w2 := tb_wol m (by omega) s hs' (j + 1) (by omega)
            obtain ⟨-, y1, y2⟩ := tb_ix m (by omega) _ w1
            obtain ⟨-, z1, z2⟩ := tb_ix m (by omega) _ w2
            refine ⟨fun q => absurd q hle, fun _ v1 e1 => ?_⟩
            have em : nI i - (1 : Int32) = nI m := by rw [hm]; exact nI_pred m
            rw [em] at e1
            rw [e1]
            refine sp_mwithout hs64 (by omega) ⟨_, y1, y2, sp_mwithout hs64 (by omega) ⟨_, z1, z2, fun v2 e2 => ⟨2 ^ i + s, t2, t3, store v2 ?_⟩⟩⟩
            rw [e2, g.2.1 m _ (by omega) w1, g.2.1 m _ (by omega) w2, abI h4 h6]
            rw [hm] at hf ⊢
            rw [pwor_some hf]
      exact search i 0 (by omega) (fun j' hj' => by omega)
  · have : k = 0 := by omega
    subst this
    have : s = 0 := by
      rw [Nat.pow_zero] at hs
      omega
    subst this
    rfl
  · intro _ τ' h
    exact V_X12_layWorths_24 _ _ _ τ' (sp_mplaces (hL.sk h.2.1 (by decide)) ⟨fun _ => pv_ok (H τ' h.2.1 h.2.2), fun q => absurd (nI_lt (by omega) (by omega)) q⟩)
theorem sp_allOf {a b : Int64} {m N : Nat} (hm : m < 7) (hN : m < N) (hw : wrow a b 39 N τ) (H : ψ (pswS (pwor a b m) 0 (2 ^ m)) τ) : zCall G MX12_allOf [.ref 29, .int (nI m)] τ (zpl ψ) := by
  have hp := pw64 (n := m) (by omega)
  refine C_X12_allOf _ τ ?_
  refine lp (α := Unit) (fun s _ τ' => zRun G MX12_allOf 5 [(0, .ref 29), (1, .int (nI m)), (2, .long (pswS (pwor a b m) 0 s)), (4, .int (nI s))] [] τ' (zpl ψ)) (fun s _ τ' => τ' = τ) (2 ^ m) ?_ ?_ 0 () _ (Nat.zero_le _) rfl
  · intro _ τ' e
    rw [e]
    refine V_X12_allOf_5 _ _ _ τ ?_
    rw [pw_small m (by omega)]
    exact ⟨fun _ => pl_ok H, fun q => absurd (nI_le (Nat.le_refl _) (by omega)) q⟩
  · intro s _ τ' hs e ih
    rw [e]
    obtain ⟨-, t2, t3⟩ := tb_ix m hm s hs
    refine V_X12_allOf_5 _ _ _ τ ?_
    rw [t2, pw_small m (by omega)]
    refine ⟨fun q => absurd q (nI_ge hs (by omega)), fun _ => ⟨_, rfl, t3, ?_⟩⟩
    rw [i1, hw m s hN hs]
    have := ih () τ rfl
    unfold pswS at this
    rw [if_pos (Nat.and_zero s)] at this
    exact this
theorem sp_withAll (hL : LM v τ) {a b : Int64} {g : Nat} (hg : g < 64) (hw : wrow a b 39 (v 0 + 1) τ) (H : ψ (pswS (pwor a b (v 0)) g (2 ^ v 0)) τ) : zCall G MX12_withAll [.ref 29, .int (nI g)] τ (zpl ψ) := by
  have hn := hL.1.n
  have hp := pw64 hn.2
  refine C_X12_withAll _ τ ?_
  refine lp (α := Unit) (fun s _ τ' => zRun G MX12_withAll 5 [(0, .ref 29), (1, .int (nI g)), (2, .long (pswS (pwor a b (v 0)) g s)), (4, .int (nI s))] [] τ' (zpl ψ)) (fun s _ τ' => τ' = τ) (2 ^ v 0) ?_ ?_ 0 () _ (Nat.zero_le _) rfl
  · intro _ τ' e
    rw [e]
    exact V_X12_withAll_5 _ _ _ τ (sp_mstates hL ⟨fun _ => pl_ok H, fun q => absurd (nI_le (Nat.le_refl _) (by omega)) q⟩)
  · intro s _ τ' hs e ih
    rw [e]
    have heq : nI s &&& nI g = nI g ↔ s &&& g = g := by
      rw [nx_and, nI_eq (Nat.lt_of_le_of_lt Nat.and_le_left (by omega)) (by omega)]
    have := ih () τ rfl
    unfold pswS at this
    refine V_X12_withAll_5 _ _ _ τ (sp_mstates hL ⟨fun q => absurd q (nI_ge hs (by omega)), fun _ => ⟨fun q => ?_, fun q => sp_mstates hL ⟨2 ^ v 0 + s, nI_add _ _, by omega, ?_⟩⟩⟩)
    · rw [i1, Int64.add_zero]
      rw [if_neg (fun z => q (heq.mpr z))] at this
      exact this
    · rw [i1, hw (v 0) s (by omega) hs]
      rw [if_pos (heq.mp q)] at this
      exact this
end WM

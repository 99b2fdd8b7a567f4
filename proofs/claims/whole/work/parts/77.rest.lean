/-! the class's weights -/
theorem InvV.r {v : Nat → Nat} {τ τ' : hz_T} (h : InvV v τ) (hs : Sm [10, 11, 12, 13, 14] τ τ') (hw : I_rest v τ') : InvV v τ' := by
  obtain ⟨a1, a2, a3, a4, a5, a6, a7, a8⟩ := h
  have f : ∀ q, q ∉ [10, 11, 12, 13, 14] → τ'.1.1 q = τ.1.1 q := fun q hq => (hs q hq).1
  have g : ∀ q, q ∉ [10, 11, 12, 13, 14] → τ'.1.2 q = τ.1.2 q := fun q hq => (hs q hq).2
  refine ⟨a1.fr (f 4 (by decide)) (f 30 (by decide)), a2.fr (f 1 (by decide)) (f 2 (by decide)) (by rw [f 29 (by decide)]) (f 32 (by decide)), ?_, fun k hk => (a4 k hk).fr (f 26 (by decide)) (f 27 (by decide)) (f 28 (by decide)) (f 46 (by decide)) (f 47 (by decide)) (f 48 (by decide)), a5.fr (f 33 (by decide)) (f 34 (by decide)), a6.fr (f 7 (by decide)) (g 8 (by decide)) (g 9 (by decide)), hw, a8.fr (f 16 (by decide)) (g 17 (by decide))⟩
  unfold I_fault at a3 ⊢
  rw [f 5 (by decide), f 29 (by decide)]
  exact a3
def cI (r i : Nat) : Nat := if i ≤ r then i else i - 1
theorem cI_s {r i : Nat} (h : i ≠ r) : cI r (i + 1) = cI r i + 1 := by unfold cI; split <;> split <;> omega
theorem cI_r (r : Nat) : cI r (r + 1) = cI r r := by unfold cI; split <;> split <;> omega
theorem cI_p {r i : Nat} (h : i ≠ r) : psk r (cI r i) = i := by unfold psk cI; split <;> split <;> omega
theorem cI_lt {r i N : Nat} (hr : r < N) (hi : i < N) (h : i ≠ r) : cI r i < N - 1 := by unfold cI; split <;> omega
theorem cI_N {r N : Nat} (hr : r < N) : cI r N = N - 1 := by unfold cI; split <;> omega
section RS
variable {G : hz_G} {τ : hz_T} {v : Nat → Nat} {χ : hz_T → Prop} {φ : Int32 → hz_T → Prop} {ψ : Int64 → hz_T → Prop}
theorem sp_listStates {P : Nat} (hP : P < 2 ^ 64) (hN : ppop P ≤ 8) (H : ∀ τ', Sm [10, 11] τ τ' → τ'.1.2 10 = τ.1.2 10 → τ'.1.1 10 7 = nI (ppop P) → (∀ i, i < ppop P → τ'.1.1 11 i = nI (memP P i)) → χ τ') : zCall G MX5_listStates [.ref 10, .long (lN P)] τ (zpv χ) := by
  refine C_X5_listStates _ τ ?_
  have loop : ∀ m u τ1, u + m = 64 → Sm [10, 11] τ τ1 → τ1.1.2 10 = τ.1.2 10 → τ1.1.1 10 7 = nI (ppopI P u) → (∀ i, i < ppopI P u → τ1.1.1 11 i = nI (memP P i)) → zRun G MX5_listStates 7 [(0, .ref 10), (1, .long (lN P)), (3, .int (nI u))] [] τ1 (zpv χ) := by
    intro m
    induction m with
    | zero =>
      intro u τ1 e g1 g0 g2 g3
      have e : u = 64 := by omega
      subst e
      exact V_X5_listStates_7 _ _ τ1 ⟨fun _ => pv_ok (H τ1 g1 g0 g2 g3), fun q => absurd (show nI 64 ≤ nI 64 from nI_le (Nat.le_refl _) (by decide)) q⟩
    | succ m ih =>
      intro u τ1 e g1 g0 g2 g3
      have hle : ppopI P u ≤ ppop P := by
        have := ppopI_mono P u (64 - u)
        rw [show u + (64 - u) = 64 by omega] at this
        exact this
      refine V_X5_listStates_7 _ _ τ1 ⟨fun q => absurd (show nI 64 ≤ nI u from q) (nI_ge (by omega) (by decide)), fun _ => ?_⟩
      rw [g2, kx_8, nI_leI (by decide) (by omega)]
      refine ⟨fun q => pv_ok ?_, fun q => ?_⟩
      · have e8 : ppopI P u = ppop P := by omega
        rw [e8] at g2 g3
        exact H τ1 g1 g0 g2 g3
      · rw [cbit hP (by omega), lb1, i1, i1]
        refine ⟨fun c => ih (u + 1) τ1 (by omega) g1 g0 ?_ ?_, fun c => ⟨ppopI P u, rfl, by omega, ?_⟩⟩
        · rw [ppopI_s, if_neg c]; exact g2
        · rw [ppopI_s, if_neg c]; exact g3
        · refine ih (u + 1) _ (by omega) ((g1.I (by decide)).I (by decide)) g0 ?_ (fun i hi => ?_)
          · rw [zI_at, if_pos ⟨rfl, rfl⟩, ppopI_s, if_pos c]
          · rw [ppopI_s, if_pos c] at hi
            rw [zI_at, if_neg (by omega), zI_at]
            by_cases w : i = ppopI P u
            · rw [if_pos ⟨rfl, w⟩, w, (mem_pop (by omega) c).2]
            · rw [if_neg (fun y => w y.2)]; exact g3 i (by omega)
  refine loop 64 0 _ rfl (Sm.rf.I (by decide)) rfl ?_ (fun i hi => absurd hi (by rw [show ppopI P 0 = 0 from rfl]; omega))
  rw [zI_at, if_pos ⟨rfl, rfl⟩]; rfl
theorem sp_fillOut (hL : LC v τ) {P : Nat} (hP : ∀ a, P.testBit a = true → a < 2 ^ v 0) (hN : ppop P ≤ 8) (h7 : τ.1.1 10 7 = nI (ppop P)) (hm : ∀ i, i < ppop P → τ.1.1 11 i = nI (memP P i)) (H : ∀ τ', Sm [13] τ τ' → (∀ i j, i < ppop P → j < ppop P → τ'.1.2 13 (i * ppop P + j) = pofl v (pmem P) i j) → χ τ') : zCall G MX5_fillOutflow [.ref 10] τ (zpv χ) := by
  have h64 : ppop P * ppop P ≤ 64 := Nat.mul_le_mul hN hN
  refine C_X5_fillOutflow τ ?_
  have outer : ∀ d i τ1, i + d = ppop P → Sm [13] τ τ1 → (∀ a b, a < ppop P → b < ppop P → a < i → τ1.1.2 13 (a * ppop P + b) = pofl v (pmem P) a b) → zRun G MX5_fillOutflow 2 [(0, .ref 10), (1, .int (nI i))] [] τ1 (zpv χ) := by
    intro d
    induction d with
    | zero =>
      intro i τ1 e g1 g2
      have e : i = ppop P := by omega
      have h71 : τ1.1.1 10 7 = nI (ppop P) := by rw [(g1 10 (by decide)).1]; exact h7
      refine V_X5_fillOutflow_2 _ τ1 ?_
      rw [h71, e]
      exact ⟨fun _ => pv_ok (H τ1 g1 (fun a b ha hb => g2 a b ha hb (by omega))), fun q => absurd (nI_le (Nat.le_refl _) (by omega)) q⟩
    | succ d ih =>
      intro i τ1 e g1 g2
      have hi : i < ppop P := by omega
      have h71 : τ1.1.1 10 7 = nI (ppop P) := by rw [(g1 10 (by decide)).1]; exact h7
      refine V_X5_fillOutflow_2 _ τ1 ?_
      rw [h71]
      refine ⟨fun q => absurd q (nI_ge (by omega) (by omega)), fun _ => ?_⟩
      have inner : ∀ d j τ2, j + d = ppop P → Sm [13] τ τ2 → (∀ a b, a < ppop P → b < ppop P → (a < i ∨ (a = i ∧ b < j)) → τ2.1.2 13 (a * ppop P + b) = pofl v (pmem P) a b) → zRun G MX5_fillOutflow 12 [(0, .ref 10), (1, .int (nI i)), (2, .int (nI j))] [] τ2 (zpv χ) := by
        intro d
        induction d with
        | zero =>
          intro j τ2 e' g3 g4
          have e' : j = ppop P := by omega
          have h72 : τ2.1.1 10 7 = nI (ppop P) := by rw [(g3 10 (by decide)).1]; exact h7
          refine V_X5_fillOutflow_12 _ _ τ2 ?_
          rw [h72, i1]
          refine ⟨fun _ => ih (i + 1) τ2 (by omega) g3 (fun a b ha hb hai => g4 a b ha hb (by omega)), fun q => absurd (nI_le (by omega) (by omega)) q⟩
        | succ d ihd =>
          intro j τ2 e' g3 g4
          have hj : j < ppop P := by omega
          have b1 := idx_lt hi hj
          have mi := memP_at hi
          have mj := memP_at hj
          have h72 : τ2.1.1 10 7 = nI (ppop P) := by rw [(g3 10 (by decide)).1]; exact h7
          have hm2 : ∀ i, i < ppop P → τ2.1.1 11 i = nI (memP P i) := fun i hi => by rw [(g3 11 (by decide)).1]; exact hm i hi
          have hL2 := hL.sm g3 (by decide)
          have hnext : ∀ x : Int64, x = pofl v (pmem P) i j → zRun G MX5_fillOutflow 12 [(0, .ref 10), (1, .int (nI i)), (2, .int (nI (j + 1)))] [] (zL τ2 13 (i * ppop P + j) x) (zpv χ) := by
            intro x hx
            refine ihd (j + 1) _ (by omega) (g3.L (by decide)) (fun a b ha hb hab => ?_)
            rw [zL_at]
            by_cases w : a = i ∧ b = j
            · rw [if_pos ⟨rfl, by rw [w.1, w.2]⟩, hx, w.1, w.2]
            · rw [if_neg (fun y => w (idm_inj hb hj y.2))]
              exact g4 a b ha hb (by omega)
          refine V_X5_fillOutflow_12 _ _ τ2 ?_
          rw [h72, i1 j]
          refine ⟨fun q => absurd q (nI_ge (by omega) (by omega)), fun _ => ⟨i, rfl, by omega, ?_⟩⟩
          rw [nI_eq (by omega) (by omega), hm2 i hi]
          refine ⟨fun q => ⟨j, rfl, by omega, ?_⟩, fun q => sp_rateOut hL2 (hP _ mi.1) ⟨i * ppop P + j, idx_I _ _ _, by omega, hnext _ ?_⟩⟩
          · rw [hm2 j hj]
            refine sp_rateBetween hL2 (hP _ mi.1) (hP _ mj.1) ⟨i * ppop P + j, idx_I _ _ _, by omega, hnext _ ?_⟩
            unfold pofl
            rw [if_neg q]; rfl
          · unfold pofl
            rw [if_pos q]; rfl
      exact inner (ppop P) 0 τ1 (by omega) g1 (fun a b ha hb hab => g2 a b ha hb (by omega))
  exact outer (ppop P) 0 τ (by omega) Sm.rf (fun a b _ _ h => absurd h (by omega))
theorem sp_treesTo {P : Nat} (hN : ppop P ≤ 8) (h7 : τ.1.1 10 7 = nI (ppop P)) (hO : ∀ i j, i < ppop P → j < ppop P → τ.1.2 13 (i * ppop P + j) = pofl v (pmem P) i j) {r : Nat} (hr : r < ppop P) (H : ∀ τ', Sm [14] τ τ' → ψ (pwt v (pmem P) r) τ') : zCall G MX5_treesTo [.ref 10, .int (nI r)] τ (zpl ψ) := by
  have h64 : ppop P * ppop P ≤ 64 := Nat.mul_le_mul hN hN
  have h49 : (ppop P - 1) * (ppop P - 1) ≤ 49 := Nat.mul_le_mul (show ppop P - 1 ≤ 7 by omega) (show ppop P - 1 ≤ 7 by omega)
  refine C_X5_treesTo _ τ ?_
  have outer : ∀ d i τ1, i + d = ppop P → Sm [14] τ τ1 → (∀ a b, a < ppop P - 1 → b < ppop P - 1 → a < cI r i → τ1.1.2 14 (a * (ppop P - 1) + b) = pofl v (pmem P) (psk r a) (psk r b)) → zRun G MX5_treesTo 4 [(0, .ref 10), (1, .int (nI r)), (2, .int (nI (cI r i * (ppop P - 1)))), (3, .int (nI i))] [] τ1 (zpl ψ) := by
    intro d
    induction d with
    | zero =>
      intro i τ1 e g1 g2
      have e : i = ppop P := by omega
      have h71 : τ1.1.1 10 7 = nI (ppop P) := by rw [(g1 10 (by decide)).1]; exact h7
      refine V_X5_treesTo_4 _ _ _ τ1 ?_
      rw [h71, e]
      refine ⟨fun _ => ?_, fun q => absurd (nI_le (Nat.le_refl _) (by omega)) q⟩
      rw [e, cI_N hr] at g2
      have e1 : nI (ppop P) - (1 : Int32) = nI (ppop P - 1) := by rw [kx_1, pk_sub (by omega)]
      rw [e1]
      exact sp_det (by decide) rfl (by decide) h49 (fun a b ha hb => g2 a b ha hb ha) (fun τ' h => pl_ok (H τ' (g1.tr h)))
    | succ d ih =>
      intro i τ1 e g1 g2
      have hi : i < ppop P := by omega
      have h71 : τ1.1.1 10 7 = nI (ppop P) := by rw [(g1 10 (by decide)).1]; exact h7
      refine V_X5_treesTo_4 _ _ _ τ1 ?_
      rw [h71]
      refine ⟨fun q => absurd q (nI_ge (by omega) (by omega)), fun _ => ?_⟩
      have inner : ∀ d j τ2, j + d = ppop P → Sm [14] τ τ2 → (∀ a b, a < ppop P - 1 → b < ppop P - 1 → (a < cI r i ∨ (a = cI r i ∧ i ≠ r ∧ b < cI r j)) → τ2.1.2 14 (a * (ppop P - 1) + b) = pofl v (pmem P) (psk r a) (psk r b)) → zRun G MX5_treesTo 15 [(0, .ref 10), (1, .int (nI r)), (2, .int (nI (cI r i * (ppop P - 1) + (if i = r then 0 else cI r j)))), (3, .int (nI i)), (4, .int (nI j))] [] τ2 (zpl ψ) := by
        intro d
        induction d with
        | zero =>
          intro j τ2 e' g3 g4
          have e' : j = ppop P := by omega
          have h72 : τ2.1.1 10 7 = nI (ppop P) := by rw [(g3 10 (by decide)).1]; exact h7
          refine V_X5_treesTo_15 _ _ _ _ τ2 ?_
          rw [h72, i1, e']
          refine ⟨fun _ => ?_, fun q => absurd (nI_le (Nat.le_refl _) (by omega)) q⟩
          rw [e', cI_N hr] at g4
          rw [cI_N hr]
          by_cases w : i = r
          · rw [if_pos w, Nat.add_zero]
            have := ih (i + 1) τ2 (by omega) g3 (fun a b ha hb hai => g4 a b ha hb (Or.inl (by rw [w, cI_r] at hai; rw [w]; exact hai)))
            rw [w, cI_r] at this
            rw [w]; exact this
          · rw [if_neg w]
            have := ih (i + 1) τ2 (by omega) g3 (fun a b ha hb hai => by
              rw [cI_s w] at hai
              rcases Nat.lt_or_ge a (cI r i) with z | z
              · exact g4 a b ha hb (Or.inl z)
              · exact g4 a b ha hb (Or.inr ⟨by omega, w, hb⟩))
            rw [cI_s w, Nat.succ_mul] at this
            exact this
        | succ d ihd =>
          intro j τ2 e' g3 g4
          have hj : j < ppop P := by omega
          have h72 : τ2.1.1 10 7 = nI (ppop P) := by rw [(g3 10 (by decide)).1]; exact h7
          refine V_X5_treesTo_15 _ _ _ _ τ2 ?_
          rw [h72, i1 j, nI_eq (by omega) (by omega), nI_eq (by omega) (by omega)]
          refine ⟨fun q => absurd q (nI_ge (by omega) (by omega)), fun _ => ⟨fun w => ?_, fun w => ⟨fun z => ?_, fun z => ?_⟩⟩⟩
          · have := ihd (j + 1) τ2 (by omega) g3 (fun a b ha hb hab => g4 a b ha hb (by omega))
            rw [if_pos w] at this
            rw [if_pos w]; exact this
          · have := ihd (j + 1) τ2 (by omega) g3 (fun a b ha hb hab => g4 a b ha hb (by rw [z, cI_r] at hab; rw [z]; exact hab))
            rw [if_neg w, z, cI_r] at this
            rw [if_neg w, z]; exact this
          · have ci := cI_lt hr hi w
            have cj := cI_lt hr hj z
            have b1 := idx_lt ci cj
            have b2 := idx_lt hi hj
            rw [if_neg w, nI_leI (by decide) (by omega)]
            refine ⟨fun y => absurd y (by omega), fun _ => ⟨i * ppop P + j, idx_I _ _ _, by omega, cI r i * (ppop P - 1) + cI r j, rfl, by omega, ?_⟩⟩
            have hv13 : τ2.1.2 13 (i * ppop P + j) = pofl v (pmem P) i j := by rw [(g3 13 (by decide)).2]; exact hO i j hi hj
            rw [hv13]
            have := ihd (j + 1) (zL τ2 14 (cI r i * (ppop P - 1) + cI r j) (pofl v (pmem P) i j)) (by omega) (g3.L (by decide)) (fun a b ha hb hab => by
              rw [cI_s z] at hab
              rw [zL_at]
              by_cases y : a = cI r i ∧ b = cI r j
              · rw [if_pos ⟨rfl, by rw [y.1, y.2]⟩, y.1, y.2, cI_p w, cI_p z]
              · rw [if_neg (fun y2 => y (idm_inj hb cj y2.2))]
                exact g4 a b ha hb (by omega))
            rw [if_neg w, cI_s z, ← Nat.add_assoc] at this
            rw [i1]; exact this
      have := inner (ppop P) 0 τ1 (by omega) g1 (fun a b ha hb hab => g2 a b ha hb (by
        rcases hab with h | h
        · exact h
        · exact absurd h.2.2 (by rw [show cI r 0 = 0 from if_pos (Nat.zero_le _)]; omega)))
      rw [show cI r 0 = 0 from if_pos (Nat.zero_le _), ite_self, Nat.add_zero] at this
      exact this
  have := outer (ppop P) 0 τ (by omega) Sm.rf (fun a b _ _ h => absurd h (by rw [show cI r 0 = 0 from if_pos (Nat.zero_le _)]; omega))
  rw [show cI r 0 = 0 from if_pos (Nat.zero_le _), Nat.zero_mul] at this
  exact this
theorem sp_weighPart (hv : InvV v τ) {s : Nat} (hs : s < 2 ^ v 0) (hsh : preach v s = ppart v s) (hN : ppop (ppart v s) ≤ 8) (H : ∀ τ', Sm [10, 11, 12, 13, 14] τ τ' → InvV v τ' → RestV v (ppart v s) τ' → χ τ') : zCall G MX5_weighPart [.ref 10, .long (lN (ppart v s))] τ (zpv χ) := by
  have hK := hv.1.1
  have hP64 := ppart_64 hK s
  refine C_X5_weighPart _ τ ?_
  rw [lgc_eq]
  refine ⟨fun q => ?_, fun q => pv_ok ?_⟩
  · have s0 : Sm [10, 11, 12, 13, 14] τ (zL τ 10 6 (lN (ppart v s))) := Sm.rf.L (by decide)
    refine sp_listStates hP64 hN (fun τ1 g1 g0 g2 g3 => ?_)
    have s1 : Sm [10, 11, 12, 13, 14] τ τ1 := s0.tr (g1.wk (by decide))
    have e6 : τ1.1.2 10 6 = lN (ppart v s) := by rw [g0, zL_at, if_pos ⟨rfl, rfl⟩]
    refine sp_fillOut (hv.1.c.sm s1 (by decide)) (fun a ha => part_lt ha) hN g2 g3 (fun τ2 g4 g5 => ?_)
    have s2 : Sm [10, 11, 12, 13, 14] τ τ2 := s1.tr (g4.wk (by decide))
    have f7 : τ2.1.1 10 7 = nI (ppop (ppart v s)) := by rw [(g4 10 (by decide)).1]; exact g2
    have f11 : ∀ i, i < ppop (ppart v s) → τ2.1.1 11 i = nI (memP (ppart v s) i) := fun i hi => by rw [(g4 11 (by decide)).1]; exact g3 i hi
    have f6 : τ2.1.2 10 6 = lN (ppart v s) := by rw [(g4 10 (by decide)).2]; exact e6
    have loop : ∀ d i τ3, i + d = ppop (ppart v s) → Sm [10, 12, 14] τ2 τ3 → τ3.1.1 10 = τ2.1.1 10 → τ3.1.2 10 6 = lN (ppart v s) → τ3.1.2 10 8 = psumL i (pwt v (pmem (ppart v s))) → (∀ a, a < i → τ3.1.2 12 a = pwt v (pmem (ppart v s)) a) → zRun G MX5_weighPart 31 [(0, .ref 10), (3, .int (nI i))] [] τ3 (zpv χ) := by
      intro d
      induction d with
      | zero =>
        intro i τ3 e k1 k2 k6 k8 k12
        have e : i = ppop (ppart v s) := by omega
        have k7 : τ3.1.1 10 7 = nI (ppop (ppart v s)) := by rw [k2]; exact f7
        refine V_X5_weighPart_31 _ τ3 ?_
        rw [k7, e]
        refine ⟨fun _ => pv_ok ?_, fun q => absurd (nI_le (Nat.le_refl _) (by omega)) q⟩
        have s3 : Sm [10, 11, 12, 13, 14] τ τ3 := s2.tr (k1.wk (by decide))
        rw [e] at k8 k12
        have hR : RestV v (ppart v s) τ3 := by
          refine ⟨hN, k7, fun a ha => ⟨?_, k12 a ha, fun b hb => ?_⟩, k8⟩
          · rw [(k1 11 (by decide)).1]; exact f11 a ha
          · rw [(k1 13 (by decide)).2]; exact g5 a b ha hb
        exact H τ3 s3 (hv.r s3 (Or.inr ⟨ppart v s, s, hs, rfl, hsh, k6, hR⟩)) hR
      | succ d ih =>
        intro i τ3 e k1 k2 k6 k8 k12
        have hi : i < ppop (ppart v s) := by omega
        have k7 : τ3.1.1 10 7 = nI (ppop (ppart v s)) := by rw [k2]; exact f7
        refine V_X5_weighPart_31 _ τ3 ?_
        rw [k7, i1]
        refine ⟨fun q => absurd q (nI_ge (by omega) (by omega)), fun _ => sp_treesTo hN k7 (fun a b ha hb => by rw [(k1 13 (by decide)).2]; exact g5 a b ha hb) hi (fun τ4 k4 => ⟨i, rfl, by omega, i, rfl, by omega, ?_⟩)⟩
        rw [zL_at, if_pos ⟨rfl, rfl⟩]
        refine ih (i + 1) _ (by omega) (((k1.tr (k4.wk (by decide))).L (by decide)).L (by decide)) ?_ ?_ ?_ (fun a ha => ?_)
        · show τ4.1.1 10 = _
          rw [(k4 10 (by decide)).1]; exact k2
        · rw [zL_at, if_neg (by decide), zL_at, if_neg (by omega), (k4 10 (by decide)).2]; exact k6
        · rw [zL_at, if_pos ⟨rfl, rfl⟩, (k4 10 (by decide)).2, k8, psumL_s]
        · rw [zL_at, if_neg (by omega), zL_at]
          by_cases w : a = i
          · rw [if_pos ⟨rfl, w⟩, w]
          · rw [if_neg (fun y => w y.2), (k4 12 (by decide)).2]; exact k12 a (by omega)
    refine loop (ppop (ppart v s)) 0 _ (by omega) (Sm.rf.L (by decide)) rfl ?_ ?_ (fun a ha => absurd ha (by omega))
    · rw [zL_at, if_neg (by decide)]; exact f6
    · rw [zL_at, if_pos ⟨rfl, rfl⟩]; rfl
  · rcases hv.2.2.2.2.2.2.1 with h | ⟨P', s', h1, h2, h3, h4, h5⟩
    · exfalso
      rw [h] at q
      exact ppart_ne hs ((lN_inj hP64 (by decide)).1 q)
    · rw [h4, h2] at q
      have e := (lN_inj hP64 (ppart_64 hK s')).1 q
      rw [h2, ← e] at h5
      exact H τ Sm.rf hv h5
theorem sp_cweigh (hv : InvV v τ) {s : Nat} (hs : s < 2 ^ v 0) (H4 : ¬ preach v s = ppart v s → ∀ τ', InvV v τ' → φ (-4) τ') (H6 : preach v s = ppart v s → ¬ ppop (ppart v s) ≤ 8 → ∀ τ', InvV v τ' → φ (-6) τ') (H0 : preach v s = ppart v s → ppop (ppart v s) ≤ 8 → ∀ τ', InvV v τ' → RestV v (ppart v s) τ' → φ 0 τ') : zCall G MX11_weigh [.ref 0, .int (nI s)] τ (zpi φ) := by
  have hK := hv.1.1
  have hle := ppop_le (ppart v s)
  refine C_X11_weigh _ τ (sp_ready3 hv (fun τ1 s1 hv1 hP => ⟨rfl, sp_cisShut hK hP hs (b_b (fun c => sp_cpartOf hK hP hs (sp_bcl (ppart_64 hK s) ?_)) (fun c => pi_ok (H4 c τ1 hv1)))⟩))
  rw [kx_8, nI_leI (by omega) (by decide)]
  exact ⟨fun q => sp_weighPart hv1 hs c q (fun τ2 s2 hv2 hR => pi_ok (H0 c q τ2 hv2 hR)), fun q => pi_ok (H6 c q τ1 hv1)⟩
end RS

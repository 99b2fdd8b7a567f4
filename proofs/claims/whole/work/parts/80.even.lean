/-! through, even -/
theorem pair_through {G : hz_G} {τ : hz_T} (hI : Inv τ) (x0 : Int32) (x1 : Int32) : PL G MX11_through MX12_through [.ref 0, .int x0, .int x1] [.ref 29, .int x0, .int x1] τ := by
  obtain ⟨v, hv⟩ := hI.to
  have hC := hv.1.c
  have hM := hv.1.m
  have hK := hM.1
  have hp := pw64 hK.n.2
  refine C_X11_through x0 x1 τ (sp_cisState hC (b_a (fun h0 => pl_ok ?_) (fun h0 => sp_isFrac (b_b (fun h1 => ?_) (fun h1 => pl_ok ?_)))))
  · exact C_X12_through _ _ τ (sp_misState hM (b_a (fun _ => pl_ok ⟨rfl, hI⟩) (fun h => absurd h h0)))
  · obtain ⟨s, hs, rfl⟩ := st_of h0
    have mod : ∀ (A : Int64) (τ1 : hz_T), InvV v τ1 → zCall G MX12_layRest [.ref 29, .int (nI s)] τ1 (zpi (fun x105 τ106 => ((0 ≤ x105 → zRun G MX12_through 44 [(0, .ref 29), (2, .int x1), (4, .long (0 : Int64)), (6, .int (0 : Int32))] [] τ106 (zpl (fun b τ2 => A = b ∧ Inv τ2))) ∧ (¬ 0 ≤ x105 → zpl (fun b τ2 => A = b ∧ Inv τ2) (some (.long (((-100 : Int32) + x105).toInt64))) τ106)))) → zCall G MX12_through [.ref 29, .int (nI s), .int x1] τ1 (zpl (fun b τ2 => A = b ∧ Inv τ2)) := by
      intro A τ1 hv1 K
      refine C_X12_through _ _ τ1 (sp_misState hv1.1.m (b_a (fun h => absurd h0 h) (fun _ => sp_in (b_b (fun _ => K) (fun h => ?_)))))
      rw [t0, t1L, i64] at h
      exact absurd h1 h
    refine sp_cweigh hv hs (fun c τ1 hv1 => ⟨fun q => absurd q (by decide), fun _ => pl_ok (mod _ τ1 hv1 (sp_layRest hv1 hs (fun _ τ2 hv2 => ⟨fun q => absurd q (by decide), fun _ => pl_ok ⟨rfl, hv2.of⟩⟩) (fun c2 => absurd c2 c) (fun c2 => absurd c2 c)))⟩) (fun c n τ1 hv1 => ⟨fun q => absurd q (by decide), fun _ => pl_ok (mod _ τ1 hv1 (sp_layRest hv1 hs (fun c2 => absurd c c2) (fun _ _ τ2 hv2 => ⟨fun q => absurd q (by decide), fun _ => pl_ok ⟨rfl, hv2.of⟩⟩) (fun _ n2 => absurd n2 n)))⟩) (fun c n τ1 hv1 hR => ⟨fun _ => ?_, fun q => absurd rfl q⟩)
    have ht := tot_ok hK hs c n
    obtain ⟨z, z1, z2, z3⟩ := pthr_z hK hs c n (ppop (ppart v s)) (Nat.le_refl _)
    refine sp_cpassing hv1.1.c hs c n hR (C_X5_total τ1 (pl_ok ?_))
    rw [hR.2.2.2, tot_c hK hs c n, z1]
    refine sp_clow (absI_c (z := z) (by omega) (by omega)) (by omega) ht.1 ht.2 (pl_ok (mod _ τ1 hv1 (sp_layRest hv1 hs (fun c2 => absurd c c2) (fun _ n2 => absurd n n2) (fun _ _ τ2 hv2 hMR => ⟨fun _ => ?_, fun q => absurd (by decide) q⟩))))
    have loop : ∀ d i, i + d = ppop (ppart v s) → zRun G MX12_through 44 [(0, .ref 29), (2, .int x1), (4, .long (pthr v (ppart v s) i)), (6, .int (nI i))] [] τ2 (zpl (fun b τ2 => plow (iL z) z.natAbs (psum (ppop (ppart v s)) (wN v (ppart v s))) x1 = b ∧ Inv τ2)) := by
      intro d
      induction d with
      | zero =>
        intro i e
        have e : i = ppop (ppart v s) := by omega
        refine V_X12_through_44 _ _ _ τ2 ?_
        rw [hMR.1, e]
        refine ⟨fun _ => sp_weightAll hMR ?_, fun q => absurd (nI_le (Nat.le_refl _) (by omega)) q⟩
        rw [z1]
        exact sp_mlow (absI_m (z := z) (by omega) (by omega)) (by omega) ht.1 (by omega) (pl_ok ⟨rfl, hv2.of⟩)
      | succ d ih =>
        intro i e
        have hi : i < ppop (ppart v s) := by omega
        have h := ih (i + 1) (by omega)
        have mi := memP_at hi
        refine V_X12_through_44 _ _ _ τ2 ?_
        rw [hMR.1, i1]
        refine ⟨fun q => absurd q (nI_ge (by omega) (by omega)), fun _ => ⟨i, rfl, by omega, i, rfl, by omega, ?_⟩⟩
        rw [hMR.2.1 i hi, hMR.2.2 i hi]
        refine sp_mgo hv2.1.m (part_lt mi.1) ?_
        have e2 : pthr v (ppart v s) (i + 1) = pthr v (ppart v s) i + lN (wN v (ppart v s) i) * (pps v (memP (ppart v s) i)).toInt64 := psumL_s _ _
        rw [e2] at h
        exact h
    exact loop (ppop (ppart v s)) 0 (by omega)
  · refine C_X12_through _ _ τ (sp_misState hM (b_a (fun h => absurd h0 h) (fun _ => sp_in (b_b (fun h => ?_) (fun _ => pl_ok ⟨rfl, hI⟩)))))
    rw [t0, t1L, i64] at h
    exact absurd h h1
def pev (v : Nat → Nat) (P i j : Nat) : Prop := lN (wN v P i) * lN (prate v (memP P i) (memP P j)) = lN (wN v P j) * lN (prate v (memP P j) (memP P i))
theorem l_ng1 (a b c d : Int64) (h : a * -b = c * -d) : a * b = c * d := by grind
theorem l_ng2 (a b c d : Int64) (h : a * b = c * d) : a * -b = c * -d := by grind
section EV
variable {G : hz_G} {τ : hz_T} {v : Nat → Nat} {φ : Int32 → hz_T → Prop}
theorem sp_agrees (hK : LaneOK v) {s : Nat} (hs : s < 2 ^ v 0) (hsh : preach v s = ppart v s) (hN : ppop (ppart v s) ≤ 8) (hR : RestV v (ppart v s) τ) (H1 : (∀ i, i < ppop (ppart v s) → ∀ j, j < i → pev v (ppart v s) i j) → φ 1 τ) (H0 : ¬ (∀ i, i < ppop (ppart v s) → ∀ j, j < i → pev v (ppart v s) i j) → φ 0 τ) : zCall G MX5_agreesBothWays [.ref 10] τ (zpi φ) := by
  obtain ⟨r1, r2, r3, r4⟩ := hR
  have h64 : ppop (ppart v s) * ppop (ppart v s) ≤ 64 := Nat.mul_le_mul hN hN
  refine C_X5_agreesBothWays τ ?_
  have outer : ∀ d i, i + d = ppop (ppart v s) → (∀ a, a < i → ∀ b, b < a → pev v (ppart v s) a b) → zRun G MX5_agreesBothWays 2 [(0, .ref 10), (1, .int (nI i))] [] τ (zpi φ) := by
    intro d
    induction d with
    | zero =>
      intro i e g
      have e : i = ppop (ppart v s) := by omega
      refine V_X5_agreesBothWays_2 _ τ ?_
      rw [r2, e]
      rw [e] at g
      exact ⟨fun _ => pi_ok (H1 g), fun q => absurd (nI_le (Nat.le_refl _) (by omega)) q⟩
    | succ d ih =>
      intro i e g
      have hi : i < ppop (ppart v s) := by omega
      refine V_X5_agreesBothWays_2 _ τ ?_
      rw [r2]
      refine ⟨fun q => absurd q (nI_ge (by omega) (by omega)), fun _ => ?_⟩
      have inner : ∀ d j, j + d = i → (∀ b, b < j → pev v (ppart v s) i b) → zRun G MX5_agreesBothWays 12 [(0, .ref 10), (1, .int (nI i)), (2, .int (nI j))] [] τ (zpi φ) := by
        intro d
        induction d with
        | zero =>
          intro j e2 g2
          have e2 : j = i := by omega
          refine V_X5_agreesBothWays_12 _ _ τ ?_
          rw [e2, i1]
          refine ⟨fun _ => ih (i + 1) (by omega) (fun a ha b hb => ?_), fun q => absurd (nI_le (Nat.le_refl _) (by omega)) q⟩
          rcases Nat.lt_or_ge a i with w | w
          · exact g a w b hb
          · have : a = i := by omega
            rw [this] at hb ⊢
            exact g2 b (by omega)
        | succ d ihd =>
          intro j e2 g2
          have hj : j < ppop (ppart v s) := by omega
          have b1 := idx_lt hi hj
          have b2 := idx_lt hj hi
          have wi := (pwt_w hK hs hsh hN hi).1
          have wj := (pwt_w hK hs hsh hN hj).1
          have o1 : τ.1.2 13 (i * ppop (ppart v s) + j) = -lN (prate v (memP (ppart v s) i) (memP (ppart v s) j)) := by
            rw [(r3 i hi).2.2 j hj, pofl_z hK, if_neg (by omega), ← iL_neg, iL_N]
          have o2 : τ.1.2 13 (j * ppop (ppart v s) + i) = -lN (prate v (memP (ppart v s) j) (memP (ppart v s) i)) := by
            rw [(r3 j hj).2.2 i hi, pofl_z hK, if_neg (by omega), ← iL_neg, iL_N]
          refine V_X5_agreesBothWays_12 _ _ τ ?_
          rw [r2, i1 j]
          refine ⟨fun q => absurd q (nI_ge (by omega) (by omega)), fun _ => ⟨i, rfl, by omega, i * ppop (ppart v s) + j, idx_I _ _ _, by omega, j, rfl, by omega, j * ppop (ppart v s) + i, idx_I _ _ _, by omega, ?_⟩⟩
          rw [o1, o2, (r3 i hi).2.1, (r3 j hj).2.1, wi, wj, lgc_eq]
          refine ⟨fun q => ihd (j + 1) (by omega) (fun b hb => ?_), fun q => pi_ok (H0 (fun y => q (l_ng2 _ _ _ _ (y i hi j (by omega)))))⟩
          rcases Nat.lt_or_ge b j with w | w
          · exact g2 b w
          · have : b = j := by omega
            rw [this]
            exact l_ng1 _ _ _ _ q
      exact inner i 0 (by omega) (fun b hb => absurd hb (by omega))
  exact outer (ppop (ppart v s)) 0 (by omega) (fun a ha => absurd ha (by omega))
theorem sp_meven (hL : LM v τ) {s : Nat} (hN : ppop (ppart v s) ≤ 8) (hR : MR v (ppart v s) τ) (H1 : (∀ i, i < ppop (ppart v s) → ∀ j, j < i → pev v (ppart v s) i j) → φ 1 τ) (H0 : ¬ (∀ i, i < ppop (ppart v s) → ∀ j, j < i → pev v (ppart v s) i j) → φ 0 τ) : zRun G MX12_even 27 [(0, .ref 29), (3, .int (1 : Int32)), (4, .int (0 : Int32))] [] τ (zpi φ) := by
  obtain ⟨r1, r2, r3⟩ := hR
  have hK := hL.1
  have outer : ∀ d i (f : Int32), i + d = ppop (ppart v s) → ((f = 1 ∧ ∀ a, a < i → ∀ b, b < a → pev v (ppart v s) a b) ∨ (f = 0 ∧ ¬ (∀ i, i < ppop (ppart v s) → ∀ j, j < i → pev v (ppart v s) i j))) → zRun G MX12_even 27 [(0, .ref 29), (3, .int f), (4, .int (nI i))] [] τ (zpi φ) := by
    intro d
    induction d with
    | zero =>
      intro i f e g
      have e : i = ppop (ppart v s) := by omega
      refine V_X12_even_27 _ _ τ ?_
      rw [r1, e]
      rw [e] at g
      refine ⟨fun _ => pi_ok ?_, fun q => absurd (nI_le (Nat.le_refl _) (by omega)) q⟩
      rcases g with ⟨g1, g2⟩ | ⟨g1, g2⟩
      · rw [g1, if_neg (by decide)]; exact H1 g2
      · rw [g1, if_pos rfl]; exact H0 g2
    | succ d ih =>
      intro i f e g
      have hi : i < ppop (ppart v s) := by omega
      refine V_X12_even_27 _ _ τ ?_
      rw [r1]
      refine ⟨fun q => absurd q (nI_ge (by omega) (by omega)), fun _ => ?_⟩
      have inner : ∀ d j (f : Int32), j + d = i → ((f = 1 ∧ (∀ a, a < i → ∀ b, b < a → pev v (ppart v s) a b) ∧ ∀ b, b < j → pev v (ppart v s) i b) ∨ (f = 0 ∧ ¬ (∀ i, i < ppop (ppart v s) → ∀ j, j < i → pev v (ppart v s) i j))) → zRun G MX12_even 39 [(0, .ref 29), (3, .int f), (4, .int (nI i)), (5, .int (nI j))] [] τ (zpi φ) := by
        intro d
        induction d with
        | zero =>
          intro j f e2 g2
          have e2 : j = i := by omega
          refine V_X12_even_39 _ _ _ τ ?_
          rw [e2, i1]
          refine ⟨fun _ => ih (i + 1) f (by omega) ?_, fun q => absurd (nI_le (Nat.le_refl _) (by omega)) q⟩
          rcases g2 with ⟨g1, g2, g3⟩ | ⟨g1, g2⟩
          · refine Or.inl ⟨g1, fun a ha b hb => ?_⟩
            rcases Nat.lt_or_ge a i with w | w
            · exact g2 a w b hb
            · have : a = i := by omega
              rw [this] at hb ⊢
              exact g3 b (by omega)
          · exact Or.inr ⟨g1, g2⟩
        | succ d ihd =>
          intro j f e2 g2
          have hj : j < ppop (ppart v s) := by omega
          have mi := memP_at hi
          have mj := memP_at hj
          have p1 := prate_le hK (memP (ppart v s) i) (memP (ppart v s) j)
          have p2 := prate_le hK (memP (ppart v s) j) (memP (ppart v s) i)
          refine V_X12_even_39 _ _ _ τ ⟨fun q => absurd q (nI_ge (by omega) (by omega)), fun _ => ?_⟩
          rw [i1 j]
          rcases g2 with ⟨g1, g2, g3⟩ | ⟨g1, g2⟩
          · refine ⟨fun q => absurd q (by rw [g1]; decide), fun _ => ⟨i, rfl, by omega, i, rfl, by omega, j, rfl, by omega, ?_⟩⟩
            rw [r2 i hi, r2 j hj]
            refine sp_rateOf hL (part_lt mi.1) (part_lt mj.1) ⟨j, rfl, by omega, j, rfl, by omega, i, rfl, by omega, ?_⟩
            rw [r2 i hi, r2 j hj]
            refine sp_rateOf hL (part_lt mj.1) (part_lt mi.1) (fun x hx => ?_)
            rw [r3 i hi, r3 j hj, toI64 (by omega), toI64 (by omega)] at hx
            by_cases w : pev v (ppart v s) i j
            · rw [if_pos (lgc_eq.2 w)] at hx
              refine ihd (j + 1) x (by omega) (Or.inl ⟨hx, g2, fun b hb => ?_⟩)
              rcases Nat.lt_or_ge b j with w2 | w2
              · exact g3 b w2
              · have : b = j := by omega
                rw [this]; exact w
            · rw [if_neg (fun y => w (lgc_eq.1 y))] at hx
              exact ihd (j + 1) x (by omega) (Or.inr ⟨hx, fun y => w (y i hi j (by omega))⟩)
          · exact ⟨fun _ => ihd (j + 1) 0 (by omega) (Or.inr ⟨rfl, g2⟩), fun q => absurd g1 q⟩
      refine inner i 0 f (by omega) ?_
      rcases g with ⟨g1, g2⟩ | ⟨g1, g2⟩
      · exact Or.inl ⟨g1, g2, fun b hb => absurd hb (by omega)⟩
      · exact Or.inr ⟨g1, g2⟩
  exact outer (ppop (ppart v s)) 0 1 (by omega) (Or.inl ⟨rfl, fun a ha => absurd ha (by omega)⟩)
end EV
theorem pair_even {G : hz_G} {τ : hz_T} (hI : Inv τ) (x0 : Int32) : PI G MX11_even MX12_even [.ref 0, .int x0] [.ref 29, .int x0] τ := by
  obtain ⟨v, hv⟩ := hI.to
  have hC := hv.1.c
  have hM := hv.1.m
  have hK := hM.1
  refine C_X11_even x0 τ (sp_cisState hC (b_b (fun h0 => ?_) (fun h0 => pi_ok ?_)))
  · obtain ⟨s, hs, rfl⟩ := st_of h0
    have mod : ∀ (A : Int32) (τ1 : hz_T), InvV v τ1 → zCall G MX12_layRest [.ref 29, .int (nI s)] τ1 (zpi (fun x103 τ104 => ((0 ≤ x103 → zRun G MX12_even 27 [(0, .ref 29), (3, .int (1 : Int32)), (4, .int (0 : Int32))] [] τ104 (zpi (fun b τ2 => A = b ∧ Inv τ2))) ∧ (¬ 0 ≤ x103 → zpi (fun b τ2 => A = b ∧ Inv τ2) (some (.int x103)) τ104)))) → zCall G MX12_even [.ref 29, .int (nI s)] τ1 (zpi (fun b τ2 => A = b ∧ Inv τ2)) := by
      intro A τ1 hv1 K
      exact C_X12_even _ τ1 (sp_misState hv1.1.m (b_b (fun _ => K) (fun h => absurd h0 h)))
    refine sp_cweigh hv hs (fun c τ1 hv1 => ⟨fun q => absurd q (by decide), fun _ => pi_ok (mod _ τ1 hv1 (sp_layRest hv1 hs (fun _ τ2 hv2 => ⟨fun q => absurd q (by decide), fun _ => pi_ok ⟨rfl, hv2.of⟩⟩) (fun c2 => absurd c2 c) (fun c2 => absurd c2 c)))⟩) (fun c n τ1 hv1 => ⟨fun q => absurd q (by decide), fun _ => pi_ok (mod _ τ1 hv1 (sp_layRest hv1 hs (fun c2 => absurd c c2) (fun _ _ τ2 hv2 => ⟨fun q => absurd q (by decide), fun _ => pi_ok ⟨rfl, hv2.of⟩⟩) (fun _ n2 => absurd n2 n)))⟩) (fun c n τ1 hv1 hR => ⟨fun _ => ?_, fun q => absurd rfl q⟩)
    refine sp_agrees hK hs c n hR (fun all => pi_ok ?_) (fun all => pi_ok ?_)
    · rw [if_neg (by decide)]
      exact mod _ τ1 hv1 (sp_layRest hv1 hs (fun c2 => absurd c c2) (fun _ n2 => absurd n n2) (fun _ _ τ2 hv2 hMR => ⟨fun _ => sp_meven hv2.1.m n hMR (fun _ => ⟨rfl, hv2.of⟩) (fun y => absurd all y), fun q => absurd (by decide) q⟩))
    · rw [if_pos rfl]
      exact mod _ τ1 hv1 (sp_layRest hv1 hs (fun c2 => absurd c c2) (fun _ n2 => absurd n n2) (fun _ _ τ2 hv2 hMR => ⟨fun _ => sp_meven hv2.1.m n hMR (fun y => absurd y all) (fun _ => ⟨rfl, hv2.of⟩), fun q => absurd (by decide) q⟩))
  · exact C_X12_even _ τ (sp_misState hM (b_b (fun h => absurd h h0) (fun _ => pi_ok ⟨rfl, hI⟩)))

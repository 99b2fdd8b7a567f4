def InvV (v : Nat → Nat) (τ : hz_T) : Prop := I_lane v τ ∧ I_tape τ ∧ I_fault τ ∧ (∀ k, k < 4 → I_sheet k τ) ∧ I_const τ ∧ I_parts v τ ∧ I_rest v τ ∧ I_words v τ
theorem Inv.to {τ : hz_T} (h : Inv τ) : ∃ v, InvV v τ := h
theorem InvV.of {v : Nat → Nat} {τ : hz_T} (h : InvV v τ) : Inv τ := ⟨v, h⟩
theorem InvV.w {v : Nat → Nat} {τ τ' : hz_T} (h : InvV v τ) (hs : Sm [16, 17] τ τ') (hw : I_words v τ') : InvV v τ' := by
  obtain ⟨a1, a2, a3, a4, a5, a6, a7, a8⟩ := h
  have f : ∀ q, q ∉ [16, 17] → τ'.1.1 q = τ.1.1 q := fun q hq => (hs q hq).1
  have g : ∀ q, q ∉ [16, 17] → τ'.1.2 q = τ.1.2 q := fun q hq => (hs q hq).2
  refine ⟨a1.fr (f 4 (by decide)) (f 30 (by decide)), a2.fr (f 1 (by decide)) (f 2 (by decide)) (by rw [f 29 (by decide)]) (f 32 (by decide)), ?_, fun k hk => (a4 k hk).fr (f 26 (by decide)) (f 27 (by decide)) (f 28 (by decide)) (f 46 (by decide)) (f 47 (by decide)) (f 48 (by decide)), a5.fr (f 33 (by decide)) (f 34 (by decide)), a6.fr (f 7 (by decide)) (g 8 (by decide)) (g 9 (by decide)), ?_, hw⟩
  · unfold I_fault at a3 ⊢
    rw [f 5 (by decide), f 29 (by decide)]
    exact a3
  · exact a7.fr (by rw [f 10 (by decide)]) (by rw [g 10 (by decide)]) (by rw [g 10 (by decide)]) (f 11 (by decide)) (g 12 (by decide)) (g 13 (by decide))
theorem InvV.sk {K : List Nat} {v : Nat → Nat} {τ τ' : hz_T} (h : InvV v τ) (hs : Sk K τ τ') (hK : ∀ q ∈ K, q ∈ scr) : InvV v τ' := by
  obtain ⟨a1, a2, a3, a4, a5, a6, a7, a8⟩ := h
  have f : ∀ q, q ∉ scr → τ'.1.1 q = τ.1.1 q := fun q hq => (hs.1 q (fun z => hq (hK q z))).1
  have g : ∀ q, q ∉ scr → τ'.1.2 q = τ.1.2 q := fun q hq => (hs.1 q (fun z => hq (hK q z))).2
  refine ⟨a1.fr (f 4 (by decide)) (f 30 (by decide)), a2.fr (f 1 (by decide)) (f 2 (by decide)) hs.2.1 (f 32 (by decide)), ?_, fun k hk => (a4 k hk).fr (f 26 (by decide)) (f 27 (by decide)) (f 28 (by decide)) (f 46 (by decide)) (f 47 (by decide)) (f 48 (by decide)), a5.fr (f 33 (by decide)) (f 34 (by decide)), a6.fr (f 7 (by decide)) (g 8 (by decide)) (g 9 (by decide)), ?_, a8.fr (f 16 (by decide)) (g 17 (by decide))⟩
  · unfold I_fault at a3 ⊢
    rw [f 5 (by decide), hs.2.2]
    exact a3
  · exact a7.fr (by rw [f 10 (by decide)]) (by rw [g 10 (by decide)]) (by rw [g 10 (by decide)]) (f 11 (by decide)) (g 12 (by decide)) (g 13 (by decide))
section W5
variable {G : hz_G} {τ : hz_T} {v : Nat → Nat} {φ : Int32 → hz_T → Prop} {ψ : Int64 → hz_T → Prop}
theorem sp_isFrac {x : Int32} (H : φ (if 0 ≤ x.toInt ∧ x.toInt ≤ 1 then 1 else 0) τ) : zCall G MX11_isFractionPart [.int x] τ (zpi φ) := by
  refine C_X11_isFractionPart x τ (pi_ok ?_)
  have e : (if x = 0 then (1 : Int32) else if x = (1 : Int32) then 1 else 0) = (if 0 ≤ x.toInt ∧ x.toInt ≤ 1 then 1 else 0) := by
    have h0 : x = 0 ↔ x.toInt = 0 := Int32.toInt_inj.symm
    have h1 : x = 1 ↔ x.toInt = 1 := Int32.toInt_inj.symm
    by_cases a : x.toInt = 0
    · rw [if_pos (h0.mpr a), if_pos (by omega)]
    · rw [if_neg (fun q => a (h0.mp q))]
      by_cases b : x.toInt = 1
      · rw [if_pos (h1.mpr b), if_pos (by omega)]
      · rw [if_neg (fun q => b (h1.mp q)), if_neg (by omega)]
  rw [e]
  exact H
theorem sp_cisPlace (hL : LC v τ) {x : Int32} (H : φ (if 0 ≤ x.toInt ∧ x.toInt ≤ (v 0 : Int) - 1 then 1 else 0) τ) : zCall G MX1_isPlace [.ref 3, .int x] τ (zpi φ) := by
  have hn := hL.1.n
  have h1 : x < 0 ↔ x.toInt < 0 := Int32.lt_iff_toInt_lt
  have h2 : nI (v 0) ≤ x ↔ (v 0 : Int) ≤ x.toInt := by rw [Int32.le_iff_toInt_le, nI_toInt (by omega)]
  refine C_X1_isPlace x τ ⟨fun hc => pi_ok ?_, fun hc => sp_cplaces hL (pi_ok ?_)⟩
  · rw [h1] at hc
    rw [if_neg (by omega)] at H
    exact H
  · rw [h1] at hc
    have e : (if nI (v 0) ≤ x then (0 : Int32) else 1) = (if 0 ≤ x.toInt ∧ x.toInt ≤ (v 0 : Int) - 1 then 1 else 0) := by
      by_cases b : (v 0 : Int) ≤ x.toInt
      · rw [if_pos (h2.mpr b), if_neg (by omega)]
      · rw [if_neg (fun q => b (h2.mp q)), if_pos (by omega)]
    rw [e]
    exact H
theorem n_1 (hv : LaneOK v) : (nI (v 0) - 1).toInt64.toInt = (v 0 : Int) - 1 := by
  have hn := hv.n
  rw [i64, kx_1, pk_sub_toInt (by omega) (by omega)]
  rfl
end W5
theorem hwD (v : Nat → Nat) : Nonempty (Decidable (HW v)) := ⟨by unfold HW; exact inferInstance⟩
theorem pair_worth {G : hz_G} {τ : hz_T} (hI : Inv τ) (x0 : Int32) : PL G MX11_worth MX12_worth [.ref 0, .int x0] [.ref 29, .int x0] τ := by
  obtain ⟨v, hv⟩ := hI.to
  have hl := hv.1
  have hn := hl.1.n
  have hp := pw64 hn.2
  obtain ⟨hdec⟩ := hwD v
  refine C_X11_worth x0 τ (sp_cisState hl.c (b_b (fun hs => sp_chasWords hl.c (b_a (fun hw => pl_ok ?_) (fun hw => ?_))) (fun hs => pl_ok ?_)))
  · exact C_X12_worth x0 τ (sp_misState hl.m (b_b (fun _ => sp_mhaveWords hl.m (b_b (fun h => absurd h hw) (fun _ => pl_ok ⟨rfl, hI⟩))) (fun h => absurd hs h)))
  · obtain ⟨s, hs', rfl⟩ := st_of hs
    refine sp_worthOf hl.c hv.2.2.2.2.2.2.2 hs' (fun τ1 s1 s2 => pl_ok ?_)
    have hv1 := hv.w s1 s2
    have hm1 := hv1.1.m
    refine C_X12_worth _ τ1 (sp_misState hm1 (b_b (fun _ => sp_mhaveWords hm1 (b_b (fun _ => sp_layWorths hm1 (fun τ2 g1 g2 => sp_mstates (hm1.sk g1 (by decide)) ⟨2 ^ v 0 + s, nI_add _ _, by omega, pl_ok ⟨?_, (hv1.sk g1 (by decide)).of⟩⟩)) (fun h => absurd hw h))) (fun h => absurd hs h)))
    rw [g2 (v 0) s (by omega) hs']
  · exact C_X12_worth x0 τ (sp_misState hl.m (b_b (fun h => absurd h hs) (fun _ => pl_ok ⟨rfl, hI⟩)))
theorem pair_all {G : hz_G} {τ : hz_T} (hI : Inv τ) (x0 : Int32) : PL G MX11_all MX12_all [.ref 0, .int x0] [.ref 29, .int x0] τ := by
  obtain ⟨v, hv⟩ := hI.to
  have hl := hv.1
  have hn := hl.1.n
  obtain ⟨hdec⟩ := hwD v
  refine C_X11_all x0 τ (sp_cplaces hl.c (sp_within ?_))
  rw [t0', nI_toInt (by omega)]
  have ei : (nI (v 0)).toInt64.toInt = (v 0 : Int) := by rw [i64, nI_toInt (by omega)]
  refine b_b (fun hs => sp_chasWords hl.c (b_a (fun hw => pl_ok ?_) (fun hw => ?_))) (fun hs => pl_ok ?_)
  · refine C_X12_all x0 τ (sp_mplaces hl.m (sp_in ?_))
    rw [t0, i64, ei]
    exact b_b (fun _ => sp_mhaveWords hl.m (b_b (fun h => absurd h hw) (fun _ => pl_ok ⟨rfl, hI⟩))) (fun h => absurd hs h)
  · obtain ⟨m, hm, rfl⟩ := of_range (n := v 0 + 1) hs.1 (by omega)
    refine sp_csum (g := 0) hl.c hv.2.2.2.2.2.2.2 (by omega) (by decide) (fun τ1 s1 s2 => pl_ok ?_)
    have hv1 := hv.w s1 s2
    have hm1 := hv1.1.m
    refine C_X12_all _ τ1 (sp_mplaces hm1 (sp_in ?_))
    rw [t0, i64, ei]
    exact b_b (fun _ => sp_mhaveWords hm1 (b_b (fun _ => sp_layWorths hm1 (fun τ2 g1 g2 => sp_allOf (by omega) hm g2 (pl_ok ⟨rfl, (hv1.sk g1 (by decide)).of⟩))) (fun h => absurd hw h))) (fun h => absurd hs h)
  · refine C_X12_all x0 τ (sp_mplaces hl.m (sp_in ?_))
    rw [t0, i64, ei]
    exact b_b (fun h => absurd h hs) (fun _ => pl_ok ⟨rfl, hI⟩)
theorem e1L : (1 : Int64).toInt = 1 := by decide
theorem pair_flow {G : hz_G} {τ : hz_T} (hI : Inv τ) (x0 : Int32) : PL G MX11_flow MX12_flow [.ref 0, .int x0] [.ref 29, .int x0] τ := by
  obtain ⟨v, hv⟩ := hI.to
  have hl := hv.1
  have hn := hl.1.n
  have h4 := hl.1.v (j := 4) (by decide)
  have h6 := hl.1.v (j := 6) (by decide)
  obtain ⟨hdec⟩ := hwD v
  refine C_X11_flow x0 τ (sp_isFrac (b_b (fun hs => sp_chasWords hl.c (b_b (fun hw => ?_) (fun hw => pl_ok ?_))) (fun hs => pl_ok ?_)))
  · have em : nI (v 0) - (1 : Int32) = nI (v 0 - 1) := by rw [kx_1, pk_sub hn.1]
    refine sp_cplaces hl.c (sp_cvalue hl.c (j := 4) (by decide) (sp_cvalue hl.c (j := 6) (by decide) ?_))
    rw [em, toI64 (by omega), toI64 (by omega)]
    refine sp_csum (g := 0) hl.c hv.2.2.2.2.2.2.2 (by omega) (by decide) (fun τ1 s1 s2 => ?_)
    have hv1 := hv.w s1 s2
    refine sp_csum (g := 0) hv1.1.c s2 (Nat.le_refl _) (by decide) (fun τ2 s3 s4 => ?_)
    have hv2 := hv1.w s3 s4
    have hm2 := hv2.1.m
    have hab : v 4 * v 6 ≤ 81 := Nat.mul_le_mul h4 h6
    have hb1 := psw_bd (g := 0) h4 h6 (show v 0 - 1 < 7 by omega)
    have hb2 := psw_bd (g := 0) h4 h6 (show v 0 < 7 by omega)
    have hd0 : 0 < pswN (pworN (v 4) (v 6) (v 0)) 0 (2 ^ v 0) := pswN_pos (pworN_0 (by omega) hw.2.2.2.2.2.2) _ (pw64 hn.2).1
    have hA : v 4 * v 6 * pswN (pworN (v 4) (v 6) (v 0 - 1)) 0 (2 ^ (v 0 - 1)) < 2 ^ 63 := Nat.lt_of_le_of_lt (Nat.mul_le_mul hab hb1) (by decide)
    have ec : lN (v 4) * lN (v 6) * pswS (pwor (lN (v 4)) (lN (v 6)) (v 0 - 1)) 0 (2 ^ (v 0 - 1)) = lN (v 4 * v 6 * pswN (pworN (v 4) (v 6) (v 0 - 1)) 0 (2 ^ (v 0 - 1))) := by rw [psw_eq, lN_mul, lN_mul]
    rw [ec, psw_eq]
    refine sp_clow (abs_c hA) hA hd0 (by omega) (pl_ok ?_)
    refine C_X12_flow _ τ2 (sp_in ?_)
    rw [t0, e1L, i64]
    refine b_b (fun _ => sp_mhaveWords hm2 (b_b (fun _ => sp_layWorths hm2 (fun τ3 g1 g2 => ?_)) (fun h => absurd hw h))) (fun h => absurd hs h)
    have hm3 := hm2.sk g1 (by decide)
    rw [hm3.2 4 (by decide), hm3.2 6 (by decide)]
    refine sp_mplaces hm3 ?_
    rw [em]
    refine sp_allOf (by omega) (by omega) g2 (sp_mplaces hm3 (sp_allOf (by omega) (by omega) g2 ?_))
    rw [abI h4 h6, ec, psw_eq]
    exact sp_mlow (abs_m hA) hA hd0 (by omega) (pl_ok ⟨rfl, (hv2.sk g1 (by decide)).of⟩)
  · refine C_X12_flow x0 τ (sp_in ?_)
    rw [t0, e1L, i64]
    exact b_b (fun _ => sp_mhaveWords hl.m (b_b (fun h => absurd h hw) (fun _ => pl_ok ⟨rfl, hI⟩))) (fun h => absurd hs h)
  · refine C_X12_flow x0 τ (sp_in ?_)
    rw [t0, e1L, i64]
    exact b_b (fun h => absurd h hs) (fun _ => pl_ok ⟨rfl, hI⟩)

/-- a share by words, class and reference: g the places that must be full -/
theorem share_pair {G : hz_G} {τ : hz_T} {v : Nat → Nat} (hv : InvV v τ) [hdec : Decidable (HW v)] {g : Nat} (hg : g < 64) {w : Int32} {ψ : Int64 → hz_T → Prop}
    (hno : ¬ HW v → ψ (-2) τ) (hyes : HW v → ∀ τ2, InvV v τ2 → ψ (plow (lN (pswN (pworN (v 4) (v 6) (v 0)) g (2 ^ v 0))) (pswN (pworN (v 4) (v 6) (v 0)) g (2 ^ v 0)) (pswN (pworN (v 4) (v 6) (v 0)) 0 (2 ^ v 0)) w) τ2) : zCall G MX11_shareByWords [.ref 0, .int (nI g), .int w] τ (zpl ψ) := by
  have hl := hv.1
  have hn := hl.1.n
  have h4 := hl.1.v (j := 4) (by decide)
  have h6 := hl.1.v (j := 6) (by decide)
  refine C_X11_shareByWords _ _ τ (sp_chasWords hl.c (b_b (fun hw => ?_) (fun hw => pl_ok (hno hw))))
  refine sp_cplaces hl.c (sp_csum hl.c hv.2.2.2.2.2.2.2 (Nat.le_refl _) hg (fun τ1 s1 s2 => ?_))
  have hv1 := hv.w s1 s2
  refine sp_csum (g := 0) hv1.1.c s2 (Nat.le_refl _) (by decide) (fun τ2 s3 s4 => ?_)
  have hv2 := hv1.w s3 s4
  have hb1 := psw_bd (g := g) h4 h6 (show v 0 < 7 by omega)
  have hb2 := psw_bd (g := 0) h4 h6 (show v 0 < 7 by omega)
  have hd0 : 0 < pswN (pworN (v 4) (v 6) (v 0)) 0 (2 ^ v 0) := pswN_pos (pworN_0 (by omega) hw.2.2.2.2.2.2) _ (pw64 hn.2).1
  rw [psw_eq, psw_eq]
  exact sp_clow (abs_c (by omega)) (by omega) hd0 (by omega) (pl_ok (hyes hw τ2 hv2))
theorem share_m {G : hz_G} {τ : hz_T} {v : Nat → Nat} (hv : InvV v τ) (hw : HW v) {g : Nat} (hg : g < 64) {w : Int32} {ψ : Int64 → hz_T → Prop}
    (hyes : ∀ τ2, InvV v τ2 → ψ (plow (lN (pswN (pworN (v 4) (v 6) (v 0)) g (2 ^ v 0))) (pswN (pworN (v 4) (v 6) (v 0)) g (2 ^ v 0)) (pswN (pworN (v 4) (v 6) (v 0)) 0 (2 ^ v 0)) w) τ2) :
    zCall G MX12_layWorths [.ref 29] τ (zpv (fun τ1 => zCall G MX12_withAll [.ref 29, .int (nI g)] τ1 (zpl (fun x1 τ2 => zCall G MX12_places [.ref 29] τ2 (zpi (fun x2 τ3 => zCall G MX12_allOf [.ref 29, .int x2] τ3 (zpl (fun x3 τ4 => zCall G MX12_lowest [.long x1, .long x3, .int w] τ4 (zpl ψ))))))))) := by
  have hl := hv.1
  have hn := hl.1.n
  have h4 := hl.1.v (j := 4) (by decide)
  have h6 := hl.1.v (j := 6) (by decide)
  have hb1 := psw_bd (g := g) h4 h6 (show v 0 < 7 by omega)
  have hb2 := psw_bd (g := 0) h4 h6 (show v 0 < 7 by omega)
  have hd0 : 0 < pswN (pworN (v 4) (v 6) (v 0)) 0 (2 ^ v 0) := pswN_pos (pworN_0 (by omega) hw.2.2.2.2.2.2) _ (pw64 hn.2).1
  refine sp_layWorths hl.m (fun τ3 g1 g2 => ?_)
  have hm3 := hl.m.sk g1 (by decide)
  refine sp_withAll hm3 hg g2 (sp_mplaces hm3 (sp_allOf (by omega) (by omega) g2 ?_))
  rw [psw_eq, psw_eq]
  exact sp_mlow (abs_m (by omega)) (by omega) hd0 (by omega) (hyes τ3 (hv.sk g1 (by decide)))
theorem pair_full {G : hz_G} {τ : hz_T} (hI : Inv τ) (x0 : Int32) (x1 : Int32) : PL G MX11_full MX12_full [.ref 0, .int x0, .int x1] [.ref 29, .int x0, .int x1] τ := by
  obtain ⟨v, hv⟩ := hI.to
  have hl := hv.1
  have hn := hl.1.n
  obtain ⟨hdec⟩ := hwD v
  have en := n_1 hl.1
  refine C_X11_full x0 x1 τ (sp_cisPlace hl.c (b_a (fun hp => pl_ok ?_) (fun hp => sp_isFrac (b_b (fun hs => ?_) (fun hs => pl_ok ?_)))))
  · refine C_X12_full x0 x1 τ (sp_mplaces hl.m (sp_in ?_))
    rw [t0, i64, en]
    exact b_a (fun _ => pl_ok ⟨rfl, hI⟩) (fun h => absurd h hp)
  · obtain ⟨i, hi, rfl⟩ := of_range (n := v 0) hp.1 (by omega)
    have hg : 2 ^ i < 64 := Nat.lt_of_lt_of_le (Nat.pow_lt_pow_right (by decide) hi) (pw64 hn.2).2
    rw [one_shl (by omega)]
    refine share_pair hv hg (fun hw => pl_ok ?_) (fun hw τ2 hv2 => pl_ok ?_)
    · refine C_X12_full _ _ τ (sp_mplaces hl.m (sp_in ?_))
      rw [t0, i64, en]
      refine b_a (fun h => absurd hp h) (fun _ => sp_in ?_)
      rw [t0, e1L, i64]
      exact b_b (fun _ => sp_mhaveWords hl.m (b_b (fun h => absurd h hw) (fun _ => pl_ok ⟨rfl, hI⟩))) (fun h => absurd hs h)
    · refine C_X12_full _ _ τ2 (sp_mplaces hv2.1.m (sp_in ?_))
      rw [t0, i64, en]
      refine b_a (fun h => absurd hp h) (fun _ => sp_in ?_)
      rw [t0, e1L, i64]
      refine b_b (fun _ => sp_mhaveWords hv2.1.m (b_b (fun _ => ?_) (fun h => absurd hw h))) (fun h => absurd hs h)
      rw [one_shl (by omega)]
      exact share_m hv2 hw hg (fun τ3 hv3 => pl_ok ⟨rfl, hv3.of⟩)
  · refine C_X12_full x0 x1 τ (sp_mplaces hl.m (sp_in ?_))
    rw [t0, i64, en]
    refine b_a (fun h => absurd hp h) (fun _ => sp_in ?_)
    rw [t0, e1L, i64]
    exact b_b (fun h => absurd h hs) (fun _ => pl_ok ⟨rfl, hI⟩)
theorem tb_or : ∀ i, i < 6 → ∀ j, j < 6 → ((1 : Int32) <<< (nI i &&& 31)) ||| ((1 : Int32) <<< (nI j &&& 31)) = nI (2 ^ i ||| 2 ^ j) ∧ 2 ^ i ||| 2 ^ j < 64 := by decide +kernel
theorem pair_both {G : hz_G} {τ : hz_T} (hI : Inv τ) (x0 : Int32) (x1 : Int32) (x2 : Int32) : PL G MX11_both MX12_both [.ref 0, .int x0, .int x1, .int x2] [.ref 29, .int x0, .int x1, .int x2] τ := by
  obtain ⟨v, hv⟩ := hI.to
  have hl := hv.1
  have hn := hl.1.n
  obtain ⟨hdec⟩ := hwD v
  have en := n_1 hl.1
  refine C_X11_both x0 x1 x2 τ (sp_cisPlace hl.c (b_a (fun hp => pl_ok ?_) (fun hp => sp_cisPlace hl.c (b_a (fun hr => pl_ok ?_) (fun hr => ⟨fun hne => pl_ok ?_, fun hne => sp_isFrac (b_b (fun hs => ?_) (fun hs => pl_ok ?_))⟩)))))
  · refine C_X12_both x0 x1 x2 τ (sp_mplaces hl.m (sp_in ?_))
    rw [t0, i64, en]
    exact b_a (fun _ => pl_ok ⟨rfl, hI⟩) (fun h => absurd h hp)
  · refine C_X12_both x0 x1 x2 τ (sp_mplaces hl.m (sp_in ?_))
    rw [t0, i64, en]
    refine b_a (fun h => absurd hp h) (fun _ => sp_mplaces hl.m (sp_in ?_))
    rw [t0, i64, en]
    exact b_a (fun _ => pl_ok ⟨rfl, hI⟩) (fun h => absurd h hr)
  · refine C_X12_both x0 x1 x2 τ (sp_mplaces hl.m (sp_in ?_))
    rw [t0, i64, en]
    refine b_a (fun h => absurd hp h) (fun _ => sp_mplaces hl.m (sp_in ?_))
    rw [t0, i64, en]
    exact b_a (fun h => absurd hr h) (fun _ => ⟨fun _ => pl_ok ⟨rfl, hI⟩, fun q => absurd hne q⟩)
  · obtain ⟨i, hi, rfl⟩ := of_range (n := v 0) hp.1 (by omega)
    obtain ⟨j, hj, rfl⟩ := of_range (n := v 0) hr.1 (by omega)
    obtain ⟨o1, o2⟩ := tb_or i (by omega) j (by omega)
    rw [o1]
    refine share_pair hv o2 (fun hw => pl_ok ?_) (fun hw τ2 hv2 => pl_ok ?_)
    · refine C_X12_both _ _ _ τ (sp_mplaces hl.m (sp_in ?_))
      rw [t0, i64, en]
      refine b_a (fun h => absurd hp h) (fun _ => sp_mplaces hl.m (sp_in ?_))
      rw [t0, i64, en]
      refine b_a (fun h => absurd hr h) (fun _ => ⟨fun q => absurd q hne, fun _ => sp_in ?_⟩)
      rw [t0, e1L, i64]
      exact b_b (fun _ => sp_mhaveWords hl.m (b_b (fun h => absurd h hw) (fun _ => pl_ok ⟨rfl, hI⟩))) (fun h => absurd hs h)
    · refine C_X12_both _ _ _ τ2 (sp_mplaces hv2.1.m (sp_in ?_))
      rw [t0, i64, en]
      refine b_a (fun h => absurd hp h) (fun _ => sp_mplaces hv2.1.m (sp_in ?_))
      rw [t0, i64, en]
      refine b_a (fun h => absurd hr h) (fun _ => ⟨fun q => absurd q hne, fun _ => sp_in ?_⟩)
      rw [t0, e1L, i64]
      refine b_b (fun _ => sp_mhaveWords hv2.1.m (b_b (fun _ => ?_) (fun h => absurd hw h))) (fun h => absurd hs h)
      rw [o1]
      exact share_m hv2 hw o2 (fun τ3 hv3 => pl_ok ⟨rfl, hv3.of⟩)
  · refine C_X12_both x0 x1 x2 τ (sp_mplaces hl.m (sp_in ?_))
    rw [t0, i64, en]
    refine b_a (fun h => absurd hp h) (fun _ => sp_mplaces hl.m (sp_in ?_))
    rw [t0, i64, en]
    refine b_a (fun h => absurd hr h) (fun _ => ⟨fun q => absurd q hne, fun _ => sp_in ?_⟩)
    rw [t0, e1L, i64]
    exact b_b (fun h => absurd h hs) (fun _ => pl_ok ⟨rfl, hI⟩)

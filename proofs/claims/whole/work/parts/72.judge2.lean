/-! the reference's judging -/
def jfl (v : Nat → Nat) (P : Nat) (cw : Nat → Int32) : Nat → Int32
  | 0 => if lg_cmp (jA cw (ppop P)) 0 ≤ 0 then 0 else 1
  | i + 1 => if jfl v P cw i = 0 then 0 else if lg_cmp (jM v P cw i (ppop P)) 0 = 0 then 1 else 0
theorem jfl_s (v : Nat → Nat) (P : Nat) (cw : Nat → Int32) (i : Nat) : jfl v P cw (i + 1) = if jfl v P cw i = 0 then 0 else if lg_cmp (jM v P cw i (ppop P)) 0 = 0 then 1 else 0 := rfl
theorem jfl_at (v : Nat → Nat) (P : Nat) (cw : Nat → Int32) : ∀ i, jfl v P cw i = if ¬ lg_cmp (jA cw (ppop P)) 0 ≤ 0 ∧ (∀ j, j < i → jM v P cw j (ppop P) = 0) then 1 else 0 := by
  intro i
  induction i with
  | zero =>
    show (if lg_cmp (jA cw (ppop P)) 0 ≤ 0 then (0 : Int32) else 1) = _
    by_cases z : lg_cmp (jA cw (ppop P)) 0 ≤ 0
    · rw [if_pos z, if_neg (fun y => y.1 z)]
    · rw [if_neg z, if_pos ⟨z, fun j hj => absurd hj (by omega)⟩]
  | succ i ih =>
    rw [jfl_s, ih]
    by_cases c : ¬ lg_cmp (jA cw (ppop P)) 0 ≤ 0 ∧ (∀ j, j < i → jM v P cw j (ppop P) = 0)
    · rw [if_pos c, if_neg (by decide)]
      by_cases w : jM v P cw i (ppop P) = 0
      · rw [if_pos (lgc_eq.2 w), if_pos ⟨c.1, fun j hj => by
          rcases Nat.lt_or_ge j i with q | q
          · exact c.2 j q
          · have : j = i := by omega
            rw [this]; exact w⟩]
      · rw [if_neg (fun y => w (lgc_eq.1 y)), if_neg (fun y => w (y.2 i (by omega)))]
    · rw [if_neg c, if_pos rfl, if_neg (fun y => c ⟨y.1, fun j hj => y.2 j (by omega)⟩)]
theorem jfl_V (v : Nat → Nat) (P : Nat) (cw : Nat → Int32) : (if jfl v P cw (ppop P) = 0 then (0 : Int32) else 1) = jV v P cw := by
  rw [jfl_at, bb01]
  rfl
section JM
variable {G : hz_G} {τ : hz_T} {v : Nat → Nat} {φ : Int32 → hz_T → Prop}
theorem lg_ge {x : Int32} : 0 ≤ lg_cmp x.toInt64 (0 : Int64) ↔ 0 ≤ x := by
  have h1 := lgc_lt (x := x.toInt64) (y := 0)
  rw [i64, t0] at h1
  have h2 : lg_cmp x.toInt64 (0 : Int64) < 0 ↔ ¬ 0 ≤ lg_cmp x.toInt64 (0 : Int64) := by
    rw [Int32.lt_iff_toInt_lt, Int32.le_iff_toInt_le]; omega
  have h3 : x.toInt < 0 ↔ ¬ 0 ≤ x := by
    rw [Int32.le_iff_toInt_le, t0']; omega
  rw [h2, h3] at h1
  exact ⟨fun y => Decidable.byContradiction (fun z => (h1.2 z) y), fun y => Decidable.byContradiction (fun z => (h1.1 z) y)⟩
theorem sp_verdict (hL : LM v τ) {P : Nat} (hP : ∀ a, P.testBit a = true → a < 2 ^ v 0) {cw : Nat → Int32} (hN : τ.1.1 29 15 = nI (ppop P)) (hm : ∀ i, i < ppop P → τ.1.1 36 i = nI (memP P i)) (hw : ∀ i, i < ppop P → τ.1.2 37 i = (cw i).toInt64) (H : φ (jV v P cw) τ) : zRun G MX12_judge 200 [(0, .ref 29), (7, .int (jfl v P cw 0)), (8, .int (0 : Int32))] [] τ (zpi φ) := by
  have hK := hL.1
  have hp := pw64 hK.n.2
  have hle := ppop_le P
  have loop : ∀ m i, i + m = ppop P → zRun G MX12_judge 200 [(0, .ref 29), (7, .int (jfl v P cw i)), (8, .int (nI i))] [] τ (zpi φ) := by
    intro m
    induction m with
    | zero =>
      intro i e
      have e : i = ppop P := by omega
      subst e
      refine V_X12_judge_200 _ _ τ ⟨fun _ => pi_ok ?_, fun q => absurd (by rw [hN]; exact nI_le (Nat.le_refl _) (by omega)) q⟩
      rw [jfl_V]; exact H
    | succ m ih =>
      intro i e
      have hi : i < ppop P := by omega
      refine V_X12_judge_200 _ _ τ ⟨fun q => absurd (by rw [hN] at q; exact q) (nI_ge (by omega) (by omega)), fun _ => ?_⟩
      have inner : ∀ m j, j + m = ppop P → zRun G MX12_judge 215 [(0, .ref 29), (7, .int (jfl v P cw i)), (8, .int (nI i)), (9, .long (jM v P cw i j)), (11, .int (nI j))] [] τ (zpi φ) := by
        intro m
        induction m with
        | zero =>
          intro j e
          have e : j = ppop P := by omega
          subst e
          refine V_X12_judge_215 _ _ _ _ τ ⟨fun _ x hx => ?_, fun q => absurd (by rw [hN]; exact nI_le (Nat.le_refl _) (by omega)) q⟩
          rw [hx, i1]
          have h := ih (i + 1) (by omega)
          rw [jfl_s] at h
          exact h
        | succ m ihm =>
          intro j e
          have hj : j < ppop P := by omega
          have bi := hP _ (memP_at hi).1
          have bj := hP _ (memP_at hj).1
          have r1 := prate_le hK (memP P j) (memP P i)
          have r2 := prate_le hK (memP P i) (memP P j)
          refine V_X12_judge_215 _ _ _ _ τ ⟨fun q => absurd (by rw [hN] at q; exact q) (nI_ge (by omega) (by omega)), fun _ => ⟨j, rfl, by omega, j, rfl, by omega, i, rfl, by omega, ?_⟩⟩
          rw [hm i hi, hm j hj]
          refine sp_rateOf hL bj bi ⟨i, rfl, by omega, i, rfl, by omega, j, rfl, by omega, ?_⟩
          rw [hm i hi, hm j hj]
          refine sp_rateOf hL bi bj (fun x hx => ?_)
          rw [hx, hw i hi, hw j hj, toI64 (by omega), toI64 (by omega), i1]
          have h := ihm (j + 1) (by omega)
          unfold jM at h
          rw [psumL_s] at h
          exact h
      exact inner (ppop P) 0 (by omega)
  exact loop (ppop P) 0 (by omega)
theorem sp_mcells (hL : LM v τ) {P k n : Nat} (hP : ∀ a, P.testBit a = true → a < 2 ^ v 0) (hk : k < 4) (hn : n ≤ 64) (hsz : τ.1.1 47 k = nI n) {f : Int32} {cw : Nat → Int32} (hc : ∀ i, i < 64 → jin n f i → τ.1.1 48 (64 * k + (f.toInt + i).toNat) = cw i) (hN : τ.1.1 29 15 = nI (ppop P)) (hm : ∀ i, i < ppop P → τ.1.1 36 i = nI (memP P i)) (H : ∀ τ', Sk [37] τ τ' → φ (jr n f cw (jV v P cw) 0 (ppop P)) τ') : zRun G MX12_judge 89 [(0, .ref 29), (2, .int (nI k)), (4, .int f), (5, .long (0 : Int64)), (7, .int (0 : Int32))] [] τ (zpi φ) := by
  have hle := ppop_le P
  have loop : ∀ m i τ1, i + m = ppop P → Sk [37] τ τ1 → (∀ j, j < i → τ1.1.2 37 j = (cw j).toInt64) → (∀ τ', Sk [37] τ τ' → φ (jr n f cw (jV v P cw) i m) τ') → zRun G MX12_judge 89 [(0, .ref 29), (2, .int (nI k)), (4, .int f), (5, .long (jA cw i)), (7, .int (nI i))] [] τ1 (zpi φ) := by
    intro m
    induction m with
    | zero =>
      intro i τ1 e g1 g2 K
      have e : i = ppop P := by omega
      subst e
      have hN1 : τ1.1.1 29 15 = nI (ppop P) := by rw [(g1.1 29 (by decide)).1]; exact hN
      refine V_X12_judge_89 _ _ _ _ τ1 ⟨fun _ x hx => ?_, fun q => absurd (by rw [hN1]; exact nI_le (Nat.le_refl _) (by omega)) q⟩
      rw [hx]
      exact sp_verdict (hL.sk g1 (by decide)) hP hN1 (fun i hi => by rw [(g1.1 36 (by decide)).1]; exact hm i hi) g2 (K τ1 g1)
    | succ m ih =>
      intro i τ1 e g1 g2 K
      have hN1 : τ1.1.1 29 15 = nI (ppop P) := by rw [(g1.1 29 (by decide)).1]; exact hN
      have hsz1 : τ1.1.1 47 k = nI n := by rw [(g1.1 47 (by decide)).1]; exact hsz
      have f1 := f.toInt_lt
      have f2 := f.le_toInt
      rw [jr_s] at K
      refine V_X12_judge_89 _ _ _ _ τ1 ⟨fun q => absurd (by rw [hN1] at q; exact q) (nI_ge (by omega) (by omega)), fun _ => ⟨k, rfl, hk, ?_⟩⟩
      rw [hsz1]
      have eA : (f.toInt64 + (nI i).toInt64).toInt = f.toInt + i := by
        rw [Int64.toInt_add, i64, i64, nI_toInt (by omega), Int.bmod_eq_of_le (by omega) (by omega)]
      have eB : (nI n - (1 : Int32)).toInt64.toInt = (n : Int) - 1 := by
        rw [i64, kx_1, pk_sub_toInt (by omega) (by omega)]; rfl
      refine sp_in (b_b (fun c => ?_) (fun c => pi_ok ?_))
      · rw [t0, eA, eB] at c
        have c1 : 0 ≤ f.toInt + (i : Int) ∧ f.toInt + (i : Int) < n := by omega
        have c2 : jin n f i := c1
        obtain ⟨j1, j2⟩ := jf_at hn (show i < 64 by omega) c2
        have eI : ((64 : Int32) * nI k + f) + nI i = nI (64 * k + (f.toInt + i).toNat) := by
          rw [Int32.add_assoc, j1, ix64']
        refine ⟨64 * k + (f.toInt + i).toNat, eI, by omega, i, rfl, by omega, i, rfl, by omega, ?_⟩
        have eC : τ1.1.1 48 (64 * k + (f.toInt + i).toNat) = cw i := by
          rw [(g1.1 48 (by decide)).1]; exact hc i (by omega) c2
        rw [eC, zL_at, if_pos ⟨rfl, rfl⟩, lg_ge]
        rw [if_neg (fun y => y c1)] at K
        refine ⟨fun z => ⟨i, rfl, by omega, fun x hx => ?_⟩, fun z => pi_ok ?_⟩
        · rw [if_neg (fun y => y z)] at K
          rw [zL_at, if_pos ⟨rfl, rfl⟩] at hx
          have eJ : jA cw i + (cw i).toInt64 = jA cw (i + 1) := (psumL_s _ _).symm
          rw [hx, i1, eJ]
          refine ih (i + 1) _ (by omega) (g1.L (q := 37) (by decide)) (fun j hj => ?_) K
          rw [zL_at]
          by_cases w : j = i
          · rw [if_pos ⟨rfl, w⟩, w]
          · rw [if_neg (fun y => w y.2)]; exact g2 j (by omega)
        · have := K _ (g1.L (q := 37) (j := i) (x := (cw i).toInt64) (by decide))
          rw [if_pos z] at this
          exact this
      · rw [t0, eA, eB] at c
        have c1 : ¬ (0 ≤ f.toInt + (i : Int) ∧ f.toInt + (i : Int) < n) := by omega
        have := K τ1 g1
        rw [if_pos c1] at this
        exact this
  exact loop (ppop P) 0 τ (by omega) Sk.rf (fun j hj => absurd hj (by omega)) H
end JM
theorem InvV.sh {v : Nat → Nat} {τ : hz_T} (h : InvV v τ) {k : Nat} (hk : k < 4) : I_sheet k τ := h.2.2.2.1 k hk
theorem pair_judge {G : hz_G} {τ : hz_T} (hI : Inv τ) (x0 : Int32) (x1 : Int32) (x2 : Int32) (x3 : Int32) : PI G MX11_judge MX12_judge [.ref 0, .int x0, .int x1, .int x2, .int x3] [.ref 29, .int x0, .int x1, .int x2, .int x3] τ := by
  obtain ⟨v, hv⟩ := hI.to
  have hC := hv.1.c
  have hM := hv.1.m
  have hK := hM.1
  have hp := pw64 hK.n.2
  refine C_X11_judge x0 x1 x2 x3 τ (sp_cisState hC (b_a (fun h0 => pi_ok ?_) (fun h0 => sp_isSheet (b_a (fun h1 => pi_ok ?_) (fun h1 => sp_isKind (b_b (fun h2 => ?_) (fun h2 => pi_ok ?_)))))))
  · exact C_X12_judge _ _ _ _ τ (sp_misState hM (b_a (fun _ => pi_ok ⟨rfl, hI⟩) (fun h => absurd h h0)))
  · refine C_X12_judge _ _ _ _ τ (sp_misState hM (b_a (fun h => absurd h0 h) (fun _ => sp_in (b_a (fun _ => pi_ok ⟨rfl, hI⟩) (fun h => ?_)))))
    rw [t0, t3L, i64] at h
    exact absurd h h1
  · obtain ⟨s, hs, rfl⟩ := st_of h0
    obtain ⟨k, hk, rfl⟩ := of_range (n := 4) h1.1 (by omega)
    obtain ⟨d, hd, rfl⟩ := of_range (n := 3) h2.1 (by omega)
    refine sp_ready3 hv (fun τ1 s1 hv1 hP => ⟨rfl, ?_⟩)
    have hM1 := hv1.1.m
    have mod : ∀ (A : Int32) (τ2 : hz_T), InvV v τ2 → (∀ τ3, InvV v τ3 → RMod v τ3 → (τ3.1.1 46 k = τ2.1.1 46 k ∧ τ3.1.1 47 k = τ2.1.1 47 k ∧ τ3.1.1 48 = τ2.1.1 48) → (¬ preach v s = ppart v s → A = -4) ∧ (preach v s = ppart v s → (τ3.1.1 46 k = nI d → zCall G MX12_layMembers [.ref 29, .int (nI s)] τ3 (zpv (fun τ113 => zRun G MX12_judge 89 [(0, .ref 29), (2, .int (nI k)), (4, .int x3), (5, .long (0 : Int64)), (7, .int (0 : Int32))] [] τ113 (zpi (fun b τ2 => A = b ∧ Inv τ2))))) ∧ (¬ τ3.1.1 46 k = nI d → A = if τ3.1.1 46 k = -4 then -11 else -13))) → zCall G MX12_judge [.ref 29, .int (nI s), .int (nI k), .int (nI d), .int x3] τ2 (zpi (fun b τ2 => A = b ∧ Inv τ2)) := by
      intro A τ2 hv2 K
      have hM2 := hv2.1.m
      refine C_X12_judge _ _ _ _ τ2 (sp_misState hM2 (b_a (fun h => absurd h0 h) (fun _ => sp_in (b_a (fun h => ?_) (fun _ => sp_in (b_b (fun _ => sp_layReaches hM2 (fun τ3 g1 g2 => ?_)) (fun h => ?_)))))))
      · rw [t0, t3L, i64] at h
        exact absurd h1 h
      · have hv3 := hv2.sk g1 (by decide)
        obtain ⟨K1, K2⟩ := K τ3 hv3 g2 ⟨by rw [(g1.1 46 (by decide)).1], by rw [(g1.1 47 (by decide)).1], (g1.1 48 (by decide)).1⟩
        refine sp_misShut hv3.1.m g2 hs (b_b (fun c => ⟨k, rfl, hk, ?_⟩) (fun c => pi_ok ⟨K1 c, hv3.of⟩))
        obtain ⟨K3, K4⟩ := K2 c
        exact ⟨K3, fun w => ⟨k, rfl, hk, pi_ok ⟨K4 w, hv3.of⟩⟩⟩
      · rw [t0, t2L, i64] at h
        exact absurd h2 h
    refine sp_cisShut hK hP hs (b_b (fun c => ?_) (fun c => pi_ok (mod _ τ1 hv1 (fun τ3 hv3 hR3 e3 => ⟨fun _ => rfl, fun y => absurd y c⟩))))
    refine sp_isNothing hk (b_a (fun c1 => ?_) (fun c1 => pi_ok (mod _ τ1 hv1 (fun τ3 hv3 hR3 e3 => ⟨fun y => absurd c y, fun _ => ⟨fun w => ?_, fun w => ?_⟩⟩))))
    · rcases hv1.sh hk with ⟨n1, n2⟩ | ⟨dd, n, n0, n1, n2, n3, n4, n5, n6⟩
      · exact absurd n1 c1
      · refine sp_isOfKind hk (b_b (fun c2 => sp_cpartOf hK hP hs ?_) (fun c2 => pi_ok (mod _ τ1 hv1 (fun τ3 hv3 hR3 e3 => ⟨fun y => absurd c y, fun _ => ⟨fun w => ?_, fun w => ?_⟩⟩))))
        · refine sp_judgeCells hv1.1.c hs c hk n1 n4 (fun τ2 j2 => pi_ok (mod _ τ2 (hv1.j j2) (fun τ3 hv3 hR3 e3 => ⟨fun y => absurd c y, fun _ => ⟨fun w => ?_, fun w => ?_⟩⟩)))
          · refine sp_layMembers hv3.1.m hR3 hs (fun τ4 g4 m1 m2 => ?_)
            have hv4 := hv3.sk g4 (by decide)
            have hsz4 : τ4.1.1 47 k = nI n := by rw [(g4.1 47 (by decide)).1, e3.2.1, (j2.1 47 (by decide)).1]; exact n5
            refine sp_mcells hv4.1.m (fun a ha => part_lt ha) hk n1 hsz4 (cw := jcw τ1 k x3) (fun i hi hj => ?_) m1 m2 (fun τ5 g5 => ⟨rfl, (hv4.sk g5 (by decide)).of⟩)
            rw [(g4.1 48 (by decide)).1, e3.2.2, (j2.1 48 (by decide)).1]
            exact (n6 _ (jf_at n1 hi hj).2).symm
          · exfalso
            rw [e3.1, (j2.1 46 (by decide)).1, n3] at w
            rw [n2] at c2
            exact w c2
        · exfalso
          rw [e3.1, n3] at w
          rw [n2] at c2
          exact c2 w
        · rw [e3.1, n3, if_neg (nI_m4 (by omega))]
    · exfalso
      rcases hv1.sh hk with ⟨n1, n2⟩ | ⟨dd, n, n0, n1, n2, n3, n4, n5, n6⟩
      · rw [e3.1, n2] at w
        exact nI_m4 (show d < 2 ^ 31 by omega) w.symm
      · rw [n2] at c1
        exact nI_m1 (by omega) c1
    · rcases hv1.sh hk with ⟨n1, n2⟩ | ⟨dd, n, n0, n1, n2, n3, n4, n5, n6⟩
      · rw [e3.1, n2, if_pos rfl]
      · rw [n2] at c1
        exact absurd c1 (nI_m1 (by omega))
  · refine C_X12_judge _ _ _ _ τ (sp_misState hM (b_a (fun h => absurd h0 h) (fun _ => sp_in (b_a (fun h => ?_) (fun _ => sp_in (b_b (fun h => ?_) (fun _ => pi_ok ⟨rfl, hI⟩)))))))
    · rw [t0, t3L, i64] at h
      exact absurd h1 h
    · rw [t0, t2L, i64] at h
      exact absurd h h2

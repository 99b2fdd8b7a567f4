/-! rest, through, even -/
theorem iL_neg (z : Int) : -iL z = iL (-z) := (Int64.ofInt_neg z).symm
theorem iL_add (a b : Int) : iL a + iL b = iL (a + b) := (Int64.ofInt_add a b).symm
theorem absI_c {z : Int} (h1 : -2 ^ 62 < z) (h2 : z < 2 ^ 62) : (if 0 < iL z then iL z else -iL z) = lN z.natAbs := by
  have e : (0 : Int64) < iL z ↔ 0 < z := by rw [Int64.lt_iff_toInt_lt, iL_to (by omega) (by omega), t0]
  rw [← iL_N, iL_neg]
  by_cases q : 0 < z
  · rw [if_pos (e.2 q), show ((z.natAbs : Nat) : Int) = z by omega]
  · rw [if_neg (fun y => q (e.1 y)), show ((z.natAbs : Nat) : Int) = -z by omega]
theorem absI_m {z : Int} (h1 : -2 ^ 62 < z) (h2 : z < 2 ^ 62) : (if 0 ≤ lg_cmp (iL z) 0 then iL z else -iL z) = lN z.natAbs := by
  have e : 0 ≤ lg_cmp (iL z) (0 : Int64) ↔ 0 ≤ z := by
    have a := lgc_lt (x := iL z) (y := 0)
    rw [iL_to (by omega) (by omega), t0] at a
    have b : lg_cmp (iL z) (0 : Int64) < 0 ↔ ¬ 0 ≤ lg_cmp (iL z) (0 : Int64) := by
      rw [Int32.lt_iff_toInt_lt, Int32.le_iff_toInt_le]; omega
    rw [b] at a
    constructor
    · intro y
      rcases Int.lt_or_le z 0 with q | q
      · exact absurd y (a.2 q)
      · exact q
    · intro y
      refine Decidable.byContradiction (fun n => ?_)
      have := a.1 n
      omega
  rw [← iL_N, iL_neg]
  by_cases q : 0 ≤ z
  · rw [if_pos (e.2 q), show ((z.natAbs : Nat) : Int) = z by omega]
  · rw [if_neg (fun y => q (e.1 y)), show ((z.natAbs : Nat) : Int) = -z by omega]
theorem psum_bdN {f : Nat → Nat} {c : Nat} : ∀ m, (∀ i, i < m → f i ≤ c) → psum m f ≤ c * m := by
  intro m
  induction m with
  | zero => intro _; exact Nat.le_refl _
  | succ m ih => intro h; rw [psum_s, Nat.mul_succ]; have h1 := ih (fun i hi => h i (by omega)); have h2 := h m (by omega); omega
theorem psum_ge {f : Nat → Nat} {i : Nat} : ∀ m, i < m → f i ≤ psum m f := by
  intro m
  induction m with
  | zero => intro h; omega
  | succ m ih =>
    intro h
    rw [psum_s]
    by_cases q : i = m
    · rw [q]; omega
    · have := ih (by omega); omega
theorem tot_ok {v : Nat → Nat} (hK : LaneOK v) {s : Nat} (hs : s < 2 ^ v 0) (hsh : preach v s = ppart v s) (hN : ppop (ppart v s) ≤ 8) : 0 < psum (ppop (ppart v s)) (wN v (ppart v s)) ∧ psum (ppop (ppart v s)) (wN v (ppart v s)) < 2 ^ 50 := by
  have hp := pw64 hK.n.2
  obtain ⟨m1, m2⟩ := mem_pop (P := ppart v s) (b := s) (by omega) (ppart_self hs)
  have a := psum_bdN (f := wN v (ppart v s)) (c := 2 ^ 40) (ppop (ppart v s)) (fun i hi => Nat.le_of_lt (pwt_w hK hs hsh hN hi).2.2)
  have b := psum_ge (f := wN v (ppart v s)) (ppop (ppart v s)) m1
  have c := (pwt_w hK hs hsh hN m1).2.1
  have d : 2 ^ 40 * ppop (ppart v s) ≤ 2 ^ 40 * 8 := Nat.mul_le_mul_left _ hN
  exact ⟨by omega, by omega⟩
theorem tot_c {v : Nat → Nat} (hK : LaneOK v) {s : Nat} (hs : s < 2 ^ v 0) (hsh : preach v s = ppart v s) (hN : ppop (ppart v s) ≤ 8) : psumL (ppop (ppart v s)) (pwt v (pmem (ppart v s))) = lN (psum (ppop (ppart v s)) (wN v (ppart v s))) := by
  rw [← psumL_N]
  exact psumL_cg _ (fun i hi => (pwt_w hK hs hsh hN hi).1)
def pps (v : Nat → Nat) (s : Nat) : Int32 := if v 0 = 1 then (if s.testBit 0 = true then -(nI (v 7)) else nI (v 4)) else if s.testBit 0 = true then (if s.testBit 1 = true then 0 else nI (v 2)) else (if s.testBit 1 = true then -(nI (v 3)) else 0)
theorem tb_ng2 : ∀ a, a < 10 → (nI a).toInt64 = iL (a : Int) := by decide +kernel
theorem pps_z {v : Nat → Nat} (hK : LaneOK v) (s : Nat) : ∃ z : Int, (pps v s).toInt64 = iL z ∧ -9 ≤ z ∧ z ≤ 9 := by
  have a2 := hK.v (j := 2) (by decide)
  have a3 := hK.v (j := 3) (by decide)
  have a4 := hK.v (j := 4) (by decide)
  have a7 := hK.v (j := 7) (by decide)
  unfold pps
  split
  · split
    · exact ⟨_, tb_ng _ (by omega), by omega, by omega⟩
    · exact ⟨_, tb_ng2 _ (by omega), by omega, by omega⟩
  · split
    · split
      · exact ⟨0, by decide, by decide, by decide⟩
      · exact ⟨_, tb_ng2 _ (by omega), by omega, by omega⟩
    · split
      · exact ⟨_, tb_ng _ (by omega), by omega, by omega⟩
      · exact ⟨0, by decide, by decide, by decide⟩
def pthr (v : Nat → Nat) (P k : Nat) : Int64 := psumL k (fun i => lN (wN v P i) * (pps v (memP P i)).toInt64)
theorem pthr_z {v : Nat → Nat} (hK : LaneOK v) {s : Nat} (hs : s < 2 ^ v 0) (hsh : preach v s = ppart v s) (hN : ppop (ppart v s) ≤ 8) : ∀ k, k ≤ ppop (ppart v s) → ∃ z : Int, pthr v (ppart v s) k = iL z ∧ -(k * 2 ^ 44) ≤ z ∧ z ≤ k * 2 ^ 44 := by
  intro k
  induction k with
  | zero => intro _; exact ⟨0, rfl, by decide, by decide⟩
  | succ k ih =>
    intro hk
    obtain ⟨z, h1, h2, h3⟩ := ih (by omega)
    obtain ⟨y, y1, y2, y3⟩ := pps_z hK (memP (ppart v s) k)
    have hw := pwt_w hK hs hsh hN (show k < ppop (ppart v s) by omega)
    have e : pthr v (ppart v s) (k + 1) = pthr v (ppart v s) k + lN (wN v (ppart v s) k) * (pps v (memP (ppart v s) k)).toInt64 := psumL_s _ _
    refine ⟨z + (wN v (ppart v s) k : Int) * y, ?_, ?_, ?_⟩
    · rw [e, h1, y1, ← iL_N, iL_mul, iL_add]
    · have a : (wN v (ppart v s) k : Int) * (-9) ≤ (wN v (ppart v s) k : Int) * y := Int.mul_le_mul_of_nonneg_left y2 (by omega)
      omega
    · have a : (wN v (ppart v s) k : Int) * y ≤ (wN v (ppart v s) k : Int) * 9 := Int.mul_le_mul_of_nonneg_left y3 (by omega)
      omega
section RP
variable {G : hz_G} {τ : hz_T} {v : Nat → Nat} {φ : Int32 → hz_T → Prop} {ψ : Int64 → hz_T → Prop}
theorem sp_cweightOf (hK : LaneOK v) {s : Nat} (hs : s < 2 ^ v 0) (hR : RestV v (ppart v s) τ) (H : ψ (pwt v (pmem (ppart v s)) (ppopI (ppart v s) s)) τ) : zCall G MX5_weightOf [.ref 10, .int (nI s)] τ (zpl ψ) := by
  have hp := pw64 hK.n.2
  obtain ⟨r1, r2, r3, r4⟩ := hR
  obtain ⟨m1, m2⟩ := mem_pop (P := ppart v s) (b := s) (by omega) (ppart_self hs)
  refine C_X5_weightOf _ τ ?_
  have loop : ∀ d i, i + d = ppopI (ppart v s) s → zRun G MX5_weightOf 2 [(0, .ref 10), (1, .int (nI s)), (2, .int (nI i))] [] τ (zpl ψ) := by
    intro d
    induction d with
    | zero =>
      intro i e
      have e : i = ppopI (ppart v s) s := by omega
      have hi : i < ppop (ppart v s) := by omega
      refine V_X5_weightOf_2 _ _ τ ?_
      rw [r2]
      have e11 : τ.1.1 11 i = nI s := by
        rw [(r3 i hi).1]
        have : memP (ppart v s) i = s := by rw [e]; exact m2
        exact congrArg nI this
      refine ⟨fun q => absurd q (nI_ge (by omega) (by omega)), fun _ => ⟨i, rfl, by omega, fun q => absurd e11 q, fun _ => ⟨i, rfl, by omega, pl_ok ?_⟩⟩⟩
      rw [(r3 i hi).2.1, e]; exact H
    | succ d ih =>
      intro i e
      have hi : i < ppop (ppart v s) := by omega
      have mi := memP_at hi
      refine V_X5_weightOf_2 _ _ τ ?_
      rw [r2, i1]
      refine ⟨fun q => absurd q (nI_ge (by omega) (by omega)), fun _ => ⟨i, rfl, by omega, fun _ => ih (i + 1) (by omega), fun q => ?_⟩⟩
      exfalso
      rw [(r3 i hi).1] at q
      have q2 : memP (ppart v s) i = s := (nI_eq (show memP (ppart v s) i < 2 ^ 31 by omega) (by omega)).1 q
      have := mi.2.1
      rw [q2] at this
      omega
  exact loop (ppopI (ppart v s) s) 0 (by omega)
theorem sp_cpas (hL : LC v τ) {s : Nat} (hs : s < 2 ^ v 0) (H : φ (pps v s) τ) : zCall G MX1_passing [.ref 3, .int (nI s)] τ (zpi φ) := by
  have hK := hL.1
  have hn := hK.n
  have hp := pw64 hn.2
  refine C_X1_passing _ τ (sp_cplaces hL ?_)
  unfold pps at H
  refine ⟨fun q => ?_, fun q => pi_ok ?_⟩
  · have q2 : ¬ v 0 = 1 := fun e => q (by rw [e]; rfl)
    rw [if_neg q2] at H
    refine sp_bond (l := 0) (r := 1) hL (by omega) (by decide) (by decide) (pi_ok ?_)
    rw [and1]
    unfold pbond
    by_cases a : s.testBit 0 = true
    · rw [if_pos a] at H
      rw [if_pos a, if_pos rfl]
      by_cases b : s.testBit 1 = true
      · rw [if_pos b] at H
        rw [a, b, if_pos rfl, pw_0]; exact H
      · rw [if_neg b] at H
        rw [a, (Bool.not_eq_true _).mp b, if_neg (by decide), if_pos rfl, pw_p (by decide)]; exact H
    · rw [if_neg a] at H
      rw [if_neg a, if_neg (by decide)]
      by_cases b : s.testBit 1 = true
      · rw [if_pos b] at H
        rw [(Bool.not_eq_true _).mp a, b, if_neg (by decide), if_neg (by decide), pw_p (by decide)]; exact H
      · rw [if_neg b] at H
        rw [(Bool.not_eq_true _).mp a, (Bool.not_eq_true _).mp b, if_pos rfl, pw_0]
        exact H
  · have q2 : v 0 = 1 := (nI_eq (a := v 0) (b := 1) (by omega) (by decide)).1 q
    rw [if_pos q2] at H
    rw [and1, hL.2 4 (by decide), hL.2 7 (by decide)]
    by_cases a : s.testBit 0 = true
    · rw [if_pos a] at H
      rw [if_pos a, if_neg (by decide)]; exact H
    · rw [if_neg a] at H
      rw [if_neg a, if_pos rfl]; exact H
theorem sp_mgo (hL : LM v τ) {s : Nat} (hs : s < 2 ^ v 0) (H : φ (pps v s) τ) : zCall G MX12_goesIn [.ref 29, .int (nI s)] τ (zpi φ) := by
  have hK := hL.1
  have hn := hK.n
  have hp := pw64 hn.2
  refine C_X12_goesIn _ τ (sp_mplaces hL ?_)
  unfold pps at H
  have h0 : ∀ {φ : Int32 → hz_T → Prop}, φ (if s.testBit 0 = true then 1 else 0) τ → zCall G MX12_has [.ref 29, .int (nI s), .int (0 : Int32)] τ (zpi φ) := fun h => sp_has (i := 0) (by omega) (by decide) h
  have h1 : ∀ {φ : Int32 → hz_T → Prop}, φ (if s.testBit 1 = true then 1 else 0) τ → zCall G MX12_has [.ref 29, .int (nI s), .int (1 : Int32)] τ (zpi φ) := fun h => sp_has (i := 1) (by omega) (by decide) h
  refine ⟨fun q => ?_, fun q => ?_⟩
  · have q2 : ¬ v 0 = 1 := fun e => q (by rw [e]; rfl)
    rw [if_neg q2] at H
    refine h0 (b_a (fun a => ?_) (fun a => ?_))
    · rw [if_neg a] at H
      refine h1 (b_a (fun b => pi_ok ?_) (fun b => h0 (pi_ok ?_)))
      · rw [if_neg b] at H; exact H
      · rw [if_pos b] at H
        rw [if_neg a, if_pos rfl, hL.2 3 (by decide)]; exact H
    · rw [if_pos a] at H
      refine h1 (b_b (fun b => h1 (b_a (fun b2 => absurd b b2) (fun _ => h0 (pi_ok ?_)))) (fun b => pi_ok ?_))
      · rw [if_pos b] at H
        rw [if_pos a, if_neg (by decide)]; exact H
      · rw [if_neg b] at H
        rw [hL.2 2 (by decide)]; exact H
  · have q2 : v 0 = 1 := (nI_eq (a := v 0) (b := 1) (by omega) (by decide)).1 q
    rw [if_pos q2] at H
    have ho : v 1 = 1 := by
      have := hK.r
      omega
    refine sp_mopen hL (b_a (fun c => absurd ho c) (fun _ => h0 (pi_ok ?_)))
    rw [hL.2 4 (by decide), hL.2 7 (by decide)]
    by_cases a : s.testBit 0 = true
    · rw [if_pos a] at H
      rw [if_pos a, if_neg (by decide)]; exact H
    · rw [if_neg a] at H
      rw [if_neg a, if_pos rfl]; exact H
theorem sp_cpassing (hL : LC v τ) {s : Nat} (hs : s < 2 ^ v 0) (hsh : preach v s = ppart v s) (hN : ppop (ppart v s) ≤ 8) (hR : RestV v (ppart v s) τ) (H : ψ (pthr v (ppart v s) (ppop (ppart v s))) τ) : zCall G MX5_passingAtRest [.ref 10] τ (zpl ψ) := by
  have hK := hL.1
  obtain ⟨r1, r2, r3, r4⟩ := hR
  refine C_X5_passingAtRest τ ?_
  have loop : ∀ d i, i + d = ppop (ppart v s) → zRun G MX5_passingAtRest 4 [(0, .ref 10), (1, .long (pthr v (ppart v s) i)), (3, .int (nI i))] [] τ (zpl ψ) := by
    intro d
    induction d with
    | zero =>
      intro i e
      have e : i = ppop (ppart v s) := by omega
      refine V_X5_passingAtRest_4 _ _ τ ?_
      rw [r2, e]
      exact ⟨fun _ => pl_ok H, fun q => absurd (nI_le (Nat.le_refl _) (by omega)) q⟩
    | succ d ih =>
      intro i e
      have hi : i < ppop (ppart v s) := by omega
      have h := ih (i + 1) (by omega)
      have mi := memP_at hi
      refine V_X5_passingAtRest_4 _ _ τ ?_
      rw [r2, i1]
      refine ⟨fun q => absurd q (nI_ge (by omega) (by omega)), fun _ => ⟨i, rfl, by omega, i, rfl, by omega, ?_⟩⟩
      have e11 : τ.1.1 11 i = nI (memP (ppart v s) i) := (r3 i hi).1
      rw [e11, (r3 i hi).2.1, (pwt_w hK hs hsh hN hi).1]
      refine sp_cpas hL (part_lt mi.1) ?_
      have e2 : pthr v (ppart v s) (i + 1) = pthr v (ppart v s) i + lN (wN v (ppart v s) i) * (pps v (memP (ppart v s) i)).toInt64 := psumL_s _ _
      rw [e2] at h
      exact h
  exact loop (ppop (ppart v s)) 0 (by omega)
end RP
theorem t1L : (1 : Int64).toInt = 1 := by decide
theorem pair_rest {G : hz_G} {τ : hz_T} (hI : Inv τ) (x0 : Int32) (x1 : Int32) : PL G MX11_rest MX12_rest [.ref 0, .int x0, .int x1] [.ref 29, .int x0, .int x1] τ := by
  obtain ⟨v, hv⟩ := hI.to
  have hC := hv.1.c
  have hM := hv.1.m
  have hK := hM.1
  have hp := pw64 hK.n.2
  refine C_X11_rest x0 x1 τ (sp_cisState hC (b_a (fun h0 => pl_ok ?_) (fun h0 => sp_isFrac (b_b (fun h1 => ?_) (fun h1 => pl_ok ?_)))))
  · exact C_X12_rest _ _ τ (sp_misState hM (b_a (fun _ => pl_ok ⟨rfl, hI⟩) (fun h => absurd h h0)))
  · obtain ⟨s, hs, rfl⟩ := st_of h0
    have mod : ∀ (A : Int64) (τ1 : hz_T), InvV v τ1 → (∀ (ζ : Int32 → hz_T → Prop), zCall G MX12_layRest [.ref 29, .int (nI s)] τ1 (zpi (fun x105 τ106 => ((0 ≤ x105 → zRun G MX12_rest 41 [(0, .ref 29), (1, .int (nI s)), (2, .int x1), (4, .long (0 : Int64)), (6, .int (0 : Int32))] [] τ106 (zpl (fun b τ2 => A = b ∧ Inv τ2))) ∧ (¬ 0 ≤ x105 → zpl (fun b τ2 => A = b ∧ Inv τ2) (some (.long x105.toInt64)) τ106)))) ) → zCall G MX12_rest [.ref 29, .int (nI s), .int x1] τ1 (zpl (fun b τ2 => A = b ∧ Inv τ2)) := by
      intro A τ1 hv1 K
      refine C_X12_rest _ _ τ1 (sp_misState hv1.1.m (b_a (fun h => absurd h0 h) (fun _ => sp_in (b_b (fun _ => K (fun _ _ => True)) (fun h => ?_)))))
      rw [t0, t1L, i64] at h
      exact absurd h1 h
    refine sp_cweigh hv hs (fun c τ1 hv1 => ⟨fun q => absurd q (by decide), fun _ => pl_ok (mod _ τ1 hv1 (fun _ => sp_layRest hv1 hs (fun _ τ2 hv2 => ⟨fun q => absurd q (by decide), fun _ => pl_ok ⟨rfl, hv2.of⟩⟩) (fun c2 => absurd c2 c) (fun c2 => absurd c2 c)))⟩) (fun c n τ1 hv1 => ⟨fun q => absurd q (by decide), fun _ => pl_ok (mod _ τ1 hv1 (fun _ => sp_layRest hv1 hs (fun c2 => absurd c c2) (fun _ _ τ2 hv2 => ⟨fun q => absurd q (by decide), fun _ => pl_ok ⟨rfl, hv2.of⟩⟩) (fun _ n2 => absurd n2 n)))⟩) (fun c n τ1 hv1 hR => ⟨fun _ => ?_, fun q => absurd rfl q⟩)
    obtain ⟨m1, m2⟩ := mem_pop (P := ppart v s) (b := s) (by omega) (ppart_self hs)
    have hw := pwt_w hK hs c n m1
    have ht := tot_ok hK hs c n
    refine sp_cweightOf hK hs hR (C_X5_total τ1 (pl_ok ?_))
    rw [hR.2.2.2, tot_c hK hs c n, hw.1, ← iL_N]
    refine sp_clow (absI_c (by omega) (by omega)) (by omega) ht.1 ht.2 (pl_ok (mod _ τ1 hv1 (fun _ => sp_layRest hv1 hs (fun c2 => absurd c c2) (fun _ n2 => absurd n n2) (fun _ _ τ2 hv2 hMR => ⟨fun _ => ?_, fun q => absurd (by decide) q⟩))))
    have loop : ∀ d i (o : Int64), i + d = ppop (ppart v s) → (ppopI (ppart v s) s < i → o = lN (wN v (ppart v s) (ppopI (ppart v s) s))) → zRun G MX12_rest 41 [(0, .ref 29), (1, .int (nI s)), (2, .int x1), (4, .long o), (6, .int (nI i))] [] τ2 (zpl (fun b τ2 => plow (iL ↑(wN v (ppart v s) (ppopI (ppart v s) s))) (Int.natAbs ↑(wN v (ppart v s) (ppopI (ppart v s) s))) (psum (ppop (ppart v s)) (wN v (ppart v s))) x1 = b ∧ Inv τ2)) := by
      intro d
      induction d with
      | zero =>
        intro i o e ho
        have e : i = ppop (ppart v s) := by omega
        refine V_X12_rest_41 _ _ _ _ τ2 ?_
        rw [hMR.1, e]
        refine ⟨fun _ => sp_weightAll hMR ?_, fun q => absurd (nI_le (Nat.le_refl _) (by omega)) q⟩
        rw [ho (by omega), ← iL_N]
        exact sp_mlow (absI_m (by omega) (by omega)) (by omega) ht.1 (by omega) (pl_ok ⟨rfl, hv2.of⟩)
      | succ d ih =>
        intro i o e ho
        have hi : i < ppop (ppart v s) := by omega
        have mi := memP_at hi
        refine V_X12_rest_41 _ _ _ _ τ2 ?_
        rw [hMR.1, i1]
        refine ⟨fun q => absurd q (nI_ge (by omega) (by omega)), fun _ => ⟨i, rfl, by omega, ?_⟩⟩
        rw [hMR.2.1 i hi, nI_eq (by omega) (by omega)]
        refine ⟨fun q => ih (i + 1) o (by omega) (fun h => ho ?_), fun q => ⟨i, rfl, by omega, ih (i + 1) _ (by omega) (fun _ => ?_)⟩⟩
        · rcases Nat.lt_or_ge (ppopI (ppart v s) s) i with z | z
          · exact z
          · have : i = ppopI (ppart v s) s := by omega
            rw [this, m2] at q
            exact absurd rfl q
        · have := mi.2.1
          rw [q] at this
          rw [hMR.2.2 i hi, this]
    exact loop (ppop (ppart v s)) 0 0 (by omega) (fun h => absurd h (by omega))
  · refine C_X12_rest _ _ τ (sp_misState hM (b_a (fun h => absurd h0 h) (fun _ => sp_in (b_b (fun h => ?_) (fun _ => pl_ok ⟨rfl, hI⟩)))))
    rw [t0, t1L, i64] at h
    exact absurd h h1

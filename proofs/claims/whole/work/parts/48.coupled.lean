/-! two of them by the same draws -/
def pfr (n s t : Nat) (sd : Int32) : Nat → Int32
  | 0 => if s = t then 0 else -4
  | i + 1 => if (prun n s sd (i + 1)).1 = (prun n t sd (i + 1)).1 then (if pfr n s t sd i = -4 then nI (i + 1) else pfr n s t sd i) else -4
def pmx (n s t : Nat) (sd : Int32) : Nat → Nat
  | 0 => ppop (s ^^^ t)
  | i + 1 => max (pmx n s t sd i) (ppop ((prun n s sd (i + 1)).1 ^^^ (prun n t sd (i + 1)).1))
theorem pfr_s (n s t : Nat) (sd : Int32) (i : Nat) : pfr n s t sd (i + 1) = if (prun n s sd (i + 1)).1 = (prun n t sd (i + 1)).1 then (if pfr n s t sd i = -4 then nI (i + 1) else pfr n s t sd i) else -4 := rfl
theorem pfr_0 (n s t : Nat) (sd : Int32) : pfr n s t sd 0 = if s = t then 0 else -4 := rfl
theorem sp_leadOn {G : hz_G} {τ : hz_T} {φ : Int32 → hz_T → Prop} {x : Int32} (H : φ (pnext x) τ) : zCall G MX6_leadOn [.int x] τ (zpi φ) := C_X6_leadOn x τ (pi_ok H)
theorem pmx_le (n s t : Nat) (sd : Int32) : ∀ i, pmx n s t sd i ≤ 64 := by
  intro i
  induction i with
  | zero => exact ppop_le _
  | succ i ih => exact Nat.max_le.mpr ⟨ih, ppop_le _⟩
theorem pal_step {n s t : Nat} {sd : Int32} {i : Nat} (h : (prun n s sd i).1 = (prun n t sd i).1) : (prun n s sd (i + 1)).1 = (prun n t sd (i + 1)).1 := by
  show ptick n _ _ = ptick n _ _
  rw [h, prun_sd n s t sd i]
theorem pfr_ne {n s t : Nat} {sd : Int32} {i : Nat} (h : ¬ (prun n s sd i).1 = (prun n t sd i).1) : pfr n s t sd i = -4 := by
  cases i with
  | zero =>
    have h' : ¬ s = t := h
    rw [pfr_0, if_neg h']
  | succ i => rw [pfr_s, if_neg h]
theorem pfr_first {n s t : Nat} {sd : Int32} {i : Nat} (hi : i < 2 ^ 31) (hb : ∀ j, j < i → ¬ (prun n s sd j).1 = (prun n t sd j).1) (h : (prun n s sd i).1 = (prun n t sd i).1) : ∀ k, (prun n s sd (i + k)).1 = (prun n t sd (i + k)).1 ∧ pfr n s t sd (i + k) = nI i := by
  intro k
  induction k with
  | zero =>
    refine ⟨h, ?_⟩
    cases i with
    | zero =>
      have h' : s = t := h
      show pfr n s t sd 0 = _
      rw [pfr_0, if_pos h', nI_0]
    | succ i =>
      show pfr n s t sd (i + 1) = _
      rw [pfr_s, if_pos h, pfr_ne (hb i (by omega)), if_pos rfl]
  | succ k ih =>
    have h2 := pal_step ih.1
    refine ⟨h2, ?_⟩
    show pfr n s t sd (i + k + 1) = _
    rw [pfr_s, if_pos h2, ih.2, if_neg (nI_m4 hi)]
theorem nmax_a {a b : Nat} (ha : a ≤ 64) (hb : b ≤ 64) : (if nI a < nI b then nI b else nI a) = nI (max a b) := by
  have e : nI a < nI b ↔ a < b := nI_ltI (by omega) (by omega)
  by_cases h : a < b
  · rw [if_pos (e.mpr h), Nat.max_eq_right (by omega)]
  · rw [if_neg (fun q => h (e.mp q)), Nat.max_eq_left (by omega)]
theorem nmax_b {a b : Nat} (ha : a ≤ 64) (hb : b ≤ 64) : (if nI b ≤ nI a then nI a else nI b) = nI (max a b) := by
  have e : nI b ≤ nI a ↔ b ≤ a := nI_leI (by omega) (by omega)
  by_cases h : b ≤ a
  · rw [if_pos (e.mpr h), Nat.max_eq_left h]
  · rw [if_neg (fun q => h (e.mp q)), Nat.max_eq_right (by omega)]
section CO
variable {G : hz_G} {τ : hz_T} {φ : Int32 → hz_T → Prop}
theorem sp_alikeFrom {n s t m : Nat} (h1 : 1 ≤ n) (hn : n ≤ 6) (hs : s < 2 ^ n) (ht : t < 2 ^ n) (hm : m ≤ 200) {sd : Int32} (H : φ (pfr n s t sd m) τ) : zCall G MX6_alikeFrom [.int (nI s), .int (nI t), .int sd, .int (nI m), .int (nI n)] τ (zpi φ) := by
  have hp := pw64 hn
  refine C_X6_alikeFrom _ _ _ _ _ τ ?_
  refine lp (α := Unit) (fun i _ τ' => zRun G MX6_alikeFrom 12 [(3, .int (nI m)), (4, .int (nI n)), (5, .int (nI (prun n s sd i).1)), (6, .int (nI (prun n t sd i).1)), (7, .int (prun n s sd i).2), (8, .int (nI i))] [] τ' (zpi φ)) (fun i _ τ' => τ' = τ ∧ ∀ j, j < i → ¬ (prun n s sd j).1 = (prun n t sd j).1) m ?_ ?_ 0 () _ (Nat.zero_le _) ⟨rfl, fun j hj => by omega⟩
  · intro _ τ' h
    have l1 := prun_lt h1 hn hs sd m
    have l2 := prun_lt h1 hn ht sd m
    have e : nI (prun n s sd m).1 = nI (prun n t sd m).1 ↔ (prun n s sd m).1 = (prun n t sd m).1 := nI_eq (by omega) (by omega)
    refine V_X6_alikeFrom_12 _ _ _ _ _ _ _ ⟨fun _ => pi_ok ?_, fun q => absurd (nI_le (Nat.le_refl _) (by omega)) q⟩
    rw [h.1]
    by_cases q : (prun n s sd m).1 = (prun n t sd m).1
    · rw [if_pos (e.mpr q), ← (pfr_first (by omega) h.2 q 0).2]
      exact H
    · rw [if_neg (fun z => q (e.mp z)), ← pfr_ne q]
      exact H
  · intro i _ τ' hi h ih
    have l1 := prun_lt h1 hn hs sd i
    have l2 := prun_lt h1 hn ht sd i
    have e : nI (prun n s sd i).1 = nI (prun n t sd i).1 ↔ (prun n s sd i).1 = (prun n t sd i).1 := nI_eq (by omega) (by omega)
    refine V_X6_alikeFrom_12 _ _ _ _ _ _ _ ⟨fun q => absurd q (nI_ge hi (by omega)), fun _ => ⟨fun q => sp_leadOn (sp_tick h1 hn l1 (sp_tick h1 hn l2 ?_)), fun q => pi_ok ?_⟩⟩
    · rw [i1]
      have l3 := ih () τ' ⟨h.1, fun j hj => by
        by_cases hj2 : j < i
        · exact h.2 j hj2
        · have : j = i := by omega
          rw [this]
          exact fun z => q (e.mpr z)⟩
      have es : (prun n t sd (i + 1)).1 = ptick n (prun n t sd i).1 (pdraw (pnext (prun n s sd i).2) % n) := by
        show ptick n _ _ = _
        rw [prun_sd n t s sd i]
      rw [es] at l3
      exact l3
    · have hh := (pfr_first (by omega) h.2 (e.mp q) (m - i)).2
      rw [show i + (m - i) = m by omega] at hh
      rw [← hh, h.1]
      exact H
theorem sp_mostUnlike {n s t m : Nat} (h1 : 1 ≤ n) (hn : n ≤ 6) (hs : s < 2 ^ n) (ht : t < 2 ^ n) (hm : m ≤ 200) {sd : Int32} (H : φ (nI (pmx n s t sd m)) τ) : zCall G MX6_mostUnlike [.int (nI s), .int (nI t), .int sd, .int (nI m), .int (nI n)] τ (zpi φ) := by
  have hp := pw64 hn
  have hx : s ^^^ t < 2 ^ n := xor_lt hs ht
  refine C_X6_mostUnlike _ _ _ _ _ τ (sp_bc ?_)
  rw [nx_xor, bcf_eq (by omega)]
  refine lp (α := Unit) (fun i _ τ' => zRun G MX6_mostUnlike 22 [(3, .int (nI m)), (4, .int (nI n)), (5, .int (nI (prun n s sd i).1)), (6, .int (nI (prun n t sd i).1)), (7, .int (prun n s sd i).2), (8, .int (nI (pmx n s t sd i))), (9, .int (nI i))] [] τ' (zpi φ)) (fun i _ τ' => τ' = τ) m ?_ ?_ 0 () _ (Nat.zero_le _) rfl
  · intro _ τ' e
    rw [← e] at H
    exact V_X6_mostUnlike_22 _ _ _ _ _ _ _ _ ⟨fun _ => pi_ok H, fun q => absurd (nI_le (Nat.le_refl _) (by omega)) q⟩
  · intro i _ τ' hi e ih
    have l1 := prun_lt h1 hn hs sd i
    have l2 := prun_lt h1 hn ht sd i
    have l3 := prun_lt h1 hn hs sd (i + 1)
    have l4 := prun_lt h1 hn ht sd (i + 1)
    have l5 := xor_lt l3 l4
    have es : (prun n t sd (i + 1)).1 = ptick n (prun n t sd i).1 (pdraw (pnext (prun n s sd i).2) % n) := by
      show ptick n _ _ = _
      rw [prun_sd n t s sd i]
    refine V_X6_mostUnlike_22 _ _ _ _ _ _ _ _ ⟨fun q => absurd q (nI_ge hi (by omega)), fun _ => sp_leadOn (sp_tick h1 hn l1 (sp_tick h1 hn l2 ?_))⟩
    rw [← es]
    show zCall G MJ6_bitCount_0f7a4 [.int (nI (prun n s sd (i + 1)).1 ^^^ nI (prun n t sd (i + 1)).1)] τ' _
    refine sp_bc ?_
    rw [nx_xor, bcf_eq (by omega), nmax_a (pmx_le n s t sd i) (ppop_le _), i1]
    exact ih () _ e
theorem sp_mcoupled {v : Nat → Nat} (hL : LM v τ) {s t m : Nat} (hs : s < 2 ^ v 0) (ht : t < 2 ^ v 0) (hm : m ≤ 200) {sd x5 : Int32} (h22 : τ.1.1 29 22 = sd) (H : ∀ τ', Sk [29] τ τ' → (x5 = 0 → φ (nI (ppop ((prun (v 0) s sd m).1 ^^^ (prun (v 0) t sd m).1))) τ') ∧ (x5 = 1 → φ (pfr (v 0) s t sd m) τ') ∧ (¬ x5 = 0 → ¬ x5 = 1 → φ (nI (pmx (v 0) s t sd m)) τ')) :
    zRun G MX12_coupled 94 [(0, .ref 29), (4, .int (nI m)), (5, .int x5), (6, .int (nI s)), (7, .int (nI t)), (8, .int (nI (pmx (v 0) s t sd 0))), (9, .int (pfr (v 0) s t sd 0)), (10, .int (1 : Int32))] [] τ (zpi φ) := by
  have hn := hL.1.n
  have hp := pw64 hn.2
  refine lp (α := Unit) (fun i _ τ' => zRun G MX12_coupled 94 [(0, .ref 29), (4, .int (nI m)), (5, .int x5), (6, .int (nI (prun (v 0) s sd i).1)), (7, .int (nI (prun (v 0) t sd i).1)), (8, .int (nI (pmx (v 0) s t sd i))), (9, .int (pfr (v 0) s t sd i)), (10, .int (nI (i + 1)))] [] τ' (zpi φ)) (fun i _ τ' => Sk [29] τ τ' ∧ τ'.1.1 29 22 = (prun (v 0) s sd i).2) m ?_ ?_ 0 () _ (Nat.zero_le _) ⟨Sk.rf, h22⟩
  · intro _ τ' h
    have l1 := prun_lt hn.1 hn.2 hs sd m
    have l2 := prun_lt hn.1 hn.2 ht sd m
    have l5 := xor_lt l1 l2
    have hh := H τ' h.1
    refine V_X12_coupled_94 _ _ _ _ _ _ _ τ' ⟨fun _ => ⟨fun q => pi_ok ?_, fun q => ?_⟩, fun q => absurd (nI_lt (by omega) (by omega)) q⟩
    · by_cases q1 : x5 = 1
      · rw [if_pos q1]; exact hh.2.1 q1
      · rw [if_neg q1]; exact hh.2.2 q q1
    · rw [nx_xor, toI64 (by omega)]
      exact sp_sizeOf (by omega) (pi_ok (hh.1 q))
  · intro i _ τ' hi h ih
    have l1 := prun_lt hn.1 hn.2 hs sd i
    have l2 := prun_lt hn.1 hn.2 ht sd i
    have l3 := prun_lt hn.1 hn.2 hs sd (i + 1)
    have l4 := prun_lt hn.1 hn.2 ht sd (i + 1)
    have l5 := xor_lt l3 l4
    have es : (prun (v 0) t sd (i + 1)).1 = ptick (v 0) (prun (v 0) t sd i).1 (pdraw (pnext (prun (v 0) s sd i).2) % v 0) := by
      show ptick (v 0) _ _ = _
      rw [prun_sd (v 0) t s sd i]
    refine V_X12_coupled_94 _ _ _ _ _ _ _ τ' ⟨fun q => absurd q (nI_nlt (by omega) (by omega)), fun _ => sp_mdraw (hL.sk h.1 (by decide)) (fun τ2 g1 g2 => ?_)⟩
    rw [h.2] at g2 ⊢
    have hL2 := (hL.sk h.1 (by decide)).sk g1 (by decide)
    refine sp_hopAt hL2 l1 (Nat.mod_lt _ (by omega)) (sp_hopAt hL2 l2 (Nat.mod_lt _ (by omega)) ?_)
    rw [← es]
    show zCall G MX12_sizeOf [.long (nI (prun (v 0) s sd (i + 1)).1 ^^^ nI (prun (v 0) t sd (i + 1)).1).toInt64] τ2 _
    rw [nx_xor, toI64 (by omega)]
    refine sp_sizeOf (by omega) (fun v1 e1 => ?_)
    have e : nI (prun (v 0) s sd (i + 1)).1 = nI (prun (v 0) t sd (i + 1)).1 ↔ (prun (v 0) s sd (i + 1)).1 = (prun (v 0) t sd (i + 1)).1 := nI_eq (by omega) (by omega)
    have e2 : v1 = pfr (v 0) s t sd (i + 1) := by
      rw [e1]
      show (if nI (prun (v 0) s sd (i + 1)).1 = nI (prun (v 0) t sd (i + 1)).1 then _ else _) = _
      rw [pfr_s]
      by_cases q : (prun (v 0) s sd (i + 1)).1 = (prun (v 0) t sd (i + 1)).1
      · rw [if_pos (e.mpr q), if_pos q]
      · rw [if_neg (fun z => q (e.mp z)), if_neg q]
    rw [e2, nmax_b (pmx_le (v 0) s t sd i) (ppop_le _), i1]
    exact ih () _ ⟨h.1.tr g1, g2⟩
end CO
theorem pair_coupled {G : hz_G} {τ : hz_T} (hI : Inv τ) (x0 : Int32) (x1 : Int32) (x2 : Int32) (x3 : Int32) (x4 : Int32) : PI G MX11_coupled MX12_coupled [.ref 0, .int x0, .int x1, .int x2, .int x3, .int x4] [.ref 29, .int x0, .int x1, .int x2, .int x3, .int x4] τ := by
  obtain ⟨v, hl, -⟩ := id hI
  have hn := hl.1.n
  have hp := pw64 hn.2
  have e1 : (2 : Int32).toInt = 2 := by decide
  have e2 : (2 : Int64).toInt = 2 := by decide
  have e3 : (200 : Int32).toInt = 200 := by decide
  have e4 : (200 : Int64).toInt = 200 := by decide
  refine C_X11_coupled x0 x1 x2 x3 x4 τ (sp_cisState hl.c (b_a (fun hs => pi_ok ?_) (fun hs => sp_cisState hl.c (b_a (fun ht => pi_ok ?_) (fun ht => sp_within ?_)))))
  · exact C_X12_coupled x0 x1 x2 x3 x4 τ (sp_misState hl.m (b_a (fun _ => pi_ok ⟨rfl, hI⟩) (fun h => absurd h hs)))
  · exact C_X12_coupled x0 x1 x2 x3 x4 τ (sp_misState hl.m (b_a (fun h => absurd hs h) (fun _ => sp_misState hl.m (b_a (fun _ => pi_ok ⟨rfl, hI⟩) (fun h => absurd h ht)))))
  rw [t0', e3]
  refine b_a (fun hm => pi_ok ?_) (fun hm => sp_within ?_)
  · refine C_X12_coupled _ _ _ _ _ τ (sp_misState hl.m (b_a (fun h => absurd hs h) (fun _ => sp_misState hl.m (b_a (fun h => absurd ht h) (fun _ => sp_in ?_)))))
    rw [t0, e4, i64]
    exact b_a (fun _ => pi_ok ⟨rfl, hI⟩) (fun h => absurd h hm)
  rw [t0', e1]
  refine b_b (fun hw => sp_copen hl.c (b_a (fun ho => ?_) (fun ho => pi_ok ?_))) (fun hw => pi_ok ?_)
  · obtain ⟨s, hs', rfl⟩ := st_of hs
    obtain ⟨t, ht', rfl⟩ := st_of ht
    obtain ⟨m, hm', rfl⟩ := of_range (n := 201) hm.1 (by omega)
    have hx := xor_lt hs' ht'
    have model : ∀ z : Int32, (x4 = 0 → z = nI (ppop ((prun (v 0) s x2 m).1 ^^^ (prun (v 0) t x2 m).1))) → (x4 = 1 → z = pfr (v 0) s t x2 m) → (¬ x4 = 0 → ¬ x4 = 1 → z = nI (pmx (v 0) s t x2 m)) → zCall G MX12_coupled [.ref 29, .int (nI s), .int (nI t), .int x2, .int (nI m), .int x4] τ (zpi (fun b τ2 => z = b ∧ Inv τ2)) := by
      intro z z0 z1 z2
      refine C_X12_coupled _ _ _ _ _ τ (sp_misState hl.m (b_a (fun h => absurd hs h) (fun _ => sp_misState hl.m (b_a (fun h => absurd ht h) (fun _ => sp_in ?_)))))
      rw [t0, e4, i64]
      refine b_a (fun h => absurd hm h) (fun _ => sp_in ?_)
      rw [t0, e2, i64]
      have hk : Sk [29] τ (zI τ 29 22 x2) := Sk.rf.I (by decide) (by decide)
      refine b_b (fun _ => sp_mopen hl.m (b_a (fun _ => ?_) (fun h => absurd h ho))) (fun h => absurd hw h)
      rw [nx_xor, toI64 (by omega)]
      refine sp_sizeOf (by omega) (fun v1 ev1 => ?_)
      have ev2 : v1 = pfr (v 0) s t x2 0 := by
        rw [ev1]
        have e : nI s = nI t ↔ s = t := nI_eq (by omega) (by omega)
        rw [pfr_0]
        by_cases q : s = t
        · rw [if_pos (e.mpr q), if_pos q]
        · rw [if_neg (fun z => q (e.mp z)), if_neg q]
      rw [ev2]
      exact sp_mcoupled (hl.m.sk hk (by decide)) hs' ht' (by omega) rfl (fun τ' h' => ⟨fun q => ⟨z0 q, inv_sk hI (hk.tr h') (by decide)⟩, fun q => ⟨z1 q, inv_sk hI (hk.tr h') (by decide)⟩, fun q q' => ⟨z2 q q', inv_sk hI (hk.tr h') (by decide)⟩⟩)
    refine sp_cplaces hl.c ⟨fun q => ?_, fun q => ?_, fun q q' => ?_⟩
    · refine sp_drawn hn.1 hn.2 hs' (by omega) (sp_drawn hn.1 hn.2 ht' (by omega) (sp_bc (pi_ok ?_)))
      have l1 := prun_lt hn.1 hn.2 hs' x2 m
      have l2 := prun_lt hn.1 hn.2 ht' x2 m
      have l3 := xor_lt l1 l2
      rw [nx_xor, bcf_eq (by omega)]
      exact model _ (fun _ => rfl) (fun e => absurd (q ▸ e) (by decide)) (fun e => absurd q e)
    · exact sp_alikeFrom hn.1 hn.2 hs' ht' (by omega) (pi_ok (model _ (fun e => absurd (q ▸ e) (by decide)) (fun _ => rfl) (fun _ e => absurd q e)))
    · exact sp_mostUnlike hn.1 hn.2 hs' ht' (by omega) (pi_ok (model _ (fun e => absurd e q) (fun e => absurd e q') (fun _ _ => rfl)))
  · refine C_X12_coupled _ _ _ _ _ τ (sp_misState hl.m (b_a (fun h => absurd hs h) (fun _ => sp_misState hl.m (b_a (fun h => absurd ht h) (fun _ => sp_in ?_)))))
    rw [t0, e4, i64]
    refine b_a (fun h => absurd hm h) (fun _ => sp_in ?_)
    rw [t0, e2, i64]
    exact b_b (fun _ => sp_mopen hl.m (b_a (fun h => absurd ho h) (fun _ => pi_ok ⟨rfl, hI⟩))) (fun h => absurd hw h)
  · refine C_X12_coupled _ _ _ _ _ τ (sp_misState hl.m (b_a (fun h => absurd hs h) (fun _ => sp_misState hl.m (b_a (fun h => absurd ht h) (fun _ => sp_in ?_)))))
    rw [t0, e4, i64]
    refine b_a (fun h => absurd hm h) (fun _ => sp_in ?_)
    rw [t0, e2, i64]
    exact b_b (fun h => absurd h hw) (fun _ => pi_ok ⟨rfl, hI⟩)

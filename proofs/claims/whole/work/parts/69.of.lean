/-! of and parts -/
theorem psum_add {f g : Nat → Nat} : ∀ m, psum m (fun i => f i + g i) = psum m f + psum m g := by
  intro m
  induction m with
  | zero => rfl
  | succ m ih => rw [psum_s, psum_s, psum_s, ih]; omega
theorem psum_cg {f g : Nat → Nat} : ∀ m, (∀ i, i < m → f i = g i) → psum m f = psum m g := by
  intro m
  induction m with
  | zero => intro _; rfl
  | succ m ih => intro h; rw [psum_s, psum_s, ih (fun i hi => h i (by omega)), h m (by omega)]
theorem psum_ind (x c : Nat) : ∀ m, psum m (fun t => if x = t then c else 0) = if x < m then c else 0 := by
  intro m
  induction m with
  | zero => rw [if_neg (by omega)]; rfl
  | succ m ih =>
    rw [psum_s, ih]
    by_cases q : x = m
    · rw [if_neg (by omega), if_pos q, if_pos (by omega), Nat.zero_add]
    · rw [if_neg q, Nat.add_zero]
      by_cases w : x < m
      · rw [if_pos w, if_pos (by omega)]
      · rw [if_neg w, if_neg (by omega)]
theorem out_sum {v : Nat → Nat} (h : LaneOK v) {s : Nat} (hs : s < 2 ^ v 0) : psum (2 ^ v 0) (prate v s) = pout v s := by
  have key : ∀ k, k ≤ pgates (v 0) (v 1) → psum (2 ^ v 0) (fun t => psum k (rF v s t)) = psum k (oF v s) := by
    intro k
    induction k with
    | zero => intro _; exact psum_z _ (fun i _ => rfl)
    | succ k ih =>
      intro hk
      have hx := Nat.xor_lt_two_pow hs (pbg_ok h (show k < pgates (v 0) (v 1) by omega)).1
      have e1 : psum (2 ^ v 0) (fun t => psum (k + 1) (rF v s t)) = psum (2 ^ v 0) (fun t => psum k (rF v s t) + rF v s t k) := psum_cg _ (fun t _ => psum_s _ _)
      have e2 : psum (2 ^ v 0) (fun t => rF v s t k) = oF v s k := by
        have := psum_ind (s ^^^ pbg (v 0) (v 1) k) (oF v s k) (2 ^ v 0)
        rw [if_pos hx] at this
        exact this
      rw [e1, psum_add, ih (by omega), e2, psum_s]
  exact key _ (Nat.le_refl _)
def ofA (v : Nat → Nat) (s : Nat) (w : Int32) : Int32 := if w = 0 then nI (pout v s) else if w = 1 then nI (ppop (ptgt v s)) else if w = 2 then nI (ppop (preach v s)) else if w = 3 then nI (ppop (ppart v s)) else if w = 4 then (if preach v s = ppart v s then 1 else 0) else if w = 5 then nI (lz64 (ppart v s)) else nI (ppop s)
theorem ofA_0 (v : Nat → Nat) (s : Nat) : ofA v s 0 = nI (pout v s) := by unfold ofA; rw [if_pos rfl]
theorem ofA_1 (v : Nat → Nat) (s : Nat) : ofA v s 1 = nI (ppop (ptgt v s)) := by unfold ofA; rw [if_neg (by decide), if_pos rfl]
theorem ofA_2 (v : Nat → Nat) (s : Nat) : ofA v s 2 = nI (ppop (preach v s)) := by unfold ofA; rw [if_neg (by decide), if_neg (by decide), if_pos rfl]
theorem ofA_3 (v : Nat → Nat) (s : Nat) : ofA v s 3 = nI (ppop (ppart v s)) := by unfold ofA; rw [if_neg (by decide), if_neg (by decide), if_neg (by decide), if_pos rfl]
theorem ofA_4 (v : Nat → Nat) (s : Nat) : ofA v s 4 = (if preach v s = ppart v s then 1 else 0) := by unfold ofA; rw [if_neg (by decide), if_neg (by decide), if_neg (by decide), if_neg (by decide), if_pos rfl]
theorem ofA_5 (v : Nat → Nat) (s : Nat) : ofA v s 5 = nI (lz64 (ppart v s)) := by unfold ofA; rw [if_neg (by decide), if_neg (by decide), if_neg (by decide), if_neg (by decide), if_neg (by decide), if_pos rfl]
theorem ofA_6 (v : Nat → Nat) (s : Nat) {w : Int32} (h0 : ¬ w = 0) (h1 : ¬ w = 1) (h2 : ¬ w = 2) (h3 : ¬ w = 3) (h4 : ¬ w = 4) (h5 : ¬ w = 5) : ofA v s w = nI (ppop s) := by unfold ofA; rw [if_neg h0, if_neg h1, if_neg h2, if_neg h3, if_neg h4, if_neg h5]
theorem bb01 {P : Prop} [Decidable P] : (if (if P then (1 : Int32) else 0) = 0 then (0 : Int32) else 1) = if P then 1 else 0 := by
  by_cases h : P
  · rw [if_pos h, if_neg (by decide)]
  · rw [if_neg h, if_pos rfl]
theorem t6L : (6 : Int64).toInt = 6 := by decide
theorem t2L : (2 : Int64).toInt = 2 := by decide
theorem ppop_up {P m : Nat} (h : P < 2 ^ m) (hm : m ≤ 64) : ppopI P m = ppop P := by rw [← ppopI_64, ppopI_up h hm]
theorem ptgt_lt {v : Nat → Nat} (h : LaneOK v) {s : Nat} (hs : s < 2 ^ v 0) : ptgt v s < 2 ^ (2 ^ v 0) := tgI_lt h hs _ (Nat.le_refl _)
theorem low_part {v : Nat → Nat} (h : LaneOK v) {s : Nat} (hs : s < 2 ^ v 0) : LowB (ppart v s) (lz64 (ppart v s)) ∧ lz64 (ppart v s) ≤ s := by
  have hp := pw64 h.n.2
  exact lz64_ok (by omega) (ppart_self hs)
section OF
variable {G : hz_G} {τ : hz_T} {v : Nat → Nat} {χ : hz_T → Prop} {φ : Int32 → hz_T → Prop} {ψ : Int64 → hz_T → Prop}
theorem sp_mof (hv : InvV v τ) {s : Nat} (hs : s < 2 ^ v 0) {w : Int32} (hw : 0 ≤ w.toInt ∧ w.toInt ≤ 6) (H : ∀ τ', InvV v τ' → φ (ofA v s w) τ') : zCall G MX12_of [.ref 29, .int (nI s), .int w] τ (zpi φ) := by
  have hM := hv.1.m
  have hK := hM.1
  have hp := pw64 hK.n.2
  have h64 := pp64 hK.n.2
  have rs : 0 ≤ (nI s).toInt ∧ (nI s).toInt < 2 ^ v 0 := by
    have e2 : ((2 ^ v 0 : Nat) : Int) = 2 ^ v 0 := by simp
    rw [nI_toInt (by omega)]; omega
  refine C_X12_of _ _ τ (sp_misState hM (b_a (fun q => absurd rs q) (fun _ => sp_in (b_b (fun _ => ?_) (fun q => ?_)))))
  · refine sp_layReaches hM (fun τ2 g1 g2 => ?_)
    have hv2 := hv.sk g1 (by decide)
    have hM2 := hv2.1.m
    have hR2 : RMod v τ2 := g2
    have H2 := H τ2 hv2
    have lp := low_part hK hs
    have loop : ∀ m t, t + m = 2 ^ v 0 → zRun G MX12_of 34 [(0, .ref 29), (1, .int (nI s)), (2, .int w), (3, .int (nI (psum t (prate v s)))), (4, .int (nI (ppopI (ptgt v s) t))), (5, .int (nI t))] [] τ2 (zpi φ) := by
      intro m
      induction m with
      | zero =>
        intro t e
        have e : t = 2 ^ v 0 := by omega
        subst e
        refine V_X12_of_34 _ _ _ _ _ τ2 (sp_mstates hM2 ⟨fun _ => ⟨fun e => pi_ok ?_, fun e => pi_ok ?_, fun e => ⟨s, rfl, by omega, ?_⟩, fun e => sp_mpartOf hM2 hR2 hs (sp_sizeOf (ppart_64 hK s) (pi_ok ?_)), fun e => sp_misShut hM2 hR2 hs (pi_ok ?_), fun e => sp_mpartOf hM2 hR2 hs (sp_leastOf (ppart_64 hK s) (by omega) lp.1 (pi_ok ?_)), fun e0 e1 e2 e3 e4 e5 => ?_⟩, fun q => absurd (nI_le (Nat.le_refl _) (by omega)) q⟩)
        · rw [e, ofA_0] at H2
          rw [out_sum hK hs]; exact H2
        · have e : w = 1 := e
          rw [e, ofA_1] at H2
          rw [ppop_up (ptgt_lt hK hs) hp.2]; exact H2
        · have e : w = 2 := e
          rw [e, ofA_2] at H2
          rw [hR2 s hs]
          exact sp_sizeOf (preach_64 hK hs) (pi_ok H2)
        · have e : w = 3 := e
          rw [e, ofA_3] at H2
          exact H2
        · have e : w = 4 := e
          rw [e, ofA_4] at H2
          rw [bb01]; exact H2
        · have e : w = 5 := e
          rw [e, ofA_5] at H2
          exact H2
        · rw [ofA_6 v s e0 e1 e2 e3 e4 e5] at H2
          rw [toI64 (by omega)]
          exact sp_sizeOf (by omega) (pi_ok H2)
      | succ m ih =>
        intro t e
        have ht : t < 2 ^ v 0 := by omega
        have h := ih (t + 1) (by omega)
        have hr := prate_le hK s t
        rw [psum_s, ppopI_s, ptgt_bit, ← nI_add, ← nI_add] at h
        refine V_X12_of_34 _ _ _ _ _ τ2 (sp_mstates hM2 ⟨fun q => absurd q (nI_ge (by omega) (by omega)), fun _ => sp_rateOf hM2 hs ht (fun x hx => ?_)⟩)
        rw [i1, hx]
        by_cases w : 0 < prate v s t
        · rw [decide_eq_true w, if_pos rfl] at h
          rw [if_neg (fun z => absurd ((nI_le0 (by omega)).1 z) (by omega))]
          exact h
        · rw [decide_eq_false w, if_neg (by decide)] at h
          rw [if_pos ((nI_le0 (by omega)).2 (by omega))]
          exact h
    exact loop (2 ^ v 0) 0 (by omega)
  · exfalso
    rw [t0, t6L, i64] at q
    exact q hw
end OF
theorem pair_of {G : hz_G} {τ : hz_T} (hI : Inv τ) (x0 : Int32) (x1 : Int32) : PI G MX11_of MX12_of [.ref 0, .int x0, .int x1] [.ref 29, .int x0, .int x1] τ := by
  obtain ⟨v, hv⟩ := hI.to
  have hC := hv.1.c
  have hM := hv.1.m
  have hK := hM.1
  have hp := pw64 hK.n.2
  have h64 := pp64 hK.n.2
  refine C_X11_of x0 x1 τ (sp_cisState hC (b_b (fun hp0 => ?_) (fun hp0 => pi_ok ?_)))
  · obtain ⟨s, hs, rfl⟩ := st_of hp0
    have lp := low_part hK hs
    have fin : ∀ (w : Int32) (τ1 : hz_T), InvV v τ1 → (0 ≤ w.toInt ∧ w.toInt ≤ 6) → zCall G MX12_of [.ref 29, .int (nI s), .int w] τ1 (zpi (fun b τ2 => ofA v s w = b ∧ Inv τ2)) := fun w τ1 hv1 hw => sp_mof hv1 hs hw (fun τ' hv' => ⟨rfl, hv'.of⟩)
    refine ⟨fun e => sp_rateOut hC hs (pi_ok ?_), fun e => sp_targets hC hs (sp_bcl (Nat.lt_of_lt_of_le (ptgt_lt hK hs) h64) (pi_ok ?_)), fun e => sp_ready3 hv (fun τ1 g1 hv1 hP => ⟨rfl, sp_reached hK hP hs (sp_bcl (preach_64 hK hs) (pi_ok ?_))⟩), fun e => sp_ready3 hv (fun τ1 g1 hv1 hP => ⟨rfl, sp_cpartOf hK hP hs (sp_bcl (ppart_64 hK s) (pi_ok ?_))⟩), fun e => sp_ready3 hv (fun τ1 g1 hv1 hP => ⟨rfl, sp_cisShut hK hP hs (pi_ok ?_)⟩), fun e => sp_ready3 hv (fun τ1 g1 hv1 hP => ⟨rfl, sp_cpartOf hK hP hs (sp_ntzl (ppart_64 hK s) (by omega) lp.1 (pi_ok ?_))⟩), fun e => sp_bc (pi_ok ?_), fun e0 e1 e2 e3 e4 e5 e6 => pi_ok ?_⟩
    · have := fin 0 τ hv (by decide)
      rw [ofA_0] at this
      have e : x1 = 0 := e
      rw [e]; exact this
    · have := fin 1 τ hv (by decide)
      rw [ofA_1] at this
      have e : x1 = 1 := e
      rw [e]; exact this
    · have := fin 2 τ1 hv1 (by decide)
      rw [ofA_2] at this
      have e : x1 = 2 := e
      rw [e]; exact this
    · have := fin 3 τ1 hv1 (by decide)
      rw [ofA_3] at this
      have e : x1 = 3 := e
      rw [e]; exact this
    · have := fin 4 τ1 hv1 (by decide)
      rw [ofA_4] at this
      have e : x1 = 4 := e
      rw [e, bb01]; exact this
    · have := fin 5 τ1 hv1 (by decide)
      rw [ofA_5] at this
      have e : x1 = 5 := e
      rw [e]; exact this
    · have := fin 6 τ hv (by decide)
      rw [ofA_6 v s (by decide) (by decide) (by decide) (by decide) (by decide) (by decide)] at this
      have e : x1 = 6 := e
      rw [e, bcf_eq (by omega)]; exact this
    · refine C_X12_of _ _ τ (sp_misState hM (b_a (fun h => absurd hp0 h) (fun _ => sp_in (b_b (fun q => ?_) (fun _ => pi_ok ⟨rfl, hI⟩)))))
      exfalso
      rw [t0, t6L, i64] at q
      obtain ⟨k, hk, rfl⟩ := of_range (n := 7) q.1 (by omega)
      match k, hk with
      | 0, _ => exact e0 rfl
      | 1, _ => exact e1 rfl
      | 2, _ => exact e2 rfl
      | 3, _ => exact e3 rfl
      | 4, _ => exact e4 rfl
      | 5, _ => exact e5 rfl
      | 6, _ => exact e6 rfl
  · exact C_X12_of _ _ τ (sp_misState hM (b_a (fun _ => pi_ok ⟨rfl, hI⟩) (fun h => absurd h hp0)))
/-! how many parts -/
def plst (v : Nat → Nat) (s : Nat) : Bool := decide (lz64 (ppart v s) = s)
def psht (v : Nat → Nat) (s : Nat) : Bool := decide (preach v s = ppart v s)
def pnm (v : Nat → Nat) (b : Bool) : Nat → Nat
  | 0 => 0
  | k + 1 => pnm v b k + (if plst v k = true ∧ (b = true → psht v k = true) then 1 else 0)
def pgs (v : Nat → Nat) : Nat → Nat
  | 0 => 0
  | k + 1 => if psht v k = true then max (pgs v k) (ppop (ppart v k)) else pgs v k
def mgs (v : Nat → Nat) : Nat → Nat
  | 0 => 0
  | k + 1 => if plst v k = true ∧ psht v k = true then max (mgs v k) (ppop (ppart v k)) else mgs v k
theorem pnm_s (v : Nat → Nat) (b : Bool) (k : Nat) : pnm v b (k + 1) = pnm v b k + (if plst v k = true ∧ (b = true → psht v k = true) then 1 else 0) := rfl
theorem pgs_s (v : Nat → Nat) (k : Nat) : pgs v (k + 1) = if psht v k = true then max (pgs v k) (ppop (ppart v k)) else pgs v k := rfl
theorem mgs_s (v : Nat → Nat) (k : Nat) : mgs v (k + 1) = if plst v k = true ∧ psht v k = true then max (mgs v k) (ppop (ppart v k)) else mgs v k := rfl
theorem mgs_ge {v : Nat → Nat} {u : Nat} (h1 : plst v u = true) (h2 : psht v u = true) : ∀ k, u < k → ppop (ppart v u) ≤ mgs v k := by
  intro k
  induction k with
  | zero => intro h; omega
  | succ k ih =>
    intro h
    rw [mgs_s]
    by_cases q : u = k
    · subst q
      rw [if_pos ⟨h1, h2⟩]
      exact Nat.le_max_right _ _
    · have := ih (by omega)
      split
      · exact Nat.le_trans this (Nat.le_max_left _ _)
      · exact this
theorem mgs_eq {v : Nat → Nat} (h : LaneOK v) : ∀ k, k ≤ 2 ^ v 0 → mgs v k = pgs v k := by
  intro k
  induction k with
  | zero => intro _; rfl
  | succ k ih =>
    intro hk
    have ih := ih (by omega)
    have hk2 : k < 2 ^ v 0 := by omega
    rw [mgs_s, pgs_s, ← ih]
    by_cases q : psht v k = true
    · rw [if_pos q]
      by_cases w : plst v k = true
      · rw [if_pos ⟨w, q⟩]
      · rw [if_neg (fun y => w y.1)]
        obtain ⟨l1, l2⟩ := low_part h hk2
        have hne : ¬ lz64 (ppart v k) = k := fun z => w (decide_eq_true z)
        have hb := l1.1
        have hu : lz64 (ppart v k) < 2 ^ v 0 := by omega
        rw [ppart_bit, decide_eq_true hu, Bool.true_and] at hb
        have hr : preach v (lz64 (ppart v k)) = preach v k := of_decide_eq_true hb
        have hc := ppart_cg hr
        have a1 : plst v (lz64 (ppart v k)) = true := decide_eq_true (by rw [hc])
        have a2 : psht v (lz64 (ppart v k)) = true := decide_eq_true (by rw [hc, hr]; exact of_decide_eq_true q)
        have := mgs_ge a1 a2 k (by omega)
        rw [hc] at this
        exact (Nat.max_eq_left this).symm
    · rw [if_neg q, if_neg (fun y => q y.2)]
theorem pnm_le (v : Nat → Nat) (b : Bool) : ∀ k, pnm v b k ≤ k := by
  intro k
  induction k with
  | zero => exact Nat.le_refl _
  | succ k ih => rw [pnm_s]; split <;> omega
theorem pgs_le (v : Nat → Nat) : ∀ k, pgs v k ≤ 64 := by
  intro k
  induction k with
  | zero => exact Nat.zero_le _
  | succ k ih =>
    rw [pgs_s]
    split
    · exact Nat.max_le.2 ⟨ih, ppop_le _⟩
    · exact ih
theorem mgs_le (v : Nat → Nat) : ∀ k, mgs v k ≤ 64 := by
  intro k
  induction k with
  | zero => exact Nat.zero_le _
  | succ k ih =>
    rw [mgs_s]
    split
    · exact Nat.max_le.2 ⟨ih, ppop_le _⟩
    · exact ih
theorem max_lt {a b : Nat} (ha : a ≤ 64) (hb : b ≤ 64) : (if nI a < nI b then nI b else nI a) = nI (max a b) := by
  by_cases q : a < b
  · rw [if_pos ((nI_ltJ (by omega) (by omega)).2 q), Nat.max_eq_right (by omega)]
  · rw [if_neg (fun z => q ((nI_ltJ (by omega) (by omega)).1 z)), Nat.max_eq_left (by omega)]
theorem max_le {a b : Nat} (ha : a ≤ 64) (hb : b ≤ 64) : (if nI b ≤ nI a then nI a else nI b) = nI (max a b) := by
  by_cases q : b ≤ a
  · rw [if_pos (nI_le q (by omega)), Nat.max_eq_left q]
  · rw [if_neg (nI_ge (by omega) (by omega)), Nat.max_eq_right (by omega)]
section PT
variable {G : hz_G} {τ : hz_T} {v : Nat → Nat} {φ : Int32 → hz_T → Prop}
theorem sp_isLeast (hK : LaneOK v) (hP : PR v τ) {s : Nat} (hs : s < 2 ^ v 0) (H : φ (if plst v s = true then 1 else 0) τ) : zCall G MX3_isLeast [.ref 7, .int (nI s)] τ (zpi φ) := by
  have hp := pw64 hK.n.2
  have lp := low_part hK hs
  refine C_X3_isLeast _ τ (sp_cpartOf hK hP hs (sp_ntzl (ppart_64 hK s) (by omega) lp.1 (pi_ok ?_)))
  by_cases q : lz64 (ppart v s) = s
  · rw [if_pos (show plst v s = true from decide_eq_true q)] at H
    rw [if_pos (by rw [q])]; exact H
  · rw [if_neg (fun y : plst v s = true => q (of_decide_eq_true y))] at H
    rw [if_neg (fun y => q ((nI_eq (by omega) (by omega)).1 y))]; exact H
theorem sp_number (hL : LC v τ) (hP : PR v τ) {b : Bool} {xb : Int32} (hb : xb = 0 ↔ b = false) (H : φ (nI (pnm v b (2 ^ v 0))) τ) : zCall G MX3_number [.ref 7, .int xb] τ (zpi φ) := by
  have hK := hL.1
  have hp := pw64 hK.n.2
  refine C_X3_number _ τ ?_
  have loop : ∀ m s, s + m = 2 ^ v 0 → zRun G MX3_number 4 [(0, .ref 7), (1, .int xb), (2, .int (nI (pnm v b s))), (3, .int (nI s))] [] τ (zpi φ) := by
    intro m
    induction m with
    | zero =>
      intro s e
      have e : s = 2 ^ v 0 := by omega
      subst e
      exact V_X3_number_4 _ _ _ τ (sp_cstates hL ⟨fun _ => pi_ok H, fun q => absurd (nI_le (Nat.le_refl _) (by omega)) q⟩)
    | succ m ih =>
      intro s e
      have hs : s < 2 ^ v 0 := by omega
      have h := ih (s + 1) (by omega)
      rw [pnm_s] at h
      refine V_X3_number_4 _ _ _ τ (sp_cstates hL ⟨fun q => absurd q (nI_ge (by omega) (by omega)), fun _ => sp_isLeast hK hP hs (b_a (fun q => ?_) (fun q => ?_))⟩)
      · rw [if_neg (fun y => q y.1)] at h
        rw [i1]; exact h
      · refine ⟨fun z => ?_, fun z => sp_cisShut hK hP hs ?_⟩
        · have hbf := hb.1 z
          rw [if_pos ⟨q, fun y => by rw [hbf] at y; exact Bool.noConfusion y⟩] at h
          rw [i1, i1]; exact h
        · have hbt : b = true := by
            cases hh : b with
            | true => rfl
            | false => exact absurd (hb.2 hh) z
          rw [i1, i1]
          by_cases w : preach v s = ppart v s
          · rw [if_pos ⟨q, fun _ => decide_eq_true w⟩] at h
            rw [if_pos w, if_neg (by decide)]; exact h
          · rw [if_neg (fun y => w (of_decide_eq_true (y.2 hbt)))] at h
            rw [if_neg w, if_pos rfl]; exact h
  exact loop (2 ^ v 0) 0 (by omega)
theorem sp_greatest (hL : LC v τ) (hP : PR v τ) (H : φ (nI (pgs v (2 ^ v 0))) τ) : zCall G MX3_greatestShut [.ref 7] τ (zpi φ) := by
  have hK := hL.1
  have hp := pw64 hK.n.2
  refine C_X3_greatestShut τ ?_
  have loop : ∀ m s, s + m = 2 ^ v 0 → zRun G MX3_greatestShut 4 [(0, .ref 7), (1, .int (nI (pgs v s))), (2, .int (nI s))] [] τ (zpi φ) := by
    intro m
    induction m with
    | zero =>
      intro s e
      have e : s = 2 ^ v 0 := by omega
      subst e
      exact V_X3_greatestShut_4 _ _ τ (sp_cstates hL ⟨fun _ => pi_ok H, fun q => absurd (nI_le (Nat.le_refl _) (by omega)) q⟩)
    | succ m ih =>
      intro s e
      have hs : s < 2 ^ v 0 := by omega
      have h := ih (s + 1) (by omega)
      rw [pgs_s] at h
      refine V_X3_greatestShut_4 _ _ τ (sp_cstates hL ⟨fun q => absurd q (nI_ge (by omega) (by omega)), fun _ => sp_cisShut hK hP hs (b_a (fun q => ?_) (fun q => sp_cpartOf hK hP hs (sp_bcl (ppart_64 hK s) ?_)))⟩)
      · rw [if_neg (fun y : psht v s = true => q (of_decide_eq_true y))] at h
        rw [i1]; exact h
      · rw [if_pos (show psht v s = true from decide_eq_true q)] at h
        rw [i1, max_lt (pgs_le v s) (ppop_le _)]; exact h
  exact loop (2 ^ v 0) 0 (by omega)
theorem sp_mparts (hv : InvV v τ) {w : Int32} (hw : 0 ≤ w.toInt ∧ w.toInt ≤ 2) (H : ∀ τ', InvV v τ' → φ (if w = 0 then nI (pnm v false (2 ^ v 0)) else if w = 1 then nI (pnm v true (2 ^ v 0)) else nI (pgs v (2 ^ v 0))) τ') : zCall G MX12_parts [.ref 29, .int w] τ (zpi φ) := by
  have hM := hv.1.m
  have hK := hM.1
  have hp := pw64 hK.n.2
  refine C_X12_parts _ τ (sp_in (b_b (fun _ => ?_) (fun q => ?_)))
  · refine sp_layReaches hM (fun τ2 g1 g2 => ?_)
    have hv2 := hv.sk g1 (by decide)
    have hM2 := hv2.1.m
    have hR2 : RMod v τ2 := g2
    have H2 := H τ2 hv2
    have loop : ∀ m s, s + m = 2 ^ v 0 → zRun G MX12_parts 28 [(0, .ref 29), (1, .int w), (2, .int (nI (pnm v false s))), (3, .int (nI (pnm v true s))), (4, .int (nI (mgs v s))), (5, .int (nI s))] [] τ2 (zpi φ) := by
      intro m
      induction m with
      | zero =>
        intro s e
        have e : s = 2 ^ v 0 := by omega
        subst e
        refine V_X12_parts_28 _ _ _ _ _ τ2 (sp_mstates hM2 ⟨fun _ => pi_ok ?_, fun q => absurd (nI_le (Nat.le_refl _) (by omega)) q⟩)
        rw [mgs_eq hK _ (Nat.le_refl _)]
        exact H2
      | succ m ih =>
        intro s e
        have hs : s < 2 ^ v 0 := by omega
        have h := ih (s + 1) (by omega)
        have lp := low_part hK hs
        rw [pnm_s, pnm_s, mgs_s] at h
        refine V_X12_parts_28 _ _ _ _ _ τ2 (sp_mstates hM2 ⟨fun q => absurd q (nI_ge (by omega) (by omega)), fun _ => sp_mpartOf hM2 hR2 hs (sp_leastOf (ppart_64 hK s) (by omega) lp.1 ?_)⟩)
        rw [nI_eq (by omega) (by omega), i1]
        refine ⟨fun q => ?_, fun q => ?_⟩
        · have q2 : ¬ plst v s = true := fun y => q (of_decide_eq_true y)
          rw [if_neg (fun y => q2 y.1), if_neg (fun y => q2 y.1), if_neg (fun y => q2 y.1)] at h
          exact h
        · have q2 : plst v s = true := decide_eq_true q
          refine sp_misShut hM2 hR2 hs (b_a (fun z => ?_) (fun z => sp_mpartOf hM2 hR2 hs (sp_sizeOf (ppart_64 hK s) ?_)))
          · have z2 : ¬ psht v s = true := fun y => z (of_decide_eq_true y)
            have c1 : plst v s = true ∧ (false = true → psht v s = true) := ⟨q2, fun y => Bool.noConfusion y⟩
            have c2 : ¬ (plst v s = true ∧ (true = true → psht v s = true)) := fun y => z2 (y.2 rfl)
            have c3 : ¬ (plst v s = true ∧ psht v s = true) := fun y => z2 y.2
            rw [if_pos c1, if_neg c2, if_neg c3] at h
            rw [i1]; exact h
          · have z2 : psht v s = true := decide_eq_true z
            have c1 : plst v s = true ∧ (false = true → psht v s = true) := ⟨q2, fun y => Bool.noConfusion y⟩
            have c2 : plst v s = true ∧ (true = true → psht v s = true) := ⟨q2, fun _ => z2⟩
            have c3 : plst v s = true ∧ psht v s = true := ⟨q2, z2⟩
            rw [if_pos c1, if_pos c2, if_pos c3] at h
            rw [i1, i1, max_le (mgs_le v s) (ppop_le _)]; exact h
    exact loop (2 ^ v 0) 0 (by omega)
  · exfalso
    rw [t0, t2L, i64] at q
    exact q hw
end PT
theorem pair_parts {G : hz_G} {τ : hz_T} (hI : Inv τ) (x0 : Int32) : PI G MX11_parts MX12_parts [.ref 0, .int x0] [.ref 29, .int x0] τ := by
  obtain ⟨v, hv⟩ := hI.to
  have hK := hv.1.1
  refine C_X11_parts x0 τ ⟨fun e => sp_ready3 hv (fun τ1 g1 hv1 hP => ⟨rfl, sp_number (b := false) hv1.1.c hP (by decide) (pi_ok ?_)⟩), fun e => sp_ready3 hv (fun τ1 g1 hv1 hP => ⟨rfl, sp_number (b := true) hv1.1.c hP (by decide) (pi_ok ?_)⟩), fun e => sp_ready3 hv (fun τ1 g1 hv1 hP => ⟨rfl, sp_greatest hv1.1.c hP (pi_ok ?_)⟩), fun e0 e1 e2 => pi_ok ?_⟩
  · have e : x0 = 0 := e
    rw [e]
    refine sp_mparts hv1 (by decide) (fun τ' hv' => ⟨?_, hv'.of⟩)
    rw [if_pos rfl]
  · have e : x0 = 1 := e
    rw [e]
    refine sp_mparts hv1 (by decide) (fun τ' hv' => ⟨?_, hv'.of⟩)
    rw [if_neg (by decide), if_pos rfl]
  · have e : x0 = 2 := e
    rw [e]
    refine sp_mparts hv1 (by decide) (fun τ' hv' => ⟨?_, hv'.of⟩)
    rw [if_neg (by decide), if_neg (by decide)]
  · refine C_X12_parts _ τ (sp_in (b_b (fun q => ?_) (fun _ => pi_ok ⟨rfl, hI⟩)))
    exfalso
    rw [t0, t2L, i64] at q
    obtain ⟨k, hk, rfl⟩ := of_range (n := 3) q.1 (by omega)
    match k, hk with
    | 0, _ => exact e0 rfl
    | 1, _ => exact e1 rfl
    | 2, _ => exact e2 rfl

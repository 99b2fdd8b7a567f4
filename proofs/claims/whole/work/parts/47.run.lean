/-! draws -/
def pnext (sd : Int32) : Int32 := sd * (1103515245 : Int32) + (12345 : Int32)
def pdraw (sd : Int32) : Nat := sd.toBitVec.toNat / 2 ^ 16 % 2 ^ 15
theorem dr_c (sd : Int32) : (sd.toUInt32 >>> ((16 : Int32).toUInt32 &&& Int32.toUInt32 31)).toInt32 &&& (32767 : Int32) = nI (pdraw sd) := by
  rw [pk_and _ 15 (by decide), pk_ushr sd 16 16 (by decide)]
  rfl
theorem bt_32767 : ∀ i, i < 32 → 15 ≤ i → bt (32767 : Int32) i = false := by decide +kernel
theorem dr_m (sd : Int32) : (sd >>> ((16 : Int32) &&& 31)) &&& (32767 : Int32) = nI (pdraw sd) := by
  rw [← dr_c]
  apply b_ext
  intro i hi
  rw [b_and, b_and]
  by_cases h : i < 15
  · rw [show (16 : Int32) = nI 16 from rfl, b_sshr 16 (by decide) _ hi, b_ushr 16 (by decide) _ i, if_pos (by omega)]
  · rw [bt_32767 i hi (by omega), Bool.and_false, Bool.and_false]
theorem pdraw_lt (sd : Int32) : pdraw sd < 32768 := Nat.mod_lt _ (by decide)
def ptick (n s d : Nat) : Nat := if pgo n s d then s ^^^ (2 ^ d ^^^ 2 ^ pnx n d) else s
def ptkE (n s d : Nat) : Int32 :=
  let g := nI (prdy n s) &&& ((1 : Int32) <<< (nI d &&& 31))
  (nI s &&& (g ^^^ (-1 : Int32))) ||| (((g <<< ((1 : Int32) &&& 31)) ||| (g >>> ((nI n - (1 : Int32)) &&& 31))) &&& (((1 : Int32) <<< (nI n &&& 31)) - (1 : Int32)))
theorem tb_tick : ∀ n, n < 7 → 1 ≤ n → ∀ s, s < 2 ^ n → ∀ d, d < n → ptkE n s d = nI (ptick n s d) ∧ ptick n s d < 2 ^ n := by decide +kernel
def prun (n s : Nat) (sd : Int32) : Nat → Nat × Int32
  | 0 => (s, sd)
  | m + 1 => (ptick n (prun n s sd m).1 (pdraw (pnext (prun n s sd m).2) % n), pnext (prun n s sd m).2)
def prunh (n s : Nat) (sd : Int32) : Nat → Nat
  | 0 => 0
  | m + 1 => prunh n s sd m + (if (prun n s sd (m + 1)).1 = (prun n s sd m).1 then 0 else 1)
theorem prun_lt {n s : Nat} (h1 : 1 ≤ n) (hn : n ≤ 6) (hs : s < 2 ^ n) (sd : Int32) : ∀ m, (prun n s sd m).1 < 2 ^ n := by
  intro m
  induction m with
  | zero => exact hs
  | succ m ih => exact (tb_tick n (by omega) h1 _ ih _ (Nat.mod_lt _ (by omega))).2
theorem prun_sd (n s t : Nat) (sd : Int32) : ∀ m, (prun n s sd m).2 = (prun n t sd m).2 := by
  intro m
  induction m with
  | zero => rfl
  | succ m ih => show pnext _ = pnext _; rw [ih]
theorem prunh_le (n s : Nat) (sd : Int32) : ∀ m, prunh n s sd m ≤ m := by
  intro m
  induction m with
  | zero => exact Nat.le_refl _
  | succ m ih => unfold prunh; split <;> omega
theorem hop_add {a b h n : Nat} (ha : a < 64) (hb : b < 64) : nI h + (if nI a = nI b then (0 : Int32) else (1 : Int32)) = nI (h + (if a = b then 0 else 1)) := by
  have e : nI a = nI b ↔ a = b := nI_eq (by omega) (by omega)
  by_cases q : a = b
  · rw [if_pos (e.mpr q), if_pos q, ← nI_0, nI_add]
  · rw [if_neg (fun z => q (e.mp z)), if_neg q, i1]
section RU
variable {G : hz_G} {τ : hz_T} {φ : Int32 → hz_T → Prop}
theorem sp_draw {n : Nat} (h1 : 1 ≤ n) (hn : n ≤ 6) {sd : Int32} (H : φ (nI (pdraw sd % n)) τ) : zCall G MX6_draw [.int sd, .int (nI n)] τ (zpi φ) := by
  refine C_X6_draw _ _ τ ⟨fun q => absurd q (nI_nle (by omega) (by omega)), fun _ => ⟨nI_ne0 (by omega) (by omega), pi_ok ?_⟩⟩
  rw [dr_c, pk_rem (Nat.lt_trans (pdraw_lt sd) (by decide)) (by omega) (by omega)]
  exact H
theorem sp_tick {n s : Nat} (h1 : 1 ≤ n) (hn : n ≤ 6) (hs : s < 2 ^ n) {sd : Int32} (H : φ (nI (ptick n s (pdraw sd % n))) τ) : zCall G MX6_tick [.int (nI s), .int sd, .int (nI n)] τ (zpi φ) := by
  refine C_X6_tick _ _ _ τ (sp_ready h1 hn hs (sp_draw h1 hn (fun v1 e1 v2 e2 => pi_ok ?_)))
  have e := (tb_tick n (by omega) h1 s hs (pdraw sd % n) (Nat.mod_lt _ (by omega))).1
  subst e1
  subst e2
  unfold ptkE at e
  dsimp only at e
  rw [e]
  exact H
theorem sp_drawn {n s m : Nat} (h1 : 1 ≤ n) (hn : n ≤ 6) (hs : s < 2 ^ n) (hm : m ≤ 200) {sd : Int32} (H : φ (nI (prun n s sd m).1) τ) : zCall G MX6_drawn [.int (nI s), .int sd, .int (nI m), .int (nI n)] τ (zpi φ) := by
  refine C_X6_drawn _ _ _ _ τ ?_
  refine lp (α := Unit) (fun i _ τ' => zRun G MX6_drawn 9 [(2, .int (nI m)), (3, .int (nI n)), (4, .int (nI (prun n s sd i).1)), (5, .int (prun n s sd i).2), (6, .int (nI i))] [] τ' (zpi φ)) (fun i _ τ' => τ' = τ) m ?_ ?_ 0 () _ (Nat.zero_le _) rfl
  · intro _ τ' e
    subst e
    exact V_X6_drawn_9 _ _ _ _ _ _ ⟨fun _ => pi_ok H, fun q => absurd (nI_le (Nat.le_refl _) (by omega)) q⟩
  · intro i _ τ' hi e ih
    refine V_X6_drawn_9 _ _ _ _ _ _ ⟨fun q => absurd q (nI_ge hi (by omega)), fun _ => C_X6_leadOn _ _ (pi_ok (sp_tick h1 hn (prun_lt h1 hn hs sd i) ?_))⟩
    rw [i1]
    exact ih () _ e
theorem sp_drawnHops {n s m : Nat} (h1 : 1 ≤ n) (hn : n ≤ 6) (hs : s < 2 ^ n) (hm : m ≤ 200) {sd : Int32} (H : φ (nI (prunh n s sd m)) τ) : zCall G MX6_drawnHops [.int (nI s), .int sd, .int (nI m), .int (nI n)] τ (zpi φ) := by
  have hp := pw64 hn
  refine C_X6_drawnHops _ _ _ _ τ ?_
  refine lp (α := Unit) (fun i _ τ' => zRun G MX6_drawnHops 12 [(2, .int (nI m)), (3, .int (nI n)), (4, .int (nI (prun n s sd i).1)), (5, .int (prun n s sd i).2), (6, .int (nI (prunh n s sd i))), (7, .int (nI i))] [] τ' (zpi φ)) (fun i _ τ' => τ' = τ) m ?_ ?_ 0 () _ (Nat.zero_le _) rfl
  · intro _ τ' e
    subst e
    exact V_X6_drawnHops_12 _ _ _ _ _ _ _ ⟨fun _ => pi_ok H, fun q => absurd (nI_le (Nat.le_refl _) (by omega)) q⟩
  · intro i _ τ' hi e ih
    have l1 := prun_lt h1 hn hs sd i
    have l2 := prun_lt h1 hn hs sd (i + 1)
    refine V_X6_drawnHops_12 _ _ _ _ _ _ _ ⟨fun q => absurd q (nI_ge hi (by omega)), fun _ => C_X6_leadOn _ _ (pi_ok (sp_tick h1 hn l1 (fun v1 e1 => ?_)))⟩
    have e2 : v1 = nI (prunh n s sd (i + 1)) := by
      rw [e1]
      exact hop_add (n := 0) (show (prun n s sd (i + 1)).1 < 64 by omega) (by omega)
    subst e2
    rw [i1]
    exact ih () _ e
/-! the reference's draws -/
theorem sp_mdraw {v : Nat → Nat} (hL : LM v τ) (H : ∀ τ', Sk [29] τ τ' → τ'.1.1 29 22 = pnext (τ.1.1 29 22) → φ (nI (pdraw (pnext (τ.1.1 29 22)) % v 0)) τ') : zCall G MX12_draw [.ref 29] τ (zpi φ) := by
  have hn := hL.1.n
  have hk : Sk [29] τ (zI τ 29 22 (pnext (τ.1.1 29 22))) := Sk.rf.I (by decide) (by decide)
  refine C_X12_draw τ (sp_mplaces (hL.sk hk (by decide)) ⟨nI_ne0 (by omega) (by omega), pi_ok ?_⟩)
  rw [dr_m, pk_rem (Nat.lt_trans (pdraw_lt _) (by decide)) (by omega) (by omega)]
  exact H _ hk rfl
theorem sp_gone {s a b : Nat} (hs : s < 2 ^ 31) (ha : a < 31) (hb : b < 31) (H : φ (nI (if s.testBit a && !s.testBit b then s ^^^ (2 ^ a ^^^ 2 ^ b) else s)) τ) : zCall G MX12_gone [.ref 29, .int (nI s), .int (nI a), .int (nI b)] τ (zpi φ) := by
  refine C_X12_gone _ _ _ τ (sp_has hs (by omega) (b_a (fun q => pi_ok ?_) (fun q => sp_has hs (by omega) (pi_ok ?_))))
  · have e : s.testBit a = false := by simpa using q
    rw [e] at H
    exact H
  · rw [one_shl ha, one_shl hb, nx_xor, nx_xor, Nat.xor_assoc]
    rw [q] at H
    cases hb2 : s.testBit b with
    | true =>
      rw [hb2] at H
      rw [if_pos rfl, if_neg (by decide)]
      exact H
    | false =>
      rw [hb2] at H
      rw [if_pos (by decide)]
      exact H
theorem sp_hopAt {v : Nat → Nat} (hL : LM v τ) {s d : Nat} (hs : s < 2 ^ v 0) (hd : d < v 0) (H : φ (nI (ptick (v 0) s d)) τ) : zCall G MX12_hopAt [.ref 29, .int (nI s), .int (nI d)] τ (zpi φ) := by
  have hn := hL.1.n
  have hp := pw64 hn.2
  have hx := pnx_lt hd
  refine C_X12_hopAt _ _ τ (sp_mplaces hL ?_)
  rw [i1, nxt_eq hn.2 hd]
  exact sp_gone (by omega) (by omega) (by omega) (pi_ok H)
theorem sp_mrun {v : Nat → Nat} (hL : LM v τ) {s m : Nat} (hs : s < 2 ^ v 0) (hm : m ≤ 200) {sd x4 : Int32} (h22 : τ.1.1 29 22 = sd) (H : ∀ τ', Sk [29] τ τ' → φ (if x4 = 0 then nI (prun (v 0) s sd m).1 else nI (prunh (v 0) s sd m)) τ') : zRun G MX12_run 57 [(0, .ref 29), (3, .int (nI m)), (4, .int x4), (5, .int (nI s)), (6, .int (0 : Int32)), (7, .int (0 : Int32))] [] τ (zpi φ) := by
  have hn := hL.1.n
  have hp := pw64 hn.2
  refine lp (α := Unit) (fun i _ τ' => zRun G MX12_run 57 [(0, .ref 29), (3, .int (nI m)), (4, .int x4), (5, .int (nI (prun (v 0) s sd i).1)), (6, .int (nI (prunh (v 0) s sd i))), (7, .int (nI i))] [] τ' (zpi φ)) (fun i _ τ' => Sk [29] τ τ' ∧ τ'.1.1 29 22 = (prun (v 0) s sd i).2) m ?_ ?_ 0 () _ (Nat.zero_le _) ⟨Sk.rf, h22⟩
  · intro _ τ' h
    exact V_X12_run_57 _ _ _ _ _ τ' ⟨fun _ => pi_ok (H τ' h.1), fun q => absurd (nI_le (Nat.le_refl _) (by omega)) q⟩
  · intro i _ τ' hi h ih
    have l1 := prun_lt hn.1 hn.2 hs sd i
    have l2 := prun_lt hn.1 hn.2 hs sd (i + 1)
    refine V_X12_run_57 _ _ _ _ _ τ' ⟨fun q => absurd q (nI_ge hi (by omega)), fun _ => sp_mdraw (hL.sk h.1 (by decide)) (fun τ2 g1 g2 => ?_)⟩
    rw [h.2] at g2 ⊢
    refine sp_hopAt ((hL.sk h.1 (by decide)).sk g1 (by decide)) l1 (Nat.mod_lt _ (by omega)) (fun v1 e1 => ?_)
    have e2 : v1 = nI (prunh (v 0) s sd (i + 1)) := by
      rw [e1]
      exact hop_add (n := 0) (show (prun (v 0) s sd (i + 1)).1 < 64 by omega) (by omega)
    subst e2
    rw [i1]
    exact ih () _ ⟨h.1.tr g1, g2⟩
end RU
theorem pair_run {G : hz_G} {τ : hz_T} (hI : Inv τ) (x0 : Int32) (x1 : Int32) (x2 : Int32) (x3 : Int32) : PI G MX11_run MX12_run [.ref 0, .int x0, .int x1, .int x2, .int x3] [.ref 29, .int x0, .int x1, .int x2, .int x3] τ := by
  obtain ⟨v, hl, -⟩ := id hI
  have hn := hl.1.n
  have e1 : (1 : Int32).toInt = 1 := by decide
  have e2 : (1 : Int64).toInt = 1 := by decide
  have e3 : (200 : Int32).toInt = 200 := by decide
  have e4 : (200 : Int64).toInt = 200 := by decide
  refine C_X11_run x0 x1 x2 x3 τ (sp_cisState hl.c (b_a (fun hs => pi_ok ?_) (fun hs => sp_within ?_)))
  · exact C_X12_run x0 x1 x2 x3 τ (sp_misState hl.m (b_a (fun _ => pi_ok ⟨rfl, hI⟩) (fun h => absurd h hs)))
  rw [t0', e3]
  refine b_a (fun hm => pi_ok ?_) (fun hm => sp_within ?_)
  · refine C_X12_run _ _ _ _ τ (sp_misState hl.m (b_a (fun h => absurd hs h) (fun _ => sp_in ?_)))
    rw [t0, e4, i64]
    exact b_a (fun _ => pi_ok ⟨rfl, hI⟩) (fun h => absurd h hm)
  rw [t0', e1]
  refine b_b (fun hw => sp_copen hl.c (b_a (fun ho => ?_) (fun ho => pi_ok ?_))) (fun hw => pi_ok ?_)
  · obtain ⟨s, hs', rfl⟩ := st_of hs
    obtain ⟨m, hm', rfl⟩ := of_range (n := 201) hm.1 (by omega)
    have model : ∀ z : Int32, z = (if x3 = 0 then nI (prun (v 0) s x1 m).1 else nI (prunh (v 0) s x1 m)) → zCall G MX12_run [.ref 29, .int (nI s), .int x1, .int (nI m), .int x3] τ (zpi (fun b τ2 => z = b ∧ Inv τ2)) := by
      intro z hz
      refine C_X12_run _ _ _ _ τ (sp_misState hl.m (b_a (fun h => absurd hs h) (fun _ => sp_in ?_)))
      rw [t0, e4, i64]
      refine b_a (fun h => absurd hm h) (fun _ => sp_in ?_)
      rw [t0, e2, i64]
      have hk : Sk [29] τ (zI τ 29 22 x1) := Sk.rf.I (by decide) (by decide)
      exact b_b (fun _ => sp_mopen hl.m (b_a (fun _ => sp_mrun (hl.m.sk hk (by decide)) hs' (by omega) rfl (fun τ' h' => ⟨hz, inv_sk hI (hk.tr h') (by decide)⟩)) (fun h => absurd h ho))) (fun h => absurd hw h)
    refine sp_cplaces hl.c ⟨fun q => ?_, fun q => ?_⟩
    · exact sp_drawnHops hn.1 hn.2 hs' (by omega) (pi_ok (model _ (by rw [if_neg q])))
    · exact sp_drawn hn.1 hn.2 hs' (by omega) (pi_ok (model _ (by rw [if_pos q])))
  · refine C_X12_run _ _ _ _ τ (sp_misState hl.m (b_a (fun h => absurd hs h) (fun _ => sp_in ?_)))
    rw [t0, e4, i64]
    refine b_a (fun h => absurd hm h) (fun _ => sp_in ?_)
    rw [t0, e2, i64]
    exact b_b (fun _ => sp_mopen hl.m (b_a (fun h => absurd ho h) (fun _ => pi_ok ⟨rfl, hI⟩))) (fun h => absurd hw h)
  · refine C_X12_run _ _ _ _ τ (sp_misState hl.m (b_a (fun h => absurd hs h) (fun _ => sp_in ?_)))
    rw [t0, e4, i64]
    refine b_a (fun h => absurd hm h) (fun _ => sp_in ?_)
    rw [t0, e2, i64]
    exact b_b (fun h => absurd h hw) (fun _ => pi_ok ⟨rfl, hI⟩)

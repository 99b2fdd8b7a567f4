/-! scratch of the reference: its own numbers 3 and 4 (taped, fault) stay -/
def Sk (K : List Nat) (τ τ' : hz_T) : Prop := Sm K τ τ' ∧ τ'.1.1 29 3 = τ.1.1 29 3 ∧ τ'.1.1 29 4 = τ.1.1 29 4
theorem Sk.rf {K : List Nat} {τ : hz_T} : Sk K τ τ := ⟨Sm.rf, rfl, rfl⟩
theorem Sk.tr {K : List Nat} {a b c : hz_T} (h1 : Sk K a b) (h2 : Sk K b c) : Sk K a c := ⟨h1.1.tr h2.1, h2.2.1.trans h1.2.1, h2.2.2.trans h1.2.2⟩
theorem Sk.wk {K K' : List Nat} {a b : hz_T} (h : Sk K a b) (hs : ∀ q ∈ K, q ∈ K') : Sk K' a b := ⟨h.1.wk hs, h.2⟩
theorem Sk.I {K : List Nat} {a b : hz_T} {q j : Nat} {x : Int32} (h : Sk K a b) (hq : q ∈ K) (hj : ¬ (29 = q ∧ 3 = j) ∧ ¬ (29 = q ∧ 4 = j)) : Sk K a (zI b q j x) := ⟨h.1.I hq, by rw [zI_at, if_neg hj.1]; exact h.2.1, by rw [zI_at, if_neg hj.2]; exact h.2.2⟩
theorem Sk.L {K : List Nat} {a b : hz_T} {q j : Nat} {x : Int64} (h : Sk K a b) (hq : q ∈ K) : Sk K a (zL b q j x) := ⟨h.1.L hq, h.2⟩
theorem inv_sk {K : List Nat} {τ τ' : hz_T} (hI : Inv τ) (h : Sk K τ τ') (hK : ∀ q ∈ K, q ∈ scr) : Inv τ' := inv_scr hI (h.1.wk hK) h.2.1 h.2.2
theorem LM.sk {K : List Nat} {v : Nat → Nat} {τ τ' : hz_T} (hL : LM v τ) (h : Sk K τ τ') (hK : 30 ∉ K) : LM v τ' := ⟨hL.1, fun j hj => by rw [(h.1 30 hK).1]; exact hL.2 j hj⟩
theorem LC.sk {K : List Nat} {v : Nat → Nat} {τ τ' : hz_T} (hL : LC v τ) (h : Sk K τ τ') (hK : 4 ∉ K) : LC v τ' := ⟨hL.1, fun j hj => by rw [(h.1 4 hK).1]; exact hL.2 j hj⟩
/-! bits of small numbers -/
theorem has_bit {s i : Nat} (hs : s < 2 ^ 31) (hi : i < 32) : (nI s >>> (nI i &&& 31)) &&& 1 = (if s.testBit i then 1 else 0) := by
  rw [pk_shrN hs (nI i &&& 31) i (s_l i hi), kx_1, nx_and, Nat.and_one_is_mod]
  have h := Nat.testBit_eq_decide_div_mod_eq (x := s) (i := i)
  by_cases hb : s / 2 ^ i % 2 = 1
  · rw [hb, h, hb]
    simp [← kx_1]
  · have h0 : s / 2 ^ i % 2 = 0 := by omega
    rw [h0, h, h0]
    simp [nI_0]
theorem sp_has {G : hz_G} {τ : hz_T} {φ : Int32 → hz_T → Prop} {s i : Nat} (hs : s < 2 ^ 31) (hi : i < 32) (H : φ (if s.testBit i = true then 1 else 0) τ) : zCall G MX12_has [.ref 29, .int (nI s), .int (nI i)] τ (zpi φ) := by
  refine C_X12_has _ _ τ (pi_ok ?_)
  rw [has_bit hs hi]
  have e : (if (if s.testBit i = true then (1 : Int32) else 0) = 1 then (1 : Int32) else 0) = (if s.testBit i = true then 1 else 0) := by
    by_cases h : s.testBit i = true
    · rw [if_pos h]; rfl
    · rw [if_neg h]; rfl
  rw [e]
  exact H
/-! one step of all grains -/
def pgo (n s i : Nat) : Bool := s.testBit i && !s.testBit (pnx n i)
def pstI (n s i : Nat) : Nat := (List.range i).foldl (fun t i => if pgo n s i then t ^^^ (2 ^ i ^^^ 2 ^ pnx n i) else t) s
def pstep (n s : Nat) : Nat := pstI n s n
def phpI (n s i : Nat) : Nat := (List.range i).foldl (fun t i => if pgo n s i then t + 1 else t) 0
def phop (n s : Nat) : Nat := phpI n s n
def prdy (n s : Nat) : Nat := (List.range n).foldl (fun t i => if pgo n s i then t + 2 ^ i else t) 0
theorem tb_ready : ∀ n, n < 7 → 1 ≤ n → ∀ s, s < 2 ^ n → nI s &&& (((nI s >>> ((1 : Int32) &&& 31)) ||| ((nI s &&& (1 : Int32)) <<< ((nI n - (1 : Int32)) &&& 31))) ^^^ (-1 : Int32)) = nI (prdy n s) ∧ prdy n s < 2 ^ n := by decide +kernel
theorem tb_step : ∀ n, n < 7 → 1 ≤ n → ∀ s, s < 2 ^ n → (nI s &&& (nI (prdy n s) ^^^ (-1 : Int32))) ||| (((nI (prdy n s) <<< ((1 : Int32) &&& 31)) ||| (nI (prdy n s) >>> ((nI n - (1 : Int32)) &&& 31))) &&& (((1 : Int32) <<< (nI n &&& 31)) - (1 : Int32))) = nI (pstep n s) ∧ pstep n s < 2 ^ n := by decide +kernel
section RG
variable {G : hz_G} {τ : hz_T} {φ : Int32 → hz_T → Prop}
theorem sp_ready {n s : Nat} (h1 : 1 ≤ n) (hn : n ≤ 6) (hs : s < 2 ^ n) (H : φ (nI (prdy n s)) τ) : zCall G MX6_ready [.int (nI s), .int (nI n)] τ (zpi φ) := by
  refine C_X6_ready _ _ τ (fun v hv => pi_ok ?_)
  rw [hv, (tb_ready n (by omega) h1 s hs).1]
  exact H
theorem sp_step {n s : Nat} (h1 : 1 ≤ n) (hn : n ≤ 6) (hs : s < 2 ^ n) (H : φ (nI (pstep n s)) τ) : zCall G MX6_step [.int (nI s), .int (nI n)] τ (zpi φ) := by
  refine C_X6_step _ _ τ (sp_ready h1 hn hs (fun v hv => pi_ok ?_))
  rw [hv, (tb_step n (by omega) h1 s hs).1]
  exact H
theorem foldl_rs {α : Type} (f : α → Nat → α) (a : α) (n : Nat) : (List.range (n + 1)).foldl f a = f ((List.range n).foldl f a) n := by rw [List.range_succ, List.foldl_append]; rfl
theorem pnx_lt {n i : Nat} (h : i < n) : pnx n i < n := by unfold pnx; split <;> omega
theorem one_shl {i : Nat} (h : i < 31) : (1 : Int32) <<< (nI i &&& 31) = nI (2 ^ i) := by
  have h1 : (1 : Int32) = nI 1 := kx_1
  have h2 : 2 ^ i ≤ 2 ^ 30 := Nat.pow_le_pow_right (by decide) (by omega)
  rw [h1, pk_shlN (nI i &&& 31) i (s_l i (by omega)) (by omega), Nat.one_mul]
theorem nxt_eq {n i : Nat} (hn : n ≤ 6) (h : i < n) : (if nI n ≤ nI (i + 1) then (0 : Int32) else nI (i + 1)) = nI (pnx n i) := by
  unfold pnx
  by_cases e : i + 1 = n
  · rw [if_pos (nI_le (by omega) (by omega)), if_pos e, nI_0]
  · rw [if_neg (nI_ge (by omega) (by omega)), if_neg e]
theorem xor_lt {a b n : Nat} (ha : a < 2 ^ n) (hb : b < 2 ^ n) : a ^^^ b < 2 ^ n := Nat.xor_lt_two_pow ha hb
theorem pstI_lt {n s : Nat} (hs : s < 2 ^ n) : ∀ i, i ≤ n → pstI n s i < 2 ^ n := by
  intro i
  induction i with
  | zero => intro _; exact hs
  | succ i ih =>
    intro hi
    unfold pstI
    rw [foldl_rs]
    have h := ih (by omega)
    unfold pstI at h
    split
    · exact xor_lt h (xor_lt (Nat.pow_lt_pow_right (by decide) (by omega)) (Nat.pow_lt_pow_right (by decide) (pnx_lt (by omega))))
    · exact h
theorem sp_onceMore {v : Nat → Nat} (hL : LM v τ) {s : Nat} (hs : s < 2 ^ v 0) (H : ∀ τ', Sk [29] τ τ' → τ'.1.1 29 22 = τ.1.1 29 22 → τ'.1.1 29 20 = nI (phop (v 0) s) → φ (nI (pstep (v 0) s)) τ') : zCall G MX12_onceMore [.ref 29, .int (nI s)] τ (zpi φ) := by
  have hn := hL.1.n
  have hp := pw64 hn.2
  refine C_X12_onceMore _ τ (sp_mplaces hL ?_)
  refine lp (α := Unit) (fun i _ τ' => zRun G MX12_onceMore 15 [(0, .ref 29), (1, .int (nI s)), (2, .int (nI (v 0))), (3, .int (nI (pstI (v 0) s i))), (4, .int (nI i))] [] τ' (zpi φ)) (fun i _ τ' => Sk [29] τ τ' ∧ τ'.1.1 29 22 = τ.1.1 29 22 ∧ τ'.1.1 29 20 = nI (phpI (v 0) s i)) (v 0) ?_ ?_ 0 () _ (Nat.zero_le _) ⟨Sk.rf.I (by decide) (by decide), rfl, by rw [zI_at, if_pos ⟨rfl, rfl⟩]; exact nI_0.symm⟩
  · intro _ τ' h
    exact V_X12_onceMore_15 _ _ _ _ τ' ⟨fun _ => pi_ok (H τ' h.1 h.2.1 h.2.2), fun q => absurd (nI_le (Nat.le_refl _) (by omega)) q⟩
  · intro i _ τ' hi h ih
    have hlt := pnx_lt hi
    have hpl := pstI_lt hs i (by omega)
    refine V_X12_onceMore_15 _ _ _ _ τ' ⟨fun q => absurd q (nI_ge hi (by omega)), fun _ v1 hv1 => ?_⟩
    rw [i1, nxt_eq hn.2 hi] at hv1
    subst hv1
    have stay : pgo (v 0) s i = false → zRun G MX12_onceMore 15 [(0, .ref 29), (1, .int (nI s)), (2, .int (nI (v 0))), (3, .int (nI (pstI (v 0) s i))), (4, .int (nI i + (1 : Int32)))] [] τ' (zpi φ) := by
      intro hg
      rw [i1]
      have e1 : pstI (v 0) s (i + 1) = pstI (v 0) s i := by unfold pstI; rw [foldl_rs, hg]; rfl
      have e2 : phpI (v 0) s (i + 1) = phpI (v 0) s i := by unfold phpI; rw [foldl_rs, hg]; rfl
      have := ih () τ' ⟨h.1, h.2.1, by rw [e2]; exact h.2.2⟩
      rw [e1] at this
      exact this
    refine sp_has (by omega) (by omega) (b_a (fun hb => stay (by simp [pgo, hb])) (fun hb => sp_has (by omega) (by omega) (b_b (fun hc => stay (by simp [pgo, hc])) (fun hc v2 hv2 => ?_))))
    have hg : pgo (v 0) s i = true := by simp [pgo, hb, hc]
    have e1 : pstI (v 0) s (i + 1) = pstI (v 0) s i ^^^ (2 ^ i ^^^ 2 ^ pnx (v 0) i) := by unfold pstI; rw [foldl_rs, hg]; rfl
    have e2 : phpI (v 0) s (i + 1) = phpI (v 0) s i + 1 := by unfold phpI; rw [foldl_rs, hg]; rfl
    rw [one_shl (by omega), one_shl (by omega), nx_xor, nx_xor, ← e1] at hv2
    subst hv2
    rw [i1]
    refine ih () _ ⟨h.1.I (by decide) (by decide), h.2.1, ?_⟩
    rw [zI_at, if_pos ⟨rfl, rfl⟩, h.2.2, i1, e2]
/-! m steps -/
def pit (n : Nat) : Nat → Nat → Nat
  | 0, s => s
  | m + 1, s => pstep n (pit n m s)
theorem pit_lt {n s : Nat} (h1 : 1 ≤ n) (hn : n ≤ 6) (hs : s < 2 ^ n) : ∀ m, pit n m s < 2 ^ n := by
  intro m
  induction m with
  | zero => exact hs
  | succ m ih => exact (tb_step n (by omega) h1 _ ih).2
theorem sp_after {n s m : Nat} (h1 : 1 ≤ n) (hn : n ≤ 6) (hs : s < 2 ^ n) (hm : m ≤ 1000) (H : φ (nI (pit n m s)) τ) : zCall G MX6_after [.int (nI s), .int (nI m), .int (nI n)] τ (zpi φ) := by
  refine C_X6_after _ _ _ τ ?_
  have key : ∀ k i, i + k = m → zRun G MX6_after 5 [(1, .int (nI m)), (2, .int (nI n)), (3, .int (nI (pit n i s))), (4, .int (nI i))] [] τ (zpi φ) := by
    intro k
    induction k with
    | zero =>
      intro i e
      have : i = m := by omega
      subst this
      exact V_X6_after_5 _ _ _ _ τ ⟨fun _ => pi_ok H, fun q => absurd (nI_le (Nat.le_refl _) (by omega)) q⟩
    | succ k ih =>
      intro i e
      refine V_X6_after_5 _ _ _ _ τ ⟨fun q => absurd q (nI_ge (by omega) (by omega)), fun _ => sp_step h1 hn (pit_lt h1 hn hs i) ?_⟩
      rw [i1]
      exact ih (i + 1) (by omega)
  exact key m 0 (by omega)
theorem sp_matOnce {v : Nat → Nat} (hL : LM v τ) {s m : Nat} (hs : s < 2 ^ v 0) (hm : m ≤ 1000) (H : ∀ τ', Sk [29] τ τ' → φ (nI (pit (v 0) m s)) τ') : zRun G MX12_atOnce 37 [(0, .ref 29), (2, .int (nI m)), (3, .int (nI s)), (4, .int (0 : Int32))] [] τ (zpi φ) := by
  have hn := hL.1.n
  refine lp (α := Unit) (fun i _ τ' => zRun G MX12_atOnce 37 [(0, .ref 29), (2, .int (nI m)), (3, .int (nI (pit (v 0) i s))), (4, .int (nI i))] [] τ' (zpi φ)) (fun i _ τ' => Sk [29] τ τ') m ?_ ?_ 0 () _ (Nat.zero_le _) Sk.rf
  · intro _ τ' h
    exact V_X12_atOnce_37 _ _ _ τ' ⟨fun _ => pi_ok (H τ' h), fun q => absurd (nI_le (Nat.le_refl _) (by omega)) q⟩
  · intro i _ τ' hi h ih
    refine V_X12_atOnce_37 _ _ _ τ' ⟨fun q => absurd q (nI_ge hi (by omega)), fun _ => sp_onceMore (hL.sk h (by decide)) (pit_lt hn.1 hn.2 hs i) (fun τ2 h2 _ _ => ?_)⟩
    rw [i1]
    exact ih () _ (h.tr h2)
end RG
theorem pair_atOnce {G : hz_G} {τ : hz_T} (hI : Inv τ) (x0 : Int32) (x1 : Int32) : PI G MX11_atOnce MX12_atOnce [.ref 0, .int x0, .int x1] [.ref 29, .int x0, .int x1] τ := by
  obtain ⟨v, hl, -⟩ := id hI
  have hn := hl.1.n
  have e1 : (1000 : Int32).toInt = 1000 := by decide
  have e2 : (1000 : Int64).toInt = 1000 := by decide
  refine C_X11_atOnce x0 x1 τ (sp_cisState hl.c (b_a (fun hs => pi_ok ?_) (fun hs => sp_within ?_)))
  · exact C_X12_atOnce x0 x1 τ (sp_misState hl.m (b_a (fun _ => pi_ok ⟨rfl, hI⟩) (fun h => absurd h hs)))
  rw [t0', e1]
  refine b_b (fun hm => sp_copen hl.c (b_a (fun ho => ?_) (fun ho => pi_ok ?_))) (fun hm => pi_ok ?_)
  · obtain ⟨s, hs', rfl⟩ := st_of hs
    obtain ⟨m, hm', rfl⟩ := of_range (n := 1001) hm.1 (by omega)
    refine sp_cplaces hl.c (sp_after hn.1 hn.2 hs' (by omega) (pi_ok ?_))
    refine C_X12_atOnce _ _ τ (sp_misState hl.m (b_a (fun h => absurd hs h) (fun _ => sp_in ?_)))
    rw [t0, e2, i64]
    exact b_b (fun _ => sp_mopen hl.m (b_a (fun _ => sp_matOnce hl.m hs' (by omega) (fun τ' h' => ⟨rfl, inv_sk hI h' (by decide)⟩)) (fun h => absurd h ho))) (fun h => absurd hm h)
  · refine C_X12_atOnce _ _ τ (sp_misState hl.m (b_a (fun h => absurd hs h) (fun _ => sp_in ?_)))
    rw [t0, e2, i64]
    exact b_b (fun _ => sp_mopen hl.m (b_a (fun h => absurd ho h) (fun _ => pi_ok ⟨rfl, hI⟩))) (fun h => absurd hm h)
  · refine C_X12_atOnce _ _ τ (sp_misState hl.m (b_a (fun h => absurd hs h) (fun _ => sp_in ?_)))
    rw [t0, e2, i64]
    exact b_b (fun h => absurd h hm) (fun _ => pi_ok ⟨rfl, hI⟩)

/-! words of three kinds -/
def kd (w j : Nat) : Nat := w / 3 ^ j % 3
def kpI (w c : Nat) : Nat → Nat
  | 0 => 0
  | k + 1 => if kd w k = c then kpI w c k ||| 2 ^ k else kpI w c k
def knI (w c : Nat) : Nat → Nat
  | 0 => 0
  | k + 1 => knI w c k + (if kd w k = c then 1 else 0)
def kbI (w : Nat) : Nat → Nat
  | 0 => 0
  | k + 1 => kbI w k ||| (if kd w k = 0 then 0 else 2 ^ k)
def scn (n f b : Nat) : Nat → Nat
  | 0 => 0
  | k + 1 => scn n f b k + (if ppop k = ppop f ∧ b ^^^ vlf n k b n = f then 1 else 0)
theorem tb_kp : ∀ n, n < 7 → ∀ w, w < 3 ^ n → ∀ c, c < 3 → kpI w c n < 2 ^ n ∧ ∀ i, i < n → (kpI w c n).testBit i = decide (kd w i = c) := by decide +kernel
theorem tb_kb : ∀ n, n < 7 → ∀ w, w < 3 ^ n → kbI w n < 2 ^ n ∧ (∀ i, i < n → (kbI w n).testBit i = decide (¬ kd w i = 0)) ∧ knI w 1 n = ppopI (kpI w 1 n) 6 ∧ knI w 2 n = ppopI (kpI w 2 n) 6 ∧ ppopI (kpI w 1 n) 6 ≤ ppopI (kbI w n) 6 ∧ vhor (kd w) n n = w ∧ nI (kpI w 1 n) ||| nI (kpI w 2 n) = nI (kbI w n) := by decide +kernel
theorem tb_d3 : ∀ x, x < 27 → ∀ y, y < 27 → nI (27 * x + y) / (3 : Int32) = nI ((27 * x + y) / 3) ∧ nI (27 * x + y) - nI (27 * x + y) / (3 : Int32) * (3 : Int32) = nI ((27 * x + y) % 3) := by decide +kernel
theorem d3 {a : Nat} (h : a < 729) : nI a / (3 : Int32) = nI (a / 3) ∧ nI a - nI a / (3 : Int32) * (3 : Int32) = nI (a % 3) := by
  have := tb_d3 (a / 27) (by omega) (a % 27) (by omega)
  rwa [Nat.div_add_mod] at this
theorem tb_orb : ∀ r, r < 64 → ∀ i, i < 6 → nI r ||| nI (2 ^ i) = nI (r ||| 2 ^ i) ∧ nI r ||| (0 : Int32) = nI (r ||| 0) := by decide +kernel
theorem p3 {n : Nat} (h : n ≤ 6) : 1 ≤ 3 ^ n ∧ 3 ^ n ≤ 729 := ⟨Nat.pos_of_ne_zero (by simp), Nat.pow_le_pow_right (n := 3) (by decide) h⟩
theorem kd_lt (w j : Nat) : kd w j < 3 := Nat.mod_lt _ (by decide)
theorem vkd_lt (b l j : Nat) : vkd b l j < 3 := by unfold vkd; split <;> (try split) <;> omega
theorem kpI_lt {w c : Nat} : ∀ k, kpI w c k < 2 ^ k := by
  intro k
  induction k with
  | zero => exact Nat.one_pos
  | succ k ih =>
    have h1 : 2 ^ k < 2 ^ (k + 1) := Nat.pow_lt_pow_right (by decide) (by omega)
    unfold kpI
    split
    · exact Nat.or_lt_two_pow (by omega) h1
    · omega
theorem kbI_lt {w : Nat} : ∀ k, kbI w k < 2 ^ k := by
  intro k
  induction k with
  | zero => exact Nat.one_pos
  | succ k ih =>
    have h1 : 2 ^ k < 2 ^ (k + 1) := Nat.pow_lt_pow_right (by decide) (by omega)
    unfold kbI
    refine Nat.or_lt_two_pow (by omega) ?_
    split <;> omega
theorem vhor_inj {K K' : Nat → Nat} {n : Nat} (h1 : ∀ i, K i < 3) (h2 : ∀ i, K' i < 3) : ∀ t, t ≤ n → vhor K n t = vhor K' n t → ∀ i, n - t ≤ i → i < n → K i = K' i := by
  intro t
  induction t with
  | zero => intro _ _ i a b; omega
  | succ t ih =>
    intro ht e i a b
    have e : 3 * vhor K n t + K (n - (t + 1)) = 3 * vhor K' n t + K' (n - (t + 1)) := e
    have a1 := h1 (n - (t + 1))
    have a2 := h2 (n - (t + 1))
    by_cases hi : i = n - (t + 1)
    · rw [hi]; omega
    · exact ih (by omega) (by omega) i (by omega) b
theorem vhor_cg {K K' : Nat → Nat} {n : Nat} (h : ∀ i, i < n → K i = K' i) : ∀ t, t ≤ n → vhor K n t = vhor K' n t := by
  intro t
  induction t with
  | zero => intro _; rfl
  | succ t ih =>
    intro ht
    show 3 * vhor K n t + K (n - (t + 1)) = 3 * vhor K' n t + K' (n - (t + 1))
    rw [ih (by omega), h _ (by omega)]
theorem see_eq {n w l : Nat} (hn : n ≤ 6) (hw : w < 3 ^ n) (hl : l < 2 ^ n) (hs : l &&& kbI w n = l) : vhor (vkd (kbI w n) l) n n = w ↔ kbI w n ^^^ l = kpI w 1 n := by
  obtain ⟨f1, f2⟩ := tb_kp n (by omega) w hw 1 (by decide)
  obtain ⟨b1, b2, -, -, -, b6, -⟩ := tb_kb n (by omega) w hw
  have sub : ∀ i, l.testBit i = true → (kbI w n).testBit i = true := by
    intro i h
    rw [← hs, Nat.testBit_and, Bool.and_eq_true] at h
    exact h.2
  generalize kbI w n = b at *
  generalize kpI w 1 n = f at *
  constructor
  · intro e
    have hd : ∀ i, i < n → vkd b l i = kd w i := fun i hi => vhor_inj (vkd_lt b l) (kd_lt w) n (Nat.le_refl _) (e.trans b6.symm) i (by omega) hi
    apply Nat.eq_of_testBit_eq
    intro i
    rw [Nat.testBit_xor]
    by_cases hi : i < n
    · have h := hd i hi
      have h2 := f2 i hi
      have h3 := sub i
      rw [h2, ← h]
      unfold vkd
      cases hb : b.testBit i <;> cases hl' : l.testBit i
      · decide
      · rw [hb] at h3; exact absurd (h3 hl') (by decide)
      · decide
      · decide
    · have hp : 2 ^ n ≤ 2 ^ i := Nat.pow_le_pow_right (by decide) (by omega)
      rw [Nat.testBit_lt_two_pow (by omega), Nat.testBit_lt_two_pow (by omega), Nat.testBit_lt_two_pow (by omega)]
      rfl
  · intro e
    rw [← b6]
    refine (vhor_cg (fun i hi => ?_) n (Nat.le_refl _)).trans b6.symm.symm |>.trans b6.symm
    have h2 := f2 i hi
    have h3 := sub i
    have h4 := b2 i hi
    have h5 := kd_lt w i
    rw [← e, Nat.testBit_xor, h4] at h2
    unfold vkd
    rw [h4]
    rcases (show kd w i = 0 ∨ kd w i = 1 ∨ kd w i = 2 by omega) with q | q | q
    · rw [q]; rfl
    · rw [q] at h2 ⊢
      cases hl' : l.testBit i
      · decide
      · rw [hl'] at h2; exact absurd h2 (by decide)
    · rw [q] at h2 ⊢
      cases hl' : l.testBit i
      · rw [hl'] at h2; exact absurd h2 (by decide)
      · decide
section SN
variable {G : hz_G} {τ : hz_T} {φ : Int32 → hz_T → Prop}
theorem sp_isWord {n : Nat} (hn : n ≤ 6) {x : Int32} (H : φ (if 0 ≤ x.toInt ∧ x.toInt < (3 ^ n : Nat) then 1 else 0) τ) : zCall G MX0_isWord [.int x, .int (nI n)] τ (zpi φ) := by
  refine C_X0_isWord _ _ τ ?_
  have hp := p3 hn
  have key : ∀ m k, k + m = n → zRun G MX0_isWord 4 [(0, .int x), (1, .int (nI n)), (2, .int (nI (3 ^ k))), (3, .int (nI k))] [] τ (zpi φ) := by
    intro m
    induction m with
    | zero =>
      intro k e
      have e : k = n := by omega
      rw [e]
      refine V_X0_isWord_4 _ _ _ _ τ ⟨fun _ => pi_ok ?_, fun q => absurd (nI_le (Nat.le_refl _) (by omega)) q⟩
      have h1 : x < 0 ↔ x.toInt < 0 := Int32.lt_iff_toInt_lt
      have h2 : nI (3 ^ n) ≤ x ↔ ((3 ^ n : Nat) : Int) ≤ x.toInt := by rw [Int32.le_iff_toInt_le, nI_toInt (by omega)]
      by_cases q : x.toInt < 0
      · rw [if_pos (h1.2 q)]
        rw [if_neg (by omega)] at H
        exact H
      · rw [if_neg (fun z => q (h1.1 z))]
        by_cases q2 : ((3 ^ n : Nat) : Int) ≤ x.toInt
        · rw [if_pos (h2.2 q2)]
          rw [if_neg (by omega)] at H
          exact H
        · rw [if_neg (fun z => q2 (h2.1 z))]
          rw [if_pos (by omega)] at H
          exact H
    | succ m ih =>
      intro k e
      refine V_X0_isWord_4 _ _ _ _ τ ⟨fun q => absurd q (nI_ge (by omega) (by omega)), fun _ => ?_⟩
      rw [kx_3, nI_mul', i1]
      exact ih (k + 1) (by omega)
  exact key n 0 (by omega)
theorem sp_wordAll {v : Nat → Nat} (hL : LM v τ) (H : φ (nI (3 ^ v 0)) τ) : zCall G MX12_wordAll [.ref 29] τ (zpi φ) := by
  refine C_X12_wordAll τ ?_
  have hn := hL.1.n.2
  have key : ∀ m k, k + m = v 0 → zRun G MX12_wordAll 4 [(0, .ref 29), (1, .int (nI (3 ^ k))), (2, .int (nI k))] [] τ (zpi φ) := by
    intro m
    induction m with
    | zero =>
      intro k e
      have e : k = v 0 := by omega
      rw [e]
      exact V_X12_wordAll_4 _ _ τ (sp_mplaces hL ⟨fun _ => pi_ok H, fun q => absurd (nI_le (Nat.le_refl _) (by omega)) q⟩)
    | succ m ih =>
      intro k e
      refine V_X12_wordAll_4 _ _ τ (sp_mplaces hL ⟨fun q => absurd q (nI_ge (by omega) (by omega)), fun _ => ?_⟩)
      rw [kx_3, nI_mul', i1]
      exact ih (k + 1) (by omega)
  exact key (v 0) 0 (by omega)
theorem w_1 {n : Nat} (hn : n ≤ 6) : (nI (3 ^ n) - 1).toInt64.toInt = (3 ^ n : Nat) - 1 := by
  have := p3 hn
  rw [i64, kx_1, pk_sub_toInt (by omega) (by omega)]
  rfl
theorem dv3 {w k : Nat} : w / 3 ^ k / 3 = w / 3 ^ (k + 1) := by rw [Nat.div_div_eq_div_mul, Nat.pow_succ]
theorem dvle {w k : Nat} : w / 3 ^ k ≤ w := Nat.div_le_self _ _
theorem sp_placesOf {n w c : Nat} (hn : n ≤ 6) (hw : w < 3 ^ n) (hc : c < 3) (H : φ (nI (kpI w c n)) τ) : zCall G MX0_placesOf [.int (nI w), .int (nI c), .int (nI n)] τ (zpi φ) := by
  refine C_X0_placesOf _ _ _ τ ?_
  have hp := p3 hn
  have key : ∀ m k, k + m = n → zRun G MX0_placesOf 8 [(1, .int (nI c)), (2, .int (nI n)), (3, .int (nI (kpI w c k))), (4, .int (nI (w / 3 ^ k))), (5, .int (nI k))] [] τ (zpi φ) := by
    intro m
    induction m with
    | zero =>
      intro k e
      have e : k = n := by omega
      rw [e]
      exact V_X0_placesOf_8 _ _ _ _ _ τ ⟨fun _ => pi_ok H, fun q => absurd (nI_le (Nat.le_refl _) (by omega)) q⟩
    | succ m ih =>
      intro k e
      refine V_X0_placesOf_8 _ _ _ _ _ τ ⟨fun q => absurd q (nI_ge (by omega) (by omega)), fun _ => ?_⟩
      have hle := dvle (w := w) (k := k)
      obtain ⟨e1, e2⟩ := d3 (a := w / 3 ^ k) (by omega)
      have hk := kpI_lt (w := w) (c := c) k
      have h64 : 2 ^ k ≤ 2 ^ 6 := Nat.pow_le_pow_right (by decide) (by omega)
      have hm := kd_lt w k
      have h := ih (k + 1) (by omega)
      have ed : w / 3 ^ k % 3 = kd w k := rfl
      rw [e2, e1, dv3, i1, one_shl (by omega), (tb_orb _ (by omega) k (by omega)).1, ed]
      have es : (if nI (kd w k) = nI c then nI (kpI w c k ||| 2 ^ k) else nI (kpI w c k)) = nI (kpI w c (k + 1)) := by
        show _ = nI (if kd w k = c then kpI w c k ||| 2 ^ k else kpI w c k)
        by_cases q : kd w k = c
        · rw [if_pos (by rw [q]), if_pos q]
        · rw [if_neg (fun z => q ((nI_eq (by omega) (by omega)).1 z)), if_neg q]
      rw [es]
      exact h
  have := key n 0 (by omega)
  rwa [nI_0, show w / 3 ^ 0 = w from Nat.div_one w] at this
theorem sp_seenAs {n f s b : Nat} (hn : n ≤ 6) (hf : f < 2 ^ n) (hb : b < 2 ^ n) (eb : nI f ||| nI s = nI b) (hc : ppopI f 6 ≤ ppopI b 6) (H : φ (nI (scn n f b (2 ^ n))) τ) : zCall G MX0_seenAs [.int (nI f), .int (nI s), .int (nI n)] τ (zpi φ) := by
  have h64 : 2 ^ n ≤ 2 ^ 6 := Nat.pow_le_pow_right (by decide) hn
  refine C_X0_seenAs _ _ _ τ (sp_bc ?_)
  rw [bcf_eq (by omega)]
  have pf := ppop_le f
  have key : ∀ m k, k + m = 2 ^ n → zRun G MX0_seenAs 11 [(0, .int (nI f)), (1, .int (nI s)), (2, .int (nI n)), (3, .int (nI (scn n f b k))), (4, .int (nI (ppop f))), (5, .int (nI k))] [] τ (zpi φ) := by
    intro m
    induction m with
    | zero =>
      intro k e
      have e : k = 2 ^ n := by omega
      rw [e]
      refine V_X0_seenAs_11 _ _ _ _ _ _ τ ?_
      rw [pw_small n hn]
      exact ⟨fun _ => pi_ok H, fun q => absurd (nI_le (Nat.le_refl _) (by omega)) q⟩
    | succ m ih =>
      intro k e
      refine V_X0_seenAs_11 _ _ _ _ _ _ τ ?_
      rw [pw_small n hn]
      refine ⟨fun q => absurd q (nI_ge (by omega) (by omega)), fun _ => sp_bc ?_⟩
      have pk := ppop_le k
      have h := ih (k + 1) (by omega)
      have es : scn n f b (k + 1) = scn n f b k + (if ppop k = ppop f ∧ b ^^^ vlf n k b n = f then 1 else 0) := rfl
      rw [es] at h
      rw [bcf_eq (by omega), nI_eq (by omega) (by omega), i1, eb]
      refine ⟨fun q => ?_, fun q => ?_⟩
      · rw [if_neg (fun z => q z.1)] at h
        exact h
      · have ck : ppopI k 6 ≤ ppopI b 6 := by
          rw [← pop6 hn (show k < 2 ^ n by omega), q, pop6 hn hf]; exact hc
        refine sp_taken hn (by omega) hb ck ?_
        have hx := xor_lt hb (vlf_inv hn (show k < 2 ^ n by omega) hb ck n (Nat.le_refl _)).2.1
        by_cases z : b ^^^ vlf n k b n = f
        · rw [if_pos ⟨q, z⟩, ← i1] at h
          rw [if_pos (by rw [z])]
          exact h
        · rw [if_neg (fun y => z y.2)] at h
          rw [if_neg (fun y => z ((nI_eq (by omega) (by omega)).1 y))]
          exact h
  exact key (2 ^ n) 0 (by omega)
theorem sp_layKinds {v : Nat → Nat} {w : Nat} (hL : LM v τ) (hw : w < 3 ^ v 0) {ψ : hz_T → Prop} (H : ∀ τ', Sk [45] τ τ' → (∀ j, j < v 0 → τ'.1.1 45 j = nI (kd w j)) → ψ τ') : zCall G MX12_layKinds [.ref 29, .int (nI w)] τ (zpv ψ) := by
  refine C_X12_layKinds _ τ ?_
  have hn := hL.1.n.2
  have hp := p3 hn
  have key : ∀ m k τ1, k + m = v 0 → Sk [45] τ τ1 → (∀ j, j < k → τ1.1.1 45 j = nI (kd w j)) → zRun G MX12_layKinds 4 [(0, .ref 29), (2, .int (nI (w / 3 ^ k))), (3, .int (nI k))] [] τ1 (zpv ψ) := by
    intro m
    induction m with
    | zero =>
      intro k τ1 e hs hd
      have e : k = v 0 := by omega
      subst e
      exact V_X12_layKinds_4 _ _ τ1 (sp_mplaces (hL.sk hs (by decide)) ⟨fun _ => pv_ok (H τ1 hs hd), fun q => absurd (nI_le (Nat.le_refl _) (by omega)) q⟩)
    | succ m ih =>
      intro k τ1 e hs hd
      have hle := dvle (w := w) (k := k)
      obtain ⟨e1, e2⟩ := d3 (a := w / 3 ^ k) (by omega)
      have ed : w / 3 ^ k % 3 = kd w k := rfl
      refine V_X12_layKinds_4 _ _ τ1 (sp_mplaces (hL.sk hs (by decide)) ⟨fun q => absurd q (nI_ge (by omega) (by omega)), fun _ => ⟨k, rfl, by omega, ?_⟩⟩)
      rw [e2, e1, dv3, i1, ed]
      refine ih (k + 1) _ (by omega) (hs.I (by decide) ⟨fun z => absurd z.1 (by decide), fun z => absurd z.1 (by decide)⟩) (fun j hj => ?_)
      rw [zI_at]
      by_cases q : j = k
      · rw [if_pos ⟨rfl, q⟩, q]
      · rw [if_neg (fun z => q z.2)]
        exact hd j (by omega)
  have := key (v 0) 0 τ (by omega) Sk.rf (fun j hj => absurd hj (by omega))
  rwa [nI_0, show w / 3 ^ 0 = w from Nat.div_one w] at this
theorem sp_manyOf {v : Nat → Nat} {w c : Nat} (hL : LM v τ) (hc : c < 3) (hd : ∀ j, j < v 0 → τ.1.1 45 j = nI (kd w j)) (H : φ (nI (knI w c (v 0))) τ) : zCall G MX12_manyOf [.ref 29, .int (nI c)] τ (zpi φ) := by
  refine C_X12_manyOf _ τ ?_
  have hn := hL.1.n.2
  have key : ∀ m k, k + m = v 0 → zRun G MX12_manyOf 4 [(0, .ref 29), (1, .int (nI c)), (2, .int (nI (knI w c k))), (3, .int (nI k))] [] τ (zpi φ) := by
    intro m
    induction m with
    | zero =>
      intro k e
      have e : k = v 0 := by omega
      rw [e]
      exact V_X12_manyOf_4 _ _ _ τ (sp_mplaces hL ⟨fun _ => pi_ok H, fun q => absurd (nI_le (Nat.le_refl _) (by omega)) q⟩)
    | succ m ih =>
      intro k e
      refine V_X12_manyOf_4 _ _ _ τ (sp_mplaces hL ⟨fun q => absurd q (nI_ge (by omega) (by omega)), fun _ => ⟨k, rfl, by omega, fun x hx => ?_⟩⟩)
      have hm := kd_lt w k
      have h := ih (k + 1) (by omega)
      have es : knI w c (k + 1) = knI w c k + (if kd w k = c then 1 else 0) := rfl
      rw [es] at h
      rw [hx, hd k (by omega), i1]
      by_cases q : kd w k = c
      · rw [if_pos q, ← nI_add, ← kx_1] at h
        rw [if_pos (by rw [q])]
        exact h
      · rw [if_neg q, ← nI_add, nI_0] at h
        rw [if_neg (fun z => q ((nI_eq (by omega) (by omega)).1 z))]
        exact h
  exact key (v 0) 0 (by omega)
theorem sp_seenOf {v : Nat → Nat} {w : Nat} (hL : LM v τ) (hw : w < 3 ^ v 0) (H : ∀ τ', Sk [45] τ τ' → φ (nI (scn (v 0) (kpI w 1 (v 0)) (kbI w (v 0)) (2 ^ v 0))) τ') : zCall G MX12_seenOf [.ref 29, .int (nI w)] τ (zpi φ) := by
  have hn := hL.1.n.2
  have h64 : 2 ^ v 0 ≤ 2 ^ 6 := Nat.pow_le_pow_right (by decide) hn
  have hp := p3 hn
  refine C_X12_seenOf _ τ (sp_layKinds hL hw (fun τ1 hs hd => ?_))
  have hL1 := hL.sk hs (by decide)
  obtain ⟨b1, b2, b3, -, b5, b6, b7⟩ := tb_kb (v 0) (by omega) w hw
  have f1 := kpI_lt (w := w) (c := 1) (v 0)
  have second : ∀ m k, k + m = 2 ^ v 0 → zRun G MX12_seenOf 54 [(0, .ref 29), (1, .int (nI w)), (2, .int (nI (kbI w (v 0)))), (3, .int (nI (knI w 1 (v 0)))), (4, .int (nI (scn (v 0) (kpI w 1 (v 0)) (kbI w (v 0)) k))), (5, .int (nI k))] [] τ1 (zpi φ) := by
    have e3 : knI w 1 (v 0) = ppop (kpI w 1 (v 0)) := by rw [b3, pop6 hn f1]
    rw [e3]
    have pf := ppop_le (kpI w 1 (v 0))
    intro m
    induction m with
    | zero =>
      intro k e
      have e : k = 2 ^ v 0 := by omega
      rw [e]
      exact V_X12_seenOf_54 _ _ _ _ _ τ1 (sp_mstates hL1 ⟨fun _ => pi_ok (H τ1 hs), fun q => absurd (nI_le (Nat.le_refl _) (by omega)) q⟩)
    | succ m ih =>
      intro k e
      have pk := ppop_le k
      have h := ih (k + 1) (by omega)
      have es : scn (v 0) (kpI w 1 (v 0)) (kbI w (v 0)) (k + 1) = scn (v 0) (kpI w 1 (v 0)) (kbI w (v 0)) k + (if ppop k = ppop (kpI w 1 (v 0)) ∧ kbI w (v 0) ^^^ vlf (v 0) k (kbI w (v 0)) (v 0) = kpI w 1 (v 0) then 1 else 0) := rfl
      rw [es] at h
      refine V_X12_seenOf_54 _ _ _ _ _ τ1 (sp_mstates hL1 ⟨fun q => absurd q (nI_ge (by omega) (by omega)), fun _ => ?_⟩)
      rw [toI64 (by omega)]
      refine sp_sizeOf (by omega) ?_
      rw [nI_eq (by omega) (by omega), i1]
      refine ⟨fun q => ?_, fun q => ?_⟩
      · rw [if_neg (fun z => q z.1), ← nI_add, nI_0] at h
        exact h
      · have ck : ppopI k 6 ≤ ppopI (kbI w (v 0)) 6 := by
          rw [← pop6 hn (show k < 2 ^ v 0 by omega), q, pop6 hn f1]; exact b5
        obtain ⟨-, l2, l3, -⟩ := vlf_inv hn (show k < 2 ^ v 0 by omega) b1 ck (v 0) (Nat.le_refl _)
        refine sp_viewOf hL1 (by omega) b1 ck (fun x hx => ?_)
        rw [hx]
        have se := see_eq hn hw l2 l3
        have bd : vhor (vkd (kbI w (v 0)) (vlf (v 0) k (kbI w (v 0)) (v 0))) (v 0) (v 0) < 2 ^ 31 := by
          have : ∀ t, t ≤ 6 → vhor (vkd (kbI w (v 0)) (vlf (v 0) k (kbI w (v 0)) (v 0))) (v 0) t < 3 ^ t := by
            intro t
            induction t with
            | zero => intro _; exact Nat.one_pos
            | succ t iht =>
              intro ht
              have i := iht (by omega)
              have := vkd_lt (kbI w (v 0)) (vlf (v 0) k (kbI w (v 0)) (v 0)) (v 0 - (t + 1))
              show 3 * vhor (vkd (kbI w (v 0)) (vlf (v 0) k (kbI w (v 0)) (v 0))) (v 0) t + vkd (kbI w (v 0)) (vlf (v 0) k (kbI w (v 0)) (v 0)) (v 0 - (t + 1)) < 3 ^ (t + 1)
              rw [Nat.pow_succ]
              omega
          have := this (v 0) hn
          omega
        by_cases z : kbI w (v 0) ^^^ vlf (v 0) k (kbI w (v 0)) (v 0) = kpI w 1 (v 0)
        · rw [if_pos ⟨q, z⟩, ← nI_add, ← kx_1] at h
          rw [if_pos (by rw [se.2 z])]
          exact h
        · rw [if_neg (fun y => z y.2), ← nI_add, nI_0] at h
          rw [if_neg (fun y => z (se.1 ((nI_eq bd (by omega)).1 y)))]
          exact h
  have first : ∀ m k, k + m = v 0 → zRun G MX12_seenOf 9 [(0, .ref 29), (1, .int (nI w)), (2, .int (nI (kbI w k))), (3, .int (nI k))] [] τ1 (zpi φ) := by
    intro m
    induction m with
    | zero =>
      intro k e
      have e : k = v 0 := by omega
      rw [e]
      refine V_X12_seenOf_9 _ _ _ τ1 (sp_mplaces hL1 ⟨fun _ => ?_, fun q => absurd (nI_le (Nat.le_refl _) (by omega)) q⟩)
      exact sp_manyOf hL1 (by decide) hd (second (2 ^ v 0) 0 (by omega))
    | succ m ih =>
      intro k e
      have hk := kbI_lt (w := w) k
      have hk6 : 2 ^ k ≤ 2 ^ 6 := Nat.pow_le_pow_right (by decide) (by omega)
      have hm := kd_lt w k
      have h := ih (k + 1) (by omega)
      refine V_X12_seenOf_9 _ _ _ τ1 (sp_mplaces hL1 ⟨fun q => absurd q (nI_ge (by omega) (by omega)), fun _ => ⟨k, rfl, by omega, fun x hx => ?_⟩⟩)
      have es : kbI w (k + 1) = kbI w k ||| (if kd w k = 0 then 0 else 2 ^ k) := rfl
      rw [es] at h
      obtain ⟨o1, o2⟩ := tb_orb (kbI w k) (by omega) k (by omega)
      rw [hx, hd k (by omega), i1, one_shl (by omega)]
      by_cases q : kd w k = 0
      · rw [if_pos q, ← o2] at h
        rw [if_pos ((nI_lz (by omega)).2 q)]
        exact h
      · rw [if_neg q, ← o1] at h
        rw [if_neg (fun z => q ((nI_lz (by omega)).1 z))]
        exact h
  exact first (v 0) 0 (by omega)
end SN
theorem pair_seen {G : hz_G} {τ : hz_T} (hI : Inv τ) (x0 : Int32) : PI G MX11_seen MX12_seen [.ref 0, .int x0] [.ref 29, .int x0] τ := by
  obtain ⟨v, hv⟩ := hI.to
  have hl := hv.1
  have hn := hl.1.n
  have hp := p3 hn.2
  refine C_X11_seen x0 τ (sp_cplaces hl.c (sp_isWord hn.2 (b_b (fun hw => ?_) (fun hw => pi_ok ?_))))
  · obtain ⟨w, hw', rfl⟩ := of_range (n := 3 ^ v 0) hw.1 (by omega)
    obtain ⟨b1, b2, b3, -, b5, b6, b7⟩ := tb_kb (v 0) (by omega) w hw'
    refine sp_placesOf hn.2 hw' (c := 1) (by decide) (sp_placesOf hn.2 hw' (c := 2) (by decide) (sp_seenAs hn.2 (kpI_lt _) b1 b7 b5 (pi_ok ?_)))
    refine C_X12_seen _ τ (sp_wordAll hl.m (sp_in ?_))
    rw [t0, i64, w_1 hn.2]
    exact b_a (fun h => absurd ⟨hw.1, by omega⟩ h) (fun _ => sp_seenOf hl.m hw' (fun τ2 hs => pi_ok ⟨rfl, (hv.sk hs (by decide)).of⟩))
  · refine C_X12_seen _ τ (sp_wordAll hl.m (sp_in ?_))
    rw [t0, i64, w_1 hn.2]
    exact b_a (fun _ => pi_ok ⟨rfl, hI⟩) (fun h => absurd ⟨h.1, by omega⟩ hw)

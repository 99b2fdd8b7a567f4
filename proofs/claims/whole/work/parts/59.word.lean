/-! what a word tells -/
def chg (x y : Nat) : Bool := (x == 1 && y != 1) || (x == 2 && y == 0)
def hoI (n w : Nat) : Nat → Nat
  | 0 => 0
  | k + 1 => hoI n w k + (if chg (kd w k) (kd w (pnx n k)) = true then 1 else 0)
def ksw (w i j p : Nat) : Nat := if p = j then kd w i else if p = i then kd w j else kd w p
def kwd (n w i : Nat) : Nat := vhor (ksw w i (pnx n i)) n n
def pch (r i j : Nat) : Nat := if r.testBit i = r.testBit j then r else r ^^^ (2 ^ i ||| 2 ^ j)
def scw (n w : Nat) : Nat := scn n (kpI w 1 n) (kbI w n) (2 ^ n)
def sbI (n w : Nat) : Nat → Nat
  | 0 => 0
  | k + 1 => sbI n w k + (if chg (kd w (pnx n k)) (kd w k) = true then scw n (kwd n w k) else 0)
theorem tb_chg : ∀ x, x < 3 → ∀ y, y < 3 → (if nI x = (1 : Int32) then (if nI y = (1 : Int32) then (if nI x = (2 : Int32) then (if nI y = 0 then (1 : Int32) else (0 : Int32)) else (0 : Int32)) else (1 : Int32)) else (if nI x = (2 : Int32) then (if nI y = 0 then (1 : Int32) else (0 : Int32)) else (0 : Int32))) = (if chg x y = true then (1 : Int32) else 0) := by decide +kernel
theorem tb_sw : ∀ n, n < 7 → ∀ w, w < 3 ^ n → ∀ i, i < n → kwd n w i < 3 ^ n ∧ pch (kpI w 1 n) i (pnx n i) = kpI (kwd n w i) 1 n ∧ pch (kpI w 2 n) i (pnx n i) = kpI (kwd n w i) 2 n := by decide +kernel
section WD
variable {G : hz_G} {τ : hz_T} {φ : Int32 → hz_T → Prop}
theorem sp_hops {x y : Nat} (hx : x < 3) (hy : y < 3) (H : φ (if chg x y = true then 1 else 0) τ) : zCall G MX0_hops [.int (nI x), .int (nI y)] τ (zpi φ) := by
  refine C_X0_hops _ _ τ (pi_ok ?_)
  rw [tb_chg x hx y hy]; exact H
theorem sp_change {x y : Nat} (hx : x < 3) (hy : y < 3) (H : φ (if chg x y = true then 1 else 0) τ) : zCall G MX12_change [.int (nI x), .int (nI y)] τ (zpi φ) := by
  refine C_X12_change _ _ τ (pi_ok ?_)
  rw [tb_chg x hx y hy]; exact H
theorem sp_kindAt {n w i : Nat} (hn : n ≤ 6) (hw : w < 3 ^ n) (hi : i < n) (H : φ (nI (kd w i)) τ) : zCall G MX0_kindAt [.int (nI (kpI w 1 n)), .int (nI (kpI w 2 n)), .int (nI i)] τ (zpi φ) := by
  have h64 : 2 ^ n ≤ 2 ^ 6 := Nat.pow_le_pow_right (by decide) hn
  obtain ⟨f1, f2⟩ := tb_kp n (by omega) w hw 1 (by decide)
  obtain ⟨s1, s2⟩ := tb_kp n (by omega) w hw 2 (by decide)
  refine C_X0_kindAt _ _ _ τ (pi_ok ?_)
  rw [has_bit (by omega) (by omega), has_bit (by omega) (by omega), f2 i hi, s2 i hi]
  have h := kd_lt w i
  have e : (if decide (kd w i = 1) = true then (1 : Int32) else 0) + 2 * (if decide (kd w i = 2) = true then (1 : Int32) else 0) = nI (kd w i) := by
    rcases (show kd w i = 0 ∨ kd w i = 1 ∨ kd w i = 2 by omega) with q | q | q <;> rw [q] <;> decide
  rw [e]; exact H
theorem sp_nextPlace {n i : Nat} (hn : n ≤ 6) (hi : i < n) (H : φ (nI (pnx n i)) τ) : zCall G MX0_nextPlace [.int (nI i), .int (nI n)] τ (zpi φ) := by
  refine C_X0_nextPlace _ _ τ (pi_ok ?_)
  rw [i1]
  unfold pnx at H
  by_cases q : i + 1 = n
  · rw [if_pos q, nI_0] at H
    rw [if_pos (by rw [q])]; exact H
  · rw [if_neg q] at H
    rw [if_neg (fun z => q ((nI_eq (by omega) (by omega)).1 z))]; exact H
theorem sp_behind {v : Nat → Nat} {i : Nat} (hL : LM v τ) (hi : i < v 0) (H : φ (nI (pnx (v 0) i)) τ) : zCall G MX12_behind [.ref 29, .int (nI i)] τ (zpi φ) := by
  refine C_X12_behind _ τ (sp_mplaces hL (pi_ok ?_))
  rw [i1, nxt_eq hL.1.n.2 hi]; exact H
theorem sp_hopsOut {n w : Nat} (hn : n ≤ 6) (hw : w < 3 ^ n) (H : φ (nI (hoI n w n)) τ) : zCall G MX0_hopsOut [.int (nI (kpI w 1 n)), .int (nI (kpI w 2 n)), .int (nI n)] τ (zpi φ) := by
  refine C_X0_hopsOut _ _ _ τ ?_
  have key : ∀ m k, k + m = n → zRun G MX0_hopsOut 5 [(0, .int (nI (kpI w 1 n))), (1, .int (nI (kpI w 2 n))), (2, .int (nI n)), (3, .int (nI (hoI n w k))), (4, .int (nI k))] [] τ (zpi φ) := by
    intro m
    induction m with
    | zero =>
      intro k e
      have e : k = n := by omega
      rw [e]
      exact V_X0_hopsOut_5 _ _ _ _ _ τ ⟨fun _ => pi_ok H, fun q => absurd (nI_le (Nat.le_refl _) (by omega)) q⟩
    | succ m ih =>
      intro k e
      have h := ih (k + 1) (by omega)
      have es : hoI n w (k + 1) = hoI n w k + (if chg (kd w k) (kd w (pnx n k)) = true then 1 else 0) := rfl
      rw [es] at h
      refine V_X0_hopsOut_5 _ _ _ _ _ τ ⟨fun q => absurd q (nI_ge (by omega) (by omega)), fun _ => sp_kindAt hn hw (by omega) (sp_nextPlace hn (by omega) (sp_kindAt hn hw (pnx_lt (by omega)) (sp_hops (kd_lt _ _) (kd_lt _ _) ?_)))⟩
      rw [i1 k]
      by_cases q : chg (kd w k) (kd w (pnx n k)) = true
      · rw [if_pos q, ← i1 (hoI n w k)] at h
        rw [if_pos q, if_neg (by decide)]; exact h
      · rw [if_neg q] at h
        rw [if_neg q, if_pos rfl]; exact h
  exact key n 0 (by omega)
theorem sp_changed {r i j : Nat} (hr : r < 64) (hi : i < 6) (hj : j < 6) (H : φ (nI (pch r i j)) τ) : zCall G MX0_changed [.int (nI r), .int (nI i), .int (nI j)] τ (zpi φ) := by
  refine C_X0_changed _ _ _ τ (fun x hx => pi_ok ?_)
  rw [hx, has_bit (by omega) (by omega), has_bit (by omega) (by omega), (tb_or i hi j hj).1, nx_xor]
  unfold pch at H
  have eq : ((if r.testBit i = true then (1 : Int32) else 0) = (if r.testBit j = true then (1 : Int32) else 0)) ↔ r.testBit i = r.testBit j := by
    cases r.testBit i <;> cases r.testBit j <;> decide
  by_cases q : r.testBit i = r.testBit j
  · rw [if_pos q] at H
    rw [if_pos (eq.2 q), if_neg (by decide)]; exact H
  · rw [if_neg q] at H
    rw [if_neg (fun z => q (eq.1 z)), if_pos rfl]; exact H
theorem sp_seenBefore {n w : Nat} (hn : n ≤ 6) (hw : w < 3 ^ n) (H : φ (nI (sbI n w n)) τ) : zCall G MX0_seenBefore [.int (nI (kpI w 1 n)), .int (nI (kpI w 2 n)), .int (nI n)] τ (zpi φ) := by
  have h64 : 2 ^ n ≤ 2 ^ 6 := Nat.pow_le_pow_right (by decide) hn
  have f1 := kpI_lt (w := w) (c := 1) n
  have s1 := kpI_lt (w := w) (c := 2) n
  refine C_X0_seenBefore _ _ _ τ ?_
  have key : ∀ m k, k + m = n → zRun G MX0_seenBefore 5 [(0, .int (nI (kpI w 1 n))), (1, .int (nI (kpI w 2 n))), (2, .int (nI n)), (3, .int (nI (sbI n w k))), (4, .int (nI k))] [] τ (zpi φ) := by
    intro m
    induction m with
    | zero =>
      intro k e
      have e : k = n := by omega
      rw [e]
      exact V_X0_seenBefore_5 _ _ _ _ _ τ ⟨fun _ => pi_ok H, fun q => absurd (nI_le (Nat.le_refl _) (by omega)) q⟩
    | succ m ih =>
      intro k e
      have h := ih (k + 1) (by omega)
      have es : sbI n w (k + 1) = sbI n w k + (if chg (kd w (pnx n k)) (kd w k) = true then scw n (kwd n w k) else 0) := rfl
      rw [es] at h
      have hx : pnx n k < n := pnx_lt (by omega)
      refine V_X0_seenBefore_5 _ _ _ _ _ τ ⟨fun q => absurd q (nI_ge (by omega) (by omega)), fun _ => sp_nextPlace hn (by omega) (sp_kindAt hn hw hx (sp_kindAt hn hw (by omega) (sp_hops (kd_lt _ _) (kd_lt _ _) (b_a (fun q => ?_) (fun q => sp_changed (by omega) (by omega) (by omega) (sp_changed (by omega) (by omega) (by omega) ?_))))))⟩
      · rw [if_neg q] at h
        rw [i1]; exact h
      · obtain ⟨w1, w2, w3⟩ := tb_sw n (by omega) w hw k (by omega)
        obtain ⟨b1, b2, b3, -, b5, b6, b7⟩ := tb_kb n (by omega) _ w1
        rw [w2, w3]
        refine sp_seenAs hn (kpI_lt _) b1 b7 b5 ?_
        rw [if_pos q, ← nI_add] at h
        rw [i1]; exact h
  exact key n 0 (by omega)
theorem sp_wordSeen {v : Nat → Nat} {w : Nat} (hL : LM v τ) (hw : w < 3 ^ v 0) (H : ∀ τ', Sk [45] τ τ' → φ (nI (sbI (v 0) w (v 0))) τ') : zCall G MX12_wordSeen [.ref 29, .int (nI w)] τ (zpi φ) := by
  have hn := hL.1.n.2
  refine C_X12_wordSeen _ τ ?_
  have key : ∀ m k τ1, k + m = v 0 → Sk [45] τ τ1 → zRun G MX12_wordSeen 4 [(0, .ref 29), (1, .int (nI w)), (2, .int (nI (sbI (v 0) w k))), (3, .int (nI k))] [] τ1 (zpi φ) := by
    intro m
    induction m with
    | zero =>
      intro k τ1 e hs
      have e : k = v 0 := by omega
      rw [e]
      exact V_X12_wordSeen_4 _ _ _ τ1 (sp_mplaces (hL.sk hs (by decide)) ⟨fun _ => pi_ok (H τ1 hs), fun q => absurd (nI_le (Nat.le_refl _) (by omega)) q⟩)
    | succ m ih =>
      intro k τ1 e hs
      have hx : pnx (v 0) k < v 0 := pnx_lt (by omega)
      have es : sbI (v 0) w (k + 1) = sbI (v 0) w k + (if chg (kd w (pnx (v 0) k)) (kd w k) = true then scw (v 0) (kwd (v 0) w k) else 0) := rfl
      have hL1 := hL.sk hs (by decide)
      refine V_X12_wordSeen_4 _ _ _ τ1 (sp_mplaces hL1 ⟨fun q => absurd q (nI_ge (by omega) (by omega)), fun _ => sp_layKinds hL1 hw (fun τ2 g1 g2 => sp_behind (hL1.sk g1 (by decide)) (by omega) ⟨pnx (v 0) k, rfl, by omega, k, rfl, by omega, ?_⟩)⟩)
      have hL2 := hL1.sk g1 (by decide)
      have hs2 := hs.tr g1
      rw [g2 _ hx, g2 k (by omega)]
      refine sp_change (kd_lt _ _) (kd_lt _ _) (b_a (fun q => ?_) (fun q => ⟨k, rfl, by omega, pnx (v 0) k, rfl, by omega, ?_⟩))
      · have h := ih (k + 1) τ2 (by omega) hs2
        rw [es, if_neg q] at h
        rw [i1]; exact h
      · have hs3 : Sk [45] τ (zI (zI τ2 45 k (nI (kd w (pnx (v 0) k)))) 45 (pnx (v 0) k) (nI (kd w k))) := (hs2.J (by decide) (by decide)).J (by decide) (by decide)
        have dg : ∀ p, p < v 0 → (zI (zI τ2 45 k (nI (kd w (pnx (v 0) k)))) 45 (pnx (v 0) k) (nI (kd w k))).1.1 45 p = nI (ksw w k (pnx (v 0) k) p) := by
          intro p hp
          rw [zI_at]
          unfold ksw
          by_cases z1 : p = pnx (v 0) k
          · rw [if_pos ⟨rfl, z1⟩, if_pos z1]
          · rw [if_neg (fun z => z1 z.2), if_neg z1, zI_at]
            by_cases z2 : p = k
            · rw [if_pos ⟨rfl, z2⟩, if_pos z2]
            · rw [if_neg (fun z => z2 z.2), if_neg z2]
              exact g2 p hp
        generalize zI (zI τ2 45 k (nI (kd w (pnx (v 0) k)))) 45 (pnx (v 0) k) (nI (kd w k)) = τ3 at *
        have hL3 := hL.sk hs3 (by decide)
        refine sp_mplaces hL3 ?_
        have inner : ∀ m t, t + m = v 0 → zRun G MX12_wordSeen 79 [(0, .ref 29), (1, .int (nI w)), (2, .int (nI (sbI (v 0) w k))), (3, .int (nI k)), (7, .int (nI (vhor (ksw w k (pnx (v 0) k)) (v 0) t))), (8, .int (nI m - 1))] [] τ3 (zpi φ) := by
          intro m
          induction m with
          | zero =>
            intro t e'
            have e' : t = v 0 := by omega
            rw [e']
            refine V_X12_wordSeen_79 _ _ _ _ _ τ3 ⟨fun _ => ?_, fun q => absurd (by decide) q⟩
            obtain ⟨w1, -, -⟩ := tb_sw (v 0) (by omega) w hw k (by omega)
            refine sp_seenOf hL3 (w := kwd (v 0) w k) w1 (fun τ4 g4 => ?_)
            have h := ih (k + 1) τ4 (by omega) (hs3.tr g4)
            rw [es, if_pos q, ← nI_add] at h
            rw [i1]; exact h
          | succ m ihm =>
            intro t e'
            obtain ⟨d1, d2, d3⟩ := tb_dn m (by omega)
            have h := ihm (t + 1) (by omega)
            have em : v 0 - (t + 1) = m := by omega
            have ev : vhor (ksw w k (pnx (v 0) k)) (v 0) (t + 1) = 3 * vhor (ksw w k (pnx (v 0) k)) (v 0) t + ksw w k (pnx (v 0) k) m := by
              show 3 * vhor (ksw w k (pnx (v 0) k)) (v 0) t + ksw w k (pnx (v 0) k) (v 0 - (t + 1)) = _
              rw [em]
            rw [ev, ← nI_add, ← nI_mul', ← kx_3] at h
            rw [d1]
            refine V_X12_wordSeen_79 _ _ _ _ _ τ3 ⟨fun q => absurd q d3, fun _ => ⟨m, rfl, by omega, ?_⟩⟩
            rw [d2, dg m (by omega)]; exact h
        exact inner (v 0) 0 (by omega)
  exact key (v 0) 0 τ (by omega) Sk.rf
theorem sp_m70 {v : Nat → Nat} {w : Nat} {x2 : Int32} (hL : LM v τ) (hd : ∀ j, j < v 0 → τ.1.1 45 j = nI (kd w j)) (H : ((¬ x2 = 0 → ((¬ x2 = (2 : Int32) → ((¬ x2 = (3 : Int32) → (∃ j107 : Nat, (x2 - (10 : Int32)) = nI j107 ∧ j107 < 6 ∧ zpi φ (some (.int (τ.1.1 45 j107))) τ)) ∧ (x2 = (3 : Int32) → zCall G MX12_manyOf [.ref 29, .int (2 : Int32)] τ (zpi (fun x109 τ110 => zpi φ (some (.int x109)) τ110))))) ∧ (x2 = (2 : Int32) → zCall G MX12_manyOf [.ref 29, .int (1 : Int32)] τ (zpi (fun x114 τ115 => zpi φ (some (.int x114)) τ115))))) ∧ (x2 = 0 → zpi φ (some (.int (nI (hoI (v 0) w (v 0))))) τ))) : zRun G MX12_word 70 [(0, .ref 29), (2, .int x2), (3, .int (0 : Int32)), (4, .int (0 : Int32))] [] τ (zpi φ) := by
  have hn := hL.1.n.2
  have key : ∀ m k, k + m = v 0 → zRun G MX12_word 70 [(0, .ref 29), (2, .int x2), (3, .int (nI (hoI (v 0) w k))), (4, .int (nI k))] [] τ (zpi φ) := by
    intro m
    induction m with
    | zero =>
      intro k e
      have e : k = v 0 := by omega
      rw [e]
      exact V_X12_word_70 _ _ _ τ (sp_mplaces hL ⟨fun _ => H, fun q => absurd (nI_le (Nat.le_refl _) (by omega)) q⟩)
    | succ m ih =>
      intro k e
      have hx : pnx (v 0) k < v 0 := pnx_lt (by omega)
      have h := ih (k + 1) (by omega)
      have es : hoI (v 0) w (k + 1) = hoI (v 0) w k + (if chg (kd w k) (kd w (pnx (v 0) k)) = true then 1 else 0) := rfl
      rw [es, ← nI_add] at h
      refine V_X12_word_70 _ _ _ τ (sp_mplaces hL ⟨fun q => absurd q (nI_ge (by omega) (by omega)), fun _ => ⟨k, rfl, by omega, sp_behind hL (by omega) ⟨pnx (v 0) k, rfl, by omega, ?_⟩⟩⟩)
      rw [hd k (by omega), hd _ hx]
      refine sp_change (kd_lt _ _) (kd_lt _ _) (fun x hx => ?_)
      rw [hx, i1]
      by_cases q : chg (kd w k) (kd w (pnx (v 0) k)) = true
      · rw [if_pos q, ← kx_1] at h
        rw [if_pos q, if_neg (by decide)]; exact h
      · rw [if_neg q, nI_0] at h
        rw [if_neg q, if_pos rfl]; exact h
  exact key (v 0) 0 (by omega)
theorem t10L : (10 : Int64).toInt = 10 := by decide
theorem t3L : (3 : Int64).toInt = 3 := by decide
theorem t10' : (10 : Int32).toInt = 10 := by decide
theorem t9n {n : Nat} (hn : n ≤ 6) : ((9 : Int32) + nI n).toInt = 9 + (n : Int) := by
  rw [show (9 : Int32) = nI 9 from rfl, nI_add, nI_toInt (by omega)]; omega
theorem sp_mword {v : Nat → Nat} {w : Nat} {x2 : Int32} (hL : LM v τ) (hw : w < 3 ^ v 0)
    (hbad : ¬ (0 ≤ x2.toInt ∧ x2.toInt ≤ 3) → ¬ (10 ≤ x2.toInt ∧ x2.toInt ≤ 9 + (v 0 : Int)) → φ (-1) τ)
    (h1 : x2 = 1 → ∀ τ', Sk [45] τ τ' → φ (nI (sbI (v 0) w (v 0))) τ')
    (h0 : x2 = 0 → ∀ τ', Sk [45] τ τ' → φ (nI (hoI (v 0) w (v 0))) τ')
    (h2 : x2 = 2 → ∀ τ', Sk [45] τ τ' → φ (nI (knI w 1 (v 0))) τ')
    (h3 : x2 = 3 → ∀ τ', Sk [45] τ τ' → φ (nI (knI w 2 (v 0))) τ')
    (hj : ∀ j, j < v 0 → x2 = nI (10 + j) → ∀ τ', Sk [45] τ τ' → φ (nI (kd w j)) τ') : zCall G MX12_word [.ref 29, .int (nI w), .int x2] τ (zpi φ) := by
  have hn := hL.1.n.2
  have hp := p3 hn
  have body : ((0 ≤ x2.toInt ∧ x2.toInt ≤ 3) ∨ (10 ≤ x2.toInt ∧ x2.toInt ≤ 9 + (v 0 : Int))) → ((¬ x2 = (1 : Int32) → zCall G MX12_layKinds [.ref 29, .int (nI w)] τ (zpv (fun τ108 => zRun G MX12_word 70 [(0, .ref 29), (2, .int x2), (3, .int (0 : Int32)), (4, .int (0 : Int32))] [] τ108 (zpi φ)))) ∧ (x2 = (1 : Int32) → zCall G MX12_wordSeen [.ref 29, .int (nI w)] τ (zpi (fun x110 τ111 => zpi φ (some (.int x110)) τ111)))) := by
    intro hr
    refine ⟨fun q1 => sp_layKinds hL hw (fun τ1 g1 g2 => ?_), fun q1 => sp_wordSeen hL hw (fun τ1 g1 => pi_ok (h1 q1 τ1 g1))⟩
    have hL1 := hL.sk g1 (by decide)
    refine sp_m70 hL1 g2 ⟨fun q0 => ⟨fun q2 => ⟨fun q3 => ?_, fun q3 => sp_manyOf (c := 2) hL1 (by decide) g2 (pi_ok (h3 q3 τ1 g1))⟩, fun q2 => sp_manyOf (c := 1) hL1 (by decide) g2 (pi_ok (h2 q2 τ1 g1))⟩, fun q0 => pi_ok (h0 q0 τ1 g1)⟩
    obtain ⟨s, hs, rfl⟩ := of_range (x := x2) (n := 16) (by omega) (by omega)
    rw [nI_toInt (by omega)] at hr
    have n0 : s ≠ 0 := fun z => q0 (by rw [z]; rfl)
    have n1 : s ≠ 1 := fun z => q1 (by rw [z]; rfl)
    have n2 : s ≠ 2 := fun z => q2 (by rw [z]; rfl)
    have n3 : s ≠ 3 := fun z => q3 (by rw [z]; rfl)
    have hs10 : 10 ≤ s := by omega
    refine ⟨s - 10, ?_, by omega, ?_⟩
    · rw [show (10 : Int32) = nI 10 from rfl, pk_sub hs10]
    · rw [g2 _ (by omega)]
      exact pi_ok (hj (s - 10) (by omega) (by rw [show 10 + (s - 10) = s by omega]) τ1 g1)
  refine C_X12_word _ _ τ (sp_wordAll hL (sp_in ?_))
  rw [t0, i64, w_1 hn, nI_toInt (by omega)]
  refine b_a (fun h => absurd ⟨by omega, by omega⟩ h) (fun _ => sp_in ?_)
  rw [t0, t3L, i64]
  refine b_b (fun q => body (Or.inl q)) (fun q => sp_mplaces hL (sp_in ?_))
  rw [t10L, i64, i64, t9n hn]
  exact b_b (fun p => body (Or.inr p)) (fun p => pi_ok (hbad q p))
end WD
theorem pair_word {G : hz_G} {τ : hz_T} (hI : Inv τ) (x0 : Int32) (x1 : Int32) : PI G MX11_word MX12_word [.ref 0, .int x0, .int x1] [.ref 29, .int x0, .int x1] τ := by
  obtain ⟨v, hv⟩ := hI.to
  have hl := hv.1
  have hn := hl.1.n
  have hp := p3 hn.2
  have h64 : 2 ^ v 0 ≤ 2 ^ 6 := Nat.pow_le_pow_right (by decide) hn.2
  refine C_X11_word x0 x1 τ (sp_cplaces hl.c (sp_isWord hn.2 (b_b (fun hw => ?_) (fun hw => pi_ok ?_))))
  · obtain ⟨w, hw', rfl⟩ := of_range (n := 3 ^ v 0) hw.1 (by omega)
    obtain ⟨b1, b2, b3, b4, b5, b6, b7⟩ := tb_kb (v 0) (by omega) w hw'
    have f1 := kpI_lt (w := w) (c := 1) (v 0)
    have s1 := kpI_lt (w := w) (c := 2) (v 0)
    have inv : ∀ τ', Sk [45] τ τ' → Inv τ' := fun τ' hs => (hv.sk hs (by decide)).of
    refine sp_placesOf hn.2 hw' (c := 1) (by decide) (sp_placesOf hn.2 hw' (c := 2) (by decide) ⟨fun e => ?_, fun e => ?_, fun e => ?_, fun e => ?_, fun e0 e1 e2 e3 => ?_⟩)
    · subst e
      refine sp_hopsOut hn.2 hw' (pi_ok (sp_mword hl.m hw' (fun q => absurd (by decide) q) (fun q => absurd q (by decide)) (fun _ τ' hs => ⟨rfl, inv τ' hs⟩) (fun q => absurd q (by decide)) (fun q => absurd q (by decide)) (fun j hj q => ?_)))
      exact absurd ((nI_eq (by decide) (by omega)).1 (nI_0.trans q)) (by omega)
    · subst e
      refine sp_seenBefore hn.2 hw' (pi_ok (sp_mword hl.m hw' (fun q => absurd (by decide) q) (fun _ τ' hs => ⟨rfl, inv τ' hs⟩) (fun q => absurd q (by decide)) (fun q => absurd q (by decide)) (fun q => absurd q (by decide)) (fun j hj q => ?_)))
      exact absurd ((nI_eq (a := 1) (by decide) (by omega)).1 q) (by omega)
    · subst e
      refine sp_bc (pi_ok ?_)
      rw [bcf_eq (by omega), pop6 hn.2 f1, ← b3]
      refine sp_mword hl.m hw' (fun q => absurd (by decide) q) (fun q => absurd q (by decide)) (fun q => absurd q (by decide)) (fun _ τ' hs => ⟨rfl, inv τ' hs⟩) (fun q => absurd q (by decide)) (fun j hj q => ?_)
      exact absurd ((nI_eq (a := 2) (by decide) (by omega)).1 q) (by omega)
    · subst e
      refine sp_bc (pi_ok ?_)
      rw [bcf_eq (by omega), pop6 hn.2 s1, ← b4]
      refine sp_mword hl.m hw' (fun q => absurd (by decide) q) (fun q => absurd q (by decide)) (fun q => absurd q (by decide)) (fun q => absurd q (by decide)) (fun _ τ' hs => ⟨rfl, inv τ' hs⟩) (fun j hj q => ?_)
      exact absurd ((nI_eq (a := 3) (by decide) (by omega)).1 q) (by omega)
    · refine sp_within ?_
      rw [t10', t9n hn.2]
      refine b_a (fun hr => pi_ok ?_) (fun hr => ?_)
      · refine sp_mword hl.m hw' (fun _ _ => ⟨rfl, hI⟩) (fun q => absurd q e1) (fun q => absurd q e0) (fun q => absurd q e2) (fun q => absurd q e3) (fun j hj q => ?_)
        rw [q, nI_toInt (by omega)] at hr
        exact absurd ⟨by omega, by omega⟩ hr
      · obtain ⟨s, hs, rfl⟩ := of_range (x := x1) (n := 16) (by omega) (by omega)
        rw [nI_toInt (by omega)] at hr
        have hs10 : 10 ≤ s := by omega
        rw [show (10 : Int32) = nI 10 from rfl, pk_sub hs10]
        refine sp_kindAt hn.2 hw' (by omega) (pi_ok (sp_mword hl.m hw' (fun _ q => ?_) (fun q => absurd q e1) (fun q => absurd q e0) (fun q => absurd q e2) (fun q => absurd q e3) (fun j hj q τ' hs => ⟨?_, inv τ' hs⟩)))
        · rw [nI_toInt (by omega)] at q
          exact absurd hr q
        · have := (nI_eq (by omega) (by omega)).1 q
          rw [show s - 10 = j by omega]
  · refine C_X12_word _ _ τ (sp_wordAll hl.m (sp_in ?_))
    rw [t0, i64, w_1 hn.2]
    exact b_a (fun _ => pi_ok ⟨rfl, hI⟩) (fun h => absurd ⟨h.1, by omega⟩ hw)

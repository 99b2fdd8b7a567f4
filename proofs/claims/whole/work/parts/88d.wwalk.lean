/-! the class's walks -/
def ordL (o k : Nat) : Nat := if k < 6 then o + 2 * k else (1 - o) + 2 * (k - 6)
def cO (s o : Nat) : Nat → Nat
  | 0 => 0
  | k + 1 => cO s o k + (if s.testBit (ordL o k) = true then 1 else 0)
theorem cO_s (s o k : Nat) : cO s o (k + 1) = cO s o k + (if s.testBit (ordL o k) = true then 1 else 0) := rfl
theorem tb_cO : ∀ a, a < 64 → ∀ b, b < 64 → (cO (64 * a + b) 0 12 = ppopI (64 * a + b) 12 ∧ cO (64 * a + b) 1 12 = ppopI (64 * a + b) 12) := by decide +kernel
theorem cO_pop {s o : Nat} (hs : s < 4096) (ho : o < 2) : cO s o 12 = ppop s := by
  have h := tb_cO (s / 64) (by omega) (s % 64) (by omega)
  rw [Nat.div_add_mod] at h
  rw [← ppop_up (m := 12) hs (by decide)]
  rcases (show o = 0 ∨ o = 1 by omega) with e | e <;> rw [e]
  · exact h.1
  · exact h.2
theorem cO_mono (s o k : Nat) : ∀ d, cO s o k ≤ cO s o (k + d) := by
  intro d
  induction d with
  | zero => exact Nat.le_refl _
  | succ d ih => rw [← Nat.add_assoc, cO_s]; omega
theorem tb_ord : ∀ o, o < 2 → (∀ p, p < 12 → ∃ j, j < 12 ∧ ordL o j = p) ∧ ∀ k, k < 12 → ordL o k < 12 ∧ ∀ j, j < k → tky (o + 1) (ordL o j + 1) < tky (o + 1) (ordL o k + 1) := by decide +kernel
theorem hw12 (sw : Bool) : hz_w1 sw ≠ hz_w2 sw := by cases sw <;> decide
theorem hw1n (sw : Bool) : hz_w1 (!sw) = hz_w2 sw := by cases sw <;> rfl
theorem hw1m (sw : Bool) : hz_w1 sw ∈ [20, 21] := by cases sw <;> decide
theorem hw2m (sw : Bool) : hz_w2 sw ∈ [20, 21] := by cases sw <;> decide
section WW
variable {G : hz_G} {τ : hz_T} {χ : hz_T → Prop} {φ : Int32 → hz_T → Prop} {ψ : Int64 → hz_T → Prop}
theorem sp_listPlaces {q0 : Nat} (hq0 : q0 < 49) (hs0 : hz_sh q0 = (20, 4)) {s o n : Nat} (hs : s < 4096) (ho : o < 2) (hn : ppop s = n) (hn4 : n ≤ 4) (H : ∀ τ', Sm [q0] τ τ' → ∀ x, okT n (o + 1) x → setS n x = 2 * s → (∀ i, i < n → τ'.1.1 q0 i = nI (x i - 1)) → χ τ') : zCall G MX2_listPlaces [.int (nI s), .int (nI o), .ref q0] τ (zpv χ) := by
  obtain ⟨r1, r2⟩ := tb_ord o ho
  have hc12 := cO_pop hs ho
  refine C_X2_listPlaces hq0 hs0 _ _ τ ?_
  -- what is so at step k
  have step : ∀ k, k < 12 → ∀ τ1 x, Sm [q0] τ τ1 → okT (cO s o k) (o + 1) x → (∀ pp, (setS (cO s o k) x).testBit pp = true ↔ ∃ j, j < k ∧ s.testBit (ordL o j) = true ∧ pp = ordL o j + 1) → (∀ i, i < cO s o k → τ1.1.1 q0 i = nI (x i - 1)) → s.testBit (ordL o k) = true → cO s o k < 4 ∧ ∃ x', okT (cO s o (k + 1)) (o + 1) x' ∧ (∀ pp, (setS (cO s o (k + 1)) x').testBit pp = true ↔ ∃ j, j < k + 1 ∧ s.testBit (ordL o j) = true ∧ pp = ordL o j + 1) ∧ (∀ i, i < cO s o (k + 1) → (zI τ1 q0 (cO s o k) (nI (ordL o k))).1.1 q0 i = nI (x' i - 1)) := by
    intro k hk τ1 x g1 g2 g3 g4 hb
    have e1 : cO s o (k + 1) = cO s o k + 1 := by rw [cO_s, if_pos hb]
    have hm := cO_mono s o (k + 1) (12 - (k + 1))
    rw [show k + 1 + (12 - (k + 1)) = 12 by omega] at hm
    obtain ⟨p1, p2⟩ := r2 k hk
    have t0 : tup x (cO s o k) (ordL o k + 1) (cO s o k) = ordL o k + 1 := if_pos rfl
    have t1 : ∀ i, i ≠ cO s o k → tup x (cO s o k) (ordL o k + 1) i = x i := fun i hi => if_neg hi
    refine ⟨by omega, tup x (cO s o k) (ordL o k + 1), ?_, ?_, ?_⟩
    · rw [e1]
      refine ⟨fun i hi => ?_, fun i hi j hj => ?_⟩
      · by_cases q : i = cO s o k
        · rw [q, t0]; omega
        · rw [t1 i q]; exact g2.1 i (by omega)
      · by_cases q : i = cO s o k
        · rw [q, t0, t1 j (by omega)]
          obtain ⟨jj, a, c, d⟩ := (g3 (x j)).1 ((setS_bit x _ _).2 ⟨j, by omega, rfl⟩)
          rw [d]; exact p2 jj a
        · rw [t1 i q, t1 j (by omega)]; exact g2.2 i (by omega) j hj
    · intro pp
      rw [e1, setS_bit]
      constructor
      · intro ⟨i, hi, e⟩
        by_cases q : i = cO s o k
        · rw [q, t0] at e
          exact ⟨k, by omega, hb, e.symm⟩
        · rw [t1 i q] at e
          obtain ⟨jj, a, c, d⟩ := (g3 pp).1 ((setS_bit x _ _).2 ⟨i, by omega, e⟩)
          exact ⟨jj, by omega, c, d⟩
      · intro ⟨j, hj, c, d⟩
        by_cases q : j = k
        · exact ⟨cO s o k, by omega, by rw [t0, d, q]⟩
        · obtain ⟨i, hi, e⟩ := (setS_bit x _ _).1 ((g3 pp).2 ⟨j, by omega, c, d⟩)
          exact ⟨i, by omega, by rw [t1 i (by omega)]; exact e⟩
    · intro i hi
      rw [e1] at hi
      rw [zI_at]
      by_cases q : i = cO s o k
      · rw [if_pos ⟨rfl, q⟩, q, t0, Nat.add_sub_cancel]
      · rw [if_neg (fun y => q y.2), t1 i q]; exact g4 i (by omega)
  have fin : ∀ τ1 x, Sm [q0] τ τ1 → okT (cO s o 12) (o + 1) x → (∀ pp, (setS (cO s o 12) x).testBit pp = true ↔ ∃ j, j < 12 ∧ s.testBit (ordL o j) = true ∧ pp = ordL o j + 1) → (∀ i, i < cO s o 12 → τ1.1.1 q0 i = nI (x i - 1)) → χ τ1 := by
    intro τ1 x g1 g2 g3 g4
    rw [hc12, hn] at g2 g3 g4
    refine H τ1 g1 x g2 ?_ g4
    apply Nat.eq_of_testBit_eq
    intro pp
    rw [Bool.eq_iff_iff, g3]
    constructor
    · intro ⟨j, a, c, d⟩
      rw [d, dbl_bit]; exact c
    · intro h
      obtain ⟨a, ha, e⟩ := List.mem_map.1 ((ml_mem hs pp).2 h)
      rw [List.mem_filter, List.mem_range] at ha
      obtain ⟨j, j1, j2⟩ := r1 a ha.1
      exact ⟨j, j1, by rw [j2]; exact ha.2, by rw [j2]; exact e.symm⟩
  have turn : ∀ (t : Nat), t < 2 → (∀ τ1 x, Sm [q0] τ τ1 → okT (cO s o (6 * t + 6)) (o + 1) x → (∀ pp, (setS (cO s o (6 * t + 6)) x).testBit pp = true ↔ ∃ j, j < 6 * t + 6 ∧ s.testBit (ordL o j) = true ∧ pp = ordL o j + 1) → (∀ i, i < cO s o (6 * t + 6) → τ1.1.1 q0 i = nI (x i - 1)) → zRun G MX2_listPlaces 5 [(0, .int (nI s)), (1, .int (nI o)), (2, .ref q0), (3, .int (nI (cO s o (6 * t + 6)))), (4, .int (nI (t + 1)))] [] τ1 (zpv χ)) → ∀ d j τ1 x, j + d = 6 → Sm [q0] τ τ1 → okT (cO s o (6 * t + j)) (o + 1) x → (∀ pp, (setS (cO s o (6 * t + j)) x).testBit pp = true ↔ ∃ i, i < 6 * t + j ∧ s.testBit (ordL o i) = true ∧ pp = ordL o i + 1) → (∀ i, i < cO s o (6 * t + j) → τ1.1.1 q0 i = nI (x i - 1)) → zRun G MX2_listPlaces 17 [(0, .int (nI s)), (1, .int (nI o)), (2, .ref q0), (3, .int (nI (cO s o (6 * t + j)))), (4, .int (nI t)), (5, .int (nI ((if t = 0 then o else 1 - o) + 2 * j)))] [] τ1 (zpv χ) := by
    intro t ht K d
    induction d with
    | zero =>
      intro j τ1 x e g1 g2 g3 g4
      have e : j = 6 := by omega
      subst e
      refine V_X2_listPlaces_17 hq0 hs0 _ _ _ _ _ τ1 ⟨fun _ => ?_, fun y => absurd (show nI 12 ≤ nI ((if t = 0 then o else 1 - o) + 2 * 6) from nI_le (by omega) (by split <;> omega)) y⟩
      rw [i1]
      exact K τ1 x g1 g2 g3 g4
    | succ d ih =>
      intro j τ1 x e g1 g2 g3 g4
      have ep : (if t = 0 then o else 1 - o) + 2 * j = ordL o (6 * t + j) := by
        unfold ordL
        rcases (show t = 0 ∨ t = 1 by omega) with z | z
        · rw [z, if_pos rfl, if_pos (by omega)]; omega
        · rw [z, if_neg (by decide), if_neg (by omega)]; omega
      have hk : 6 * t + j < 12 := by omega
      have hpl := (r2 _ hk).1
      have e2 : nI (ordL o (6 * t + j)) + (2 : Int32) = nI ((if t = 0 then o else 1 - o) + 2 * (j + 1)) := by
        rw [kx_2, nI_add, ← ep]
        congr 1
      rw [ep]
      refine V_X2_listPlaces_17 hq0 hs0 _ _ _ _ _ τ1 ⟨fun y => absurd (show nI 12 ≤ nI (ordL o (6 * t + j)) from y) (nI_ge hpl (by decide)), fun _ => ?_⟩
      rw [has_bit (by omega) (by omega), bit_if, e2, i1]
      refine ⟨fun c => ?_, fun c => ?_⟩
      · have eC : cO s o (6 * t + (j + 1)) = cO s o (6 * t + j) := by
          rw [← Nat.add_assoc, cO_s, if_neg c]; rfl
        rw [← eC]
        refine ih (j + 1) τ1 x (by omega) g1 (by rw [eC]; exact g2) (fun pp => ?_) (by rw [eC]; exact g4)
        rw [eC, g3]
        constructor
        · intro ⟨i, a, b, f⟩; exact ⟨i, by omega, b, f⟩
        · intro ⟨i, a, b, f⟩
          by_cases q : i = 6 * t + j
          · rw [q] at b; exact absurd b c
          · exact ⟨i, by omega, b, f⟩
      · obtain ⟨c4, x', k1, k2, k3⟩ := step (6 * t + j) hk τ1 x g1 g2 g3 g4 c
        have eC : cO s o (6 * t + (j + 1)) = cO s o (6 * t + j) + 1 := by
          rw [← Nat.add_assoc, cO_s, if_pos c]
        refine ⟨fun y => absurd y (nI_ge c4 (by decide)), fun _ => ⟨cO s o (6 * t + j), rfl, c4, ?_⟩⟩
        rw [← eC]
        exact ih (j + 1) _ x' (by omega) (g1.I (List.mem_cons_self ..)) k1 k2 k3
  have x1 : nI o ^^^ (0 : Int32) = nI o := by
    rcases (show o = 0 ∨ o = 1 by omega) with z | z <;> rw [z] <;> decide
  have x2 : nI o ^^^ (1 : Int32) = nI (1 - o) := by
    rcases (show o = 0 ∨ o = 1 by omega) with z | z <;> rw [z] <;> decide
  refine V_X2_listPlaces_5 hq0 hs0 _ _ _ _ τ ⟨fun y => absurd y (by decide), fun _ => ?_⟩
  rw [x1]
  refine turn 0 (by decide) (fun τ1 x g1 g2 g3 g4 => ?_) 6 0 τ (fun _ => 0) rfl Sm.rf ⟨fun i hi => absurd hi (by show ¬ i < 0; omega), fun i hi => absurd hi (by show ¬ i < 0; omega)⟩ (fun pp => ⟨fun h => ?_, fun ⟨i, a, _⟩ => absurd a (by omega)⟩) (fun i hi => absurd hi (by show ¬ i < 0; omega))
  · refine V_X2_listPlaces_5 hq0 hs0 _ _ _ _ τ1 ⟨fun y => absurd y (by decide), fun _ => ?_⟩
    rw [show nI (0 + 1) = (1 : Int32) from rfl, x2]
    refine turn 1 (by decide) (fun τ2 x' k1 k2 k3 k4 => ?_) 6 0 τ1 x rfl g1 g2 g3 g4
    exact V_X2_listPlaces_5 hq0 hs0 _ _ _ _ τ2 ⟨fun _ => pv_ok (fin τ2 x' k1 k2 k3 k4), fun y => absurd (by decide) y⟩
  · have h : (0 : Nat).testBit pp = true := h
    rw [Nat.zero_testBit] at h; exact Bool.noConfusion h
theorem sp_walksTo {r : Nat → Nat} (hr : ∀ p, p < 12 → τ.1.2 (hz_w1 τ.2) p = lN (r p)) {p : Nat} (hp : p < 12) (H : ψ (lN (r p)) τ) : zCall G MX2_walksTo [.ref 18, .int (nI p)] τ (zpl ψ) := by
  refine C_X2_walksTo _ τ ⟨fun q => (neg_no (by omega) q).elim, fun _ => ⟨fun q => absurd q (nI_ge hp (by decide)), fun _ => ⟨p, rfl, hp, pl_ok ?_⟩⟩⟩
  rw [hr p hp]; exact H
theorem sp_walkFrom {a m : Nat} (ha : 1 ≤ a ∧ a ≤ 12) (hm : m ≤ 8) (H : ∀ τ', Sm [20, 21] τ τ' → (∀ p, p < 12 → τ'.1.2 (hz_w1 τ'.2) p = lN (wR m a (p + 1))) → χ τ') : zCall G MX2_walkFrom [.ref 18, .int (nI (a - 1)), .int (nI m)] τ (zpv χ) := by
  refine C_X2_walkFrom _ _ τ ?_
  have outer : ∀ d i τ1, i + d = m → Sm [20, 21] τ τ1 → (∀ p, p < 12 → τ1.1.2 (hz_w1 τ1.2) p = lN (wR i a (p + 1))) → zRun G MX2_walkFrom 35 [(0, .ref 18), (2, .int (nI m)), (3, .int (nI i))] [] τ1 (zpv χ) := by
    intro d
    induction d with
    | zero =>
      intro i τ1 e g1 g2
      have e : i = m := by omega
      subst e
      exact V_X2_walkFrom_35 _ _ τ1 ⟨fun _ => pv_ok (H τ1 g1 g2), fun q => absurd (nI_le (Nat.le_refl _) (by omega)) q⟩
    | succ d ih =>
      intro i τ1 e g1 g2
      refine V_X2_walkFrom_35 _ _ τ1 ⟨fun q => absurd q (nI_ge (by omega) (by omega)), fun _ => ?_⟩
      have inner : ∀ f p τ2, p + f = 12 → Sm [20, 21] τ τ2 → (∀ q, q < 12 → τ2.1.2 (hz_w1 τ2.2) q = lN (wR i a (q + 1))) → (∀ q, q < p → τ2.1.2 (hz_w2 τ2.2) q = lN (wR (i + 1) a (q + 1))) → zRun G MX2_walkFrom 43 [(0, .ref 18), (2, .int (nI m)), (3, .int (nI i)), (4, .int (nI p))] [] τ2 (zpv χ) := by
        intro f
        induction f with
        | zero =>
          intro p τ2 e2 g3 g4 g5
          have e2 : p = 12 := by omega
          subst e2
          refine V_X2_walkFrom_43 _ _ _ τ2 ⟨fun _ => ?_, fun q => absurd (nI_le (Nat.le_refl _) (by decide)) q⟩
          rw [i1]
          refine ih (i + 1) (zW τ2) (by omega) (fun q hq => g3 q hq) (fun q hq => ?_)
          show τ2.1.2 (hz_w1 (!τ2.2)) q = _
          rw [hw1n]; exact g5 q hq
        | succ f ihf =>
          intro p τ2 e2 g3 g4 g5
          have hp : p < 12 := by omega
          have hout : ∀ k, ¬ (1 ≤ k ∧ k ≤ 12) → wR i a k = 0 := fun k hk => (if_pos ha).trans (wW_out ha hk)
          have w1 : ∀ {ζ : Int64 → hz_T → Prop}, ζ (lN (wR i a p)) τ2 → zCall G MX2_walksTo [.ref 18, .int (nI p - (1 : Int32))] τ2 (zpl ζ) := by
            intro ζ hz
            rcases Nat.eq_zero_or_pos p with z | z
            · rw [z, hout 0 (by omega)] at hz
              rw [z]
              exact C_X2_walksTo _ τ2 ⟨fun _ => pl_ok hz, fun y => absurd (by decide) y⟩
            · have e3 : nI p - (1 : Int32) = nI (p - 1) := by rw [kx_1, pk_sub (by omega)]
              rw [e3]
              refine sp_walksTo (r := fun q => wR i a (q + 1)) g4 (by omega) ?_
              show ζ (lN (wR i a (p - 1 + 1))) τ2
              rw [Nat.sub_add_cancel z]; exact hz
          have w2 : ∀ {ζ : Int64 → hz_T → Prop}, ζ (lN (wR i a (p + 2))) τ2 → zCall G MX2_walksTo [.ref 18, .int (nI (p + 1))] τ2 (zpl ζ) := by
            intro ζ hz
            rcases Nat.lt_or_ge (p + 1) 12 with z | z
            · exact sp_walksTo (r := fun q => wR i a (q + 1)) g4 z hz
            · rw [hout (p + 2) (by omega)] at hz
              exact C_X2_walksTo _ τ2 ⟨fun q => (neg_no (by omega) q).elim, fun _ => ⟨fun _ => pl_ok hz, fun y => absurd (nI_le z (by omega)) y⟩⟩
          refine V_X2_walkFrom_43 _ _ _ τ2 ⟨fun q => absurd q (nI_ge (by omega) (by decide)), fun _ => w1 ?_⟩
          rw [i1]
          refine w2 ⟨p, rfl, hp, ?_⟩
          rw [lN_add]
          refine ihf (p + 1) _ (by omega) (g3.L (hw2m _)) (fun q hq => ?_) (fun q hq => ?_)
          · rw [zL_s, zL_row (hw12 _)]; exact g4 q hq
          · rw [zL_s, zL_at]
            by_cases z : q = p
            · rw [if_pos ⟨rfl, z⟩, z, wR_s, if_pos (by omega), Nat.add_sub_cancel]
            · rw [if_neg (fun y => z y.2)]; exact g5 q (by omega)
      exact inner 12 0 τ1 rfl g1 g2 (fun q hq => absurd hq (by omega))
  have init : ∀ d p τ1, p + d = 12 → Sm [20, 21] τ τ1 → (∀ q, q < p → τ1.1.2 (hz_w1 τ1.2) q = lN (wR 0 a (q + 1))) → zRun G MX2_walkFrom 2 [(0, .ref 18), (1, .int (nI (a - 1))), (2, .int (nI m)), (3, .int (nI p))] [] τ1 (zpv χ) := by
    intro d
    induction d with
    | zero =>
      intro p τ1 e g1 g2
      have e : p = 12 := by omega
      subst e
      exact V_X2_walkFrom_2 _ _ _ τ1 ⟨fun _ => outer m 0 τ1 (by omega) g1 g2, fun q => absurd (nI_le (Nat.le_refl _) (by decide)) q⟩
    | succ d ih =>
      intro p τ1 e g1 g2
      refine V_X2_walkFrom_2 _ _ _ τ1 ⟨fun q => absurd q (nI_ge (by omega) (by decide)), fun _ => ⟨p, rfl, by omega, ?_⟩⟩
      rw [i1]
      refine ih (p + 1) _ (by omega) (g1.L (hw1m _)) (fun q hq => ?_)
      rw [zL_s, zL_at]
      by_cases z : q = p
      · rw [if_pos ⟨rfl, z⟩, z]
        have e0 : wR 0 a (p + 1) = if p + 1 = a then 1 else 0 := if_pos ha
        rw [e0]
        by_cases w : p + 1 = a
        · rw [if_pos w, if_pos (show nI p = nI (a - 1) by rw [← w, Nat.add_sub_cancel])]; rfl
        · rw [if_neg w, if_neg (fun y => w (by have := (nI_eq (a := p) (b := a - 1) (by omega) (by omega)).1 y; omega))]; rfl
      · rw [if_neg (fun y => z y.2)]; exact g2 q (by omega)
  exact init 12 0 τ rfl Sm.rf (fun q hq => absurd hq (by omega))
theorem sp_waysBetween {s t m n : Nat} (hs : s < 4096) (ht : t < 4096) (hm : m ≤ 8) (hn : ppop s = n) (hn1 : 1 ≤ n) (hn4 : n ≤ 4) (htn : ppop t = n) (H : ∀ τ', Sm [20, 21, 22, 23, 24] τ τ' → ψ (lN (wN2 n s m t)) τ') : zCall G MX2_waysBetween [.ref 18, .int (nI s), .int (nI t), .int (nI m)] τ (zpl ψ) := by
  have h16 : n * n ≤ 16 := Nat.mul_le_mul hn4 hn4
  have em : nI m &&& (1 : Int32) = nI (m % 2) := by
    show nI m &&& nI 1 = _
    rw [nx_and, Nat.and_one_is_mod]
  refine C_X2_waysBetween _ _ _ τ (sp_bc ?_)
  rw [bcf_eq hs, hn]
  refine ⟨fun y => absurd ((nI_ltJ (a := 4) (by decide) (by omega)).1 y) (by omega), fun _ => sp_bc ?_⟩
  rw [bcf_eq ht, htn, em]
  refine ⟨fun _ => sp_listPlaces (o := 0) (q0 := 22) (by decide) rfl hs (by decide) hn hn4 (fun τ1 g1 x x1 x2 x3 => sp_listPlaces (q0 := 23) (by decide) rfl ht (show m % 2 < 2 by omega) htn hn4 (fun τ2 g2 y y1 y2 y3 => ?_)), fun y => absurd rfl y⟩
  have s2 : Sm [20, 21, 22, 23, 24] τ τ2 := (g1.wk (by decide)).tr (g2.wk (by decide))
  have x3' : ∀ i, i < n → τ2.1.1 22 i = nI (x i - 1) := fun i hi => by rw [(g2 22 (by decide)).1]; exact x3 i hi
  have y1' : okT n (1 + m) y := by
    have ek : ∀ p, tky (1 + m) p = tky (m % 2 + 1) p := by
      intro p
      unfold tky
      have : (p + (1 + m)) % 2 = (p + (m % 2 + 1)) % 2 := by omega
      rw [this]
    exact ⟨y1.1, fun i hi j hj => by rw [ek, ek]; exact y1.2 i hi j hj⟩
  have outer : ∀ d i τ3, i + d = n → Sm [20, 21, 24] τ2 τ3 → (∀ a b, a < i → b < n → τ3.1.2 24 (a * n + b) = lN (wR m (x a) (y b))) → zRun G MX2_waysBetween 46 [(0, .ref 18), (3, .int (nI m)), (4, .int (nI n)), (5, .int (nI i))] [] τ3 (zpl ψ) := by
    intro d
    induction d with
    | zero =>
      intro i τ3 e k1 k2
      have e : i = n := by omega
      subst e
      refine V_X2_waysBetween_46 _ _ _ τ3 ⟨fun _ => ?_, fun q => absurd (nI_le (Nat.le_refl _) (by omega)) q⟩
      refine sp_det (by decide) rfl (by decide) h16 (A := fun a b => lN (wR m (x a) (y b))) (fun a b ha hb => k2 a b ha hb) (fun τ4 k4 => pl_ok ?_)
      rw [ways_det hn4 hm x1 y1' (fun _ _ _ _ => rfl), ways_fin x1 x2 hs y1' y2 ht, iL_N]
      exact H τ4 (s2.tr ((k1.wk (by decide)).tr (k4.wk (by decide))))
    | succ d ih =>
      intro i τ3 e k1 k2
      have hi : i < n := by omega
      refine V_X2_waysBetween_46 _ _ _ τ3 ⟨fun q => absurd q (nI_ge (by omega) (by omega)), fun _ => ⟨fun q => absurd q (nI_ge (by omega) (by decide)), fun _ => ⟨i, rfl, by omega, ?_⟩⟩⟩
      have e22 : τ3.1.1 22 i = nI (x i - 1) := by rw [(k1 22 (by decide)).1]; exact x3' i hi
      rw [e22]
      refine sp_walkFrom (x1.1 i hi) hm (fun τ4 k4 k5 => ?_)
      have inner : ∀ f j τ5, j + f = n → Sm [24] τ4 τ5 → τ5.2 = τ4.2 → (∀ a b, (a < i ∨ (a = i ∧ b < j)) → b < n → τ5.1.2 24 (a * n + b) = lN (wR m (x a) (y b))) → zRun G MX2_waysBetween 78 [(0, .ref 18), (3, .int (nI m)), (4, .int (nI n)), (5, .int (nI i)), (6, .int (nI j))] [] τ5 (zpl ψ) := by
        intro f
        induction f with
        | zero =>
          intro j τ5 e2 l1 l0 l2
          have e2 : j = n := by omega
          subst e2
          refine V_X2_waysBetween_78 _ _ _ _ τ5 ⟨fun _ => ?_, fun q => absurd (nI_le (Nat.le_refl _) (by omega)) q⟩
          rw [i1]
          exact ih (i + 1) τ5 (by omega) ((k1.tr (k4.wk (by decide))).tr (l1.wk (by decide))) (fun a b ha hb => l2 a b (by omega) hb)
        | succ f ihf =>
          intro j τ5 e2 l1 l0 l2
          have hj : j < n := by omega
          have yj := y1.1 j hj
          have b1 := idx_lt hi hj
          have e23 : τ5.1.1 23 j = nI (y j - 1) := by rw [(l1 23 (by decide)).1, (k4 23 (by decide)).1, (k1 23 (by decide)).1]; exact y3 j hj
          have hrow : ∀ p, p < 12 → τ5.1.2 (hz_w1 τ5.2) p = lN ((fun p => wR m (x i) (p + 1)) p) := by
            intro p hp
            rw [l0, (l1 (hz_w1 τ4.2) (by cases τ4.2 <;> decide)).2]
            exact k5 p hp
          refine V_X2_waysBetween_78 _ _ _ _ τ5 ⟨fun q => absurd q (nI_ge (by omega) (by omega)), fun _ => ⟨fun q => absurd q (nI_ge (by omega) (by decide)), fun _ => ⟨j, rfl, by omega, ?_⟩⟩⟩
          rw [e23]
          refine sp_walksTo (r := fun p => wR m (x i) (p + 1)) hrow (by omega) ⟨i * n + j, idx_I _ _ _, by omega, ?_⟩
          rw [i1 j]
          refine ihf (j + 1) _ (by omega) (l1.L (by decide)) l0 (fun a b hab hb => ?_)
          rw [zL_at]
          by_cases w : a = i ∧ b = j
          · rw [if_pos ⟨rfl, by rw [w.1, w.2]⟩, w.1, w.2]
            show lN (wR m (x i) (y j - 1 + 1)) = _
            rw [Nat.sub_add_cancel yj.1]
          · rw [if_neg (fun y => w (idm_inj hb hj y.2))]
            exact l2 a b (by omega) hb
      refine inner n 0 τ4 (by omega) Sm.rf rfl (fun a b hab hb => ?_)
      rw [(k4 24 (by decide)).2]
      exact k2 a b (by omega) hb
  exact outer n 0 τ2 (by omega) Sm.rf (fun a b h => absurd h (by omega))
end WW

/-! orders of hops on the rim -/
def ohop (k i : Nat) : Bool := k.testBit i && !k.testBit (i + 1)
def oW (k : Nat) : Nat → Nat → Bool
  | 0, _ => false
  | i + 1, y => oW k i y || (ohop k i && y == k + 2 ^ i)
def oM (s : Nat) : Nat → Nat → Int64
  | 0, y => if y = s then 1 else 0
  | k + 1, y => oM s k y + (if oW k 7 y = true then oM s k k else 0)
theorem oW_s (k i y : Nat) : oW k (i + 1) y = (oW k i y || (ohop k i && y == k + 2 ^ i)) := rfl
theorem oM_s (s k y : Nat) : oM s (k + 1) y = oM s k y + (if oW k 7 y = true then oM s k k else 0) := rfl
theorem oW_lt {k y : Nat} : ∀ i, oW k i y = true → k < y := by
  intro i
  induction i with
  | zero => intro h; exact Bool.noConfusion h
  | succ i ih =>
    intro h
    rw [oW_s, Bool.or_eq_true, Bool.and_eq_true, beq_iff_eq] at h
    rcases h with h | h
    · exact ih h
    · have : 0 < 2 ^ i := Nat.two_pow_pos i
      omega
theorem oW_new {k i : Nat} : ∀ j, j ≤ i → oW k j (k + 2 ^ i) = false := by
  intro j
  induction j with
  | zero => intro _; rfl
  | succ j ih =>
    intro h
    have h1 : 2 ^ j < 2 ^ i := Nat.pow_lt_pow_right (by decide) (by omega)
    have h2 : (k + 2 ^ i == k + 2 ^ j) = false := beq_eq_false_iff_ne.2 (by omega)
    rw [oW_s, ih (by omega), h2, Bool.and_false, Bool.or_false]
theorem tb_oh : ∀ k, k < 256 → ∀ i, i < 7 → (if ((nI k >>> (nI i &&& 31)) &&& (3 : Int32)) = (1 : Int32) then (1 : Int32) else 0) = (if ohop k i = true then 1 else 0) ∧ (ohop k i = true → k ^^^ (2 ^ i ^^^ 2 ^ (i + 1)) = k + 2 ^ i ∧ k + 2 ^ i < 256) := by decide +kernel
theorem z64 (x : Int64) : x + 0 = x := Int64.add_zero x
theorem oM_early {s : Nat} : ∀ k, k ≤ s → ∀ y, oM s k y = if y = s then 1 else 0 := by
  intro k
  induction k with
  | zero => intro _ y; rfl
  | succ k ih =>
    intro h y
    rw [oM_s, ih (by omega), ih (by omega), if_neg (show ¬ k = s by omega), ite_self, z64]
theorem oM_late {s t : Nat} : ∀ d, oM s (t + d) t = oM s t t := by
  intro d
  induction d with
  | zero => rfl
  | succ d ih =>
    rw [← Nat.add_assoc, oM_s, ih, if_neg (fun q => absurd (oW_lt 7 q) (by omega)), z64]
theorem nI_ltJ {a b : Nat} (ha : a < 2 ^ 31) (hb : b < 2 ^ 31) : nI a < nI b ↔ a < b := by
  rw [Int32.lt_iff_toInt_lt, nI_toInt ha, nI_toInt hb]; omega
theorem lgc_z {x : Int64} : lg_cmp x 0 = 0 ↔ x = 0 := lgc_eq
section OR
variable {G : hz_G} {τ : hz_T} {ψ : Int64 → hz_T → Prop} {φ : Int32 → hz_T → Prop}
theorem sp_cRim {x : Int32} (H : φ (if 0 ≤ x.toInt ∧ x.toInt < 256 then 1 else 0) τ) : zCall G MX2_isRim [.int x] τ (zpi φ) := by
  refine C_X2_isRim x τ (pi_ok ?_)
  have h1 : x < 0 ↔ x.toInt < 0 := Int32.lt_iff_toInt_lt
  have h2 : (256 : Int32) ≤ x ↔ 256 ≤ x.toInt := Int32.le_iff_toInt_le
  by_cases q : x.toInt < 0
  · rw [if_pos (h1.2 q)]
    rw [if_neg (by omega)] at H
    exact H
  · rw [if_neg (fun z => q (h1.1 z))]
    by_cases q2 : 256 ≤ x.toInt
    · rw [if_pos (h2.2 q2)]
      rw [if_neg (by omega)] at H
      exact H
    · rw [if_neg (fun z => q2 (h2.1 z))]
      rw [if_pos (by omega)] at H
      exact H
theorem t255L : (255 : Int64).toInt = 255 := by decide
theorem sp_mRim {x : Int32} (H : φ (if 0 ≤ x.toInt ∧ x.toInt < 256 then 1 else 0) τ) : zCall G MX12_isRim [.int x] τ (zpi φ) := by
  refine C_X12_isRim x τ (sp_in ⟨nar_b, pi_ok ?_⟩)
  have e : (if (0 : Int64).toInt ≤ x.toInt64.toInt ∧ x.toInt64.toInt ≤ (255 : Int64).toInt then (1 : Int32) else 0) = (if 0 ≤ x.toInt ∧ x.toInt < 256 then 1 else 0) := by
    rw [t0, t255L, i64]
    by_cases h : 0 ≤ x.toInt ∧ x.toInt < 256
    · rw [if_pos h, if_pos (by omega)]
    · rw [if_neg h, if_neg (by omega)]
  rw [e]; exact H
theorem sp_ordersOf {s t : Nat} (hs : s < 256) (ht : t < 256) (H : ∀ τ', Sk [41] τ τ' → ψ (oM s 256 t) τ') : zCall G MX12_ordersOf [.ref 29, .int (nI s), .int (nI t)] τ (zpl ψ) := by
  refine C_X12_ordersOf _ _ τ ?_
  have outer : ∀ m k τ1, k + m = 256 → Sk [41] τ τ1 → (∀ y, y < 256 → τ1.1.2 41 y = oM s k y) → zRun G MX12_ordersOf 33 [(0, .ref 29), (2, .int (nI t)), (3, .int (nI k))] [] τ1 (zpl ψ) := by
    intro m
    induction m with
    | zero =>
      intro k τ1 e g1 g2
      have e : k = 256 := by omega
      subst e
      refine V_X12_ordersOf_33 _ _ τ1 ⟨fun _ => ⟨t, rfl, ht, pl_ok ?_⟩, fun q => absurd (show nI 256 ≤ nI 256 from nI_le (Nat.le_refl _) (by decide)) q⟩
      rw [g2 t ht]; exact H τ1 g1
    | succ m ih =>
      intro k τ1 e g1 g2
      refine V_X12_ordersOf_33 _ _ τ1 ⟨fun q => absurd (show nI 256 ≤ nI k from q) (nI_ge (by omega) (by decide)), fun _ => ?_⟩
      have inner : ∀ m i τ2, i + m = 7 → Sk [41] τ τ2 → (∀ y, y < 256 → τ2.1.2 41 y = oM s k y + (if oW k i y = true then oM s k k else 0)) → zRun G MX12_ordersOf 43 [(0, .ref 29), (2, .int (nI t)), (3, .int (nI k)), (4, .int (nI i))] [] τ2 (zpl ψ) := by
        intro m
        induction m with
        | zero =>
          intro i τ2 e' g3 g4
          have e' : i = 7 := by omega
          subst e'
          refine V_X12_ordersOf_43 _ _ _ τ2 ⟨fun _ => ?_, fun q => absurd (show nI 7 ≤ nI 7 from nI_le (Nat.le_refl _) (by decide)) q⟩
          rw [i1]
          exact ih (k + 1) τ2 (by omega) g3 g4
        | succ m ihm =>
          intro i τ2 e' g3 g4
          obtain ⟨-, o2⟩ := tb_oh k (by omega) i (by omega)
          refine V_X12_ordersOf_43 _ _ _ τ2 ⟨fun q => absurd (show nI 7 ≤ nI i from q) (nI_ge (by omega) (by decide)), fun _ => ?_⟩
          rw [i1]
          refine sp_gone (by omega) (by omega) (by omega) ?_
          have eh : (k.testBit i && !k.testBit (i + 1)) = ohop k i := rfl
          rw [eh]
          by_cases q : ohop k i = true
          · obtain ⟨p1, p2⟩ := o2 q
            have hp : 0 < 2 ^ i := Nat.two_pow_pos i
            rw [if_pos q, p1]
            refine ⟨fun z => absurd ((nI_eq (by omega) (by omega)).1 z) (by omega), fun _ => ⟨k + 2 ^ i, rfl, p2, k, rfl, by omega, k + 2 ^ i, rfl, p2, ?_⟩⟩
            refine ihm (i + 1) _ (by omega) (g3.L (by decide)) (fun y hy => ?_)
            rw [zL_at, oW_s, q, Bool.true_and]
            by_cases z : y = k + 2 ^ i
            · rw [if_pos ⟨rfl, z⟩, z, g4 _ p2, g4 k (by omega), oW_new i (Nat.le_refl _), if_neg (by decide), z64, if_neg (fun w => absurd (oW_lt i w) (by omega)), z64, Bool.false_or, if_pos (beq_iff_eq.2 rfl)]
            · rw [if_neg (fun w => z w.2), g4 y hy, beq_eq_false_iff_ne.2 z, Bool.or_false]
          · rw [if_neg q]
            refine ⟨fun _ => ihm (i + 1) τ2 (by omega) g3 (fun y hy => ?_), fun z => absurd rfl z⟩
            rw [g4 y hy, oW_s, (Bool.not_eq_true _).mp q, Bool.false_and, Bool.or_false]
      refine inner 7 0 τ1 rfl g1 (fun y hy => ?_)
      rw [g2 y hy]
      exact (z64 _).symm
  have first : ∀ m k τ1, k + m = 256 → Sk [41] τ τ1 → (∀ y, y < k → τ1.1.2 41 y = oM s 0 y) → zRun G MX12_ordersOf 2 [(0, .ref 29), (1, .int (nI s)), (2, .int (nI t)), (3, .int (nI k))] [] τ1 (zpl ψ) := by
    intro m
    induction m with
    | zero =>
      intro k τ1 e g1 g2
      have e : k = 256 := by omega
      subst e
      exact V_X12_ordersOf_2 _ _ _ τ1 ⟨fun _ => outer 256 0 τ1 rfl g1 g2, fun q => absurd (show nI 256 ≤ nI 256 from nI_le (Nat.le_refl _) (by decide)) q⟩
    | succ m ih =>
      intro k τ1 e g1 g2
      refine V_X12_ordersOf_2 _ _ _ τ1 ⟨fun q => absurd (show nI 256 ≤ nI k from q) (nI_ge (by omega) (by decide)), fun _ => ⟨k, rfl, by omega, ?_⟩⟩
      rw [i1]
      refine ih (k + 1) _ (by omega) (g1.L (by decide)) (fun y hy => ?_)
      rw [zL_at]
      by_cases z : y = k
      · rw [if_pos ⟨rfl, z⟩, z]
        show _ = if k = s then (1 : Int64) else 0
        by_cases w : k = s
        · rw [if_pos (by rw [w]), if_pos w]
        · rw [if_neg (fun w2 => w ((nI_eq (by omega) (by omega)).1 w2)), if_neg w]
      · rw [if_neg (fun w => z w.2)]
        exact g2 y (by omega)
  exact first 256 0 τ rfl Sk.rf (fun y hy => absurd hy (by omega))
theorem sp_passOn {s t x : Nat} (hsx : s ≤ x) (hx : x < t) (ht : t < 256) (hA : ∀ y, s ≤ y → y ≤ t → τ.1.2 19 y = oM s x y) {χ : hz_T → Prop} (H : ∀ τ', Sm [19] τ τ' → (∀ y, s ≤ y → y ≤ t → τ'.1.2 19 y = oM s (x + 1) y) → χ τ') : zCall G MX2_passOn [.ref 18, .int (nI x), .int (nI t)] τ (zpv χ) := by
  refine C_X2_passOn _ _ τ ?_
  have inner : ∀ m i τ2, i + m = 7 → Sm [19] τ τ2 → (∀ y, s ≤ y → y ≤ t → τ2.1.2 19 y = oM s x y + (if oW x i y = true then oM s x x else 0)) → zRun G MX2_passOn 2 [(0, .ref 18), (1, .int (nI x)), (2, .int (nI t)), (3, .int (nI i))] [] τ2 (zpv χ) := by
    intro m
    induction m with
    | zero =>
      intro i τ2 e g3 g4
      have e : i = 7 := by omega
      subst e
      refine V_X2_passOn_2 _ _ _ τ2 ⟨fun _ => pv_ok (H τ2 g3 g4), fun q => absurd (show nI 8 ≤ nI 8 from nI_le (Nat.le_refl _) (by decide)) q⟩
    | succ m ihm =>
      intro i τ2 e g3 g4
      obtain ⟨o1, o2⟩ := tb_oh x (by omega) i (by omega)
      refine V_X2_passOn_2 _ _ _ τ2 ?_
      rw [i1, one_shl (by omega), nI_add, o1]
      refine ⟨fun q => absurd (show nI 8 ≤ nI (i + 1) from q) (nI_ge (by omega) (by decide)), fun _ w hw => ?_⟩
      subst hw
      refine b_a (fun q => ?_) (fun q => ?_)
      · refine ihm (i + 1) τ2 (by omega) g3 (fun y h1 h2 => ?_)
        rw [g4 y h1 h2, oW_s, (Bool.not_eq_true _).mp q, Bool.false_and, Bool.or_false]
      · obtain ⟨p1, p2⟩ := o2 q
        have hp : 0 < 2 ^ i := Nat.two_pow_pos i
        rw [nI_ltJ (by omega) (by omega), nI_leI (by decide) (by omega)]
        refine ⟨fun z => ihm (i + 1) τ2 (by omega) g3 (fun y h1 h2 => ?_), fun z => ⟨fun z2 => absurd z2 (by omega), fun _ => ⟨x + 2 ^ i, rfl, p2, x, rfl, by omega, x + 2 ^ i, rfl, p2, ?_⟩⟩⟩
        · rw [g4 y h1 h2, oW_s, beq_eq_false_iff_ne.2 (show y ≠ x + 2 ^ i by omega), Bool.and_false, Bool.or_false]
        · refine ihm (i + 1) _ (by omega) (g3.L (by decide)) (fun y h1 h2 => ?_)
          rw [zL_at, oW_s, q, Bool.true_and]
          by_cases z3 : y = x + 2 ^ i
          · rw [if_pos ⟨rfl, z3⟩, z3, g4 _ (by omega) (by omega), g4 x (by omega) (by omega), oW_new i (Nat.le_refl _), if_neg (by decide), z64, if_neg (fun w => absurd (oW_lt i w) (by omega)), z64, Bool.false_or, if_pos (beq_iff_eq.2 rfl)]
          · rw [if_neg (fun w => z3 w.2), g4 y h1 h2, beq_eq_false_iff_ne.2 z3, Bool.or_false]
  refine inner 7 0 τ rfl Sm.rf (fun y h1 h2 => ?_)
  rw [hA y h1 h2]
  exact (z64 _).symm
theorem sp_ordersBetween {s t : Nat} (hs : s < 256) (ht : t < 256) (H : ∀ τ', Sm [19] τ τ' → ψ (oM s 256 t) τ') : zCall G MX2_ordersBetween [.ref 18, .int (nI s), .int (nI t)] τ (zpl ψ) := by
  have hfin : oM s 256 t = oM s t t := by
    have := oM_late (s := s) (t := t) (256 - t)
    rwa [show t + (256 - t) = 256 by omega] at this
  have rs : 0 ≤ (nI s).toInt ∧ (nI s).toInt < 256 := by rw [nI_toInt (by omega)]; omega
  have rt : 0 ≤ (nI t).toInt ∧ (nI t).toInt < 256 := by rw [nI_toInt (by omega)]; omega
  refine C_X2_ordersBetween _ _ τ (sp_cRim (b_a (fun q => absurd rs q) (fun _ => sp_cRim (b_a (fun q => absurd rt q) (fun _ => ?_)))))
  rw [nI_leI (by omega) (by omega)]
  refine ⟨fun hst => ?_, fun hst => pl_ok ?_⟩
  · have second : ∀ m x τ1, x + m = t → s ≤ x → Sm [19] τ τ1 → (∀ y, s ≤ y → y ≤ t → τ1.1.2 19 y = oM s x y) → zRun G MX2_ordersBetween 59 [(0, .ref 18), (2, .int (nI t)), (3, .int (nI x))] [] τ1 (zpl ψ) := by
      intro m
      induction m with
      | zero =>
        intro x τ1 e hx g1 g2
        have e : x = t := by omega
        subst e
        refine V_X2_ordersBetween_59 _ _ τ1 ⟨fun _ => ⟨x, rfl, ht, pl_ok ?_⟩, fun q => absurd (nI_le (Nat.le_refl _) (by omega)) q⟩
        rw [g2 x hst (Nat.le_refl _), ← hfin]
        exact H τ1 g1
      | succ m ih =>
        intro x τ1 e hx g1 g2
        refine V_X2_ordersBetween_59 _ _ τ1 ⟨fun q => absurd q (nI_ge (by omega) (by omega)), fun _ => ⟨fun q => absurd q (nI_ge (by omega) (by decide)), fun _ => ⟨x, rfl, by omega, ?_⟩⟩⟩
        rw [i1, lgc_z, g2 x hx (by omega)]
        refine ⟨fun q => ih (x + 1) τ1 (by omega) (by omega) g1 (fun y h1 h2 => ?_), fun _ => sp_passOn hx (by omega) ht g2 (fun τ2 g3 g4 => ih (x + 1) τ2 (by omega) (by omega) (g1.tr g3) g4)⟩
        rw [g2 y h1 h2, oM_s, q, ite_self, z64]
    have init : ∀ m x τ1, x + m = t + 1 → s ≤ x → Sm [19] τ τ1 → (∀ y, s ≤ y → y < x → τ1.1.2 19 y = 0) → zRun G MX2_ordersBetween 23 [(0, .ref 18), (1, .int (nI s)), (2, .int (nI t)), (3, .int (nI x))] [] τ1 (zpl ψ) := by
      intro m
      induction m with
      | zero =>
        intro x τ1 e hx g1 g2
        refine V_X2_ordersBetween_23 _ _ _ τ1 ⟨fun _ => ⟨s, rfl, hs, second (t - s) s _ (by omega) (Nat.le_refl _) (g1.L (by decide)) (fun y h1 h2 => ?_)⟩, fun q => absurd ((nI_ltJ (by omega) (by omega)).2 (by omega)) q⟩
        rw [zL_at, oM_early s (Nat.le_refl _)]
        by_cases z : y = s
        · rw [if_pos ⟨rfl, z⟩, if_pos z]
        · rw [if_neg (fun w => z w.2), if_neg z]
          exact g2 y h1 (by omega)
      | succ m ih =>
        intro x τ1 e hx g1 g2
        refine V_X2_ordersBetween_23 _ _ _ τ1 ⟨fun q => absurd ((nI_ltJ (by omega) (by omega)).1 q) (by omega), fun _ => ⟨fun q => absurd q (nI_ge (by omega) (by decide)), fun _ => ⟨x, rfl, by omega, ?_⟩⟩⟩
        rw [i1]
        refine ih (x + 1) _ (by omega) (by omega) (g1.L (by decide)) (fun y h1 h2 => ?_)
        rw [zL_at]
        by_cases z : y = x
        · rw [if_pos ⟨rfl, z⟩]
        · rw [if_neg (fun w => z w.2)]
          exact g2 y h1 (by omega)
    exact init (t + 1 - s) s τ (by omega) (Nat.le_refl _) Sm.rf (fun y h1 h2 => absurd h2 (by omega))
  · have e0 : oM s 256 t = 0 := by
      rw [hfin, oM_early t (by omega), if_neg (by omega)]
    rw [← e0]
    exact H τ Sm.rf
end OR
theorem rim_of {x : Int32} (h : 0 ≤ x.toInt ∧ x.toInt < 256) : ∃ s : Nat, s < 256 ∧ x = nI s := of_range h.1 (by omega)
theorem inv_19 {v : Nat → Nat} {τ τ' : hz_T} (hv : InvV v τ) (h : Sm [19] τ τ') : InvV v τ' := hv.sk ⟨h, by rw [(h 29 (by decide)).1], by rw [(h 29 (by decide)).1]⟩ (by decide)
theorem pair_orders {G : hz_G} {τ : hz_T} (hI : Inv τ) (x0 : Int32) (x1 : Int32) : PL G MX11_orders MX12_orders [.ref 0, .int x0, .int x1] [.ref 29, .int x0, .int x1] τ := by
  obtain ⟨v, hv⟩ := hI.to
  refine C_X11_orders x0 x1 τ (sp_cRim (b_a (fun hp => pl_ok ?_) (fun hp => sp_cRim (b_b (fun hr => ?_) (fun hr => pl_ok ?_)))))
  · exact C_X12_orders x0 x1 τ (sp_mRim (b_a (fun _ => pl_ok ⟨rfl, hI⟩) (fun h => absurd h hp)))
  · obtain ⟨s, hs, rfl⟩ := rim_of hp
    obtain ⟨t, ht, rfl⟩ := rim_of hr
    refine sp_ordersBetween hs ht (fun τ1 g1 => pl_ok ?_)
    have hv1 := inv_19 hv g1
    exact C_X12_orders _ _ τ1 (sp_mRim (b_a (fun h => absurd hp h) (fun _ => sp_mRim (b_a (fun h => absurd hr h) (fun _ => sp_ordersOf hs ht (fun τ2 g2 => pl_ok ⟨rfl, (hv1.sk g2 (by decide)).of⟩))))))
  · exact C_X12_orders x0 x1 τ (sp_mRim (b_a (fun h => absurd hp h) (fun _ => sp_mRim (b_a (fun _ => pl_ok ⟨rfl, hI⟩) (fun h => absurd h hr)))))

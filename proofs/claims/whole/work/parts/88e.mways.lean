/-! the reference's walkers -/
theorem dbl_or (a p : Nat) : 2 * (a ||| 2 ^ p) = 2 * a ||| 2 ^ (p + 1) := by
  apply Nat.eq_of_testBit_eq
  intro i
  cases i with
  | zero => rw [Nat.testBit_or, dbl_0, dbl_0, Nat.testBit_two_pow, decide_eq_false (by omega)]; rfl
  | succ i =>
    rw [Nat.testBit_or, dbl_bit, dbl_bit, Nat.testBit_or, Nat.testBit_two_pow, Nat.testBit_two_pow]
    by_cases q : p = i
    · rw [decide_eq_true q, decide_eq_true (show p + 1 = i + 1 by omega)]
    · rw [decide_eq_false q, decide_eq_false (show ¬ p + 1 = i + 1 by omega)]
theorem memI_up {s a : Nat} (hs : s < 2 ^ a) : ∀ d, memI s (a + d) = memI s a := by
  intro d
  induction d with
  | zero => rfl
  | succ d ih =>
    rw [← Nat.add_assoc, memI_s, ih, if_neg, List.append_nil]
    rw [Nat.testBit_lt_two_pow (Nat.lt_of_lt_of_le hs (Nat.pow_le_pow_right (by decide) (by omega)))]
    decide
theorem ml_at {s i : Nat} (hs : s < 4096) (hi : i < ppop s) : (ml s).getD i 0 = memP s i + 1 := by
  have e : ml s = (pmem s).map (fun p => p + 1) := by
    have := memI_up (a := 12) hs 52
    show (memI s 12).map (fun p => p + 1) = (memI s 64).map (fun p => p + 1)
    rw [← this]
  have hl : i < (pmem s).length := hi
  unfold memP
  rw [e, List.getD_eq_getElem?_getD, List.getElem?_map, List.getD_eq_getElem?_getD, List.getElem?_eq_getElem hl]
  rfl
def oI (o : Option Nat) : Int32 := match o with | some t => nI (t / 2) | none => -4
theorem tb_pm : ∀ a, a < 13 → 1 ≤ a → nI (a - 1) + (1 : Int32) = nI a ∧ (2 ≤ a → nI (a - 1) + (-1 : Int32) = nI (a - 2)) ∧ (a = 1 → nI (a - 1) + (-1 : Int32) = -1) := by decide +kernel
theorem t11L : (11 : Int64).toInt = 11 := by decide
section MY
variable {G : hz_G} {τ : hz_T} {χ : hz_T → Prop} {φ : Int32 → hz_T → Prop} {ψ : Int64 → hz_T → Prop}
theorem sp_stepped {n w : Nat} (hn : n ≤ 4) (hw : w < 16) {l : List Nat} (hl : l.length = n) (hr : ∀ a, a ∈ l → 1 ≤ a ∧ a ≤ 12) (hs : ∀ i, i < n → τ.1.1 44 i = nI (l.getD i 0 - 1)) (H : φ (oI (stL l 0 w)) τ) : zCall G MX12_stepped [.ref 29, .int (nI n), .int (nI w)] τ (zpi φ) := by
  refine C_X12_stepped _ _ τ ?_
  have loop : ∀ (rem : List Nat) (k t : Nat), k + rem.length = n → (∀ a, a ∈ rem → 1 ≤ a ∧ a ≤ 12) → (∀ i, i < rem.length → τ.1.1 44 (k + i) = nI (rem.getD i 0 - 1)) → t < 4096 → φ (oI (stL rem (2 * t) (w / 2 ^ k))) τ → zRun G MX12_stepped 5 [(0, .ref 29), (1, .int (nI n)), (2, .int (nI w)), (3, .int (nI t)), (4, .int (nI k))] [] τ (zpi φ) := by
    intro rem
    induction rem with
    | nil =>
      intro k t e _ _ ht K
      have e : k = n := e
      refine V_X12_stepped_5 _ _ _ _ τ ⟨fun _ => pi_ok ?_, fun q => absurd (nI_le (by omega) (by omega)) q⟩
      have K : φ (nI (2 * t / 2)) τ := K
      rw [Nat.mul_div_cancel_left _ (by decide)] at K
      exact K
    | cons a rem ih =>
      intro k t e ha hst ht K
      rw [List.length_cons] at e
      have hk : k < n := by omega
      have ra := ha a (List.mem_cons_self ..)
      have h0 : τ.1.1 44 k = nI (a - 1) := hst 0 (by rw [List.length_cons]; omega)
      obtain ⟨p1, p2, p3⟩ := tb_pm a (by omega) ra.1
      have K : φ (oI (if okp (2 * t) (if w / 2 ^ k % 2 = 1 then a + 1 else a - 1) = true then stL rem (2 * t ||| 2 ^ (if w / 2 ^ k % 2 = 1 then a + 1 else a - 1)) (w / 2 ^ k / 2) else none)) τ := K
      have ew : w / 2 ^ k / 2 = w / 2 ^ (k + 1) := by rw [Nat.div_div_eq_div_mul, ← Nat.pow_succ]
      rw [ew] at K
      refine V_X12_stepped_5 _ _ _ _ τ ⟨fun q => absurd q (nI_ge (by omega) (by omega)), fun _ => ⟨k, rfl, by omega, fun x hx => ?_⟩⟩
      rw [h0, has_bit (by omega) (by omega)] at hx
      have eb : w.testBit k = true ↔ w / 2 ^ k % 2 = 1 := by rw [Nat.testBit_eq_decide_div_mod_eq, decide_eq_true_iff]
      -- the place that is reached
      have go : ∀ q, (if w / 2 ^ k % 2 = 1 then a + 1 else a - 1) = q → (1 ≤ q → x = nI (q - 1)) → (q = 0 → x = -1) → q ≤ 13 → zCall G MX12_in [.long x.toInt64, .long (0 : Int64), .long (11 : Int64)] τ (zpi (fun x104 τ105 => ((x104 = 0 → zpi φ (some (.int (-4 : Int32))) τ105) ∧ (¬ x104 = 0 → ((¬ ((nI t >>> (x &&& 31)) &&& (1 : Int32)) = (1 : Int32) → zRun G MX12_stepped 5 [(0, .ref 29), (1, .int (nI n)), (2, .int (nI w)), (3, .int (nI t ||| ((1 : Int32) <<< (x &&& 31)))), (4, .int (nI k + (1 : Int32)))] [] τ105 (zpi φ)) ∧ (((nI t >>> (x &&& 31)) &&& (1 : Int32)) = (1 : Int32) → zpi φ (some (.int (-4 : Int32))) τ105)))))) := by
        intro q hq x1 x0 q13
        rw [hq] at K
        have hin : ((0 : Int64).toInt ≤ x.toInt64.toInt ∧ x.toInt64.toInt ≤ (11 : Int64).toInt) ↔ (1 ≤ q ∧ q ≤ 12) := by
          rw [t0, t11L, i64]
          rcases Nat.eq_zero_or_pos q with z | z
          · rw [x0 z]
            exact ⟨fun y => absurd y.1 (by decide), fun y => absurd y.1 (by omega)⟩
          · rw [x1 z, nI_toInt (by omega)]; omega
        refine sp_in (b_a (fun y => pi_ok ?_) (fun y => ?_))
        · have : ¬ okp (2 * t) q = true := fun z => y (hin.2 (by unfold okp at z; rw [Bool.and_eq_true, decide_eq_true_iff] at z; exact z.1))
          rw [if_neg this] at K; exact K
        · have y := hin.1 y
          have eq1 : q = (q - 1) + 1 := by omega
          rw [x1 y.1, has_bit (by omega) (by omega), bit_if, one_shl (by omega), i1]
          have hbit : (2 * t).testBit q = t.testBit (q - 1) := by rw [eq1, dbl_bit, Nat.add_sub_cancel]
          refine ⟨fun c => ?_, fun c => pi_ok ?_⟩
          · have ok : okp (2 * t) q = true := by
              unfold okp
              rw [decide_eq_true y, hbit, (Bool.not_eq_true _).mp c]; rfl
            rw [if_pos ok] at K
            have eo : nI t ||| nI (2 ^ (q - 1)) = nI (t ||| 2 ^ (q - 1)) := by
              apply Int32.toBitVec_inj.1
              show BitVec.ofNat 32 t ||| BitVec.ofNat 32 (2 ^ (q - 1)) = BitVec.ofNat 32 (t ||| 2 ^ (q - 1))
              apply BitVec.eq_of_getLsbD_eq
              intro i hi
              simp [hi]
            have ed : 2 * t ||| 2 ^ q = 2 * (t ||| 2 ^ (q - 1)) := by
              rw [dbl_or, Nat.sub_add_cancel y.1]
            rw [ed] at K
            rw [eo]
            refine ih (k + 1) _ (by omega) (fun b hb => ha b (List.mem_cons_of_mem _ hb)) (fun i hi => ?_) (Nat.or_lt_two_pow (n := 12) ht (Nat.pow_lt_pow_right (by decide) (by omega))) K
            have := hst (i + 1) (by rw [List.length_cons]; omega)
            rw [show k + 1 + i = k + (i + 1) by omega]; exact this
          · have no : ¬ okp (2 * t) q = true := by
              unfold okp
              rw [hbit, c]
              cases decide (1 ≤ q ∧ q ≤ 12) <;> decide
            rw [if_neg no] at K; exact K
      by_cases z : w / 2 ^ k % 2 = 1
      · rw [if_pos (eb.2 z), if_pos rfl, p1] at hx
        refine go (a + 1) (if_pos z) (fun _ => by rw [hx, Nat.add_sub_cancel]) (fun y => absurd y (by omega)) (by omega)
      · rw [if_neg (fun y => z (eb.1 y)), if_neg (by decide)] at hx
        refine go (a - 1) (if_neg z) (fun y => ?_) (fun y => ?_) (by omega)
        · rw [hx, p2 (by omega), show a - 1 - 1 = a - 2 by omega]
        · rw [hx, p3 (by omega)]
  refine loop l 0 0 (by omega) hr (fun i hi => by rw [Nat.zero_add]; exact hs i (by omega)) (by decide) ?_
  rw [Nat.pow_zero, Nat.div_one]
  exact H
theorem sup_pop {n fr k s : Nat} (hfr : ∃ x, okT n 1 x ∧ setS n x = 2 * fr) (hs : s < 4096) (h : wN2 n fr k s ≠ 0) : ppop s = n := by
  obtain ⟨h1, h2⟩ := qS_step (j := 0) (y := fun _ => 0) (wN2_sup hfr k s hs h) (ml_nd s) (ml_mem hs)
  rw [← h2, ml_len hs]
theorem wN2_lt {n fr k s : Nat} (hn : n ≤ 4) (hk : k ≤ 8) (hs : s < 4096) : wN2 n fr k s < 2 ^ 63 := by
  have a := wN2_tot n fr hn k
  have b := psum_ge (f := wN2 n fr k) 4096 hs
  have c : 16 ^ k ≤ 16 ^ 8 := Nat.pow_le_pow_right (by decide) hk
  have d : (16 : Nat) ^ 8 < 2 ^ 63 := by decide
  omega
theorem sp_mways {n fr tt m : Nat} (hn : n ≤ 4) (hfr : ∃ x, okT n 1 x ∧ setS n x = 2 * fr) (hf : fr < 4096) (ht : tt < 4096) (hm : m ≤ 8) (H : ∀ τ', Sk [42, 43, 44] τ τ' → ψ (lN (wN2 n fr m tt)) τ') : zRun G MX12_ways 79 [(0, .ref 29), (1, .int (nI fr)), (2, .int (nI tt)), (3, .int (nI m)), (4, .int (nI n)), (5, .int (0 : Int32))] [] τ (zpl ψ) := by
  have p16 : 2 ^ n ≤ 2 ^ 4 := Nat.pow_le_pow_right (by decide) hn
  have steps : ∀ d k τ1, k + d = m → Sk [42, 43, 44] τ τ1 → (∀ s, s < 4096 → τ1.1.2 42 s = lN (wN2 n fr k s)) → zRun G MX12_ways 114 [(0, .ref 29), (2, .int (nI tt)), (3, .int (nI m)), (4, .int (nI n)), (5, .int (nI k))] [] τ1 (zpl ψ) := by
    intro d
    induction d with
    | zero =>
      intro k τ1 e g1 g2
      have e : k = m := by omega
      subst e
      refine V_X12_ways_114 _ _ _ _ τ1 ⟨fun _ => ⟨tt, rfl, ht, pl_ok ?_⟩, fun q => absurd (nI_le (Nat.le_refl _) (by omega)) q⟩
      rw [g2 tt ht]; exact H τ1 g1
    | succ d ih =>
      intro k τ1 e g1 g2
      refine V_X12_ways_114 _ _ _ _ τ1 ⟨fun q => absurd q (nI_ge (by omega) (by omega)), fun _ => ?_⟩
      -- the copy
      have copy : ∀ f s τ2, s + f = 4096 → Sk [42, 43, 44] τ τ2 → (∀ t, t < 4096 → τ2.1.2 43 t = lN (wN2 n fr (k + 1) t)) → (∀ t, t < s → τ2.1.2 42 t = lN (wN2 n fr (k + 1) t)) → zRun G MX12_ways 271 [(0, .ref 29), (2, .int (nI tt)), (3, .int (nI m)), (4, .int (nI n)), (5, .int (nI k)), (6, .int (nI s))] [] τ2 (zpl ψ) := by
        intro f
        induction f with
        | zero =>
          intro s τ2 e2 h1 h2 h3
          have e2 : s = 4096 := by omega
          subst e2
          refine V_X12_ways_271 _ _ _ _ _ τ2 ⟨fun _ => ?_, fun q => absurd (show nI 4096 ≤ nI 4096 from nI_le (Nat.le_refl _) (by decide)) q⟩
          rw [i1]
          exact ih (k + 1) τ2 (by omega) h1 h3
        | succ f ihf =>
          intro s τ2 e2 h1 h2 h3
          refine V_X12_ways_271 _ _ _ _ _ τ2 ⟨fun q => absurd (show nI 4096 ≤ nI s from q) (nI_ge (by omega) (by decide)), fun _ => ⟨s, rfl, by omega, s, rfl, by omega, ?_⟩⟩
          rw [i1 s, h2 s (by omega)]
          refine ihf (s + 1) _ (by omega) (h1.L (by decide)) (fun t ht2 => ?_) (fun t ht2 => ?_)
          · rw [zL_row (by decide)]; exact h2 t ht2
          · rw [zL_at]
            by_cases z : t = s
            · rw [if_pos ⟨rfl, z⟩, z]
            · rw [if_neg (fun y => z y.2)]; exact h3 t (by omega)
      -- all sets
      have sets : ∀ f s τ2, s + f = 4096 → Sk [42, 43, 44] τ τ2 → (∀ t, t < 4096 → τ2.1.2 42 t = lN (wN2 n fr k t)) → (∀ t, t < 4096 → τ2.1.2 43 t = lN (psum s (fun u => wN2 n fr k u * cN u (2 ^ n) t))) → zRun G MX12_ways 148 [(0, .ref 29), (2, .int (nI tt)), (3, .int (nI m)), (4, .int (nI n)), (5, .int (nI k)), (6, .int (nI s))] [] τ2 (zpl ψ) := by
        intro f
        induction f with
        | zero =>
          intro s τ2 e2 h1 h2 h3
          have e2 : s = 4096 := by omega
          subst e2
          exact V_X12_ways_148 _ _ _ _ _ τ2 ⟨fun _ => copy 4096 0 τ2 rfl h1 h3 (fun t h => absurd h (by omega)), fun q => absurd (show nI 4096 ≤ nI 4096 from nI_le (Nat.le_refl _) (by decide)) q⟩
        | succ f ihf =>
          intro s τ2 e2 h1 h2 h3
          have hs : s < 4096 := by omega
          have hb := wN2_lt (fr := fr) (s := s) hn (show k ≤ 8 by omega) hs
          have hz : lg_cmp (lN (wN2 n fr k s)) 0 ≤ 0 ↔ wN2 n fr k s = 0 := by
            have a := lgc_gt (x := lN (wN2 n fr k s)) (y := 0)
            have et : (lN (wN2 n fr k s)).toInt = (wN2 n fr k s : Int) := by
              rw [← iL_N]
              exact iL_to (by omega) (by omega)
            rw [et, t0] at a
            have c : 0 < lg_cmp (lN (wN2 n fr k s)) 0 ↔ ¬ lg_cmp (lN (wN2 n fr k s)) 0 ≤ 0 := by
              rw [Int32.lt_iff_toInt_lt, Int32.le_iff_toInt_le]; omega
            rw [c] at a
            constructor
            · intro y
              refine Classical.byContradiction (fun z => ?_)
              exact (a.2 (by omega)) y
            · intro y
              refine Classical.byContradiction (fun z => ?_)
              have := a.1 z
              omega
          refine V_X12_ways_148 _ _ _ _ _ τ2 ⟨fun q => absurd (show nI 4096 ≤ nI s from q) (nI_ge (by omega) (by decide)), fun _ => ⟨s, rfl, hs, ?_⟩⟩
          rw [h2 s hs, hz]
          refine ⟨fun y => ?_, fun y => ?_⟩
          · rw [i1 s]
            refine ihf (s + 1) τ2 (by omega) h1 h2 (fun t ht2 => ?_)
            rw [h3 t ht2, psum_s, y, Nat.zero_mul, Nat.add_zero]
          · have hpop := sup_pop hfr hs y
            have hml : (ml s).length = n := by rw [ml_len hs, hpop]
            -- the moves of one set
            have moves : ∀ g w τ3, w + g = 2 ^ n → Sk [42, 43, 44] τ τ3 → (∀ t, t < 4096 → τ3.1.2 42 t = lN (wN2 n fr k t)) → (∀ i, i < n → τ3.1.1 44 i = nI (memP s i)) → (∀ t, t < 4096 → τ3.1.2 43 t = lN (psum s (fun u => wN2 n fr k u * cN u (2 ^ n) t) + wN2 n fr k s * cN s w t)) → zRun G MX12_ways 213 [(0, .ref 29), (2, .int (nI tt)), (3, .int (nI m)), (4, .int (nI n)), (5, .int (nI k)), (6, .int (nI s)), (8, .int (nI w))] [] τ3 (zpl ψ) := by
              intro g
              induction g with
              | zero =>
                intro w τ3 e3 k1 k2 k3 k4
                have e3 : w = 2 ^ n := by omega
                refine V_X12_ways_213 _ _ _ _ _ _ τ3 ?_
                rw [one_shl (by omega), e3, i1 s]
                refine ⟨fun _ => ihf (s + 1) τ3 (by omega) k1 k2 (fun t ht2 => ?_), fun q => absurd (nI_le (Nat.le_refl _) (by omega)) q⟩
                rw [k4 t ht2, psum_s, e3]
              | succ g ihg =>
                intro w τ3 e3 k1 k2 k3 k4
                refine V_X12_ways_213 _ _ _ _ _ _ τ3 ?_
                rw [one_shl (by omega)]
                refine ⟨fun q => absurd q (nI_ge (by omega) (by omega)), fun _ => ?_⟩
                refine sp_stepped hn (by omega) hml (fun a ha => ?_) (fun i hi => ?_) ?_
                · have := (ml_mem hs a).1 ha
                  cases a with
                  | zero => rw [dbl_0] at this; exact Bool.noConfusion this
                  | succ a =>
                    obtain ⟨c, hc, ec⟩ := List.mem_map.1 ha
                    rw [List.mem_filter, List.mem_range] at hc
                    omega
                · rw [k3 i hi, ml_at hs (by omega), Nat.add_sub_cancel]
                · rw [i1 w]
                  cases hh : stL (ml s) 0 w with
                  | none =>
                    refine ⟨fun _ => ihg (w + 1) τ3 (by omega) k1 k2 k3 (fun t ht2 => ?_), fun z => absurd rfl z⟩
                    rw [k4 t ht2, cN_s, hh, if_neg (by intro h; cases h), Nat.add_zero]
                  | some t' =>
                    obtain ⟨t1, h4, h5⟩ := stL_lt hh
                    have eo : oI (some t') = nI t1 := by
                      show nI (t' / 2) = nI t1
                      rw [h5, Nat.mul_div_cancel_left _ (by decide)]
                    rw [eo]
                    refine ⟨fun z => absurd z (nI_m4 (by omega)), fun _ => ⟨t1, rfl, h4, s, rfl, hs, t1, rfl, h4, ?_⟩⟩
                    refine ihg (w + 1) _ (by omega) (k1.L (by decide)) (fun t ht2 => ?_) k3 (fun t ht2 => ?_)
                    · rw [zL_row (by decide)]; exact k2 t ht2
                    · rw [zL_at, cN_s, hh]
                      by_cases z : t = t1
                      · rw [if_pos ⟨rfl, z⟩, z, k4 t1 h4, k2 s hs, lN_add, if_pos (by rw [h5]), Nat.mul_add, Nat.mul_one, Nat.add_assoc]
                      · rw [if_neg (fun y2 => z y2.2), k4 t ht2, if_neg (fun y2 => z (by have := Option.some.inj y2; omega)), Nat.add_zero]
            -- the walkers of one set
            have stand : ∀ g p τ3, p + g = 12 → Sk [42, 43, 44] τ τ3 → τ3.1.2 42 = τ2.1.2 42 → τ3.1.2 43 = τ2.1.2 43 → (∀ i, i < ppopI s p → τ3.1.1 44 i = nI (memP s i)) → zRun G MX12_ways 174 [(0, .ref 29), (2, .int (nI tt)), (3, .int (nI m)), (4, .int (nI n)), (5, .int (nI k)), (6, .int (nI s)), (7, .int (nI (ppopI s p))), (8, .int (nI p))] [] τ3 (zpl ψ) := by
              intro g
              induction g with
              | zero =>
                intro p τ3 e3 k1 k2 k3 k4
                have e3 : p = 12 := by omega
                subst e3
                rw [ppop_up (m := 12) hs (by decide), hpop] at k4
                refine V_X12_ways_174 _ _ _ _ _ _ _ τ3 ⟨fun _ => moves (2 ^ n) 0 τ3 (by omega) k1 (fun t ht2 => by rw [k2]; exact h2 t ht2) k4 (fun t ht2 => ?_), fun q => absurd (show nI 12 ≤ nI 12 from nI_le (Nat.le_refl _) (by decide)) q⟩
                rw [k3, h3 t ht2]
                rfl
              | succ g ihg =>
                intro p τ3 e3 k1 k2 k3 k4
                refine V_X12_ways_174 _ _ _ _ _ _ _ τ3 ⟨fun q => absurd (show nI 12 ≤ nI p from q) (nI_ge (by omega) (by decide)), fun _ => ?_⟩
                rw [has_bit (by omega) (by omega), bit_if, i1, i1]
                refine ⟨fun c => ?_, fun c => ?_⟩
                · have eC : ppopI s (p + 1) = ppopI s p := by rw [ppopI_s, if_neg c]; rfl
                  rw [← eC]
                  exact ihg (p + 1) τ3 (by omega) k1 k2 k3 (by rw [eC]; exact k4)
                · have eC : ppopI s (p + 1) = ppopI s p + 1 := by rw [ppopI_s, if_pos c]
                  obtain ⟨q1, q2⟩ := mem_pop (P := s) (b := p) (by omega) c
                  refine ⟨ppopI s p, rfl, by omega, ?_⟩
                  rw [← eC]
                  refine ihg (p + 1) _ (by omega) (k1.I (by decide) (by omega)) k2 k3 (fun i hi => ?_)
                  rw [eC] at hi
                  rw [zI_at]
                  by_cases z : i = ppopI s p
                  · rw [if_pos ⟨rfl, z⟩, z, q2]
                  · rw [if_neg (fun y2 => z y2.2)]; exact k4 i (by omega)
            exact stand 12 0 τ2 rfl h1 rfl rfl (fun i hi => absurd hi (by show ¬ i < 0; omega))
      -- the empty row
      have zero : ∀ f s τ2, s + f = 4096 → Sk [42, 43, 44] τ τ2 → (∀ t, t < 4096 → τ2.1.2 42 t = lN (wN2 n fr k t)) → (∀ t, t < s → τ2.1.2 43 t = 0) → zRun G MX12_ways 123 [(0, .ref 29), (2, .int (nI tt)), (3, .int (nI m)), (4, .int (nI n)), (5, .int (nI k)), (6, .int (nI s))] [] τ2 (zpl ψ) := by
        intro f
        induction f with
        | zero =>
          intro s τ2 e2 h1 h2 h3
          have e2 : s = 4096 := by omega
          subst e2
          exact V_X12_ways_123 _ _ _ _ _ τ2 ⟨fun _ => sets 4096 0 τ2 rfl h1 h2 h3, fun q => absurd (show nI 4096 ≤ nI 4096 from nI_le (Nat.le_refl _) (by decide)) q⟩
        | succ f ihf =>
          intro s τ2 e2 h1 h2 h3
          refine V_X12_ways_123 _ _ _ _ _ τ2 ⟨fun q => absurd (show nI 4096 ≤ nI s from q) (nI_ge (by omega) (by decide)), fun _ => ⟨s, rfl, by omega, ?_⟩⟩
          rw [i1 s]
          refine ihf (s + 1) _ (by omega) (h1.L (by decide)) (fun t ht2 => ?_) (fun t ht2 => ?_)
          · rw [zL_row (by decide)]; exact h2 t ht2
          · rw [zL_at]
            by_cases z : t = s
            · rw [if_pos ⟨rfl, z⟩]
            · rw [if_neg (fun y => z y.2)]; exact h3 t (by omega)
      exact zero 4096 0 τ1 rfl g1 g2 (fun t h => absurd h (by omega))
  have init : ∀ d s τ1, s + d = 4096 → Sk [42, 43, 44] τ τ1 → (∀ t, t < s → τ1.1.2 42 t = lN (wN2 n fr 0 t)) → zRun G MX12_ways 79 [(0, .ref 29), (1, .int (nI fr)), (2, .int (nI tt)), (3, .int (nI m)), (4, .int (nI n)), (5, .int (nI s))] [] τ1 (zpl ψ) := by
    intro d
    induction d with
    | zero =>
      intro s τ1 e g1 g2
      have e : s = 4096 := by omega
      subst e
      exact V_X12_ways_79 _ _ _ _ _ τ1 ⟨fun _ => steps m 0 τ1 (by omega) g1 g2, fun q => absurd (show nI 4096 ≤ nI 4096 from nI_le (Nat.le_refl _) (by decide)) q⟩
    | succ d ih =>
      intro s τ1 e g1 g2
      refine V_X12_ways_79 _ _ _ _ _ τ1 ⟨fun q => absurd (show nI 4096 ≤ nI s from q) (nI_ge (by omega) (by decide)), fun _ => ⟨s, rfl, by omega, ?_⟩⟩
      rw [i1 s]
      refine ih (s + 1) _ (by omega) (g1.L (by decide)) (fun t ht2 => ?_)
      rw [zL_at]
      by_cases z : t = s
      · rw [if_pos ⟨rfl, z⟩, z]
        show _ = lN (if s = fr then 1 else 0)
        by_cases w : s = fr
        · rw [if_pos w, w, if_pos rfl]; rfl
        · rw [if_neg w, if_neg (fun y => w ((nI_eq (by omega) (by omega)).1 y))]; rfl
      · rw [if_neg (fun y => z y.2)]; exact g2 t (by omega)
  exact init 4096 0 τ rfl Sk.rf (fun t h => absurd h (by omega))
theorem sp_areWalkers {x : Int32} (H1 : ∀ s, s < 4096 → x = nI s → 1 ≤ ppop s → ppop s ≤ 4 → φ 1 τ) (H0 : (¬ ∃ s, s < 4096 ∧ x = nI s ∧ 1 ≤ ppop s ∧ ppop s ≤ 4) → φ 0 τ) : zCall G MX2_areWalkers [.int x] τ (zpi φ) := by
  refine C_X2_areWalkers _ τ (sp_bc (pi_ok ?_))
  have h1 : x < 0 ↔ x.toInt < 0 := Int32.lt_iff_toInt_lt
  have h2 : (4096 : Int32) ≤ x ↔ 4096 ≤ x.toInt := Int32.le_iff_toInt_le
  by_cases q1 : x < 0
  · rw [if_pos q1]
    refine H0 (fun ⟨s, a, e, _⟩ => ?_)
    rw [e] at q1
    exact neg_no (by omega) q1
  · rw [if_neg q1]
    by_cases q2 : (4096 : Int32) ≤ x
    · rw [if_pos q2]
      refine H0 (fun ⟨s, a, e, _⟩ => ?_)
      have := h2.1 q2
      rw [e, nI_toInt (by omega)] at this
      omega
    · rw [if_neg q2]
      have r1 : ¬ x.toInt < 0 := fun y => q1 (h1.2 y)
      have r2 : ¬ 4096 ≤ x.toInt := fun y => q2 (h2.2 y)
      obtain ⟨s, hs, rfl⟩ := of_range (x := x) (n := 4096) (by omega) (by omega)
      have hle := ppop_le s
      have k1 : nI (ppop s) < (1 : Int32) ↔ ppop s < 1 := nI_ltJ (b := 1) (by omega) (by decide)
      have k2 : (4 : Int32) < nI (ppop s) ↔ 4 < ppop s := nI_ltJ (a := 4) (by decide) (by omega)
      rw [bcf_eq hs]
      have no : ∀ s', s' < 4096 ∧ nI s = nI s' ∧ 1 ≤ ppop s' ∧ ppop s' ≤ 4 → 1 ≤ ppop s ∧ ppop s ≤ 4 := by
        intro s' ⟨a, e, c, d⟩
        have := (nI_eq (by omega) (by omega)).1 e
        rw [this]; exact ⟨c, d⟩
      by_cases q3 : nI (ppop s) < (1 : Int32)
      · rw [if_pos q3]
        exact H0 (fun ⟨s', h⟩ => by have a := no s' h; have b := k1.1 q3; omega)
      · rw [if_neg q3]
        by_cases q4 : (4 : Int32) < nI (ppop s)
        · rw [if_pos q4]
          exact H0 (fun ⟨s', h⟩ => by have a := no s' h; have b := k2.1 q4; omega)
        · rw [if_neg q4]
          have b1 : ¬ ppop s < 1 := fun y => q3 (k1.2 y)
          have b2 : ¬ 4 < ppop s := fun y => q4 (k2.2 y)
          exact H1 s hs rfl (by omega) (by omega)
end MY

theorem t4095L : (4095 : Int64).toInt = 4095 := by decide
theorem t8L' : (8 : Int64).toInt = 8 := by decide
theorem t4L' : (4 : Int64).toInt = 4 := by decide
def WG (x0 x1 x2 : Int32) : Prop := ∃ s t m : Nat, s < 4096 ∧ t < 4096 ∧ m ≤ 8 ∧ x0 = nI s ∧ x1 = nI t ∧ x2 = nI m ∧ 1 ≤ ppop s ∧ ppop s ≤ 4 ∧ ppop t = ppop s
theorem ways_head {G : hz_G} {τ : hz_T} (x0 x1 x2 : Int32) {ψ : Int64 → hz_T → Prop} (H0 : ¬ WG x0 x1 x2 → ψ (-1) τ) (H1 : ∀ s t m : Nat, s < 4096 → t < 4096 → m ≤ 8 → x0 = nI s → x1 = nI t → x2 = nI m → 1 ≤ ppop s → ppop s ≤ 4 → ppop t = ppop s → zRun G MX12_ways 79 [(0, .ref 29), (1, .int (nI s)), (2, .int (nI t)), (3, .int (nI m)), (4, .int (nI (ppop s))), (5, .int (0 : Int32))] [] τ (zpl ψ)) : zCall G MX12_ways [.ref 29, .int x0, .int x1, .int x2] τ (zpl ψ) := by
  have cv : ∀ (x : Int32) (c : Nat) (C : Int64), C.toInt = c → ((0 : Int64).toInt ≤ x.toInt64.toInt ∧ x.toInt64.toInt ≤ C.toInt) → ∃ s, s < c + 1 ∧ x = nI s := by
    intro x c C hC h
    rw [t0, hC, i64] at h
    exact of_range h.1 (by omega)
  have nv : ∀ (x : Int32) (c s : Nat) (C : Int64), C.toInt = c → c < 2 ^ 20 → s ≤ c → x = nI s → ((0 : Int64).toInt ≤ x.toInt64.toInt ∧ x.toInt64.toInt ≤ C.toInt) := by
    intro x c s C hC hc hs e
    rw [t0, hC, i64, e, nI_toInt (by omega)]
    omega
  refine C_X12_ways _ _ _ τ (sp_in (b_a (fun h => pl_ok (H0 (fun ⟨s, t, m, a, b, c, d, e, f, _⟩ => h (nv x0 4095 s 4095 t4095L (by decide) (by omega) d)))) (fun h => sp_in (b_a (fun h2 => pl_ok (H0 (fun ⟨s, t, m, a, b, c, d, e, f, _⟩ => h2 (nv x1 4095 t 4095 t4095L (by decide) (by omega) e)))) (fun h2 => sp_in (b_a (fun h3 => pl_ok (H0 (fun ⟨s, t, m, a, b, c, d, e, f, _⟩ => h3 (nv x2 8 m 8 t8L' (by decide) (by omega) f)))) (fun h3 => ?_)))))))
  obtain ⟨s, hs, rfl⟩ := cv x0 4095 4095 t4095L h
  obtain ⟨t, ht, rfl⟩ := cv x1 4095 4095 t4095L h2
  obtain ⟨m, hm, rfl⟩ := cv x2 8 8 t8L' h3
  have hle := ppop_le s
  have hle2 := ppop_le t
  rw [toI64 (by omega), toI64 (by omega)]
  refine sp_sizeOf (by omega) ?_
  have inj : ∀ a b, a < 4096 → b < 4096 → nI a = nI b → a = b := fun a b ha hb e => (nI_eq (by omega) (by omega)).1 e
  have h4 : ((1 : Int64).toInt ≤ (nI (ppop s)).toInt64.toInt ∧ (nI (ppop s)).toInt64.toInt ≤ (4 : Int64).toInt) ↔ (1 ≤ ppop s ∧ ppop s ≤ 4) := by
    rw [t1L, t4L', i64, nI_toInt (by omega)]
    omega
  refine sp_in (b_a (fun y => pl_ok (H0 (fun ⟨s', t', m', a, b, c, d, e, f, p1, p2, p3⟩ => y (h4.2 (by rw [inj s s' (by omega) a d]; exact ⟨p1, p2⟩))))) (fun y => sp_sizeOf (by omega) (sp_sizeOf (by omega) ?_)))
  have y := h4.1 y
  rw [nI_eq (by omega) (by omega)]
  refine ⟨fun z => sp_sizeOf (by omega) (H1 s t m (by omega) (by omega) (by omega) rfl rfl rfl y.1 y.2 z), fun z => pl_ok (H0 (fun ⟨s', t', m', a, b, c, d, e, f, p1, p2, p3⟩ => z ?_))⟩
  rw [inj s s' (by omega) a d, inj t t' (by omega) b e]; exact p3
theorem tup_ex {s n : Nat} (hs : s < 4096) (hn : ppop s = n) : ∃ x, okT n 1 x ∧ setS n x = 2 * s := by
  have r2 := (tb_ord 0 (by decide)).2
  have r1 := (tb_ord 0 (by decide)).1
  have key : ∀ k, k ≤ 12 → ∃ x, okT (cO s 0 k) 1 x ∧ ∀ pp, (setS (cO s 0 k) x).testBit pp = true ↔ ∃ j, j < k ∧ s.testBit (ordL 0 j) = true ∧ pp = ordL 0 j + 1 := by
    intro k
    induction k with
    | zero =>
      intro _
      refine ⟨fun _ => 0, ⟨fun i hi => absurd hi (by show ¬ i < 0; omega), fun i hi => absurd hi (by show ¬ i < 0; omega)⟩, fun pp => ⟨fun h => ?_, fun ⟨j, a, _⟩ => absurd a (by omega)⟩⟩
      have h : (0 : Nat).testBit pp = true := h
      rw [Nat.zero_testBit] at h; exact Bool.noConfusion h
    | succ k ih =>
      intro hk
      obtain ⟨x, g2, g3⟩ := ih (by omega)
      by_cases hb : s.testBit (ordL 0 k) = true
      · have e1 : cO s 0 (k + 1) = cO s 0 k + 1 := by rw [cO_s, if_pos hb]
        obtain ⟨p1, p2⟩ := r2 k (by omega)
        have t0 : tup x (cO s 0 k) (ordL 0 k + 1) (cO s 0 k) = ordL 0 k + 1 := if_pos rfl
        have t1 : ∀ i, i ≠ cO s 0 k → tup x (cO s 0 k) (ordL 0 k + 1) i = x i := fun i hi => if_neg hi
        refine ⟨tup x (cO s 0 k) (ordL 0 k + 1), ?_, ?_⟩
        · rw [e1]
          refine ⟨fun i hi => ?_, fun i hi j hj => ?_⟩
          · by_cases q : i = cO s 0 k
            · rw [q, t0]; omega
            · rw [t1 i q]; exact g2.1 i (by omega)
          · by_cases q : i = cO s 0 k
            · rw [q, t0, t1 j (by omega)]
              obtain ⟨jj, a, c, d⟩ := (g3 (x j)).1 ((setS_bit x _ _).2 ⟨j, by omega, rfl⟩)
              rw [d]; exact p2 jj a
            · rw [t1 i q, t1 j (by omega)]; exact g2.2 i (by omega) j hj
        · intro pp
          rw [e1, setS_bit]
          constructor
          · intro ⟨i, hi, e⟩
            by_cases q : i = cO s 0 k
            · rw [q, t0] at e
              exact ⟨k, by omega, hb, e.symm⟩
            · rw [t1 i q] at e
              obtain ⟨jj, a, c, d⟩ := (g3 pp).1 ((setS_bit x _ _).2 ⟨i, by omega, e⟩)
              exact ⟨jj, by omega, c, d⟩
          · intro ⟨j, hj, c, d⟩
            by_cases q : j = k
            · exact ⟨cO s 0 k, by omega, by rw [t0, d, q]⟩
            · obtain ⟨i, hi, e⟩ := (setS_bit x _ _).1 ((g3 pp).2 ⟨j, by omega, c, d⟩)
              exact ⟨i, by omega, by rw [t1 i (by omega)]; exact e⟩
      · have e1 : cO s 0 (k + 1) = cO s 0 k := by rw [cO_s, if_neg hb]; rfl
        refine ⟨x, by rw [e1]; exact g2, fun pp => ?_⟩
        rw [e1, g3]
        constructor
        · intro ⟨i, a, b, f⟩; exact ⟨i, by omega, b, f⟩
        · intro ⟨i, a, b, f⟩
          by_cases q : i = k
          · rw [q] at b; exact absurd b hb
          · exact ⟨i, by omega, b, f⟩
  obtain ⟨x, h1, h2⟩ := key 12 (Nat.le_refl _)
  rw [cO_pop hs (by decide), hn] at h1 h2
  refine ⟨x, h1, ?_⟩
  apply Nat.eq_of_testBit_eq
  intro pp
  rw [Bool.eq_iff_iff, h2]
  constructor
  · intro ⟨j, a, c, d⟩
    rw [d, dbl_bit]; exact c
  · intro h
    obtain ⟨a, ha, e⟩ := List.mem_map.1 ((ml_mem hs pp).2 h)
    rw [List.mem_filter, List.mem_range] at ha
    obtain ⟨j, j1, j2⟩ := r1 a ha.1
    exact ⟨j, j1, by rw [j2]; exact ha.2, by rw [j2]; exact e.symm⟩
theorem pair_ways {G : hz_G} {τ : hz_T} (hI : Inv τ) (x0 : Int32) (x1 : Int32) (x2 : Int32) : PL G MX11_ways MX12_ways [.ref 0, .int x0, .int x1, .int x2] [.ref 29, .int x0, .int x1, .int x2] τ := by
  obtain ⟨v, hv⟩ := hI.to
  have bad : ¬ WG x0 x1 x2 → zCall G MX12_ways [.ref 29, .int x0, .int x1, .int x2] τ (zpl (fun b τ2 => (-1 : Int64) = b ∧ Inv τ2)) := fun h => ways_head x0 x1 x2 (fun _ => ⟨rfl, hI⟩) (fun s t m a b c d e f p1 p2 p3 => absurd ⟨s, t, m, a, b, c, d, e, f, p1, p2, p3⟩ h)
  refine C_X11_ways x0 x1 x2 τ (sp_areWalkers (fun s hs e0 p1 p2 => ⟨fun y => absurd y (by decide), fun _ => ?_⟩) (fun h => ⟨fun _ => pl_ok (bad (fun ⟨s, t, m, a, b, c, d, e, f, p1, p2, p3⟩ => h ⟨s, a, d, p1, p2⟩)), fun y => absurd rfl y⟩))
  refine sp_areWalkers (fun t ht e1 q1 q2 => ⟨fun y => absurd y (by decide), fun _ => ?_⟩) (fun h => ⟨fun _ => pl_ok (bad (fun ⟨s, t, m, a, b, c, d, e, f, p1, p2, p3⟩ => h ⟨t, b, e, by omega, by omega⟩)), fun y => absurd rfl y⟩)
  have t8' : (8 : Int32).toInt = 8 := by decide
  refine sp_within (b_b (fun h => ?_) (fun h => pl_ok (bad (fun ⟨s, t, m, a, b, c, d, e, f, _⟩ => h ?_))))
  · rw [t0', t8'] at h
    obtain ⟨m, hm, rfl⟩ := of_range (n := 9) h.1 (by omega)
    subst e0
    subst e1
    refine sp_bc (sp_bc ?_)
    rw [bcf_eq hs, bcf_eq ht, nI_eq (by omega) (by omega)]
    refine ⟨fun c => sp_waysBetween hs ht (by omega) rfl p1 p2 c.symm (fun τ1 g1 => pl_ok ?_), fun c => pl_ok (bad (fun ⟨s', t', m', a, b, _, d, e, f, _, _, p3⟩ => c ?_))⟩
    · have k1 : Sk [20, 21, 22, 23, 24] τ τ1 := ⟨g1, by rw [(g1 29 (by decide)).1], by rw [(g1 29 (by decide)).1]⟩
      have hv1 := hv.sk k1 (by decide)
      refine ways_head _ _ _ (fun h2 => absurd ⟨s, t, m, hs, ht, by omega, rfl, rfl, rfl, p1, p2, c.symm⟩ h2) (fun s' t' m' a b cc d e f r1 r2 r3 => ?_)
      have es : s = s' := (nI_eq (by omega) (by omega)).1 d
      have et : t = t' := (nI_eq (by omega) (by omega)).1 e
      have em : m = m' := (nI_eq (by omega) (by omega)).1 f
      rw [← es, ← et, ← em]
      exact sp_mways p2 (tup_ex hs rfl) hs ht (by omega) (fun τ2 g2 => ⟨rfl, (hv1.sk g2 (by decide)).of⟩)
    · have es : s = s' := (nI_eq (by omega) (by omega)).1 d
      have et : t = t' := (nI_eq (by omega) (by omega)).1 e
      rw [es, et]; exact p3.symm
  · rw [t0', t8', f, nI_toInt (by omega)]
    omega

/-! what reaches what: rows of bits -/
theorem lN_inj {a b : Nat} (ha : a < 2 ^ 64) (hb : b < 2 ^ 64) : lN a = lN b ↔ a = b := by
  constructor
  · intro h
    have := congrArg (fun z : Int64 => z.toBitVec.toNat) h
    have e : (lN a).toBitVec.toNat = (lN b).toBitVec.toNat := this
    rwa [wb_tn ha, wb_tn hb] at e
  · intro h; rw [h]
theorem cbit {n k : Nat} (hn : n < 2 ^ 64) (hk : k < 64) : ((lN n).toUInt64 >>> ((nI k).toInt64.toUInt64 &&& Int64.toUInt64 63)).toInt64 &&& 1 = lN (if n.testBit k = true then 1 else 0) := by
  rw [wb_bit hn hk, Nat.testBit_eq_decide_div_mod_eq]
  rcases Nat.mod_two_eq_zero_or_one (n / 2 ^ k) with e | e <;> rw [e] <;> rfl
theorem lb1 {b : Bool} : lg_cmp (lN (if b = true then 1 else 0)) (1 : Int64) = 0 ↔ b = true := by cases b <;> decide
theorem lb0 {b : Bool} : lg_cmp (lN (if b = true then 1 else 0)) (0 : Int64) = 0 ↔ b = false := by cases b <;> decide
theorem pclS_s (k m : Nat) (f : Nat → Nat) : pclS k (m + 1) f = pcl1 k m (pclS k m f) := foldl_rs _ _ _
theorem pclK_s (m : Nat) (f : Nat → Nat) (k : Nat) : pclK m f (k + 1) = pclS k m (pclK m f k) := foldl_rs _ _ _
theorem pclK_0 (m : Nat) (f : Nat → Nat) : pclK m f 0 = f := rfl
theorem pclS_0 (k : Nat) (f : Nat → Nat) : pclS k 0 f = f := rfl
def pr0 (v : Nat → Nat) (s : Nat) : Nat := ptgt v s ||| 1 <<< s
theorem preach_0 (v : Nat → Nat) : preach v = pclK (2 ^ v 0) (pr0 v) (2 ^ v 0) := rfl
def RB (m B : Nat) (f : Nat → Nat) : Prop := ∀ a, a < m → f a < 2 ^ B
theorem RB.s {m B k s : Nat} {f : Nat → Nat} (h : RB m B f) (hk : k < m) (hs : s < m) : RB m B (pcl1 k s f) := by
  intro a ha
  unfold pcl1
  split
  · exact Nat.or_lt_two_pow (h s hs) (h k hk)
  · exact h a ha
theorem RB.S {m B k : Nat} {f : Nat → Nat} (h : RB m B f) (hk : k < m) : ∀ j, j ≤ m → RB m B (pclS k j f) := by
  intro j
  induction j with
  | zero => intro _; exact h
  | succ j ih => intro hj; rw [pclS_s]; exact (ih (by omega)).s hk (by omega)
theorem RB.K {m B : Nat} {f : Nat → Nat} (h : RB m B f) : ∀ k, k ≤ m → RB m B (pclK m f k) := by
  intro k
  induction k with
  | zero => intro _; exact h
  | succ k ih => intro hk; rw [pclK_s]; exact (ih (by omega)).S (by omega) m (Nat.le_refl _)
theorem pr0_RB {v : Nat → Nat} (h : LaneOK v) : RB (2 ^ v 0) (2 ^ v 0) (pr0 v) := by
  intro a ha
  unfold pr0
  refine Nat.or_lt_two_pow ?_ ?_
  · rw [ptgt_F]; exact tgI_lt h ha _ (Nat.le_refl _)
  · rw [Nat.one_shiftLeft]; exact Nat.pow_lt_pow_right (by decide) ha
theorem preach_lt {v : Nat → Nat} (h : LaneOK v) {s : Nat} (hs : s < 2 ^ v 0) : preach v s < 2 ^ (2 ^ v 0) := by
  rw [preach_0]
  exact (pr0_RB h).K _ (Nat.le_refl _) s hs
theorem preach_64 {v : Nat → Nat} (h : LaneOK v) {s : Nat} (hs : s < 2 ^ v 0) : preach v s < 2 ^ 64 := Nat.lt_of_lt_of_le (preach_lt h hs) (pp64 h.n.2)
/-! one step of the closing, and that all of it is closed -/
theorem pclS_at {k m : Nat} {f : Nat → Nat} (hk : k < m) : ∀ j, j ≤ m → ∀ a, pclS k j f a = if a < j ∧ (f a).testBit k = true then f a ||| f k else f a := by
  intro j
  induction j with
  | zero => intro _ a; rw [pclS_0, if_neg (by omega)]
  | succ j ih =>
    intro hj a
    have h1 := ih (by omega)
    have ek : pclS k j f k = f k := by
      rw [h1 k]
      split
      · exact Nat.or_self _
      · rfl
    have ej : pclS k j f j = f j := by rw [h1 j, if_neg (by omega)]
    rw [pclS_s]
    show (if a = j ∧ (pclS k j f j).testBit k = true then pclS k j f j ||| pclS k j f k else pclS k j f a) = _
    rw [ek, ej, h1 a]
    by_cases q : a = j
    · subst q
      by_cases w : (f a).testBit k = true
      · rw [if_pos ⟨rfl, w⟩, if_pos ⟨by omega, w⟩]
      · rw [if_neg (fun y => w y.2), if_neg (fun y => w y.2), if_neg (fun y => w y.2)]
    · rw [if_neg (fun y => q y.1)]
      by_cases w : a < j ∧ (f a).testBit k = true
      · rw [if_pos w, if_pos ⟨by omega, w.2⟩]
      · rw [if_neg w, if_neg (fun y => w ⟨by omega, y.2⟩)]
theorem pclK_bit {m k : Nat} {f : Nat → Nat} (hk : k < m) {a : Nat} (ha : a < m) (b : Nat) : (pclK m f (k + 1) a).testBit b = ((pclK m f k a).testBit b || ((pclK m f k a).testBit k && (pclK m f k k).testBit b)) := by
  rw [pclK_s, pclS_at hk m (Nat.le_refl _)]
  by_cases w : (pclK m f k a).testBit k = true
  · rw [if_pos ⟨ha, w⟩, Nat.testBit_or, w, Bool.true_and]
  · rw [if_neg (fun y => w y.2), (Bool.not_eq_true _).mp w, Bool.false_and, Bool.or_false]
theorem pclK_tr {m : Nat} {f : Nat → Nat} : ∀ k, k ≤ m → ∀ a b j, a < m → b < m → j < k → (pclK m f k a).testBit j = true → (pclK m f k j).testBit b = true → (pclK m f k a).testBit b = true := by
  intro k
  induction k with
  | zero => intro _ a b j _ _ h; omega
  | succ k ih =>
    intro hk a b j ha hb hj h1 h2
    have ih := ih (by omega)
    have hkm : k < m := by omega
    have hjm : j < m := by omega
    rw [pclK_bit hkm ha, Bool.or_eq_true, Bool.and_eq_true] at h1 ⊢
    rw [pclK_bit hkm hjm, Bool.or_eq_true, Bool.and_eq_true] at h2
    by_cases q : j = k
    · subst q
      have g1 : (pclK m f j a).testBit j = true := by rcases h1 with h | h; exact h; exact h.1
      have g2 : (pclK m f j j).testBit b = true := by rcases h2 with h | h; exact h; exact h.2
      exact Or.inr ⟨g1, g2⟩
    · have hjk : j < k := by omega
      rcases h1 with h1 | h1
      · rcases h2 with h2 | h2
        · exact Or.inl (ih a b j ha hb hjk h1 h2)
        · exact Or.inr ⟨ih a k j ha hkm hjk h1 h2.1, h2.2⟩
      · rcases h2 with h2 | h2
        · exact Or.inr ⟨h1.1, ih k b j hkm hb hjk h1.2 h2⟩
        · exact Or.inr ⟨h1.1, h2.2⟩
theorem pclK_mono {m : Nat} {f : Nat → Nat} {a b : Nat} (ha : a < m) (h : (f a).testBit b = true) : ∀ k, k ≤ m → (pclK m f k a).testBit b = true := by
  intro k
  induction k with
  | zero => intro _; exact h
  | succ k ih => intro hk; rw [pclK_bit (by omega) ha, ih (by omega)]; rfl
theorem preach_tr {v : Nat → Nat} {a b j : Nat} (ha : a < 2 ^ v 0) (hb : b < 2 ^ v 0) (hj : j < 2 ^ v 0) (h1 : (preach v a).testBit j = true) (h2 : (preach v j).testBit b = true) : (preach v a).testBit b = true := by
  rw [preach_0] at h1 h2 ⊢
  exact pclK_tr _ (Nat.le_refl _) a b j ha hb hj h1 h2
theorem preach_0b {v : Nat → Nat} {a b : Nat} (ha : a < 2 ^ v 0) (h : (pr0 v a).testBit b = true) : (preach v a).testBit b = true := by
  rw [preach_0]
  exact pclK_mono ha h _ (Nat.le_refl _)
theorem preach_rf {v : Nat → Nat} {a : Nat} (ha : a < 2 ^ v 0) : (preach v a).testBit a = true := by
  refine preach_0b ha ?_
  unfold pr0
  rw [Nat.testBit_or, Nat.one_shiftLeft, Nat.testBit_two_pow_self, Bool.or_true]
theorem preach_big {v : Nat → Nat} (h : LaneOK v) {a b : Nat} (ha : a < 2 ^ v 0) (hb : (preach v a).testBit b = true) : b < 2 ^ v 0 := by
  rcases Nat.lt_or_ge b (2 ^ v 0) with q | q
  · exact q
  · have h1 : preach v a < 2 ^ b := Nat.lt_of_lt_of_le (preach_lt h ha) (Nat.pow_le_pow_right (by decide) q)
    rw [Nat.testBit_lt_two_pow h1] at hb
    exact Bool.noConfusion hb
theorem preach_eq {v : Nat → Nat} (h : LaneOK v) {s t : Nat} (hs : s < 2 ^ v 0) (ht : t < 2 ^ v 0) : preach v t = preach v s ↔ (preach v s).testBit t = true ∧ (preach v t).testBit s = true := by
  constructor
  · intro e
    refine ⟨?_, ?_⟩
    · rw [← e]; exact preach_rf ht
    · rw [e]; exact preach_rf hs
  · intro q
    apply Nat.eq_of_testBit_eq
    intro i
    by_cases a : (preach v s).testBit i = true
    · rw [a]
      exact preach_tr ht (preach_big h hs a) hs q.2 a
    · rw [(Bool.not_eq_true _).mp a]
      by_cases b : (preach v t).testBit i = true
      · exact absurd (preach_tr hs (preach_big h ht b) ht q.1 b) a
      · exact (Bool.not_eq_true _).mp b
/-! the bits of targets are the rates above 0 -/
theorem tgI_bit (v : Nat → Nat) (s j : Nat) : ∀ g, (tgI v s g).testBit j = decide (0 < psum g (rF v s j)) := by
  intro g
  induction g with
  | zero => exact Nat.zero_testBit _
  | succ g ih =>
    rw [tgI_s, psum_s]
    by_cases q : 0 < oF v s g
    · rw [if_pos q, Nat.testBit_or, ih, Nat.one_shiftLeft, Nat.testBit_two_pow]
      by_cases w : s ^^^ pbg (v 0) (v 1) g = j
      · have eF : rF v s j g = oF v s g := if_pos w
        rw [eF, decide_eq_true w, Bool.or_true, decide_eq_true (show 0 < psum g (rF v s j) + oF v s g by omega)]
      · have eF : rF v s j g = 0 := if_neg w
        rw [eF, decide_eq_false w, Bool.or_false, Nat.add_zero]
    · have eF : rF v s j g = 0 := by
        have e0 : oF v s g = 0 := by omega
        unfold rF
        unfold oF at e0
        rw [e0, ite_self]
      rw [if_neg q, ih, eF, Nat.add_zero]
theorem ptgt_bit (v : Nat → Nat) (s j : Nat) : (ptgt v s).testBit j = decide (0 < prate v s j) := tgI_bit v s j _
theorem prate_big {v : Nat → Nat} (h : LaneOK v) {s j : Nat} (hs : s < 2 ^ v 0) (hj : ¬ j < 2 ^ v 0) : prate v s j = 0 := by
  rw [prate_F]
  refine psum_z _ (fun g hg => if_neg (fun e => hj ?_))
  rw [← e]
  exact Nat.xor_lt_two_pow hs (pbg_ok h hg).1
def mrI (v : Nat → Nat) (s : Nat) : Nat → Nat
  | 0 => 1 <<< s
  | t + 1 => mrI v s t ||| (if 0 < prate v s t then 1 <<< t else 0)
theorem mrI_s (v : Nat → Nat) (s t : Nat) : mrI v s (t + 1) = mrI v s t ||| (if 0 < prate v s t then 1 <<< t else 0) := rfl
theorem mrI_bit (v : Nat → Nat) (s j : Nat) : ∀ t, (mrI v s t).testBit j = (decide (s = j) || (decide (j < t) && decide (0 < prate v s j))) := by
  intro t
  induction t with
  | zero =>
    show (1 <<< s).testBit j = _
    rw [Nat.one_shiftLeft, Nat.testBit_two_pow, decide_eq_false (show ¬ j < 0 by omega), Bool.false_and, Bool.or_false]
  | succ t ih =>
    rw [mrI_s, Nat.testBit_or, ih]
    by_cases q : j = t
    · subst q
      rw [decide_eq_false (show ¬ j < j by omega), decide_eq_true (show j < j + 1 by omega), Bool.false_and, Bool.or_false, Bool.true_and]
      by_cases w : 0 < prate v s j
      · rw [if_pos w, decide_eq_true w, Nat.one_shiftLeft, Nat.testBit_two_pow_self]
      · rw [if_neg w, decide_eq_false w, Nat.zero_testBit]
    · have e : (if 0 < prate v s t then 1 <<< t else 0).testBit j = false := by
        split
        · rw [Nat.one_shiftLeft, Nat.testBit_two_pow, decide_eq_false (by omega)]
        · exact Nat.zero_testBit _
      have e2 : decide (j < t + 1) = decide (j < t) := by
        by_cases z : j < t
        · rw [decide_eq_true z, decide_eq_true (show j < t + 1 by omega)]
        · rw [decide_eq_false z, decide_eq_false (show ¬ j < t + 1 by omega)]
      rw [e, e2, Bool.or_false]
theorem mrI_eq {v : Nat → Nat} (h : LaneOK v) {s : Nat} (hs : s < 2 ^ v 0) : mrI v s (2 ^ v 0) = pr0 v s := by
  apply Nat.eq_of_testBit_eq
  intro j
  unfold pr0
  rw [mrI_bit, Nat.testBit_or, ptgt_bit, Nat.one_shiftLeft, Nat.testBit_two_pow, Bool.or_comm]
  by_cases q : j < 2 ^ v 0
  · rw [decide_eq_true q, Bool.true_and]
  · rw [decide_eq_false q, Bool.false_and, prate_big h hs q]
    rfl
theorem mrI_lt {v : Nat → Nat} {s m : Nat} (hs : s < m) : ∀ t, t ≤ m → mrI v s t < 2 ^ m := by
  intro t
  induction t with
  | zero => intro _; show 1 <<< s < _; rw [Nat.one_shiftLeft]; exact Nat.pow_lt_pow_right (by decide) hs
  | succ t ih =>
    intro ht
    rw [mrI_s]
    refine Nat.or_lt_two_pow (ih (by omega)) ?_
    split
    · rw [Nat.one_shiftLeft]; exact Nat.pow_lt_pow_right (by decide) (by omega)
    · exact Nat.two_pow_pos _
theorem nI_le0 {a : Nat} (h : a < 2 ^ 31) : nI a ≤ (0 : Int32) ↔ a = 0 := by
  rw [← nI_0, nI_leI h (by decide)]
  omega
section RW
variable {G : hz_G} {τ : hz_T} {v : Nat → Nat} {χ : hz_T → Prop}
theorem min64 {n : Nat} (h : n ≤ 6) : (if nI 64 < nI (2 ^ n) then nI 64 else nI (2 ^ n)) = nI (2 ^ n) := by
  have hp := pw64 h
  rw [if_neg (fun z => absurd ((nI_ltJ (by decide) (by omega)).1 z) (by omega))]
theorem sp_findReach (hL : LC v τ) (H : ∀ τ', Sm [8] τ τ' → (∀ s, s < 2 ^ v 0 → τ'.1.2 8 s = lN (preach v s)) → χ τ') : zCall G MX3_findReach [.ref 7] τ (zpv χ) := by
  have hn := hL.1.n
  have hp := pw64 hn.2
  have h64 := pp64 hn.2
  refine C_X3_findReach τ (sp_cstates hL (fun x hx => ?_))
  rw [min64 hn.2] at hx
  subst hx
  have outer : ∀ m k τ1, k + m = 2 ^ v 0 → Sm [8] τ τ1 → (∀ a, a < 2 ^ v 0 → τ1.1.2 8 a = lN (pclK (2 ^ v 0) (pr0 v) k a)) → zRun G MX3_findReach 49 [(0, .ref 7), (1, .int (nI (2 ^ v 0))), (2, .int (nI k))] [] τ1 (zpv χ) := by
    intro m
    induction m with
    | zero =>
      intro k τ1 e g1 g2
      have e : k = 2 ^ v 0 := by omega
      subst e
      exact V_X3_findReach_49 _ _ τ1 ⟨fun _ => pv_ok (H τ1 g1 g2), fun q => absurd (nI_le (Nat.le_refl _) (by omega)) q⟩
    | succ m ih =>
      intro k τ1 e g1 g2
      have hk : k < 2 ^ v 0 := by omega
      have rb := (pr0_RB hL.1).K k (by omega)
      refine V_X3_findReach_49 _ _ τ1 ⟨fun q => absurd q (nI_ge (by omega) (by omega)), fun _ => ?_⟩
      have inner : ∀ m j τ2, j + m = 2 ^ v 0 → Sm [8] τ τ2 → (∀ a, a < 2 ^ v 0 → τ2.1.2 8 a = lN (pclS k j (pclK (2 ^ v 0) (pr0 v) k) a)) → zRun G MX3_findReach 56 [(0, .ref 7), (1, .int (nI (2 ^ v 0))), (2, .int (nI k)), (3, .int (nI j))] [] τ2 (zpv χ) := by
        intro m
        induction m with
        | zero =>
          intro j τ2 e' g3 g4
          have e' : j = 2 ^ v 0 := by omega
          subst e'
          refine V_X3_findReach_56 _ _ _ τ2 ⟨fun _ => ?_, fun q => absurd (nI_le (Nat.le_refl _) (by omega)) q⟩
          rw [i1]
          exact ih (k + 1) τ2 (by omega) g3 (fun a ha => by rw [g4 a ha, pclK_s])
        | succ m ihm =>
          intro j τ2 e' g3 g4
          have hj : j < 2 ^ v 0 := by omega
          have rs := rb.S hk j (by omega)
          have b1 := Nat.lt_of_lt_of_le (rs j hj) h64
          have b2 := Nat.lt_of_lt_of_le (rs k hk) h64
          refine V_X3_findReach_56 _ _ _ τ2 ⟨fun q => absurd q (nI_ge (by omega) (by omega)), fun _ => ⟨j, rfl, by omega, ?_⟩⟩
          rw [i1, g4 j hj, cbit b1 (by omega), lb1]
          refine ⟨fun q => ihm (j + 1) τ2 (by omega) g3 (fun a ha => ?_), fun q => ⟨j, rfl, by omega, k, rfl, by omega, j, rfl, by omega, ihm (j + 1) _ (by omega) (g3.L (by decide)) (fun a ha => ?_)⟩⟩
          · rw [g4 a ha, pclS_s]
            unfold pcl1
            rw [if_neg (fun y => q y.2)]
          · rw [zL_at, pclS_s]
            unfold pcl1
            by_cases w : a = j
            · rw [if_pos ⟨rfl, w⟩, if_pos ⟨w, q⟩, g4 j hj, g4 k hk, wb_or b1 b2]
            · rw [if_neg (fun y => w y.2), if_neg (fun y => w y.1), g4 a ha]
      exact inner (2 ^ v 0) 0 τ1 (by omega) g1 g2
  have first : ∀ m k τ1, k + m = 2 ^ v 0 → Sm [8] τ τ1 → (∀ a, a < k → τ1.1.2 8 a = lN (pr0 v a)) → zRun G MX3_findReach 18 [(0, .ref 7), (1, .int (nI (2 ^ v 0))), (2, .int (nI k))] [] τ1 (zpv χ) := by
    intro m
    induction m with
    | zero =>
      intro k τ1 e g1 g2
      have e : k = 2 ^ v 0 := by omega
      subst e
      exact V_X3_findReach_18 _ _ τ1 ⟨fun _ => outer (2 ^ v 0) 0 τ1 (by omega) g1 g2, fun q => absurd (nI_le (Nat.le_refl _) (by omega)) q⟩
    | succ m ih =>
      intro k τ1 e g1 g2
      have hk : k < 2 ^ v 0 := by omega
      have ht : ptgt v k < 2 ^ 64 := Nat.lt_of_lt_of_le (tgI_lt hL.1 hk _ (Nat.le_refl _)) h64
      refine V_X3_findReach_18 _ _ τ1 ⟨fun q => absurd q (nI_ge (by omega) (by omega)), fun _ => sp_targets (hL.sm g1 (by decide)) hk ⟨k, rfl, by omega, ?_⟩⟩
      rw [i1, one_l (by omega), wb_or ht (sh64 (by omega))]
      refine ih (k + 1) _ (by omega) (g1.L (by decide)) (fun a ha => ?_)
      rw [zL_at]
      by_cases w : a = k
      · rw [if_pos ⟨rfl, w⟩, w]; rfl
      · rw [if_neg (fun y => w y.2)]
        exact g2 a (by omega)
  exact first (2 ^ v 0) 0 τ (by omega) Sm.rf (fun a ha => absurd ha (by omega))
theorem sp_layReaches (hL : LM v τ) (H : ∀ τ', Sk [35] τ τ' → (∀ s, s < 2 ^ v 0 → τ'.1.2 35 s = lN (preach v s)) → χ τ') : zCall G MX12_layReaches [.ref 29] τ (zpv χ) := by
  have hn := hL.1.n
  have hp := pw64 hn.2
  have h64 := pp64 hn.2
  refine C_X12_layReaches τ (sp_mstates hL ?_)
  have outer : ∀ m k τ1, k + m = 2 ^ v 0 → Sk [35] τ τ1 → (∀ a, a < 2 ^ v 0 → τ1.1.2 35 a = lN (pclK (2 ^ v 0) (pr0 v) k a)) → zRun G MX12_layReaches 67 [(0, .ref 29), (1, .int (nI (2 ^ v 0))), (2, .int (nI k))] [] τ1 (zpv χ) := by
    intro m
    induction m with
    | zero =>
      intro k τ1 e g1 g2
      have e : k = 2 ^ v 0 := by omega
      subst e
      exact V_X12_layReaches_67 _ _ τ1 ⟨fun _ => pv_ok (H τ1 g1 g2), fun q => absurd (nI_le (Nat.le_refl _) (by omega)) q⟩
    | succ m ih =>
      intro k τ1 e g1 g2
      have hk : k < 2 ^ v 0 := by omega
      have rb := (pr0_RB hL.1).K k (by omega)
      refine V_X12_layReaches_67 _ _ τ1 ⟨fun q => absurd q (nI_ge (by omega) (by omega)), fun _ => ?_⟩
      have inner : ∀ m j τ2, j + m = 2 ^ v 0 → Sk [35] τ τ2 → (∀ a, a < 2 ^ v 0 → τ2.1.2 35 a = lN (pclS k j (pclK (2 ^ v 0) (pr0 v) k) a)) → zRun G MX12_layReaches 74 [(0, .ref 29), (1, .int (nI (2 ^ v 0))), (2, .int (nI k)), (3, .int (nI j))] [] τ2 (zpv χ) := by
        intro m
        induction m with
        | zero =>
          intro j τ2 e' g3 g4
          have e' : j = 2 ^ v 0 := by omega
          subst e'
          refine V_X12_layReaches_74 _ _ _ τ2 ⟨fun _ => ?_, fun q => absurd (nI_le (Nat.le_refl _) (by omega)) q⟩
          rw [i1]
          exact ih (k + 1) τ2 (by omega) g3 (fun a ha => by rw [g4 a ha, pclK_s])
        | succ m ihm =>
          intro j τ2 e' g3 g4
          have hj : j < 2 ^ v 0 := by omega
          have rs := rb.S hk j (by omega)
          have b1 := Nat.lt_of_lt_of_le (rs j hj) h64
          have b2 := Nat.lt_of_lt_of_le (rs k hk) h64
          refine V_X12_layReaches_74 _ _ _ τ2 ⟨fun q => absurd q (nI_ge (by omega) (by omega)), fun _ => ⟨j, rfl, by omega, j, rfl, by omega, ?_⟩⟩
          rw [i1, g4 j hj, lbit b1 (by omega), lb1]
          refine ⟨fun q => ⟨j, rfl, by omega, ihm (j + 1) _ (by omega) (g3.L (by decide)) (fun a ha => ?_)⟩, fun q => ⟨k, rfl, by omega, j, rfl, by omega, ihm (j + 1) _ (by omega) (g3.L (by decide)) (fun a ha => ?_)⟩⟩
          · rw [zL_at, pclS_s]
            unfold pcl1
            by_cases w : a = j
            · rw [if_pos ⟨rfl, w⟩, if_neg (fun y => q y.2), Int64.or_zero, w]
            · rw [if_neg (fun y => w y.2), if_neg (fun y => w y.1), g4 a ha]
          · rw [zL_at, pclS_s]
            unfold pcl1
            by_cases w : a = j
            · rw [if_pos ⟨rfl, w⟩, if_pos ⟨w, q⟩, g4 k hk, wb_or b1 b2]
            · rw [if_neg (fun y => w y.2), if_neg (fun y => w y.1), g4 a ha]
      exact inner (2 ^ v 0) 0 τ1 (by omega) g1 g2
  have first : ∀ m k τ1, k + m = 2 ^ v 0 → Sk [35] τ τ1 → (∀ a, a < k → τ1.1.2 35 a = lN (pr0 v a)) → zRun G MX12_layReaches 7 [(0, .ref 29), (1, .int (nI (2 ^ v 0))), (2, .int (nI k))] [] τ1 (zpv χ) := by
    intro m
    induction m with
    | zero =>
      intro k τ1 e g1 g2
      have e : k = 2 ^ v 0 := by omega
      subst e
      exact V_X12_layReaches_7 _ _ τ1 ⟨fun _ => outer (2 ^ v 0) 0 τ1 (by omega) g1 g2, fun q => absurd (nI_le (Nat.le_refl _) (by omega)) q⟩
    | succ m ih =>
      intro k τ1 e g1 g2
      have hk : k < 2 ^ v 0 := by omega
      refine V_X12_layReaches_7 _ _ τ1 ⟨fun q => absurd q (nI_ge (by omega) (by omega)), fun _ => ⟨k, rfl, by omega, ?_⟩⟩
      have inner : ∀ m t τ2, t + m = 2 ^ v 0 → Sk [35] τ τ2 → (∀ a, a < k → τ2.1.2 35 a = lN (pr0 v a)) → τ2.1.2 35 k = lN (mrI v k t) → zRun G MX12_layReaches 23 [(0, .ref 29), (1, .int (nI (2 ^ v 0))), (2, .int (nI k)), (3, .int (nI t))] [] τ2 (zpv χ) := by
        intro m
        induction m with
        | zero =>
          intro t τ2 e' g3 g4 g5
          have e' : t = 2 ^ v 0 := by omega
          subst e'
          refine V_X12_layReaches_23 _ _ _ τ2 ⟨fun _ => ?_, fun q => absurd (nI_le (Nat.le_refl _) (by omega)) q⟩
          rw [i1]
          refine ih (k + 1) τ2 (by omega) g3 (fun a ha => ?_)
          by_cases w : a = k
          · rw [w, g5, mrI_eq hL.1 hk]
          · exact g4 a (by omega)
        | succ m ihm =>
          intro t τ2 e' g3 g4 g5
          have ht : t < 2 ^ v 0 := by omega
          have hr := prate_le hL.1 k t
          have hb := Nat.lt_of_lt_of_le (mrI_lt (v := v) hk t (by omega)) h64
          refine V_X12_layReaches_23 _ _ _ τ2 ⟨fun q => absurd q (nI_ge (by omega) (by omega)), fun _ => ⟨k, rfl, by omega, sp_rateOf (hL.sk g3 (by decide)) hk ht ⟨k, rfl, by omega, ?_⟩⟩⟩
          have eI : (if nI (prate v k t) ≤ 0 then (0 : Int64) else (1 : Int64) <<< ((nI t).toInt64 &&& 63)) = lN (if 0 < prate v k t then 1 <<< t else 0) := by
            by_cases w : 0 < prate v k t
            · rw [if_pos w, if_neg (fun z => absurd ((nI_le0 (by omega)).1 z) (by omega)), one_l (by omega)]
            · have e0 : prate v k t = 0 := by omega
              rw [if_neg w, e0, if_pos ((nI_le0 (by decide)).2 rfl)]
              rfl
          have hI : (if 0 < prate v k t then 1 <<< t else 0) < 2 ^ 64 := by
            split
            · exact sh64 (by omega)
            · decide
          rw [i1, eI, g5, wb_or hb hI]
          refine ihm (t + 1) _ (by omega) (g3.L (by decide)) (fun a ha => ?_) ?_
          · rw [zL_at, if_neg (fun y => absurd y.2 (by omega))]
            exact g4 a ha
          · rw [zL_at, if_pos ⟨rfl, rfl⟩]
            rfl
      refine inner (2 ^ v 0) 0 _ (by omega) (g1.L (by decide)) (fun a ha => ?_) ?_
      · rw [zL_at, if_neg (fun y => absurd y.2 (by omega))]
        exact g2 a ha
      · rw [zL_at, if_pos ⟨rfl, rfl⟩, one_l (by omega)]
        rfl
  exact first (2 ^ v 0) 0 τ (by omega) Sk.rf (fun a ha => absurd ha (by omega))
end RW

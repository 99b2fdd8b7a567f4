/-! the reference's rows of sets -/
theorem stL_f : ∀ (l : List Nat) t w t', l.Nodup → stL l t w = some t' → ∃ f : Nat → Nat, (∀ a, a ∈ l → f a = a - 1 ∨ f a = a + 1) ∧ (∀ a, a ∈ l → 1 ≤ f a ∧ f a ≤ 12) ∧ (∀ a, a ∈ l → ∀ b, b ∈ l → a ≠ b → f a ≠ f b) ∧ (∀ a, a ∈ l → t.testBit (f a) = false) ∧ (∀ p, t'.testBit p = true ↔ t.testBit p = true ∨ ∃ a, a ∈ l ∧ f a = p) := by
  intro l
  induction l with
  | nil =>
    intro t w t' _ h
    have h : some t = some t' := h
    refine ⟨fun a => a, fun a ha => absurd ha (by intro h; cases h), fun a ha => absurd ha (by intro h; cases h), fun a ha => absurd ha (by intro h; cases h), fun a ha => absurd ha (by intro h; cases h), fun p => ?_⟩
    rw [Option.some.inj h]
    exact ⟨fun h => Or.inl h, fun h => by
      rcases h with h | ⟨a, ha, _⟩
      · exact h
      · cases ha⟩
  | cons c l ih =>
    intro t w t' hn h
    rw [List.nodup_cons] at hn
    have h : (if okp t (if w % 2 = 1 then c + 1 else c - 1) = true then stL l (t ||| 2 ^ (if w % 2 = 1 then c + 1 else c - 1)) (w / 2) else none) = some t' := h
    have hq : (if w % 2 = 1 then c + 1 else c - 1) = c - 1 ∨ (if w % 2 = 1 then c + 1 else c - 1) = c + 1 := by
      by_cases z : w % 2 = 1
      · rw [if_pos z]; exact Or.inr rfl
      · rw [if_neg z]; exact Or.inl rfl
    generalize (if w % 2 = 1 then c + 1 else c - 1) = q at h hq
    by_cases z : okp t q = true
    · rw [if_pos z] at h
      unfold okp at z
      rw [Bool.and_eq_true, decide_eq_true_iff, Bool.not_eq_true'] at z
      obtain ⟨f, f1, f2, f3, f4, f5⟩ := ih _ _ _ hn.2 h
      have g0 : tup f c q c = q := if_pos rfl
      have g1 : ∀ a, a ≠ c → tup f c q a = f a := fun a ha => if_neg ha
      have ne : ∀ a, a ∈ l → a ≠ c := fun a ha e => hn.1 (by rw [← e]; exact ha)
      have fq : ∀ a, a ∈ l → f a ≠ q ∧ t.testBit (f a) = false := by
        intro a ha
        have := f4 a ha
        rw [Nat.testBit_or, Nat.testBit_two_pow, Bool.or_eq_false_iff, decide_eq_false_iff_not] at this
        exact ⟨fun e => this.2 e.symm, this.1⟩
      refine ⟨tup f c q, fun a ha => ?_, fun a ha => ?_, fun a ha b hb hab => ?_, fun a ha => ?_, fun p => ?_⟩
      · rcases List.mem_cons.1 ha with e | e
        · rw [e, g0]; exact hq
        · rw [g1 a (ne a e)]; exact f1 a e
      · rcases List.mem_cons.1 ha with e | e
        · rw [e, g0]; exact z.1
        · rw [g1 a (ne a e)]; exact f2 a e
      · rcases List.mem_cons.1 ha with e | e
        · rcases List.mem_cons.1 hb with e2 | e2
          · exact absurd (e.trans e2.symm) hab
          · rw [e, g0, g1 b (ne b e2)]; exact fun y => (fq b e2).1 y.symm
        · rcases List.mem_cons.1 hb with e2 | e2
          · rw [e2, g0, g1 a (ne a e)]; exact (fq a e).1
          · rw [g1 a (ne a e), g1 b (ne b e2)]; exact f3 a e b e2 hab
      · rcases List.mem_cons.1 ha with e | e
        · rw [e, g0]; exact z.2
        · rw [g1 a (ne a e)]; exact (fq a e).2
      · rw [f5, Nat.testBit_or, Nat.testBit_two_pow, Bool.or_eq_true, decide_eq_true_iff]
        constructor
        · intro h
          rcases h with (h | h) | ⟨a, ha, h⟩
          · exact Or.inl h
          · exact Or.inr ⟨c, List.mem_cons_self .., by rw [g0]; exact h⟩
          · exact Or.inr ⟨a, List.mem_cons_of_mem _ ha, by rw [g1 a (ne a ha)]; exact h⟩
        · intro h
          rcases h with h | ⟨a, ha, h⟩
          · exact Or.inl (Or.inl h)
          · rcases List.mem_cons.1 ha with e | e
            · rw [e, g0] at h; exact Or.inl (Or.inr h)
            · rw [g1 a (ne a e)] at h; exact Or.inr ⟨a, e, h⟩
    · rw [if_neg z] at h
      cases h
def ml (s : Nat) : List Nat := ((List.range 12).filter (fun p => s.testBit p)).map (fun p => p + 1)
theorem dbl_bit (s p : Nat) : (2 * s).testBit (p + 1) = s.testBit p := by
  rw [Nat.testBit_succ, Nat.mul_div_cancel_left _ (by decide)]
theorem dbl_0 (s : Nat) : (2 * s).testBit 0 = false := by
  rw [Nat.testBit_zero, decide_eq_false (by omega)]
theorem ml_mem {s : Nat} (hs : s < 4096) (p : Nat) : p ∈ ml s ↔ (2 * s).testBit p = true := by
  unfold ml
  rw [List.mem_map]
  constructor
  · intro ⟨a, ha, e⟩
    rw [List.mem_filter] at ha
    rw [← e, dbl_bit]; exact ha.2
  · intro h
    cases p with
    | zero => rw [dbl_0] at h; exact Bool.noConfusion h
    | succ p =>
      rw [dbl_bit] at h
      refine ⟨p, List.mem_filter.2 ⟨List.mem_range.2 ?_, h⟩, rfl⟩
      rcases Nat.lt_or_ge p 12 with q | q
      · exact q
      · rw [Nat.testBit_lt_two_pow (Nat.lt_of_lt_of_le hs (Nat.pow_le_pow_right (n := 2) (i := 12) (by decide) q))] at h
        exact Bool.noConfusion h
theorem ml_nd (s : Nat) : (ml s).Nodup := by
  unfold ml
  have h : ((List.range 12).filter (fun p => s.testBit p)).Nodup := List.Pairwise.filter _ List.nodup_range
  exact List.Pairwise.map _ (fun a b hab e => hab (by omega)) h
theorem ml_len {s : Nat} (hs : s < 4096) : (ml s).length = ppop s := by
  unfold ml
  rw [List.length_map]
  show ppopI s 12 = ppop s
  exact ppop_up (m := 12) hs (by decide)
theorem tup_next {n π s w t' : Nat} (hs : s < 4096) (hx : ∃ x, okT n π x ∧ setS n x = 2 * s) (h : stL (ml s) 0 w = some t') : ∃ x, okT n (π + 1) x ∧ setS n x = t' := by
  obtain ⟨x, h1, h2⟩ := hx
  obtain ⟨f, f1, f2, f3, f4, f5⟩ := stL_f _ _ _ _ (ml_nd s) h
  have hm : ∀ i, i < n → x i ∈ ml s := fun i hi => (ml_mem hs _).2 (by rw [← h2]; exact (setS_bit x _ n).2 ⟨i, hi, rfl⟩)
  have e : ∀ i, i < n → (if i < n then f (x i) else x i) = f (x i) := fun i hi => if_pos hi
  refine ⟨fun i => if i < n then f (x i) else x i, mv_ok h1 ⟨fun i hi => ?_, fun i hi => if_neg (by omega)⟩ (fun i hi => ?_) (fun i hi j hj => ?_), ?_⟩
  · show (if i < n then f (x i) else x i) = x i - 1 ∨ (if i < n then f (x i) else x i) = x i + 1
    rw [e i hi]; exact f1 _ (hm i hi)
  · rw [e i hi]; exact f2 _ (hm i hi)
  · rw [e i hi, e j (by omega)]
    refine f3 _ (hm j (by omega)) _ (hm i hi) (fun q => ?_)
    have := h1.2 i hi j hj
    rw [q] at this
    omega
  · apply Nat.eq_of_testBit_eq
    intro p
    rw [Bool.eq_iff_iff, setS_bit, f5, Nat.zero_testBit]
    constructor
    · intro ⟨i, hi, q⟩
      rw [e i hi] at q
      exact Or.inr ⟨x i, hm i hi, q⟩
    · intro q
      rcases q with q | ⟨a, ha, q⟩
      · exact Bool.noConfusion q
      · rw [ml_mem hs, ← h2, setS_bit] at ha
        obtain ⟨i, hi, hxi⟩ := ha
        exact ⟨i, hi, by rw [e i hi, hxi]; exact q⟩
theorem stL_lt {s w t' : Nat} (h : stL (ml s) 0 w = some t') : ∃ t, t < 4096 ∧ t' = 2 * t := by
  have hb := stL_ok _ _ _ _ h
  refine ⟨t' / 2, ?_, ?_⟩
  · have : t' < 2 ^ 13 := by
      refine Nat.lt_pow_two_of_testBit _ (fun i hi => ?_)
      cases hh : t'.testBit i with
      | false => rfl
      | true =>
        rcases hb i hh with q | q
        · rw [Nat.zero_testBit] at q; exact Bool.noConfusion q
        · omega
    omega
  · have h0 : t'.testBit 0 = false := by
      cases hh : t'.testBit 0 with
      | false => rfl
      | true =>
        rcases hb 0 hh with q | q
        · rw [Nat.zero_testBit] at q; exact Bool.noConfusion q
        · omega
    rw [Nat.testBit_zero, decide_eq_false_iff_not] at h0
    omega
def cN (s : Nat) : Nat → Nat → Nat
  | 0, _ => 0
  | w + 1, t => cN s w t + (if stL (ml s) 0 w = some (2 * t) then 1 else 0)
theorem cN_s (s w t : Nat) : cN s (w + 1) t = cN s w t + (if stL (ml s) 0 w = some (2 * t) then 1 else 0) := rfl
def wN2 (n fr : Nat) : Nat → Nat → Nat
  | 0, s => if s = fr then 1 else 0
  | k + 1, t => psum 4096 (fun s => wN2 n fr k s * cN s (2 ^ n) t)
theorem wN2_s (n fr k t : Nat) : wN2 n fr (k + 1) t = psum 4096 (fun s => wN2 n fr k s * cN s (2 ^ n) t) := rfl
theorem psum_comm {f : Nat → Nat → Nat} (n : Nat) : ∀ m, psum n (fun i => psum m (fun j => f i j)) = psum m (fun j => psum n (fun i => f i j)) := by
  intro m
  induction m with
  | zero => exact psum_z n (fun i _ => rfl)
  | succ m ih =>
    rw [psum_s, ← ih, ← psum_add]
    exact psum_cg n (fun i _ => psum_s _ _)
theorem psum_mulL {f : Nat → Nat} (c : Nat) : ∀ n, psum n (fun i => c * f i) = c * psum n f := by
  intro n
  induction n with
  | zero => rfl
  | succ n ih => rw [psum_s, psum_s, ih, Nat.mul_add]
theorem cN_tot (s : Nat) : ∀ w, psum 4096 (fun t => cN s w t) ≤ w := by
  intro w
  induction w with
  | zero =>
    have e : psum 4096 (fun t => cN s 0 t) = 0 := psum_z _ (fun _ _ => rfl)
    rw [e]; exact Nat.le_refl _
  | succ w ih =>
    have e : psum 4096 (fun t => cN s (w + 1) t) = psum 4096 (fun t => cN s w t) + psum 4096 (fun t => if stL (ml s) 0 w = some (2 * t) then 1 else 0) := by
      rw [← psum_add]
      exact psum_cg _ (fun t _ => rfl)
    have h1 : psum 4096 (fun t => if stL (ml s) 0 w = some (2 * t) then 1 else 0) ≤ 1 := by
      cases hh : stL (ml s) 0 w with
      | none => rw [psum_z 4096 (fun i _ => if_neg (by intro h; cases h))]; exact Nat.zero_le _
      | some t' =>
        obtain ⟨t, ht, e2⟩ := stL_lt hh
        have : psum 4096 (fun i => if some t' = some (2 * i) then 1 else 0) = psum 4096 (fun i => if t = i then 1 else 0) := by
          refine psum_cg _ (fun i _ => ?_)
          by_cases q : t = i
          · rw [if_pos q, if_pos (by rw [e2, q])]
          · rw [if_neg q, if_neg (fun h => q (by have := Option.some.inj h; omega))]
        rw [this, psum_ind, if_pos ht]
        exact Nat.le_refl _
    rw [e]
    omega
theorem wN2_tot (n fr : Nat) (hn : n ≤ 4) : ∀ k, psum 4096 (wN2 n fr k) ≤ 16 ^ k := by
  intro k
  induction k with
  | zero =>
    have : psum 4096 (wN2 n fr 0) = psum 4096 (fun t => if fr = t then 1 else 0) := psum_cg _ (fun t _ => by
      show (if t = fr then 1 else 0) = _
      by_cases q : t = fr
      · rw [if_pos q, if_pos q.symm]
      · rw [if_neg q, if_neg (fun e => q e.symm)])
    rw [this, psum_ind]
    split <;> decide
  | succ k ih =>
    have h16 : 2 ^ n ≤ 2 ^ 4 := Nat.pow_le_pow_right (by decide) hn
    have e : psum 4096 (wN2 n fr (k + 1)) = psum 4096 (fun s => wN2 n fr k s * psum 4096 (fun t => cN s (2 ^ n) t)) := by
      have e1 : psum 4096 (wN2 n fr (k + 1)) = psum 4096 (fun t => psum 4096 (fun s => wN2 n fr k s * cN s (2 ^ n) t)) := psum_cg _ (fun t _ => rfl)
      rw [e1, psum_comm]
      exact psum_cg _ (fun s _ => psum_mulL _ _)
    have e2 : psum 4096 (fun s => wN2 n fr k s * psum 4096 (fun t => cN s (2 ^ n) t)) ≤ psum 4096 (fun s => 16 * wN2 n fr k s) := psum_le (fun s => by
      rw [Nat.mul_comm 16]
      exact Nat.mul_le_mul_left _ (Nat.le_trans (cN_tot s _) h16)) _
    rw [psum_mulL] at e2
    rw [e, Nat.pow_succ]
    omega
theorem wN2_sup {n fr : Nat} (hfr : ∃ x, okT n 1 x ∧ setS n x = 2 * fr) : ∀ k s, s < 4096 → wN2 n fr k s ≠ 0 → ∃ x, okT n (1 + k) x ∧ setS n x = 2 * s := by
  intro k
  induction k with
  | zero =>
    intro s hs h
    have h : (if s = fr then 1 else 0) ≠ 0 := h
    by_cases q : s = fr
    · rw [q]; exact hfr
    · rw [if_neg q] at h; exact absurd rfl h
  | succ k ih =>
    intro t ht h
    rw [wN2_s] at h
    have : ∃ s, s < 4096 ∧ wN2 n fr k s * cN s (2 ^ n) t ≠ 0 := by
      refine Classical.byContradiction (fun c => h (psum_z _ (fun s hs => Classical.byContradiction (fun d => c ⟨s, hs, d⟩))))
    obtain ⟨s, hs, h2⟩ := this
    have h3 : wN2 n fr k s ≠ 0 := fun e => h2 (by rw [e, Nat.zero_mul])
    have h4 : cN s (2 ^ n) t ≠ 0 := fun e => h2 (by rw [e, Nat.mul_zero])
    have key : ∀ w, cN s w t ≠ 0 → ∃ w', stL (ml s) 0 w' = some (2 * t) := by
      intro w
      induction w with
      | zero => intro h; exact absurd rfl h
      | succ w ihw =>
        intro h
        rw [cN_s] at h
        by_cases q : stL (ml s) 0 w = some (2 * t)
        · exact ⟨w, q⟩
        · rw [if_neg q] at h; exact ihw h
    obtain ⟨w', h5⟩ := key _ h4
    exact tup_next hs (ih s hs h3) h5
theorem cN_q (s : Nat) (g : Nat → Int) : ∀ w, zsum 4096 (fun t => (cN s w t : Int) * g (2 * t)) = zsum w (fun w => ov g (stL (ml s) 0 w)) := by
  intro w
  induction w with
  | zero => exact zsum_z _ (fun t _ => by show ((0 : Nat) : Int) * _ = 0; omega)
  | succ w ih =>
    rw [zsum_s w, ← ih]
    have e : zsum 4096 (fun t => (cN s (w + 1) t : Int) * g (2 * t)) = zsum 4096 (fun t => (cN s w t : Int) * g (2 * t) + (if stL (ml s) 0 w = some (2 * t) then g (2 * t) else 0)) := by
      refine zsum_cg _ (fun t _ => ?_)
      rw [cN_s]
      by_cases q : stL (ml s) 0 w = some (2 * t)
      · rw [if_pos q, if_pos q, Int.natCast_add, Int.add_mul]; omega
      · rw [if_neg q, if_neg q, Nat.add_zero, Int.add_zero]
    rw [e, zsum_add]
    have hl : zsum 4096 (fun t => if stL (ml s) 0 w = some (2 * t) then g (2 * t) else 0) = ov g (stL (ml s) 0 w) := by
     cases hh : stL (ml s) 0 w with
     | none => exact zsum_z _ (fun t _ => if_neg (by intro h; cases h))
     | some t' =>
      obtain ⟨t, ht, e2⟩ := stL_lt hh
      have : zsum 4096 (fun i => if some t' = some (2 * i) then g (2 * i) else 0) = zsum 4096 (fun i => if i = t then g (2 * t) else 0) := by
        refine zsum_cg _ (fun i _ => ?_)
        by_cases q : i = t
        · rw [if_pos q, if_pos (by rw [e2, q]), q]
        · rw [if_neg q, if_neg (fun h => q (by have := Option.some.inj h; omega))]
      rw [this, zsum_ind, if_pos ht]
      show g (2 * t) = g t'
      rw [e2]
    rw [hl]
theorem ways_inv {n m fr : Nat} {x y : Nat → Nat} (hx : okT n 1 x) (hfx : setS n x = 2 * fr) (hfr : fr < 4096) : ∀ k, k ≤ m → zsum 4096 (fun s => (wN2 n fr k s : Int) * qS n (m - k) (1 + k) y (2 * s)) = zK n m 1 x y := by
  intro k
  induction k with
  | zero =>
    intro _
    have : zsum 4096 (fun s => (wN2 n fr 0 s : Int) * qS n (m - 0) (1 + 0) y (2 * s)) = zsum 4096 (fun s => if s = fr then qS n m 1 y (2 * fr) else 0) := by
      refine zsum_cg _ (fun s _ => ?_)
      show ((if s = fr then 1 else 0 : Nat) : Int) * _ = _
      by_cases q : s = fr
      · rw [if_pos q, if_pos q, q]
        show (1 : Int) * _ = _
        rw [Int.one_mul]; rfl
      · rw [if_neg q, if_neg q]
        show (0 : Int) * _ = 0
        rw [Int.zero_mul]
    rw [this, zsum_ind, if_pos hfr, ← hfx, qS_eq hx]
  | succ k ih =>
    intro hk
    rw [← ih (by omega)]
    have ej : m - k = (m - (k + 1)) + 1 := by omega
    have e1 : zsum 4096 (fun t => (wN2 n fr (k + 1) t : Int) * qS n (m - (k + 1)) (1 + (k + 1)) y (2 * t)) = zsum 4096 (fun t => zsum 4096 (fun s => (wN2 n fr k s : Int) * ((cN s (2 ^ n) t : Int) * qS n (m - (k + 1)) (1 + (k + 1)) y (2 * t)))) := by
      refine zsum_cg _ (fun t _ => ?_)
      rw [wN2_s, psum_cast, Int.mul_comm, ← zsum_mul]
      refine zsum_cg _ (fun s _ => ?_)
      rw [Int.natCast_mul, Int.mul_comm, Int.mul_assoc]
    rw [e1, zsum_comm]
    refine zsum_cg _ (fun s hs => ?_)
    rw [zsum_mul, cN_q]
    by_cases q : wN2 n fr k s = 0
    · rw [q]
      show (0 : Int) * _ = (0 : Int) * _
      rw [Int.zero_mul, Int.zero_mul]
    · obtain ⟨h1, h2⟩ := qS_step (j := m - (k + 1)) (y := y) (wN2_sup ⟨x, hx, hfx⟩ k s hs q) (ml_nd s) (ml_mem hs)
      rw [ej, h1, ← stL_sum, h2]
      rfl
theorem ways_fin {n m fr tt : Nat} {x y : Nat → Nat} (hx : okT n 1 x) (hfx : setS n x = 2 * fr) (hfr : fr < 4096) (hy : okT n (1 + m) y) (hty : setS n y = 2 * tt) (htt : tt < 4096) : zK n m 1 x y = (wN2 n fr m tt : Int) := by
  rw [← ways_inv hx hfx hfr m (Nat.le_refl _), Nat.sub_self]
  have : zsum 4096 (fun s => (wN2 n fr m s : Int) * qS n 0 (1 + m) y (2 * s)) = zsum 4096 (fun s => if s = tt then (wN2 n fr m tt : Int) else 0) := by
    refine zsum_cg _ (fun s hs => ?_)
    by_cases q : s = tt
    · rw [if_pos q, q, ← hty, qS_eq hy]
      have : zK n 0 (1 + m) y y = 1 := if_pos (by rw [List.all_eq_true]; intro i _; exact beq_iff_eq.2 rfl)
      rw [this, Int.mul_one]
    · rw [if_neg q]
      by_cases w : wN2 n fr m s = 0
      · rw [w]
        show (0 : Int) * _ = 0
        rw [Int.zero_mul]
      · obtain ⟨x', h1, h2⟩ := wN2_sup ⟨x, hx, hfx⟩ m s hs w
        rw [← h2, qS_eq h1]
        have : zK n 0 (1 + m) x' y = 0 := by
          refine if_neg (fun h => q ?_)
          rw [List.all_eq_true] at h
          have e : setS n x' = setS n y := by
            apply Nat.eq_of_testBit_eq
            intro p
            rw [Bool.eq_iff_iff, setS_bit, setS_bit]
            exact ⟨fun ⟨i, hi, z⟩ => ⟨i, hi, by rw [← beq_iff_eq.1 (h i (List.mem_range.2 hi))]; exact z⟩, fun ⟨i, hi, z⟩ => ⟨i, hi, by rw [beq_iff_eq.1 (h i (List.mem_range.2 hi))]; exact z⟩⟩
          omega
        rw [this, Int.mul_zero]
  rw [this, zsum_ind, if_pos htt]

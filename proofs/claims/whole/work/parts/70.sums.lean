/-! sums of longs; the members of a part in their order -/
theorem psumL_s (m : Nat) (f : Nat → Int64) : psumL (m + 1) f = psumL m f + f m := foldl_rs _ _ _
theorem psumL_0 (f : Nat → Int64) : psumL 0 f = 0 := rfl
theorem psumL_cg {f g : Nat → Int64} : ∀ m, (∀ i, i < m → f i = g i) → psumL m f = psumL m g := by
  intro m
  induction m with
  | zero => intro _; rfl
  | succ m ih => intro h; rw [psumL_s, psumL_s, ih (fun i hi => h i (by omega)), h m (by omega)]
theorem psumL_z {f : Nat → Int64} : ∀ m, (∀ i, i < m → f i = 0) → psumL m f = 0 := by
  intro m
  induction m with
  | zero => intro _; rfl
  | succ m ih => intro h; rw [psumL_s, ih (fun i hi => h i (by omega)), h m (by omega)]; rfl
theorem l_sub4 (a b c d : Int64) : a - b + (c - d) = a + c - (b + d) := by grind
theorem psumL_sub {f g : Nat → Int64} : ∀ m, psumL m (fun i => f i - g i) = psumL m f - psumL m g := by
  intro m
  induction m with
  | zero => rw [psumL_0, psumL_0, psumL_0]; decide
  | succ m ih => rw [psumL_s, psumL_s, psumL_s, ih, l_sub4]
theorem l_mul2 (c a b : Int64) : c * a + c * b = c * (a + b) := by grind
theorem l_mul0 (c : Int64) : c * 0 = 0 := by grind
theorem psumL_mul {f : Nat → Int64} (c : Int64) : ∀ m, psumL m (fun i => c * f i) = c * psumL m f := by
  intro m
  induction m with
  | zero => exact (l_mul0 c).symm
  | succ m ih => rw [psumL_s, psumL_s, ih, l_mul2]
theorem psumL_N {f : Nat → Nat} : ∀ m, psumL m (fun i => lN (f i)) = lN (psum m f) := by
  intro m
  induction m with
  | zero => rfl
  | succ m ih => rw [psumL_s, psum_s, ih, lN_add]
theorem z64l (x : Int64) : (0 : Int64) + x = x := by grind
theorem psumL_ind (x : Nat) (f : Nat → Int64) : ∀ m, psumL m (fun t => if x = t then f t else 0) = if x < m then f x else 0 := by
  intro m
  induction m with
  | zero => rw [if_neg (by omega)]; rfl
  | succ m ih =>
    rw [psumL_s, ih]
    by_cases q : x = m
    · rw [if_neg (by omega), if_pos q, if_pos (by omega), z64l, q]
    · rw [if_neg q, z64]
      by_cases w : x < m
      · rw [if_pos w, if_pos (by omega)]
      · rw [if_neg w, if_neg (by omega)]
def memI (P k : Nat) : List Nat := (List.range k).filter (fun t => P.testBit t)
def memP (P j : Nat) : Nat := (pmem P).getD j 0
theorem memI_len (P k : Nat) : (memI P k).length = ppopI P k := rfl
theorem memI_s (P k : Nat) : memI P (k + 1) = memI P k ++ (if P.testBit k = true then [k] else []) := by
  unfold memI
  rw [List.range_succ, List.filter_append]
  by_cases q : P.testBit k = true
  · rw [if_pos q, List.filter_cons_of_pos q]; rfl
  · rw [if_neg q, List.filter_cons_of_neg q]; rfl
theorem memI_at (P : Nat) : ∀ k j, j < ppopI P k → P.testBit ((memI P k).getD j 0) = true ∧ ppopI P ((memI P k).getD j 0) = j ∧ (memI P k).getD j 0 < k := by
  intro k
  induction k with
  | zero => intro j hj; exact absurd hj (by rw [show ppopI P 0 = 0 from rfl]; omega)
  | succ k ih =>
    intro j hj
    rw [memI_s]
    by_cases q : P.testBit k = true
    · rw [if_pos q, List.getD_eq_getElem?_getD]
      rw [ppopI_s, if_pos q] at hj
      rcases Nat.lt_or_ge j (ppopI P k) with w | w
      · rw [List.getElem?_append_left (by rw [memI_len]; exact w), ← List.getD_eq_getElem?_getD]
        have := ih j w
        exact ⟨this.1, this.2.1, by omega⟩
      · have e : j = ppopI P k := by omega
        rw [List.getElem?_append_right (by rw [memI_len]; exact w), memI_len, e, Nat.sub_self]
        exact ⟨q, rfl, Nat.lt_succ_self k⟩
    · rw [if_neg q, List.append_nil]
      rw [ppopI_s, if_neg q] at hj
      have := ih j hj
      exact ⟨this.1, this.2.1, by omega⟩
theorem memP_at {P j : Nat} (hj : j < ppop P) : P.testBit (memP P j) = true ∧ ppopI P (memP P j) = j ∧ memP P j < 64 := memI_at P 64 j hj
theorem ppopI_mono (P a : Nat) : ∀ d, ppopI P a ≤ ppopI P (a + d) := by
  intro d
  induction d with
  | zero => exact Nat.le_refl _
  | succ d ih => rw [← Nat.add_assoc, ppopI_s]; omega
theorem ppopI_lt {P a b : Nat} (h : P.testBit a = true) (hab : a < b) : ppopI P a < ppopI P b := by
  have h1 := ppopI_mono P (a + 1) (b - (a + 1))
  rw [show a + 1 + (b - (a + 1)) = b by omega, ppopI_s, if_pos h] at h1
  omega
theorem ppopI_inj {P a b : Nat} (ha : P.testBit a = true) (hb : P.testBit b = true) (h : ppopI P a = ppopI P b) : a = b := by
  rcases Nat.lt_trichotomy a b with q | q | q
  · have := ppopI_lt ha q; omega
  · exact q
  · have := ppopI_lt hb q; omega
theorem mem_pop {P b : Nat} (hb : b < 64) (h : P.testBit b = true) : ppopI P b < ppop P ∧ memP P (ppopI P b) = b := by
  have h1 : ppopI P b < ppop P := ppopI_lt (b := 64) h hb
  have h2 := memP_at h1
  exact ⟨h1, ppopI_inj h2.1 h h2.2.1⟩
theorem memP_inj {P i j : Nat} (hi : i < ppop P) (hj : j < ppop P) (h : memP P i = memP P j) : i = j := by
  have h1 := (memP_at hi).2.1
  have h2 := (memP_at hj).2.1
  rw [h] at h1
  omega
theorem re_sumL (P : Nat) (F : Nat → Nat → Int64) : ∀ u, u ≤ 64 → psumL u (fun b => if P.testBit b = true then F (ppopI P b) b else 0) = psumL (ppopI P u) (fun j => F j (memP P j)) := by
  intro u
  induction u with
  | zero => intro _; rfl
  | succ u ih =>
    intro hu
    rw [psumL_s, ih (by omega), ppopI_s]
    by_cases q : P.testBit u = true
    · rw [if_pos q, if_pos q, psumL_s, (mem_pop (by omega) q).2]
    · rw [if_neg q, if_neg q, z64]; rfl
theorem re_sumN (P : Nat) (F : Nat → Nat) : ∀ u, u ≤ 64 → psum u (fun b => if P.testBit b = true then F b else 0) = psum (ppopI P u) (fun j => F (memP P j)) := by
  intro u
  induction u with
  | zero => intro _; rfl
  | succ u ih =>
    intro hu
    rw [psum_s, ih (by omega), ppopI_s]
    by_cases q : P.testBit u = true
    · rw [if_pos q, if_pos q, psum_s, (mem_pop (by omega) q).2]
    · rw [if_neg q, if_neg q]; rfl
/-! a shut part -/
theorem shut_in {v : Nat → Nat} (h : LaneOK v) {s a b : Nat} (hs : s < 2 ^ v 0) (hsh : preach v s = ppart v s) (ha : (ppart v s).testBit a = true) (hr : 0 < prate v a b) : (ppart v s).testBit b = true := by
  have ha2 : a < 2 ^ v 0 := by
    rw [ppart_bit, Bool.and_eq_true] at ha
    exact of_decide_eq_true ha.1
  have hb2 : b < 2 ^ v 0 := by
    rcases Nat.lt_or_ge b (2 ^ v 0) with q | q
    · exact q
    · rw [prate_big h ha2 (by omega)] at hr
      omega
  rw [← hsh] at ha ⊢
  refine preach_tr hs hb2 ha2 ha (preach_0b ha2 ?_)
  unfold pr0
  rw [Nat.testBit_or, ptgt_bit, decide_eq_true hr]; rfl
theorem shut_0 {v : Nat → Nat} (h : LaneOK v) {s a b : Nat} (hs : s < 2 ^ v 0) (hsh : preach v s = ppart v s) (ha : (ppart v s).testBit a = true) (hb : ¬ (ppart v s).testBit b = true) : prate v a b = 0 := by
  rcases Nat.eq_zero_or_pos (prate v a b) with q | q
  · exact q
  · exact absurd (shut_in h hs hsh ha q) hb
theorem part_lt {v : Nat → Nat} {s a : Nat} (ha : (ppart v s).testBit a = true) : a < 2 ^ v 0 := by
  rw [ppart_bit, Bool.and_eq_true] at ha
  exact of_decide_eq_true ha.1
theorem psum_up {f : Nat → Nat} {a : Nat} (h : ∀ i, a ≤ i → f i = 0) : ∀ d, psum (a + d) f = psum a f := by
  intro d
  induction d with
  | zero => rfl
  | succ d ih => rw [← Nat.add_assoc, psum_s, ih, h _ (by omega)]; rfl
theorem out_mem {v : Nat → Nat} (h : LaneOK v) {s a : Nat} (hs : s < 2 ^ v 0) (hsh : preach v s = ppart v s) (ha : (ppart v s).testBit a = true) : psum (ppop (ppart v s)) (fun j => prate v a (memP (ppart v s) j)) = pout v a := by
  have hp := pw64 h.n.2
  have ha2 := part_lt ha
  have h1 := re_sumN (ppart v s) (prate v a) 64 (Nat.le_refl _)
  have h2 : psum 64 (fun b => if (ppart v s).testBit b = true then prate v a b else 0) = psum 64 (prate v a) := by
    refine psum_cg 64 (fun b _ => ?_)
    by_cases q : (ppart v s).testBit b = true
    · rw [if_pos q]
    · rw [if_neg q, shut_0 h hs hsh ha q]
  have h3 := psum_up (f := prate v a) (a := 2 ^ v 0) (fun i hi => prate_big h ha2 (by omega)) (64 - 2 ^ v 0)
  rw [show 2 ^ v 0 + (64 - 2 ^ v 0) = 64 by omega] at h3
  rw [← out_sum h ha2, ← h3, ← h2, h1]
  rfl

/-! sums over moves, in any order of the walkers -/
def okp (t p : Nat) : Bool := decide (1 ≤ p ∧ p ≤ 12) && !t.testBit p
def SSl : List Nat → Nat → (Nat → Int) → Int
  | [], t, g => g t
  | a :: l, t, g => (if okp t (a - 1) = true then SSl l (t ||| 2 ^ (a - 1)) g else 0) + (if okp t (a + 1) = true then SSl l (t ||| 2 ^ (a + 1)) g else 0)
theorem SSl_c (a : Nat) (l : List Nat) (t : Nat) (g : Nat → Int) : SSl (a :: l) t g = (if okp t (a - 1) = true then SSl l (t ||| 2 ^ (a - 1)) g else 0) + (if okp t (a + 1) = true then SSl l (t ||| 2 ^ (a + 1)) g else 0) := rfl
theorem okp_or (t p q : Nat) : okp (t ||| 2 ^ p) q = (okp t q && !(decide (p = q))) := by
  unfold okp
  rw [Nat.testBit_or, Nat.testBit_two_pow]
  cases decide (1 ≤ q ∧ q ≤ 12) <;> cases t.testBit q <;> cases decide (p = q) <;> rfl
def SS2 (l : List Nat) (g : Nat → Int) (t p q : Nat) : Int := if okp t p = true then (if okp (t ||| 2 ^ p) q = true then SSl l (t ||| 2 ^ p ||| 2 ^ q) g else 0) else 0
theorem SS2_comm (l : List Nat) (g : Nat → Int) (t p q : Nat) : SS2 l g t p q = SS2 l g t q p := by
  unfold SS2
  rw [okp_or, okp_or]
  by_cases e : p = q
  · rw [e]
  · have e' : ¬ q = p := fun y => e y.symm
    rw [decide_eq_false e, decide_eq_false e', Bool.not_false, Bool.and_true, Bool.and_true]
    have eo : t ||| 2 ^ p ||| 2 ^ q = t ||| 2 ^ q ||| 2 ^ p := by rw [Nat.or_assoc, Nat.or_comm (2 ^ p), ← Nat.or_assoc]
    by_cases h1 : okp t p = true
    · by_cases h2 : okp t q = true
      · rw [if_pos h1, if_pos h2, if_pos h2, if_pos h1, eo]
      · rw [if_pos h1, if_neg h2, if_neg h2]
    · by_cases h2 : okp t q = true
      · rw [if_neg h1, if_pos h2, if_neg h1]
      · rw [if_neg h1, if_neg h2]
theorem SSl_2 (a b : Nat) (l : List Nat) (t : Nat) (g : Nat → Int) : SSl (a :: b :: l) t g = SS2 l g t (a - 1) (b - 1) + SS2 l g t (a - 1) (b + 1) + (SS2 l g t (a + 1) (b - 1) + SS2 l g t (a + 1) (b + 1)) := by
  have h : ∀ p, (if okp t p = true then SSl (b :: l) (t ||| 2 ^ p) g else 0) = SS2 l g t p (b - 1) + SS2 l g t p (b + 1) := by
    intro p
    unfold SS2
    by_cases q : okp t p = true
    · rw [if_pos q, if_pos q, if_pos q, SSl_c]
    · rw [if_neg q, if_neg q, if_neg q]; rfl
  rw [SSl_c, h, h]
theorem SSl_perm {g : Nat → Int} {l l' : List Nat} (h : l.Perm l') : ∀ t, SSl l t g = SSl l' t g := by
  induction h with
  | nil => intro t; rfl
  | cons a _ ih => intro t; rw [SSl_c, SSl_c, ih, ih]
  | swap a b l =>
    intro t
    rw [SSl_2, SSl_2, SS2_comm l g t (b - 1) (a - 1), SS2_comm l g t (b - 1) (a + 1), SS2_comm l g t (b + 1) (a - 1), SS2_comm l g t (b + 1) (a + 1)]
    omega
  | trans _ _ h1 h2 => intro t; rw [h1, h2]
def setS (n : Nat) (x : Nat → Nat) : Nat := (List.range n).foldl (fun a i => a ||| 2 ^ (x i)) 0
theorem setS_s (n : Nat) (x : Nat → Nat) : setS (n + 1) x = setS n x ||| 2 ^ (x n) := foldl_rs _ _ _
theorem setS_bit (x : Nat → Nat) (p : Nat) : ∀ n, (setS n x).testBit p = true ↔ ∃ i, i < n ∧ x i = p := by
  intro n
  induction n with
  | zero =>
    constructor
    · intro h
      have h : (0 : Nat).testBit p = true := h
      rw [Nat.zero_testBit] at h; exact Bool.noConfusion h
    · intro ⟨i, h, _⟩; omega
  | succ n ih =>
    rw [setS_s, Nat.testBit_or, Nat.testBit_two_pow, Bool.or_eq_true, ih, decide_eq_true_iff]
    constructor
    · intro h
      rcases h with ⟨i, h1, h2⟩ | h
      · exact ⟨i, by omega, h2⟩
      · exact ⟨n, by omega, h⟩
    · intro ⟨i, h1, h2⟩
      by_cases q : i = n
      · right; rw [← q]; exact h2
      · left; exact ⟨i, by omega, h2⟩
def revl : Nat → (Nat → Nat) → List Nat
  | 0, _ => []
  | k + 1, x => x k :: revl k x
theorem revl_cg : ∀ k (x x' : Nat → Nat), (∀ i, i < k → x i = x' i) → revl k x = revl k x' := by
  intro k
  induction k with
  | zero => intro x x' _; rfl
  | succ k ih =>
    intro x x' h
    show x k :: revl k x = x' k :: revl k x'
    rw [h k (by omega), ih x x' (fun i hi => h i (by omega))]
theorem revl_mem (x : Nat → Nat) (p : Nat) : ∀ k, p ∈ revl k x ↔ ∃ i, i < k ∧ x i = p := by
  intro k
  induction k with
  | zero => exact ⟨fun h => absurd h (by intro h; cases h), fun ⟨i, h, _⟩ => absurd h (by omega)⟩
  | succ k ih =>
    show p ∈ x k :: revl k x ↔ _
    rw [List.mem_cons, ih]
    constructor
    · intro h
      rcases h with h | ⟨i, h1, h2⟩
      · exact ⟨k, by omega, h.symm⟩
      · exact ⟨i, by omega, h2⟩
    · intro ⟨i, h1, h2⟩
      by_cases q : i = k
      · left; rw [← h2, q]
      · right; exact ⟨i, by omega, h2⟩
theorem revl_nd {x : Nat → Nat} : ∀ k, (∀ i, i < k → ∀ j, j < i → x j ≠ x i) → (revl k x).Nodup := by
  intro k
  induction k with
  | zero => intro _; exact List.nodup_nil
  | succ k ih =>
    intro h
    show (x k :: revl k x).Nodup
    rw [List.nodup_cons]
    refine ⟨fun hm => ?_, ih (fun i hi => h i (by omega))⟩
    obtain ⟨i, h1, h2⟩ := (revl_mem x (x k) k).1 hm
    exact h k (by omega) i h1 h2
theorem revl_len (x : Nat → Nat) : ∀ k, (revl k x).length = k := by
  intro k
  induction k with
  | zero => rfl
  | succ k ih => show (revl k x).length + 1 = k + 1; rw [ih]
def DI (n k : Nat) (x : Nat → Nat) : Prop := (∀ i, k ≤ i → i < n → 1 ≤ x i ∧ x i ≤ 12) ∧ ∀ i, k ≤ i → i < n → ∀ j, k ≤ j → j < i → x j ≠ x i
theorem DI_tup {n k : Nat} {x : Nat → Nat} {p t : Nat} (hk : k < n) (h : DI n (k + 1) x) (ht : ∀ p, t.testBit p = true ↔ ∃ i, k + 1 ≤ i ∧ i < n ∧ x i = p) : DI n k (tup x k p) ↔ okp t p = true := by
  have e0 : tup x k p k = p := if_pos rfl
  have e1 : ∀ i, i ≠ k → tup x k p i = x i := fun i hi => if_neg hi
  unfold okp
  rw [Bool.and_eq_true, decide_eq_true_iff, Bool.not_eq_true']
  constructor
  · intro d
    have d1 := d.1 k (Nat.le_refl _) hk
    rw [e0] at d1
    refine ⟨d1, ?_⟩
    cases hh : t.testBit p with
    | false => rfl
    | true =>
      obtain ⟨i, h1, h2, h3⟩ := (ht p).1 hh
      have := d.2 i (by omega) h2 k (Nat.le_refl _) (by omega)
      rw [e0, e1 i (by omega)] at this
      exact absurd h3.symm this
  · intro ⟨a, c⟩
    refine ⟨fun i hi hin => ?_, fun i hi hin j hj hji => ?_⟩
    · by_cases q : i = k
      · rw [q, e0]; exact a
      · rw [e1 i q]; exact h.1 i (by omega) hin
    · by_cases q : j = k
      · rw [q, e0, e1 i (by omega)]
        intro e
        have := (ht p).2 ⟨i, by omega, hin, e.symm⟩
        rw [c] at this
        exact Bool.noConfusion this
      · rw [e1 i (by omega), e1 j q]
        exact h.2 i (by omega) hin j (by omega) hji
theorem Sg_SSl {n : Nat} {F : (Nat → Nat) → Int} {q : Nat → Int} (h1 : ∀ x, DI n 0 x → F x = q (setS n x)) (h0 : ∀ x, ¬ DI n 0 x → F x = 0) : ∀ k, k ≤ n → ∀ x t, (∀ p, t.testBit p = true ↔ ∃ i, k ≤ i ∧ i < n ∧ x i = p) → (DI n k x → Sg k F x = SSl (revl k x) t q) ∧ (¬ DI n k x → Sg k F x = 0) := by
  intro k
  induction k with
  | zero =>
    intro _ x t ht
    refine ⟨fun d => ?_, fun d => h0 x d⟩
    show F x = q t
    rw [h1 x d]
    congr 1
    apply Nat.eq_of_testBit_eq
    intro p
    rw [Bool.eq_iff_iff, setS_bit, ht]
    exact ⟨fun ⟨i, a, c⟩ => ⟨i, Nat.zero_le _, a, c⟩, fun ⟨i, _, a, c⟩ => ⟨i, a, c⟩⟩
  | succ k ih =>
    intro hk x t ht
    have ht' : ∀ p pp, (t ||| 2 ^ p).testBit pp = true ↔ ∃ i, k ≤ i ∧ i < n ∧ tup x k p i = pp := by
      intro p pp
      rw [Nat.testBit_or, Nat.testBit_two_pow, Bool.or_eq_true, ht, decide_eq_true_iff]
      constructor
      · intro h
        rcases h with ⟨i, a, c, d⟩ | h
        · exact ⟨i, by omega, c, by unfold tup; rw [if_neg (by omega)]; exact d⟩
        · exact ⟨k, Nat.le_refl _, by omega, by unfold tup; rw [if_pos rfl]; exact h⟩
      · intro ⟨i, a, c, d⟩
        unfold tup at d
        by_cases z : i = k
        · rw [if_pos z] at d; right; exact d
        · rw [if_neg z] at d; left; exact ⟨i, by omega, c, d⟩
    refine ⟨fun d => ?_, fun d => ?_⟩
    · rw [Sg_s]
      show _ = SSl (x k :: revl k x) t q
      rw [SSl_c]
      have each : ∀ p, Sg k F (tup x k p) = if okp t p = true then SSl (revl k x) (t ||| 2 ^ p) q else 0 := by
        intro p
        have hh := ih (by omega) (tup x k p) (t ||| 2 ^ p) (ht' p)
        by_cases z : okp t p = true
        · rw [if_pos z, hh.1 ((DI_tup (by omega) d ht).2 z), revl_cg k (tup x k p) x (fun i hi => by unfold tup; rw [if_neg (by omega)])]
        · rw [if_neg z, hh.2 (fun y => z ((DI_tup (by omega) d ht).1 y))]
      rw [each, each]
    · have no : ∀ p, ¬ DI n k (tup x k p) := by
        intro p y
        refine d ⟨fun i hi hin => ?_, fun i hi hin j hj hji => ?_⟩
        · have := y.1 i (by omega) hin
          unfold tup at this
          rw [if_neg (by omega)] at this
          exact this
        · have := y.2 i (by omega) hin j (by omega) hji
          unfold tup at this
          rw [if_neg (by omega), if_neg (by omega)] at this
          exact this
      rw [Sg_s, (ih (by omega) _ _ (ht' _)).2 (no _), (ih (by omega) _ _ (ht' _)).2 (no _)]; rfl
theorem okT_le {n π : Nat} {x : Nat → Nat} (h : okT n π x) {i j : Nat} (hi : i < n) (hj : j ≤ i) : tky π (x j) ≤ tky π (x i) := by
  by_cases q : j = i
  · rw [q]; exact Nat.le_refl _
  · exact Nat.le_of_lt (h.2 i hi j (by omega))
theorem okT_uniq {n π : Nat} {x x' : Nat → Nat} (hx : okT n π x) (hx' : okT n π x') (he : ∀ p, (∃ i, i < n ∧ x i = p) ↔ ∃ i, i < n ∧ x' i = p) : ∀ k i, i < k → i < n → x i = x' i := by
  intro k
  induction k with
  | zero => intro i h; omega
  | succ k ih =>
    intro i hik hi
    obtain ⟨a, ha, ea⟩ := (he (x i)).1 ⟨i, hi, rfl⟩
    obtain ⟨c, hc, ec⟩ := (he (x' i)).2 ⟨i, hi, rfl⟩
    have hai : i ≤ a := by
      rcases Nat.lt_or_ge a i with q | q
      · have e := ih a (by omega) ha
        rw [ea] at e
        have := hx.2 i hi a q
        rw [e] at this
        omega
      · exact q
    have hci : i ≤ c := by
      rcases Nat.lt_or_ge c i with q | q
      · have e := ih c (by omega) hc
        rw [ec] at e
        have := hx'.2 i hi c q
        rw [← e] at this
        omega
      · exact q
    have k1 := okT_le hx' ha hai
    have k2 := okT_le hx hc hci
    rw [ea] at k1
    rw [ec] at k2
    have r1 := hx.1 i hi
    have r2 := hx'.1 i hi
    exact tky_inj (π := π) (by omega) (by omega) (by omega)
noncomputable def qS (n j π : Nat) (y : Nat → Nat) (σ : Nat) : Int := @dite _ (∃ x, okT n π x ∧ setS n x = σ) (Classical.propDecidable _) (fun h => zK n j π (Classical.choose h) y) (fun _ => 0)
theorem qS_eq {n j π : Nat} {y x : Nat → Nat} (hx : okT n π x) : qS n j π y (setS n x) = zK n j π x y := by
  have h : ∃ x', okT n π x' ∧ setS n x' = setS n x := ⟨x, hx, rfl⟩
  unfold qS
  rw [dif_pos h]
  obtain ⟨c1, c2⟩ := Classical.choose_spec h
  refine zK_cg j π x _ y (fun i hi => ?_)
  exact okT_uniq c1 hx (fun p => by rw [← setS_bit, ← setS_bit, c2]) (i + 1) i (by omega) hi
theorem zK_step {n j π : Nat} {y x : Nat → Nat} (hx : okT n π x) : zK n (j + 1) π x y = SSl (revl n x) 0 (qS n j (π + 1) y) := by
  have e1 : zK n (j + 1) π x y = Sg n (fun x' => @ite _ (DI n 0 x') (Classical.propDecidable _) (qS n j (π + 1) y (setS n x')) 0) x := by
    refine Sg_cg n x (fun x' hm => ?_)
    by_cases q : okB n (π + 1) x' = true
    · have ho := okB_iff.1 q
      have hd : DI n 0 x' := ⟨fun i _ hi => ho.1 i hi, fun i _ hi j _ hj e => by
        have := ho.2 i hi j hj
        rw [e] at this
        omega⟩
      rw [if_pos q, if_pos hd, qS_eq ho]
    · have hd : ¬ DI n 0 x' := fun d => q (okB_iff.2 (mv_ok hx hm (fun i hi => d.1 i (Nat.zero_le _) hi) (fun i hi j hj => d.2 i (Nat.zero_le _) hi j (Nat.zero_le _) hj)))
      rw [if_neg q, if_neg hd]
  rw [e1]
  have e2 := (Sg_SSl (n := n) (F := fun x' => @ite _ (DI n 0 x') (Classical.propDecidable _) (qS n j (π + 1) y (setS n x')) 0) (q := qS n j (π + 1) y) (fun x' d => if_pos d) (fun x' d => if_neg d) n (Nat.le_refl _) x 0 (fun p => ⟨fun h => by rw [Nat.zero_testBit] at h; exact Bool.noConfusion h, fun ⟨i, a, c, _⟩ => absurd c (by omega)⟩)).1 ⟨fun i a c => absurd c (by omega), fun i a c => absurd c (by omega)⟩
  exact e2
theorem okT_nd {n π : Nat} {x : Nat → Nat} (hx : okT n π x) : (revl n x).Nodup := revl_nd n (fun i hi j hj e => by
  have := hx.2 i hi j hj
  rw [e] at this
  omega)
theorem qS_step {n j π : Nat} {y : Nat → Nat} {σ : Nat} (hx : ∃ x, okT n π x ∧ setS n x = σ) {l : List Nat} (hl : l.Nodup) (hm : ∀ p, p ∈ l ↔ σ.testBit p = true) : qS n (j + 1) π y σ = SSl l 0 (qS n j (π + 1) y) ∧ l.length = n := by
  obtain ⟨x, h1, h2⟩ := hx
  have hp : (revl n x).Perm l := (List.perm_ext_iff_of_nodup (okT_nd h1) hl).2 (fun p => by rw [revl_mem, hm, ← h2, setS_bit])
  rw [← h2, qS_eq h1, zK_step h1]
  exact ⟨SSl_perm hp 0, by rw [← hp.length_eq, revl_len]⟩
/-! the moves as the reference draws them: bit k of w for walker k -/
def stL : List Nat → Nat → Nat → Option Nat
  | [], t, _ => some t
  | a :: l, t, w => if okp t (if w % 2 = 1 then a + 1 else a - 1) = true then stL l (t ||| 2 ^ (if w % 2 = 1 then a + 1 else a - 1)) (w / 2) else none
def ov (g : Nat → Int) (o : Option Nat) : Int := match o with | some t => g t | none => 0
theorem zsum_2 (f : Nat → Int) : ∀ k, zsum (2 * k) f = zsum k (fun w => f (2 * w) + f (2 * w + 1)) := by
  intro k
  induction k with
  | zero => rfl
  | succ k ih =>
    rw [show 2 * (k + 1) = 2 * k + 1 + 1 by omega, zsum_s, zsum_s, ih, zsum_s]
    omega
theorem stL_sum (g : Nat → Int) : ∀ l t, zsum (2 ^ l.length) (fun w => ov g (stL l t w)) = SSl l t g := by
  intro l
  induction l with
  | nil => intro t; show (0 : Int) + g t = g t; omega
  | cons a l ih =>
    intro t
    rw [List.length_cons, Nat.pow_succ, Nat.mul_comm, zsum_2, SSl_c]
    have e : ∀ w, ov g (stL (a :: l) t (2 * w)) + ov g (stL (a :: l) t (2 * w + 1)) = (if okp t (a - 1) = true then ov g (stL l (t ||| 2 ^ (a - 1)) w) else 0) + (if okp t (a + 1) = true then ov g (stL l (t ||| 2 ^ (a + 1)) w) else 0) := by
      intro w
      have c0 : (if 2 * w % 2 = 1 then a + 1 else a - 1) = a - 1 := if_neg (by omega)
      have c1 : (if (2 * w + 1) % 2 = 1 then a + 1 else a - 1) = a + 1 := if_pos (by omega)
      have d0 : 2 * w / 2 = w := by omega
      have d1 : (2 * w + 1) / 2 = w := by omega
      have s0 : stL (a :: l) t (2 * w) = if okp t (a - 1) = true then stL l (t ||| 2 ^ (a - 1)) w else none := by
        show (if okp t (if 2 * w % 2 = 1 then a + 1 else a - 1) = true then stL l (t ||| 2 ^ (if 2 * w % 2 = 1 then a + 1 else a - 1)) (2 * w / 2) else none) = _
        rw [c0, d0]
      have s1 : stL (a :: l) t (2 * w + 1) = if okp t (a + 1) = true then stL l (t ||| 2 ^ (a + 1)) w else none := by
        show (if okp t (if (2 * w + 1) % 2 = 1 then a + 1 else a - 1) = true then stL l (t ||| 2 ^ (if (2 * w + 1) % 2 = 1 then a + 1 else a - 1)) ((2 * w + 1) / 2) else none) = _
        rw [c1, d1]
      rw [s0, s1]
      by_cases z0 : okp t (a - 1) = true
      · by_cases z1 : okp t (a + 1) = true
        · rw [if_pos z0, if_pos z1, if_pos z0, if_pos z1]
        · rw [if_pos z0, if_neg z1, if_pos z0, if_neg z1]; rfl
      · by_cases z1 : okp t (a + 1) = true
        · rw [if_neg z0, if_pos z1, if_neg z0, if_pos z1]; rfl
        · rw [if_neg z0, if_neg z1, if_neg z0, if_neg z1]; rfl
    rw [zsum_cg _ (fun w _ => e w), zsum_add]
    have k : ∀ p, zsum (2 ^ l.length) (fun w => if okp t p = true then ov g (stL l (t ||| 2 ^ p) w) else 0) = if okp t p = true then SSl l (t ||| 2 ^ p) g else 0 := by
      intro p
      by_cases z : okp t p = true
      · rw [if_pos z, ← ih]
        exact zsum_cg _ (fun w _ => if_pos z)
      · rw [if_neg z]
        exact zsum_z _ (fun w _ => if_neg z)
    rw [k, k]
/-- a set that moves lead to has a tuple in order -/
theorem stL_ok : ∀ l t w t', stL l t w = some t' → ∀ p, t'.testBit p = true → t.testBit p = true ∨ (1 ≤ p ∧ p ≤ 12) := by
  intro l
  induction l with
  | nil =>
    intro t w t' h p hp
    have h : some t = some t' := h
    rw [Option.some.inj h]; exact Or.inl hp
  | cons a l ih =>
    intro t w t' h p hp
    have h : (if okp t (if w % 2 = 1 then a + 1 else a - 1) = true then stL l (t ||| 2 ^ (if w % 2 = 1 then a + 1 else a - 1)) (w / 2) else none) = some t' := h
    by_cases z : okp t (if w % 2 = 1 then a + 1 else a - 1) = true
    · rw [if_pos z] at h
      rcases ih _ _ _ h p hp with q | q
      · rw [Nat.testBit_or, Nat.testBit_two_pow, Bool.or_eq_true, decide_eq_true_iff] at q
        rcases q with q | q
        · exact Or.inl q
        · unfold okp at z
          rw [Bool.and_eq_true, decide_eq_true_iff] at z
          rw [q] at z
          exact Or.inr z.1
      · exact Or.inr q
    · rw [if_neg z] at h
      cases h

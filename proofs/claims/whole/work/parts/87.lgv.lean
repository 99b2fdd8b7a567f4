/-! walkers: determinants count ways without a meeting -/
theorem zdet_row0 : ∀ n (M : Nat → Nat → Int) r, r < n → (∀ c, c < n → M r c = 0) → zdet n M = 0 := by
  intro n
  induction n with
  | zero => intro M r h; omega
  | succ n ih =>
    intro M r hr h0
    by_cases q : r = n
    · rw [zdet_s]
      exact zD_0 n M (fun j hj => by rw [← q]; exact h0 j hj)
    · show zsum (n + 1) _ = 0
      refine zsum_z _ (fun j hj => ?_)
      rw [ih (fun i c => M i (psk j c)) r (by omega) (fun c hc => h0 _ (psk_le hc)), Int.mul_zero]
theorem zdet_eqr : ∀ n (M : Nat → Nat → Int) a c, a < c → c < n → (∀ k, k < n → M a k = M c k) → zdet n M = 0 := by
  intro n
  induction n with
  | zero => intro M a c _ h; omega
  | succ n ih =>
    intro M a c hac hc h
    by_cases q : c = n
    · rw [zdet_s, ← zD_eq0 n M a (by omega)]
      exact zD_cg (fun _ _ _ _ => rfl) (fun j hj => by rw [← q]; exact (h j hj).symm)
    · show zsum (n + 1) _ = 0
      refine zsum_z _ (fun j hj => ?_)
      rw [ih (fun i k => M i (psk j k)) a c hac (by omega) (fun k hk => h _ (psk_le hk)), Int.mul_zero]
theorem zdet_col0 : ∀ n (M : Nat → Nat → Int), (∀ i, i < n + 1 → M i n = 0) → zdet (n + 1) M = 0 := by
  intro n
  induction n with
  | zero =>
    intro M h
    rw [zdet_s]
    exact zD_0 0 M (fun j hj => by rw [show j = 0 by omega]; exact h 0 (by omega))
  | succ n ih =>
    intro M h
    show zsum (n + 1 + 1) _ = 0
    refine zsum_z _ (fun j hj => ?_)
    by_cases q : j = n + 1
    · rw [q, h (n + 1) (by omega), Int.mul_zero, Int.zero_mul]
    · have e : psk j n = n + 1 := by unfold psk; rw [if_neg (by omega)]
      rw [ih (fun i c => M i (psk j c)) (fun i hi => by rw [e]; exact h i (by omega)), Int.mul_zero]
theorem zi_add (s a b x : Int) : s * (a + b) * x = s * a * x + s * b * x := by grind
theorem zdet_row : ∀ n (M : Nat → Nat → Int) (u w : Nat → Int) r, r < n → zdet n (fun i c => if i = r then u c + w c else M i c) = zdet n (fun i c => if i = r then u c else M i c) + zdet n (fun i c => if i = r then w c else M i c) := by
  intro n
  induction n with
  | zero => intro M u w r h; omega
  | succ n ih =>
    intro M u w r hr
    show zsum (n + 1) _ = zsum (n + 1) _ + zsum (n + 1) _
    rw [← zsum_add]
    refine zsum_cg _ (fun j hj => ?_)
    by_cases q : r = n
    · have e1 : ∀ f : Nat → Int, zdet n (fun i c => if i = r then f (psk j c) else M i (psk j c)) = zdet n (fun i c => M i (psk j c)) := fun f => zdet_cg n (fun i hi c _ => if_neg (by omega))
      show zsg (n + j) * (if n = r then u j + w j else M n j) * zdet n (fun i c => if i = r then u (psk j c) + w (psk j c) else M i (psk j c)) = zsg (n + j) * (if n = r then u j else M n j) * zdet n (fun i c => if i = r then u (psk j c) else M i (psk j c)) + zsg (n + j) * (if n = r then w j else M n j) * zdet n (fun i c => if i = r then w (psk j c) else M i (psk j c))
      rw [if_pos q.symm, if_pos q.symm, if_pos q.symm, e1 u, e1 w, e1 (fun c => u c + w c), zi_add]
    · show zsg (n + j) * (if n = r then u j + w j else M n j) * zdet n (fun i c => if i = r then u (psk j c) + w (psk j c) else M i (psk j c)) = zsg (n + j) * (if n = r then u j else M n j) * zdet n (fun i c => if i = r then u (psk j c) else M i (psk j c)) + zsg (n + j) * (if n = r then w j else M n j) * zdet n (fun i c => if i = r then w (psk j c) else M i (psk j c))
      have hn : ¬ n = r := fun e => q e.symm
      rw [if_neg hn, if_neg hn, if_neg hn, ih (fun i c => M i (psk j c)) (fun c => u (psk j c)) (fun c => w (psk j c)) r (by omega), Int.mul_add]
/-! walks of one walker on places 1 .. 12 -/
def wW : Nat → Nat → Nat → Nat
  | 0, a, p => if p = a then 1 else 0
  | m + 1, a, p => if 1 ≤ p ∧ p ≤ 12 then wW m a (p - 1) + wW m a (p + 1) else 0
def wR (m a p : Nat) : Nat := if 1 ≤ a ∧ a ≤ 12 then wW m a p else 0
theorem wW_out {m a p : Nat} (ha : 1 ≤ a ∧ a ≤ 12) (hp : ¬ (1 ≤ p ∧ p ≤ 12)) : wW m a p = 0 := by
  cases m with
  | zero => exact if_neg (fun e => hp (by omega))
  | succ m => exact if_neg hp
theorem wW_s (m a p : Nat) : wW (m + 1) a p = if 1 ≤ p ∧ p ≤ 12 then wW m a (p - 1) + wW m a (p + 1) else 0 := rfl
theorem wR_s (m a p : Nat) : wR (m + 1) a p = if 1 ≤ p ∧ p ≤ 12 then wR m a (p - 1) + wR m a (p + 1) else 0 := by
  unfold wR
  by_cases h : 1 ≤ a ∧ a ≤ 12
  · rw [if_pos h, if_pos h, if_pos h]; rfl
  · rw [if_neg h, if_neg h, if_neg h, ite_self]
theorem wW_first : ∀ m a q, 1 ≤ a → a ≤ 12 → wW (m + 1) a q = wR m (a - 1) q + wR m (a + 1) q := by
  intro m
  induction m with
  | zero =>
    intro a q h1 h2
    rw [wW_s]
    unfold wR
    show (if 1 ≤ q ∧ q ≤ 12 then (if q - 1 = a then 1 else 0) + (if q + 1 = a then 1 else 0) else 0) = (if 1 ≤ a - 1 ∧ a - 1 ≤ 12 then (if q = a - 1 then 1 else 0) else 0) + (if 1 ≤ a + 1 ∧ a + 1 ≤ 12 then (if q = a + 1 then 1 else 0) else 0)
    by_cases h : 1 ≤ q ∧ q ≤ 12
    · rw [if_pos h]
      by_cases c1 : q = a + 1
      · have z1 : (if q = a - 1 then 1 else 0) = 0 := if_neg (by omega)
        rw [if_pos (show q - 1 = a by omega), if_neg (show ¬ q + 1 = a by omega), z1, ite_self, if_pos (show 1 ≤ a + 1 ∧ a + 1 ≤ 12 by omega), if_pos c1]
      · have z1 : (if q = a + 1 then 1 else 0) = 0 := if_neg c1
        rw [if_neg (show ¬ q - 1 = a by omega), z1, ite_self]
        by_cases c2 : q + 1 = a
        · rw [if_pos c2, if_pos (show 1 ≤ a - 1 ∧ a - 1 ≤ 12 by omega), if_pos (show q = a - 1 by omega)]
        · have z2 : (if q = a - 1 then 1 else 0) = 0 := if_neg (by omega)
          rw [if_neg c2, z2, ite_self]
    · rw [if_neg h]
      by_cases c1 : 1 ≤ a - 1 ∧ a - 1 ≤ 12
      · rw [if_pos c1, if_neg (show ¬ q = a - 1 by omega)]
        by_cases c2 : 1 ≤ a + 1 ∧ a + 1 ≤ 12
        · rw [if_pos c2, if_neg (show ¬ q = a + 1 by omega)]
        · rw [if_neg c2]
      · rw [if_neg c1]
        by_cases c2 : 1 ≤ a + 1 ∧ a + 1 ≤ 12
        · rw [if_pos c2, if_neg (show ¬ q = a + 1 by omega)]
        · rw [if_neg c2]
  | succ m ih =>
    intro a q h1 h2
    rw [wW_s, wR_s, wR_s]
    by_cases h : 1 ≤ q ∧ q ≤ 12
    · rw [if_pos h, if_pos h, if_pos h, ih a (q - 1) h1 h2, ih a (q + 1) h1 h2]; omega
    · rw [if_neg h, if_neg h, if_neg h]
theorem wR_le : ∀ m a p, wR m a p ≤ 2 ^ m := by
  intro m
  induction m with
  | zero =>
    intro a p
    unfold wR
    split
    · show (if p = a then 1 else 0) ≤ 1
      split <;> omega
    · exact Nat.zero_le _
  | succ m ih =>
    intro a p
    rw [wR_s, Nat.pow_succ]
    have h1 := ih a (p - 1)
    have h2 := ih a (p + 1)
    split <;> omega
/-! tuples of places -/
def tup (x : Nat → Nat) (k p : Nat) : Nat → Nat := fun i => if i = k then p else x i
def zG (n m : Nat) (x y : Nat → Nat) : Int := zdet n (fun i j => (wR m (x i) (y j) : Int))
def Sg : Nat → ((Nat → Nat) → Int) → (Nat → Nat) → Int
  | 0, g, x => g x
  | k + 1, g, x => Sg k g (tup x k (x k - 1)) + Sg k g (tup x k (x k + 1))
theorem Sg_s (k : Nat) (g : (Nat → Nat) → Int) (x : Nat → Nat) : Sg (k + 1) g x = Sg k g (tup x k (x k - 1)) + Sg k g (tup x k (x k + 1)) := rfl
theorem zG_s {n m : Nat} {y : Nat → Nat} : ∀ k, k ≤ n → ∀ x : Nat → Nat, (∀ i, i < k → 1 ≤ x i ∧ x i ≤ 12) → zdet n (fun i j => if i < k then (wR (m + 1) (x i) (y j) : Int) else (wR m (x i) (y j) : Int)) = Sg k (fun x' => zG n m x' y) x := by
  intro k
  induction k with
  | zero =>
    intro _ x _
    exact zdet_cg n (fun i _ j _ => if_neg (by omega))
  | succ k ih =>
    intro hk x hx
    have hxk := hx k (by omega)
    have e1 : zdet n (fun i j => if i < k + 1 then (wR (m + 1) (x i) (y j) : Int) else (wR m (x i) (y j) : Int)) = zdet n (fun i j => if i = k then (wR m (x k - 1) (y j) : Int) + (wR m (x k + 1) (y j) : Int) else if i < k then (wR (m + 1) (x i) (y j) : Int) else (wR m (x i) (y j) : Int)) := by
      refine zdet_cg n (fun i _ j _ => ?_)
      by_cases q : i = k
      · subst q
        rw [if_pos (by omega), if_pos rfl]
        have := wW_first m (x i) (y j) hxk.1 hxk.2
        have e : wR (m + 1) (x i) (y j) = wW (m + 1) (x i) (y j) := if_pos hxk
        rw [e, this]
        omega
      · rw [if_neg q]
        by_cases w : i < k
        · rw [if_pos w, if_pos (by omega)]
        · rw [if_neg w, if_neg (by omega)]
    have e2 : ∀ p, zdet n (fun i j => if i = k then (wR m p (y j) : Int) else if i < k then (wR (m + 1) (x i) (y j) : Int) else (wR m (x i) (y j) : Int)) = Sg k (fun x' => zG n m x' y) (tup x k p) := by
      intro p
      rw [← ih (by omega) (tup x k p) (fun i hi => by unfold tup; rw [if_neg (by omega)]; exact hx i (by omega))]
      refine zdet_cg n (fun i _ j _ => ?_)
      unfold tup
      by_cases q : i = k
      · rw [if_pos q, if_neg (show ¬ i < k by omega), if_pos q]
      · rw [if_neg q, if_neg q]
    rw [e1, zdet_row n _ (fun j => (wR m (x k - 1) (y j) : Int)) (fun j => (wR m (x k + 1) (y j) : Int)) k (by omega), e2, e2, Sg_s]
theorem zG_step {n m : Nat} {x y : Nat → Nat} (hx : ∀ i, i < n → 1 ≤ x i ∧ x i ≤ 12) : zG n (m + 1) x y = Sg n (fun x' => zG n m x' y) x := by
  rw [← zG_s n (Nat.le_refl _) x hx]
  exact zdet_cg n (fun i hi j _ => (if_pos hi).symm)
def Mv (k : Nat) (x x' : Nat → Nat) : Prop := (∀ i, i < k → x' i = x i - 1 ∨ x' i = x i + 1) ∧ ∀ i, k ≤ i → x' i = x i
theorem Mv_dn {k : Nat} {x x' : Nat → Nat} {p : Nat} (hp : p = x k - 1 ∨ p = x k + 1) (h : Mv k (tup x k p) x') : Mv (k + 1) x x' := by
  refine ⟨fun i hi => ?_, fun i hi => ?_⟩
  · by_cases q : i = k
    · have := h.2 i (by omega)
      unfold tup at this
      rw [if_pos q] at this
      rw [this, q]; exact hp
    · have := h.1 i (by omega)
      unfold tup at this
      rw [if_neg q] at this
      exact this
  · have := h.2 i (by omega)
    unfold tup at this
    rw [if_neg (by omega)] at this
    exact this
theorem Sg_cg {f g : (Nat → Nat) → Int} : ∀ k x, (∀ x', Mv k x x' → f x' = g x') → Sg k f x = Sg k g x := by
  intro k
  induction k with
  | zero => intro x h; exact h x ⟨fun i hi => absurd hi (by omega), fun _ _ => rfl⟩
  | succ k ih =>
    intro x h
    rw [Sg_s, Sg_s, ih _ (fun x' h' => h x' (Mv_dn (Or.inl rfl) h')), ih _ (fun x' h' => h x' (Mv_dn (Or.inr rfl) h'))]
theorem Sg_nn {g : (Nat → Nat) → Int} : ∀ k x, (∀ x', Mv k x x' → 0 ≤ g x') → 0 ≤ Sg k g x := by
  intro k
  induction k with
  | zero => intro x h; exact h x ⟨fun i hi => absurd hi (by omega), fun _ _ => rfl⟩
  | succ k ih =>
    intro x h
    rw [Sg_s]
    have a := ih _ (fun x' h' => h x' (Mv_dn (Or.inl rfl) h'))
    have c := ih _ (fun x' h' => h x' (Mv_dn (Or.inr rfl) h'))
    omega
theorem Sg_ex {g : (Nat → Nat) → Int} : ∀ k x, Sg k g x ≠ 0 → ∃ x', Mv k x x' ∧ g x' ≠ 0 := by
  intro k
  induction k with
  | zero => intro x h; exact ⟨x, ⟨fun i hi => absurd hi (by omega), fun _ _ => rfl⟩, h⟩
  | succ k ih =>
    intro x h
    rw [Sg_s] at h
    by_cases q : Sg k g (tup x k (x k - 1)) = 0
    · obtain ⟨x', h1, h2⟩ := ih (tup x k (x k + 1)) (by omega)
      exact ⟨x', Mv_dn (Or.inr rfl) h1, h2⟩
    · obtain ⟨x', h1, h2⟩ := ih _ q
      exact ⟨x', Mv_dn (Or.inl rfl) h1, h2⟩
theorem Sg_in {g : (Nat → Nat) → Int} : ∀ k x, (∀ x', Mv k x x' → 0 ≤ g x') → ∀ x', Mv k x x' → (∀ x'', (∀ i, x'' i = x' i) → g x'' = g x') → g x' ≠ 0 → Sg k g x ≠ 0 := by
  intro k
  induction k with
  | zero =>
    intro x _ x' h hc h0
    have e : g x = g x' := hc x (fun i => (h.2 i (by omega)).symm)
    show g x ≠ 0
    rw [e]; exact h0
  | succ k ih =>
    intro x hn x' h hc h0
    rw [Sg_s]
    have a := Sg_nn k _ (fun x' h' => hn x' (Mv_dn (Or.inl rfl) h'))
    have c := Sg_nn k _ (fun x' h' => hn x' (Mv_dn (Or.inr rfl) h'))
    have hm : ∀ p, x' k = p → Mv k (tup x k p) x' := by
      intro p hp
      refine ⟨fun i hi => ?_, fun i hi => ?_⟩
      · unfold tup
        rw [if_neg (by omega)]
        exact h.1 i (by omega)
      · unfold tup
        by_cases q : i = k
        · rw [if_pos q, q]; exact hp
        · rw [if_neg q]; exact h.2 i (by omega)
    rcases h.1 k (by omega) with e | e
    · have := ih _ (fun x' h' => hn x' (Mv_dn (Or.inl rfl) h')) x' (hm _ e) hc h0
      omega
    · have := ih _ (fun x' h' => hn x' (Mv_dn (Or.inr rfl) h')) x' (hm _ e) hc h0
      omega
/-! tuples in order -/
def tky (π p : Nat) : Nat := 100 * ((p + π) % 2) + p
def okT (n π : Nat) (x : Nat → Nat) : Prop := (∀ i, i < n → 1 ≤ x i ∧ x i ≤ 12) ∧ ∀ i, i < n → ∀ j, j < i → tky π (x j) < tky π (x i)
def okB (n π : Nat) (x : Nat → Nat) : Bool := (List.range n).all (fun i => decide (1 ≤ x i ∧ x i ≤ 12) && (List.range i).all (fun j => decide (tky π (x j) < tky π (x i))))
theorem okB_iff {n π : Nat} {x : Nat → Nat} : okB n π x = true ↔ okT n π x := by
  unfold okB okT
  rw [List.all_eq_true]
  constructor
  · intro h
    refine ⟨fun i hi => ?_, fun i hi j hj => ?_⟩
    · have := h i (List.mem_range.2 hi)
      rw [Bool.and_eq_true] at this
      exact of_decide_eq_true this.1
    · have := h i (List.mem_range.2 hi)
      rw [Bool.and_eq_true, List.all_eq_true] at this
      exact of_decide_eq_true (this.2 j (List.mem_range.2 hj))
  · intro h i hi
    rw [Bool.and_eq_true, List.all_eq_true]
    exact ⟨decide_eq_true (h.1 i (List.mem_range.1 hi)), fun j hj => decide_eq_true (h.2 i (List.mem_range.1 hi) j (List.mem_range.1 hj))⟩
theorem okT.pre {n k π : Nat} {x : Nat → Nat} (h : okT n π x) (hk : k ≤ n) : okT k π x := ⟨fun i hi => h.1 i (by omega), fun i hi => h.2 i (by omega)⟩
theorem okT.cg {n π : Nat} {x x' : Nat → Nat} (h : okT n π x) (he : ∀ i, i < n → x' i = x i) : okT n π x' := ⟨fun i hi => by rw [he i hi]; exact h.1 i hi, fun i hi j hj => by rw [he i hi, he j (by omega)]; exact h.2 i hi j hj⟩
theorem tky_inj {π p q : Nat} (hp : p ≤ 13) (hq : q ≤ 13) (h : tky π p = tky π q) : p = q := by unfold tky at h; omega
/-- after a move the tuple is in order, or something is out of range, or two meet -/
theorem mv_ok {n π : Nat} {x x' : Nat → Nat} (hx : okT n π x) (hm : Mv n x x') (hr : ∀ i, i < n → 1 ≤ x' i ∧ x' i ≤ 12) (hd : ∀ i, i < n → ∀ j, j < i → x' j ≠ x' i) : okT n (π + 1) x' := by
  refine ⟨hr, fun i hi j hj => ?_⟩
  have a := hx.1 i hi
  have c := hx.1 j (by omega)
  have k := hx.2 i hi j hj
  have d := hd i hi j hj
  have e1 := hm.1 i hi
  have e2 := hm.1 j (by omega)
  have r1 := hr i hi
  have r2 := hr j (by omega)
  have p1 : (x' i + (π + 1)) % 2 = (x i + π) % 2 := by rcases e1 with e | e <;> omega
  have p2 : (x' j + (π + 1)) % 2 = (x j + π) % 2 := by rcases e2 with e | e <;> omega
  unfold tky at k ⊢
  rw [p1, p2]
  clear p1 p2 hr hd hm hx
  rcases Nat.mod_two_eq_zero_or_one (x i + π) with s1 | s1 <;> rcases Nat.mod_two_eq_zero_or_one (x j + π) with s2 | s2 <;> rw [s1, s2] at k ⊢ <;> rcases e1 with e1 | e1 <;> rcases e2 with e2 | e2 <;> omega
def zK (n : Nat) : Nat → Nat → (Nat → Nat) → (Nat → Nat) → Int
  | 0, _, x, y => if (List.range n).all (fun i => x i == y i) = true then 1 else 0
  | m + 1, π, x, y => Sg n (fun x' => if okB n (π + 1) x' = true then zK n m (π + 1) x' y else 0) x
theorem zK_nn (n : Nat) : ∀ m π x y, 0 ≤ zK n m π x y := by
  intro m
  induction m with
  | zero =>
    intro π x y
    show 0 ≤ (if (List.range n).all (fun i => x i == y i) = true then (1 : Int) else 0)
    split <;> decide
  | succ m ih =>
    intro π x y
    refine Sg_nn n x (fun x' _ => ?_)
    show 0 ≤ (if okB n (π + 1) x' = true then zK n m (π + 1) x' y else 0)
    split
    · exact ih _ _ _
    · exact Int.le_refl _
theorem zG_base : ∀ n π (x y : Nat → Nat), okT n π x → okT n π y → zG n 0 x y = if (List.range n).all (fun i => x i == y i) = true then 1 else 0 := by
  intro n
  induction n with
  | zero => intro π x y _ _; rfl
  | succ n ih =>
    intro π x y hx hy
    have hxn := hx.1 n (by omega)
    have hyn := hy.1 n (by omega)
    have hR : ∀ i j, i < n + 1 → (wR 0 (x i) (y j) : Int) = if y j = x i then 1 else 0 := by
      intro i j hi
      have e : wR 0 (x i) (y j) = if y j = x i then 1 else 0 := if_pos (hx.1 i hi)
      rw [e]
      split <;> rfl
    have hall : (List.range (n + 1)).all (fun i => x i == y i) = ((List.range n).all (fun i => x i == y i) && (x n == y n)) := by
      rw [List.range_succ, List.all_append, List.all_cons, List.all_nil, Bool.and_true]
    rw [hall]
    rcases Nat.lt_trichotomy (tky π (x n)) (tky π (y n)) with q | q | q
    · have hne : (x n == y n) = false := beq_eq_false_iff_ne.2 (fun e => by rw [e] at q; omega)
      rw [hne, Bool.and_false, if_neg (by decide)]
      refine zdet_col0 n _ (fun i hi => ?_)
      rw [hR i n hi, if_neg (fun e => ?_)]
      rcases Nat.lt_or_ge i n with w | w
      · have := hx.2 n (by omega) i w
        rw [e] at q
        omega
      · have : i = n := by omega
        rw [this] at e
        rw [e] at q
        omega
    · have e : x n = y n := tky_inj (π := π) (by omega) (by omega) q
      have hb : (x n == y n) = true := beq_iff_eq.2 e
      rw [hb, Bool.and_true, ← ih π x y (hx.pre (by omega)) (hy.pre (by omega))]
      unfold zG
      rw [zdet_s]
      unfold zD
      rw [zsum_s, zsum_z n (fun j hj => zi_2 _ _ _ (by
        rw [hR n j (by omega), if_neg]
        intro z
        have := hy.2 n (by omega) j hj
        rw [z, e] at this
        omega)), zsg_2]
      show (0 : Int) + 1 * (wR 0 (x n) (y n) : Int) * zdet n (fun i c => (wR 0 (x i) (y (psk n c)) : Int)) = _
      rw [hR n n (by omega), if_pos e.symm, Int.zero_add, Int.one_mul, Int.one_mul]
      exact zdet_cg n (fun i _ c hc => by rw [psk_a hc])
    · have hne : (x n == y n) = false := beq_eq_false_iff_ne.2 (fun e => by rw [e] at q; omega)
      rw [hne, Bool.and_false, if_neg (by decide)]
      refine zdet_row0 (n + 1) _ n (by omega) (fun j hj => ?_)
      rw [hR n j (by omega), if_neg (fun e => ?_)]
      rcases Nat.lt_or_ge j n with w | w
      · have := hy.2 n (by omega) j w
        rw [e] at this
        omega
      · have : j = n := by omega
        rw [this] at e
        rw [e] at q
        omega
theorem zG_K (n : Nat) : ∀ m π x y, okT n π x → okT n (π + m) y → zG n m x y = zK n m π x y := by
  intro m
  induction m with
  | zero => intro π x y hx hy; exact zG_base n π x y hx hy
  | succ m ih =>
    intro π x y hx hy
    rw [zG_step hx.1]
    refine Sg_cg n x (fun x' hm => ?_)
    by_cases q : okB n (π + 1) x' = true
    · rw [if_pos q]
      exact ih (π + 1) x' y (okB_iff.1 q) (by rw [Nat.add_right_comm]; exact hy)
    · rw [if_neg q]
      by_cases r : ∀ i, i < n → 1 ≤ x' i ∧ x' i ≤ 12
      · by_cases d : ∀ i, i < n → ∀ j, j < i → x' j ≠ x' i
        · exact absurd (okB_iff.2 (mv_ok hx hm r d)) q
        · have : ∃ i, i < n ∧ ∃ j, j < i ∧ x' j = x' i := by
            refine Classical.byContradiction (fun h => d (fun i hi j hj e => h ⟨i, hi, j, hj, e⟩))
          obtain ⟨i, hi, j, hj, e⟩ := this
          exact zdet_eqr n _ j i hj hi (fun k _ => by rw [e])
      · have : ∃ i, i < n ∧ ¬ (1 ≤ x' i ∧ x' i ≤ 12) := by
          refine Classical.byContradiction (fun h => r (fun i hi => Classical.byContradiction (fun e => h ⟨i, hi, e⟩)))
        obtain ⟨i, hi, e⟩ := this
        refine zdet_row0 n _ i hi (fun c _ => ?_)
        have : wR m (x' i) (y c) = 0 := if_neg e
        rw [this]; rfl
theorem zK_cg {n : Nat} : ∀ m π x x' y, (∀ i, i < n → x' i = x i) → zK n m π x' y = zK n m π x y := by
  have sg : ∀ (g : (Nat → Nat) → Int), (∀ a c : Nat → Nat, (∀ i, i < n → a i = c i) → g a = g c) → ∀ k, k ≤ n → ∀ a c : Nat → Nat, (∀ i, i < n → a i = c i) → Sg k g a = Sg k g c := by
    intro g hg k
    induction k with
    | zero => intro _ a c h; exact hg a c h
    | succ k ih =>
      intro hk a c h
      rw [Sg_s, Sg_s, h k (by omega)]
      have t : ∀ p i, i < n → tup a k p i = tup c k p i := by
        intro p i hi
        unfold tup
        by_cases q : i = k
        · rw [if_pos q, if_pos q]
        · rw [if_neg q, if_neg q]; exact h i hi
      rw [ih (by omega) _ _ (t (c k - 1)), ih (by omega) _ _ (t (c k + 1))]
  intro m
  induction m with
  | zero =>
    intro π x x' y h
    show (if (List.range n).all (fun i => x' i == y i) = true then (1 : Int) else 0) = _
    have e : (List.range n).all (fun i => x' i == y i) = (List.range n).all (fun i => x i == y i) := by
      rw [Bool.eq_iff_iff, List.all_eq_true, List.all_eq_true]
      exact ⟨fun z i hi => by have := z i hi; rwa [h i (List.mem_range.1 hi)] at this, fun z i hi => by have := z i hi; rwa [← h i (List.mem_range.1 hi)] at this⟩
    rw [e]; rfl
  | succ m ih =>
    intro π x x' y h
    refine sg _ (fun a c hac => ?_) n (Nat.le_refl _) x' x h
    have e : okB n (π + 1) a = okB n (π + 1) c := by
      rw [Bool.eq_iff_iff, okB_iff, okB_iff]
      exact ⟨fun z => z.cg (fun i hi => (hac i hi).symm), fun z => z.cg hac⟩
    show (if okB n (π + 1) a = true then zK n m (π + 1) a y else 0) = (if okB n (π + 1) c = true then zK n m (π + 1) c y else 0)
    rw [e, ih (π + 1) c a y hac]
theorem zK_pre {n k : Nat} (hk : k ≤ n) : ∀ m π x y, zK n m π x y ≠ 0 → zK k m π x y ≠ 0 := by
  intro m
  induction m with
  | zero =>
    intro π x y h
    show (if (List.range k).all (fun i => x i == y i) = true then (1 : Int) else 0) ≠ 0
    have h : (if (List.range n).all (fun i => x i == y i) = true then (1 : Int) else 0) ≠ 0 := h
    by_cases q : (List.range n).all (fun i => x i == y i) = true
    · rw [if_pos]
      · decide
      · rw [List.all_eq_true] at q ⊢
        exact fun i hi => q i (List.mem_range.2 (by have := List.mem_range.1 hi; omega))
    · rw [if_neg q] at h
      exact absurd rfl h
  | succ m ih =>
    intro π x y h
    obtain ⟨x', h1, h2⟩ := Sg_ex n x h
    have h2 : (if okB n (π + 1) x' = true then zK n m (π + 1) x' y else 0) ≠ 0 := h2
    by_cases q : okB n (π + 1) x' = true
    · rw [if_pos q] at h2
      have h3 := ih (π + 1) x' y h2
      have ho := (okB_iff.1 q).pre hk
      have e1 : ∀ i, i < k → (fun i => if i < k then x' i else x i) i = x' i := fun i hi => if_pos hi
      have hg : ∀ z : Nat → Nat, (∀ i, i < k → z i = x' i) → (if okB k (π + 1) z = true then zK k m (π + 1) z y else 0) ≠ 0 := by
        intro z hz
        rw [if_pos (okB_iff.2 (ho.cg hz)), zK_cg m (π + 1) x' z y hz]
        exact h3
      refine Sg_in (g := fun x' => if okB k (π + 1) x' = true then zK k m (π + 1) x' y else 0) k x (fun z _ => ?_) (fun i => if i < k then x' i else x i) ⟨fun i hi => ?_, fun i hi => ?_⟩ (fun z hz => ?_) (hg _ e1)
      · show 0 ≤ (if okB k (π + 1) z = true then zK k m (π + 1) z y else 0)
        split
        · exact zK_nn k _ _ _ _
        · exact Int.le_refl _
      · show (if i < k then x' i else x i) = x i - 1 ∨ (if i < k then x' i else x i) = x i + 1
        rw [if_pos hi]; exact h1.1 i (by omega)
      · show (if i < k then x' i else x i) = x i
        rw [if_neg (by omega)]
      · have : z = (fun i => if i < k then x' i else x i) := funext hz
        rw [this]
    · rw [if_neg q] at h2
      exact absurd rfl h2

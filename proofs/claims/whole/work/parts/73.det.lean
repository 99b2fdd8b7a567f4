/-! determinants over the integers, by the last row -/
def zsum : Nat → (Nat → Int) → Int
  | 0, _ => 0
  | n + 1, f => zsum n f + f n
def zsg (k : Nat) : Int := if k % 2 = 0 then 1 else -1
def zdet : Nat → (Nat → Nat → Int) → Int
  | 0, _ => 1
  | n + 1, M => zsum (n + 1) (fun j => zsg (n + j) * M n j * zdet n (fun i c => M i (psk j c)))
def zD (n : Nat) (M : Nat → Nat → Int) (r : Nat → Int) : Int := zsum (n + 1) (fun j => zsg (n + j) * r j * zdet n (fun i c => M i (psk j c)))
theorem zsum_s (n : Nat) (f : Nat → Int) : zsum (n + 1) f = zsum n f + f n := rfl
theorem zsum_0 (f : Nat → Int) : zsum 0 f = 0 := rfl
theorem zdet_s (n : Nat) (M : Nat → Nat → Int) : zdet (n + 1) M = zD n M (M n) := rfl
theorem zsum_cg {f g : Nat → Int} : ∀ n, (∀ i, i < n → f i = g i) → zsum n f = zsum n g := by
  intro n
  induction n with
  | zero => intro _; rfl
  | succ n ih => intro h; rw [zsum_s, zsum_s, ih (fun i hi => h i (by omega)), h n (by omega)]
theorem zsum_z {f : Nat → Int} : ∀ n, (∀ i, i < n → f i = 0) → zsum n f = 0 := by
  intro n
  induction n with
  | zero => intro _; rfl
  | succ n ih => intro h; rw [zsum_s, ih (fun i hi => h i (by omega)), h n (by omega)]; rfl
theorem zsum_add {f g : Nat → Int} : ∀ n, zsum n (fun i => f i + g i) = zsum n f + zsum n g := by
  intro n
  induction n with
  | zero => rfl
  | succ n ih => rw [zsum_s, zsum_s, zsum_s, ih]; omega
theorem zsum_mul {f : Nat → Int} (c : Int) : ∀ n, zsum n (fun i => c * f i) = c * zsum n f := by
  intro n
  induction n with
  | zero => rw [zsum_0, zsum_0, Int.mul_zero]
  | succ n ih => rw [zsum_s, zsum_s, ih, Int.mul_add]
theorem zsum_neg {f : Nat → Int} : ∀ n, zsum n (fun i => -f i) = -zsum n f := by
  intro n
  induction n with
  | zero => rfl
  | succ n ih => rw [zsum_s, zsum_s, ih]; omega
theorem zsum_comm {f : Nat → Nat → Int} (n : Nat) : ∀ m, zsum n (fun i => zsum m (fun j => f i j)) = zsum m (fun j => zsum n (fun i => f i j)) := by
  intro m
  induction m with
  | zero => exact zsum_z n (fun i _ => rfl)
  | succ m ih =>
    have e : zsum n (fun i => zsum (m + 1) (fun j => f i j)) = zsum n (fun i => zsum m (fun j => f i j) + f i m) := zsum_cg n (fun i _ => rfl)
    rw [e, zsum_add, ih, zsum_s]
theorem psk_le {j c n : Nat} (h : c < n) : psk j c < n + 1 := by unfold psk; split <;> omega
theorem zdet_cg : ∀ n {M N : Nat → Nat → Int}, (∀ i, i < n → ∀ c, c < n → M i c = N i c) → zdet n M = zdet n N := by
  intro n
  induction n with
  | zero => intro M N _; rfl
  | succ n ih =>
    intro M N h
    show zsum (n + 1) _ = zsum (n + 1) _
    refine zsum_cg _ (fun j hj => ?_)
    rw [h n (by omega) j hj, ih (fun i hi c hc => h i (by omega) _ (psk_le hc))]
theorem zD_cg {n : Nat} {M N : Nat → Nat → Int} {r q : Nat → Int} (h : ∀ i, i < n → ∀ c, c < n + 1 → M i c = N i c) (h2 : ∀ j, j < n + 1 → r j = q j) : zD n M r = zD n N q := by
  refine zsum_cg _ (fun j hj => ?_)
  rw [h2 j hj, zdet_cg n (fun i hi c hc => h i hi _ (psk_le hc))]
theorem zi_1 (s a b c d : Int) (x : Int) : s * (a * b + c * d) * x = a * (s * b * x) + c * (s * d * x) := by grind
theorem zD_lin (n : Nat) (M : Nat → Nat → Int) (a b : Int) (r q : Nat → Int) : zD n M (fun j => a * r j + b * q j) = a * zD n M r + b * zD n M q := by
  unfold zD
  rw [← zsum_mul, ← zsum_mul, ← zsum_add]
  exact zsum_cg _ (fun j _ => zi_1 _ _ _ _ _ _)
theorem zi_2 (s a x : Int) (h : a = 0) : s * a * x = 0 := by rw [h, Int.mul_zero, Int.zero_mul]
theorem zD_0 (n : Nat) (M : Nat → Nat → Int) {r : Nat → Int} (h : ∀ j, j < n + 1 → r j = 0) : zD n M r = 0 := zsum_z _ (fun j hj => zi_2 _ _ _ (h j hj))
theorem zi_3 (A x B : Int) : A + x * B = 1 * A + x * B := by grind
theorem zD_sum (n : Nat) (M : Nat → Nat → Int) (x : Nat → Int) (R : Nat → Nat → Int) : ∀ k, zD n M (fun j => zsum k (fun l => x l * R l j)) = zsum k (fun l => x l * zD n M (R l)) := by
  intro k
  induction k with
  | zero => exact zD_0 n M (fun j _ => rfl)
  | succ k ih =>
    have e : zD n M (fun j => zsum (k + 1) (fun l => x l * R l j)) = zD n M (fun j => 1 * zsum k (fun l => x l * R l j) + x k * R k j) := zD_cg (fun _ _ _ _ => rfl) (fun j _ => zi_3 _ _ _)
    rw [e, zD_lin, ih, zsum_s, Int.one_mul]
/-! the pairs of a double sum -/
theorem zpair (F : Nat → Nat → Int) : ∀ m, zsum (m + 1) (fun j => zsum m (fun k => F j k)) = zsum (m + 1) (fun a => zsum a (fun b => F a b + F b (a - 1))) := by
  intro m
  induction m with
  | zero => rfl
  | succ m ih =>
    have e : zsum (m + 1) (fun j => zsum (m + 1) (fun k => F j k)) = zsum (m + 1) (fun j => zsum m (fun k => F j k)) + zsum (m + 1) (fun j => F j m) := by
      rw [← zsum_add]
      exact zsum_cg _ (fun j _ => rfl)
    rw [zsum_s (m + 1), e, ih, zsum_s (m + 1) (fun a => zsum a (fun b => F a b + F b (a - 1)))]
    have e2 : zsum (m + 1) (fun b => F (m + 1) b + F b (m + 1 - 1)) = zsum (m + 1) (fun k => F (m + 1) k) + zsum (m + 1) (fun j => F j m) := zsum_add _
    rw [e2]
    omega
theorem zsg_s (k : Nat) : zsg (k + 1) = -zsg k := by
  unfold zsg
  rcases Nat.mod_two_eq_zero_or_one k with e | e
  · rw [if_pos e, if_neg (show ¬ (k + 1) % 2 = 0 by omega)]
  · rw [if_neg (show ¬ k % 2 = 0 by omega), if_pos (show (k + 1) % 2 = 0 by omega)]; rfl
theorem zsg_2 (k : Nat) : zsg (k + k) = 1 := by
  unfold zsg
  rw [if_pos (by omega)]
theorem psk_a {a b : Nat} (h : b < a) : psk a b = b := if_pos h
theorem psk_b {a b : Nat} (h : b < a) : psk b (a - 1) = a := by
  unfold psk
  rw [if_neg (by omega)]
  omega
theorem psk_ab {a b : Nat} (h : b < a) (c : Nat) : psk a (psk b c) = psk b (psk (a - 1) c) := by
  unfold psk
  by_cases h1 : c < b
  · rw [if_pos h1, if_pos (by omega), if_pos (show c < a - 1 by omega), if_pos h1]
  · rw [if_neg h1]
    by_cases h2 : c + 1 < a
    · rw [if_pos h2, if_pos (show c < a - 1 by omega), if_neg h1]
    · rw [if_neg h2, if_neg (show ¬ c < a - 1 by omega), if_neg (by omega)]
def zE (n : Nat) (M : Nat → Nat → Int) (r q : Nat → Int) : Int := zD (n + 1) (fun i c => if i = n then r c else M i c) q
def zF (n : Nat) (M : Nat → Nat → Int) (r q : Nat → Int) (j k : Nat) : Int := zsg (n + 1 + j) * q j * (zsg (n + k) * r (psk j k) * zdet n (fun i c => M i (psk j (psk k c))))
theorem zE_F (n : Nat) (M : Nat → Nat → Int) (r q : Nat → Int) : zE n M r q = zsum (n + 1 + 1) (fun j => zsum (n + 1) (fun k => zF n M r q j k)) := by
  unfold zE zD
  refine zsum_cg _ (fun j _ => ?_)
  have e : zdet (n + 1) (fun i c => if i = n then r (psk j c) else M i (psk j c)) = zsum (n + 1) (fun k => zsg (n + k) * r (psk j k) * zdet n (fun i c => M i (psk j (psk k c)))) := by
    show zsum (n + 1) _ = _
    refine zsum_cg _ (fun k _ => ?_)
    show zsg (n + k) * (if n = n then r (psk j k) else M n (psk j k)) * zdet n (fun i c => if i = n then r (psk j (psk k c)) else M i (psk j (psk k c))) = _
    rw [if_pos rfl]
    congr 1
    exact zdet_cg n (fun i hi c _ => if_neg (by omega))
  rw [e, ← zsum_mul]
  rfl
theorem zF_anti (n : Nat) (M : Nat → Nat → Int) (r q : Nat → Int) {a b : Nat} (h : b < a) : zF n M r q a b + zF n M r q b (a - 1) = -(zF n M q r a b + zF n M q r b (a - 1)) := by
  have eT : zdet n (fun i c => M i (psk b (psk (a - 1) c))) = zdet n (fun i c => M i (psk a (psk b c))) := zdet_cg n (fun i _ c _ => by rw [psk_ab h])
  unfold zF
  rw [psk_a h, psk_b h, eT]
  obtain ⟨a', rfl⟩ : ∃ a', a = a' + 1 := ⟨a - 1, by omega⟩
  have s1 : zsg (n + 1 + (a' + 1)) = -zsg (n + 1 + a') := zsg_s _
  have s2 : zsg (n + 1 + a') = -zsg (n + a') := by
    have := zsg_s (n + a')
    rwa [show n + a' + 1 = n + 1 + a' by omega] at this
  have s3 : zsg (n + 1 + b) = -zsg (n + b) := by
    have := zsg_s (n + b)
    rwa [show n + b + 1 = n + 1 + b by omega] at this
  rw [s1, s2, s3, Nat.add_sub_cancel]
  generalize zdet n (fun i c => M i (psk (a' + 1) (psk b c))) = T
  generalize zsg (n + a') = A
  generalize zsg (n + b) = B
  generalize q (a' + 1) = qa
  generalize q b = qb
  generalize r (a' + 1) = ra
  generalize r b = rb
  grind
theorem zE_anti (n : Nat) (M : Nat → Nat → Int) (r q : Nat → Int) : zE n M r q = -zE n M q r := by
  rw [zE_F, zE_F, zpair, zpair, ← zsum_neg]
  refine zsum_cg _ (fun a _ => ?_)
  rw [← zsum_neg]
  exact zsum_cg _ (fun b hb => zF_anti n M r q hb)
theorem zD_E (n : Nat) (M : Nat → Nat → Int) (q : Nat → Int) : zD (n + 1) M q = zE n M (M n) q := by
  unfold zE
  refine zD_cg (fun i _ c _ => ?_) (fun _ _ => rfl)
  by_cases h : i = n
  · rw [if_pos h, h]
  · rw [if_neg h]
theorem zD_eq0 : ∀ n (M : Nat → Nat → Int) l, l < n → zD n M (M l) = 0 := by
  intro n
  induction n with
  | zero => intro M l h; omega
  | succ n ih =>
    intro M l hl
    rw [zD_E, zE_anti]
    by_cases q : l = n
    · have e := zE_anti n M (M n) (M n)
      rw [q]
      omega
    · have e : zE n M (M l) (M n) = 0 := by
        unfold zE zD
        refine zsum_z _ (fun j _ => ?_)
        have e2 : zdet (n + 1) (fun i c => if i = n then M l (psk j c) else M i (psk j c)) = 0 := by
          rw [zdet_s]
          have h := ih (fun i c => M i (psk j c)) l (by omega)
          rw [← h]
          refine zD_cg (fun i hi c _ => if_neg (by omega)) (fun c _ => if_pos rfl)
        rw [e2, Int.mul_zero]
      rw [e]; rfl
/-! bordered minors: rows 0 .. k - 1 and i, columns 0 .. k - 1 and j -/
def zc (k j c : Nat) : Nat := if c = k then j else c
def zb (M : Nat → Nat → Int) (k i j : Nat) : Int := zD k (fun r c => M r (zc k j c)) (fun c => M i (zc k j c))
theorem zb_kk (M : Nat → Nat → Int) (k : Nat) : zb M k k k = zdet (k + 1) M := by
  have e : ∀ c, zc k k c = c := by
    intro c
    unfold zc
    split
    · next h => exact h.symm
    · rfl
  unfold zb
  rw [zdet_s]
  exact zD_cg (fun i _ c _ => by rw [e]) (fun c _ => by rw [e])
theorem zb_0 (M : Nat → Nat → Int) (i j : Nat) : zb M 0 i j = M i j := by
  show (0 : Int) + zsg (0 + 0) * M i (zc 0 j 0) * 1 = M i j
  rw [zsg_2]
  show (0 : Int) + 1 * M i j * 1 = M i j
  omega
theorem zb_R (M : Nat → Nat → Int) (k j : Nat) {R : Nat → Int} (h : ∀ c, c < k → R c = 0) : zD k (fun r c => M r (zc k j c)) (fun c => R (zc k j c)) = R j * zdet k M := by
  unfold zD
  rw [zsum_s, zsum_z k (fun c hc => zi_2 _ _ _ (by unfold zc; rw [if_neg (by omega)]; exact h c hc)), zsg_2]
  have e1 : zc k j k = j := if_pos rfl
  have e2 : zdet k (fun i c => M i (zc k j (psk k c))) = zdet k M := by
    refine zdet_cg k (fun i _ c hc => ?_)
    rw [psk_a hc]
    unfold zc
    rw [if_neg (by omega)]
  show (0 : Int) + 1 * R (zc k j k) * zdet k (fun i c => M i (zc k j (psk k c))) = _
  rw [e1, e2, Int.zero_add, Int.one_mul]
def zS (M : Nat → Nat → Int) (k i : Nat) (E : Int) (R x : Nat → Int) : Prop := E ≠ 0 ∧ (∀ j, j < k → R j = 0) ∧ ∀ j, E * M i j = zsum k (fun l => x l * M l j) + R j
theorem zS_b {M : Nat → Nat → Int} {k i : Nat} {E : Int} {R x : Nat → Int} (h : zS M k i E R x) (j : Nat) : E * zb M k i j = R j * zdet k M := by
  rw [← zb_R M k j h.2.1]
  have e1 : zD k (fun r c => M r (zc k j c)) (fun c => E * M i (zc k j c) + 0 * M i (zc k j c)) = E * zb M k i j + 0 * zb M k i j := zD_lin k _ E 0 _ _
  have e2 : zD k (fun r c => M r (zc k j c)) (fun c => E * M i (zc k j c) + 0 * M i (zc k j c)) = zD k (fun r c => M r (zc k j c)) (fun c => 1 * zsum k (fun l => x l * M l (zc k j c)) + 1 * R (zc k j c)) := by
    refine zD_cg (fun _ _ _ _ => rfl) (fun c _ => ?_)
    rw [h.2.2 (zc k j c)]
    omega
  have e3 := zD_lin k (fun r c => M r (zc k j c)) 1 1 (fun c => zsum k (fun l => x l * M l (zc k j c))) (fun c => R (zc k j c))
  have e4 : zD k (fun r c => M r (zc k j c)) (fun c => zsum k (fun l => x l * M l (zc k j c))) = 0 := by
    rw [zD_sum k (fun r c => M r (zc k j c)) x (fun l c => M l (zc k j c)) k]
    refine zsum_z k (fun l hl => ?_)
    have := zD_eq0 k (fun r c => M r (zc k j c)) l hl
    have this : zD k (fun r c => M r (zc k j c)) (fun c => M l (zc k j c)) = 0 := this
    rw [this, Int.mul_zero]
  rw [e4] at e3
  omega
theorem zS_0 (M : Nat → Nat → Int) (i : Nat) : zS M 0 i 1 (M i) (fun _ => 0) := ⟨by decide, fun j hj => absurd hj (by omega), fun j => by rw [zsum_0]; omega⟩
theorem zi_6 (a b A B m r : Int) : a * (A * m) = a * A * m := by grind
theorem zS_s {M : Nat → Nat → Int} {k i : Nat} {E F : Int} {R Q x y : Nat → Int} (h : zS M k i E R x) (g : zS M k k F Q y) (hQ : Q k ≠ 0) : zS M (k + 1) i (Q k * E) (fun j => Q k * R j - R k * Q j) (fun l => if l = k then R k * F else Q k * x l - R k * y l) := by
  refine ⟨Int.mul_ne_zero hQ h.1, fun j hj => ?_, fun j => ?_⟩
  · show Q k * R j - R k * Q j = 0
    by_cases q : j = k
    · rw [q]; grind
    · rw [h.2.1 j (by omega), g.2.1 j (by omega)]; grind
  · have e1 := h.2.2 j
    have e2 := g.2.2 j
    have e3 : zsum k (fun l => (if l = k then R k * F else Q k * x l - R k * y l) * M l j) = Q k * zsum k (fun l => x l * M l j) + -(R k) * zsum k (fun l => y l * M l j) := by
      rw [← zsum_mul, ← zsum_mul, ← zsum_add]
      refine zsum_cg k (fun l hl => ?_)
      rw [if_neg (by omega)]
      grind
    rw [zsum_s, e3]
    show Q k * E * M i j = (Q k * zsum k (fun l => x l * M l j) + -(R k) * zsum k (fun l => y l * M l j)) + (if k = k then R k * F else Q k * x k - R k * y k) * M k j + (Q k * R j - R k * Q j)
    rw [if_pos rfl]
    generalize zsum k (fun l => x l * M l j) = X at e1 ⊢
    generalize zsum k (fun l => y l * M l j) = Y at e2 ⊢
    generalize M i j = m at e1 ⊢
    generalize M k j = w at e2 ⊢
    generalize Q k = qk
    generalize R k = rk
    generalize R j = rj at e1 ⊢
    generalize Q j = qj at e2 ⊢
    have f1 : qk * (E * m) = qk * (X + rj) := by rw [e1]
    have f2 : rk * (F * w) = rk * (Y + qj) := by rw [e2]
    grind
theorem zbar {M : Nat → Nat → Int} {k i : Nat} {E F : Int} {R Q x y : Nat → Int} (h : zS M k i E R x) (g : zS M k k F Q y) (hd : zdet (k + 1) M ≠ 0) (hd0 : zdet k M ≠ 0) (j : Nat) : Q k ≠ 0 ∧ zdet k M * zb M (k + 1) i j = zb M k k k * zb M k i j - zb M k i k * zb M k k j := by
  have b1 := zS_b h j
  have b2 := zS_b h k
  have b3 := zS_b g k
  have b4 := zS_b g j
  have hQ : Q k ≠ 0 := by
    intro z
    rw [z, Int.zero_mul, zb_kk] at b3
    exact (Int.mul_ne_zero g.1 hd) b3
  refine ⟨hQ, ?_⟩
  have b5 := zS_b (zS_s h g hQ) j
  rw [← zb_kk] at b5
  have b5 : Q k * E * zb M (k + 1) i j = (Q k * R j - R k * Q j) * zb M k k k := b5
  have hE := h.1
  have hF := g.1
  generalize zb M (k + 1) i j = n at b5 ⊢
  generalize zb M k i j = bij at b1 ⊢
  generalize zb M k i k = bik at b2 ⊢
  generalize zb M k k k = bkk at b3 b5 ⊢
  generalize zb M k k j = bkj at b4 ⊢
  generalize zdet k M = D at b1 b2 b3 b4 ⊢
  generalize Q k = qk at b3 b5 hQ
  generalize R k = rk at b2 b5
  generalize R j = rj at b1 b5
  generalize Q j = qj at b4 b5
  have hne : qk * (E * F) ≠ 0 := Int.mul_ne_zero hQ (Int.mul_ne_zero hE hF)
  refine Int.eq_of_mul_eq_mul_left hne ?_
  have c1 : qk * (E * F) * (D * n) = F * D * (qk * E * n) := by grind
  have c2 : F * D * ((qk * rj - rk * qj) * bkk) = D * (qk * rj - rk * qj) * (F * bkk) := by grind
  have c3 : qk * (E * F) * (bkk * bij - bik * bkj) = qk * ((F * bkk) * (E * bij) - (E * bik) * (F * bkj)) := by grind
  rw [c1, b5, c2, b3, c3, b3, b1, b2, b4]
  grind

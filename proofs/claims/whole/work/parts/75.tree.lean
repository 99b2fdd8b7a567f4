/-! a shut part of at most 8 states: at most 36 goes out of a state -/
def tgZ (n op Z s : Nat) : Nat := (List.range (pgates n op)).foldl (fun x g => if Z.testBit (pro n op s g) = true then x ||| 1 <<< (s ^^^ pbg n op g) else x) 0
def cnZ (n op Z s g : Nat) : Nat := ((List.range g).filter (fun g => Z.testBit (pro n op s g))).length
def t2Z (n op Z s g : Nat) : Nat := (List.range g).foldl (fun x g => if Z.testBit (pro n op s g) = true then x ||| (1 <<< (s ^^^ pbg n op g) ||| tgZ n op Z (s ^^^ pbg n op g)) else x) (1 <<< s)
def ckZ (n op z s : Nat) : Bool := decide (cnZ n op (4 * z) s (pgates n op) ≤ 4) || decide (9 ≤ ppopI (t2Z n op (4 * z) s (pgates n op)) 64)
theorem tb_ckZ : ∀ n, n < 7 → ∀ op, op < 2 → ∀ z, z < 64 → ((List.range (2 ^ n)).all (fun s => ckZ n op z s)) = true := by decide +kernel
theorem tgZ_eq {v : Nat → Nat} {Z : Nat} (h : ∀ k, k < 8 → Z.testBit k = decide (0 < pw v k)) (s : Nat) : tgZ (v 0) (v 1) Z s = ptgt v s := by
  unfold tgZ ptgt
  congr 1
  funext x g
  rw [h _ (pro_lt _ _ _ _)]
  by_cases q : 0 < pw v (pro (v 0) (v 1) s g)
  · rw [if_pos q, if_pos (decide_eq_true q)]
  · rw [if_neg q, if_neg (by rw [decide_eq_false q]; decide)]
theorem cnZ_s (n op Z s g : Nat) : cnZ n op Z s (g + 1) = cnZ n op Z s g + (if Z.testBit (pro n op s g) = true then 1 else 0) := by
  unfold cnZ
  rw [List.range_succ, List.filter_append, List.length_append]
  by_cases q : Z.testBit (pro n op s g) = true
  · have e : List.filter (fun g => Z.testBit (pro n op s g)) [g] = [g] := List.filter_cons_of_pos (p := fun g => Z.testBit (pro n op s g)) q
    rw [if_pos q, e]; rfl
  · have e : List.filter (fun g => Z.testBit (pro n op s g)) [g] = [] := List.filter_cons_of_neg (p := fun g => Z.testBit (pro n op s g)) q
    rw [if_neg q, e]; rfl
theorem cnZ_out {v : Nat → Nat} (hK : LaneOK v) {Z : Nat} (h : ∀ k, k < 8 → Z.testBit k = decide (0 < pw v k)) (s : Nat) : ∀ g, psum g (oF v s) ≤ 9 * cnZ (v 0) (v 1) Z s g := by
  intro g
  induction g with
  | zero => exact Nat.zero_le _
  | succ g ih =>
    rw [psum_s, cnZ_s, h _ (pro_lt _ _ _ _)]
    have h9 := oF_le hK s g
    by_cases q : 0 < pw v (pro (v 0) (v 1) s g)
    · rw [if_pos (decide_eq_true q)]; omega
    · rw [if_neg (by rw [decide_eq_false q]; decide)]
      have e : oF v s g = 0 := by unfold oF; omega
      omega
def zpat (v : Nat → Nat) : Nat := (if 0 < v 2 then 1 else 0) + 2 * (if 0 < v 3 then 1 else 0) + 4 * (if 0 < v 4 then 1 else 0) + 8 * (if 0 < v 5 then 1 else 0) + 16 * (if 0 < v 6 then 1 else 0) + 32 * (if 0 < v 7 then 1 else 0)
theorem tb_pat : ∀ a : Bool, ∀ b : Bool, ∀ c : Bool, ∀ d : Bool, ∀ e : Bool, ∀ f : Bool, (let z := a.toNat + 2 * b.toNat + 4 * c.toNat + 8 * d.toNat + 16 * e.toNat + 32 * f.toNat; z < 64 ∧ (4 * z).testBit 0 = false ∧ (4 * z).testBit 1 = false ∧ (4 * z).testBit 2 = a ∧ (4 * z).testBit 3 = b ∧ (4 * z).testBit 4 = c ∧ (4 * z).testBit 5 = d ∧ (4 * z).testBit 6 = e ∧ (4 * z).testBit 7 = f) := by decide +kernel
theorem pat_ex {v : Nat → Nat} (h : LaneOK v) : ∃ z, z < 64 ∧ ∀ k, k < 8 → k ≠ 1 → (4 * z).testBit k = decide (0 < pw v k) := by
  obtain ⟨z0, z1, z2, z3, z4, z5, z6, z7, z8⟩ := tb_pat (decide (0 < v 2)) (decide (0 < v 3)) (decide (0 < v 4)) (decide (0 < v 5)) (decide (0 < v 6)) (decide (0 < v 7))
  refine ⟨_, z0, fun k hk h1 => ?_⟩
  match k, hk, h1 with
  | 0, _, _ => exact z1
  | 1, _, h1 => exact absurd rfl h1
  | 2, _, _ => exact z3
  | 3, _, _ => exact z4
  | 4, _, _ => exact z5
  | 5, _, _ => exact z6
  | 6, _, _ => exact z7
  | 7, _, _ => exact z8
theorem ppopI_sub {P Q : Nat} : ∀ k, (∀ i, i < k → Q.testBit i = true → P.testBit i = true) → ppopI Q k ≤ ppopI P k := by
  intro k
  induction k with
  | zero => intro _; exact Nat.le_refl _
  | succ k ih =>
    intro h
    have h1 := ih (fun i hi => h i (by omega))
    rw [ppopI_s, ppopI_s]
    by_cases q : Q.testBit k = true
    · rw [if_pos q, if_pos (h k (by omega) q)]; omega
    · rw [if_neg q]; omega
/-! paths of hops -/
def rch (v : Nat → Nat) : Nat → Nat → Nat → Prop
  | 0, a, b => a = b
  | n + 1, a, b => ∃ c, 0 < prate v a c ∧ rch v n c b
theorem rch_add {v : Nat → Nat} {b c m : Nat} (h2 : rch v m b c) : ∀ n a, rch v n a b → rch v (n + m) a c := by
  intro n
  induction n with
  | zero => intro a h; have h : a = b := h; rw [h, Nat.zero_add]; exact h2
  | succ n ih =>
    intro a h
    obtain ⟨d, h3, h4⟩ := h
    rw [Nat.add_right_comm]
    exact ⟨d, h3, ih d h4⟩
theorem pclK_rch {v : Nat → Nat} : ∀ k, k ≤ 2 ^ v 0 → ∀ a b, a < 2 ^ v 0 → (pclK (2 ^ v 0) (pr0 v) k a).testBit b = true → ∃ n, rch v n a b := by
  intro k
  induction k with
  | zero =>
    intro _ a b ha h
    rw [pclK_0] at h
    unfold pr0 at h
    rw [Nat.testBit_or, ptgt_bit, Nat.one_shiftLeft, Nat.testBit_two_pow, Bool.or_eq_true] at h
    rcases h with h | h
    · exact ⟨1, b, of_decide_eq_true h, rfl⟩
    · have e : a = b := of_decide_eq_true h
      exact ⟨0, e⟩
  | succ k ih =>
    intro hk a b ha h
    have ih := ih (by omega)
    rw [pclK_bit (by omega) ha, Bool.or_eq_true, Bool.and_eq_true] at h
    rcases h with h | ⟨h1, h2⟩
    · exact ih a b ha h
    · obtain ⟨n, h3⟩ := ih a k ha h1
      obtain ⟨m, h4⟩ := ih k b (by omega) h2
      exact ⟨n + m, rch_add h4 n a h3⟩
theorem preach_rch {v : Nat → Nat} {a b : Nat} (ha : a < 2 ^ v 0) (h : (preach v a).testBit b = true) : ∃ n, rch v n a b := by
  rw [preach_0] at h
  exact pclK_rch _ (Nat.le_refl _) a b ha h
theorem min_ex {p : Nat → Prop} (h : ∃ n, p n) : ∃ n, p n ∧ ∀ m, m < n → ¬ p m := by
  obtain ⟨n, hn⟩ := h
  have key : ∀ k n, n < k → p n → ∃ n, p n ∧ ∀ m, m < n → ¬ p m := by
    intro k
    induction k with
    | zero => intro n h; omega
    | succ k ih =>
      intro n hk hp
      by_cases q : ∃ m, m < n ∧ p m
      · obtain ⟨m, h1, h2⟩ := q
        exact ih m (by omega) h2
      · exact ⟨n, hp, fun m h1 h2 => q ⟨m, h1, h2⟩⟩
  exact key (n + 1) n (by omega) hn
theorem dist_ex (v : Nat → Nat) (r : Nat) : ∃ d : Nat → Nat, ∀ a, (∃ n, rch v n a r) → rch v (d a) a r ∧ ∀ m, m < d a → ¬ rch v m a r := by
  have h : ∀ a, ∃ n, (∃ n, rch v n a r) → rch v n a r ∧ ∀ m, m < n → ¬ rch v m a r := by
    intro a
    by_cases q : ∃ n, rch v n a r
    · obtain ⟨n, hn⟩ := min_ex q
      exact ⟨n, fun _ => hn⟩
    · exact ⟨0, fun y => absurd y q⟩
  exact ⟨fun a => Classical.choose (h a), fun a => Classical.choose_spec (h a)⟩
section TR
variable {v : Nat → Nat} {s : Nat}
theorem out36 (hK : LaneOK v) (hs : s < 2 ^ v 0) (hsh : preach v s = ppart v s) (hN : ppop (ppart v s) ≤ 8) {a : Nat} (ha : (ppart v s).testBit a = true) : pout v a ≤ 36 := by
  have hn := hK.n
  have ho := hK.o
  have ha2 := part_lt ha
  obtain ⟨z, hz, hp⟩ := pat_ex hK
  have hp8 : ∀ b g, (4 * z).testBit (pro (v 0) (v 1) b g) = decide (0 < pw v (pro (v 0) (v 1) b g)) := by
    intro b g
    refine hp _ (pro_lt _ _ _ _) ?_
    unfold pro pbond
    split
    · split
      · split <;> omega
      · split
        · split <;> omega
        · split
          · omega
          · split <;> omega
    · split
      · omega
      · split <;> omega
  have etg : ∀ b, tgZ (v 0) (v 1) (4 * z) b = ptgt v b := by
    intro b
    unfold tgZ ptgt
    congr 1
    funext x g
    rw [hp8]
    by_cases q : 0 < pw v (pro (v 0) (v 1) b g)
    · rw [if_pos q, if_pos (decide_eq_true q)]
    · rw [if_neg q, if_neg (by rw [decide_eq_false q]; decide)]
  have eout : ∀ g, psum g (oF v a) ≤ 9 * cnZ (v 0) (v 1) (4 * z) a g := by
    intro g
    induction g with
    | zero => exact Nat.zero_le _
    | succ g ih =>
      rw [psum_s, cnZ_s, hp8]
      have h9 := oF_le hK a g
      by_cases q : 0 < pw v (pro (v 0) (v 1) a g)
      · rw [if_pos (decide_eq_true q)]; omega
      · rw [if_neg (by rw [decide_eq_false q]; decide)]
        have e : oF v a g = 0 := by unfold oF; omega
        omega
  have ck := List.all_eq_true.1 (tb_ckZ (v 0) (by omega) (v 1) (by omega) z hz) a (List.mem_range.2 ha2)
  unfold ckZ at ck
  rw [Bool.or_eq_true] at ck
  rcases ck with ck | ck
  · have := of_decide_eq_true ck
    have h2 := eout (pgates (v 0) (v 1))
    rw [pout_F]
    omega
  · have c9 := of_decide_eq_true ck
    have sub : ∀ g, g ≤ pgates (v 0) (v 1) → ∀ i, (t2Z (v 0) (v 1) (4 * z) a g).testBit i = true → (ppart v s).testBit i = true := by
      intro g
      induction g with
      | zero =>
        intro _ i hi
        have hi : (1 <<< a).testBit i = true := hi
        rw [Nat.one_shiftLeft, Nat.testBit_two_pow] at hi
        rw [← of_decide_eq_true hi]; exact ha
      | succ g ih =>
        intro hg i hi
        have e : t2Z (v 0) (v 1) (4 * z) a (g + 1) = if (4 * z).testBit (pro (v 0) (v 1) a g) = true then t2Z (v 0) (v 1) (4 * z) a g ||| (1 <<< (a ^^^ pbg (v 0) (v 1) g) ||| tgZ (v 0) (v 1) (4 * z) (a ^^^ pbg (v 0) (v 1) g)) else t2Z (v 0) (v 1) (4 * z) a g := foldl_rs _ _ _
        rw [e] at hi
        by_cases q : (4 * z).testBit (pro (v 0) (v 1) a g) = true
        · rw [if_pos q, Nat.testBit_or, Nat.testBit_or, etg, ptgt_bit, Nat.one_shiftLeft, Nat.testBit_two_pow, Bool.or_eq_true, Bool.or_eq_true] at hi
          rw [hp8] at q
          have q := of_decide_eq_true q
          have hr : 0 < prate v a (a ^^^ pbg (v 0) (v 1) g) := by
            have hb : (ptgt v a).testBit (a ^^^ pbg (v 0) (v 1) g) = true := by
              rw [ptgt_bit]
              refine decide_eq_true ?_
              rw [prate_F]
              have key : ∀ d, g < d → 0 < psum d (rF v a (a ^^^ pbg (v 0) (v 1) g)) := by
                intro d
                induction d with
                | zero => intro h; omega
                | succ d ihd =>
                  intro h
                  rw [psum_s]
                  by_cases w : g = d
                  · have eF : rF v a (a ^^^ pbg (v 0) (v 1) g) d = oF v a d := by rw [← w]; exact if_pos rfl
                    have q2 : 0 < oF v a d := by rw [← w]; exact q
                    omega
                  · have := ihd (by omega)
                    omega
              exact key _ (by omega)
            rw [ptgt_bit] at hb
            exact of_decide_eq_true hb
          have hin := shut_in hK hs hsh ha hr
          rcases hi with hi | hi | hi
          · exact ih (by omega) i hi
          · rw [← of_decide_eq_true hi]; exact hin
          · exact shut_in hK hs hsh hin (of_decide_eq_true hi)
        · rw [if_neg q] at hi
          exact ih (by omega) i hi
    have := ppopI_sub (P := ppart v s) (Q := t2Z (v 0) (v 1) (4 * z) a (pgates (v 0) (v 1))) 64 (fun i _ hi => sub _ (Nat.le_refl _) i hi)
    have e64 : ppopI (ppart v s) 64 = ppop (ppart v s) := ppopI_64 _
    omega
/-- the table of trees to the member r -/
def zM (v : Nat → Nat) (P r i j : Nat) : Int := if i = j then (pout v (memP P (psk r i)) : Int) else -(prate v (memP P (psk r i)) (memP P (psk r j)) : Int)
theorem psk_ne (r i : Nat) : psk r i ≠ r := by unfold psk; split <;> omega
theorem psk_inj {r i j : Nat} (h : psk r i = psk r j) : i = j := by
  unfold psk at h
  split at h <;> split at h <;> omega
theorem zsum_psk {f : Nat → Int} {r : Nat} : ∀ n, r < n + 1 → zsum (n + 1) f = zsum n (fun j => f (psk r j)) + f r := by
  intro n
  induction n with
  | zero =>
    intro h
    have : r = 0 := by omega
    rw [this]; rfl
  | succ n ih =>
    intro h
    by_cases q : r = n + 1
    · rw [zsum_s, zsum_cg (f := fun j => f (psk r j)) (g := f) (n + 1) (fun j hj => by
        show f (psk r j) = f j
        rw [psk_a (by omega)]), q]
    · rw [zsum_s, ih (by omega), zsum_s n (fun j => f (psk r j))]
      have e : psk r n = n + 1 := by
        unfold psk
        rw [if_neg (by omega)]
      rw [e]
      omega
theorem psum_cast {f : Nat → Nat} : ∀ n, ((psum n f : Nat) : Int) = zsum n (fun i => (f i : Int)) := by
  intro n
  induction n with
  | zero => rfl
  | succ n ih => rw [psum_s, zsum_s, ← ih]; omega
theorem zM_OK (hK : LaneOK v) (hs : s < 2 ^ v 0) (hsh : preach v s = ppart v s) (hN : ppop (ppart v s) ≤ 8) {r : Nat} (hr : r < ppop (ppart v s)) : zOK (zM v (ppart v s) r) (ppop (ppart v s) - 1) := by
  obtain ⟨n, hn⟩ : ∃ n, ppop (ppart v s) = n + 1 := ⟨ppop (ppart v s) - 1, by omega⟩
  have mr := memP_at hr
  obtain ⟨d, hd⟩ := dist_ex v (memP (ppart v s) r)
  have hreach : ∀ a, (ppart v s).testBit a = true → ∃ n, rch v n a (memP (ppart v s) r) := by
    intro a ha
    have ha2 := part_lt ha
    refine preach_rch ha2 ?_
    have ha3 := ha
    rw [ppart_bit, decide_eq_true ha2, Bool.true_and] at ha3
    rw [of_decide_eq_true ha3, hsh]
    exact mr.1
  have hd0 : d (memP (ppart v s) r) = 0 := by
    rcases Nat.eq_zero_or_pos (d (memP (ppart v s) r)) with q | q
    · exact q
    · exact absurd rfl ((hd _ (hreach _ mr.1)).2 0 q)
  have hdn : ∀ a, (ppart v s).testBit a = true → a ≠ memP (ppart v s) r → ∃ c, 0 < prate v a c ∧ (ppart v s).testBit c = true ∧ d c < d a := by
    intro a ha hne
    have h1 := (hd a (hreach a ha)).1
    cases e : d a with
    | zero =>
      rw [e] at h1
      exact absurd h1 hne
    | succ n =>
      rw [e] at h1
      obtain ⟨c, h2, h3⟩ := h1
      have hc := shut_in hK hs hsh ha h2
      refine ⟨c, h2, hc, ?_⟩
      rcases Nat.lt_or_ge n (d c) with q | q
      · exact absurd h3 ((hd c (hreach c hc)).2 n q)
      · omega
  -- a bound of all distances
  obtain ⟨B, hB⟩ : ∃ B, ∀ i, i < n + 1 → d (memP (ppart v s) i) ≤ B := by
    have key : ∀ k, ∃ B, ∀ i, i < k → d (memP (ppart v s) i) ≤ B := by
      intro k
      induction k with
      | zero => exact ⟨0, fun i h => absurd h (by omega)⟩
      | succ k ih =>
        obtain ⟨B, hB⟩ := ih
        refine ⟨B + d (memP (ppart v s) k), fun i hi => ?_⟩
        by_cases q : i = k
        · rw [q]; omega
        · have := hB i (by omega)
          omega
    exact key (n + 1)
  have hpw : ∀ a b : Nat, a ≤ b → 64 ^ a ≤ 64 ^ b := fun a b h => Nat.pow_le_pow_right (by decide) h
  have hx : ∀ i, i < n → (0 : Int) < ((64 ^ B : Nat) : Int) - ((64 ^ (B - d (memP (ppart v s) (psk r i))) : Nat) : Int) := by
    intro i hi
    have hpi := psk_le (j := r) hi
    have mi := memP_at (show psk r i < ppop (ppart v s) by omega)
    obtain ⟨c, -, -, h3⟩ := hdn _ mi.1 (fun e => psk_ne r i (memP_inj (by omega) hr e))
    have h1 : 64 ^ (B - d (memP (ppart v s) (psk r i))) < 64 ^ B := Nat.pow_lt_pow_right (by decide) (by have := hB _ hpi; omega)
    omega
  rw [hn, Nat.add_sub_cancel]
  have eA : ∀ i, i < n → ∀ w : Nat → Int, zsum n (fun j => zM v (ppart v s) r i j * w (psk r j)) = (pout v (memP (ppart v s) (psk r i)) : Int) * w (psk r i) - zsum (n + 1) (fun t => (prate v (memP (ppart v s) (psk r i)) (memP (ppart v s) t) : Int) * w t) + (prate v (memP (ppart v s) (psk r i)) (memP (ppart v s) r) : Int) * w r := by
    intro i hi w
    have e1 := zsum_psk (f := fun t => (prate v (memP (ppart v s) (psk r i)) (memP (ppart v s) t) : Int) * w t) n (show r < n + 1 by omega)
    rw [e1]
    have e2 : zsum n (fun j => zM v (ppart v s) r i j * w (psk r j)) = zsum n (fun j => (if j = i then (pout v (memP (ppart v s) (psk r i)) : Int) * w (psk r i) else 0) + -((prate v (memP (ppart v s) (psk r i)) (memP (ppart v s) (psk r j)) : Int) * w (psk r j))) := by
      refine zsum_cg n (fun j _ => ?_)
      unfold zM
      by_cases q : j = i
      · subst q
        rw [if_pos rfl, if_pos rfl, prate_self hK]
        omega
      · rw [if_neg (fun e => q e.symm), if_neg q, Int.neg_mul]
        omega
    rw [e2, zsum_add, zsum_ind, if_pos hi, zsum_neg]
    omega
  refine zOK_of (C := 36) (x := fun i => ((64 ^ B : Nat) : Int) - ((64 ^ (B - d (memP (ppart v s) (psk r i))) : Nat) : Int)) (by decide) hx (zI_0 (fun i j hi hj hne => ?_) (fun i hi => ?_) (fun i hi => ?_) (fun i hi => ?_)) (by omega) ?_ (fun k hk => ?_)
  · unfold zM
    rw [if_neg hne]
    omega
  · have hpi := psk_le (j := r) hi
    have mi := memP_at (show psk r i < ppop (ppart v s) by omega)
    have e := eA i hi (fun t => ((64 ^ B : Nat) : Int) - ((64 ^ (B - d (memP (ppart v s) t)) : Nat) : Int))
    have e : zsum n (fun j => zM v (ppart v s) r i j * (((64 ^ B : Nat) : Int) - ((64 ^ (B - d (memP (ppart v s) (psk r j))) : Nat) : Int))) = _ := e
    rw [e]
    have hr0 : ((64 ^ B : Nat) : Int) - ((64 ^ (B - d (memP (ppart v s) r)) : Nat) : Int) = 0 := by rw [hd0, Nat.sub_zero]; omega
    have hsum := out_mem hK hs hsh mi.1
    rw [hn] at hsum
    have hsumI := psum_cast (f := fun j => prate v (memP (ppart v s) (psk r i)) (memP (ppart v s) j)) (n + 1)
    rw [hsum] at hsumI
    have e3 : zsum (n + 1) (fun t => (prate v (memP (ppart v s) (psk r i)) (memP (ppart v s) t) : Int) * (((64 ^ B : Nat) : Int) - ((64 ^ (B - d (memP (ppart v s) t)) : Nat) : Int))) = ((64 ^ B : Nat) : Int) * (pout v (memP (ppart v s) (psk r i)) : Int) + -((psum (n + 1) (fun t => prate v (memP (ppart v s) (psk r i)) (memP (ppart v s) t) * 64 ^ (B - d (memP (ppart v s) t))) : Nat) : Int) := by
      rw [hsumI, psum_cast, ← zsum_mul, ← zsum_neg, ← zsum_add]
      refine zsum_cg _ (fun t _ => ?_)
      rw [Int.natCast_mul, Int.mul_sub, Int.mul_comm]
      omega
    rw [hr0, e3]
    obtain ⟨c, h1, h2, h3⟩ := hdn _ mi.1 (fun e => psk_ne r i (memP_inj (by omega) hr e))
    have hc64 : c < 64 := by
      have := part_lt h2
      have := (pw64 hK.n.2).2
      omega
    obtain ⟨c1, c2⟩ := mem_pop hc64 h2
    have hge : ∀ k, ppopI (ppart v s) c < k → prate v (memP (ppart v s) (psk r i)) c * 64 ^ (B - d c) ≤ psum k (fun t => prate v (memP (ppart v s) (psk r i)) (memP (ppart v s) t) * 64 ^ (B - d (memP (ppart v s) t))) := by
      intro k
      induction k with
      | zero => intro h; omega
      | succ k ih =>
        intro h
        rw [psum_s]
        by_cases q : ppopI (ppart v s) c = k
        · rw [← q, c2]; omega
        · have := ih (by omega)
          omega
    have hge := hge (n + 1) (by omega)
    have hdB := hB _ hpi
    have hpow : 64 * 64 ^ (B - d (memP (ppart v s) (psk r i))) ≤ 64 ^ (B - d c) := by
      rw [Nat.mul_comm, ← Nat.pow_succ]
      exact hpw _ _ (by omega)
    have h1' : 1 * 64 ^ (B - d c) ≤ prate v (memP (ppart v s) (psk r i)) c * 64 ^ (B - d c) := Nat.mul_le_mul_right _ h1
    have hout := pout_le hK (memP (ppart v s) (psk r i))
    have h63 : pout v (memP (ppart v s) (psk r i)) * 64 ^ (B - d (memP (ppart v s) (psk r i))) ≤ 63 * 64 ^ (B - d (memP (ppart v s) (psk r i))) := Nat.mul_le_mul_right _ hout
    have hpp : 0 < 64 ^ (B - d (memP (ppart v s) (psk r i))) := Nat.pos_of_ne_zero (by simp)
    have hmulI : (pout v (memP (ppart v s) (psk r i)) : Int) * (((64 ^ B : Nat) : Int) - ((64 ^ (B - d (memP (ppart v s) (psk r i))) : Nat) : Int)) = ((64 ^ B : Nat) : Int) * (pout v (memP (ppart v s) (psk r i)) : Int) - ((pout v (memP (ppart v s) (psk r i)) * 64 ^ (B - d (memP (ppart v s) (psk r i))) : Nat) : Int) := by
      rw [Int.natCast_mul, Int.mul_sub, Int.mul_comm]
    rw [hmulI, Int.mul_zero]
    omega
  · have hpi := psk_le (j := r) hi
    have mi := memP_at (show psk r i < ppop (ppart v s) by omega)
    have e := eA i hi (fun _ => 1)
    have e : zsum n (fun j => zM v (ppart v s) r i j * 1) = _ := e
    rw [zsum_cg (f := fun j => zM v (ppart v s) r i j * 1) (g := fun j => zM v (ppart v s) r i j) n (fun j _ => Int.mul_one _)] at e
    rw [e]
    have hsum := out_mem hK hs hsh mi.1
    rw [hn] at hsum
    have hsumI := psum_cast (f := fun j => prate v (memP (ppart v s) (psk r i)) (memP (ppart v s) j)) (n + 1)
    rw [hsum] at hsumI
    have e3 : zsum (n + 1) (fun t => (prate v (memP (ppart v s) (psk r i)) (memP (ppart v s) t) : Int) * 1) = (pout v (memP (ppart v s) (psk r i)) : Int) := by
      rw [hsumI]
      exact zsum_cg _ (fun t _ => Int.mul_one _)
    have e4 : zsum (n + 1) (fun t => (prate v (memP (ppart v s) (psk r i)) (memP (ppart v s) t) : Int) * (fun _ => (1 : Int)) t) = (pout v (memP (ppart v s) (psk r i)) : Int) := e3
    rw [e4]
    omega
  · unfold zM
    rw [if_pos rfl]
    have hpi := psk_le (j := r) hi
    have mi := memP_at (show psk r i < ppop (ppart v s) by omega)
    have := out36 hK hs hsh hN mi.1
    omega
  · have := zpow_le (C := 36) (by decide) (show n ≤ 7 by omega)
    have h7 : (36 : Int) ^ 7 < 2 ^ 40 := by decide
    omega
  · have := zpow_le (C := 36) (by decide) (show 2 * k + 2 ≤ 12 by omega)
    have h12 : (36 : Int) ^ 12 < 2 ^ 63 := by decide
    omega
end TR

/-! the class's rates over its gates -/
def rF (v : Nat → Nat) (s t g : Nat) : Nat := if s ^^^ pbg (v 0) (v 1) g = t then pw v (pro (v 0) (v 1) s g) else 0
def oF (v : Nat → Nat) (s g : Nat) : Nat := pw v (pro (v 0) (v 1) s g)
def tgI (v : Nat → Nat) (s g : Nat) : Nat := (List.range g).foldl (fun a g => if 0 < pw v (pro (v 0) (v 1) s g) then a ||| 1 <<< (s ^^^ pbg (v 0) (v 1) g) else a) 0
theorem prate_F (v : Nat → Nat) (s t : Nat) : prate v s t = psum (pgates (v 0) (v 1)) (rF v s t) := rfl
theorem pout_F (v : Nat → Nat) (s : Nat) : pout v s = psum (pgates (v 0) (v 1)) (oF v s) := rfl
theorem ptgt_F (v : Nat → Nat) (s : Nat) : ptgt v s = tgI v s (pgates (v 0) (v 1)) := rfl
theorem psum_s (m : Nat) (f : Nat → Nat) : psum (m + 1) f = psum m f + f m := by
  unfold psum
  rw [List.range_succ, List.map_append, List.sum_append_nat]
  rfl
theorem psum_0 (f : Nat → Nat) : psum 0 f = 0 := rfl
theorem tgI_s (v : Nat → Nat) (s g : Nat) : tgI v s (g + 1) = if 0 < oF v s g then tgI v s g ||| 1 <<< (s ^^^ pbg (v 0) (v 1) g) else tgI v s g := foldl_rs _ _ _
theorem pw_0 (v : Nat → Nat) : pw v 0 = 0 := if_pos rfl
theorem pw_p {v : Nat → Nat} {k : Nat} (h : ¬ k = 0) : pw v k = v k := if_neg h
theorem pbond_lt (s l r : Nat) : pbond s l r < 8 := by
  unfold pbond
  split
  · omega
  · split <;> omega
theorem pro_lt (n op s g : Nat) : pro n op s g < 8 := by
  unfold pro
  split
  · split
    · split <;> omega
    · split
      · split <;> omega
      · exact pbond_lt _ _ _
  · exact pbond_lt _ _ _
theorem pw_le {v : Nat → Nat} (h : LaneOK v) {k : Nat} (hk : k < 8) : pw v k ≤ 9 := by
  unfold pw
  split
  · omega
  · exact h.v hk
theorem oF_le {v : Nat → Nat} (h : LaneOK v) (s g : Nat) : oF v s g ≤ 9 := pw_le h (pro_lt _ _ _ _)
theorem rF_le {v : Nat → Nat} (h : LaneOK v) (s t g : Nat) : rF v s t g ≤ oF v s g := by
  unfold rF oF
  split <;> omega
theorem psum_le {f g : Nat → Nat} (h : ∀ i, f i ≤ g i) : ∀ m, psum m f ≤ psum m g := by
  intro m
  induction m with
  | zero => exact Nat.le_refl _
  | succ m ih => rw [psum_s, psum_s]; have := h m; omega
theorem psum_bd {f : Nat → Nat} {c : Nat} (h : ∀ i, f i ≤ c) : ∀ m, psum m f ≤ c * m := by
  intro m
  induction m with
  | zero => exact Nat.le_refl _
  | succ m ih => rw [psum_s, Nat.mul_succ]; have := h m; omega
theorem pgates_le {v : Nat → Nat} (h : LaneOK v) : pgates (v 0) (v 1) ≤ 7 := by
  have := h.n
  unfold pgates
  split <;> omega
theorem pout_le {v : Nat → Nat} (h : LaneOK v) (s : Nat) : pout v s ≤ 63 := by
  have h1 := psum_bd (oF_le h s) (pgates (v 0) (v 1))
  have h2 := pgates_le h
  rw [pout_F]
  omega
theorem prate_out {v : Nat → Nat} (h : LaneOK v) (s t : Nat) : prate v s t ≤ pout v s := psum_le (rF_le h s t) _
theorem prate_le {v : Nat → Nat} (h : LaneOK v) (s t : Nat) : prate v s t ≤ 63 := Nat.le_trans (prate_out h s t) (pout_le h s)
theorem tb_bg : ∀ n, n < 7 → ∀ g, g < 7 → g ≤ n → (g < n → ((1 : Int32) <<< (nI g &&& 31)) ||| ((1 : Int32) <<< ((if (nI g + (1 : Int32)) = nI n then (0 : Int32) else (nI g + (1 : Int32))) &&& 31)) = nI (pbg n 0 g)) ∧ (((3 : Int32) <<< (nI g &&& 31)) >>> ((1 : Int32) &&& 31)) &&& (((1 : Int32) <<< (nI n &&& 31)) - (1 : Int32)) = nI (pbg n 1 g) := by decide +kernel
def bglC (n op g : Nat) : Bool := decide (1 ≤ n ∧ (op = 1 ∨ 2 ≤ n) ∧ g < pgates n op → pbg n op g < 2 ^ n ∧ 0 < pbg n op g)
theorem tb_bgl : ∀ n, n < 7 → ∀ op, op < 2 → ∀ g, g < 8 → bglC n op g = true := by decide +kernel
theorem LaneOK.r {v : Nat → Nat} (h : LaneOK v) : v 1 = 1 ∨ 2 ≤ v 0 := by rcases h.1 with h | h <;> omega
theorem pbg_ok {v : Nat → Nat} (h : LaneOK v) {g : Nat} (hg : g < pgates (v 0) (v 1)) : pbg (v 0) (v 1) g < 2 ^ v 0 ∧ 0 < pbg (v 0) (v 1) g := by
  have h1 := h.n
  have h2 := h.o
  have h3 := pgates_le h
  exact of_decide_eq_true (tb_bgl (v 0) (by omega) (v 1) (by omega) g (by omega)) ⟨h1.1, h.r, hg⟩
theorem and1 {s : Nat} : nI s &&& (1 : Int32) = if s.testBit 0 = true then 1 else 0 := by
  have h : nI s &&& (1 : Int32) = nI (s % 2) := by
    show nI s &&& nI 1 = _
    rw [nx_and, Nat.and_one_is_mod]
  rw [h, Nat.testBit_zero]
  rcases Nat.mod_two_eq_zero_or_one s with e | e <;> rw [e] <;> decide
section RA
variable {G : hz_G} {τ : hz_T} {v : Nat → Nat} {φ : Int32 → hz_T → Prop} {ψ : Int64 → hz_T → Prop}
theorem sp_gates (hL : LC v τ) (H : φ (nI (pgates (v 0) (v 1))) τ) : zCall G MX1_gates [.ref 3] τ (zpi φ) := by
  unfold pgates at H
  refine C_X1_gates τ (sp_copen hL (b_a (fun q => sp_cplaces hL (pi_ok ?_)) (fun q => sp_cplaces hL (pi_ok ?_))))
  · rw [if_neg q] at H; exact H
  · rw [if_pos q] at H; rw [i1]; exact H
theorem sp_besideGate (hL : LC v τ) {g : Nat} (hg : g < pgates (v 0) (v 1)) (H : φ (nI (pbg (v 0) (v 1) g)) τ) : zCall G MX1_besideGate [.ref 3, .int (nI g)] τ (zpi φ) := by
  have hn := hL.1.n
  have ho := hL.1.o
  have hg1 : g ≤ v 0 ∧ (v 1 = 0 → g < v 0) := by
    unfold pgates at hg
    split at hg <;> omega
  obtain ⟨t1, t2⟩ := tb_bg (v 0) (by omega) g (by omega) hg1.1
  refine C_X1_besideGate _ τ (sp_cplaces hL (sp_copen hL (b_a (fun q => pi_ok ?_) (fun q => pi_ok ?_))))
  · have e : v 1 = 0 := by omega
    rw [t1 (hg1.2 e)]
    rw [e] at H
    exact H
  · rw [t2]
    rw [q] at H
    exact H
theorem sp_bond (hL : LC v τ) {s l r : Nat} (hs : s < 2 ^ 31) (hl : l < 32) (hr : r < 32) (H : φ (nI (pw v (pbond s l r))) τ) : zCall G MX1_rateOverBond [.ref 3, .int (nI s), .int (nI l), .int (nI r)] τ (zpi φ) := by
  refine C_X1_rateOverBond _ _ _ τ (fun x hx => ?_)
  rw [has_bit hs hl, has_bit hs hr] at hx
  rw [hL.2 3 (by decide), hL.2 2 (by decide)]
  unfold pbond at H
  by_cases a : s.testBit l = true
  · by_cases b : s.testBit r = true
    · rw [if_pos a, if_pos b] at hx
      have e : x = 0 := hx.trans (by decide)
      rw [a, b, if_pos rfl, pw_0, nI_0] at H
      exact ⟨fun q => absurd e q, fun _ => pi_ok H⟩
    · rw [if_pos a, if_neg b] at hx
      have e : x = 1 := hx.trans (by decide)
      rw [a, (Bool.not_eq_true _).mp b, if_neg (by decide), if_pos rfl, pw_p (by decide)] at H
      rw [e]
      exact ⟨fun _ => pi_ok (by rw [if_neg (by decide)]; exact H), fun q => absurd q (by decide)⟩
  · by_cases b : s.testBit r = true
    · rw [if_neg a, if_pos b] at hx
      have e : x = -1 := hx.trans (by decide)
      rw [(Bool.not_eq_true _).mp a, b, if_neg (by decide), if_neg (by decide), pw_p (by decide)] at H
      rw [e]
      exact ⟨fun _ => pi_ok (by rw [if_pos (by decide)]; exact H), fun q => absurd q (by decide)⟩
    · rw [if_neg a, if_neg b] at hx
      have e : x = 0 := hx.trans (by decide)
      rw [(Bool.not_eq_true _).mp a, (Bool.not_eq_true _).mp b, if_pos rfl, pw_0, nI_0] at H
      exact ⟨fun q => absurd e q, fun _ => pi_ok H⟩
theorem sp_rateOver (hL : LC v τ) {s g : Nat} (hs : s < 2 ^ v 0) (hg : g < pgates (v 0) (v 1)) (H : φ (nI (oF v s g)) τ) : zCall G MX1_rateOver [.ref 3, .int (nI s), .int (nI g)] τ (zpi φ) := by
  have hn := hL.1.n
  have ho := hL.1.o
  have hp := pw64 hn.2
  have hg7 := pgates_le hL.1
  have e1 : nI (v 0) - (1 : Int32) = nI (v 0 - 1) := by rw [kx_1, pk_sub (by omega)]
  unfold oF pro at H
  unfold pgates at hg
  refine C_X1_rateOver _ _ τ (sp_cplaces hL (sp_copen hL (b_b (fun q => ?_) (fun q => ?_))))
  · rw [if_pos q] at hg H
    refine ⟨fun z => ?_, fun z => pi_ok ?_⟩
    · rw [← nI_0, nI_eq (by omega) (by decide)] at z
      rw [if_neg z] at H
      refine ⟨fun w => ?_, fun w => pi_ok ?_⟩
      · rw [nI_eq (by omega) (by omega)] at w
        rw [if_neg w] at H
        have e2 : nI g - (1 : Int32) = nI (g - 1) := by rw [kx_1, pk_sub (by omega)]
        rw [e2]
        exact sp_bond hL (by omega) (by omega) (by omega) (pi_ok H)
      · rw [nI_eq (by omega) (by omega)] at w
        rw [if_pos w] at H
        rw [e1, has_bit (by omega) (by omega), hL.2 6 (by decide), hL.2 5 (by decide)]
        by_cases b : s.testBit (v 0 - 1) = true
        · rw [if_pos b, pw_p (by decide)] at H
          rw [if_pos (bit_if.2 b)]
          exact H
        · rw [if_neg b, pw_p (by decide)] at H
          rw [if_neg (fun y => b (bit_if.1 y))]
          exact H
    · rw [← nI_0, nI_eq (by omega) (by decide)] at z
      rw [if_pos z] at H
      rw [and1, hL.2 4 (by decide), hL.2 7 (by decide)]
      by_cases b : s.testBit 0 = true
      · rw [if_pos b, pw_p (by decide)] at H
        rw [if_pos b, if_neg (by decide)]
        exact H
      · rw [if_neg b, pw_p (by decide)] at H
        rw [if_neg b, if_pos rfl]
        exact H
  · rw [if_neg q] at hg H
    have e3 : (if (nI g + (1 : Int32)) = nI (v 0) then (0 : Int32) else (nI g + (1 : Int32))) = nI (pnx (v 0) g) := by
      unfold pnx
      rw [i1]
      by_cases w : g + 1 = v 0
      · rw [w, if_pos rfl, if_pos rfl]; rfl
      · rw [if_neg (fun z => w ((nI_eq (by omega) (by omega)).1 z)), if_neg w]
    have hx := pnx_lt hg
    rw [e3]
    exact sp_bond hL (by omega) (by omega) (by omega) (pi_ok H)
theorem sp_rateBetween (hL : LC v τ) {s t : Nat} (hs : s < 2 ^ v 0) (ht : t < 2 ^ v 0) (H : φ (nI (prate v s t)) τ) : zCall G MX1_rateBetween [.ref 3, .int (nI s), .int (nI t)] τ (zpi φ) := by
  have hp := pw64 hL.1.n.2
  have hG := pgates_le hL.1
  refine C_X1_rateBetween _ _ τ ?_
  have key : ∀ m g, g + m = pgates (v 0) (v 1) → zRun G MX1_rateBetween 5 [(0, .ref 3), (1, .int (nI s)), (2, .int (nI t)), (3, .int (nI (psum g (rF v s t)))), (4, .int (nI g))] [] τ (zpi φ) := by
    intro m
    induction m with
    | zero =>
      intro g e
      have e : g = pgates (v 0) (v 1) := by omega
      subst e
      exact V_X1_rateBetween_5 _ _ _ _ τ (sp_gates hL ⟨fun _ => pi_ok H, fun q => absurd (nI_le (Nat.le_refl _) (by omega)) q⟩)
    | succ m ih =>
      intro g e
      have h := ih (g + 1) (by omega)
      have hb := pbg_ok hL.1 (show g < pgates (v 0) (v 1) by omega)
      have hx := Nat.xor_lt_two_pow hs hb.1
      refine V_X1_rateBetween_5 _ _ _ _ τ (sp_gates hL ⟨fun q => absurd q (nI_ge (by omega) (by omega)), fun _ => sp_besideGate hL (by omega) ?_⟩)
      rw [nx_xor, nI_eq (by omega) (by omega), i1]
      rw [psum_s, ← nI_add] at h
      refine ⟨fun w => ?_, fun w => sp_rateOver hL hs (by omega) ?_⟩
      · have eF : rF v s t g = 0 := if_neg w
        rw [eF, nI_0, Int32.add_zero] at h
        exact h
      · have eF : rF v s t g = oF v s g := if_pos w
        rw [eF] at h
        exact h
  exact key (pgates (v 0) (v 1)) 0 (by omega)
theorem sp_rateOut (hL : LC v τ) {s : Nat} (hs : s < 2 ^ v 0) (H : φ (nI (pout v s)) τ) : zCall G MX1_rateOut [.ref 3, .int (nI s)] τ (zpi φ) := by
  have hp := pw64 hL.1.n.2
  have hG := pgates_le hL.1
  refine C_X1_rateOut _ τ ?_
  have key : ∀ m g, g + m = pgates (v 0) (v 1) → zRun G MX1_rateOut 4 [(0, .ref 3), (1, .int (nI s)), (2, .int (nI (psum g (oF v s)))), (3, .int (nI g))] [] τ (zpi φ) := by
    intro m
    induction m with
    | zero =>
      intro g e
      have e : g = pgates (v 0) (v 1) := by omega
      subst e
      exact V_X1_rateOut_4 _ _ _ τ (sp_gates hL ⟨fun _ => pi_ok H, fun q => absurd (nI_le (Nat.le_refl _) (by omega)) q⟩)
    | succ m ih =>
      intro g e
      have h := ih (g + 1) (by omega)
      rw [psum_s, ← nI_add] at h
      refine V_X1_rateOut_4 _ _ _ τ (sp_gates hL ⟨fun q => absurd q (nI_ge (by omega) (by omega)), fun _ => sp_rateOver hL hs (by omega) ?_⟩)
      rw [i1]
      exact h
  exact key (pgates (v 0) (v 1)) 0 (by omega)
theorem tgI_lt (hK : LaneOK v) {s : Nat} (hs : s < 2 ^ v 0) : ∀ g, g ≤ pgates (v 0) (v 1) → tgI v s g < 2 ^ (2 ^ v 0) := by
  intro g
  induction g with
  | zero => intro _; exact Nat.two_pow_pos _
  | succ g ih =>
    intro hg
    have h1 := ih (by omega)
    have hb := pbg_ok hK (show g < pgates (v 0) (v 1) by omega)
    have hx := Nat.xor_lt_two_pow hs hb.1
    rw [tgI_s]
    split
    · refine Nat.or_lt_two_pow h1 ?_
      rw [Nat.one_shiftLeft]
      exact Nat.pow_lt_pow_right (by decide) hx
    · exact h1
theorem pp64 {n : Nat} (h : n ≤ 6) : 2 ^ (2 ^ n) ≤ 2 ^ 64 := Nat.pow_le_pow_right (by decide) (pw64 h).2
theorem one_l {k : Nat} (hk : k < 64) : (1 : Int64) <<< ((nI k).toInt64 &&& 63) = lN (1 <<< k) := by
  rw [Nat.one_shiftLeft]
  have h := wb_shl 1 hk
  rw [Nat.one_mul] at h
  exact h
theorem sh64 {k : Nat} (hk : k < 64) : 1 <<< k < 2 ^ 64 := by
  rw [Nat.one_shiftLeft]
  exact Nat.pow_lt_pow_right (by decide) hk
theorem sp_targets (hL : LC v τ) {s : Nat} (hs : s < 2 ^ v 0) (H : ψ (lN (ptgt v s)) τ) : zCall G MX1_targets [.ref 3, .int (nI s)] τ (zpl ψ) := by
  have hp := pw64 hL.1.n.2
  have hG := pgates_le hL.1
  have h64 := pp64 hL.1.n.2
  refine C_X1_targets _ τ ?_
  have key : ∀ m g, g + m = pgates (v 0) (v 1) → zRun G MX1_targets 5 [(0, .ref 3), (1, .int (nI s)), (2, .long (lN (tgI v s g))), (4, .int (nI g))] [] τ (zpl ψ) := by
    intro m
    induction m with
    | zero =>
      intro g e
      have e : g = pgates (v 0) (v 1) := by omega
      subst e
      exact V_X1_targets_5 _ _ _ τ (sp_gates hL ⟨fun _ => pl_ok H, fun q => absurd (nI_le (Nat.le_refl _) (by omega)) q⟩)
    | succ m ih =>
      intro g e
      have h := ih (g + 1) (by omega)
      have hb := pbg_ok hL.1 (show g < pgates (v 0) (v 1) by omega)
      have hx := Nat.xor_lt_two_pow hs hb.1
      have hA := tgI_lt hL.1 hs g (by omega)
      have hF := oF_le hL.1 s g
      rw [tgI_s] at h
      refine V_X1_targets_5 _ _ _ τ (sp_gates hL ⟨fun q => absurd q (nI_ge (by omega) (by omega)), fun _ => sp_rateOver hL hs (by omega) ?_⟩)
      rw [i1, ← nI_0, nI_leI (by omega) (by decide)]
      refine ⟨fun w => ?_, fun w => sp_besideGate hL (by omega) (fun x hx2 => ?_)⟩
      · rw [if_neg (by omega)] at h
        exact h
      · rw [if_pos (by omega)] at h
        rw [hx2, nx_xor, one_l (by omega), wb_or (by omega) (sh64 (by omega))]
        exact h
  exact key (pgates (v 0) (v 1)) 0 (by omega)
end RA

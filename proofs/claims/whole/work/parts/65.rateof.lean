/-! the reference's rates -/
def pbk (n i : Nat) : Nat := if i = 0 then n - 1 else i - 1
def hgo (s a b : Nat) : Bool := s.testBit a && !s.testBit b
def hxo (s a b : Nat) : Nat := s ^^^ (2 ^ a ^^^ 2 ^ b)
def mF (v : Nat → Nat) (s t i : Nat) : Nat := (if (i + 1 < v 0 ∨ v 1 = 0) ∧ hgo s i (pnx (v 0) i) = true ∧ hxo s i (pnx (v 0) i) = t then v 2 else 0) + (if (0 < i ∨ v 1 = 0) ∧ hgo s i (pbk (v 0) i) = true ∧ hxo s i (pbk (v 0) i) = t then v 3 else 0)
def mE (v : Nat → Nat) (s t : Nat) : Nat := if v 1 = 1 then (if s ^^^ 1 = t then (if s.testBit 0 = true then v 7 else v 4) else 0) + (if s ^^^ 2 ^ (v 0 - 1) = t then (if s.testBit (v 0 - 1) = true then v 6 else v 5) else 0) else 0
def mrate (v : Nat → Nat) (s t : Nat) : Nat := psum (v 0) (mF v s t) + mE v s t
def lsum (v : Nat → Nat) (t : Nat) (l : List (Nat × Nat)) : Nat := (l.map (fun x => if x.1 = t then pw v x.2 else 0)).sum
def hopsC (n op s : Nat) : List (Nat × Nat) := (List.range (pgates n op)).map (fun g => (s ^^^ pbg n op g, pro n op s g))
def hopO (n op s i : Nat) : Nat × Nat := if (i + 1 < n ∨ op = 0) ∧ hgo s i (pnx n i) = true then (hxo s i (pnx n i), 2) else (0, 0)
def hopB (n op s i : Nat) : Nat × Nat := if (0 < i ∨ op = 0) ∧ hgo s i (pbk n i) = true then (hxo s i (pbk n i), 3) else (0, 0)
def hopsI (n op s i : Nat) : List (Nat × Nat) := (List.range i).flatMap (fun i => [hopO n op s i, hopB n op s i])
def hopsE (n op s : Nat) : List (Nat × Nat) := if op = 1 then [(s ^^^ 1, if s.testBit 0 = true then 7 else 4), (s ^^^ 2 ^ (n - 1), if s.testBit (n - 1) = true then 6 else 5)] else []
def hopsM (n op s : Nat) : List (Nat × Nat) := hopsI n op s n ++ hopsE n op s
def hnz (x : Nat × Nat) : Bool := x.2 != 0
def hopsQ (n op s : Nat) : Bool := decide (1 ≤ n ∧ (op = 1 ∨ 2 ≤ n) → ((hopsC n op s).filter hnz).isPerm ((hopsM n op s).filter hnz) = true)
theorem tb_hops : ∀ n, n < 7 → ∀ op, op < 2 → ∀ s, s < 2 ^ n → hopsQ n op s = true := by decide +kernel
theorem lsum_nil (v : Nat → Nat) (t : Nat) : lsum v t [] = 0 := rfl
theorem lsum_c (v : Nat → Nat) (t : Nat) (x : Nat × Nat) (l : List (Nat × Nat)) : lsum v t (x :: l) = (if x.1 = t then pw v x.2 else 0) + lsum v t l := rfl
theorem lsum_app (v : Nat → Nat) (t : Nat) (a b : List (Nat × Nat)) : lsum v t (a ++ b) = lsum v t a + lsum v t b := by
  unfold lsum
  rw [List.map_append, List.sum_append_nat]
theorem lsum_f (v : Nat → Nat) (t : Nat) : ∀ l : List (Nat × Nat), lsum v t (l.filter hnz) = lsum v t l := by
  intro l
  induction l with
  | nil => rfl
  | cons x l ih =>
    rw [lsum_c]
    by_cases h : hnz x = true
    · rw [List.filter_cons_of_pos h, lsum_c, ih]
    · rw [List.filter_cons_of_neg h, ih]
      have e : x.2 = 0 := by
        unfold hnz at h
        rw [bne_iff_ne] at h
        exact Decidable.of_not_not h
      rw [e, pw_0, ite_self, Nat.zero_add]
theorem lsum_p (v : Nat → Nat) (t : Nat) {a b : List (Nat × Nat)} (h : (a.filter hnz).isPerm (b.filter hnz) = true) : lsum v t a = lsum v t b := by
  rw [← lsum_f v t a, ← lsum_f v t b]
  exact List.Perm.sum_nat ((List.isPerm_iff.1 h).map _)
theorem prate_l (v : Nat → Nat) (s t : Nat) : prate v s t = lsum v t (hopsC (v 0) (v 1) s) := by
  unfold lsum hopsC
  rw [List.map_map]
  rfl
theorem lsum_O (v : Nat → Nat) (s t i : Nat) (x : Nat × Nat) (hx : x = hopO (v 0) (v 1) s i) : (if x.1 = t then pw v x.2 else 0) = (if (i + 1 < v 0 ∨ v 1 = 0) ∧ hgo s i (pnx (v 0) i) = true ∧ hxo s i (pnx (v 0) i) = t then v 2 else 0) := by
  unfold hopO at hx
  by_cases h : (i + 1 < v 0 ∨ v 1 = 0) ∧ hgo s i (pnx (v 0) i) = true
  · rw [if_pos h] at hx
    rw [hx]
    show (if hxo s i (pnx (v 0) i) = t then pw v 2 else 0) = _
    by_cases w : hxo s i (pnx (v 0) i) = t
    · rw [if_pos w, if_pos ⟨h.1, h.2, w⟩]; rfl
    · rw [if_neg w, if_neg (fun y => w y.2.2)]
  · rw [if_neg h] at hx
    rw [hx]
    show (if 0 = t then pw v 0 else 0) = _
    rw [pw_0, ite_self, if_neg (fun y => h ⟨y.1, y.2.1⟩)]
theorem lsum_B (v : Nat → Nat) (s t i : Nat) (x : Nat × Nat) (hx : x = hopB (v 0) (v 1) s i) : (if x.1 = t then pw v x.2 else 0) = (if (0 < i ∨ v 1 = 0) ∧ hgo s i (pbk (v 0) i) = true ∧ hxo s i (pbk (v 0) i) = t then v 3 else 0) := by
  unfold hopB at hx
  by_cases h : (0 < i ∨ v 1 = 0) ∧ hgo s i (pbk (v 0) i) = true
  · rw [if_pos h] at hx
    rw [hx]
    show (if hxo s i (pbk (v 0) i) = t then pw v 3 else 0) = _
    by_cases w : hxo s i (pbk (v 0) i) = t
    · rw [if_pos w, if_pos ⟨h.1, h.2, w⟩]; rfl
    · rw [if_neg w, if_neg (fun y => w y.2.2)]
  · rw [if_neg h] at hx
    rw [hx]
    show (if 0 = t then pw v 0 else 0) = _
    rw [pw_0, ite_self, if_neg (fun y => h ⟨y.1, y.2.1⟩)]
theorem lsum_I (v : Nat → Nat) (s t : Nat) : ∀ i, lsum v t (hopsI (v 0) (v 1) s i) = psum i (mF v s t) := by
  intro i
  induction i with
  | zero => rfl
  | succ i ih =>
    have e : hopsI (v 0) (v 1) s (i + 1) = hopsI (v 0) (v 1) s i ++ [hopO (v 0) (v 1) s i, hopB (v 0) (v 1) s i] := by
      unfold hopsI
      rw [List.range_succ, List.flatMap_append]
      rfl
    rw [e, lsum_app, ih, psum_s, lsum_c, lsum_c, lsum_nil, lsum_O v s t i _ rfl, lsum_B v s t i _ rfl]
    rfl
theorem lsum_E (v : Nat → Nat) (s t : Nat) : lsum v t (hopsE (v 0) (v 1) s) = mE v s t := by
  unfold hopsE mE
  by_cases h : v 1 = 1
  · rw [if_pos h, if_pos h, lsum_c, lsum_c, lsum_nil, Nat.add_zero]
    by_cases a : s.testBit 0 = true
    · by_cases b : s.testBit (v 0 - 1) = true
      · rw [if_pos a, if_pos a, if_pos b, if_pos b]; rfl
      · rw [if_pos a, if_pos a, if_neg b, if_neg b]; rfl
    · by_cases b : s.testBit (v 0 - 1) = true
      · rw [if_neg a, if_neg a, if_pos b, if_pos b]; rfl
      · rw [if_neg a, if_neg a, if_neg b, if_neg b]; rfl
  · rw [if_neg h, if_neg h]; rfl
theorem rate_eq {v : Nat → Nat} (h : LaneOK v) {s : Nat} (hs : s < 2 ^ v 0) (t : Nat) : mrate v s t = prate v s t := by
  have h1 := h.n
  have h2 := h.o
  rw [prate_l, lsum_p v t (of_decide_eq_true (tb_hops (v 0) (by omega) (v 1) (by omega) s hs) ⟨h1.1, h.r⟩)]
  unfold hopsM mrate
  rw [lsum_app, lsum_I, lsum_E]
theorem psum_z {f : Nat → Nat} : ∀ m, (∀ i, i < m → f i = 0) → psum m f = 0 := by
  intro m
  induction m with
  | zero => intro _; rfl
  | succ m ih => intro h; rw [psum_s, ih (fun i hi => h i (by omega)), h m (by omega)]
theorem xor_ne {s b : Nat} (h : 0 < b) : ¬ s ^^^ b = s := by
  intro q
  have e : s ^^^ (s ^^^ b) = s ^^^ s := congrArg (fun z => s ^^^ z) q
  rw [← Nat.xor_assoc, Nat.xor_self, Nat.zero_xor] at e
  omega
theorem prate_self {v : Nat → Nat} (h : LaneOK v) (s : Nat) : prate v s s = 0 := by
  rw [prate_F]
  exact psum_z _ (fun g hg => if_neg (xor_ne (pbg_ok h hg).2))
section RM
variable {G : hz_G} {τ : hz_T} {v : Nat → Nat} {φ : Int32 → hz_T → Prop}
theorem pbk_lt {n i : Nat} (h : i < n) : pbk n i < n := by unfold pbk; split <;> omega
theorem sp_rateOf (hL : LM v τ) {s t : Nat} (hs : s < 2 ^ v 0) (ht : t < 2 ^ v 0) (H : φ (nI (prate v s t)) τ) : zCall G MX12_rateOf [.ref 29, .int (nI s), .int (nI t)] τ (zpi φ) := by
  have hn := hL.1.n
  have ho := hL.1.o
  have hp := pw64 hn.2
  have e1 : nI (v 0) - (1 : Int32) = nI (v 0 - 1) := by rw [kx_1, pk_sub (by omega)]
  refine C_X12_rateOf _ _ τ (sp_mplaces hL ?_)
  by_cases st : s = t
  · subst st
    rw [prate_self hL.1, nI_0] at H
    refine V_X12_rateOf_11 _ _ _ _ _ τ ⟨fun q => absurd (show nI (v 0) ≤ nI 0 from q) (nI_ge (by omega) (by omega)), fun _ => ⟨fun _ => ?_, fun q => absurd rfl q⟩⟩
    exact V_X12_rateOf_157 _ _ _ _ τ (sp_mopen hL (b_a (fun _ => V_X12_rateOf_265 _ τ (pi_ok H)) (fun _ => ⟨fun _ => V_X12_rateOf_265 _ τ (pi_ok H), fun q => absurd rfl q⟩)))
  · have stI : ¬ nI s = nI t := fun q => st ((nI_eq (by omega) (by omega)).1 q)
    have hxl : ∀ a b, a < v 0 → b < v 0 → hxo s a b < 2 ^ v 0 := fun a b ha hb => Nat.xor_lt_two_pow hs (Nat.xor_lt_two_pow (Nat.pow_lt_pow_right (by decide) ha) (Nat.pow_lt_pow_right (by decide) hb))
    rw [← rate_eq hL.1 hs] at H
    have fin : ∀ A, φ (nI (A + mE v s t)) τ → zRun G MX12_rateOf 157 [(0, .ref 29), (1, .int (nI s)), (2, .int (nI t)), (3, .int (nI (v 0))), (4, .int (nI A))] [] τ (zpi φ) := by
      intro A K
      unfold mE at K
      refine V_X12_rateOf_157 _ _ _ _ τ (sp_mopen hL (b_a (fun q => V_X12_rateOf_265 _ τ (pi_ok ?_)) (fun q => ⟨fun z => absurd z stI, fun _ x hx => ?_⟩)))
      · rw [if_neg q] at K
        exact K
      · rw [if_pos q] at K
        have hl : s ^^^ 2 ^ (v 0 - 1) < 2 ^ v 0 := Nat.xor_lt_two_pow hs (Nat.pow_lt_pow_right (by decide) (by omega))
        have hf : s ^^^ 1 < 2 ^ v 0 := Nat.xor_lt_two_pow hs (Nat.one_lt_two_pow (by omega))
        have e4 : nI s ^^^ (1 : Int32) = nI (s ^^^ 1) := by
          show nI s ^^^ nI 1 = _
          rw [nx_xor]
        rw [e1, one_shl (by omega), nx_xor] at hx
        subst hx
        have last : ∀ B, φ (nI (A + (B + (if s ^^^ 2 ^ (v 0 - 1) = t then (if s.testBit (v 0 - 1) = true then v 6 else v 5) else 0)))) τ → zRun G MX12_rateOf 220 [(0, .ref 29), (1, .int (nI s)), (2, .int (nI t)), (3, .int (nI (v 0))), (6, .int (nI (s ^^^ 2 ^ (v 0 - 1))))] [.int (nI B), .int (nI A)] τ (zpi φ) := by
          intro B K2
          refine V_X12_rateOf_220 _ _ _ _ _ _ τ ⟨fun z => ?_, fun z => ?_⟩
          · rw [nI_eq (by omega) (by omega)] at z
            refine V_X12_rateOf_262 _ _ τ (V_X12_rateOf_265 _ τ (pi_ok ?_))
            rw [nI_add, Int32.add_zero]
            rw [if_neg z] at K2
            exact K2
          · rw [nI_eq (by omega) (by omega)] at z
            rw [if_pos z] at K2
            rw [e1]
            refine sp_has (by omega) (by omega) (V_X12_rateOf_262 _ _ τ (V_X12_rateOf_265 _ τ (pi_ok ?_)))
            rw [hL.2 5 (by decide), hL.2 6 (by decide), nI_add]
            by_cases b : s.testBit (v 0 - 1) = true
            · rw [if_pos b] at K2
              rw [if_pos b, if_neg (by decide), nI_add, Nat.add_assoc]
              exact K2
            · rw [if_neg b] at K2
              rw [if_neg b, if_pos rfl, nI_add, Nat.add_assoc]
              exact K2
        rw [e4, nI_eq (by omega) (by omega)]
        refine ⟨fun z => ?_, fun z => ?_⟩
        · rw [if_neg z] at K
          exact last 0 K
        · rw [if_pos z] at K
          refine sp_has (s := s) (i := 0) (by omega) (by omega) ?_
          rw [hL.2 4 (by decide), hL.2 7 (by decide)]
          by_cases b : s.testBit 0 = true
          · rw [if_pos b] at K
            rw [if_pos b, if_neg (by decide)]
            exact last _ K
          · rw [if_neg b] at K
            rw [if_neg b, if_pos rfl]
            exact last _ K
    have loop : ∀ m i, i + m = v 0 → zRun G MX12_rateOf 11 [(0, .ref 29), (1, .int (nI s)), (2, .int (nI t)), (3, .int (nI (v 0))), (4, .int (nI (psum i (mF v s t)))), (5, .int (nI i))] [] τ (zpi φ) := by
      intro m
      induction m with
      | zero =>
        intro i e
        have e : i = v 0 := by omega
        subst e
        exact V_X12_rateOf_11 _ _ _ _ _ τ ⟨fun _ => fin _ H, fun q => absurd (nI_le (Nat.le_refl _) (by omega)) q⟩
      | succ m ih =>
        intro i e
        have h := ih (i + 1) (by omega)
        have hi : i < v 0 := by omega
        have hx := pnx_lt hi
        have hk := pbk_lt hi
        rw [psum_s] at h
        have st3 : ∀ B C, B + C = mF v s t i → zRun G MX12_rateOf 148 [(0, .ref 29), (1, .int (nI s)), (2, .int (nI t)), (3, .int (nI (v 0))), (5, .int (nI i))] [.int (nI C), .int (nI (psum i (mF v s t) + B))] τ (zpi φ) := by
          intro B C hBC
          refine V_X12_rateOf_148 _ _ _ _ _ _ τ ?_
          rw [nI_add, i1, Nat.add_assoc, hBC]
          exact h
        have st2 : ∀ bk : Int32, ((bk = -4 ∧ ¬ (0 < i ∨ v 1 = 0)) ∨ (bk = nI (pbk (v 0) i) ∧ (0 < i ∨ v 1 = 0))) → ∀ B, B = (if (i + 1 < v 0 ∨ v 1 = 0) ∧ hgo s i (pnx (v 0) i) = true ∧ hxo s i (pnx (v 0) i) = t then v 2 else 0) → zRun G MX12_rateOf 113 [(0, .ref 29), (1, .int (nI s)), (2, .int (nI t)), (3, .int (nI (v 0))), (5, .int (nI i)), (7, .int bk)] [.int (nI B), .int (nI (psum i (mF v s t)))] τ (zpi φ) := by
          intro bk hbk B hB
          have eF : mF v s t i = B + (if (0 < i ∨ v 1 = 0) ∧ hgo s i (pbk (v 0) i) = true ∧ hxo s i (pbk (v 0) i) = t then v 3 else 0) := by rw [hB]; rfl
          refine V_X12_rateOf_113 _ _ _ _ _ _ _ τ ?_
          rw [nI_add]
          rcases hbk with ⟨hb1, hb⟩ | ⟨hb1, hb⟩
          · rw [hb1]
            exact ⟨fun _ => V_X12_rateOf_147 _ _ _ _ _ τ (st3 B 0 (by rw [eF, if_neg (fun y => hb y.1)])), fun q => absurd rfl q⟩
          · rw [hb1]
            refine ⟨fun q => absurd q (nI_m4 (by omega)), fun _ => sp_gone (by omega) (by omega) (by omega) ?_⟩
            rw [hL.2 3 (by decide)]
            by_cases c : hgo s i (pbk (v 0) i) = true
            · have hx2 := hxl i (pbk (v 0) i) hi hk
              have ec : (if (s.testBit i && !s.testBit (pbk (v 0) i)) = true then s ^^^ (2 ^ i ^^^ 2 ^ pbk (v 0) i) else s) = hxo s i (pbk (v 0) i) := if_pos c
              rw [ec, nI_eq (by omega) (by omega)]
              exact ⟨fun w => V_X12_rateOf_147 _ _ _ _ _ τ (st3 B 0 (by rw [eF, if_neg (fun y => w y.2.2)])), fun w => st3 B (v 3) (by rw [eF, if_pos ⟨hb, c, w⟩])⟩
            · have ec : (if (s.testBit i && !s.testBit (pbk (v 0) i)) = true then s ^^^ (2 ^ i ^^^ 2 ^ pbk (v 0) i) else s) = s := if_neg c
              rw [ec]
              exact ⟨fun _ => V_X12_rateOf_147 _ _ _ _ _ τ (st3 B 0 (by rw [eF, if_neg (fun y => c y.2.1)])), fun w => absurd w stI⟩
        have st1 : ∀ on bk : Int32, ((on = -4 ∧ ¬ (i + 1 < v 0 ∨ v 1 = 0)) ∨ (on = nI (pnx (v 0) i) ∧ (i + 1 < v 0 ∨ v 1 = 0))) → ((bk = -4 ∧ ¬ (0 < i ∨ v 1 = 0)) ∨ (bk = nI (pbk (v 0) i) ∧ (0 < i ∨ v 1 = 0))) → zRun G MX12_rateOf 79 [(0, .ref 29), (1, .int (nI s)), (2, .int (nI t)), (3, .int (nI (v 0))), (4, .int (nI (psum i (mF v s t)))), (5, .int (nI i)), (6, .int on)] [.int bk] τ (zpi φ) := by
          intro on bk hon hbk
          refine V_X12_rateOf_79 _ _ _ _ _ _ _ τ ?_
          rcases hon with ⟨hb1, hb⟩ | ⟨hb1, hb⟩
          · rw [hb1]
            exact ⟨fun _ => V_X12_rateOf_112 _ _ _ _ _ _ τ (st2 bk hbk 0 (by rw [if_neg (fun y => hb y.1)])), fun q => absurd rfl q⟩
          · rw [hb1]
            refine ⟨fun q => absurd q (nI_m4 (by omega)), fun _ => sp_gone (by omega) (by omega) (by omega) ?_⟩
            rw [hL.2 2 (by decide)]
            by_cases c : hgo s i (pnx (v 0) i) = true
            · have hx2 := hxl i (pnx (v 0) i) hi hx
              have ec : (if (s.testBit i && !s.testBit (pnx (v 0) i)) = true then s ^^^ (2 ^ i ^^^ 2 ^ pnx (v 0) i) else s) = hxo s i (pnx (v 0) i) := if_pos c
              rw [ec, nI_eq (by omega) (by omega)]
              exact ⟨fun w => V_X12_rateOf_112 _ _ _ _ _ _ τ (st2 bk hbk 0 (by rw [if_neg (fun y => w y.2.2)])), fun w => st2 bk hbk (v 2) (by rw [if_pos ⟨hb, c, w⟩])⟩
            · have ec : (if (s.testBit i && !s.testBit (pnx (v 0) i)) = true then s ^^^ (2 ^ i ^^^ 2 ^ pnx (v 0) i) else s) = s := if_neg c
              rw [ec]
              exact ⟨fun _ => V_X12_rateOf_112 _ _ _ _ _ _ τ (st2 bk hbk 0 (by rw [if_neg (fun y => c y.2.1)])), fun w => absurd w stI⟩
        have st0 : ∀ on : Int32, ((on = -4 ∧ ¬ (i + 1 < v 0 ∨ v 1 = 0)) ∨ (on = nI (pnx (v 0) i) ∧ (i + 1 < v 0 ∨ v 1 = 0))) → zRun G MX12_rateOf 50 [(0, .ref 29), (1, .int (nI s)), (2, .int (nI t)), (3, .int (nI (v 0))), (4, .int (nI (psum i (mF v s t)))), (5, .int (nI i))] [.int on] τ (zpi φ) := by
          intro on hon
          refine V_X12_rateOf_50 _ _ _ _ _ _ τ ⟨fun q => ?_, fun q => ?_⟩
          · have q : i = 0 := by
              have := (nI_leI (a := i) (b := 0) (by omega) (by decide)).1 q
              omega
            refine sp_mopen hL (st1 on _ hon ?_)
            by_cases w : v 1 = 1
            · left
              rw [if_pos w, if_neg (by decide)]
              exact ⟨rfl, by omega⟩
            · right
              rw [if_neg w, if_pos rfl, e1]
              refine ⟨?_, Or.inr (by omega)⟩
              unfold pbk
              rw [if_pos q]
          · have q : 0 < i := by
              rcases Nat.eq_zero_or_pos i with z | z
              · exact absurd (show nI i ≤ nI 0 by rw [z]; exact nI_le (Nat.le_refl _) (by decide)) q
              · exact z
            refine st1 on _ hon (Or.inr ⟨?_, Or.inl q⟩)
            unfold pbk
            rw [if_neg (by omega), kx_1, pk_sub (by omega)]
        refine V_X12_rateOf_11 _ _ _ _ _ τ ⟨fun q => absurd q (nI_ge (by omega) (by omega)), fun _ => ⟨fun q => absurd q stI, fun _ => ?_⟩⟩
        rw [i1, nI_leI (by omega) (by omega)]
        refine ⟨fun q => sp_mopen hL (st0 _ ?_), fun q => st0 _ (Or.inr ⟨?_, Or.inl (by omega)⟩)⟩
        · by_cases w : v 1 = 1
          · left
            rw [if_pos w, if_neg (by decide)]
            exact ⟨rfl, by omega⟩
          · right
            rw [if_neg w, if_pos rfl]
            refine ⟨?_, Or.inr (by omega)⟩
            unfold pnx
            rw [if_pos (by omega)]
            rfl
        · unfold pnx
          rw [if_neg (by omega)]
    exact loop (v 0) 0 (by omega)
end RM
theorem pair_rate {G : hz_G} {τ : hz_T} (hI : Inv τ) (x0 : Int32) (x1 : Int32) : PI G MX11_rate MX12_rate [.ref 0, .int x0, .int x1] [.ref 29, .int x0, .int x1] τ := by
  obtain ⟨v, hv⟩ := hI.to
  have hC := hv.1.c
  have hM := hv.1.m
  refine C_X11_rate x0 x1 τ (sp_cisState hC (b_a (fun hp => pi_ok ?_) (fun hp => sp_cisState hC (b_a (fun hr => pi_ok ?_) (fun hr => ?_)))))
  · exact C_X12_rate x0 x1 τ (sp_misState hM (b_a (fun _ => pi_ok ⟨rfl, hI⟩) (fun h => absurd h hp)))
  · exact C_X12_rate x0 x1 τ (sp_misState hM (b_a (fun h => absurd hp h) (fun _ => sp_misState hM (b_a (fun _ => pi_ok ⟨rfl, hI⟩) (fun h => absurd h hr)))))
  · obtain ⟨s, hs, rfl⟩ := st_of hp
    obtain ⟨t, ht, rfl⟩ := st_of hr
    refine sp_rateBetween hC hs ht (pi_ok ?_)
    exact C_X12_rate _ _ τ (sp_misState hM (b_a (fun h => absurd hp h) (fun _ => sp_misState hM (b_a (fun h => absurd hr h) (fun _ => sp_rateOf hM hs ht (pi_ok ⟨rfl, hI⟩))))))

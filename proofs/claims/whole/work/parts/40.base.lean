/-! small rows for the pair theorems -/
theorem b_a {P A B : Prop} [hd : Decidable P] (hA : ¬ P → A) (hB : P → B) : ((if P then (1 : Int32) else 0) = 0 → A) ∧ (¬ (if P then (1 : Int32) else 0) = 0 → B) := by
  by_cases h : P
  · rw [if_pos h]; exact ⟨fun q => absurd q (by decide), fun _ => hB h⟩
  · rw [if_neg h]; exact ⟨fun _ => hA h, fun q => absurd rfl q⟩
theorem b_b {P A B : Prop} [hd : Decidable P] (hB : P → B) (hA : ¬ P → A) : (¬ (if P then (1 : Int32) else 0) = 0 → B) ∧ ((if P then (1 : Int32) else 0) = 0 → A) := ⟨(b_a hA hB).2, (b_a hA hB).1⟩
theorem nar_b {P : Prop} [hd : Decidable P] : narrow .boolean (.int (if P then (1 : Int32) else 0)) = .int (if P then (1 : Int32) else 0) := nar_ite nar_1 nar_0
theorem lgc_lt {x y : Int64} : lg_cmp x y < 0 ↔ x.toInt < y.toInt := by
  unfold lg_cmp
  rw [← Int64.lt_iff_toInt_lt]
  by_cases h1 : x > y
  · rw [if_pos h1]
    constructor
    · intro h; exact absurd h (by decide)
    · intro h
      have h1 : y < x := h1
      rw [Int64.lt_iff_toInt_lt] at h h1
      omega
  · rw [if_neg h1]
    by_cases h2 : x = y
    · rw [if_pos h2]
      subst h2
      constructor
      · intro h; exact absurd h (by decide)
      · intro h; rw [Int64.lt_iff_toInt_lt] at h; omega
    · rw [if_neg h2]
      constructor
      · intro _
        have h1 : ¬ y < x := h1
        rw [Int64.lt_iff_toInt_lt] at h1 ⊢
        have h3 : x.toInt ≠ y.toInt := fun e => h2 (Int64.toInt_inj.mp e)
        omega
      · intro _; decide
theorem lgc_gt {x y : Int64} : 0 < lg_cmp x y ↔ y.toInt < x.toInt := by
  unfold lg_cmp
  rw [← Int64.lt_iff_toInt_lt]
  by_cases h1 : x > y
  · rw [if_pos h1]
    exact ⟨fun _ => h1, fun _ => by decide⟩
  · rw [if_neg h1]
    have h1' : ¬ y < x := h1
    by_cases h2 : x = y
    · rw [if_pos h2]
      exact ⟨fun h => absurd h (by decide), fun h => absurd h h1'⟩
    · rw [if_neg h2]
      exact ⟨fun h => absurd h (by decide), fun h => absurd h h1'⟩
theorem lgc_eq {x y : Int64} : lg_cmp x y = 0 ↔ x = y := by
  unfold lg_cmp
  by_cases h1 : x > y
  · rw [if_pos h1]
    refine ⟨fun h => absurd h (by decide), fun h => ?_⟩
    subst h
    have h1 : x < x := h1
    rw [Int64.lt_iff_toInt_lt] at h1
    omega
  · rw [if_neg h1]
    by_cases h2 : x = y
    · rw [if_pos h2]; exact ⟨fun _ => h2, fun _ => rfl⟩
    · rw [if_neg h2]; exact ⟨fun h => absurd h (by decide), fun h => absurd h h2⟩
theorem sp_in {G : hz_G} {τ : hz_T} {φ : Int32 → hz_T → Prop} {x a b : Int64} (H : φ (if a.toInt ≤ x.toInt ∧ x.toInt ≤ b.toInt then 1 else 0) τ) : zCall G MX12_in [.long x, .long a, .long b] τ (zpi φ) := by
  refine C_X12_in x a b τ (pi_ok ?_)
  have e : (if lg_cmp x a < 0 then (0 : Int32) else if 0 < lg_cmp x b then 0 else 1) = (if a.toInt ≤ x.toInt ∧ x.toInt ≤ b.toInt then 1 else 0) := by
    simp only [lgc_lt, lgc_gt]
    by_cases h1 : x.toInt < a.toInt
    · rw [if_pos h1, if_neg (by omega)]
    · rw [if_neg h1]
      by_cases h2 : b.toInt < x.toInt
      · rw [if_pos h2, if_neg (by omega)]
      · rw [if_neg h2, if_pos (by omega)]
  rw [e]
  exact H
theorem sp_within {G : hz_G} {τ : hz_T} {φ : Int32 → hz_T → Prop} {x a b : Int32} (H : φ (if a.toInt ≤ x.toInt ∧ x.toInt ≤ b.toInt then 1 else 0) τ) : zCall G MX11_within [.int x, .int a, .int b] τ (zpi φ) := by
  refine C_X11_within x a b τ (pi_ok ?_)
  have e : (if x < a then (0 : Int32) else if b < x then 0 else 1) = (if a.toInt ≤ x.toInt ∧ x.toInt ≤ b.toInt then 1 else 0) := by
    simp only [Int32.lt_iff_toInt_lt]
    by_cases h1 : x.toInt < a.toInt
    · rw [if_pos h1, if_neg (by omega)]
    · rw [if_neg h1]
      by_cases h2 : b.toInt < x.toInt
      · rw [if_pos h2, if_neg (by omega)]
      · rw [if_neg h2, if_pos (by omega)]
  rw [e]
  exact H
theorem i64 (x : Int32) : x.toInt64.toInt = x.toInt := Int32.toInt_toInt64 x
theorem of_range {x : Int32} {n : Nat} (h0 : 0 ≤ x.toInt) (h1 : x.toInt < n) : ∃ j : Nat, j < n ∧ x = nI j := by
  have hlt := x.toInt_lt
  obtain ⟨j, hj, rfl⟩ := nI_of (x := x) (by rw [Int32.lt_iff_toInt_lt]; show ¬ x.toInt < 0; omega)
  rw [nI_toInt hj] at h1
  exact ⟨j, by omega, rfl⟩
/-! what an invariant asks stays where only scratch cells changed -/
def scr : List Nat := [6, 14, 15, 19, 20, 21, 22, 23, 24, 29, 31, 35, 36, 37, 38, 39, 40, 41, 42, 43, 44, 45]
theorem I_lane.fr {v : Nat → Nat} {τ τ' : hz_T} (h : I_lane v τ) (h4 : τ'.1.1 4 = τ.1.1 4) (h30 : τ'.1.1 30 = τ.1.1 30) : I_lane v τ' := ⟨h.1, fun j hj => by rw [h4, h30]; exact h.2 j hj⟩
theorem I_tape.fr {τ τ' : hz_T} (h : I_tape τ) (h1 : τ'.1.1 1 = τ.1.1 1) (h2 : τ'.1.1 2 = τ.1.1 2) (h3 : τ'.1.1 29 3 = τ.1.1 29 3) (h4 : τ'.1.1 32 = τ.1.1 32) : I_tape τ' := by
  unfold I_tape at h ⊢
  rw [h1, h2, h3, h4]
  exact h
theorem I_sheet.fr {k : Nat} {τ τ' : hz_T} (h : I_sheet k τ) (h1 : τ'.1.1 26 = τ.1.1 26) (h2 : τ'.1.1 27 = τ.1.1 27) (h3 : τ'.1.1 28 = τ.1.1 28) (h4 : τ'.1.1 46 = τ.1.1 46) (h5 : τ'.1.1 47 = τ.1.1 47) (h6 : τ'.1.1 48 = τ.1.1 48) : I_sheet k τ' := by
  unfold I_sheet at h ⊢
  rw [h1, h2, h3, h4, h5, h6]
  exact h
theorem I_const.fr {τ τ' : hz_T} (h : I_const τ) (h1 : τ'.1.1 33 = τ.1.1 33) (h2 : τ'.1.1 34 = τ.1.1 34) : I_const τ' := by
  unfold I_const at h ⊢
  rw [h1, h2]
  exact h
theorem I_parts.fr {v : Nat → Nat} {τ τ' : hz_T} (h : I_parts v τ) (h1 : τ'.1.1 7 = τ.1.1 7) (h2 : τ'.1.2 8 = τ.1.2 8) (h3 : τ'.1.2 9 = τ.1.2 9) : I_parts v τ' := by
  unfold I_parts at h ⊢
  rw [h1, h2, h3]
  exact h
theorem I_rest.fr {v : Nat → Nat} {τ τ' : hz_T} (h : I_rest v τ) (h1 : τ'.1.1 10 7 = τ.1.1 10 7) (h1' : τ'.1.2 10 6 = τ.1.2 10 6) (h1'' : τ'.1.2 10 8 = τ.1.2 10 8) (h2 : τ'.1.1 11 = τ.1.1 11) (h3 : τ'.1.2 12 = τ.1.2 12) (h4 : τ'.1.2 13 = τ.1.2 13) : I_rest v τ' := by
  unfold I_rest RestV at h ⊢
  rw [h1, h1', h1'', h2, h3, h4]
  exact h
theorem I_words.fr {v : Nat → Nat} {τ τ' : hz_T} (h : I_words v τ) (h1 : τ'.1.1 16 = τ.1.1 16) (h2 : τ'.1.2 17 = τ.1.2 17) : I_words v τ' := by
  unfold I_words at h ⊢
  rw [h1, h2]
  exact h
theorem inv_scr {τ τ' : hz_T} (hI : Inv τ) (hs : Sm scr τ τ') (h3 : τ'.1.1 29 3 = τ.1.1 29 3) (h4 : τ'.1.1 29 4 = τ.1.1 29 4) : Inv τ' := by
  obtain ⟨v, a1, a2, a3, a4, a5, a6, a7, a8⟩ := hI
  have f : ∀ q, q ∉ scr → τ'.1.1 q = τ.1.1 q := fun q hq => (hs q hq).1
  have g : ∀ q, q ∉ scr → τ'.1.2 q = τ.1.2 q := fun q hq => (hs q hq).2
  refine ⟨v, a1.fr (f 4 (by decide)) (f 30 (by decide)), a2.fr (f 1 (by decide)) (f 2 (by decide)) h3 (f 32 (by decide)), ?_, fun k hk => (a4 k hk).fr (f 26 (by decide)) (f 27 (by decide)) (f 28 (by decide)) (f 46 (by decide)) (f 47 (by decide)) (f 48 (by decide)), a5.fr (f 33 (by decide)) (f 34 (by decide)), a6.fr (f 7 (by decide)) (g 8 (by decide)) (g 9 (by decide)), ?_, a8.fr (f 16 (by decide)) (g 17 (by decide))⟩
  · unfold I_fault at a3 ⊢
    rw [f 5 (by decide), h4]
    exact a3
  · exact a7.fr (by rw [f 10 (by decide)]) (by rw [g 10 (by decide)]) (by rw [g 10 (by decide)]) (f 11 (by decide)) (g 12 (by decide)) (g 13 (by decide))
/-! the lane's own numbers -/
def LC (v : Nat → Nat) (τ : hz_T) : Prop := LaneOK v ∧ ∀ j, j < 8 → τ.1.1 4 j = nI (v j)
def LM (v : Nat → Nat) (τ : hz_T) : Prop := LaneOK v ∧ ∀ j, j < 8 → τ.1.1 30 j = nI (v j)
theorem I_lane.c {v : Nat → Nat} {τ : hz_T} (h : I_lane v τ) : LC v τ := ⟨h.1, fun j hj => (h.2 j hj).1⟩
theorem I_lane.m {v : Nat → Nat} {τ : hz_T} (h : I_lane v τ) : LM v τ := ⟨h.1, fun j hj => (h.2 j hj).2⟩
theorem LaneOK.n {v : Nat → Nat} (h : LaneOK v) : 1 ≤ v 0 ∧ v 0 ≤ 6 := by rcases h.1 with h | h <;> omega
theorem LaneOK.o {v : Nat → Nat} (h : LaneOK v) : v 1 ≤ 1 := by rcases h.1 with h | h <;> omega
theorem LaneOK.v {v : Nat → Nat} (h : LaneOK v) {j : Nat} (hj : j < 8) : v j ≤ 9 := by
  have h1 := h.n
  have h2 := h.o
  obtain ⟨-, a2, a3, a4, a5, a6, a7⟩ := h
  match j, hj with
  | 0, _ => omega
  | 1, _ => omega
  | 2, _ => omega
  | 3, _ => omega
  | 4, _ => omega
  | 5, _ => omega
  | 6, _ => omega
  | 7, _ => omega
theorem pw_small : ∀ n, n ≤ 6 → (1 : Int32) <<< (nI n &&& 31) = nI (2 ^ n) := by decide +kernel
theorem pw64 {n : Nat} (h : n ≤ 6) : 1 ≤ 2 ^ n ∧ 2 ^ n ≤ 64 := ⟨Nat.one_le_two_pow, by
  have := Nat.pow_le_pow_right (n := 2) (by decide) h
  exact this⟩
section LN
variable {G : hz_G} {τ : hz_T} {v : Nat → Nat} {φ : Int32 → hz_T → Prop}
theorem sp_cplaces (hL : LC v τ) (H : φ (nI (v 0)) τ) : zCall G MX1_places [.ref 3] τ (zpi φ) := C_X1_places τ (pi_ok (by rw [hL.2 0 (by decide)]; exact H))
theorem sp_mplaces (hL : LM v τ) (H : φ (nI (v 0)) τ) : zCall G MX12_places [.ref 29] τ (zpi φ) := C_X12_places τ (pi_ok (by rw [hL.2 0 (by decide)]; exact H))
theorem op_eq {v : Nat → Nat} (h : LaneOK v) : (if nI (v 1) = 1 then (1 : Int32) else 0) = (if v 1 = 1 then 1 else 0) := by
  have := h.o
  rcases (show v 1 = 0 ∨ v 1 = 1 by omega) with e | e <;> rw [e] <;> decide
theorem sp_copen (hL : LC v τ) (H : φ (if v 1 = 1 then 1 else 0) τ) : zCall G MX1_isOpen [.ref 3] τ (zpi φ) := C_X1_isOpen τ (pi_ok (by rw [hL.2 1 (by decide), op_eq hL.1]; exact H))
theorem sp_mopen (hL : LM v τ) (H : φ (if v 1 = 1 then 1 else 0) τ) : zCall G MX12_isOpen [.ref 29] τ (zpi φ) := C_X12_isOpen τ (pi_ok (by rw [hL.2 1 (by decide), op_eq hL.1]; exact H))
theorem sp_cstates (hL : LC v τ) (H : φ (nI (2 ^ v 0)) τ) : zCall G MX1_states [.ref 3] τ (zpi φ) := C_X1_states τ (sp_cplaces hL (pi_ok (by rw [pw_small _ hL.1.n.2]; exact H)))
theorem sp_mstates (hL : LM v τ) (H : φ (nI (2 ^ v 0)) τ) : zCall G MX12_states [.ref 29] τ (zpi φ) := C_X12_states τ (pi_ok (by rw [hL.2 0 (by decide), pw_small _ hL.1.n.2]; exact H))
theorem sp_cisState (hL : LC v τ) {x : Int32} (H : φ (if 0 ≤ x.toInt ∧ x.toInt < 2 ^ v 0 then 1 else 0) τ) : zCall G MX1_isState [.ref 3, .int x] τ (zpi φ) := by
  have hp := pw64 hL.1.n.2
  refine C_X1_isState x τ ⟨fun hc => pi_ok ?_, fun hc => sp_cstates hL (pi_ok ?_)⟩
  · rw [Int32.lt_iff_toInt_lt] at hc
    have hc : x.toInt < 0 := hc
    rw [if_neg (by omega)] at H
    exact H
  · rw [Int32.lt_iff_toInt_lt] at hc
    have hc : ¬ x.toInt < 0 := hc
    have e : (if nI (2 ^ v 0) ≤ x then (0 : Int32) else 1) = (if 0 ≤ x.toInt ∧ x.toInt < 2 ^ v 0 then 1 else 0) := by
      have hle : nI (2 ^ v 0) ≤ x ↔ ((2 ^ v 0 : Nat) : Int) ≤ x.toInt := by rw [Int32.le_iff_toInt_le, nI_toInt (by omega)]
      have e2 : ((2 ^ v 0 : Nat) : Int) = 2 ^ v 0 := by simp
      by_cases h : ((2 ^ v 0 : Nat) : Int) ≤ x.toInt
      · rw [if_pos (hle.mpr h), if_neg (by omega)]
      · rw [if_neg (fun q => h (hle.mp q)), if_pos (by omega)]
    rw [e]
    exact H
theorem sp_misState (hL : LM v τ) {x : Int32} (H : φ (if 0 ≤ x.toInt ∧ x.toInt < 2 ^ v 0 then 1 else 0) τ) : zCall G MX12_isState [.ref 29, .int x] τ (zpi φ) := by
  have hp := pw64 hL.1.n.2
  refine C_X12_isState x τ (sp_mstates hL (sp_in ⟨nar_b, pi_ok ?_⟩))
  have e1 : (nI (2 ^ v 0) - 1).toInt64.toInt = (2 ^ v 0 : Nat) - 1 := by
    rw [i64, kx_1, pk_sub_toInt (by omega) (by omega)]
    rfl
  have e2 : (0 : Int64).toInt = 0 := by decide
  have e : (if (0 : Int64).toInt ≤ x.toInt64.toInt ∧ x.toInt64.toInt ≤ (nI (2 ^ v 0) - 1).toInt64.toInt then (1 : Int32) else 0) = (if 0 ≤ x.toInt ∧ x.toInt < 2 ^ v 0 then 1 else 0) := by
    rw [e1, e2, i64]
    have e2 : ((2 ^ v 0 : Nat) : Int) = 2 ^ v 0 := by simp
    by_cases h : 0 ≤ x.toInt ∧ x.toInt < 2 ^ v 0
    · rw [if_pos h, if_pos (by omega)]
    · rw [if_neg h, if_neg (by omega)]
  rw [e]
  exact H
theorem st_of {v : Nat → Nat} {x : Int32} (h : 0 ≤ x.toInt ∧ x.toInt < 2 ^ v 0) : ∃ s : Nat, s < 2 ^ v 0 ∧ x = nI s := by
  have e2 : ((2 ^ v 0 : Nat) : Int) = 2 ^ v 0 := by simp
  exact of_range h.1 (by omega)
end LN

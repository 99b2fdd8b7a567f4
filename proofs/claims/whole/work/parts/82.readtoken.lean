/-! the class reads a token -/
theorem sh8 {a c : Nat} (ha : a < 2 ^ 23) (hc : c < 256) : (nI a <<< ((8 : Int32) &&& 31)) ||| nI c = nI (256 * a + c) := by
  refine b_ext (fun i hi => ?_)
  rw [b_or, b_shl8 _ hi, bt_nI _ hi, bt_nI _ hi, show 256 * a + c = 2 ^ 8 * a + c from rfl, Nat.testBit_two_pow_mul_add a (show c < 2 ^ 8 by omega)]
  by_cases q : i < 8
  · rw [if_pos q, decide_eq_false (by omega), Bool.false_and, Bool.false_or]
  · rw [if_neg q, decide_eq_true (by omega), Bool.true_and, bt_nI _ (by omega)]
    rw [show c.testBit i = false from Nat.testBit_lt_two_pow (Nat.lt_of_lt_of_le hc (Nat.pow_le_pow_right (n := 2) (i := 8) (by decide) (by omega))), Bool.or_false]
def pkN (b : Nat → Nat) (q : Nat) : Nat → Int32
  | 0 => 0
  | j + 1 => (pkN b q j <<< ((8 : Int32) &&& 31)) ||| nI (b (q + j))
def nmo (x : Int32) : Int32 := if x = 26990 then 3 else if x = 6844272 then 2 else if x = 7304564 then 4 else if x = 1869636974 then 1 else if x = 1919512167 then 0 else 5
theorem nmM_len {b : Nat → Nat} {q L n : Nat} (h : ¬ L = (nms n).length) : nmM b q L n = false := by
  unfold nmM
  rw [decide_eq_false h, Bool.false_and]
theorem nmF_big {b : Nat → Nat} {q L : Nat} (h : 4 < L) : nmF b q L = 5 := by
  unfold nmF
  rw [nmM_len (n := 0) (by show ¬ L = 4; omega), nmM_len (n := 1) (by show ¬ L = 4; omega), nmM_len (n := 2) (by show ¬ L = 3; omega), nmM_len (n := 3) (by show ¬ L = 2; omega), nmM_len (n := 4) (by show ¬ L = 3; omega)]
  rfl
theorem nmF_1 (b : Nat → Nat) (q : Nat) : nmF b q 1 = 5 := by
  unfold nmF
  rw [nmM_len (n := 0) (by decide), nmM_len (n := 1) (by decide), nmM_len (n := 2) (by decide), nmM_len (n := 3) (by decide), nmM_len (n := 4) (by decide)]
  rfl
theorem nmF_2 (b : Nat → Nat) (q : Nat) : nmF b q 2 = if b q = 105 ∧ b (q + 1) = 110 then 3 else 5 := by
  unfold nmF
  have e : nmM b q 2 3 = (b (q + 0) == 105 && (b (q + 1) == 110 && true)) := rfl
  rw [nmM_len (n := 0) (by decide), nmM_len (n := 1) (by decide), nmM_len (n := 2) (by decide), e, nmM_len (n := 4) (by decide), if_neg (by decide), if_neg (by decide), if_neg (by decide), Bool.and_true, Nat.add_zero]
  by_cases h : b q = 105 ∧ b (q + 1) = 110
  · rw [if_pos h, h.1, h.2]; rfl
  · rw [if_neg h, if_neg (fun y => h (by rw [Bool.and_eq_true, beq_iff_eq, beq_iff_eq] at y; exact y))]; rfl
theorem nmF_3 (b : Nat → Nat) (q : Nat) : nmF b q 3 = if b q = 104 ∧ b (q + 1) = 111 ∧ b (q + 2) = 112 then 2 else if b q = 111 ∧ b (q + 1) = 117 ∧ b (q + 2) = 116 then 4 else 5 := by
  unfold nmF
  have e : nmM b q 3 2 = (b (q + 0) == 104 && (b (q + 1) == 111 && (b (q + 2) == 112 && true))) := rfl
  have e4 : nmM b q 3 4 = (b (q + 0) == 111 && (b (q + 1) == 117 && (b (q + 2) == 116 && true))) := rfl
  rw [nmM_len (n := 0) (by decide), nmM_len (n := 1) (by decide), e, nmM_len (n := 3) (by decide), e4, if_neg (by decide), if_neg (by decide), Bool.and_true, Bool.and_true, Nat.add_zero]
  by_cases h : b q = 104 ∧ b (q + 1) = 111 ∧ b (q + 2) = 112
  · rw [if_pos h, h.1, h.2.1, h.2.2]; rfl
  · rw [if_neg h, if_neg (fun y => h (by rw [Bool.and_eq_true, Bool.and_eq_true, beq_iff_eq, beq_iff_eq, beq_iff_eq] at y; exact y)), if_neg (by decide)]
    by_cases h2 : b q = 111 ∧ b (q + 1) = 117 ∧ b (q + 2) = 116
    · rw [if_pos h2, h2.1, h2.2.1, h2.2.2]; rfl
    · rw [if_neg h2, if_neg (fun y => h2 (by rw [Bool.and_eq_true, Bool.and_eq_true, beq_iff_eq, beq_iff_eq, beq_iff_eq] at y; exact y))]
theorem nmF_4 (b : Nat → Nat) (q : Nat) : nmF b q 4 = if b q = 114 ∧ b (q + 1) = 105 ∧ b (q + 2) = 110 ∧ b (q + 3) = 103 then 0 else if b q = 111 ∧ b (q + 1) = 112 ∧ b (q + 2) = 101 ∧ b (q + 3) = 110 then 1 else 5 := by
  unfold nmF
  have e : nmM b q 4 0 = (b (q + 0) == 114 && (b (q + 1) == 105 && (b (q + 2) == 110 && (b (q + 3) == 103 && true)))) := rfl
  have e4 : nmM b q 4 1 = (b (q + 0) == 111 && (b (q + 1) == 112 && (b (q + 2) == 101 && (b (q + 3) == 110 && true)))) := rfl
  rw [e, e4, nmM_len (n := 2) (by decide), nmM_len (n := 3) (by decide), nmM_len (n := 4) (by decide), Bool.and_true, Bool.and_true, Nat.add_zero]
  by_cases h : b q = 114 ∧ b (q + 1) = 105 ∧ b (q + 2) = 110 ∧ b (q + 3) = 103
  · rw [if_pos h, h.1, h.2.1, h.2.2.1, h.2.2.2]; rfl
  · rw [if_neg h, if_neg (fun y => h (by rw [Bool.and_eq_true, Bool.and_eq_true, Bool.and_eq_true, beq_iff_eq, beq_iff_eq, beq_iff_eq, beq_iff_eq] at y; exact y))]
    by_cases h2 : b q = 111 ∧ b (q + 1) = 112 ∧ b (q + 2) = 101 ∧ b (q + 3) = 110
    · rw [if_pos h2, h2.1, h2.2.1, h2.2.2.1, h2.2.2.2]; rfl
    · rw [if_neg h2, if_neg (fun y => h2 (by rw [Bool.and_eq_true, Bool.and_eq_true, Bool.and_eq_true, beq_iff_eq, beq_iff_eq, beq_iff_eq, beq_iff_eq] at y; exact y))]
      rfl
theorem nmo_n {N : Nat} (h : N < 2 ^ 31) : nmo (nI N) = if N = 26990 then 3 else if N = 6844272 then 2 else if N = 7304564 then 4 else if N = 1869636974 then 1 else if N = 1919512167 then 0 else 5 := by
  unfold nmo
  have k : ∀ c : Nat, c < 2 ^ 31 → (nI N = nI c ↔ N = c) := fun c hc => nI_eq h hc
  have k1 : nI N = 26990 ↔ N = 26990 := k 26990 (by decide)
  have k2 : nI N = 6844272 ↔ N = 6844272 := k 6844272 (by decide)
  have k3 : nI N = 7304564 ↔ N = 7304564 := k 7304564 (by decide)
  have k4 : nI N = 1869636974 ↔ N = 1869636974 := k 1869636974 (by decide)
  have k5 : nI N = 1919512167 ↔ N = 1919512167 := k 1919512167 (by decide)
  by_cases h1 : N = 26990
  · rw [if_pos h1, if_pos (k1.2 h1)]
  · rw [if_neg h1, if_neg (fun y => h1 (k1.1 y))]
    by_cases h2 : N = 6844272
    · rw [if_pos h2, if_pos (k2.2 h2)]
    · rw [if_neg h2, if_neg (fun y => h2 (k2.1 y))]
      by_cases h3 : N = 7304564
      · rw [if_pos h3, if_pos (k3.2 h3)]
      · rw [if_neg h3, if_neg (fun y => h3 (k3.1 y))]
        by_cases h4 : N = 1869636974
        · rw [if_pos h4, if_pos (k4.2 h4)]
        · rw [if_neg h4, if_neg (fun y => h4 (k4.1 y))]
          by_cases h5 : N = 1919512167
          · rw [if_pos h5, if_pos (k5.2 h5)]
          · rw [if_neg h5, if_neg (fun y => h5 (k5.1 y))]
theorem nmo_F {b : Nat → Nat} {q L : Nat} (h1 : 1 ≤ L) (h4 : L ≤ 4) (hl : ∀ i, i < L → isL (b (q + i)) = true) : nmo (pkN b q L) = nI (nmF b q L) := by
  have p1 : pkN b q 1 = nI (b q) := by
    show ((0 : Int32) <<< ((8 : Int32) &&& 31)) ||| nI (b (q + 0)) = nI (b q)
    rw [show ((0 : Int32) <<< ((8 : Int32) &&& 31)) = 0 from by decide, Int32.zero_or, Nat.add_zero]
  have l0 := isL_ok (hl 0 (by omega))
  rw [Nat.add_zero] at l0
  have p2 : pkN b q 2 = (nI (b q) <<< ((8 : Int32) &&& 31)) ||| nI (b (q + 1)) := by rw [← p1]; rfl
  rcases (show L = 1 ∨ L = 2 ∨ L = 3 ∨ L = 4 by omega) with e | e | e | e
  · subst e
    rw [p1, nmo_n (by omega), nmF_1, if_neg (by omega), if_neg (by omega), if_neg (by omega), if_neg (by omega), if_neg (by omega)]; rfl
  · subst e
    have l1 := isL_ok (hl 1 (by omega))
    rw [p2, sh8 (by omega) (by omega), nmo_n (by omega), nmF_2]
    by_cases c : b q = 105 ∧ b (q + 1) = 110
    · rw [if_pos c, if_pos (by omega)]; rfl
    · rw [if_neg c, if_neg (by omega), if_neg (by omega), if_neg (by omega), if_neg (by omega), if_neg (by omega)]; rfl
  · subst e
    have l1 := isL_ok (hl 1 (by omega))
    have l2 := isL_ok (hl 2 (by omega))
    have p3 : pkN b q 3 = (pkN b q 2 <<< ((8 : Int32) &&& 31)) ||| nI (b (q + 2)) := rfl
    rw [p3, p2, sh8 (by omega) (by omega), sh8 (by omega) (by omega), nmo_n (by omega), nmF_3]
    by_cases c : b q = 104 ∧ b (q + 1) = 111 ∧ b (q + 2) = 112
    · rw [if_pos c, if_neg (by omega), if_pos (by omega)]; rfl
    · rw [if_neg c]
      by_cases c2 : b q = 111 ∧ b (q + 1) = 117 ∧ b (q + 2) = 116
      · rw [if_pos c2, if_neg (by omega), if_neg (by omega), if_pos (by omega)]; rfl
      · rw [if_neg c2, if_neg (by omega), if_neg (by omega), if_neg (by omega), if_neg (by omega), if_neg (by omega)]; rfl
  · subst e
    have l1 := isL_ok (hl 1 (by omega))
    have l2 := isL_ok (hl 2 (by omega))
    have l3 := isL_ok (hl 3 (by omega))
    have p3 : pkN b q 4 = (((pkN b q 2 <<< ((8 : Int32) &&& 31)) ||| nI (b (q + 2))) <<< ((8 : Int32) &&& 31)) ||| nI (b (q + 3)) := rfl
    rw [p3, p2, sh8 (by omega) (by omega), sh8 (by omega) (by omega), sh8 (by omega) (by omega), nmo_n (by omega), nmF_4]
    by_cases c : b q = 114 ∧ b (q + 1) = 105 ∧ b (q + 2) = 110 ∧ b (q + 3) = 103
    · rw [if_pos c, if_neg (by omega), if_neg (by omega), if_neg (by omega), if_neg (by omega), if_pos (by omega)]; rfl
    · rw [if_neg c]
      by_cases c2 : b q = 111 ∧ b (q + 1) = 112 ∧ b (q + 2) = 101 ∧ b (q + 3) = 110
      · rw [if_pos c2, if_neg (by omega), if_neg (by omega), if_neg (by omega), if_pos (by omega)]; rfl
      · rw [if_neg c2, if_neg (by omega), if_neg (by omega), if_neg (by omega), if_neg (by omega), if_neg (by omega)]; rfl
/-- only these fields of the reader may have changed -/
def F5 (τ τ' : hz_T) : Prop := Sm [5] τ τ' ∧ τ'.1.1 5 6 = τ.1.1 5 6 ∧ τ'.1.1 5 7 = τ.1.1 5 7 ∧ τ'.1.1 5 8 = τ.1.1 5 8
theorem F5.rf {τ : hz_T} : F5 τ τ := ⟨Sm.rf, rfl, rfl, rfl⟩
theorem F5.tr {a b c : hz_T} (h1 : F5 a b) (h2 : F5 b c) : F5 a c := ⟨h1.1.tr h2.1, h2.2.1.trans h1.2.1, h2.2.2.1.trans h1.2.2.1, h2.2.2.2.trans h1.2.2.2⟩
theorem F5.I {a b : hz_T} (h : F5 a b) {j : Nat} (hj : j < 6) (x : Int32) : F5 a (zI b 5 j x) := ⟨h.1.I (by decide), by rw [zI_at, if_neg (by omega)]; exact h.2.1, by rw [zI_at, if_neg (by omega)]; exact h.2.2.1, by rw [zI_at, if_neg (by omega)]; exact h.2.2.2⟩
theorem Tb.f5 {m : Nat} {b : Nat → Nat} {τ τ' : hz_T} (h : Tb m b τ) (hs : F5 τ τ') : Tb m b τ' := h.sm hs.1 (by decide) (by decide) (by decide) (by rw [(hs.1 29 (by decide)).1])
def TkC (t : Nat × Nat × Nat × Nat) (τ τ' : hz_T) : Prop := F5 τ τ' ∧ τ'.1.1 5 3 = nI t.1 ∧ τ'.1.1 5 5 = nI t.2.2.1 ∧ (t.1 ≠ 0 → τ'.1.1 5 2 = nI t.2.2.2) ∧ ((t.1 = 1 ∨ t.1 = 2) → τ'.1.1 5 4 = nI t.2.1)
def vlI (b : Nat → Nat) (q : Nat) : Nat → Int32
  | 0 => 0
  | j + 1 => ((vlI b q j * (10 : Int32)) + nI (b (q + j))) - (48 : Int32)
theorem tb_v : ∀ a, a < 10 → ((0 : Int32) * (10 : Int32) + nI (48 + a)) - (48 : Int32) = nI a ∧ ∀ c, c < 10 → (nI a * (10 : Int32) + nI (48 + c)) - (48 : Int32) = nI (10 * a + c) ∧ ((10 : Int32) * nI a + nI (48 + c)) - (48 : Int32) = nI (10 * a + c) ∧ ((10 : Int32) * (0 : Int32) + nI (48 + a)) - (48 : Int32) = nI a := by decide +kernel
theorem vlI_V {b : Nat → Nat} {q L : Nat} (hL : L ≤ 2) (hl : ∀ i, i < L → isF (b (q + i)) = true) : vlI b q L = nI (tkV b q L) := by
  rcases (show L = 0 ∨ L = 1 ∨ L = 2 by omega) with e | e | e
  · subst e; rfl
  · subst e
    have l0 := isF_ok (hl 0 (by omega))
    rw [Nat.add_zero] at l0
    obtain ⟨t1, -⟩ := tb_v (b q - 48) (by omega)
    rw [show 48 + (b q - 48) = b q by omega] at t1
    exact t1
  · subst e
    have l0 := isF_ok (hl 0 (by omega))
    have l1 := isF_ok (hl 1 (by omega))
    rw [Nat.add_zero] at l0
    obtain ⟨t1, t2⟩ := tb_v (b q - 48) (by omega)
    obtain ⟨t3, -, -⟩ := t2 (b (q + 1) - 48) (by omega)
    rw [show 48 + (b q - 48) = b q by omega] at t1
    rw [show 48 + (b (q + 1) - 48) = b (q + 1) by omega] at t3
    show ((((0 : Int32) * (10 : Int32) + nI (b (q + 0))) - (48 : Int32)) * (10 : Int32) + nI (b (q + 1))) - (48 : Int32) = _
    rw [Nat.add_zero, t1]
    exact t3
section RT
variable {G : hz_G} {τ : hz_T} {m : Nat} {b : Nat → Nat} {χ : hz_T → Prop} {φ : Int32 → hz_T → Prop}
theorem sp_nameOf {x : Int32} (H : φ (nmo x) τ) : zCall G MX4_nameOf [.int x] τ (zpi φ) := by
  unfold nmo at H
  refine C_X4_nameOf _ τ ⟨fun e => pi_ok ?_, fun e => pi_ok ?_, fun e => pi_ok ?_, fun e => pi_ok ?_, fun e => pi_ok ?_, fun e1 e2 e3 e4 e5 => pi_ok ?_⟩
  · rw [if_pos e] at H; exact H
  · have e : x = 6844272 := e
    rw [e] at H; exact H
  · have e : x = 7304564 := e
    rw [e] at H; exact H
  · have e : x = 1869636974 := e
    rw [e] at H; exact H
  · have e : x = 1919512167 := e
    rw [e] at H; exact H
  · rw [if_neg e1, if_neg e2, if_neg e3, if_neg e4, if_neg e5] at H; exact H
theorem sp_readName (hT : Tb m b τ) {q : Nat} (hq : q < m) (hl : isL (b q) = true) (h2 : τ.1.1 5 2 = nI q) (h5 : τ.1.1 5 5 = nI q) (H : ∀ τ', F5 τ τ' → τ'.1.1 5 3 = nI (if nmF b q (tkL m b q - q) = 5 then 0 else 1) → τ'.1.1 5 5 = nI q → τ'.1.1 5 2 = nI (tkL m b q) → (nmF b q (tkL m b q - q) ≠ 5 → τ'.1.1 5 4 = nI (nmF b q (tkL m b q - q))) → χ τ') : zCall G MX4_readName [.ref 5] τ (zpv χ) := by
  have hm := hT.1
  have hb : ∀ j, j < m → b j < 256 := fun j hj => (hT.2.2.2 j hj).1
  obtain ⟨c1, c2, c3, c4⟩ := tkL_ok (b := b) (p := q) hm (by omega)
  have hlt : q < tkL m b q := by
    rcases Nat.lt_or_ge q (tkL m b q) with w | w
    · exact w
    · have e : tkL m b q = q := by omega
      rw [e] at c4
      have this : isL (b q) = false := c4 hq
      rw [hl] at this
      exact Bool.noConfusion this
  refine C_X4_readName τ ?_
  have fin : ∀ τ1, F5 τ τ1 → τ1.1.1 5 2 = nI (tkL m b q) → τ1.1.1 5 5 = nI q → zCall G MX4_nameOf [.int (pkN b q (tkL m b q - q))] τ1 (zpi (fun x112 τ113 => zpv χ none (zI (zI τ113 5 4 x112) 5 3 (if x112 = (5 : Int32) then (0 : Int32) else (if (4 : Int32) < ((τ113.1.1 5 2) - (τ113.1.1 5 5)) then (0 : Int32) else (1 : Int32)))))) := by
    intro τ1 g1 g2 g5
    refine sp_nameOf (pv_ok ?_)
    rw [g2, g5, pk_sub (by omega)]
    have k4 : (4 : Int32) < nI (tkL m b q - q) ↔ 4 < tkL m b q - q := nI_ltJ (a := 4) (by decide) (by omega)
    refine H _ ((g1.I (by decide) _).I (by decide) _) ?_ ?_ ?_ (fun h => ?_)
    · rw [zI_at, if_pos ⟨rfl, rfl⟩]
      by_cases w : tkL m b q - q ≤ 4
      · rw [nmo_F (by omega) w (fun i hi => c3 (q + i) (by omega) (by omega)), if_neg (fun y => absurd (k4.1 y) (by omega))]
        have hn : nmF b q (tkL m b q - q) ≤ 5 := by
          unfold nmF
          split
          · omega
          · split
            · omega
            · split
              · omega
              · split
                · omega
                · split <;> omega
        have k5 : nI (nmF b q (tkL m b q - q)) = (5 : Int32) ↔ nmF b q (tkL m b q - q) = 5 := nI_eq (b := 5) (by omega) (by decide)
        by_cases z : nmF b q (tkL m b q - q) = 5
        · rw [if_pos (k5.2 z), if_pos z]; rfl
        · rw [if_neg (fun y => z (k5.1 y)), if_neg z]; rfl
      · rw [nmF_big (by omega), if_pos rfl, if_pos (k4.2 (by omega)), ite_self]; rfl
    · rw [zI_at, if_neg (by decide), zI_at, if_neg (by decide)]; exact g5
    · rw [zI_at, if_neg (by decide), zI_at, if_neg (by decide)]; exact g2
    · rw [zI_at, if_neg (by decide), zI_at, if_pos ⟨rfl, rfl⟩]
      refine nmo_F (by omega) ?_ (fun i hi => c3 (q + i) (by omega) (by omega))
      rcases Nat.lt_or_ge 4 (tkL m b q - q) with w | w
      · exact absurd (nmF_big w) h
      · exact w
  have loop : ∀ d j τ1, q + j + d = tkL m b q → F5 τ τ1 → τ1.1.1 5 2 = nI (q + j) → τ1.1.1 5 5 = nI q → zRun G MX4_readName 4 [(0, .ref 5), (1, .int (pkN b q j)), (2, .int (nI j))] [] τ1 (zpv χ) := by
    intro d
    induction d with
    | zero =>
      intro j τ1 e g1 g2 g5
      have e : q + j = tkL m b q := by omega
      have ej : j = tkL m b q - q := by omega
      refine V_X4_readName_4 _ _ τ1 ⟨fun _ => ?_, fun _ => ?_⟩
      · rw [ej]
        exact fin τ1 g1 (by rw [g2, e]) g5
      · rw [g2, e]
        refine sp_cbyte (hT.f5 g1) (by omega) (sp_isLetter hb (b_a (fun _ => ?_) (fun y => ?_)))
        · rw [ej]
          exact fin τ1 g1 (by rw [g2, e]) g5
        · have this : isL (b (tkL m b q)) = false := c4 y.1
          rw [this] at y
          exact absurd y.2 (by decide)
    | succ d ih =>
      intro j τ1 e g1 g2 g5
      have hp : q + j < m := by omega
      have hL : isL (b (q + j)) = true := c3 (q + j) (by omega) (by omega)
      refine V_X4_readName_4 _ _ τ1 ⟨fun y => absurd (show nI 120 ≤ nI j from y) (nI_ge (by omega) (by decide)), fun _ => ?_⟩
      rw [g2]
      refine sp_cbyte (hT.f5 g1) (by omega) (sp_isLetter hb (b_a (fun y => absurd ⟨hp, hL⟩ y) (fun _ => ?_)))
      rw [g2]
      refine sp_cbyte (hT.f5 g1) (by omega) ?_
      rw [g2, i1, i1]
      have ecb : cb m b (q + j) = nI (b (q + j)) := if_pos hp
      rw [ecb]
      refine ih (j + 1) _ (by omega) (g1.I (by decide) _) ?_ ?_
      · rw [zI_at, if_pos ⟨rfl, rfl⟩]; rfl
      · rw [zI_at, if_neg (by decide)]; exact g5
  exact loop (tkL m b q - q) 0 τ (by omega) F5.rf h2 h5
theorem sp_readNumber (hT : Tb m b τ) {q : Nat} (hq : q < m) (h2 : τ.1.1 5 2 = nI q) (h5 : τ.1.1 5 5 = nI q) (H : ∀ τ', F5 τ τ' → τ'.1.1 5 3 = nI (if tkF m b q - q ≤ 2 then 2 else 0) → τ'.1.1 5 5 = nI q → τ'.1.1 5 2 = nI (tkF m b q) → (tkF m b q - q ≤ 2 → τ'.1.1 5 4 = nI (tkV b q (tkF m b q - q))) → χ τ') : zCall G MX4_readNumber [.ref 5] τ (zpv χ) := by
  have hm := hT.1
  have hb : ∀ j, j < m → b j < 256 := fun j hj => (hT.2.2.2 j hj).1
  obtain ⟨c1, c2, c3, c4⟩ := tkF_ok (b := b) (p := q) hm (by omega)
  refine C_X4_readNumber τ ?_
  have fin : ∀ τ1, F5 τ τ1 → τ1.1.1 5 2 = nI (tkF m b q) → τ1.1.1 5 5 = nI q → τ1.1.1 5 4 = vlI b q (tkF m b q - q) → zpv χ none (zI τ1 5 3 (if (2 : Int32) < ((τ1.1.1 5 2) - (τ1.1.1 5 5)) then (0 : Int32) else (2 : Int32))) := by
    intro τ1 g1 g2 g5 g4
    refine pv_ok ?_
    rw [g2, g5, pk_sub (by omega)]
    have k2 : (2 : Int32) < nI (tkF m b q - q) ↔ 2 < tkF m b q - q := nI_ltJ (a := 2) (by decide) (by omega)
    refine H _ (g1.I (by decide) _) ?_ ?_ ?_ (fun h => ?_)
    · rw [zI_at, if_pos ⟨rfl, rfl⟩]
      by_cases w : tkF m b q - q ≤ 2
      · rw [if_pos w, if_neg (fun y => absurd (k2.1 y) (by omega))]; rfl
      · rw [if_neg w, if_pos (k2.2 (by omega))]; rfl
    · rw [zI_at, if_neg (by decide)]; exact g5
    · rw [zI_at, if_neg (by decide)]; exact g2
    · rw [zI_at, if_neg (by decide), g4]
      exact vlI_V h (fun i hi => c3 (q + i) (by omega) (by omega))
  have loop : ∀ d j τ1, q + j + d = tkF m b q → F5 τ τ1 → τ1.1.1 5 2 = nI (q + j) → τ1.1.1 5 5 = nI q → τ1.1.1 5 4 = vlI b q j → zRun G MX4_readNumber 7 [(0, .ref 5), (1, .int (nI j))] [] τ1 (zpv χ) := by
    intro d
    induction d with
    | zero =>
      intro j τ1 e g1 g2 g5 g4
      have e : q + j = tkF m b q := by omega
      have ej : j = tkF m b q - q := by omega
      rw [ej] at g4
      refine V_X4_readNumber_7 _ τ1 ⟨fun _ => fin τ1 g1 (by rw [g2, e]) g5 g4, fun _ => ?_⟩
      rw [g2, e]
      refine sp_cbyte (hT.f5 g1) (by omega) (sp_isFigure hb (b_a (fun _ => ?_) (fun y => ?_)))
      · have := fin τ1 g1 (by rw [g2, e]) g5 g4
        rw [g2, e] at this
        rw [g2, e]
        exact this
      · have this : isF (b (tkF m b q)) = false := c4 y.1
        rw [this] at y
        exact absurd y.2 (by decide)
    | succ d ih =>
      intro j τ1 e g1 g2 g5 g4
      have hp : q + j < m := by omega
      have hL : isF (b (q + j)) = true := c3 (q + j) (by omega) (by omega)
      refine V_X4_readNumber_7 _ τ1 ⟨fun y => absurd (show nI 120 ≤ nI j from y) (nI_ge (by omega) (by decide)), fun _ => ?_⟩
      rw [g2]
      refine sp_cbyte (hT.f5 g1) (by omega) (sp_isFigure hb (b_a (fun y => absurd ⟨hp, hL⟩ y) (fun _ => ?_)))
      rw [g2]
      refine sp_cbyte (hT.f5 g1) (by omega) ?_
      rw [g2, g4, i1, i1]
      have ecb : cb m b (q + j) = nI (b (q + j)) := if_pos hp
      rw [ecb]
      refine ih (j + 1) _ (by omega) ((g1.I (by decide) _).I (by decide) _) ?_ ?_ ?_
      · rw [zI_at, if_pos ⟨rfl, rfl⟩]; rfl
      · rw [zI_at, if_neg (by decide), zI_at, if_neg (by decide)]; exact g5
      · rw [zI_at, if_neg (by decide), zI_at, if_pos ⟨rfl, rfl⟩]; rfl
  refine loop (tkF m b q - q) 0 _ (by omega) (F5.rf.I (by decide) _) ?_ ?_ ?_
  · rw [zI_at, if_neg (by decide)]; exact h2
  · rw [zI_at, if_neg (by decide)]; exact h5
  · rw [zI_at, if_pos ⟨rfl, rfl⟩]; rfl
theorem sp_readToken (hT : Tb m b τ) {p : Nat} (hp : p ≤ m) (h2 : τ.1.1 5 2 = nI p) (H : ∀ τ', TkC (tk m b p) τ τ' → χ τ') : zCall G MX4_readToken [.ref 5] τ (zpv χ) := by
  have hm := hT.1
  have hb : ∀ j, j < m → b j < 256 := fun j hj => (hT.2.2.2 j hj).1
  obtain ⟨c1, c2, c3, c4⟩ := tkq_ok (b := b) hm hp
  refine C_X4_readToken τ ?_
  unfold tk tk1 at H
  have tail : ∀ τ1, F5 τ τ1 → τ1.1.1 5 2 = nI (tkq m b p) → zCall G MX8_byteAt [.ref 1, .int (τ1.1.1 5 2)] (zI τ1 5 5 (τ1.1.1 5 2)) (zpi (fun x103 τ104 => ((¬ x103 = (-1 : Int32) → ((¬ x103 = (59 : Int32) → zCall G MX4_isLetter [.int x103] τ104 (zpi (fun x109 τ110 => ((x109 = 0 → zCall G MX4_isFigure [.int x103] τ110 (zpi (fun x113 τ114 => ((x113 = 0 → zpv χ none (zI τ114 5 3 (0 : Int32))) ∧ (¬ x113 = 0 → zCall G MX4_readNumber [.ref 5] τ114 (zpv (fun τ116 => zpv χ none τ116))))))) ∧ (¬ x109 = 0 → zCall G MX4_readName [.ref 5] τ110 (zpv (fun τ122 => zpv χ none τ122))))))) ∧ (x103 = (59 : Int32) → zpv χ none (zI (zI τ104 5 3 (3 : Int32)) 5 2 ((τ104.1.1 5 2) + (1 : Int32)))))) ∧ (x103 = (-1 : Int32) → zpv χ none (zI τ104 5 3 (4 : Int32)))))) := by
    intro τ1 g1 g2
    generalize tkq m b p = q at *
    rw [g2]
    have g1' := g1.I (j := 5) (by decide) (nI q)
    refine sp_cbyte (hT.f5 g1') (by omega) ?_
    have k59 : cb m b q = (59 : Int32) ↔ q < m ∧ b q = 59 := cb_eq (k := 59) hb (by decide)
    rw [cb_end hb, k59]
    have f5 : (zI τ1 5 5 (nI q)).1.1 5 5 = nI q := by rw [zI_at, if_pos ⟨rfl, rfl⟩]
    have f2 : (zI τ1 5 5 (nI q)).1.1 5 2 = nI q := by rw [zI_at, if_neg (by decide)]; exact g2
    refine ⟨fun w => ?_, fun w => pv_ok ?_⟩
    · have w : q < m := by omega
      rw [if_pos w] at H
      refine ⟨fun z => sp_isLetter hb (b_a (fun y => sp_isFigure hb (b_a (fun y2 => pv_ok ?_) (fun y2 => ?_))) (fun y => ?_)), fun z => pv_ok ?_⟩
      · have z1 : ¬ b q = 59 := fun e => z ⟨w, e⟩
        have z2 : ¬ isL (b q) = true := fun e => y ⟨w, e⟩
        have z3 : ¬ isF (b q) = true := fun e => y2 ⟨w, e⟩
        rw [if_neg z1, if_neg z2, if_neg z3] at H
        refine H _ ⟨g1'.I (by decide) _, ?_, ?_, fun h => absurd rfl h, fun h => absurd (show 0 = 1 ∨ 0 = 2 from h) (by decide)⟩
        · rw [zI_at, if_pos ⟨rfl, rfl⟩]; rfl
        · rw [zI_at, if_neg (by decide)]; exact f5
      · have z1 : ¬ b q = 59 := fun e => z ⟨w, e⟩
        have z2 : ¬ isL (b q) = true := fun e => y ⟨w, e⟩
        rw [if_neg z1, if_neg z2, if_pos y2.2] at H
        refine sp_readNumber (hT.f5 g1') w f2 f5 (fun τ2 d1 d3 d5 d2 d4 => pv_ok (H τ2 ⟨g1'.tr d1, d3, d5, fun _ => d2, fun h => d4 ?_⟩))
        have h : (if tkF m b q - q ≤ 2 then 2 else 0) = 1 ∨ (if tkF m b q - q ≤ 2 then 2 else 0) = 2 := h
        by_cases c : tkF m b q - q ≤ 2
        · exact c
        · rw [if_neg c] at h
          omega
      · have z1 : ¬ b q = 59 := fun e => z ⟨w, e⟩
        rw [if_neg z1, if_pos y.2] at H
        refine sp_readName (hT.f5 g1') w y.2 f2 f5 (fun τ2 d1 d3 d5 d2 d4 => pv_ok (H τ2 ⟨g1'.tr d1, d3, d5, fun _ => d2, fun h => d4 (fun c => ?_)⟩))
        have h : (if nmF b q (tkL m b q - q) = 5 then 0 else 1) = 1 ∨ (if nmF b q (tkL m b q - q) = 5 then 0 else 1) = 2 := h
        rw [if_pos c] at h
        omega
      · rw [if_pos z.2] at H
        refine H _ ⟨(g1'.I (by decide) _).I (by decide) _, ?_, ?_, fun _ => ?_, fun h => absurd (show 3 = 1 ∨ 3 = 2 from h) (by decide)⟩
        · rw [zI_at, if_neg (by decide), zI_at, if_pos ⟨rfl, rfl⟩]; rfl
        · rw [zI_at, if_neg (by decide), zI_at, if_neg (by decide)]; exact f5
        · rw [zI_at, if_pos ⟨rfl, rfl⟩, f2, i1]
    · rw [if_neg w] at H
      refine H _ ⟨g1'.I (by decide) _, ?_, ?_, fun _ => ?_, fun h => absurd (show 4 = 1 ∨ 4 = 2 from h) (by decide)⟩
      · rw [zI_at, if_pos ⟨rfl, rfl⟩]; rfl
      · rw [zI_at, if_neg (by decide)]; exact f5
      · rw [zI_at, if_neg (by decide)]; exact f2
  have loop : ∀ d j τ1, p + j + d = tkq m b p → F5 τ τ1 → τ1.1.1 5 2 = nI (p + j) → zRun G MX4_readToken 2 [(0, .ref 5), (1, .int (nI j))] [] τ1 (zpv χ) := by
    intro d
    induction d with
    | zero =>
      intro j τ1 e g1 g2
      have e : p + j = tkq m b p := by omega
      refine V_X4_readToken_2 _ τ1 ⟨fun _ => tail τ1 g1 (by rw [g2, e]), fun _ => ?_⟩
      have t := tail τ1 g1 (by rw [g2, e])
      have k32 : cb m b (p + j) = (32 : Int32) ↔ p + j < m ∧ b (p + j) = 32 := cb_eq (k := 32) hb (by decide)
      rw [g2] at t ⊢
      refine sp_cbyte (hT.f5 g1) (by omega) ⟨fun _ => ?_, fun y => ?_⟩
      · rw [g2]; exact t
      · have y := k32.1 y
        have this : (b (tkq m b p) == 32) = false := c4 (by omega)
        rw [← e, y.2] at this
        exact absurd this (by decide)
    | succ d ih =>
      intro j τ1 e g1 g2
      have h32 : (b (p + j) == 32) = true := c3 (p + j) (by omega) (by omega)
      have k32 : cb m b (p + j) = (32 : Int32) ↔ p + j < m ∧ b (p + j) = 32 := cb_eq (k := 32) hb (by decide)
      refine V_X4_readToken_2 _ τ1 ⟨fun y => absurd (show nI 120 ≤ nI j from y) (nI_ge (by omega) (by decide)), fun _ => ?_⟩
      rw [g2]
      refine sp_cbyte (hT.f5 g1) (by omega) ⟨fun y => absurd (k32.2 ⟨by omega, beq_iff_eq.1 h32⟩) y, fun _ => ?_⟩
      rw [g2, i1, i1]
      refine ih (j + 1) _ (by omega) (g1.I (by decide) _) ?_
      rw [zI_at, if_pos ⟨rfl, rfl⟩]; rfl
  exact loop (tkq m b p - p) 0 τ (by omega) F5.rf h2
end RT

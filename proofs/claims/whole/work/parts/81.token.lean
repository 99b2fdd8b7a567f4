/-! the text: bytes and tokens -/
def Tb (m : Nat) (b : Nat → Nat) (τ : hz_T) : Prop := m ≤ 120 ∧ τ.1.1 1 1 = nI m ∧ τ.1.1 29 3 = nI m ∧ ∀ j, j < m → b j < 256 ∧ τ.1.1 2 j &&& 255 = nI (b j) ∧ τ.1.1 32 j = nI (b j)
def Tm (m : Nat) (b : Nat → Nat) (τ : hz_T) : Prop := m ≤ 120 ∧ τ.1.1 29 3 = nI m ∧ True ∧ ∀ j, j < m → b j < 256 ∧ τ.1.1 32 j = nI (b j)
theorem Tb.m {m : Nat} {b : Nat → Nat} {τ : hz_T} (h : Tb m b τ) : Tm m b τ := ⟨h.1, h.2.2.1, trivial, fun j hj => ⟨(h.2.2.2 j hj).1, (h.2.2.2 j hj).2.2⟩⟩
theorem Tm.sm {m : Nat} {b : Nat → Nat} {K : List Nat} {τ τ' : hz_T} (h : Tm m b τ) (hs : Sm K τ τ') (h32 : 32 ∉ K) (h3 : τ'.1.1 29 3 = τ.1.1 29 3) : Tm m b τ' := by
  unfold Tm
  rw [(hs 32 h32).1, h3]
  exact h
theorem I_tape.b {τ : hz_T} (h : I_tape τ) : ∃ m b, Tb m b τ := by
  obtain ⟨m, h1, h2, h3, h4⟩ := h
  refine ⟨m, fun j => (τ.1.1 32 j).toInt.toNat, h1, h2, h3, fun j hj => ?_⟩
  obtain ⟨c, c1, c2, c3⟩ := h4 j hj
  have e : (τ.1.1 32 j).toInt.toNat = c := by rw [c3, nI_toInt (by omega)]; omega
  show (τ.1.1 32 j).toInt.toNat < 256 ∧ _ = nI (τ.1.1 32 j).toInt.toNat ∧ _ = nI (τ.1.1 32 j).toInt.toNat
  rw [e]
  exact ⟨c1, c2, c3⟩
def tsc (m : Nat) (P : Nat → Bool) : Nat → Nat → Nat
  | 0, p => p
  | f + 1, p => if p < m ∧ P p = true then tsc m P f (p + 1) else p
def TSc (m : Nat) (P : Nat → Bool) (p q : Nat) : Prop := p ≤ q ∧ q ≤ m ∧ (∀ i, p ≤ i → i < q → P i = true) ∧ (q < m → P q = false)
theorem scn_ok {m : Nat} {P : Nat → Bool} : ∀ f p, p ≤ m → m - p ≤ f → TSc m P p (tsc m P f p) := by
  intro f
  induction f with
  | zero =>
    intro p hp hf
    exact ⟨Nat.le_refl _, hp, fun i h1 h2 => absurd h2 (by show ¬ i < p; omega), fun h => absurd h (by show ¬ p < m; omega)⟩
  | succ f ih =>
    intro p hp hf
    show TSc m P p (if p < m ∧ P p = true then tsc m P f (p + 1) else p)
    by_cases q : p < m ∧ P p = true
    · rw [if_pos q]
      obtain ⟨a1, a2, a3, a4⟩ := ih (p + 1) (by omega) (by omega)
      refine ⟨by omega, a2, fun i h1 h2 => ?_, a4⟩
      by_cases w : i = p
      · rw [w]; exact q.2
      · exact a3 i (by omega) h2
    · rw [if_neg q]
      refine ⟨Nat.le_refl _, hp, fun i h1 h2 => absurd h2 (by omega), fun h => ?_⟩
      cases e : P p with
      | false => rfl
      | true => exact absurd ⟨h, e⟩ q
def isL (c : Nat) : Bool := decide (97 ≤ c ∧ c ≤ 122)
def isF (c : Nat) : Bool := decide (48 ≤ c ∧ c ≤ 57)
def nms (n : Nat) : List Nat := [[114, 105, 110, 103], [111, 112, 101, 110], [104, 111, 112], [105, 110], [111, 117, 116]].getD n []
def nmM (b : Nat → Nat) (q L n : Nat) : Bool := decide (L = (nms n).length) && (List.range L).all (fun k => b (q + k) == (nms n).getD k 0)
def nmF (b : Nat → Nat) (q L : Nat) : Nat := if nmM b q L 0 = true then 0 else if nmM b q L 1 = true then 1 else if nmM b q L 2 = true then 2 else if nmM b q L 3 = true then 3 else if nmM b q L 4 = true then 4 else 5
def tkq (m : Nat) (b : Nat → Nat) (p : Nat) : Nat := tsc m (fun i => b i == 32) 120 p
def tkL (m : Nat) (b : Nat → Nat) (q : Nat) : Nat := tsc m (fun i => isL (b i)) 120 q
def tkF (m : Nat) (b : Nat → Nat) (q : Nat) : Nat := tsc m (fun i => isF (b i)) 120 q
def tkV (b : Nat → Nat) (q L : Nat) : Nat := if L = 0 then 0 else if L = 1 then b q - 48 else 10 * (b q - 48) + (b (q + 1) - 48)
def tk1 (m : Nat) (b : Nat → Nat) (q : Nat) : Nat × Nat × Nat × Nat := if q < m then (if b q = 59 then (3, 0, q, q + 1) else if isL (b q) = true then (if nmF b q (tkL m b q - q) = 5 then 0 else 1, nmF b q (tkL m b q - q), q, tkL m b q) else if isF (b q) = true then (if tkF m b q - q ≤ 2 then 2 else 0, tkV b q (tkF m b q - q), q, tkF m b q) else (0, 0, q, q)) else (4, 0, q, q)
def tk (m : Nat) (b : Nat → Nat) (p : Nat) : Nat × Nat × Nat × Nat := tk1 m b (tkq m b p)
theorem tkq_ok {m : Nat} {b : Nat → Nat} {p : Nat} (hm : m ≤ 120) (hp : p ≤ m) : TSc m (fun i => b i == 32) p (tkq m b p) := scn_ok 120 p hp (by omega)
theorem tkL_ok {m : Nat} {b : Nat → Nat} {p : Nat} (hm : m ≤ 120) (hp : p ≤ m) : TSc m (fun i => isL (b i)) p (tkL m b p) := scn_ok 120 p hp (by omega)
theorem tkF_ok {m : Nat} {b : Nat → Nat} {p : Nat} (hm : m ≤ 120) (hp : p ≤ m) : TSc m (fun i => isF (b i)) p (tkF m b p) := scn_ok 120 p hp (by omega)
theorem isF_ok {c : Nat} (h : isF c = true) : 48 ≤ c ∧ c ≤ 57 := of_decide_eq_true h
theorem isL_ok {c : Nat} (h : isL c = true) : 97 ≤ c ∧ c ≤ 122 := of_decide_eq_true h
theorem tkV_lt {b : Nat → Nat} {q L : Nat} (h0 : 0 < L → isF (b q) = true) (h1 : 1 < L → isF (b (q + 1)) = true) : tkV b q L ≤ 99 := by
  unfold tkV
  by_cases q0 : L = 0
  · rw [if_pos q0]; omega
  · have a := isF_ok (h0 (by omega))
    rw [if_neg q0]
    by_cases q1 : L = 1
    · rw [if_pos q1]; omega
    · have c := isF_ok (h1 (by omega))
      rw [if_neg q1]; omega
/-- what a token is good for -/
theorem tk_ok {m : Nat} {b : Nat → Nat} {p : Nat} (hm : m ≤ 120) (hp : p ≤ m) : (tk m b p).1 ≤ 4 ∧ (tk m b p).2.2.1 ≤ m ∧ p ≤ (tk m b p).2.2.1 ∧ (tk m b p).2.2.2 ≤ m ∧ ((tk m b p).1 ≠ 4 → (tk m b p).1 ≠ 0 → p < (tk m b p).2.2.2) ∧ ((tk m b p).1 = 1 → (tk m b p).2.1 ≤ 4) ∧ ((tk m b p).1 = 2 → (tk m b p).2.1 ≤ 99) := by
  obtain ⟨a1, a2, a3, a4⟩ := tkq_ok (b := b) hm hp
  unfold tk tk1
  generalize tkq m b p = q at *
  by_cases h1 : q < m
  · rw [if_pos h1]
    by_cases h2 : b q = 59
    · rw [if_pos h2]
      show 3 ≤ 4 ∧ q ≤ m ∧ p ≤ q ∧ q + 1 ≤ m ∧ (3 ≠ 4 → 3 ≠ 0 → p < q + 1) ∧ (3 = 1 → 0 ≤ 4) ∧ (3 = 2 → 0 ≤ 99)
      omega
    · rw [if_neg h2]
      by_cases h3 : isL (b q) = true
      · obtain ⟨c1, c2, c3, c4⟩ := tkL_ok (b := b) (p := q) hm (by omega)
        have hlt : q < tkL m b q := by
          rcases Nat.lt_or_ge q (tkL m b q) with w | w
          · exact w
          · have e : tkL m b q = q := by omega
            rw [e] at c4
            have this : isL (b q) = false := c4 h1
            rw [h3] at this
            exact Bool.noConfusion this
        rw [if_pos h3]
        have hn : nmF b q (tkL m b q - q) ≤ 5 := by
          unfold nmF
          split
          · omega
          · split
            · omega
            · split
              · omega
              · split
                · omega
                · split <;> omega
        refine ⟨?_, by omega, a1, c2, fun _ _ => by show p < tkL m b q; omega, fun h => ?_, fun h => ?_⟩
        · show (if nmF b q (tkL m b q - q) = 5 then 0 else 1) ≤ 4
          split <;> omega
        · have h : (if nmF b q (tkL m b q - q) = 5 then 0 else 1) = 1 := h
          show nmF b q (tkL m b q - q) ≤ 4
          by_cases w : nmF b q (tkL m b q - q) = 5
          · rw [if_pos w] at h; exact absurd h (by decide)
          · omega
        · have h : (if nmF b q (tkL m b q - q) = 5 then 0 else 1) = 2 := h
          split at h <;> exact absurd h (by decide)
      · rw [if_neg h3]
        by_cases h4 : isF (b q) = true
        · obtain ⟨c1, c2, c3, c4⟩ := tkF_ok (b := b) (p := q) hm (by omega)
          have hlt : q < tkF m b q := by
            rcases Nat.lt_or_ge q (tkF m b q) with w | w
            · exact w
            · have e : tkF m b q = q := by omega
              rw [e] at c4
              have this : isF (b q) = false := c4 h1
              rw [h4] at this
              exact Bool.noConfusion this
          rw [if_pos h4]
          refine ⟨?_, by omega, a1, c2, fun _ _ => by show p < tkF m b q; omega, fun h => ?_, fun h => ?_⟩
          · show (if tkF m b q - q ≤ 2 then 2 else 0) ≤ 4
            split <;> omega
          · have h : (if tkF m b q - q ≤ 2 then 2 else 0) = 1 := h
            split at h <;> exact absurd h (by decide)
          · exact tkV_lt (fun _ => h4) (fun w => c3 (q + 1) (by omega) (by omega))
        · rw [if_neg h4]
          show 0 ≤ 4 ∧ q ≤ m ∧ p ≤ q ∧ q ≤ m ∧ (0 ≠ 4 → 0 ≠ 0 → p < q) ∧ (0 = 1 → 0 ≤ 4) ∧ (0 = 2 → 0 ≤ 99)
          omega
  · rw [if_neg h1]
    show 4 ≤ 4 ∧ q ≤ m ∧ p ≤ q ∧ q ≤ m ∧ (4 ≠ 4 → 4 ≠ 0 → p < q) ∧ (4 = 1 → 0 ≤ 4) ∧ (4 = 2 → 0 ≤ 99)
    omega
def cb (m : Nat) (b : Nat → Nat) (p : Nat) : Int32 := if p < m then nI (b p) else -1
def mb (m : Nat) (b : Nat → Nat) (p : Nat) : Int32 := if p < m then nI (b p) else -4
theorem nI_lit {c k : Nat} (hc : c < 2 ^ 31) (hk : k < 2 ^ 31) : nI c = nI k ↔ c = k := nI_eq hc hk
section TK
variable {G : hz_G} {τ : hz_T} {m : Nat} {b : Nat → Nat} {χ : hz_T → Prop} {φ : Int32 → hz_T → Prop}
theorem sp_cbyte (hT : Tb m b τ) {p : Nat} (hp : p ≤ 120) (H : φ (cb m b p) τ) : zCall G MX8_byteAt [.ref 1, .int (nI p)] τ (zpi φ) := by
  obtain ⟨t1, t2, t3, t4⟩ := hT
  unfold cb at H
  refine C_X8_byteAt _ τ ⟨fun q => (neg_no (by omega) q).elim, fun _ => ?_⟩
  rw [t2, nI_leI (by omega) (by omega), nI_ltJ (by omega) (by decide)]
  refine ⟨fun q => pi_ok ?_, fun q => ⟨fun w => ⟨p, rfl, w, pi_ok ?_⟩, fun w => absurd (by omega) w⟩⟩
  · rw [if_neg (by omega)] at H; exact H
  · rw [if_pos (by omega)] at H
    rw [(t4 p (by omega)).2.1]; exact H
theorem sp_mbyte (hT : Tm m b τ) {p : Nat} (hp : p ≤ 120) (H : φ (mb m b p) τ) : zCall G MX12_byteAt [.ref 29, .int (nI p)] τ (zpi φ) := by
  obtain ⟨t1, t3, -, t4⟩ := hT
  unfold mb at H
  refine C_X12_byteAt _ τ ?_
  rw [t3, nI_leI (by omega) (by omega)]
  refine ⟨fun q => pi_ok ?_, fun q => ⟨p, rfl, by omega, pi_ok ?_⟩⟩
  · rw [if_neg (by omega)] at H; exact H
  · rw [if_pos (by omega)] at H
    rw [(t4 p (by omega)).2]; exact H
theorem cb_eq {p k : Nat} (hb : ∀ j, j < m → b j < 256) (hk : k < 2 ^ 31) : cb m b p = nI k ↔ p < m ∧ b p = k := by
  unfold cb
  by_cases q : p < m
  · have := hb p q
    rw [if_pos q, nI_eq (by omega) hk]
    exact ⟨fun h => ⟨q, h⟩, fun h => h.2⟩
  · rw [if_neg q]
    exact ⟨fun h => absurd h.symm (nI_m1 hk), fun h => absurd h.1 q⟩
theorem mb_eq {p k : Nat} (hb : ∀ j, j < m → b j < 256) (hk : k < 2 ^ 31) : mb m b p = nI k ↔ p < m ∧ b p = k := by
  unfold mb
  by_cases q : p < m
  · have := hb p q
    rw [if_pos q, nI_eq (by omega) hk]
    exact ⟨fun h => ⟨q, h⟩, fun h => h.2⟩
  · rw [if_neg q]
    exact ⟨fun h => absurd h.symm (nI_m4 hk), fun h => absurd h.1 q⟩
theorem cb_end {p : Nat} (hb : ∀ j, j < m → b j < 256) : cb m b p = -1 ↔ ¬ p < m := by
  unfold cb
  by_cases q : p < m
  · have := hb p q
    rw [if_pos q]
    exact ⟨fun h => absurd h (nI_m1 (by omega)), fun h => absurd q h⟩
  · rw [if_neg q]; exact ⟨fun _ => q, fun _ => rfl⟩
theorem mb_end {p : Nat} (hb : ∀ j, j < m → b j < 256) : mb m b p = -4 ↔ ¬ p < m := by
  unfold mb
  by_cases q : p < m
  · have := hb p q
    rw [if_pos q]
    exact ⟨fun h => absurd h (nI_m4 (by omega)), fun h => absurd q h⟩
  · rw [if_neg q]; exact ⟨fun _ => q, fun _ => rfl⟩
theorem cb_int {p : Nat} (hb : ∀ j, j < m → b j < 256) : (cb m b p).toInt = if p < m then (b p : Int) else -1 := by
  unfold cb
  by_cases q : p < m
  · have := hb p q
    rw [if_pos q, if_pos q, nI_toInt (by omega)]
  · rw [if_neg q, if_neg q]; rfl
theorem mb_int {p : Nat} (hb : ∀ j, j < m → b j < 256) : (mb m b p).toInt = if p < m then (b p : Int) else -4 := by
  unfold mb
  by_cases q : p < m
  · have := hb p q
    rw [if_pos q, if_pos q, nI_toInt (by omega)]
  · rw [if_neg q, if_neg q]; rfl
theorem sp_isLetter (hb : ∀ j, j < m → b j < 256) {p : Nat} (H : φ (if p < m ∧ isL (b p) = true then 1 else 0) τ) : zCall G MX4_isLetter [.int (cb m b p)] τ (zpi φ) := by
  refine C_X4_isLetter _ τ (pi_ok ?_)
  have e := cb_int (p := p) hb
  have h1 : cb m b p < (97 : Int32) ↔ (cb m b p).toInt < 97 := Int32.lt_iff_toInt_lt
  have h2 : (122 : Int32) < cb m b p ↔ 122 < (cb m b p).toInt := Int32.lt_iff_toInt_lt
  by_cases q : p < m
  · rw [if_pos q] at e
    by_cases w : isL (b p) = true
    · have := isL_ok w
      rw [if_pos ⟨q, w⟩] at H
      rw [if_neg (fun y => absurd (h1.1 y) (by omega)), if_neg (fun y => absurd (h2.1 y) (by omega))]
      exact H
    · have w2 : ¬ (97 ≤ b p ∧ b p ≤ 122) := fun y => w (decide_eq_true y)
      rw [if_neg (fun y => w y.2)] at H
      by_cases z : cb m b p < (97 : Int32)
      · rw [if_pos z]; exact H
      · have z2 : ¬ (cb m b p).toInt < 97 := fun y => z (h1.2 y)
        rw [if_neg z, if_pos (h2.2 (by omega))]; exact H
  · rw [if_neg q] at e
    rw [if_neg (fun y => q y.1)] at H
    rw [if_pos (h1.2 (by omega))]
    exact H
theorem sp_isFigure (hb : ∀ j, j < m → b j < 256) {p : Nat} (H : φ (if p < m ∧ isF (b p) = true then 1 else 0) τ) : zCall G MX4_isFigure [.int (cb m b p)] τ (zpi φ) := by
  refine C_X4_isFigure _ τ (pi_ok ?_)
  have e := cb_int (p := p) hb
  have h1 : cb m b p < (48 : Int32) ↔ (cb m b p).toInt < 48 := Int32.lt_iff_toInt_lt
  have h2 : (57 : Int32) < cb m b p ↔ 57 < (cb m b p).toInt := Int32.lt_iff_toInt_lt
  by_cases q : p < m
  · rw [if_pos q] at e
    by_cases w : isF (b p) = true
    · have := isF_ok w
      rw [if_pos ⟨q, w⟩] at H
      rw [if_neg (fun y => absurd (h1.1 y) (by omega)), if_neg (fun y => absurd (h2.1 y) (by omega))]
      exact H
    · have w2 : ¬ (48 ≤ b p ∧ b p ≤ 57) := fun y => w (decide_eq_true y)
      rw [if_neg (fun y => w y.2)] at H
      by_cases z : cb m b p < (48 : Int32)
      · rw [if_pos z]; exact H
      · have z2 : ¬ (cb m b p).toInt < 48 := fun y => z (h1.2 y)
        rw [if_neg z, if_pos (h2.2 (by omega))]; exact H
  · rw [if_neg q] at e
    rw [if_neg (fun y => q y.1)] at H
    rw [if_pos (h1.2 (by omega))]
    exact H
theorem t97L : (97 : Int64).toInt = 97 := by decide
theorem t122L : (122 : Int64).toInt = 122 := by decide
theorem t48L : (48 : Int64).toInt = 48 := by decide
theorem t57L : (57 : Int64).toInt = 57 := by decide
theorem in_L (hb : ∀ j, j < m → b j < 256) {p : Nat} : ((97 : Int64).toInt ≤ (mb m b p).toInt64.toInt ∧ (mb m b p).toInt64.toInt ≤ (122 : Int64).toInt) ↔ (p < m ∧ isL (b p) = true) := by
  rw [t97L, t122L, i64, mb_int hb]
  by_cases q : p < m
  · rw [if_pos q]
    constructor
    · intro h; exact ⟨q, decide_eq_true (by omega)⟩
    · intro h; have := isL_ok h.2; omega
  · rw [if_neg q]
    exact ⟨fun h => absurd h.1 (by decide), fun h => absurd h.1 q⟩
theorem in_F (hb : ∀ j, j < m → b j < 256) {p : Nat} : ((48 : Int64).toInt ≤ (mb m b p).toInt64.toInt ∧ (mb m b p).toInt64.toInt ≤ (57 : Int64).toInt) ↔ (p < m ∧ isF (b p) = true) := by
  rw [t48L, t57L, i64, mb_int hb]
  by_cases q : p < m
  · rw [if_pos q]
    constructor
    · intro h; exact ⟨q, decide_eq_true (by omega)⟩
    · intro h; have := isF_ok h.2; omega
  · rw [if_neg q]
    exact ⟨fun h => absurd h.1 (by decide), fun h => absurd h.1 q⟩
theorem Tb.sm {K : List Nat} {τ' : hz_T} (h : Tb m b τ) (hs : Sm K τ τ') (h1 : 1 ∉ K) (h2 : 2 ∉ K) (h32 : 32 ∉ K) (h3 : τ'.1.1 29 3 = τ.1.1 29 3) : Tb m b τ' := by
  unfold Tb
  rw [(hs 1 h1).1, (hs 2 h2).1, (hs 32 h32).1, h3]
  exact h
end TK

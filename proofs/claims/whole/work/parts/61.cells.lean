/-! hops between two states of the rim -/
def lz (x : Nat) : Nat := ((List.range 8).find? (fun i => x.testBit i)).getD 32
def hb : Nat → Nat → Nat → Nat → Option Nat
  | 0, _, _, h => some h
  | n + 1, f, t, h => if f = 0 then some h else if lz f ≤ lz t then hb n (f &&& (f - 1)) (t &&& (t - 1)) (h + (lz t - lz f)) else none
def hbv (o : Option Nat) : Int32 := match o with | some h => nI h | none => -4
def wsI (s : Nat) : Nat → Nat
  | 0 => 0
  | k + 1 => wsI s k + (if s.testBit k = true then k else 0)
theorem tb_lz : ∀ x, x < 256 → ntzf (nI x) = nI (lz x) ∧ nI x &&& (nI x - (1 : Int32)) = nI (x &&& (x - 1)) ∧ x &&& (x - 1) < 256 ∧ lz x ≤ 32 := by decide +kernel
theorem hb_s (n f t h : Nat) : hb (n + 1) f t h = if f = 0 then some h else if lz f ≤ lz t then hb n (f &&& (f - 1)) (t &&& (t - 1)) (h + (lz t - lz f)) else none := rfl
section CE
variable {G : hz_G} {τ : hz_T} {φ : Int32 → hz_T → Prop}
theorem way_le {a b : Nat} (ha : a ≤ 32) (hb : b ≤ 32) : (0 : Int32) ≤ nI b - nI a ↔ a ≤ b := by
  rw [Int32.le_iff_toInt_le, pk_sub_toInt (by omega) (by omega), t0']; omega
theorem sp_hopsBetween {s t : Nat} (hs : s < 256) (ht : t < 256) (H : φ (if ppop s = ppop t then hbv (hb 8 s t 0) else -4) τ) : zCall G MX2_hopsBetween [.int (nI s), .int (nI t)] τ (zpi φ) := by
  refine C_X2_hopsBetween _ _ τ (sp_bc (sp_bc ?_))
  have p1 := ppop_le s
  have p2 := ppop_le t
  rw [bcf_eq (by omega), bcf_eq (by omega), nI_eq (by omega) (by omega)]
  refine ⟨fun q => ?_, fun q => pi_ok ?_⟩
  · rw [if_pos q] at H
    have key : ∀ m i f t h, i + m = 8 → f < 256 → t < 256 → φ (hbv (hb m f t h)) τ → zRun G MX2_hopsBetween 24 [(2, .int (nI h)), (3, .int (nI f)), (4, .int (nI t)), (5, .int (nI i))] [] τ (zpi φ) := by
      intro m
      induction m with
      | zero =>
        intro i f t h e hf ht K
        have e : i = 8 := by omega
        subst e
        exact V_X2_hopsBetween_24 _ _ _ _ τ ⟨fun _ => pi_ok K, fun q => absurd (show nI 8 ≤ nI 8 from nI_le (Nat.le_refl _) (by decide)) q⟩
      | succ m ih =>
        intro i f t h e hf ht K
        obtain ⟨a1, a2, a3, a4⟩ := tb_lz f hf
        obtain ⟨b1, b2, b3, b4⟩ := tb_lz t ht
        rw [hb_s] at K
        refine V_X2_hopsBetween_24 _ _ _ _ τ ⟨fun q => absurd (show nI 8 ≤ nI i from q) (nI_ge (by omega) (by decide)), fun _ => ⟨fun z => pi_ok ?_, fun z => sp_ntz (sp_ntz ?_)⟩⟩
        · rw [← nI_0, nI_eq (by omega) (by decide)] at z
          rw [if_pos z] at K
          exact K
        · rw [← nI_0, nI_eq (by omega) (by decide)] at z
          rw [if_neg z] at K
          rw [a1, b1, way_le a4 b4, i1]
          refine ⟨fun w => ?_, fun w => pi_ok ?_⟩
          · rw [if_pos w] at K
            rw [pk_sub w, nI_add, a2, b2]
            exact ih (i + 1) _ _ _ (by omega) a3 b3 K
          · rw [if_neg w] at K
            exact K
    exact key 8 0 s t 0 rfl hs ht H
  · rw [if_neg q] at H
    exact H
theorem sp_weightSum {s : Nat} (hs : s < 256) (H : φ (nI (wsI s 8)) τ) : zCall G MX12_weightSum [.int (nI s)] τ (zpi φ) := by
  refine C_X12_weightSum _ τ ?_
  have key : ∀ m k, k + m = 8 → zRun G MX12_weightSum 4 [(0, .int (nI s)), (1, .int (nI (wsI s k))), (2, .int (nI k))] [] τ (zpi φ) := by
    intro m
    induction m with
    | zero =>
      intro k e
      have e : k = 8 := by omega
      subst e
      exact V_X12_weightSum_4 _ _ _ τ ⟨fun _ => pi_ok H, fun q => absurd (show nI 8 ≤ nI 8 from nI_le (Nat.le_refl _) (by decide)) q⟩
    | succ m ih =>
      intro k e
      have h := ih (k + 1) (by omega)
      have es : wsI s (k + 1) = wsI s k + (if s.testBit k = true then k else 0) := rfl
      rw [es, ← nI_add] at h
      refine V_X12_weightSum_4 _ _ _ τ ⟨fun q => absurd (show nI 8 ≤ nI k from q) (nI_ge (by omega) (by decide)), fun _ x hx => ?_⟩
      rw [hx, has_bit (by omega) (by omega), i1]
      by_cases q : s.testBit k = true
      · rw [if_pos q] at h
        rw [if_pos (bit_if.2 q)]; exact h
      · rw [if_neg q, nI_0] at h
        rw [if_neg (fun z => q (bit_if.1 z))]; exact h
  exact key 8 0 rfl
end CE
/-! the numbers of orders, as natural numbers -/
def oN (s : Nat) : Nat → Nat → Nat
  | 0, y => if y = s then 1 else 0
  | k + 1, y => oN s k y + (if oW k 7 y = true then oN s k k else 0)
theorem oM_N {s : Nat} : ∀ k y, oM s k y = lN (oN s k y) := by
  intro k
  induction k with
  | zero =>
    intro y
    show (if y = s then (1 : Int64) else 0) = lN (if y = s then 1 else 0)
    by_cases h : y = s
    · rw [if_pos h, if_pos h]; rfl
    · rw [if_neg h, if_neg h]; rfl
  | succ k ih =>
    intro y
    show oM s k y + (if oW k 7 y = true then oM s k k else 0) = lN (oN s k y + (if oW k 7 y = true then oN s k k else 0))
    have ea : ∀ a b : Nat, lN (a + b) = lN a + lN b := fun a b => Int64.ofNat_add a b
    rw [ea, ih, ih]
    by_cases h : oW k 7 y = true
    · rw [if_pos h, if_pos h]
    · rw [if_neg h, if_neg h]; rfl

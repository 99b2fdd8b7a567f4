theorem idx_inj {k m s t : Nat} (hs : s < 2 ^ k) (ht : t < 2 ^ m) (h : 2 ^ k + s = 2 ^ m + t) : k = m ∧ s = t := by
  rcases Nat.lt_trichotomy k m with hk | hk | hk
  · have := Nat.pow_le_pow_right (n := 2) (by decide) (show k + 1 ≤ m from hk)
    rw [Nat.pow_succ] at this
    omega
  · subst hk
    exact ⟨rfl, by omega⟩
  · have := Nat.pow_le_pow_right (n := 2) (by decide) (show m + 1 ≤ k from hk)
    rw [Nat.pow_succ] at this
    omega
theorem LC.sm {K : List Nat} {v : Nat → Nat} {τ τ' : hz_T} (hL : LC v τ) (h : Sm K τ τ') (hK : 4 ∉ K) : LC v τ' := ⟨hL.1, fun j hj => by rw [(h 4 hK).1]; exact hL.2 j hj⟩
theorem LM.sm {K : List Nat} {v : Nat → Nat} {τ τ' : hz_T} (hL : LM v τ) (h : Sm K τ τ') (hK : 30 ∉ K) : LM v τ' := ⟨hL.1, fun j hj => by rw [(h 30 hK).1]; exact hL.2 j hj⟩
def pswS (f : Nat → Int64) (g : Nat) : Nat → Int64
  | 0 => 0
  | k + 1 => if k &&& g = g then pswS f g k + f k else pswS f g k
section WP
variable {G : hz_G} {τ : hz_T} {v : Nat → Nat} {χ : hz_T → Prop} {φ : Int32 → hz_T → Prop} {ψ : Int64 → hz_T → Prop}
theorem wrow_put {a b : Int64} {q m : Nat} {τ τ' : hz_T} (hw : wrow a b q m τ) (hs : ∀ s, s < 2 ^ m → τ'.1.2 q (2 ^ m + s) = pwor a b m s) (ho : ∀ k s, k < m → s < 2 ^ k → τ'.1.2 q (2 ^ k + s) = τ.1.2 q (2 ^ k + s)) : wrow a b q (m + 1) τ' := by
  intro k s hk hs'
  by_cases e : k = m
  · subst e; exact hs s hs'
  · rw [ho k s (by omega) hs']
    exact hw k s (by omega) hs'
theorem sp_find (hL : LC v τ) (hW : I_words v τ) (H : ∀ τ', Sm [16, 17] τ τ' → I_words v τ' → wrow (lN (v 4)) (lN (v 6)) 17 (v 0 + 1) τ' → χ τ') : zCall G MX10_find [.ref 16] τ (zpv χ) := by
  have hn := hL.1.n
  refine C_X10_find τ ⟨fun h0 => ?_, fun h0 => pv_ok ?_⟩
  rotate_left
  · rcases hW with h | h
    · exact absurd h h0
    · exact H τ Sm.rf (Or.inr h) (fun k s hk hs => h.2 k s (by omega) hs)
  refine lp (α := Unit) (fun i _ τ' => zRun G MX10_find 15 [(0, .ref 16), (1, .int (nI i))] [] τ' (zpv χ)) (fun i _ τ' => Sm [16, 17] τ τ' ∧ τ'.1.1 16 2 = 1 ∧ wrow (lN (v 4)) (lN (v 6)) 17 i τ') (v 0 + 1) ?_ ?_ 0 () _ (Nat.zero_le _) ⟨Sm.rf.I (by decide), rfl, fun k s hk => by omega⟩
  · intro _ τ' h
    refine V_X10_find_15 _ τ' (sp_cplaces (hL.sm h.1 (by decide)) ⟨fun _ => pv_ok (H τ' h.1 (Or.inr ⟨h.2.1, fun m s hm hs => h.2.2 m s (by omega) hs⟩) h.2.2), fun q => absurd (nI_lt (by omega) (by omega)) q⟩)
  · intro i _ τ1 hi h ih
    refine V_X10_find_15 _ τ1 (sp_cplaces (hL.sm h.1 (by decide)) ⟨fun q => absurd q (nI_nlt (by omega) (by omega)), fun _ => ?_⟩)
    refine lp (α := Unit) (fun s _ τ' => zRun G MX10_find 28 [(0, .ref 16), (1, .int (nI i)), (2, .int (nI s))] [] τ' (zpv χ)) (fun s _ τ' => Sm [16, 17] τ τ' ∧ τ'.1.1 16 2 = 1 ∧ wrow (lN (v 4)) (lN (v 6)) 17 i τ' ∧ ∀ t, t < s → τ'.1.2 17 (2 ^ i + t) = pwor (lN (v 4)) (lN (v 6)) i t) (2 ^ i) ?_ ?_ 0 () _ (Nat.zero_le _) ⟨h.1, h.2.1, h.2.2, fun t ht => by omega⟩
    · intro _ τ' g
      have hp := pw64 (n := i) (by omega)
      refine V_X10_find_28 _ _ τ' ?_
      rw [pw_small i (by omega)]
      refine ⟨fun _ => ?_, fun q => absurd (nI_le (Nat.le_refl _) (by omega)) q⟩
      rw [i1]
      exact ih () τ' ⟨g.1, g.2.1, wrow_put g.2.2.1 g.2.2.2 (fun k s _ _ => rfl)⟩
    · intro s _ τ' hs g ih2
      have hp := pw64 (n := i) (by omega)
      obtain ⟨t1, -, t3⟩ := tb_ix i (by omega) s hs
      refine V_X10_find_28 _ _ τ' ?_
      rw [t1, pw_small i (by omega)]
      refine ⟨fun q => absurd q (nI_ge hs (by omega)), fun _ => ⟨fun q => absurd q (nI_ge t3 (by decide)), fun _ => ?_⟩⟩
      refine sp_fromShorter (hL.sm g.1 (by decide)) (by omega) hs g.2.2.1 ⟨2 ^ i + s, rfl, t3, ?_⟩
      rw [i1]
      refine ih2 () _ ⟨g.1.L (by decide), g.2.1, fun k s' hk hs' => ?_, fun t ht => ?_⟩
      · rw [zL_at, if_neg (fun q => by have := (idx_inj hs' hs q.2).1; omega)]
        exact g.2.2.1 k s' hk hs'
      · rw [zL_at]
        by_cases e : t = s
        · rw [if_pos ⟨rfl, by rw [e]⟩, e]
        · rw [if_neg (fun q => e (by have := q.2; omega))]
          exact g.2.2.2 t (by omega)
theorem sp_csum (hL : LC v τ) (hW : I_words v τ) {m g : Nat} (hm : m ≤ v 0) (hg : g < 64) (H : ∀ τ', Sm [16, 17] τ τ' → I_words v τ' → ψ (pswS (pwor (lN (v 4)) (lN (v 6)) m) g (2 ^ m)) τ') : zCall G MX10_sum [.ref 16, .int (nI m), .int (nI g)] τ (zpl ψ) := by
  have hn := hL.1.n
  have hp := pw64 (n := m) (by omega)
  refine C_X10_sum _ _ τ (sp_find hL hW (fun τ1 s1 s2 s3 => ?_))
  refine lp (α := Unit) (fun s _ τ' => zRun G MX10_sum 9 [(0, .ref 16), (1, .int (nI m)), (2, .int (nI g)), (3, .long (pswS (pwor (lN (v 4)) (lN (v 6)) m) g s)), (5, .int (nI s))] [] τ' (zpl ψ)) (fun s _ τ' => τ' = τ1) (2 ^ m) ?_ ?_ 0 () _ (Nat.zero_le _) rfl
  · intro _ τ' e
    rw [e]
    refine V_X10_sum_9 _ _ _ _ τ1 ?_
    rw [pw_small m (by omega)]
    exact ⟨fun _ => pl_ok (H τ1 s1 s2), fun q => absurd (nI_le (Nat.le_refl _) (by omega)) q⟩
  · intro s _ τ' hs e ih
    rw [e]
    have heq : nI s &&& nI g = nI g ↔ s &&& g = g := by
      rw [nx_and, nI_eq (Nat.lt_of_le_of_lt Nat.and_le_left (by omega)) (by omega)]
    refine V_X10_sum_9 _ _ _ _ τ1 ?_
    rw [pw_small m (by omega)]
    refine ⟨fun q => absurd q (nI_ge hs (by omega)), fun _ => ⟨fun q => ?_, fun q => sp_at (by omega) hs ?_⟩⟩
    · rw [i1]
      have := ih () τ1 rfl
      unfold pswS at this
      rw [if_neg (fun z => q (heq.mpr z))] at this
      exact this
    · rw [i1, s3 m s (by omega) hs]
      have := ih () τ1 rfl
      unfold pswS at this
      rw [if_pos (heq.mp q)] at this
      exact this
theorem sp_worthOf (hL : LC v τ) (hW : I_words v τ) {s : Nat} (hs : s < 2 ^ v 0) (H : ∀ τ', Sm [16, 17] τ τ' → I_words v τ' → ψ (pwor (lN (v 4)) (lN (v 6)) (v 0) s) τ') : zCall G MX10_worthOf [.ref 16, .int (nI s)] τ (zpl ψ) := by
  have hn := hL.1.n
  refine C_X10_worthOf _ τ (sp_find hL hW (fun τ1 s1 s2 s3 => sp_cplaces (hL.sm s1 (by decide)) (sp_at (by omega) hs (pl_ok ?_))))
  rw [s3 (v 0) s (by omega) hs]
  exact H τ1 s1 s2
/-! the reference's worths -/
theorem pfst_none {m s : Nat} : pfst m s = none ↔ ∀ i, i + 1 < m → ¬ (s.testBit i = true ∧ s.testBit (i + 1) = false) := by
  unfold pfst
  rw [List.find?_eq_none]
  constructor
  · intro h i hi q
    have := h i (List.mem_range.mpr (by omega))
    simp [q.1, q.2] at this
  · intro h i hi
    have hi := List.mem_range.mp hi
    have := h i (by omega)
    simp only [Bool.and_eq_true, Bool.not_eq_true', not_and, Bool.not_eq_false]
    intro q
    cases hb : s.testBit (i + 1) with
    | true => rfl
    | false => exact absurd ⟨q, hb⟩ this
theorem pfst_some {m s i : Nat} (hi : i + 1 < m) (hb : ∀ j, j < i → ¬ (s.testBit j = true ∧ s.testBit (j + 1) = false)) (h : s.testBit i = true ∧ s.testBit (i + 1) = false) : pfst m s = some i := by
  unfold pfst
  rw [List.find?_range_eq_some]
  refine ⟨by simp [h.1, h.2], List.mem_range.mpr (by omega), fun j hj => ?_⟩
  have := hb j hj
  cases h1 : s.testBit j with
  | false => rfl
  | true =>
    cases h2 : s.testBit (j + 1) with
    | true => rfl
    | false => exact absurd ⟨h1, h2⟩ this
end WP

/-! the parts -/
theorem pset_s (m : Nat) (p : Nat → Bool) : pset (m + 1) p = if p m = true then pset m p ||| 1 <<< m else pset m p := foldl_rs _ _ _
theorem pset_lt (p : Nat → Bool) : ∀ m, pset m p < 2 ^ m := by
  intro m
  induction m with
  | zero => exact Nat.one_pos
  | succ m ih =>
    have h1 : 2 ^ m < 2 ^ (m + 1) := Nat.pow_lt_pow_right (by decide) (by omega)
    rw [pset_s]
    split
    · refine Nat.or_lt_two_pow (by omega) ?_
      rw [Nat.one_shiftLeft]; exact h1
    · omega
theorem pset_bit (p : Nat → Bool) (j : Nat) : ∀ m, (pset m p).testBit j = (decide (j < m) && p j) := by
  intro m
  induction m with
  | zero => rw [decide_eq_false (by omega), Bool.false_and]; exact Nat.zero_testBit _
  | succ m ih =>
    rw [pset_s]
    by_cases q : j = m
    · subst q
      rw [decide_eq_true (show j < j + 1 by omega), Bool.true_and]
      by_cases w : p j = true
      · rw [if_pos w, Nat.testBit_or, Nat.one_shiftLeft, Nat.testBit_two_pow_self, Bool.or_true, w]
      · rw [if_neg w, ih, decide_eq_false (by omega), Bool.false_and, (Bool.not_eq_true _).mp w]
    · have e2 : decide (j < m + 1) = decide (j < m) := by
        by_cases z : j < m
        · rw [decide_eq_true z, decide_eq_true (show j < m + 1 by omega)]
        · rw [decide_eq_false z, decide_eq_false (show ¬ j < m + 1 by omega)]
      rw [e2, ← ih]
      split
      · rw [Nat.testBit_or, Nat.one_shiftLeft, Nat.testBit_two_pow, decide_eq_false (by omega), Bool.or_false]
      · rfl
theorem pset_z {p : Nat → Bool} : ∀ m, (∀ i, i < m → p i = false) → pset m p = 0 := by
  intro m
  induction m with
  | zero => intro _; rfl
  | succ m ih => intro h; rw [pset_s, if_neg (by rw [h m (by omega)]; decide)]; exact ih (fun i hi => h i (by omega))
def pq (v : Nat → Nat) (s u : Nat) : Bool := decide (preach v u = preach v s)
theorem ppart_q (v : Nat → Nat) (s : Nat) : ppart v s = pset (2 ^ v 0) (pq v s) := rfl
theorem ppart_lt (v : Nat → Nat) (s : Nat) : ppart v s < 2 ^ (2 ^ v 0) := by rw [ppart_q]; exact pset_lt _ _
theorem ppart_64 {v : Nat → Nat} (h : LaneOK v) (s : Nat) : ppart v s < 2 ^ 64 := Nat.lt_of_lt_of_le (ppart_lt v s) (pp64 h.n.2)
theorem ppart_bit (v : Nat → Nat) (s j : Nat) : (ppart v s).testBit j = (decide (j < 2 ^ v 0) && pq v s j) := by rw [ppart_q]; exact pset_bit _ _ _
theorem ppart_cg {v : Nat → Nat} {s t : Nat} (h : preach v t = preach v s) : ppart v t = ppart v s := by unfold ppart; rw [h]
theorem ppart_self {v : Nat → Nat} {s : Nat} (hs : s < 2 ^ v 0) : (ppart v s).testBit s = true := by
  rw [ppart_bit, decide_eq_true hs, Bool.true_and]
  exact decide_eq_true rfl
theorem ppart_ne {v : Nat → Nat} {s : Nat} (hs : s < 2 ^ v 0) : ¬ ppart v s = 0 := by
  intro h
  have := ppart_self hs
  rw [h, Nat.zero_testBit] at this
  exact Bool.noConfusion this
def PR (v : Nat → Nat) (τ : hz_T) : Prop := τ.1.1 7 3 = 1 ∧ ∀ s, s < 2 ^ v 0 → τ.1.2 8 s = lN (preach v s) ∧ τ.1.2 9 s = lN (ppart v s)
theorem PR.sm {K : List Nat} {v : Nat → Nat} {τ τ' : hz_T} (h : PR v τ) (hs : Sm K τ τ') (h7 : 7 ∉ K) (h8 : 8 ∉ K) (h9 : 9 ∉ K) : PR v τ' := by
  unfold PR
  rw [(hs 7 h7).1, (hs 8 h8).2, (hs 9 h9).2]
  exact h
theorem InvV.p {v : Nat → Nat} {τ τ' : hz_T} (h : InvV v τ) (hs : Sm [7, 8, 9] τ τ') (hw : I_parts v τ') : InvV v τ' := by
  obtain ⟨a1, a2, a3, a4, a5, a6, a7, a8⟩ := h
  have f : ∀ q, q ∉ [7, 8, 9] → τ'.1.1 q = τ.1.1 q := fun q hq => (hs q hq).1
  have g : ∀ q, q ∉ [7, 8, 9] → τ'.1.2 q = τ.1.2 q := fun q hq => (hs q hq).2
  refine ⟨a1.fr (f 4 (by decide)) (f 30 (by decide)), a2.fr (f 1 (by decide)) (f 2 (by decide)) (by rw [f 29 (by decide)]) (f 32 (by decide)), ?_, fun k hk => (a4 k hk).fr (f 26 (by decide)) (f 27 (by decide)) (f 28 (by decide)) (f 46 (by decide)) (f 47 (by decide)) (f 48 (by decide)), a5.fr (f 33 (by decide)) (f 34 (by decide)), hw, ?_, a8.fr (f 16 (by decide)) (g 17 (by decide))⟩
  · unfold I_fault at a3 ⊢
    rw [f 5 (by decide), f 29 (by decide)]
    exact a3
  · exact a7.fr (by rw [f 10 (by decide)]) (by rw [g 10 (by decide)]) (by rw [g 10 (by decide)]) (f 11 (by decide)) (g 12 (by decide)) (g 13 (by decide))
theorem lg0 {P : Nat} (h : P < 2 ^ 64) : lg_cmp (lN P) (0 : Int64) = 0 ↔ P = 0 := by
  rw [lgc_eq]
  exact lN_inj h (by decide)
section PA
variable {G : hz_G} {τ : hz_T} {v : Nat → Nat} {χ : hz_T → Prop} {φ : Int32 → hz_T → Prop} {ψ : Int64 → hz_T → Prop} {ρ : Nat → hz_T → Prop}
theorem sp_spread (hK : LaneOK v) (hR : ∀ a, a < 2 ^ v 0 → τ.1.2 8 a = lN (preach v a)) {s : Nat} (hs : s < 2 ^ v 0) (hno : ∀ u, u < s → ¬ preach v u = preach v s) (H : ∀ τ', Sm [9] τ τ' → (∀ a, a < 2 ^ v 0 → τ'.1.2 9 a = if preach v a = preach v s then lN (ppart v s) else τ.1.2 9 a) → χ τ') : zCall G MX3_spreadPart [.ref 7, .int (nI s), .int (nI (2 ^ v 0))] τ (zpv χ) := by
  have hp := pw64 hK.n.2
  have h64 := pp64 hK.n.2
  refine C_X3_spreadPart _ _ τ ?_
  have second : ∀ m t τ1, t + m = 2 ^ v 0 → s ≤ t → Sm [9] τ τ1 → (∀ a, a < 2 ^ v 0 → τ1.1.2 9 a = if a < t ∧ preach v a = preach v s then lN (ppart v s) else τ.1.2 9 a) → zRun G MX3_spreadPart 44 [(0, .ref 7), (2, .int (nI (2 ^ v 0))), (3, .long (lN (ppart v s))), (5, .int (nI t))] [] τ1 (zpv χ) := by
    intro m
    induction m with
    | zero =>
      intro t τ1 e hst g1 g2
      have e : t = 2 ^ v 0 := by omega
      subst e
      refine V_X3_spreadPart_44 _ _ _ τ1 ⟨fun _ => pv_ok (H τ1 g1 (fun a ha => ?_)), fun q => absurd (nI_le (Nat.le_refl _) (by omega)) q⟩
      rw [g2 a ha]
      by_cases w : preach v a = preach v s
      · rw [if_pos ⟨ha, w⟩, if_pos w]
      · rw [if_neg (fun y => w y.2), if_neg w]
    | succ m ih =>
      intro t τ1 e hst g1 g2
      have ht : t < 2 ^ v 0 := by omega
      have hb : (ppart v s).testBit t = true ↔ preach v t = preach v s := by
        rw [ppart_bit, decide_eq_true ht, Bool.true_and]
        exact decide_eq_true_iff
      refine V_X3_spreadPart_44 _ _ _ τ1 ⟨fun q => absurd q (nI_ge (by omega) (by omega)), fun _ => ?_⟩
      rw [i1, cbit (ppart_64 hK s) (by omega), lb1, hb]
      refine ⟨fun q => ih (t + 1) τ1 (by omega) (by omega) g1 (fun a ha => ?_), fun q => ⟨t, rfl, by omega, ih (t + 1) _ (by omega) (by omega) (g1.L (by decide)) (fun a ha => ?_)⟩⟩
      · rw [g2 a ha]
        by_cases w : a < t ∧ preach v a = preach v s
        · rw [if_pos w, if_pos ⟨by omega, w.2⟩]
        · rw [if_neg w, if_neg (fun y => w ⟨by
            rcases Nat.lt_or_ge a t with z | z
            · exact z
            · have : a = t := by omega
              subst this
              exact absurd y.2 q, y.2⟩)]
      · rw [zL_at]
        by_cases w : a = t
        · rw [if_pos ⟨rfl, w⟩, if_pos ⟨by omega, by rw [w]; exact q⟩]
        · rw [if_neg (fun y => w y.2), g2 a ha]
          by_cases z : a < t ∧ preach v a = preach v s
          · rw [if_pos z, if_pos ⟨by omega, z.2⟩]
          · rw [if_neg z, if_neg (fun y => z ⟨by omega, y.2⟩)]
  have first : ∀ m t, t + m = 2 ^ v 0 → s ≤ t → zRun G MX3_spreadPart 5 [(0, .ref 7), (1, .int (nI s)), (2, .int (nI (2 ^ v 0))), (3, .long (lN (pset t (pq v s)))), (5, .int (nI t))] [] τ (zpv χ) := by
    intro m
    induction m with
    | zero =>
      intro t e hst
      have e : t = 2 ^ v 0 := by omega
      subst e
      refine V_X3_spreadPart_5 _ _ _ _ τ ⟨fun _ => ?_, fun q => absurd (nI_le (Nat.le_refl _) (by omega)) q⟩
      refine second (2 ^ v 0 - s) s τ (by omega) (Nat.le_refl _) Sm.rf (fun a ha => ?_)
      rw [if_neg (fun y => hno a y.1 y.2)]
    | succ m ih =>
      intro t e hst
      have ht : t < 2 ^ v 0 := by omega
      have h := ih (t + 1) (by omega) (by omega)
      have hb : pset t (pq v s) < 2 ^ 64 := Nat.lt_of_lt_of_le (pset_lt _ t) (Nat.pow_le_pow_right (by decide) (by omega))
      refine V_X3_spreadPart_5 _ _ _ _ τ ⟨fun q => absurd q (nI_ge (by omega) (by omega)), fun _ => ⟨t, rfl, by omega, s, rfl, by omega, ?_⟩⟩
      rw [pset_s] at h
      rw [i1, hR t ht, hR s hs]
      by_cases w : preach v t = preach v s
      · rw [if_pos (show pq v s t = true from decide_eq_true w)] at h
        rw [if_pos (lgc_eq.2 (by rw [w])), one_l (by omega), wb_or hb (sh64 (by omega))]
        exact h
      · rw [if_neg (by rw [show pq v s t = false from decide_eq_false w]; decide)] at h
        rw [if_neg (fun y => w ((lN_inj (preach_64 hK ht) (preach_64 hK hs)).1 (lgc_eq.1 y)))]
        exact h
  have h0 : pset s (pq v s) = 0 := pset_z s (fun i hi => decide_eq_false (hno i hi))
  have h := first (2 ^ v 0 - s) s (by omega) (Nat.le_refl _)
  rw [h0] at h
  exact h
theorem sp_findParts (hL : LC v τ) (hR : ∀ a, a < 2 ^ v 0 → τ.1.2 8 a = lN (preach v a)) (H : ∀ τ', Sm [9] τ τ' → (∀ a, a < 2 ^ v 0 → τ'.1.2 9 a = lN (ppart v a)) → χ τ') : zCall G MX3_findParts [.ref 7] τ (zpv χ) := by
  have hn := hL.1.n
  have hp := pw64 hn.2
  refine C_X3_findParts τ (sp_cstates hL (fun x hx => ?_))
  rw [min64 hn.2] at hx
  subst hx
  have outer : ∀ m k τ1, k + m = 2 ^ v 0 → Sm [9] τ τ1 → (∀ a, a < 2 ^ v 0 → (∀ u, u < k → preach v u = preach v a → τ1.1.2 9 a = lN (ppart v a)) ∧ ((∀ u, u < k → ¬ preach v u = preach v a) → τ1.1.2 9 a = 0)) → zRun G MX3_findParts 38 [(0, .ref 7), (1, .int (nI (2 ^ v 0))), (2, .int (nI k))] [] τ1 (zpv χ) := by
    intro m
    induction m with
    | zero =>
      intro k τ1 e g1 g2
      have e : k = 2 ^ v 0 := by omega
      subst e
      exact V_X3_findParts_38 _ _ τ1 ⟨fun _ => pv_ok (H τ1 g1 (fun a ha => (g2 a ha).1 a ha rfl)), fun q => absurd (nI_le (Nat.le_refl _) (by omega)) q⟩
    | succ m ih =>
      intro k τ1 e g1 g2
      have hk : k < 2 ^ v 0 := by omega
      refine V_X3_findParts_38 _ _ τ1 ⟨fun q => absurd q (nI_ge (by omega) (by omega)), fun _ => ⟨k, rfl, by omega, ?_⟩⟩
      rw [i1]
      by_cases hz : ∃ u, u < k ∧ preach v u = preach v k
      · obtain ⟨u, hu, hue⟩ := hz
        rw [(g2 k hk).1 u hu hue, lg0 (ppart_64 hL.1 k)]
        refine ⟨fun _ => ih (k + 1) τ1 (by omega) g1 (fun a ha => ⟨fun w hw he => ?_, fun hw => ?_⟩), fun q => absurd q (ppart_ne hk)⟩
        · rcases Nat.lt_or_ge w k with z | z
          · exact (g2 a ha).1 w z he
          · have : w = k := by omega
            subst this
            exact (g2 a ha).1 u hu (hue.trans he)
        · exact (g2 a ha).2 (fun w hw2 => hw w (by omega))
      · have hno : ∀ u, u < k → ¬ preach v u = preach v k := fun u hu he => hz ⟨u, hu, he⟩
        rw [(g2 k hk).2 hno]
        refine ⟨fun q => absurd (lgc_eq.2 rfl) q, fun _ => ?_⟩
        have hR1 : ∀ a, a < 2 ^ v 0 → τ1.1.2 8 a = lN (preach v a) := fun a ha => by rw [(g1 8 (by decide)).2]; exact hR a ha
        refine sp_spread hL.1 hR1 hk hno (fun τ2 g3 g4 => ih (k + 1) τ2 (by omega) (g1.tr g3) (fun a ha => ⟨fun w hw he => ?_, fun hw => ?_⟩))
        · rw [g4 a ha]
          by_cases z : preach v a = preach v k
          · rw [if_pos z, ppart_cg z]
          · rw [if_neg z]
            have : w < k := by
              rcases Nat.lt_or_ge w k with y | y
              · exact y
              · have : w = k := by omega
                subst this
                exact absurd he.symm z
            exact (g2 a ha).1 w this he
        · rw [g4 a ha, if_neg (fun z => hw k (by omega) z.symm)]
          exact (g2 a ha).2 (fun w hw2 => hw w (by omega))
  have first : ∀ m k τ1, k + m = 2 ^ v 0 → Sm [9] τ τ1 → (∀ a, a < k → τ1.1.2 9 a = 0) → zRun G MX3_findParts 18 [(0, .ref 7), (1, .int (nI (2 ^ v 0))), (2, .int (nI k))] [] τ1 (zpv χ) := by
    intro m
    induction m with
    | zero =>
      intro k τ1 e g1 g2
      have e : k = 2 ^ v 0 := by omega
      subst e
      exact V_X3_findParts_18 _ _ τ1 ⟨fun _ => outer (2 ^ v 0) 0 τ1 (by omega) g1 (fun a ha => ⟨fun u hu => absurd hu (by omega), fun _ => g2 a ha⟩), fun q => absurd (nI_le (Nat.le_refl _) (by omega)) q⟩
    | succ m ih =>
      intro k τ1 e g1 g2
      refine V_X3_findParts_18 _ _ τ1 ⟨fun q => absurd q (nI_ge (by omega) (by omega)), fun _ => ⟨k, rfl, by omega, ?_⟩⟩
      rw [i1]
      refine ih (k + 1) _ (by omega) (g1.L (by decide)) (fun a ha => ?_)
      rw [zL_at]
      by_cases w : a = k
      · rw [if_pos ⟨rfl, w⟩]
      · rw [if_neg (fun y => w y.2)]
        exact g2 a (by omega)
  exact first (2 ^ v 0) 0 τ (by omega) Sm.rf (fun a ha => absurd ha (by omega))
theorem sp_ready3 (hv : InvV v τ) (H : ∀ τ', Sm [7, 8, 9] τ τ' → InvV v τ' → PR v τ' → ρ 7 τ') : zCall G MX3_ready [.ref 7] τ (zpr ρ) := by
  refine C_X3_ready τ ⟨fun q => pr_ok ?_, fun q => ?_⟩
  · rcases hv.2.2.2.2.2.1 with h | h
    · exact absurd h q
    · exact H τ Sm.rf hv h
  · have hC := hv.1.c
    have s0 : Sm [7, 8, 9] τ (zI τ 7 3 (1 : Int32)) := Sm.rf.I (by decide)
    refine sp_findReach (hC.sm s0 (by decide)) (fun τ1 g1 g2 => ?_)
    have s1 : Sm [7, 8, 9] τ τ1 := s0.tr (g1.wk (by decide))
    refine sp_findParts (hC.sm s1 (by decide)) g2 (fun τ2 g3 g4 => pr_ok ?_)
    have s2 : Sm [7, 8, 9] τ τ2 := s1.tr (g3.wk (by decide))
    have hPR : PR v τ2 := by
      refine ⟨?_, fun s hs => ⟨?_, g4 s hs⟩⟩
      · rw [(g3 7 (by decide)).1, (g1 7 (by decide)).1, zI_at, if_pos ⟨rfl, rfl⟩]
      · rw [(g3 8 (by decide)).2]; exact g2 s hs
    exact H τ2 s2 (hv.p s2 (Or.inr hPR)) hPR
theorem neg_no {s : Nat} (h : s < 2 ^ 31) (q : nI s < (0 : Int32)) : False := absurd ((nI_ltJ (a := s) (b := 0) h (by decide)).1 q) (by omega)
theorem sp_reached (hK : LaneOK v) (hP : PR v τ) {s : Nat} (hs : s < 2 ^ v 0) (H : ψ (lN (preach v s)) τ) : zCall G MX3_reached [.ref 7, .int (nI s)] τ (zpl ψ) := by
  have hp := pw64 hK.n.2
  refine C_X3_reached _ τ ⟨fun q => (neg_no (by omega) q).elim, fun _ => ⟨fun q => absurd q (nI_ge (by omega) (by decide)), fun _ => ⟨s, rfl, by omega, pl_ok ?_⟩⟩⟩
  rw [(hP.2 s hs).1]; exact H
theorem sp_cpartOf (hK : LaneOK v) (hP : PR v τ) {s : Nat} (hs : s < 2 ^ v 0) (H : ψ (lN (ppart v s)) τ) : zCall G MX3_partOf [.ref 7, .int (nI s)] τ (zpl ψ) := by
  have hp := pw64 hK.n.2
  refine C_X3_partOf _ τ ⟨fun q => (neg_no (by omega) q).elim, fun _ => ⟨fun q => absurd q (nI_ge (by omega) (by decide)), fun _ => ⟨s, rfl, by omega, pl_ok ?_⟩⟩⟩
  rw [(hP.2 s hs).2]; exact H
theorem shut_eq (hK : LaneOK v) {s : Nat} (hs : s < 2 ^ v 0) : (if lg_cmp (lN (preach v s)) (lN (ppart v s)) = 0 then (1 : Int32) else 0) = (if preach v s = ppart v s then 1 else 0) := by
  by_cases w : preach v s = ppart v s
  · rw [if_pos w, if_pos (lgc_eq.2 (by rw [w]))]
  · rw [if_neg w, if_neg (fun y => w ((lN_inj (preach_64 hK hs) (ppart_64 hK s)).1 (lgc_eq.1 y)))]
theorem sp_cisShut (hK : LaneOK v) (hP : PR v τ) {s : Nat} (hs : s < 2 ^ v 0) (H : φ (if preach v s = ppart v s then 1 else 0) τ) : zCall G MX3_isShut [.ref 7, .int (nI s)] τ (zpi φ) := by
  refine C_X3_isShut _ τ (sp_reached hK hP hs (sp_cpartOf hK hP hs (pi_ok ?_)))
  rw [shut_eq hK hs]; exact H
def RMod (v : Nat → Nat) (τ : hz_T) : Prop := ∀ s, s < 2 ^ v 0 → τ.1.2 35 s = lN (preach v s)
theorem RMod.sk {K : List Nat} {v : Nat → Nat} {τ τ' : hz_T} (h : RMod v τ) (hs : Sk K τ τ') (h35 : 35 ∉ K) : RMod v τ' := by
  intro s hs2
  rw [(hs.1 35 h35).2]
  exact h s hs2
theorem sp_mpartOf (hL : LM v τ) (hR : RMod v τ) {s : Nat} (hs : s < 2 ^ v 0) (H : ψ (lN (ppart v s)) τ) : zCall G MX12_partOf [.ref 29, .int (nI s)] τ (zpl ψ) := by
  have hn := hL.1.n
  have hp := pw64 hn.2
  refine C_X12_partOf _ τ ?_
  have key : ∀ m t, t + m = 2 ^ v 0 → zRun G MX12_partOf 5 [(0, .ref 29), (1, .int (nI s)), (2, .long (lN (pset t (pq v s)))), (4, .int (nI t))] [] τ (zpl ψ) := by
    intro m
    induction m with
    | zero =>
      intro t e
      have e : t = 2 ^ v 0 := by omega
      subst e
      exact V_X12_partOf_5 _ _ _ τ (sp_mstates hL ⟨fun _ => pl_ok H, fun q => absurd (nI_le (Nat.le_refl _) (by omega)) q⟩)
    | succ m ih =>
      intro t e
      have ht : t < 2 ^ v 0 := by omega
      have h := ih (t + 1) (by omega)
      have hb : pset t (pq v s) < 2 ^ 64 := Nat.lt_of_lt_of_le (pset_lt _ t) (Nat.pow_le_pow_right (by decide) (by omega))
      have he := preach_eq hL.1 hs ht
      rw [pset_s] at h
      refine V_X12_partOf_5 _ _ _ τ (sp_mstates hL ⟨fun q => absurd q (nI_ge (by omega) (by omega)), fun _ => ⟨s, rfl, by omega, ?_⟩⟩)
      rw [i1, hR s hs, lbit (preach_64 hL.1 hs) (by omega), lb1]
      refine ⟨fun q => ?_, fun q => ⟨t, rfl, by omega, fun x hx => ?_⟩⟩
      · rw [Int64.or_zero]
        rw [if_neg (fun y : pq v s t = true => q (he.1 (of_decide_eq_true y)).1)] at h
        exact h
      · rw [hR t ht, lbit (preach_64 hL.1 ht) (by omega)] at hx
        by_cases w : (preach v t).testBit s = true
        · rw [if_pos (lb1.2 w), one_l (by omega), wb_or hb (sh64 (by omega))] at hx
          rw [if_pos (show pq v s t = true from decide_eq_true (he.2 ⟨q, w⟩))] at h
          rw [hx]
          exact h
        · rw [if_neg (fun y => w (lb1.1 y)), Int64.or_zero] at hx
          rw [if_neg (fun y : pq v s t = true => w (he.1 (of_decide_eq_true y)).2)] at h
          rw [hx]
          exact h
  exact key (2 ^ v 0) 0 (by omega)
theorem sp_misShut (hL : LM v τ) (hR : RMod v τ) {s : Nat} (hs : s < 2 ^ v 0) (H : φ (if preach v s = ppart v s then 1 else 0) τ) : zCall G MX12_isShut [.ref 29, .int (nI s)] τ (zpi φ) := by
  have hp := pw64 hL.1.n.2
  refine C_X12_isShut _ τ ⟨s, rfl, by omega, sp_mpartOf hL hR hs (pi_ok ?_)⟩
  rw [hR s hs, shut_eq hL.1 hs]; exact H
end PA

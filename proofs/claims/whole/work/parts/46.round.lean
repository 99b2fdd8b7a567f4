theorem Sk.J {K : List Nat} {a b : hz_T} {q j : Nat} {x : Int32} (h : Sk K a b) (hq : q ∈ K) (hj : ¬ 29 = q) : Sk K a (zI b q j x) := h.I hq ⟨fun e => hj e.1, fun e => hj e.1⟩
section MR
variable {G : hz_G} {τ : hz_T} {φ : Int32 → hz_T → Prop}
/-- the reference's row of first visits -/
def seenRow (vs : List Nat) (τ : hz_T) : Prop := ∀ t, t < 64 → τ.1.1 40 t = if t ∈ vs then nI (vs.idxOf t) else -4
theorem sp_mround {v : Nat → Nat} (hL : LM v τ) {s : Nat} (hs : s < 2 ^ v 0) {x2 : Int32} (H : ∀ τ', Sk [29, 40] τ τ' → (x2 = 0 → φ (nI (prlen (v 0) s)) τ') ∧ (x2 = 1 → φ (nI (ptlen (v 0) s)) τ') ∧ (¬ x2 = 0 → ¬ x2 = 1 → φ (nI (prh (v 0) (pon (v 0) s) (prlen (v 0) s))) τ')) : zRun G MX12_round 34 [(0, .ref 29), (1, .int (nI s)), (2, .int x2), (3, .int (0 : Int32))] [] τ (zpi φ) := by
  have hn := hL.1.n
  have hp := pw64 hn.2
  obtain ⟨vs, t, hv, r1, r2, r3, r4, r5, r6⟩ := prok_at hn.1 hn.2 hs
  -- the last loop: hops of the round
  have last : ∀ τ1, Sk [29, 40] τ τ1 → seenRow vs τ1 → t ∈ vs → t < 2 ^ v 0 → zRun G MX12_round 110 [(0, .ref 29), (2, .int x2), (3, .int (nI t)), (5, .int (nI (prlen (v 0) s))), (6, .int (0 : Int32)), (7, .int (nI t)), (8, .int (0 : Int32))] [] τ1 (zpi φ) := by
    intro τ1 h1 hrow htv htl
    refine lp (α := Unit) (fun i _ τ' => zRun G MX12_round 110 [(0, .ref 29), (2, .int x2), (3, .int (nI t)), (5, .int (nI (prlen (v 0) s))), (6, .int (nI (pmh (v 0) t i))), (7, .int (nI (pit (v 0) i t))), (8, .int (nI i))] [] τ' (zpi φ)) (fun i _ τ' => Sk [29] τ1 τ') (prlen (v 0) s) ?_ ?_ 0 () _ (Nat.zero_le _) Sk.rf
    · intro _ τ' h
      have hh := H τ' (h1.tr (h.wk (by decide)))
      refine V_X12_round_110 _ _ _ _ _ _ τ' ⟨fun _ => ⟨fun q0 => ⟨fun q1 => pi_ok ?_, fun q1 => ⟨t, rfl, by omega, pi_ok ?_⟩⟩, fun q0 => pi_ok (hh.1 q0)⟩, fun q => absurd (nI_le (Nat.le_refl _) (by omega)) q⟩
      · rw [r5]
        exact hh.2.2 q0 q1
      · have := hh.2.1 q1
        rw [(h.1 40 (by decide)).1, hrow t (by omega), if_pos htv, r2]
        exact this
    · intro i _ τ' hi h ih
      refine V_X12_round_110 _ _ _ _ _ _ τ' ⟨fun q => absurd q (nI_ge hi (by omega)), fun _ => sp_onceMore ((hL.sk h1 (by decide)).sk h (by decide)) (pit_lt hn.1 hn.2 htl i) (fun τ2 h2 _ hh => ?_)⟩
      rw [hh, nI_add, i1]
      exact ih () _ (h.tr h2)
  -- the visits
  have visit : ∀ f (ws : List Nat) (a : Nat) (τ1 : hz_T), pvis (v 0) f ws a = some (vs, t) → a < 2 ^ v 0 → (∀ b ∈ ws, b < 2 ^ v 0) → ws.length ≤ 64 → Sk [29, 40] τ τ1 → seenRow ws τ1 → zRun G MX12_round 59 [(0, .ref 29), (2, .int x2), (3, .int (nI a)), (4, .int (nI ws.length))] [] τ1 (zpi φ) := by
    intro f
    induction f with
    | zero => intro ws a τ1 h; cases h
    | succ f ih =>
      intro ws a τ1 hpv ha hws hlen h1 hrow
      unfold pvis at hpv
      have hra := hrow a (by omega)
      refine V_X12_round_59 _ _ _ τ1 ⟨a, rfl, by omega, fun q => ⟨a, rfl, by omega, ?_⟩, fun q => ⟨a, rfl, by omega, ?_⟩⟩
      · have hm : a ∈ ws := by
          by_cases hm : a ∈ ws
          · exact hm
          · rw [if_neg hm] at hra; exact absurd hra q
        rw [if_pos hm] at hpv hra
        have e1 : ws = vs := congrArg Prod.fst (Option.some.inj hpv)
        have e2 : a = t := congrArg Prod.snd (Option.some.inj hpv)
        rw [e1] at hrow hm hra ⊢
        rw [e2] at hm hra ha ⊢
        rw [hra]
        have hix : vs.idxOf t < vs.length := List.idxOf_lt_length_iff.mpr hm
        rw [pk_sub (by omega), r1]
        exact last τ1 h1 hrow hm ha
      · have hm : ¬ a ∈ ws := by
          intro hm
          rw [if_pos hm] at hra
          rw [hra] at q
          exact nI_m4 (by have := List.idxOf_lt_length_iff.mpr hm; omega) q
        rw [if_neg hm] at hpv
        have hk : Sk [29, 40] τ (zI τ1 40 a (nI ws.length)) := h1.J (by decide) (by decide)
        refine sp_onceMore (hL.sk hk (by decide)) ha (fun τ2 h2 _ _ => ?_)
        rw [i1]
        have hl2 : (ws ++ [a]).length = ws.length + 1 := by simp
        have := ih (ws ++ [a]) (pstep (v 0) a) τ2 hpv (tb_step (v 0) (by omega) hn.1 _ ha).2 (fun b hb => by
          rcases List.mem_append.mp hb with h | h
          · exact hws b h
          · rw [List.mem_singleton.mp h]; exact ha) ?_ (hk.tr (h2.wk (by decide))) (fun b hb => ?_)
        · rw [hl2] at this
          exact this
        · -- no more than 64 visits: the longest list that ends is vs
          have grow : ∀ f ws a, pvis (v 0) f ws a = some (vs, t) → ws.length ≤ vs.length := by
            intro f
            induction f with
            | zero => intro ws a h; cases h
            | succ f ih =>
              intro ws a h
              unfold pvis at h
              by_cases hm : a ∈ ws
              · rw [if_pos hm] at h; cases h; exact Nat.le_refl _
              · rw [if_neg hm] at h
                have := ih _ _ h
                simp at this
                omega
          exact Nat.le_trans (grow f _ _ hpv) r4
        · rw [(h2.1 40 (by decide)).1, zI_at]
          by_cases hba : b = a
          · subst hba
            rw [if_pos ⟨rfl, rfl⟩, if_pos (by simp), List.idxOf_append, if_neg hm]
            simp
          · rw [if_neg (fun q => hba q.2), hrow b hb]
            by_cases hbm : b ∈ ws
            · rw [if_pos hbm, if_pos (by simp [hbm]), List.idxOf_append, if_pos hbm]
            · rw [if_neg hbm, if_neg (by simp [hbm, hba])]
  -- the row is cleared
  refine lp (α := Unit) (fun i _ τ' => zRun G MX12_round 34 [(0, .ref 29), (1, .int (nI s)), (2, .int x2), (3, .int (nI i))] [] τ' (zpi φ)) (fun i _ τ' => Sk [29, 40] τ τ' ∧ ∀ j, j < i → τ'.1.1 40 j = -4) 64 ?_ ?_ 0 () _ (Nat.zero_le _) ⟨Sk.rf, fun j hj => by omega⟩
  · intro _ τ' h
    refine V_X12_round_34 _ _ _ τ' ⟨fun _ => ?_, fun q => absurd (show nI 64 ≤ nI 64 from nI_le (Nat.le_refl _) (by decide)) q⟩
    have := visit 65 [] s τ' hv hs (fun b hb => by cases hb) (by decide) h.1 (fun b hb => by rw [h.2 b hb, if_neg (by simp)])
    exact this
  · intro i _ τ' hi h ih
    refine V_X12_round_34 _ _ _ τ' ⟨fun q => absurd (show nI 64 ≤ nI i from q) (nI_ge hi (by decide)), fun _ => ⟨i, rfl, hi, ?_⟩⟩
    rw [i1]
    refine ih () _ ⟨h.1.J (by decide) (by decide), fun j hj => ?_⟩
    rw [zI_at]
    by_cases e : j = i
    · rw [if_pos ⟨rfl, e⟩]
    · rw [if_neg (fun q => e q.2)]
      exact h.2 j (by omega)
end MR
theorem pair_round {G : hz_G} {τ : hz_T} (hI : Inv τ) (x0 : Int32) (x1 : Int32) : PI G MX11_round MX12_round [.ref 0, .int x0, .int x1] [.ref 29, .int x0, .int x1] τ := by
  obtain ⟨v, hl, -⟩ := id hI
  have hn := hl.1.n
  have e1 : (2 : Int32).toInt = 2 := by decide
  have e2 : (2 : Int64).toInt = 2 := by decide
  refine C_X11_round x0 x1 τ (sp_cisState hl.c (b_a (fun hs => pi_ok ?_) (fun hs => sp_within ?_)))
  · exact C_X12_round x0 x1 τ (sp_misState hl.m (b_a (fun _ => pi_ok ⟨rfl, hI⟩) (fun h => absurd h hs)))
  rw [t0', e1]
  refine b_b (fun hm => sp_copen hl.c (b_a (fun ho => ?_) (fun ho => pi_ok ?_))) (fun hm => pi_ok ?_)
  · obtain ⟨s, hs', rfl⟩ := st_of hs
    have model : ∀ z : Int32, (x1 = 0 → z = nI (prlen (v 0) s)) → (x1 = 1 → z = nI (ptlen (v 0) s)) → (¬ x1 = 0 → ¬ x1 = 1 → z = nI (prh (v 0) (pon (v 0) s) (prlen (v 0) s))) → zCall G MX12_round [.ref 29, .int (nI s), .int x1] τ (zpi (fun b τ2 => z = b ∧ Inv τ2)) := by
      intro z z0 z1 z2
      refine C_X12_round _ _ τ (sp_misState hl.m (b_a (fun h => absurd hs h) (fun _ => sp_in ?_)))
      rw [t0, e2, i64]
      exact b_b (fun _ => sp_mopen hl.m (b_a (fun _ => sp_mround hl.m hs' (fun τ' h' => ⟨fun q => ⟨z0 q, inv_sk hI h' (by decide)⟩, fun q => ⟨z1 q, inv_sk hI h' (by decide)⟩, fun q q' => ⟨z2 q q', inv_sk hI h' (by decide)⟩⟩)) (fun h => absurd h ho))) (fun h => absurd hm h)
    refine sp_cplaces hl.c ⟨fun q => ?_, fun q => ?_, fun q q' => ?_⟩
    · exact sp_roundLength hn.1 hn.2 hs' (pi_ok (model _ (fun _ => rfl) (fun e => absurd (q ▸ e) (by decide)) (fun e => absurd q e)))
    · exact sp_tailLength hn.1 hn.2 hs' (pi_ok (model _ (fun e => absurd (q ▸ e) (by decide)) (fun _ => rfl) (fun _ e => absurd q e)))
    · exact sp_roundHops hn.1 hn.2 hs' (pi_ok (model _ (fun e => absurd e q) (fun e => absurd e q') (fun _ _ => rfl)))
  · refine C_X12_round _ _ τ (sp_misState hl.m (b_a (fun h => absurd hs h) (fun _ => sp_in ?_)))
    rw [t0, e2, i64]
    exact b_b (fun _ => sp_mopen hl.m (b_a (fun h => absurd ho h) (fun _ => pi_ok ⟨rfl, hI⟩))) (fun h => absurd hm h)
  · refine C_X12_round _ _ τ (sp_misState hl.m (b_a (fun h => absurd hs h) (fun _ => sp_in ?_)))
    rw [t0, e2, i64]
    exact b_b (fun h => absurd h hm) (fun _ => pi_ok ⟨rfl, hI⟩)

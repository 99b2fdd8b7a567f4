theorem lgc_self (a : Int64) : lg_cmp a a = 0 := by simp [lg_cmp]
theorem lw_x6 (i : Nat) : nI i + (6 : Int32) = nI (i + 6) := by rw [kx_6, nI_add]
theorem lw_exit {L i : Nat} (hL : L ≤ 3072) (hi : i ≤ L + 6) : (nI L - (6 : Int32) < nI i) ↔ L < i + 6 := by
  have h1 : (nI L - (6 : Int32)).toInt = (L : Int) - 6 := by
    rw [kx_6]
    by_cases h : L < 6
    · have := pk_sub_toInt (a := L) (b := 6) (by omega) (by omega)
      simpa using this
    · have := pk_sub_toInt (a := L) (b := 6) (by omega) (by omega)
      simpa using this
  rw [Int32.lt_iff_toInt_lt, h1, nI_toInt (by omega)]
  omega
def lw_LV (i : Nat) : List (Nat × Value) := [(0, .retAddr 0), (1, .ref 0), (2, .ref 29), (3, .int (nI i))]
def lw_post : zP := fun r _ => r = some (.int 1)
/-- from every case the law goes on where both have answered alike -/
theorem lw_go {G : hz_G} {i : Nat} (H : ∀ τ : hz_T, Inv τ → zRun G MW_law 18 (lw_LV (i + 6)) [] τ lw_post) (τ : hz_T) (hI : Inv τ) : zRun G MW_law 1251 (lw_LV i) [] τ lw_post := by
  refine V_law_1251 i τ ?_
  rw [lw_x6]
  exact H τ hI
theorem lw_pi {G : hz_G} {i : Nat} {Mx My : hz_M} {ax ay : List Value} {τ : hz_T} (H : ∀ τ : hz_T, Inv τ → zRun G MW_law 18 (lw_LV (i + 6)) [] τ lw_post) (h : PI G Mx My ax ay τ) :
    zCall G Mx ax τ (zpi (fun a τ1 => zCall G My ay τ1 (zpi (fun b τ2 => ((a = b → zRun G MW_law 1251 (lw_LV i) [] τ2 lw_post) ∧ (¬ a = b → lw_post (some (.int (0 : Int32))) τ2)))))) :=
  zmi (fun a τ1 h1 => zmi (fun b τ2 h2 => ⟨fun _ => lw_go H τ2 h2.2, fun hn => absurd h2.1 hn⟩) h1) h
theorem lw_pl {G : hz_G} {i : Nat} {Mx My : hz_M} {ax ay : List Value} {τ : hz_T} (H : ∀ τ : hz_T, Inv τ → zRun G MW_law 18 (lw_LV (i + 6)) [] τ lw_post) (h : PL G Mx My ax ay τ) :
    zCall G Mx ax τ (zpl (fun a τ1 => zCall G My ay τ1 (zpl (fun b τ2 => (((lg_cmp a b) = 0 → zRun G MW_law 1251 (lw_LV i) [] τ2 lw_post) ∧ (¬ (lg_cmp a b) = 0 → lw_post (some (.int (0 : Int32))) τ2)))))) :=
  zml (fun a τ1 h1 => zml (fun b τ2 h2 => ⟨fun _ => lw_go H τ2 h2.2, fun hn => absurd (by rw [h2.1]; exact lgc_self _) hn⟩) h1) h
set_option maxRecDepth 20000 in
theorem lw_body {G : hz_G} (hL2 : G.2.2.2.2.2.1 < 2 ^ 31) {i : Nat} (hi : i + 6 ≤ G.2.2.2.2.2.1) {τ : hz_T} (hI : Inv τ) (H : ∀ τ : hz_T, Inv τ → zRun G MW_law 18 (lw_LV (i + 6)) [] τ lw_post) : zRun G MW_law 27 (lw_LV i) [] τ lw_post := by
  refine V_law_27 i hL2 hi τ ?_
  refine ⟨?_, ?_, ?_, ?_, ?_, ?_, ?_, ?_, ?_, ?_, ?_, ?_, ?_, ?_, ?_, ?_, ?_, ?_, ?_, ?_, ?_, ?_, ?_, ?_, ?_, ?_, ?_, ?_, ?_, ?_, ?_, ?_, ?_⟩
  · intro _
    exact V_case_0 i hL2 hi τ (lw_pi H (pair_feed hI _))
  · intro _
    exact V_case_1 i hL2 hi τ (lw_pi H (pair_end hI _))
  · intro _
    exact V_case_2 i hL2 hi τ (lw_pi H (pair_text hI))
  · intro _
    exact V_case_3 i hL2 hi τ (lw_pi H (pair_fault hI))
  · intro _
    exact V_case_4 i hL2 hi τ (lw_pi H (pair_told hI _))
  · intro _
    exact V_case_5 i hL2 hi τ (lw_pi H (pair_rate hI _ _))
  · intro _
    exact V_case_6 i hL2 hi τ (lw_pi H (pair_of hI _ _))
  · intro _
    exact V_case_7 i hL2 hi τ (lw_pi H (pair_parts hI _))
  · intro _
    exact V_case_8 i hL2 hi τ (lw_pl H (pair_rest hI _ _))
  · intro _
    exact V_case_9 i hL2 hi τ (lw_pl H (pair_through hI _ _))
  · intro _
    exact V_case_10 i hL2 hi τ (lw_pi H (pair_even hI _))
  · intro _
    exact V_case_11 i hL2 hi τ (lw_pl H (pair_worth hI _))
  · intro _
    exact V_case_12 i hL2 hi τ (lw_pl H (pair_all hI _))
  · intro _
    exact V_case_13 i hL2 hi τ (lw_pl H (pair_flow hI _))
  · intro _
    exact V_case_14 i hL2 hi τ (lw_pl H (pair_full hI _ _))
  · intro _
    exact V_case_15 i hL2 hi τ (lw_pl H (pair_both hI _ _ _))
  · intro _
    exact V_case_16 i hL2 hi τ (lw_pi H (pair_rule hI _ _))
  · intro _
    exact V_case_17 i hL2 hi τ (lw_pi H (pair_shock hI _ _ _))
  · intro _
    exact V_case_18 i hL2 hi τ (lw_pi H (pair_atOnce hI _ _))
  · intro _
    exact V_case_19 i hL2 hi τ (lw_pi H (pair_round hI _ _))
  · intro _
    exact V_case_20 i hL2 hi τ (lw_pi H (pair_run hI _ _ _ _))
  · intro _
    exact V_case_21 i hL2 hi τ (lw_pi H (pair_coupled hI _ _ _ _ _))
  · intro _
    exact V_case_22 i hL2 hi τ (lw_pi H (pair_cells hI _ _))
  · intro _
    exact V_case_23 i hL2 hi τ (lw_pl H (pair_orders hI _ _))
  · intro _
    exact V_case_24 i hL2 hi τ (lw_pl H (pair_ways hI _ _ _))
  · intro _
    exact V_case_25 i hL2 hi τ (lw_pi H (pair_view hI _ _))
  · intro _
    exact V_case_26 i hL2 hi τ (lw_pi H (pair_seen hI _))
  · intro _
    exact V_case_27 i hL2 hi τ (lw_pi H (pair_word hI _ _))
  · intro _
    exact V_case_28 i hL2 hi τ (lw_pi H (pair_sheet hI _ _ _))
  · intro _
    exact V_case_29 i hL2 hi τ (lw_pi H (pair_lay hI _ _ _))
  · intro _
    exact V_case_30 i hL2 hi τ (lw_pi H (pair_judge hI _ _ _ _))
  · intro _
    exact V_case_31 i hL2 hi τ (lw_pi H (pair_count hI _))
  · intros
    exact lw_go H τ hI

theorem law_loop {G : hz_G} (hL : G.2.2.2.2.2.1 ≤ 3072) : ∀ (n i : Nat) (τ : hz_T), G.2.2.2.2.2.1 + 6 < i + n → i ≤ G.2.2.2.2.2.1 + 6 → Inv τ → zRun G MW_law 18 (lw_LV i) [] τ lw_post := by
  intro n
  induction n with
  | zero => intro i τ h1 h2; omega
  | succ n ih =>
    intro i τ h1 h2 hI
    refine V_law_18 i τ ⟨fun hc => ?_, fun hc => ?_⟩
    · exact V_law_1257 i τ rfl
    · rw [lw_exit hL h2] at hc
      exact lw_body (by omega) (by omega) hI (fun τ' hI' => ih (i + 6) τ' (by omega) (by omega) hI')
set_option maxRecDepth 20000 in
theorem inv_start : Inv (hz_σ1, false) := by
  refine ⟨fun j => [4, 0, 1, 0, 1, 0, 1, 0].getD j 0, ⟨⟨Or.inl ⟨rfl, by decide, by decide⟩, by decide⟩, ?_⟩, ⟨0, by decide, by decide +kernel, by decide +kernel, fun j hj => by omega⟩, ?_, ?_, ⟨?_, ?_⟩, Or.inl ?_, Or.inl ?_, Or.inl ?_⟩
  · intro j hj
    have : ∀ j, j < 8 → hz_σ1.1 4 j = nI ([4, 0, 1, 0, 1, 0, 1, 0].getD j 0) ∧ hz_σ1.1 30 j = nI ([4, 0, 1, 0, 1, 0, 1, 0].getD j 0) := by decide +kernel
    exact this j hj
  · show hz_σ1.1 5 8 = hz_σ1.1 29 4
    decide +kernel
  · intro k hk
    have : ∀ k, k < 4 → hz_σ1.1 26 k = -1 ∧ hz_σ1.1 46 k = -4 := by decide +kernel
    exact Or.inl (this k hk)
  · have : ∀ j, j < 6 → hz_σ1.1 33 j = nI ([0, 4, 8, 11, 13, 16].getD j 0) := by decide +kernel
    exact this
  · have : ∀ j, j < 16 → hz_σ1.1 34 j = nI ([114, 105, 110, 103, 111, 112, 101, 110, 104, 111, 112, 105, 110, 111, 117, 116].getD j 0) := by decide +kernel
    exact this
  · show hz_σ1.1 7 3 = 0
    decide +kernel
  · show hz_σ1.2 10 6 = 0
    decide +kernel
  · show hz_σ1.1 16 2 = 0
    decide +kernel
theorem law_run {G : hz_G} (hL : G.2.2.2.2.2.1 ≤ 3072) : zRun G MW_law 18 [(0, .retAddr 0), (1, .ref 0), (2, .ref 29), (3, .int (0 : Int32))] [] (hz_σ1, false) (fun r _ => r = some (.int 1)) := by
  have h := law_loop hL (G.2.2.2.2.2.1 + 7) 0 (hz_σ1, false) (by omega) (by omega) inv_start
  unfold lw_LV at h
  rw [nI_0] at h
  exact h

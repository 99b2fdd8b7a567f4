/-! the reference takes a line -/
def FM (τ τ' : hz_T) : Prop := Sm [29, 31] τ τ' ∧ τ'.1.1 29 3 = τ.1.1 29 3 ∧ τ'.1.1 29 4 = τ.1.1 29 4
theorem FM.rf {τ : hz_T} : FM τ τ := ⟨Sm.rf, rfl, rfl⟩
theorem FM.tr {a b c : hz_T} (h1 : FM a b) (h2 : FM b c) : FM a c := ⟨h1.1.tr h2.1, h2.2.1.trans h1.2.1, h2.2.2.trans h1.2.2⟩
theorem F29.fm {τ τ' : hz_T} (h : F29 τ τ') : FM τ τ' := ⟨h.1.wk (by decide), h.2.1, h.2.2.1⟩
theorem FM.i31 {a b : hz_T} (h : FM a b) (j : Nat) (x : Int32) : FM a (zI b 31 j x) := ⟨h.1.I (by decide), by rw [zI_row (by decide)]; exact h.2.1, by rw [zI_row (by decide)]; exact h.2.2⟩
theorem FM.i29 {a b : hz_T} (h : FM a b) {j : Nat} (hj : j ≠ 3 ∧ j ≠ 4) (x : Int32) : FM a (zI b 29 j x) := ⟨h.1.I (by decide), by rw [zI_at, if_neg (by omega)]; exact h.2.1, by rw [zI_at, if_neg (by omega)]; exact h.2.2⟩
theorem Tm.fm {m : Nat} {b : Nat → Nat} {τ τ' : hz_T} (h : Tm m b τ) (hs : FM τ τ') : Tm m b τ' := h.sm hs.1 (by decide) hs.2.1
theorem I_const.fm {τ τ' : hz_T} (h : I_const τ) (hs : FM τ τ') : I_const τ' := h.fr (hs.1 33 (by decide)).1 (hs.1 34 (by decide)).1
def Mf (c pl : Nat) (τ : hz_T) : Prop := τ.1.1 29 5 = nI c ∧ τ.1.1 29 6 = nI pl
theorem Mf.no {c pl : Nat} {τ : hz_T} (h : Mf c pl τ) (hc : c ≠ 0) (hc4 : c ≤ 4) : ¬ τ.1.1 29 5 = 0 ∧ ¬ τ.1.1 29 5 ≤ 0 := by
  rw [h.1]
  have k0 : nI c = 0 ↔ c = 0 := nI_eq (b := 0) (by omega) (by decide)
  exact ⟨fun y => hc (k0.1 y), fun y => hc ((nI_le0 (by omega)).1 y)⟩
theorem MT.no {t : Nat × Nat × Nat × Nat} {τ : hz_T} (h : MT t τ) (h0 : t.1 = 0) : Mf 1 t.2.2.1 τ := by
  rcases h with h | h
  · exact ⟨h.2.1, h.2.2⟩
  · exact absurd h0 h.1
theorem MT.f31 {t : Nat × Nat × Nat × Nat} {τ : hz_T} (h : MT t τ) (j : Nat) (x : Int32) : MT t (zI τ 31 j x) := by
  unfold MT at h ⊢
  rw [zI_row (show 29 ≠ 31 by decide)]
  exact h
theorem Mf.f31 {c pl : Nat} {τ : hz_T} (h : Mf c pl τ) (j : Nat) (x : Int32) : Mf c pl (zI τ 31 j x) := by
  unfold Mf at h ⊢
  rw [zI_row (show 29 ≠ 31 by decide)]
  exact h
section ML
variable {G : hz_G} {τ : hz_T} {m : Nat} {b : Nat → Nat} {χ : hz_T → Prop} {φ : Int32 → hz_T → Prop}
theorem sp_number2 {c pl : Nat} (hf : Mf c pl τ) (hc : c ≠ 0) (hc4 : c ≤ 4) {x y : Int32} (H : ∀ z, φ z τ) : zCall G MX12_number [.ref 29, .int x, .int y] τ (zpi φ) := by
  obtain ⟨n1, n2⟩ := hf.no hc hc4
  exact C_X12_number _ _ τ ⟨fun _ => ⟨fun _ => sp_next2 n2 (pi_ok (H _)), fun q => absurd q n1⟩, fun q => absurd q n1⟩
theorem sp_mnumber (hT : Tm m b τ) (hI : I_const τ) {e : Nat} (he : e ≤ m) (hM : MT (tk m b e) τ) {lo hi : Nat} (hlo : lo < 100) (hhi : hi < 100) (H1 : (numF m b e lo hi).1 = 0 → ∀ τ', F29 τ τ' → MT (tk m b (numF m b e lo hi).2.2.2) τ' → φ (nI (numF m b e lo hi).2.2.1) τ') (H0 : (numF m b e lo hi).1 ≠ 0 → ∀ z τ', F29 τ τ' → Mf (numF m b e lo hi).1 (numF m b e lo hi).2.1 τ' → φ z τ') : zCall G MX12_number [.ref 29, .int (nI lo), .int (nI hi)] τ (zpi φ) := by
  have hm := hT.1
  obtain ⟨a1, a2, a3, a4, a5, a6, a7⟩ := tk_ok (b := b) hm he
  unfold numF at H1 H0
  rcases hM with ⟨m1, m2, m3⟩ | ⟨m1, m2, m3, m4, m5, m6⟩
  · rw [if_pos (by omega)] at H0
    have hf : Mf 1 (tk m b e).2.2.1 τ := ⟨m2, m3⟩
    refine sp_number2 hf (by decide) (by decide) (fun z => ?_)
    have := H0 (by show (if (tk m b e).1 = 0 then 1 else 2) ≠ 0; split <;> omega) z τ F29.rf
    rw [if_pos m1] at this
    exact this hf
  · have k9 : nI (if (tk m b e).1 = 4 then 0 else (tk m b e).1) = (2 : Int32) ↔ (tk m b e).1 = 2 := by
      have : nI (if (tk m b e).1 = 4 then 0 else (tk m b e).1) = nI 2 ↔ (if (tk m b e).1 = 4 then 0 else (tk m b e).1) = 2 := nI_eq (by split <;> omega) (by decide)
      refine this.trans ?_
      split <;> omega
    refine C_X12_number _ _ τ ⟨fun q => absurd m2 q, fun _ => ?_⟩
    rw [m3, k9]
    refine ⟨fun c => ⟨fun q => absurd m2 q, fun _ => ?_⟩, fun c => sp_fails m2 ?_⟩
    · rw [if_neg (fun y => y c)] at H1 H0
      have a7 := a7 c
      have m6 := m6 (Or.inr c)
      refine sp_in ?_
      have ci : ((nI lo).toInt64.toInt ≤ (τ.1.1 29 10).toInt64.toInt ∧ (τ.1.1 29 10).toInt64.toInt ≤ (nI hi).toInt64.toInt) ↔ ¬ ((tk m b e).2.1 < lo ∨ hi < (tk m b e).2.1) := by
        rw [m6, i64, i64, i64, nI_toInt (by omega), nI_toInt (by omega), nI_toInt (by omega)]
        omega
      refine b_b (fun y => ?_) (fun y => ?_)
      · rw [if_neg (ci.1 y)] at H1
        refine sp_next hT hI a4 m2 m5 (fun τ1 g1 g2 => pi_ok ?_)
        rw [m6]
        exact H1 rfl τ1 g1 g2
      · have z : (tk m b e).2.1 < lo ∨ hi < (tk m b e).2.1 := Decidable.of_not_not (fun z => y (ci.2 z))
        rw [if_pos z] at H0
        refine sp_fails m2 (sp_next2 ?_ (pi_ok (H0 (show 3 ≠ 0 by decide) _ _ ((F29.rf.I (by decide) _).I (by decide) _) ⟨?_, ?_⟩)))
        · rw [zI_at, if_neg (by decide), zI_at, if_pos ⟨rfl, rfl⟩]; decide
        · rw [zI_at, if_neg (by decide), zI_at, if_pos ⟨rfl, rfl⟩]; rfl
        · rw [zI_at, if_pos ⟨rfl, rfl⟩]; exact m4
    · rw [if_pos c, if_neg m1] at H0
      have h5 : (zI (zI τ 29 5 (2 : Int32)) 29 6 (τ.1.1 29 8)).1.1 29 5 = 2 := by rw [zI_at, if_neg (by decide), zI_at, if_pos ⟨rfl, rfl⟩]
      refine ⟨fun _ => sp_next2 (by rw [h5]; decide) (pi_ok (H0 (show 2 ≠ 0 by decide) _ _ ((F29.rf.I (by decide) _).I (by decide) _) ⟨h5, ?_⟩)), fun q => absurd (h5.symm.trans q) (by decide)⟩
      rw [zI_at, if_pos ⟨rfl, rfl⟩]; exact m4
theorem sp_mstop (hT : Tm m b τ) (hI : I_const τ) {e : Nat} (he : e ≤ m) (hM : MT (tk m b e) τ) (H1 : (stpF m b e).1 = 0 → ∀ τ', F29 τ τ' → MT (tk m b (stpF m b e).2.2) τ' → χ τ') (H0 : (stpF m b e).1 ≠ 0 → ∀ τ', F29 τ τ' → Mf (stpF m b e).1 (stpF m b e).2.1 τ' → χ τ') : zRun G MX12_oneLine 155 [(0, .ref 29)] [] τ (zpv χ) := by
  have hm := hT.1
  obtain ⟨a1, a2, a3, a4, a5, a6, a7⟩ := tk_ok (b := b) hm he
  unfold stpF at H1 H0
  rcases hM with ⟨m1, m2, m3⟩ | ⟨m1, m2, m3, m4, m5, m6⟩
  · rw [if_pos (by omega)] at H0
    have hf : Mf 1 (tk m b e).2.2.1 τ := ⟨m2, m3⟩
    obtain ⟨n1, n2⟩ := hf.no (by decide) (by decide)
    refine V_X12_oneLine_155 τ ⟨fun _ => V_X12_oneLine_175 τ (sp_next2 n2 (pv_ok ?_)), fun q => absurd q n1⟩
    have := H0 (by show (if (tk m b e).1 = 0 then 1 else 2) ≠ 0; split <;> omega) τ F29.rf
    rw [if_pos m1] at this
    exact this hf
  · have k9 : nI (if (tk m b e).1 = 4 then 0 else (tk m b e).1) = (3 : Int32) ↔ (tk m b e).1 = 3 := by
      have : nI (if (tk m b e).1 = 4 then 0 else (tk m b e).1) = nI 3 ↔ (if (tk m b e).1 = 4 then 0 else (tk m b e).1) = 3 := nI_eq (by split <;> omega) (by decide)
      refine this.trans ?_
      split <;> omega
    refine V_X12_oneLine_155 τ ⟨fun q => absurd m2 q, fun _ => ?_⟩
    rw [m3, k9]
    refine ⟨fun c => V_X12_oneLine_175 τ (sp_next hT hI a4 m2 m5 (fun τ1 g1 g2 => pv_ok ?_)), fun c => sp_fails m2 ?_⟩
    · rw [if_neg (fun y => y c)] at H1
      exact H1 rfl τ1 g1 g2
    · rw [if_pos c, if_neg m1] at H0
      have h5 : (zI (zI τ 29 5 (2 : Int32)) 29 6 (τ.1.1 29 8)).1.1 29 5 = 2 := by rw [zI_at, if_neg (by decide), zI_at, if_pos ⟨rfl, rfl⟩]
      refine V_X12_oneLine_175 _ (sp_next2 (by rw [h5]; decide) (pv_ok (H0 (show 2 ≠ 0 by decide) _ ((F29.rf.I (by decide) _).I (by decide) _) ⟨h5, ?_⟩)))
      rw [zI_at, if_pos ⟨rfl, rfl⟩]; exact m4
theorem sp_mstop2 {c pl : Nat} (hf : Mf c pl τ) (hc : c ≠ 0) (hc4 : c ≤ 4) (H : χ τ) : zRun G MX12_oneLine 155 [(0, .ref 29)] [] τ (zpv χ) := by
  obtain ⟨n1, n2⟩ := hf.no hc hc4
  exact V_X12_oneLine_155 τ ⟨fun _ => V_X12_oneLine_175 τ (sp_next2 n2 (pv_ok H)), fun q => absurd q n1⟩
def CM (told : Nat) (f : Nat → Nat) (τ : hz_T) : Prop := τ.1.1 29 11 = nI told ∧ ∀ j, j < 8 → τ.1.1 31 j = nI (f j)
theorem sp_oneLine (hT : Tm m b τ) (hI : I_const τ) {p told : Nat} {f : Nat → Nat} (hp : p ≤ m) (ht : told < 32) (hc : CM told f τ) (hM : MT (tk m b p) τ) (hk0 : (tk m b p).1 ≠ 0) (H1 : (lnF m b told f (tk m b p)).1 = 0 → ∀ τ', FM τ τ' → MT (tk m b (lnF m b told f (tk m b p)).2.2.2.2) τ' → CM (lnF m b told f (tk m b p)).2.2.1 (lnF m b told f (tk m b p)).2.2.2.1 τ' → χ τ') (H0 : (lnF m b told f (tk m b p)).1 ≠ 0 → ∀ τ', FM τ τ' → Mf (lnF m b told f (tk m b p)).1 (lnF m b told f (tk m b p)).2.1 τ' → χ τ') : zCall G MX12_oneLine [.ref 29] τ (zpv χ) := by
  have hm := hT.1
  obtain ⟨a1, a2, a3, a4, a5, a6, a7⟩ := tk_ok (b := b) hm hp
  unfold lnF at H1 H0
  rcases hM with ⟨m1, m2, m3⟩ | ⟨m1, m2, m3, m4, m5, m6⟩
  · exact absurd m1 hk0
  have k9 : nI (if (tk m b p).1 = 4 then 0 else (tk m b p).1) = (1 : Int32) ↔ (tk m b p).1 = 1 := by
    have : nI (if (tk m b p).1 = 4 then 0 else (tk m b p).1) = nI 1 ↔ (if (tk m b p).1 = 4 then 0 else (tk m b p).1) = 1 := nI_eq (by split <;> omega) (by decide)
    refine this.trans ?_
    split <;> omega
  refine C_X12_oneLine τ ?_
  rw [m3, k9]
  refine ⟨fun c => ?_, fun c => sp_fails m2 ?_⟩
  · rw [if_neg (fun y => y c)] at H1 H0
    have m6 := m6 (Or.inl c)
    have a6 := a6 c
    have hb := tbit_lt a6
    rw [m6, (tb_tbit _ (show (tk m b p).2.1 < 5 by omega)).2]
    generalize (tk m b p).2.1 = X at *
    generalize (tk m b p).2.2.2 = e at *
    generalize (tk m b p).2.2.1 = pl at *
    obtain ⟨u1, u2⟩ := tb_told told ht (tbit X) hb
    refine V_X12_oneLine_33 _ _ τ ?_
    rw [hc.1, u1]
    refine ⟨fun z => V_X12_oneLine_48 _ _ τ ?_, fun z => sp_fails m2 (V_X12_oneLine_48 _ _ _ ?_)⟩
    · rw [if_neg (by rw [z]; decide)] at H1 H0
      rw [hc.1, u2]
      have s1 : FM τ (zI τ 29 11 (nI (told ||| 2 ^ tbit X))) := FM.rf.i29 (by decide) _
      generalize hτ1 : zI τ 29 11 (nI (told ||| 2 ^ tbit X)) = τ1 at s1
      have n5 : τ1.1.1 29 5 = 0 := by rw [← hτ1, zI_at, if_neg (by decide)]; exact m2
      have n7 : τ1.1.1 29 7 = nI e := by rw [← hτ1, zI_at, if_neg (by decide)]; exact m5
      have n11 : τ1.1.1 29 11 = nI (told ||| 2 ^ tbit X) := by rw [← hτ1, zI_at, if_pos ⟨rfl, rfl⟩]
      have n31 : τ1.1.1 31 = τ.1.1 31 := by rw [← hτ1, zI_row (by decide)]
      refine V_X12_oneLine_58 _ τ1 ⟨fun _ => ?_, fun y => absurd (by rw [n5]; decide) y⟩
      refine sp_next (hT.fm s1) (hI.fm s1) a4 n5 n7 (fun τ2 g1 g2 => ?_)
      have s2 : FM τ τ2 := s1.tr g1.fm
      have g11 : τ2.1.1 29 11 = nI (told ||| 2 ^ tbit X) := by rw [g1.2.2.2]; exact n11
      have g31 : τ2.1.1 31 = τ.1.1 31 := by rw [(g1.1 31 (by decide)).1]; exact n31
      have k1 : (1 : Int32) < nI X ↔ 1 < X := nI_ltJ (a := 1) (by decide) (by omega)
      rw [k1]
      unfold lnR at H1 H0
      refine ⟨fun y => ?_, fun y => ?_⟩
      · rw [if_neg (by omega)] at H1 H0
        have e1 : (if nI X = (2 : Int32) then (2 : Int32) else (if nI X = (3 : Int32) then (4 : Int32) else (6 : Int32))) = nI (2 * (X - 1)) := by
          rcases (show X = 2 ∨ X = 3 ∨ X = 4 by omega) with y3 | y3 | y3 <;> rw [y3] <;> decide
        rw [e1]
        refine V_X12_oneLine_126 _ τ2 ?_
        obtain ⟨o1, o2, o3⟩ := numF_ok (b := b) (lo := 0) (hi := 9) hm a4
        refine sp_mnumber (lo := 0) (hi := 9) (hT.fm s2) (hI.fm s2) a4 g2 (by decide) (by decide) (fun c1 τ3 h1 h2 => ⟨2 * (X - 1), rfl, by omega, ?_⟩) (fun c1 zz τ3 h1 h2 => ⟨2 * (X - 1), rfl, by omega, ?_⟩)
        · rw [if_neg (fun y => y c1)] at H1 H0
          have o3 := o3 c1
          have s3 := (s2.tr h1.fm).i31 (2 * (X - 1)) (nI (numF m b e 0 9).2.2.1)
          obtain ⟨q1, q2, q3⟩ := numF_ok (b := b) (e := (numF m b e 0 9).2.2.2) (lo := 0) (hi := 9) hm o3.2.2.2
          refine sp_mnumber (lo := 0) (hi := 9) (hT.fm s3) (hI.fm s3) o3.2.2.2 (h2.f31 _ _) (by decide) (by decide) (fun c2 τ4 k1 k2 => ⟨2 * (X - 1) + 1, i1 _, by omega, ?_⟩) (fun c2 zz τ4 k1 k2 => ⟨2 * (X - 1) + 1, i1 _, by omega, ?_⟩)
          · rw [if_neg (fun y => y c2)] at H1 H0
            have q3 := q3 c2
            have s4 := (s3.tr k1.fm).i31 (2 * (X - 1) + 1) (nI (numF m b (numF m b e 0 9).2.2.2 0 9).2.2.1)
            refine sp_mstop (hT.fm s4) (hI.fm s4) q3.2.2.2 (k2.f31 _ _) (fun c3 τ5 l1 l2 => ?_) (fun c3 τ5 l1 l2 => ?_)
            · rw [if_neg (fun y => y c3)] at H1
              refine H1 rfl τ5 (s4.tr l1.fm) l2 ⟨?_, fun j hj => ?_⟩
              · rw [l1.2.2.2, zI_row (by decide), k1.2.2.2, zI_row (by decide), h1.2.2.2]; exact g11
              · rw [(l1.1 31 (by decide)).1, zI_at]
                show _ = nI (if j = 2 * (X - 1) + 1 then _ else if j = 2 * (X - 1) then _ else f j)
                by_cases y1 : j = 2 * (X - 1) + 1
                · rw [if_pos ⟨rfl, y1⟩, if_pos y1]
                · rw [if_neg (fun y2 => y1 y2.2), if_neg y1, (k1.1 31 (by decide)).1, zI_at]
                  by_cases y2 : j = 2 * (X - 1)
                  · rw [if_pos ⟨rfl, y2⟩, if_pos y2]
                  · rw [if_neg (fun y3 => y2 y3.2), if_neg y2, (h1.1 31 (by decide)).1, g31]; exact hc.2 j hj
            · rw [if_pos c3] at H0
              exact H0 c3 τ5 (s4.tr l1.fm) l2
          · rw [if_pos c2] at H0
            exact sp_mstop2 (k2.f31 _ _) c2 (by omega) (H0 c2 _ ((s3.tr k1.fm).i31 _ _) (k2.f31 _ _))
        · rw [if_pos c1] at H0
          have s3 := (s2.tr h1.fm).i31 (2 * (X - 1)) zz
          refine sp_number2 (h2.f31 _ _) c1 (by omega) (fun z3 => ⟨2 * (X - 1) + 1, i1 _, by omega, ?_⟩)
          exact sp_mstop2 ((h2.f31 _ _).f31 _ _) c1 (by omega) (H0 c1 _ (s3.i31 _ _) ((h2.f31 _ _).f31 _ _))
      · have hX : X ≤ 1 := by omega
        rw [if_pos hX] at H1 H0
        have e1 : (if nI X = 0 then (2 : Int32) else (1 : Int32)) = nI (2 - X) := by
          rcases (show X = 0 ∨ X = 1 by omega) with y3 | y3 <;> rw [y3] <;> decide
        rw [e1]
        refine V_X12_oneLine_90 _ _ _ τ2 ?_
        obtain ⟨o1, o2, o3⟩ := numF_ok (b := b) (lo := 2 - X) (hi := 6) hm a4
        refine sp_mnumber (lo := 2 - X) (hi := 6) (hT.fm s2) (hI.fm s2) a4 g2 (by omega) (by decide) (fun c1 τ3 h1 h2 => ⟨0, rfl, by omega, ?_⟩) (fun c1 zz τ3 h1 h2 => ⟨0, rfl, by omega, ?_⟩)
        · rw [if_neg (fun y => y c1)] at H1 H0
          have o3 := o3 c1
          have s3 := ((s2.tr h1.fm).i31 0 (nI (numF m b e (2 - X) 6).2.2.1)).i31 1 (nI X)
          refine sp_mstop (hT.fm s3) (hI.fm s3) o3.2.2.2 ((h2.f31 _ _).f31 _ _) (fun c3 τ5 l1 l2 => ?_) (fun c3 τ5 l1 l2 => ?_)
          · rw [if_neg (fun y => y c3)] at H1
            refine H1 rfl τ5 (s3.tr l1.fm) l2 ⟨?_, fun j hj => ?_⟩
            · rw [l1.2.2.2, zI_row (by decide), zI_row (by decide), h1.2.2.2]; exact g11
            · rw [(l1.1 31 (by decide)).1, zI_at]
              show _ = nI (if j = 0 then _ else if j = 1 then _ else f j)
              by_cases y1 : j = 0
              · rw [if_neg (by omega), if_pos y1, zI_at, if_pos ⟨rfl, y1⟩]
              · rw [if_neg y1]
                by_cases y2 : j = 1
                · rw [if_pos ⟨rfl, y2⟩, if_pos y2]
                · rw [if_neg (fun y3 => y2 y3.2), if_neg y2, zI_at, if_neg (fun y3 => y1 y3.2), (h1.1 31 (by decide)).1, g31]; exact hc.2 j hj
          · rw [if_pos c3] at H0
            exact H0 c3 τ5 (s3.tr l1.fm) l2
        · rw [if_pos c1] at H0
          exact sp_mstop2 ((h2.f31 _ _).f31 _ _) c1 (by omega) (H0 c1 _ (((s2.tr h1.fm).i31 _ _).i31 _ _) ((h2.f31 _ _).f31 _ _))
    · have z2 : told.testBit (tbit X) = true := by
        cases hh : told.testBit (tbit X) with
        | true => rfl
        | false => exact absurd hh z
      rw [if_pos z2] at H0
      have h5 : ∀ x : Int32, (zI (zI (zI τ 29 5 (4 : Int32)) 29 6 (τ.1.1 29 8)) 29 11 x).1.1 29 5 = 4 := fun x => by rw [zI_at, if_neg (by decide), zI_at, if_neg (by decide), zI_at, if_pos ⟨rfl, rfl⟩]
      refine V_X12_oneLine_58 _ _ ⟨fun y => absurd y (by rw [h5]; decide), fun _ => pv_ok (H0 (show 4 ≠ 0 by decide) _ (((FM.rf.i29 (by decide) _).i29 (by decide) _).i29 (by decide) _) ⟨h5 _, ?_⟩)⟩
      rw [zI_at, if_neg (by decide), zI_at, if_pos ⟨rfl, rfl⟩]; exact m4
  · rw [if_pos c, if_neg m1] at H0
    have h5 : (zI (zI τ 29 5 (2 : Int32)) 29 6 (τ.1.1 29 8)).1.1 29 5 = 2 := by rw [zI_at, if_neg (by decide), zI_at, if_pos ⟨rfl, rfl⟩]
    refine V_X12_oneLine_58 _ _ ⟨fun y => absurd y (by rw [h5]; decide), fun _ => pv_ok (H0 (show 2 ≠ 0 by decide) _ ((FM.rf.i29 (by decide) _).i29 (by decide) _) ⟨h5, ?_⟩)⟩
    rw [zI_at, if_pos ⟨rfl, rfl⟩]; exact m4
end ML

/-! the text -/
def f0 (j : Nat) : Nat := [4, 0, 1, 0, 1, 0, 1, 0].getD j 0
def txF (m : Nat) (b : Nat → Nat) : Nat → Nat → Nat → (Nat → Nat) → Nat → Nat × Nat × (Nat → Nat) × Nat
  | 0, _, _, f, n => (0, 0, f, n)
  | k + 1, p, told, f, n => if (tk m b p).1 = 4 then (0, 0, f, n) else if (lnF m b told f (tk m b p)).1 ≠ 0 then ((lnF m b told f (tk m b p)).1, (lnF m b told f (tk m b p)).2.1, f, n) else txF m b k (lnF m b told f (tk m b p)).2.2.2.2 (lnF m b told f (tk m b p)).2.2.1 (lnF m b told f (tk m b p)).2.2.2.1 (n + 1)
theorem txF_s (m : Nat) (b : Nat → Nat) (k p told : Nat) (f : Nat → Nat) (n : Nat) : txF m b (k + 1) p told f n = if (tk m b p).1 = 4 then (0, 0, f, n) else if (lnF m b told f (tk m b p)).1 ≠ 0 then ((lnF m b told f (tk m b p)).1, (lnF m b told f (tk m b p)).2.1, f, n) else txF m b k (lnF m b told f (tk m b p)).2.2.2.2 (lnF m b told f (tk m b p)).2.2.1 (lnF m b told f (tk m b p)).2.2.2.1 (n + 1) := rfl
def txP (m : Nat) (R : Nat × Nat × (Nat → Nat) × Nat) : Prop := R.1 ≤ 4 ∧ R.2.1 ≤ m ∧ LaneOK R.2.2.1 ∧ R.2.2.2 ≤ 121
theorem txF_ok {m : Nat} {b : Nat → Nat} (hm : m ≤ 120) : ∀ k p told f n, p ≤ m → told < 32 → LaneOK f → n + k = 121 → txP m (txF m b k p told f n) := by
  intro k
  induction k with
  | zero => intro p told f n _ _ hf hn; exact ⟨Nat.zero_le _, Nat.zero_le _, hf, by show n ≤ 121; omega⟩
  | succ k ih =>
    intro p told f n hp ht hf hn
    rw [txF_s]
    by_cases h : (tk m b p).1 = 4
    · rw [if_pos h]; exact ⟨Nat.zero_le _, Nat.zero_le _, hf, by show n ≤ 121; omega⟩
    · rw [if_neg h]
      obtain ⟨l1, l2, l3⟩ := lnF_ok (b := b) hm hp ht hf
      by_cases c : (lnF m b told f (tk m b p)).1 ≠ 0
      · rw [if_pos c]; exact ⟨l1, l2, hf, by show n ≤ 121; omega⟩
      · rw [if_neg c]
        obtain ⟨l4, l5, l6, l7⟩ := l3 (Decidable.of_not_not c)
        exact ih _ _ _ _ l7 l4 l5 (by omega)
theorem f0_ok : LaneOK f0 := ⟨Or.inl ⟨rfl, by decide, by decide⟩, by decide, by decide, by decide, by decide, by decide, by decide⟩
theorem tb_f0 : ∀ j, j < 8 → (if nI j = 0 then (4 : Int32) else (if (nI j - nI j / (2 : Int32) * (2 : Int32)) = 0 then (1 : Int32) else (0 : Int32))) = nI (f0 j) := by decide +kernel
section TX
variable {G : hz_G} {τ : hz_T} {m : Nat} {b : Nat → Nat} {χ : hz_T → Prop} {φ : Int32 → hz_T → Prop}
theorem sp_atFirst {j : Nat} (hj : j < 8) (H : φ (nI (f0 j)) τ) : zCall G MX1_atFirst [.int (nI j)] τ (zpi φ) := by
  refine C_X1_atFirst _ τ ?_
  match j, hj with
  | 0, _ => exact ⟨fun _ => pi_ok H, fun y => absurd y (by decide), fun y => absurd y (by decide), fun y => absurd y (by decide), fun y => absurd y (by decide), fun y => absurd y (by decide), fun y => absurd y (by decide), fun y => absurd rfl y⟩
  | 1, _ => exact ⟨fun y => absurd y (by decide), fun _ => pi_ok H, fun y => absurd y (by decide), fun y => absurd y (by decide), fun y => absurd y (by decide), fun y => absurd y (by decide), fun y => absurd y (by decide), fun _ y => absurd rfl y⟩
  | 2, _ => exact ⟨fun y => absurd y (by decide), fun y => absurd y (by decide), fun _ => pi_ok H, fun y => absurd y (by decide), fun y => absurd y (by decide), fun y => absurd y (by decide), fun y => absurd y (by decide), fun _ _ y => absurd rfl y⟩
  | 3, _ => exact ⟨fun y => absurd y (by decide), fun y => absurd y (by decide), fun y => absurd y (by decide), fun _ => pi_ok H, fun y => absurd y (by decide), fun y => absurd y (by decide), fun y => absurd y (by decide), fun _ _ _ y => absurd rfl y⟩
  | 4, _ => exact ⟨fun y => absurd y (by decide), fun y => absurd y (by decide), fun y => absurd y (by decide), fun y => absurd y (by decide), fun _ => pi_ok H, fun y => absurd y (by decide), fun y => absurd y (by decide), fun _ _ _ _ y => absurd rfl y⟩
  | 5, _ => exact ⟨fun y => absurd y (by decide), fun y => absurd y (by decide), fun y => absurd y (by decide), fun y => absurd y (by decide), fun y => absurd y (by decide), fun _ => pi_ok H, fun y => absurd y (by decide), fun _ _ _ _ _ y => absurd rfl y⟩
  | 6, _ => exact ⟨fun y => absurd y (by decide), fun y => absurd y (by decide), fun y => absurd y (by decide), fun y => absurd y (by decide), fun y => absurd y (by decide), fun y => absurd y (by decide), fun _ => pi_ok H, fun _ _ _ _ _ _ y => absurd rfl y⟩
  | 7, _ => exact ⟨fun y => absurd y (by decide), fun y => absurd y (by decide), fun y => absurd y (by decide), fun y => absurd y (by decide), fun y => absurd y (by decide), fun y => absurd y (by decide), fun y => absurd y (by decide), fun _ _ _ _ _ _ _ => pi_ok H⟩
theorem sp_readText (hT : Tb m b τ) (H1 : (txF m b 121 0 0 f0 0).1 = 0 → ∀ τ', FC τ τ' → τ'.1.1 5 7 = nI (txF m b 121 0 0 f0 0).2.2.2 → (∀ j, j < 8 → τ'.1.1 6 j = nI ((txF m b 121 0 0 f0 0).2.2.1 j)) → τ'.1.1 5 8 = 0 → φ 1 τ') (H0 : (txF m b 121 0 0 f0 0).1 ≠ 0 → ∀ τ', FC τ τ' → τ'.1.1 5 8 = nI (txF m b 121 0 0 f0 0).1 → τ'.1.1 5 5 = nI (txF m b 121 0 0 f0 0).2.1 → φ 0 τ') : zCall G MX4_readText [.ref 5] τ (zpi φ) := by
  have hm := hT.1
  refine C_X4_readText τ ?_
  have lines : ∀ k p told f n τ1, n + k = 121 → n ≤ p → p ≤ m → told < 32 → LaneOK f → FC τ τ1 → τ1.1.1 5 2 = nI p → CF told f τ1 → τ1.1.1 5 7 = nI n → τ1.1.1 5 8 = 0 → ((txF m b k p told f n).1 = 0 → ∀ τ', FC τ τ' → τ'.1.1 5 7 = nI (txF m b k p told f n).2.2.2 → (∀ j, j < 8 → τ'.1.1 6 j = nI ((txF m b k p told f n).2.2.1 j)) → τ'.1.1 5 8 = 0 → φ 1 τ') → ((txF m b k p told f n).1 ≠ 0 → ∀ τ', FC τ τ' → τ'.1.1 5 8 = nI (txF m b k p told f n).1 → τ'.1.1 5 5 = nI (txF m b k p told f n).2.1 → φ 0 τ') → zRun G MX4_readText 49 [(0, .ref 5), (1, .int (nI n))] [] τ1 (zpi φ) := by
    intro k
    induction k with
    | zero => intro p told f n τ1 e hn hp; omega
    | succ k ih =>
      intro p told f n τ1 e hn hp ht hf g1 g2 g3 g7 g8 K1 K0
      rw [txF_s] at K1 K0
      obtain ⟨a1, a2, a3, a4, a5, a6, a7⟩ := tk_ok (b := b) hm hp
      refine V_X4_readText_49 _ τ1 ⟨fun y => absurd ((nI_ltJ (a := 120) (by decide) (by omega)).1 y) (by omega), fun _ => sp_readToken (hT.fc g1) hp g2 (fun τ2 ht2 => ?_)⟩
      have k4 : nI (tk m b p).1 = (4 : Int32) ↔ (tk m b p).1 = 4 := nI_eq (b := 4) (by omega) (by decide)
      have hc2 : CF told f τ2 := ⟨by rw [ht2.1.2.1]; exact g3.1, fun j hj => by rw [(ht2.1.1 6 (by decide)).1]; exact g3.2 j hj⟩
      have f1 : FC τ τ2 := g1.tr ht2.1.fc
      rw [ht2.2.1, k4]
      refine ⟨fun c => ?_, fun c => pi_ok ?_⟩
      · rw [if_neg c] at K1 K0
        obtain ⟨l1, l2, l3⟩ := lnF_ok (b := b) hm hp ht hf
        refine sp_takeLine (hT.fc f1) hp ht hc2 ht2 (fun d τ3 h1 h2 h3 h7 h8 => ⟨fun _ => ?_, fun y => absurd y (by decide)⟩) (fun d τ3 h1 h8 h5 => ⟨fun y => absurd rfl y, fun _ => pi_ok ?_⟩)
        · rw [if_neg (fun y => y d)] at K1 K0
          obtain ⟨l4, l5, l6, l7⟩ := l3 d
          have e7 : τ3.1.1 5 7 = nI n := by rw [h7, ht2.1.2.2.1]; exact g7
          rw [e7, i1]
          refine ih _ _ _ (n + 1) _ (by omega) (by omega) l7 l4 l5 ((f1.tr h1).I (by decide)) ?_ ⟨?_, fun j hj => ?_⟩ ?_ ?_ K1 K0
          · rw [zI_at, if_neg (by decide)]; exact h2
          · rw [zI_at, if_neg (by decide)]; exact h3.1
          · rw [zI_row (by decide)]; exact h3.2 j hj
          · rw [zI_at, if_pos ⟨rfl, rfl⟩]
          · rw [zI_at, if_neg (by decide), h8, ht2.1.2.2.2]; exact g8
        · rw [if_pos d] at K0
          exact K0 d τ3 (f1.tr h1) h8 h5
      · rw [if_pos c] at K1
        refine K1 rfl τ2 f1 ?_ hc2.2 ?_
        · rw [ht2.1.2.2.1]; exact g7
        · rw [ht2.1.2.2.2]; exact g8
  have init : ∀ d j τ1, j + d = 8 → FC τ τ1 → (∀ i, i < j → τ1.1.1 6 i = nI (f0 i)) → zRun G MX4_readText 2 [(0, .ref 5), (1, .int (nI j))] [] τ1 (zpi φ) := by
    intro d
    induction d with
    | zero =>
      intro j τ1 e g1 g2
      have e : j = 8 := by omega
      subst e
      refine V_X4_readText_2 _ τ1 ⟨fun _ => ?_, fun y => absurd (nI_le (Nat.le_refl _) (by decide)) y⟩
      refine lines 121 0 0 f0 0 _ rfl (Nat.le_refl _) (Nat.zero_le _) (by decide) f0_ok ((((g1.I (by decide)).I (by decide)).I (by decide)).I (by decide)) ?_ ⟨?_, fun i hi => ?_⟩ ?_ ?_ H1 H0
      · rw [zI_at, if_neg (by decide), zI_at, if_neg (by decide), zI_at, if_neg (by decide), zI_at, if_pos ⟨rfl, rfl⟩]; rfl
      · rw [zI_at, if_neg (by decide), zI_at, if_neg (by decide), zI_at, if_pos ⟨rfl, rfl⟩]; rfl
      · rw [zI_row (by decide), zI_row (by decide), zI_row (by decide), zI_row (by decide)]; exact g2 i hi
      · rw [zI_at, if_neg (by decide), zI_at, if_pos ⟨rfl, rfl⟩]; rfl
      · rw [zI_at, if_pos ⟨rfl, rfl⟩]
    | succ d ih =>
      intro j τ1 e g1 g2
      refine V_X4_readText_2 _ τ1 ⟨fun y => absurd y (nI_ge (by omega) (by decide)), fun _ => sp_atFirst (by omega) ⟨j, rfl, by omega, ?_⟩⟩
      rw [i1]
      refine ih (j + 1) _ (by omega) (g1.I (by decide)) (fun i hi => ?_)
      rw [zI_at]
      by_cases w : i = j
      · rw [if_pos ⟨rfl, w⟩, w]
      · rw [if_neg (fun y => w y.2)]; exact g2 i (by omega)
  exact init 8 0 τ rfl Sm.rf (fun i hi => absurd hi (by omega))
theorem sp_mtext (hT : Tm m b τ) (hI : I_const τ) (H1 : (txF m b 121 0 0 f0 0).1 = 0 → ∀ τ', Sm [29, 30, 31] τ τ' → τ'.1.1 29 3 = 0 → τ'.1.1 29 4 = 0 → (∀ j, j < 8 → τ'.1.1 30 j = nI ((txF m b 121 0 0 f0 0).2.2.1 j)) → φ (nI (txF m b 121 0 0 f0 0).2.2.2) τ') (H0 : (txF m b 121 0 0 f0 0).1 ≠ 0 → ∀ τ', Sm [29, 31] τ τ' → τ'.1.1 29 3 = 0 → τ'.1.1 29 4 = nI (txF m b 121 0 0 f0 0).1 → φ ((-10 : Int32) - nI (txF m b 121 0 0 f0 0).2.1) τ') : zCall G MX12_text [.ref 29] τ (zpi φ) := by
  have hm := hT.1
  refine C_X12_text τ ?_
  have copy : ∀ (n : Nat) (f : Nat → Nat), (∀ τ', Sm [29, 30, 31] τ τ' → τ'.1.1 29 3 = 0 → τ'.1.1 29 4 = 0 → (∀ j, j < 8 → τ'.1.1 30 j = nI (f j)) → φ (nI n) τ') → ∀ d j τ1, j + d = 8 → Sm [29, 30, 31] τ τ1 → τ1.1.1 29 3 = 0 → τ1.1.1 29 4 = 0 → (∀ i, i < 8 → τ1.1.1 31 i = nI (f i)) → (∀ i, i < j → τ1.1.1 30 i = nI (f i)) → zRun G MX12_text 114 [(0, .ref 29), (1, .int (nI n)), (2, .int (nI j))] [] τ1 (zpi φ) := by
    intro n f K d
    induction d with
    | zero =>
      intro j τ1 e g1 g3 g4 gf gh
      have e : j = 8 := by omega
      subst e
      exact V_X12_text_114 _ _ τ1 ⟨fun _ => pi_ok (K τ1 g1 g3 g4 gh), fun y => absurd (show nI 8 ≤ nI 8 from nI_le (Nat.le_refl _) (by decide)) y⟩
    | succ d ih =>
      intro j τ1 e g1 g3 g4 gf gh
      refine V_X12_text_114 _ _ τ1 ⟨fun y => absurd (show nI 8 ≤ nI j from y) (nI_ge (by omega) (by decide)), fun _ => ⟨j, rfl, by omega, j, rfl, by omega, ?_⟩⟩
      rw [i1, gf j (by omega)]
      refine ih (j + 1) _ (by omega) (g1.I (by decide)) ?_ ?_ (fun i hi => ?_) (fun i hi => ?_)
      · rw [zI_row (by decide)]; exact g3
      · rw [zI_row (by decide)]; exact g4
      · rw [zI_row (by decide)]; exact gf i hi
      · rw [zI_at]
        by_cases w : i = j
        · rw [if_pos ⟨rfl, w⟩, w]
        · rw [if_neg (fun y => w y.2)]; exact gh i (by omega)
  have bad : ∀ (n c pl : Nat) τ1, c ≠ 0 → c ≤ 4 → FM τ τ1 → Mf c pl τ1 → (∀ τ', Sm [29, 31] τ τ' → τ'.1.1 29 3 = 0 → τ'.1.1 29 4 = nI c → φ ((-10 : Int32) - nI pl) τ') → zRun G MX12_text 60 [(0, .ref 29), (1, .int (nI n))] [] τ1 (zpi φ) := by
    intro n c pl τ1 hc hc4 g1 hf K
    obtain ⟨n1, n2⟩ := hf.no hc hc4
    refine V_X12_text_60 _ τ1 ⟨fun _ => ⟨fun y => absurd y n2, fun _ => pi_ok ?_⟩, fun y => absurd y n1⟩
    rw [hf.2]
    refine K _ ((g1.1.I (by decide)).I (by decide)) ?_ ?_
    · rw [zI_at, if_neg (by decide), zI_at, if_pos ⟨rfl, rfl⟩]
    · rw [zI_at, if_pos ⟨rfl, rfl⟩]; exact hf.1
  have lines : ∀ k p told f n τ1, n + k = 121 → n ≤ p → p ≤ m → told < 32 → LaneOK f → FM τ τ1 → MT (tk m b p) τ1 → CM told f τ1 → ((txF m b k p told f n).1 = 0 → ∀ τ', Sm [29, 30, 31] τ τ' → τ'.1.1 29 3 = 0 → τ'.1.1 29 4 = 0 → (∀ j, j < 8 → τ'.1.1 30 j = nI ((txF m b k p told f n).2.2.1 j)) → φ (nI (txF m b k p told f n).2.2.2) τ') → ((txF m b k p told f n).1 ≠ 0 → ∀ τ', Sm [29, 31] τ τ' → τ'.1.1 29 3 = 0 → τ'.1.1 29 4 = nI (txF m b k p told f n).1 → φ ((-10 : Int32) - nI (txF m b k p told f n).2.1) τ') → zRun G MX12_text 60 [(0, .ref 29), (1, .int (nI n))] [] τ1 (zpi φ) := by
    intro k
    induction k with
    | zero => intro p told f n τ1 e hn hp; omega
    | succ k ih =>
      intro p told f n τ1 e hn hp ht hf g1 g2 g3 K1 K0
      rw [txF_s] at K1 K0
      obtain ⟨a1, a2, a3, a4, a5, a6, a7⟩ := tk_ok (b := b) hm hp
      obtain ⟨l1, l2, l3⟩ := lnF_ok (b := b) hm hp ht hf
      by_cases k0 : (tk m b p).1 = 0
      · have hMf := g2.no k0
        have eL : lnF m b told f (tk m b p) = (1, (tk m b p).2.2.1, told, f, 0) := by
          unfold lnF
          rw [if_pos (by omega), if_pos k0]
        rw [if_neg (by omega), eL, if_pos (show 1 ≠ 0 by decide)] at K0
        exact bad n 1 _ τ1 (by decide) (by decide) g1 hMf (K0 (show 1 ≠ 0 by decide))
      · have g2' := g2
        rcases g2 with ⟨m1, m2, m3⟩ | ⟨m1, m2, m3, m4, m5, m6⟩
        · exact absurd m1 k0
        · have k9 : nI (if (tk m b p).1 = 4 then 0 else (tk m b p).1) = 0 ↔ (tk m b p).1 = 4 := by
            have : nI (if (tk m b p).1 = 4 then 0 else (tk m b p).1) = nI 0 ↔ (if (tk m b p).1 = 4 then 0 else (tk m b p).1) = 0 := nI_eq (by split <;> omega) (by decide)
            refine this.trans ?_
            split <;> omega
          refine V_X12_text_60 _ τ1 ⟨fun y => absurd m2 y, fun _ => ?_⟩
          rw [m3, k9]
          refine ⟨fun c => ⟨fun _ => ?_, fun y => absurd (by rw [m2]; decide) y⟩, fun c => ?_⟩
          · rw [if_pos c] at K1
            refine copy n f (K1 rfl) 8 0 _ rfl (((g1.1.wk (by decide)).I (by decide)).I (by decide)) ?_ ?_ (fun i hi => ?_) (fun i hi => absurd hi (by omega))
            · rw [zI_at, if_neg (by decide), zI_at, if_pos ⟨rfl, rfl⟩]
            · rw [zI_at, if_pos ⟨rfl, rfl⟩]; exact m2
            · rw [zI_row (by decide), zI_row (by decide)]; exact g3.2 i hi
          · rw [if_neg c] at K1 K0
            refine sp_oneLine (hT.fm g1) (hI.fm g1) hp ht g3 g2' k0 (fun d τ2 h1 h2 h3 => ?_) (fun d τ2 h1 h2 => ?_)
            · rw [if_neg (fun y => y d)] at K1 K0
              obtain ⟨l4, l5, l6, l7⟩ := l3 d
              rw [i1]
              exact ih _ _ _ (n + 1) τ2 (by omega) (by omega) l7 l4 l5 (g1.tr h1) h2 h3 K1 K0
            · rw [if_pos d] at K0
              rw [i1]
              exact bad (n + 1) _ _ τ2 d l1 (g1.tr h1) h2 (K0 d)
  have init : ∀ d j τ1, j + d = 8 → FM τ τ1 → τ1.1.1 29 5 = 0 → τ1.1.1 29 7 = nI 0 → τ1.1.1 29 11 = nI 0 → (∀ i, i < j → τ1.1.1 31 i = nI (f0 i)) → zRun G MX12_text 19 [(0, .ref 29), (1, .int (0 : Int32)), (2, .int (nI j))] [] τ1 (zpi φ) := by
    intro d
    induction d with
    | zero =>
      intro j τ1 e g1 g5 g7 g11 g2
      have e : j = 8 := by omega
      subst e
      refine V_X12_text_19 _ _ τ1 ⟨fun _ => sp_next (hT.fm g1) (hI.fm g1) (Nat.zero_le _) g5 g7 (fun τ2 h1 h2 => ?_), fun y => absurd (show nI 8 ≤ nI 8 from nI_le (Nat.le_refl _) (by decide)) y⟩
      refine lines 121 0 0 f0 0 τ2 rfl (Nat.le_refl _) (Nat.zero_le _) (by decide) f0_ok (g1.tr h1.fm) h2 ⟨?_, fun i hi => ?_⟩ H1 H0
      · rw [h1.2.2.2]; exact g11
      · rw [(h1.1 31 (by decide)).1]; exact g2 i hi
    | succ d ih =>
      intro j τ1 e g1 g5 g7 g11 g2
      refine V_X12_text_19 _ _ τ1 ⟨fun y => absurd (show nI 8 ≤ nI j from y) (nI_ge (by omega) (by decide)), fun _ => ⟨j, rfl, by omega, ?_⟩⟩
      rw [i1, tb_f0 j (by omega)]
      refine ih (j + 1) _ (by omega) (g1.i31 _ _) ?_ ?_ ?_ (fun i hi => ?_)
      · rw [zI_row (by decide)]; exact g5
      · rw [zI_row (by decide)]; exact g7
      · rw [zI_row (by decide)]; exact g11
      · rw [zI_at]
        by_cases w : i = j
        · rw [if_pos ⟨rfl, w⟩, w]
        · rw [if_neg (fun y => w y.2)]; exact g2 i (by omega)
  refine init 8 0 _ rfl (((FM.rf.i29 (by decide) _).i29 (by decide) _).i29 (by decide) _) ?_ ?_ ?_ (fun i hi => absurd hi (by omega))
  · rw [zI_at, if_neg (by decide), zI_at, if_neg (by decide), zI_at, if_pos ⟨rfl, rfl⟩]
  · rw [zI_at, if_neg (by decide), zI_at, if_pos ⟨rfl, rfl⟩]; rfl
  · rw [zI_at, if_pos ⟨rfl, rfl⟩]; rfl
theorem sp_tellTo {f : Nat → Nat} (hf : ∀ j, j < 8 → τ.1.1 6 j = nI (f j)) (H : ∀ τ', Sm [4] τ τ' → (∀ j, j < 8 → τ'.1.1 4 j = nI (f j)) → χ τ') : zCall G MX4_tellTo [.ref 5, .ref 3] τ (zpv χ) := by
  refine C_X4_tellTo τ ?_
  have loop : ∀ d j τ1, j + d = 8 → Sm [4] τ τ1 → (∀ i, i < j → τ1.1.1 4 i = nI (f i)) → zRun G MX4_tellTo 2 [(0, .ref 5), (1, .ref 3), (2, .int (nI j))] [] τ1 (zpv χ) := by
    intro d
    induction d with
    | zero =>
      intro j τ1 e g1 g2
      have e : j = 8 := by omega
      subst e
      exact V_X4_tellTo_2 _ τ1 ⟨fun _ => pv_ok (H τ1 g1 g2), fun y => absurd (nI_le (Nat.le_refl _) (by decide)) y⟩
    | succ d ih =>
      intro j τ1 e g1 g2
      refine V_X4_tellTo_2 _ τ1 ⟨fun y => absurd y (nI_ge (by omega) (by decide)), fun _ => ⟨j, rfl, by omega, C_X1_tellValue _ _ τ1 ⟨fun q => (neg_no (by omega) q).elim, fun _ => ⟨fun q => absurd q (nI_ge (by omega) (by decide)), fun _ => ⟨j, rfl, by omega, pv_ok ?_⟩⟩⟩⟩⟩
      rw [i1, (g1 6 (by decide)).1, hf j (by omega)]
      refine ih (j + 1) _ (by omega) (g1.I (by decide)) (fun i hi => ?_)
      rw [zI_at]
      by_cases w : i = j
      · rw [if_pos ⟨rfl, w⟩, w]
      · rw [if_neg (fun y => w y.2)]; exact g2 i (by omega)
  exact loop 8 0 τ rfl Sm.rf (fun i hi => absurd hi (by omega))
theorem sp_cut0 {m : Nat} (hm : m ≤ 120) (h1 : τ.1.1 1 1 = nI m) (H : φ 1 (zI τ 1 1 (0 : Int32))) : zCall G MX8_cut [.ref 1, .int (0 : Int32)] τ (zpi φ) := by
  refine C_X8_cut _ τ ⟨fun y => absurd y (by decide), fun _ => ⟨fun _ => pi_ok H, fun y => absurd ?_ y⟩⟩
  rw [h1]
  exact nI_le (a := 0) (Nat.zero_le _) (by omega)
end TX
theorem pair_text {G : hz_G} {τ : hz_T} (hI : Inv τ) : PI G MX11_text MX12_text [.ref 0] [.ref 29] τ := by
  obtain ⟨v, hv⟩ := hI.to
  obtain ⟨a1, a2, a3, a4, a5, a6, a7, a8⟩ := hv
  obtain ⟨m, b, hT⟩ := a2.b
  have hm := hT.1
  have hR := txF_ok (b := b) hm 121 0 0 f0 0 (Nat.zero_le _) (by decide) f0_ok rfl
  refine C_X11_text τ (sp_readText hT (fun c τ1 g1 g7 g6 g8 => ?_) (fun c τ1 g1 g8 g5 => ?_))
  · refine sp_cut0 hm (by rw [(g1 1 (by decide)).1]; exact hT.2.1) ⟨fun _ => ?_, fun y => absurd y (by decide)⟩
    refine sp_tellTo (f := (txF m b 121 0 0 f0 0).2.2.1) (fun j hj => by rw [zI_row (by decide)]; exact g6 j hj) (fun τ2 h1 h2 => ?_)
    refine C_X3_forget τ2 (pv_ok (C_X5_forget _ (pv_ok (C_X10_forget _ (pv_ok (C_X4_lines _ (pi_ok ?_)))))))
    have s1 : Sm [1, 4, 5, 6, 7, 10, 16] τ (zI (zL (zI τ2 7 3 (0 : Int32)) 10 6 (0 : Int64)) 16 2 (0 : Int32)) := ((((((g1.wk (by decide)).I (by decide) : Sm [1, 4, 5, 6, 7, 10, 16] τ (zI τ1 1 1 (0 : Int32)))).tr (h1.wk (by decide))).I (by decide)).L (by decide)).I (by decide)
    have e7 : (zI (zL (zI τ2 7 3 (0 : Int32)) 10 6 (0 : Int64)) 16 2 (0 : Int32)).1.1 5 7 = nI (txF m b 121 0 0 f0 0).2.2.2 := by
      rw [zI_row (by decide), zL_i, zI_row (by decide), (h1 5 (by decide)).1, zI_row (by decide)]; exact g7
    have e8 : (zI (zL (zI τ2 7 3 (0 : Int32)) 10 6 (0 : Int64)) 16 2 (0 : Int32)).1.1 5 8 = 0 := by
      rw [zI_row (by decide), zL_i, zI_row (by decide), (h1 5 (by decide)).1, zI_row (by decide)]; exact g8
    have e1 : (zI (zL (zI τ2 7 3 (0 : Int32)) 10 6 (0 : Int64)) 16 2 (0 : Int32)).1.1 1 1 = nI 0 := by
      rw [zI_row (by decide), zL_i, zI_row (by decide), (h1 1 (by decide)).1, zI_at, if_pos ⟨rfl, rfl⟩]; rfl
    have e4 : ∀ j, j < 8 → (zI (zL (zI τ2 7 3 (0 : Int32)) 10 6 (0 : Int64)) 16 2 (0 : Int32)).1.1 4 j = nI ((txF m b 121 0 0 f0 0).2.2.1 j) := by
      intro j hj
      rw [zI_row (by decide), zL_i, zI_row (by decide)]; exact h2 j hj
    have e73 : (zI (zL (zI τ2 7 3 (0 : Int32)) 10 6 (0 : Int64)) 16 2 (0 : Int32)).1.1 7 3 = 0 := by
      rw [zI_row (by decide), zL_i, zI_at, if_pos ⟨rfl, rfl⟩]
    have e106 : (zI (zL (zI τ2 7 3 (0 : Int32)) 10 6 (0 : Int64)) 16 2 (0 : Int32)).1.2 10 6 = 0 := by
      rw [zI_l, zL_at, if_pos ⟨rfl, rfl⟩]
    have e162 : (zI (zL (zI τ2 7 3 (0 : Int32)) 10 6 (0 : Int64)) 16 2 (0 : Int32)).1.1 16 2 = 0 := by
      rw [zI_at, if_pos ⟨rfl, rfl⟩]
    generalize zI (zL (zI τ2 7 3 (0 : Int32)) 10 6 (0 : Int64)) 16 2 (0 : Int32) = τ3 at *
    have hTm : Tm m b τ3 := hT.m.sm s1 (by decide) (by rw [(s1 29 (by decide)).1])
    have hIc : I_const τ3 := a5.fr (s1 33 (by decide)).1 (s1 34 (by decide)).1
    rw [e7]
    refine pi_ok (sp_mtext hTm hIc (fun _ τ4 k1 k3 k4 k30 => ⟨rfl, ?_⟩) (fun d => absurd c d))
    refine ⟨(txF m b 121 0 0 f0 0).2.2.1, ⟨hR.2.2.1, fun j hj => ⟨?_, k30 j hj⟩⟩, ⟨0, by decide, ?_, k3, fun j hj => absurd hj (by omega)⟩, ?_, fun k hk => ?_, ?_, Or.inl ?_, Or.inl ?_, Or.inl ?_⟩
    · rw [(k1 4 (by decide)).1]; exact e4 j hj
    · rw [(k1 1 (by decide)).1]; exact e1
    · unfold I_fault
      rw [(k1 5 (by decide)).1, e8, k4]
    · have f : ∀ q, q ∉ [1, 4, 5, 6, 7, 10, 16] → q ∉ [29, 30, 31] → τ4.1.1 q = τ.1.1 q := fun q h1 h2 => ((k1 q h2).1).trans (s1 q h1).1
      exact (a4 k hk).fr (f 26 (by decide) (by decide)) (f 27 (by decide) (by decide)) (f 28 (by decide) (by decide)) (f 46 (by decide) (by decide)) (f 47 (by decide) (by decide)) (f 48 (by decide) (by decide))
    · exact hIc.fr (k1 33 (by decide)).1 (k1 34 (by decide)).1
    · rw [(k1 7 (by decide)).1]; exact e73
    · rw [(k1 10 (by decide)).2]; exact e106
    · rw [(k1 16 (by decide)).1]; exact e162
  · refine sp_cut0 hm (by rw [(g1 1 (by decide)).1]; exact hT.2.1) ⟨fun y => absurd rfl y, fun _ => C_X4_faultPlace _ (pi_ok ?_)⟩
    have s1 : Sm [1, 5, 6] τ (zI τ1 1 1 (0 : Int32)) := (g1.wk (by decide)).I (by decide)
    have e5 : (zI τ1 1 1 (0 : Int32)).1.1 5 5 = nI (txF m b 121 0 0 f0 0).2.1 := by rw [zI_row (by decide)]; exact g5
    have e8 : (zI τ1 1 1 (0 : Int32)).1.1 5 8 = nI (txF m b 121 0 0 f0 0).1 := by rw [zI_row (by decide)]; exact g8
    have e1 : (zI τ1 1 1 (0 : Int32)).1.1 1 1 = nI 0 := by rw [zI_at, if_pos ⟨rfl, rfl⟩]; rfl
    generalize zI τ1 1 1 (0 : Int32) = τ3 at *
    have hTm : Tm m b τ3 := hT.m.sm s1 (by decide) (by rw [(s1 29 (by decide)).1])
    have hIc : I_const τ3 := a5.fr (s1 33 (by decide)).1 (s1 34 (by decide)).1
    rw [e5]
    refine pi_ok (sp_mtext hTm hIc (fun d => absurd d c) (fun _ τ4 k1 k3 k4 => ⟨rfl, ?_⟩))
    have f : ∀ q, q ∉ [1, 5, 6] → q ∉ [29, 31] → τ4.1.1 q = τ.1.1 q := fun q h1 h2 => ((k1 q h2).1).trans (s1 q h1).1
    have g : ∀ q, q ∉ [1, 5, 6] → q ∉ [29, 31] → τ4.1.2 q = τ.1.2 q := fun q h1 h2 => ((k1 q h2).2).trans (s1 q h1).2
    refine ⟨v, a1.fr (f 4 (by decide) (by decide)) (f 30 (by decide) (by decide)), ⟨0, by decide, ?_, k3, fun j hj => absurd hj (by omega)⟩, ?_, fun k hk => (a4 k hk).fr (f 26 (by decide) (by decide)) (f 27 (by decide) (by decide)) (f 28 (by decide) (by decide)) (f 46 (by decide) (by decide)) (f 47 (by decide) (by decide)) (f 48 (by decide) (by decide)), a5.fr (f 33 (by decide) (by decide)) (f 34 (by decide) (by decide)), a6.fr (f 7 (by decide) (by decide)) (g 8 (by decide) (by decide)) (g 9 (by decide) (by decide)), ?_, a8.fr (f 16 (by decide) (by decide)) (g 17 (by decide) (by decide))⟩
    · rw [(k1 1 (by decide)).1]; exact e1
    · unfold I_fault
      rw [(k1 5 (by decide)).1, e8, k4]
    · exact a7.fr (by rw [f 10 (by decide) (by decide)]) (by rw [g 10 (by decide) (by decide)]) (by rw [g 10 (by decide) (by decide)]) (f 11 (by decide) (by decide)) (g 12 (by decide) (by decide)) (g 13 (by decide) (by decide))

/-! the reference reads a token -/
def F29 (τ τ' : hz_T) : Prop := Sm [29] τ τ' ∧ τ'.1.1 29 3 = τ.1.1 29 3 ∧ τ'.1.1 29 4 = τ.1.1 29 4 ∧ τ'.1.1 29 11 = τ.1.1 29 11
theorem F29.rf {τ : hz_T} : F29 τ τ := ⟨Sm.rf, rfl, rfl, rfl⟩
theorem F29.tr {a b c : hz_T} (h1 : F29 a b) (h2 : F29 b c) : F29 a c := ⟨h1.1.tr h2.1, h2.2.1.trans h1.2.1, h2.2.2.1.trans h1.2.2.1, h2.2.2.2.trans h1.2.2.2⟩
theorem F29.I {a b : hz_T} (h : F29 a b) {j : Nat} (hj : j ≠ 3 ∧ j ≠ 4 ∧ j ≠ 11) (x : Int32) : F29 a (zI b 29 j x) := ⟨h.1.I (by decide), by rw [zI_at, if_neg (by omega)]; exact h.2.1, by rw [zI_at, if_neg (by omega)]; exact h.2.2.1, by rw [zI_at, if_neg (by omega)]; exact h.2.2.2⟩
theorem Tm.f29 {m : Nat} {b : Nat → Nat} {τ τ' : hz_T} (h : Tm m b τ) (hs : F29 τ τ') : Tm m b τ' := h.sm hs.1 (by decide) hs.2.1
theorem I_const.f29 {τ τ' : hz_T} (h : I_const τ) (hs : F29 τ τ') : I_const τ' := h.fr (hs.1 33 (by decide)).1 (hs.1 34 (by decide)).1
def MT (t : Nat × Nat × Nat × Nat) (τ : hz_T) : Prop := (t.1 = 0 ∧ τ.1.1 29 5 = 1 ∧ τ.1.1 29 6 = nI t.2.2.1) ∨ (t.1 ≠ 0 ∧ τ.1.1 29 5 = 0 ∧ τ.1.1 29 9 = nI (if t.1 = 4 then 0 else t.1) ∧ τ.1.1 29 8 = nI t.2.2.1 ∧ τ.1.1 29 7 = nI t.2.2.2 ∧ ((t.1 = 1 ∨ t.1 = 2) → τ.1.1 29 10 = nI t.2.1))
def ends (j : Nat) : Nat := [0, 4, 8, 11, 13, 16].getD j 0
def ltrs (j : Nat) : Nat := [114, 105, 110, 103, 111, 112, 101, 110, 104, 111, 112, 105, 110, 111, 117, 116].getD j 0
theorem tb_ends : ∀ n, n < 5 → nI (ends (n + 1)) - nI (ends n) = nI (nms n).length ∧ (nms n).length ≤ 4 ∧ ∀ k, k < 4 → k < (nms n).length → ends n + k < 16 ∧ ltrs (ends n + k) = (nms n).getD k 0 ∧ ltrs (ends n + k) < 256 := by decide +kernel
theorem nmF_at {b : Nat → Nat} {q L n : Nat} (hn : n < 5) (h1 : ∀ k, k < n → nmM b q L k = false) (h2 : nmM b q L n = true) : nmF b q L = n := by
  unfold nmF
  match n, hn with
  | 0, _ => rw [if_pos h2]
  | 1, _ => rw [h1 0 (by omega), if_neg (by decide), if_pos h2]
  | 2, _ => rw [h1 0 (by omega), h1 1 (by omega), if_neg (by decide), if_neg (by decide), if_pos h2]
  | 3, _ => rw [h1 0 (by omega), h1 1 (by omega), h1 2 (by omega), if_neg (by decide), if_neg (by decide), if_neg (by decide), if_pos h2]
  | 4, _ => rw [h1 0 (by omega), h1 1 (by omega), h1 2 (by omega), h1 3 (by omega), if_neg (by decide), if_neg (by decide), if_neg (by decide), if_neg (by decide), if_pos h2]
theorem nmF_no {b : Nat → Nat} {q L : Nat} (h1 : ∀ k, k < 5 → nmM b q L k = false) : nmF b q L = 5 := by
  unfold nmF
  rw [h1 0 (by omega), h1 1 (by omega), h1 2 (by omega), h1 3 (by omega), h1 4 (by omega)]
  rfl
theorem nmM_iff {b : Nat → Nat} {q L n : Nat} : nmM b q L n = true ↔ L = (nms n).length ∧ ∀ k, k < L → b (q + k) = (nms n).getD k 0 := by
  unfold nmM
  rw [Bool.and_eq_true, decide_eq_true_iff, List.all_eq_true]
  constructor
  · intro h; exact ⟨h.1, fun k hk => beq_iff_eq.1 (h.2 k (List.mem_range.2 hk))⟩
  · intro h; exact ⟨h.1, fun k hk => beq_iff_eq.2 (h.2 k (List.mem_range.1 hk))⟩
section NX
variable {G : hz_G} {τ : hz_T} {m : Nat} {b : Nat → Nat} {χ : hz_T → Prop} {φ : Int32 → hz_T → Prop}
theorem sp_nameAt (hT : Tm m b τ) (hI : I_const τ) {q L : Nat} (hqL : q + L ≤ m) (H : φ (if nmF b q L = 5 then -4 else nI (nmF b q L)) τ) : zCall G MX12_nameAt [.ref 29, .int (nI q), .int (nI (q + L))] τ (zpi φ) := by
  have hm := hT.1
  have hb : ∀ j, j < m → b j < 256 := fun j hj => (hT.2.2.2 j hj).1
  have eL : nI (q + L) - nI q = nI L := by rw [pk_sub (by omega), Nat.add_sub_cancel_left]
  refine C_X12_nameAt _ _ τ ?_
  have outer : ∀ d n, n + d = 5 → (∀ k, k < n → nmM b q L k = false) → zRun G MX12_nameAt 2 [(0, .ref 29), (1, .int (nI q)), (2, .int (nI (q + L))), (3, .int (nI n))] [] τ (zpi φ) := by
    intro d
    induction d with
    | zero =>
      intro n e g
      have e : n = 5 := by omega
      subst e
      refine V_X12_nameAt_2 _ _ _ τ ⟨fun _ => pi_ok ?_, fun y => absurd (show nI 5 ≤ nI 5 from nI_le (Nat.le_refl _) (by decide)) y⟩
      rw [if_pos (nmF_no g)] at H; exact H
    | succ d ih =>
      intro n e g
      have hn : n < 5 := by omega
      obtain ⟨t1, t2, t3⟩ := tb_ends n hn
      have c1 : τ.1.1 33 (n + 1) = nI (ends (n + 1)) := hI.1 (n + 1) (by omega)
      have c2 : τ.1.1 33 n = nI (ends n) := hI.1 n (by omega)
      refine V_X12_nameAt_2 _ _ _ τ ⟨fun y => absurd (show nI 5 ≤ nI n from y) (nI_ge (by omega) (by decide)), fun _ => ⟨n + 1, i1 n, by omega, n, rfl, by omega, fun x hx => ?_⟩⟩
      rw [eL, c1, c2, t1] at hx
      have nxt : nmM b q L n = false → zRun G MX12_nameAt 2 [(0, .ref 29), (1, .int (nI q)), (2, .int (nI (q + L))), (3, .int (nI n + (1 : Int32)))] [] τ (zpi φ) := by
        intro z
        rw [i1]
        refine ih (n + 1) (by omega) (fun k hk => ?_)
        by_cases w : k = n
        · rw [w]; exact z
        · exact g k (by omega)
      have inner : ∀ d k (f : Int32), k + d = L → ((f = 1 ∧ L = (nms n).length ∧ ∀ j, j < k → b (q + j) = (nms n).getD j 0) ∨ (f = 0 ∧ nmM b q L n = false)) → zRun G MX12_nameAt 38 [(0, .ref 29), (1, .int (nI q)), (2, .int (nI (q + L))), (3, .int (nI n)), (4, .int f), (5, .int (nI k))] [] τ (zpi φ) := by
        intro d
        induction d with
        | zero =>
          intro k f e2 g2
          have e2 : k = L := by omega
          refine V_X12_nameAt_38 _ _ _ _ _ τ ?_
          rw [eL, e2]
          refine ⟨fun _ => ?_, fun y => absurd (nI_le (Nat.le_refl _) (by omega)) y⟩
          rcases g2 with ⟨f1, f2, f3⟩ | ⟨f1, f2⟩
          · rw [f1]
            refine ⟨fun y => absurd y (by decide), fun _ => pi_ok ?_⟩
            rw [e2] at f3
            have := nmF_at hn g (nmM_iff.2 ⟨f2, f3⟩)
            rw [this, if_neg (by omega)] at H
            exact H
          · rw [f1]
            exact ⟨fun _ => nxt f2, fun y => absurd rfl y⟩
        | succ d ihd =>
          intro k f e2 g2
          refine V_X12_nameAt_38 _ _ _ _ _ τ ?_
          rw [eL]
          refine ⟨fun y => absurd y (nI_ge (by omega) (by omega)), fun _ => ?_⟩
          rcases g2 with ⟨f1, f2, f3⟩ | ⟨f1, f2⟩
          · rw [f1]
            refine ⟨fun y => absurd y (by decide), fun _ => ?_⟩
            have hkL : k < (nms n).length := by omega
            obtain ⟨u1, u2, u3⟩ := t3 k (by omega) hkL
            rw [nI_add]
            refine sp_mbyte hT (by omega) ⟨n, rfl, by omega, ends n + k, by rw [c2, nI_add], u1, fun y hy => ?_⟩
            have c3 : τ.1.1 34 (ends n + k) = nI (ltrs (ends n + k)) := hI.2 _ u1
            have hbk := hb (q + k) (by omega)
            have emb : mb m b (q + k) = nI (b (q + k)) := if_pos (by omega)
            rw [c3, emb] at hy
            rw [i1]
            by_cases w : b (q + k) = (nms n).getD k 0
            · rw [if_pos (by rw [w, u2])] at hy
              refine ihd (k + 1) y (by omega) (Or.inl ⟨hy, f2, fun j hj => ?_⟩)
              by_cases z : j = k
              · rw [z]; exact w
              · exact f3 j (by omega)
            · rw [if_neg (fun z => w (by rw [← u2]; exact (nI_eq (by omega) (by omega)).1 z))] at hy
              refine ihd (k + 1) y (by omega) (Or.inr ⟨hy, ?_⟩)
              cases hh : nmM b q L n with
              | false => rfl
              | true => exact absurd ((nmM_iff.1 hh).2 k (by omega)) w
          · rw [f1]
            exact ⟨fun _ => ⟨fun _ => nxt f2, fun y => absurd rfl y⟩, fun y => absurd rfl y⟩
      have hle := ppop_le 0
      refine inner L 0 x (by omega) ?_
      by_cases w : L = (nms n).length
      · rw [if_pos (by rw [w])] at hx
        exact Or.inl ⟨hx, w, fun j hj => absurd hj (by omega)⟩
      · rw [if_neg (fun z => w ((nI_eq (by omega) (by omega)).1 z))] at hx
        exact Or.inr ⟨hx, nmM_len w⟩
  exact outer 5 0 rfl (fun k hk => absurd hk (by omega))
theorem sp_fails {x : Int32} (h5 : τ.1.1 29 5 = 0) (H : χ (zI (zI τ 29 5 x) 29 6 (τ.1.1 29 8))) : zCall G MX12_fails [.ref 29, .int x] τ (zpv χ) := C_X12_fails _ τ ⟨fun y => absurd h5 y, fun _ => pv_ok H⟩
theorem sp_fails2 {x : Int32} (h5 : ¬ τ.1.1 29 5 = 0) (H : χ τ) : zCall G MX12_fails [.ref 29, .int x] τ (zpv χ) := C_X12_fails _ τ ⟨fun _ => pv_ok H, fun y => absurd y h5⟩
theorem sp_next (hT : Tm m b τ) (hI : I_const τ) {p : Nat} (hp : p ≤ m) (h5 : τ.1.1 29 5 = 0) (h7 : τ.1.1 29 7 = nI p) (H : ∀ τ', F29 τ τ' → MT (tk m b p) τ' → χ τ') : zCall G MX12_next [.ref 29] τ (zpv χ) := by
  have hm := hT.1
  have hb : ∀ j, j < m → b j < 256 := fun j hj => (hT.2.2.2 j hj).1
  obtain ⟨c1, c2, c3, c4⟩ := tkq_ok (b := b) hm hp
  refine C_X12_next τ ⟨fun _ => ?_, fun y => absurd (by rw [h5]; decide) y⟩
  unfold tk tk1 at H
  have loop : ∀ d j τ1, p + j + d = tkq m b p → F29 τ τ1 → τ1.1.1 29 5 = 0 → τ1.1.1 29 7 = nI (p + j) → zRun G MX12_next 8 [(0, .ref 29)] [] τ1 (zpv χ) := by
    intro d
    induction d with
    | succ d ih =>
      intro j τ1 e g1 g5 g7
      have h32 : (b (p + j) == 32) = true := c3 (p + j) (by omega) (by omega)
      have k32 : mb m b (p + j) = (32 : Int32) ↔ p + j < m ∧ b (p + j) = 32 := mb_eq (k := 32) hb (by decide)
      refine V_X12_next_8 τ1 ?_
      rw [g7]
      refine sp_mbyte (hT.f29 g1) (by omega) ⟨fun y => absurd (k32.2 ⟨by omega, beq_iff_eq.1 h32⟩) y, fun _ => ?_⟩
      rw [g7, i1]
      refine ih (j + 1) _ (by omega) (g1.I (by decide) _) ?_ ?_
      · rw [zI_at, if_neg (by decide)]; exact g5
      · rw [zI_at, if_pos ⟨rfl, rfl⟩]; rfl
    | zero =>
      intro j τ1 e g1 g5 g7
      have e : p + j = tkq m b p := by omega
      have k32 : mb m b (p + j) = (32 : Int32) ↔ p + j < m ∧ b (p + j) = 32 := mb_eq (k := 32) hb (by decide)
      refine V_X12_next_8 τ1 ?_
      rw [g7]
      refine sp_mbyte (hT.f29 g1) (by omega) ⟨fun _ => ?_, fun y => ?_⟩
      · rw [g7, e]
        rw [e] at g7
        clear k32
        generalize tkq m b p = q at *
        have g1' := g1.I (j := 8) (by decide) (nI q)
        have k59 : mb m b q = (59 : Int32) ↔ q < m ∧ b q = 59 := mb_eq (k := 59) hb (by decide)
        refine sp_mbyte (hT.f29 g1') (by omega) ?_
        rw [mb_end hb, k59]
        have g2' := g1'.I (j := 10) (by decide) (0 : Int32)
        generalize hτ2 : zI (zI τ1 29 8 (nI q)) 29 10 (0 : Int32) = τ2 at g2'
        have f8 : τ2.1.1 29 8 = nI q := by rw [← hτ2, zI_at, if_neg (by decide), zI_at, if_pos ⟨rfl, rfl⟩]
        have f5 : τ2.1.1 29 5 = 0 := by rw [← hτ2, zI_at, if_neg (by decide), zI_at, if_neg (by decide)]; exact g5
        have f7 : τ2.1.1 29 7 = nI q := by rw [← hτ2, zI_at, if_neg (by decide), zI_at, if_neg (by decide)]; exact g7
        have f10 : τ2.1.1 29 10 = 0 := by rw [← hτ2, zI_at, if_pos ⟨rfl, rfl⟩]
        refine ⟨fun w => ?_, fun w => pv_ok ?_⟩
        · have w : q < m := by omega
          rw [if_pos w] at H
          refine sp_in ?_
          refine b_a (fun y => sp_in (b_a (fun y2 => ?_) (fun y2 => ?_))) (fun y => ?_)
          · rw [in_L hb] at y
            rw [in_F hb] at y2
            refine ⟨fun z => pv_ok ?_, fun z => sp_fails ?_ (pv_ok ?_)⟩
            · rw [if_pos z.2] at H
              refine H _ ((g2'.I (by decide) _).I (by decide) _) (Or.inr ⟨show 3 ≠ 0 by decide, ?_, ?_, ?_, ?_, fun h => absurd (show 3 = 1 ∨ 3 = 2 from h) (by decide)⟩)
              · rw [zI_at, if_neg (by decide), zI_at, if_neg (by decide)]; exact f5
              · rw [zI_at, if_neg (by decide), zI_at, if_pos ⟨rfl, rfl⟩]; rfl
              · rw [zI_at, if_neg (by decide), zI_at, if_neg (by decide)]; exact f8
              · rw [zI_at, if_pos ⟨rfl, rfl⟩, f7, i1]
            · rw [zI_at, if_neg (by decide), zI_at, if_neg (by decide)]; exact f5
            · have z1 : ¬ b q = 59 := fun e => z ⟨w, e⟩
              have z2 : ¬ isL (b q) = true := fun e => y ⟨w, e⟩
              have z3 : ¬ isF (b q) = true := fun e => y2 ⟨w, e⟩
              rw [if_neg z1, if_neg z2, if_neg z3] at H
              refine H _ ((((g2'.I (by decide) _).I (by decide) _).I (by decide) _).I (by decide) _) (Or.inl ⟨rfl, ?_, ?_⟩)
              · rw [zI_at, if_neg (by decide), zI_at, if_pos ⟨rfl, rfl⟩]
              · rw [zI_at, if_pos ⟨rfl, rfl⟩, zI_at, if_neg (by decide), zI_at, if_neg (by decide)]; exact f8
          · rw [in_L hb] at y
            rw [in_F hb] at y2
            have z1 : ¬ b q = 59 := by
              intro e
              have := isF_ok y2.2
              omega
            have z2 : ¬ isL (b q) = true := fun e => y ⟨w, e⟩
            rw [if_neg z1, if_neg z2, if_pos y2.2] at H
            obtain ⟨d1, d2, d3, d4⟩ := tkF_ok (b := b) (p := q) hm (by omega)
            have num : ∀ f i τ3, q + i + f = tkF m b q → F29 τ τ3 → τ3.1.1 29 5 = 0 → τ3.1.1 29 8 = nI q → τ3.1.1 29 7 = nI (q + i) → τ3.1.1 29 10 = nI (tkV b q (if i ≤ 2 then i else 2)) → zRun G MX12_next 170 [(0, .ref 29)] [] τ3 (zpv χ) := by
              intro f
              induction f with
              | zero =>
                intro i τ3 e2 k1 k5 k8 k7 k10
                have e2 : q + i = tkF m b q := by omega
                refine V_X12_next_170 τ3 ?_
                rw [k7]
                refine sp_mbyte (hT.f29 k1) (by omega) (sp_in (b_a (fun _ => ?_) (fun z => ?_)))
                · have kL : nI (q + i) - nI q = nI i := by rw [pk_sub (by omega), Nat.add_sub_cancel_left]
                  have k2 : nI i ≤ (2 : Int32) ↔ i ≤ 2 := nI_leI (b := 2) (by omega) (by decide)
                  have eLi : tkF m b q - q = i := by omega
                  rw [k7, k8, kL, k2]
                  rw [eLi] at H
                  refine ⟨fun z => pv_ok ?_, fun z => sp_fails ?_ (pv_ok ?_)⟩
                  · rw [if_pos z] at H k10
                    refine H _ (k1.I (by decide) _) (Or.inr ⟨show 2 ≠ 0 by decide, ?_, ?_, ?_, ?_, fun _ => ?_⟩)
                    · rw [zI_at, if_neg (by decide)]; exact k5
                    · rw [zI_at, if_pos ⟨rfl, rfl⟩]; rfl
                    · rw [zI_at, if_neg (by decide)]; exact k8
                    · rw [zI_at, if_neg (by decide), k7, e2]
                    · rw [zI_at, if_neg (by decide)]; exact k10
                  · rw [zI_at, if_neg (by decide)]; exact k5
                  · rw [if_neg z] at H
                    refine H _ (((k1.I (by decide) _).I (by decide) _).I (by decide) _) (Or.inl ⟨rfl, ?_, ?_⟩)
                    · rw [zI_at, if_neg (by decide), zI_at, if_pos ⟨rfl, rfl⟩]
                    · rw [zI_at, if_pos ⟨rfl, rfl⟩, zI_at, if_neg (by decide)]; exact k8
                · rw [in_F hb, e2] at z
                  have this : isF (b (tkF m b q)) = false := d4 z.1
                  rw [this] at z
                  exact absurd z.2 (by decide)
              | succ f ihf =>
                intro i τ3 e2 k1 k5 k8 k7 k10
                have hpm : q + i < m := by omega
                have hF : isF (b (q + i)) = true := d3 (q + i) (by omega) (by omega)
                have kL : nI (q + i) - nI q = nI i := by rw [pk_sub (by omega), Nat.add_sub_cancel_left]
                have k2 : (2 : Int32) ≤ nI i ↔ 2 ≤ i := nI_leI (a := 2) (by decide) (by omega)
                refine V_X12_next_170 τ3 ?_
                rw [k7]
                refine sp_mbyte (hT.f29 k1) (by omega) (sp_in (b_a (fun z => absurd ((in_F hb).2 ⟨hpm, hF⟩) z) (fun _ => ?_)))
                rw [k7, k8, kL, k2]
                refine ⟨fun z => ?_, fun z => sp_mbyte (hT.f29 k1) (by omega) ?_⟩
                · rw [i1]
                  refine ihf (i + 1) _ (by omega) ((k1.I (by decide) _).I (by decide) _) ?_ ?_ ?_ ?_
                  · rw [zI_at, if_neg (by decide), zI_at, if_neg (by decide)]; exact k5
                  · rw [zI_at, if_neg (by decide), zI_at, if_neg (by decide)]; exact k8
                  · rw [zI_at, if_pos ⟨rfl, rfl⟩]; rfl
                  · have ea : (if i ≤ 2 then i else 2) = 2 := by split <;> omega
                    have eb : (if i + 1 ≤ 2 then i + 1 else 2) = 2 := by split <;> omega
                    rw [zI_at, if_neg (by decide), zI_at, if_pos ⟨rfl, rfl⟩, k10, ea, eb]
                · rw [k7, i1]
                  have emb : mb m b (q + i) = nI (b (q + i)) := if_pos hpm
                  refine ihf (i + 1) _ (by omega) ((k1.I (by decide) _).I (by decide) _) ?_ ?_ ?_ ?_
                  · rw [zI_at, if_neg (by decide), zI_at, if_neg (by decide)]; exact k5
                  · rw [zI_at, if_neg (by decide), zI_at, if_neg (by decide)]; exact k8
                  · rw [zI_at, if_pos ⟨rfl, rfl⟩]; rfl
                  · rw [zI_at, if_neg (by decide), zI_at, if_pos ⟨rfl, rfl⟩, k10, emb, if_pos (by omega), if_pos (by omega)]
                    have l0 := isF_ok y2.2
                    obtain ⟨v1, v2⟩ := tb_v (b q - 48) (by omega)
                    rcases (show i = 0 ∨ i = 1 by omega) with z0 | z0
                    · subst z0
                      have := (v2 0 (by decide)).2.2
                      rw [show 48 + (b q - 48) = b q by omega] at this
                      exact this
                    · subst z0
                      have l1 := isF_ok hF
                      have := (v2 (b (q + 1) - 48) (by omega)).2.1
                      rw [show 48 + (b (q + 1) - 48) = b (q + 1) by omega] at this
                      exact this
            exact num (tkF m b q - q) 0 τ2 (by omega) g2' f5 f8 f7 f10
          · rw [in_L hb] at y
            have z1 : ¬ b q = 59 := by
              intro e
              have := isL_ok y.2
              omega
            rw [if_neg z1, if_pos y.2] at H
            obtain ⟨d1, d2, d3, d4⟩ := tkL_ok (b := b) (p := q) hm (by omega)
            have nam : ∀ f i τ3, q + i + f = tkL m b q → F29 τ τ3 → τ3.1.1 29 5 = 0 → τ3.1.1 29 8 = nI q → τ3.1.1 29 7 = nI (q + i) → zRun G MX12_next 84 [(0, .ref 29)] [] τ3 (zpv χ) := by
              intro f
              induction f with
              | zero =>
                intro i τ3 e2 k1 k5 k8 k7
                have e2 : q + i = tkL m b q := by omega
                refine V_X12_next_84 τ3 ?_
                rw [k7]
                refine sp_mbyte (hT.f29 k1) (by omega) (sp_in (b_a (fun _ => ?_) (fun z => ?_)))
                · have eLi : tkL m b q - q = i := by omega
                  rw [k7, k8]
                  rw [eLi] at H
                  have k1' := k1.I (j := 9) (by decide) (1 : Int32)
                  refine sp_nameAt (hT.f29 k1') (hI.f29 k1') (by omega) ?_
                  by_cases z : nmF b q i = 5
                  · rw [if_pos z]
                    rw [if_pos z] at H
                    refine ⟨fun z2 => absurd rfl z2, fun _ => sp_fails ?_ (pv_ok (H _ (((k1'.I (by decide) _).I (by decide) _).I (by decide) _) (Or.inl ⟨rfl, ?_, ?_⟩)))⟩
                    · rw [zI_at, if_neg (by decide), zI_at, if_neg (by decide)]; exact k5
                    · rw [zI_at, if_neg (by decide), zI_at, if_pos ⟨rfl, rfl⟩]
                    · rw [zI_at, if_pos ⟨rfl, rfl⟩, zI_at, if_neg (by decide), zI_at, if_neg (by decide)]; exact k8
                  · rw [if_neg z]
                    rw [if_neg z] at H
                    have hn5 : nmF b q i < 2 ^ 31 := by
                      have : nmF b q i ≤ 5 := by
                        unfold nmF
                        split
                        · omega
                        · split
                          · omega
                          · split
                            · omega
                            · split
                              · omega
                              · split <;> omega
                      omega
                    refine ⟨fun _ => pv_ok (H _ (k1'.I (by decide) _) (Or.inr ⟨show 1 ≠ 0 by decide, ?_, ?_, ?_, ?_, fun _ => ?_⟩)), fun z2 => absurd z2 (nI_m4 hn5)⟩
                    · rw [zI_at, if_neg (by decide), zI_at, if_neg (by decide)]; exact k5
                    · rw [zI_at, if_neg (by decide), zI_at, if_pos ⟨rfl, rfl⟩]; rfl
                    · rw [zI_at, if_neg (by decide), zI_at, if_neg (by decide)]; exact k8
                    · rw [zI_at, if_neg (by decide), zI_at, if_neg (by decide), k7, e2]
                    · rw [zI_at, if_pos ⟨rfl, rfl⟩]
                · rw [in_L hb, e2] at z
                  have this : isL (b (tkL m b q)) = false := d4 z.1
                  rw [this] at z
                  exact absurd z.2 (by decide)
              | succ f ihf =>
                intro i τ3 e2 k1 k5 k8 k7
                have hpm : q + i < m := by omega
                have hL : isL (b (q + i)) = true := d3 (q + i) (by omega) (by omega)
                refine V_X12_next_84 τ3 ?_
                rw [k7]
                refine sp_mbyte (hT.f29 k1) (by omega) (sp_in (b_a (fun z => absurd ((in_L hb).2 ⟨hpm, hL⟩) z) (fun _ => ?_)))
                rw [k7, i1]
                refine ihf (i + 1) _ (by omega) (k1.I (by decide) _) ?_ ?_ ?_
                · rw [zI_at, if_neg (by decide)]; exact k5
                · rw [zI_at, if_neg (by decide)]; exact k8
                · rw [zI_at, if_pos ⟨rfl, rfl⟩]; rfl
            exact nam (tkL m b q - q) 0 τ2 (by omega) g2' f5 f8 f7
        · rw [if_neg w] at H
          refine H _ (g2'.I (by decide) _) (Or.inr ⟨show 4 ≠ 0 by decide, ?_, ?_, ?_, ?_, fun h => absurd (show 4 = 1 ∨ 4 = 2 from h) (by decide)⟩)
          · rw [zI_at, if_neg (by decide)]; exact f5
          · rw [zI_at, if_pos ⟨rfl, rfl⟩]; rfl
          · rw [zI_at, if_neg (by decide)]; exact f8
          · rw [zI_at, if_neg (by decide)]; exact f7
      · have y := k32.1 y
        have this : (b (tkq m b p) == 32) = false := c4 (by omega)
        rw [← e, y.2] at this
        exact absurd this (by decide)
  exact loop (tkq m b p - p) 0 τ (by omega) F29.rf h5 h7
theorem sp_next2 (h5 : ¬ τ.1.1 29 5 ≤ 0) (H : χ τ) : zCall G MX12_next [.ref 29] τ (zpv χ) := C_X12_next τ ⟨fun y => absurd y h5, fun _ => pv_ok H⟩
end NX

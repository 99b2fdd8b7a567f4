/-! rows of shares judged -/
def J9 (τ τ' : hz_T) : Prop := Sm [10, 15] τ τ' ∧ τ'.1.1 10 = τ.1.1 10 ∧ τ'.1.2 10 6 = τ.1.2 10 6 ∧ τ'.1.2 10 8 = τ.1.2 10 8
theorem J9.rf {τ : hz_T} : J9 τ τ := ⟨Sm.rf, rfl, rfl, rfl⟩
theorem J9.tr {a b c : hz_T} (h1 : J9 a b) (h2 : J9 b c) : J9 a c := ⟨h1.1.tr h2.1, h2.2.1.trans h1.2.1, h2.2.2.1.trans h1.2.2.1, h2.2.2.2.trans h1.2.2.2⟩
theorem J9.s {a b : hz_T} (h : J9 a b) (j : Nat) (x : Int64) : J9 a (zL b 15 j x) := ⟨h.1.L (by decide), h.2.1, by rw [zL_at, if_neg (by omega)]; exact h.2.2.1, by rw [zL_at, if_neg (by omega)]; exact h.2.2.2⟩
theorem J9.p {a b : hz_T} (h : J9 a b) (x : Int64) : J9 a (zL b 10 9 x) := ⟨h.1.L (by decide), h.2.1, by rw [zL_at, if_neg (by decide)]; exact h.2.2.1, by rw [zL_at, if_neg (by decide)]; exact h.2.2.2⟩
theorem InvV.j {v : Nat → Nat} {τ τ' : hz_T} (h : InvV v τ) (hs : J9 τ τ') : InvV v τ' := by
  obtain ⟨a1, a2, a3, a4, a5, a6, a7, a8⟩ := h
  have f : ∀ q, q ∉ [10, 15] → τ'.1.1 q = τ.1.1 q := fun q hq => (hs.1 q hq).1
  have g : ∀ q, q ∉ [10, 15] → τ'.1.2 q = τ.1.2 q := fun q hq => (hs.1 q hq).2
  refine ⟨a1.fr (f 4 (by decide)) (f 30 (by decide)), a2.fr (f 1 (by decide)) (f 2 (by decide)) (by rw [f 29 (by decide)]) (f 32 (by decide)), ?_, fun k hk => (a4 k hk).fr (f 26 (by decide)) (f 27 (by decide)) (f 28 (by decide)) (f 46 (by decide)) (f 47 (by decide)) (f 48 (by decide)), a5.fr (f 33 (by decide)) (f 34 (by decide)), a6.fr (f 7 (by decide)) (g 8 (by decide)) (g 9 (by decide)), ?_, a8.fr (f 16 (by decide)) (g 17 (by decide))⟩
  · unfold I_fault at a3 ⊢
    rw [f 5 (by decide), f 29 (by decide)]
    exact a3
  · exact a7.fr (by rw [hs.2.1]) hs.2.2.1 hs.2.2.2 (f 11 (by decide)) (g 12 (by decide)) (g 13 (by decide))
/-- the share at cell i -/
def jcw (τ : hz_T) (k : Nat) (f : Int32) (i : Nat) : Int32 := τ.1.1 28 (64 * k + (f.toInt + i).toNat)
def jin (n : Nat) (f : Int32) (i : Nat) : Prop := 0 ≤ f.toInt + i ∧ f.toInt + i < n
theorem jf_in {n i : Nat} (hn : n ≤ 64) (hi : i < 64) (f : Int32) : (0 ≤ (f + nI i).toInt ∧ (f + nI i).toInt < n) ↔ jin n f i := by
  have h1 := f.toInt_lt
  have h2 := f.le_toInt
  unfold jin
  rw [Int32.toInt_add, nI_toInt (by omega)]
  by_cases q : f.toInt + (i : Int) < 2 ^ 31
  · have e : (f.toInt + (i : Int)).bmod (2 ^ 32) = f.toInt + i := by
      rw [Int.bmod_eq_of_le (by omega) (by omega)]
    rw [e]
  · have e : (f.toInt + (i : Int)).bmod (2 ^ 32) = f.toInt + i - 2 ^ 32 := by
      rw [Int.bmod_def, if_neg (by omega)]
      omega
    rw [e]
    omega
theorem jf_at {n i : Nat} (hn : n ≤ 64) (hi : i < 64) {f : Int32} (h : jin n f i) : f + nI i = nI (f.toInt + i).toNat ∧ (f.toInt + i).toNat < n := by
  have h1 := (jf_in hn hi f).2 h
  obtain ⟨j, hj, e⟩ := of_range h1.1 h1.2
  have e2 : (f + nI i).toInt = f.toInt + i := by
    have a1 := f.toInt_lt
    have a2 := f.le_toInt
    unfold jin at h
    rw [Int32.toInt_add, nI_toInt (by omega), Int.bmod_eq_of_le (by omega) (by omega)]
  rw [e, nI_toInt (by omega)] at e2
  refine ⟨?_, ?_⟩
  · rw [e]; congr 1; omega
  · unfold jin at h
    omega
/-- the answer of the row from cell i on -/
def jr (n : Nat) (f : Int32) (cw : Nat → Int32) (fv : Int32) (i : Nat) : Nat → Int32
  | 0 => fv
  | m + 1 => if ¬ (0 ≤ f.toInt + i ∧ f.toInt + i < n) then -12 else if ¬ 0 ≤ cw i then (-20 : Int32) - nI i else jr n f cw fv (i + 1) m
theorem jr_s (n : Nat) (f : Int32) (cw : Nat → Int32) (fv : Int32) (i m : Nat) : jr n f cw fv i (m + 1) = if ¬ (0 ≤ f.toInt + i ∧ f.toInt + i < n) then -12 else if ¬ 0 ≤ cw i then (-20 : Int32) - nI i else jr n f cw fv (i + 1) m := rfl
/-- what state a has too much, of the states below u -/
def jT (v : Nat → Nat) (P : Nat) (cw : Nat → Int32) (a i b : Nat) : Int64 := (cw i).toInt64 * lN (prate v b a) - (if a = b then (cw i).toInt64 * lN (pout v b) else 0)
def jS (v : Nat → Nat) (P : Nat) (cw : Nat → Int32) (u a : Nat) : Int64 := psumL u (fun b => if P.testBit b = true then jT v P cw a (ppopI P b) b else 0)
def jP (P : Nat) (cw : Nat → Int32) (u : Nat) : Int64 := psumL u (fun b => if P.testBit b = true then (fun i _ => (cw i).toInt64) (ppopI P b) b else 0)
def jA (cw : Nat → Int32) (i : Nat) : Int64 := psumL i (fun j => (cw j).toInt64)
def jM (v : Nat → Nat) (P : Nat) (cw : Nat → Int32) (i m : Nat) : Int64 := psumL m (fun j => (cw j).toInt64 * lN (prate v (memP P j) (memP P i)) - (cw i).toInt64 * lN (prate v (memP P i) (memP P j)))
theorem jP_A (P : Nat) (cw : Nat → Int32) : jP P cw 64 = jA cw (ppop P) := re_sumL P (fun i _ => (cw i).toInt64) 64 (Nat.le_refl _)
theorem l_s0 (a : Int64) : a * lN 0 = 0 := l_mul0 a
theorem l_sub0 (a : Int64) : a - 0 = a := by grind
theorem jS_out {v : Nat → Nat} (h : LaneOK v) {s a : Nat} (cw : Nat → Int32) (hs : s < 2 ^ v 0) (hsh : preach v s = ppart v s) (ha : ¬ (ppart v s).testBit a = true) (u : Nat) : jS v (ppart v s) cw u a = 0 := by
  refine psumL_z u (fun b _ => ?_)
  by_cases q : (ppart v s).testBit b = true
  · rw [if_pos q]
    unfold jT
    rw [shut_0 h hs hsh q ha, l_s0, if_neg (fun e => ha (by rw [e]; exact q)), l_sub0]
  · rw [if_neg q]
theorem jS_in {v : Nat → Nat} (h : LaneOK v) {s i : Nat} (cw : Nat → Int32) (hs : s < 2 ^ v 0) (hsh : preach v s = ppart v s) (hi : i < ppop (ppart v s)) : jS v (ppart v s) cw 64 (memP (ppart v s) i) = jM v (ppart v s) cw i (ppop (ppart v s)) := by
  obtain ⟨m1, m2, m3⟩ := memP_at hi
  have e1 : jS v (ppart v s) cw 64 (memP (ppart v s) i) = psumL (ppop (ppart v s)) (fun j => jT v (ppart v s) cw (memP (ppart v s) i) j (memP (ppart v s) j)) := re_sumL (ppart v s) (jT v (ppart v s) cw (memP (ppart v s) i)) 64 (Nat.le_refl _)
  have e2 := psumL_sub (f := fun j => (cw j).toInt64 * lN (prate v (memP (ppart v s) j) (memP (ppart v s) i))) (g := fun j => if memP (ppart v s) i = memP (ppart v s) j then (cw j).toInt64 * lN (pout v (memP (ppart v s) j)) else 0) (ppop (ppart v s))
  have e3 : psumL (ppop (ppart v s)) (fun j => if memP (ppart v s) i = memP (ppart v s) j then (cw j).toInt64 * lN (pout v (memP (ppart v s) j)) else 0) = (cw i).toInt64 * lN (pout v (memP (ppart v s) i)) := by
    have a1 : psumL (ppop (ppart v s)) (fun j => if memP (ppart v s) i = memP (ppart v s) j then (cw j).toInt64 * lN (pout v (memP (ppart v s) j)) else 0) = psumL (ppop (ppart v s)) (fun j => if i = j then (fun j => (cw j).toInt64 * lN (pout v (memP (ppart v s) j))) j else 0) := by
      refine psumL_cg _ (fun j hj => ?_)
      by_cases q : i = j
      · rw [if_pos (by rw [q]), if_pos q]
      · rw [if_neg (fun e => q (memP_inj hi hj e)), if_neg q]
    rw [a1, psumL_ind, if_pos hi]
  have e4 := psumL_sub (f := fun j => (cw j).toInt64 * lN (prate v (memP (ppart v s) j) (memP (ppart v s) i))) (g := fun j => (cw i).toInt64 * lN (prate v (memP (ppart v s) i) (memP (ppart v s) j))) (ppop (ppart v s))
  have e5 : psumL (ppop (ppart v s)) (fun j => (cw i).toInt64 * lN (prate v (memP (ppart v s) i) (memP (ppart v s) j))) = (cw i).toInt64 * lN (pout v (memP (ppart v s) i)) := by
    rw [psumL_mul, psumL_N, out_mem h hs hsh m1]
  rw [e1]
  have e2 : psumL (ppop (ppart v s)) (fun j => jT v (ppart v s) cw (memP (ppart v s) i) j (memP (ppart v s) j)) = _ := e2
  have e4 : jM v (ppart v s) cw i (ppop (ppart v s)) = _ := e4
  rw [e2, e3, e4, e5]
def jV (v : Nat → Nat) (P : Nat) (cw : Nat → Int32) : Int32 := if ¬ lg_cmp (jA cw (ppop P)) 0 ≤ 0 ∧ (∀ i, i < ppop P → jM v P cw i (ppop P) = 0) then 1 else 0
section JD
variable {G : hz_G} {τ : hz_T} {v : Nat → Nat} {χ : hz_T → Prop} {φ : Int32 → hz_T → Prop}
theorem sp_empty (H : ∀ τ', J9 τ τ' → τ'.1.2 10 9 = 0 → (∀ a, a < 64 → τ'.1.2 15 a = 0) → χ τ') : zCall G MX5_emptyShares [.ref 10] τ (zpv χ) := by
  refine C_X5_emptyShares τ ?_
  have loop : ∀ m a τ1, a + m = 64 → J9 τ τ1 → (∀ b, b < a → τ1.1.2 15 b = 0) → zRun G MX5_emptyShares 2 [(0, .ref 10), (1, .int (nI a))] [] τ1 (zpv χ) := by
    intro m
    induction m with
    | zero =>
      intro a τ1 e g1 g2
      have e : a = 64 := by omega
      subst e
      refine V_X5_emptyShares_2 _ τ1 ⟨fun _ => pv_ok (H _ (g1.p 0) ?_ (fun b hb => ?_)), fun q => absurd (nI_le (Nat.le_refl _) (by decide)) q⟩
      · rw [zL_at, if_pos ⟨rfl, rfl⟩]
      · rw [zL_at, if_neg (by omega)]; exact g2 b hb
    | succ m ih =>
      intro a τ1 e g1 g2
      refine V_X5_emptyShares_2 _ τ1 ⟨fun q => absurd q (nI_ge (by omega) (by decide)), fun _ => ⟨a, rfl, by omega, ?_⟩⟩
      rw [i1]
      refine ih (a + 1) _ (by omega) (g1.s a 0) (fun b hb => ?_)
      rw [zL_at]
      by_cases w : b = a
      · rw [if_pos ⟨rfl, w⟩]
      · rw [if_neg (fun y => w y.2)]; exact g2 b (by omega)
  exact loop 64 0 τ rfl J9.rf (fun b hb => absurd hb (by omega))
theorem l_po1 (X W p q o : Int64) : X + (W * p - W * q) - W * o = X + (W * p - W * (q + o)) := by grind
theorem l_po2 (X W p o : Int64) : X + (W * p - 0) + W * o = X + (W * (p + o) - 0) := by grind
theorem lN_a (a b : Nat) : lN (a + b) = lN a + lN b := (lN_add a b).symm
theorem sp_pour (hL : LC v τ) {u : Nat} (hu : u < 2 ^ v 0) {x : Int32} (H : ∀ τ', J9 τ τ' → τ'.1.2 10 9 = τ.1.2 10 9 + x.toInt64 → (∀ a, a < 64 → τ'.1.2 15 a = τ.1.2 15 a + (x.toInt64 * lN (prate v u a) - (if a = u then x.toInt64 * lN (pout v u) else 0))) → χ τ') : zCall G MX5_pourShare [.ref 10, .int (nI u), .int x] τ (zpv χ) := by
  have hK := hL.1
  have hp := pw64 hK.n.2
  have hG := pgates_le hK
  refine C_X5_pourShare _ _ τ ?_
  have loop : ∀ m g τ1, g + m = pgates (v 0) (v 1) → J9 τ τ1 → τ1.1.2 10 9 = τ.1.2 10 9 + x.toInt64 → (∀ a, a < 64 → τ1.1.2 15 a = τ.1.2 15 a + (x.toInt64 * lN (psum g (rF v u a)) - (if a = u then x.toInt64 * lN (psum g (oF v u)) else 0))) → zRun G MX5_pourShare 13 [(0, .ref 10), (1, .int (nI u)), (2, .int x), (3, .int (nI g))] [] τ1 (zpv χ) := by
    intro m
    induction m with
    | zero =>
      intro g τ1 e g1 g2 g3
      have e : g = pgates (v 0) (v 1) := by omega
      subst e
      exact V_X5_pourShare_13 _ _ _ τ1 (sp_gates (hL.sm g1.1 (by decide)) ⟨fun _ => pv_ok (H τ1 g1 g2 g3), fun q => absurd (nI_le (Nat.le_refl _) (by omega)) q⟩)
    | succ m ih =>
      intro g τ1 e g1 g2 g3
      have hL1 := hL.sm g1.1 (by decide)
      have hg : g < pgates (v 0) (v 1) := by omega
      have hb := pbg_ok hK hg
      have hx := Nat.xor_lt_two_pow hu hb.1
      have hne := xor_ne (s := u) hb.2
      have ho := oF_le hK u g
      refine V_X5_pourShare_13 _ _ _ τ1 (sp_gates hL1 ⟨fun q => absurd q (nI_ge (by omega) (by omega)), fun _ => sp_rateOver hL1 hu hg (sp_besideGate hL1 hg ?_)⟩)
      rw [nx_xor, i1, toI64 (by omega)]
      refine ⟨fun q => (neg_no (by omega) q).elim, fun _ => ⟨fun q => absurd q (nI_ge (by omega) (by decide)), fun _ => ⟨fun q => (neg_no (by omega) q).elim, fun _ => ⟨fun q => absurd q (nI_ge (by omega) (by decide)), fun _ => ⟨u, rfl, by omega, u, rfl, by omega, u ^^^ pbg (v 0) (v 1) g, rfl, by omega, u ^^^ pbg (v 0) (v 1) g, rfl, by omega, ?_⟩⟩⟩⟩⟩
      refine ih (g + 1) _ (by omega) ((g1.s _ _).s _ _) ?_ (fun a ha => ?_)
      · rw [zL_at, if_neg (by omega), zL_at, if_neg (by omega)]; exact g2
      · rw [zL_at]
        by_cases w : a = u ^^^ pbg (v 0) (v 1) g
        · have w2 : ¬ a = u := fun e2 => hne (by rw [← w]; exact e2)
          have eF : rF v u a g = oF v u g := if_pos w.symm
          rw [if_pos ⟨rfl, w⟩, zL_at, if_neg (fun y => hne y.2), ← w, g3 a ha, if_neg w2, if_neg w2, psum_s, eF, lN_a, l_po2]
        · have eF : rF v u a g = 0 := if_neg (fun y => w y.symm)
          rw [if_neg (fun y => w y.2), zL_at, psum_s, eF, Nat.add_zero]
          by_cases w2 : a = u
          · rw [if_pos ⟨rfl, w2⟩, if_pos w2, g3 u (by omega), if_pos rfl, psum_s, lN_a, ← l_po1, w2]
          · rw [if_neg (fun y => w2 y.2), if_neg w2, g3 a ha, if_neg w2]
  refine loop (pgates (v 0) (v 1)) 0 _ (by omega) (J9.rf.p _) ?_ (fun a ha => ?_)
  · rw [zL_at, if_pos ⟨rfl, rfl⟩]
  · rw [zL_at, if_neg (by omega), psum_0, psum_0, l_s0, ite_self, l_sub0, z64]
theorem sp_stand {S : Nat → Int64} (hS : ∀ a, a < 64 → τ.1.2 15 a = S a) (H1 : (∀ a, a < 64 → S a = 0) → φ (if lg_cmp (τ.1.2 10 9) 0 ≤ 0 then 0 else 1) τ) (H2 : ¬ (∀ a, a < 64 → S a = 0) → φ 0 τ) : zCall G MX5_sharesStand [.ref 10] τ (zpi φ) := by
  refine C_X5_sharesStand τ ?_
  have loop : ∀ m a, a + m = 64 → (∀ b, b < a → S b = 0) → zRun G MX5_sharesStand 2 [(0, .ref 10), (1, .int (nI a))] [] τ (zpi φ) := by
    intro m
    induction m with
    | zero =>
      intro a e g
      have e : a = 64 := by omega
      subst e
      exact V_X5_sharesStand_2 _ τ ⟨fun _ => pi_ok (H1 g), fun q => absurd (nI_le (Nat.le_refl _) (by decide)) q⟩
    | succ m ih =>
      intro a e g
      refine V_X5_sharesStand_2 _ τ ⟨fun q => absurd q (nI_ge (by omega) (by decide)), fun _ => ⟨a, rfl, by omega, ?_⟩⟩
      rw [hS a (by omega), lgc_eq, i1]
      refine ⟨fun q => ih (a + 1) (by omega) (fun b hb => ?_), fun q => pi_ok ?_⟩
      · rcases Nat.lt_or_ge b a with w | w
        · exact g b w
        · have : b = a := by omega
          rw [this]; exact q
      · exact H2 (fun y => q (y a (by omega)))
  exact loop 64 0 rfl (fun b hb => absurd hb (by omega))
theorem sp_judgeCells (hL : LC v τ) {s k n : Nat} (hs : s < 2 ^ v 0) (hsh : preach v s = ppart v s) (hk : k < 4) (hn : n ≤ 64) (hsz : τ.1.1 27 k = nI n) {f : Int32} (H : ∀ τ', J9 τ τ' → φ (jr n f (jcw τ k f) (jV v (ppart v s) (jcw τ k f)) 0 (ppop (ppart v s))) τ') : zCall G MX11_judgeCells [.ref 0, .long (lN (ppart v s)), .int (nI k), .int f] τ (zpi φ) := by
  have hK := hL.1
  have hp := pw64 hK.n.2
  have hP64 := ppart_64 hK s
  refine C_X11_judgeCells _ _ _ τ (sp_empty (fun τ0 j0 z0 s0 => ?_))
  have loop : ∀ m u τ1, u + m = 64 → J9 τ τ1 → τ1.1.2 10 9 = jP (ppart v s) (jcw τ k f) u → (∀ a, a < 64 → τ1.1.2 15 a = jS v (ppart v s) (jcw τ k f) u a) → (∀ τ', J9 τ τ' → φ (jr n f (jcw τ k f) (jV v (ppart v s) (jcw τ k f)) (ppopI (ppart v s) u) (ppop (ppart v s) - ppopI (ppart v s) u)) τ') → zRun G MX11_judgeCells 13 [(0, .ref 0), (1, .long (lN (ppart v s))), (3, .int (nI k)), (4, .int f), (5, .int (nI (ppopI (ppart v s) u))), (6, .int (nI u))] [] τ1 (zpi φ) := by
    intro m
    induction m with
    | zero =>
      intro u τ1 e g1 g2 g3 K
      have e : u = 64 := by omega
      subst e
      refine V_X11_judgeCells_13 _ _ _ _ _ τ1 ⟨fun _ => sp_stand g3 (fun d => pi_ok ?_) (fun d => pi_ok ?_), fun q => absurd (show nI 64 ≤ nI 64 from nI_le (Nat.le_refl _) (by decide)) q⟩
      · have K1 := K τ1 g1
        rw [ppopI_64, Nat.sub_self] at K1
        have K1 : φ (jV v (ppart v s) (jcw τ k f)) τ1 := K1
        have c : ∀ i, i < ppop (ppart v s) → jM v (ppart v s) (jcw τ k f) i (ppop (ppart v s)) = 0 := by
          intro i hi
          rw [← jS_in hK (jcw τ k f) hs hsh hi]
          exact d _ (memP_at hi).2.2
        rw [g2, jP_A]
        unfold jV at K1
        by_cases z : lg_cmp (jA (jcw τ k f) (ppop (ppart v s))) 0 ≤ 0
        · rw [if_neg (fun y => y.1 z)] at K1
          rw [if_pos z, if_pos rfl]; exact K1
        · rw [if_pos ⟨z, c⟩] at K1
          rw [if_neg z, if_neg (by decide)]; exact K1
      · have K1 := K τ1 g1
        rw [ppopI_64, Nat.sub_self] at K1
        have K1 : φ (jV v (ppart v s) (jcw τ k f)) τ1 := K1
        unfold jV at K1
        have c : ¬ ∀ i, i < ppop (ppart v s) → jM v (ppart v s) (jcw τ k f) i (ppop (ppart v s)) = 0 := by
          intro c
          refine d (fun a ha => ?_)
          by_cases q : (ppart v s).testBit a = true
          · obtain ⟨m1, m2⟩ := mem_pop ha q
            have := jS_in hK (jcw τ k f) hs hsh m1
            rw [m2] at this
            rw [this]; exact c _ m1
          · exact jS_out hK _ hs hsh q 64
        rw [if_neg (fun y => c y.2)] at K1
        rw [if_pos rfl]; exact K1
    | succ m ih =>
      intro u τ1 e g1 g2 g3 K
      have hu64 : u < 64 := by omega
      refine V_X11_judgeCells_13 _ _ _ _ _ τ1 ⟨fun q => absurd (show nI 64 ≤ nI u from q) (nI_ge (by omega) (by decide)), fun _ => ?_⟩
      rw [cbit hP64 hu64, lb0, i1, i1]
      refine ⟨fun q => ?_, fun q => ?_⟩
      · have q : (ppart v s).testBit u = true := by
          cases hh : (ppart v s).testBit u with
          | true => rfl
          | false => exact absurd hh q
        have hu := part_lt q
        obtain ⟨m1, m2⟩ := mem_pop hu64 q
        have hpl := ppop_le (ppart v s)
        have hsz1 : τ1.1.1 27 k = nI n := by rw [(g1.1 27 (by decide)).1]; exact hsz
        have eP : ppopI (ppart v s) (u + 1) = ppopI (ppart v s) u + 1 := by rw [ppopI_s, if_pos q]
        have eD : ppop (ppart v s) - ppopI (ppart v s) u = (ppop (ppart v s) - (ppopI (ppart v s) u + 1)) + 1 := by omega
        rw [eD, jr_s] at K
        have hjf := jf_in hn (show ppopI (ppart v s) u < 64 by omega) f
        refine sp_hasCell hk hn hsz1 (b_b (fun c => ?_) (fun c => pi_ok ?_))
        · have c := hjf.1 c
          obtain ⟨j1, j2⟩ := jf_at hn (show ppopI (ppart v s) u < 64 by omega) c
          rw [j1]
          refine sp_cell hk hn hsz1 j2 ?_
          have ec : τ1.1.1 28 (64 * k + (f.toInt + (ppopI (ppart v s) u : Nat)).toNat) = jcw τ k f (ppopI (ppart v s) u) := by
            rw [(g1.1 28 (by decide)).1]; rfl
          rw [ec]
          rw [if_neg (fun y => y c)] at K
          refine ⟨fun z => ?_, fun z => pi_ok ?_⟩
          · rw [if_neg (fun y => y z)] at K
            refine sp_pour (hL.sm g1.1 (by decide)) hu (fun τ2 j3 z3 s3 => ?_)
            rw [← eP] at K ⊢
            refine ih (u + 1) τ2 (by omega) (g1.tr j3) ?_ (fun a ha => ?_) K
            · rw [z3, g2]
              unfold jP
              rw [psumL_s, if_pos q]
            · rw [s3 a ha, g3 a ha]
              unfold jS
              rw [psumL_s, if_pos q]
              rfl
          · have := K τ1 g1
            rw [if_pos z] at this
            exact this
        · have := K τ1 g1
          have c2 : ¬ (0 ≤ f.toInt + (ppopI (ppart v s) u : Nat) ∧ f.toInt + (ppopI (ppart v s) u : Nat) < n) := fun y => c (hjf.2 y)
          rw [if_pos c2] at this
          exact this
      · have q2 : ¬ (ppart v s).testBit u = true := by rw [q]; decide
        have eP : ppopI (ppart v s) (u + 1) = ppopI (ppart v s) u := by rw [ppopI_s, if_neg q2]; rfl
        rw [← eP] at K ⊢
        refine ih (u + 1) τ1 (by omega) g1 ?_ (fun a ha => ?_) K
        · rw [g2]
          unfold jP
          rw [psumL_s, if_neg q2, z64]
        · rw [g3 a ha]
          unfold jS
          rw [psumL_s, if_neg q2, z64]
  exact loop 64 0 τ0 rfl j0 z0 s0 (fun τ' hj => H τ' hj)
theorem sp_layMembers (hL : LM v τ) (hR : RMod v τ) {s : Nat} (hs : s < 2 ^ v 0) (H : ∀ τ', Sk [29, 36] τ τ' → τ'.1.1 29 15 = nI (ppop (ppart v s)) → (∀ i, i < ppop (ppart v s) → τ'.1.1 36 i = nI (memP (ppart v s) i)) → χ τ') : zCall G MX12_layMembers [.ref 29, .int (nI s)] τ (zpv χ) := by
  have hK := hL.1
  have hp := pw64 hK.n.2
  have hP64 := ppart_64 hK s
  refine C_X12_layMembers _ τ (sp_mpartOf hL hR hs ?_)
  have loop : ∀ m t τ1, t + m = 2 ^ v 0 → Sk [29, 36] τ τ1 → τ1.1.1 29 15 = nI (ppopI (ppart v s) t) → (∀ i, i < ppopI (ppart v s) t → τ1.1.1 36 i = nI (memP (ppart v s) i)) → zRun G MX12_layMembers 14 [(0, .ref 29), (2, .long (lN (ppart v s))), (4, .int (nI t))] [] τ1 (zpv χ) := by
    intro m
    induction m with
    | zero =>
      intro t τ1 e g1 g2 g3
      have e : t = 2 ^ v 0 := by omega
      subst e
      rw [ppop_up (ppart_lt v s) hp.2] at g2 g3
      exact V_X12_layMembers_14 _ _ τ1 (sp_mstates (hL.sk g1 (by decide)) ⟨fun _ => pv_ok (H τ1 g1 g2 g3), fun q => absurd (nI_le (Nat.le_refl _) (by omega)) q⟩)
    | succ m ih =>
      intro t τ1 e g1 g2 g3
      have ht : t < 2 ^ v 0 := by omega
      have hle := ppopI_le (ppart v s) t
      refine V_X12_layMembers_14 _ _ τ1 (sp_mstates (hL.sk g1 (by decide)) ⟨fun q => absurd q (nI_ge (by omega) (by omega)), fun _ => ?_⟩)
      rw [lbit hP64 (by omega), lb1, i1]
      refine ⟨fun q => ih (t + 1) τ1 (by omega) g1 ?_ ?_, fun q => ⟨ppopI (ppart v s) t, g2, by omega, ?_⟩⟩
      · rw [ppopI_s, if_neg q]; exact g2
      · rw [ppopI_s, if_neg q]; exact g3
      · refine ih (t + 1) _ (by omega) ((g1.I (by decide) (by omega)).I (by decide) (by omega)) ?_ (fun i hi => ?_)
        · rw [zI_at, if_pos ⟨rfl, rfl⟩, g2, i1, ppopI_s, if_pos q]
        · rw [ppopI_s, if_pos q] at hi
          rw [zI_at, if_neg (by omega), zI_at]
          by_cases w : i = ppopI (ppart v s) t
          · rw [if_pos ⟨rfl, w⟩, w, (mem_pop (by omega) q).2]
          · rw [if_neg (fun y => w y.2)]; exact g3 i (by omega)
  refine loop (2 ^ v 0) 0 _ (by omega) (Sk.rf.I (by decide) (by omega)) ?_ (fun i hi => absurd hi (by rw [show ppopI (ppart v s) 0 = 0 from rfl]; omega))
  rw [zI_at, if_pos ⟨rfl, rfl⟩]; rfl
end JD

/-! longs by their bits: how many, and the lowest -/
def hv8 : List Nat → Nat
  | [] => 0
  | b :: l => b + 256 * hv8 l
def mr8 (m : Nat) : Nat → Nat
  | 0 => 0
  | k + 1 => m + 256 * mr8 m k
theorem hv8_c (b : Nat) (l : List Nat) : hv8 (b :: l) = b + 256 * hv8 l := rfl
theorem and256 {r q A B : Nat} (hr : r < 256) (hq : q < 256) : (r + 256 * A) &&& (q + 256 * B) = (r &&& q) + 256 * (A &&& B) := by
  have h1 : r &&& q < 2 ^ 8 := Nat.and_lt_two_pow _ hq
  apply Nat.eq_of_testBit_eq
  intro j
  have e1 := Nat.testBit_two_pow_mul_add A (i := 8) hr j
  have e2 := Nat.testBit_two_pow_mul_add B (i := 8) hq j
  have e3 := Nat.testBit_two_pow_mul_add (A &&& B) (i := 8) h1 j
  have p8 : (2 : Nat) ^ 8 = 256 := rfl
  rw [p8] at e1 e2 e3
  rw [Nat.testBit_and, Nat.add_comm r, Nat.add_comm q, Nat.add_comm (r &&& q), e1, e2, e3]
  by_cases h : j < 8
  · rw [if_pos h, if_pos h, if_pos h, Nat.testBit_and]
  · rw [if_neg h, if_neg h, if_neg h, Nat.testBit_and]
theorem tb_m1 : ∀ b, b < 256 → ∀ e, e < 2 → (b / 2 + 128 * e) &&& 85 = (b / 2) &&& 85 := by decide +kernel
theorem tb_m2 : ∀ b, b < 256 → ∀ e, e < 4 → (b / 4 + 64 * e) &&& 51 = (b / 4) &&& 51 := by decide +kernel
theorem tb_m3 : ∀ b, b < 69 → ∀ e, e < 5 → (b + b / 16 + 16 * e) &&& 15 = (b + b / 16) &&& 15 := by decide +kernel
def bp1 (b : Nat) : Nat := b - ((b / 2) &&& 85)
def bp2 (b : Nat) : Nat := (b &&& 51) + ((b / 4) &&& 51)
def bp3 (b : Nat) : Nat := (b + b / 16) &&& 15
theorem tb_bp : ∀ b, b < 256 → bp1 b < 256 ∧ ((b / 2) &&& 85) ≤ b ∧ bp2 (bp1 b) < 69 ∧ bp2 (bp1 b) % 16 < 5 ∧ bp3 (bp2 (bp1 b)) = ppopI b 8 ∧ ppopI b 8 ≤ 8 := by decide +kernel
theorem hv_m1 : ∀ l : List Nat, (∀ b ∈ l, b < 256) → (hv8 l / 2) &&& mr8 85 l.length = hv8 (l.map (fun b => (b / 2) &&& 85)) := by
  intro l
  induction l with
  | nil => intro _; rfl
  | cons b l ih =>
    intro h
    have hb : b < 256 := h b (List.mem_cons_self ..)
    have h1 := ih (fun x hx => h x (List.mem_cons_of_mem _ hx))
    have e : (b + 256 * hv8 l) / 2 = (b / 2 + 128 * (hv8 l % 2)) + 256 * (hv8 l / 2) := by omega
    show ((b + 256 * hv8 l) / 2) &&& (85 + 256 * mr8 85 l.length) = ((b / 2) &&& 85) + 256 * hv8 (l.map (fun b => (b / 2) &&& 85))
    rw [e, and256 (by omega) (by decide), tb_m1 b hb _ (by omega), h1]
theorem hv_m2 : ∀ l : List Nat, (∀ b ∈ l, b < 256) → (hv8 l / 4) &&& mr8 51 l.length = hv8 (l.map (fun b => (b / 4) &&& 51)) := by
  intro l
  induction l with
  | nil => intro _; rfl
  | cons b l ih =>
    intro h
    have hb : b < 256 := h b (List.mem_cons_self ..)
    have h1 := ih (fun x hx => h x (List.mem_cons_of_mem _ hx))
    have e : (b + 256 * hv8 l) / 4 = (b / 4 + 64 * (hv8 l % 4)) + 256 * (hv8 l / 4) := by omega
    show ((b + 256 * hv8 l) / 4) &&& (51 + 256 * mr8 51 l.length) = ((b / 4) &&& 51) + 256 * hv8 (l.map (fun b => (b / 4) &&& 51))
    rw [e, and256 (by omega) (by decide), tb_m2 b hb _ (by omega), h1]
theorem hv_m20 : ∀ l : List Nat, (∀ b ∈ l, b < 256) → hv8 l &&& mr8 51 l.length = hv8 (l.map (fun b => b &&& 51)) := by
  intro l
  induction l with
  | nil => intro _; rfl
  | cons b l ih =>
    intro h
    have hb : b < 256 := h b (List.mem_cons_self ..)
    have h1 := ih (fun x hx => h x (List.mem_cons_of_mem _ hx))
    show (b + 256 * hv8 l) &&& (51 + 256 * mr8 51 l.length) = (b &&& 51) + 256 * hv8 (l.map (fun b => b &&& 51))
    rw [and256 hb (by decide), h1]
theorem hv_m3 : ∀ l : List Nat, (∀ b ∈ l, b < 69 ∧ b % 16 < 5) → (hv8 l + hv8 l / 16) &&& mr8 15 l.length = hv8 (l.map bp3) ∧ hv8 l % 16 < 5 := by
  intro l
  induction l with
  | nil => intro _; exact ⟨rfl, by decide⟩
  | cons b l ih =>
    intro h
    have hb := h b (List.mem_cons_self ..)
    obtain ⟨h1, h2⟩ := ih (fun x hx => h x (List.mem_cons_of_mem _ hx))
    refine ⟨?_, ?_⟩
    · have e : (b + 256 * hv8 l) + (b + 256 * hv8 l) / 16 = (b + b / 16 + 16 * (hv8 l % 16)) + 256 * (hv8 l + hv8 l / 16) := by omega
      show ((b + 256 * hv8 l) + (b + 256 * hv8 l) / 16) &&& (15 + 256 * mr8 15 l.length) = bp3 b + 256 * hv8 (l.map bp3)
      rw [e, and256 (by omega) (by decide), tb_m3 b hb.1 _ h2, h1]
      rfl
    · rw [hv8_c]
      omega
theorem hv_sub {f g : Nat → Nat} : ∀ l : List Nat, (∀ b ∈ l, g b ≤ f b) → hv8 (l.map g) ≤ hv8 (l.map f) ∧ hv8 (l.map f) - hv8 (l.map g) = hv8 (l.map (fun b => f b - g b)) := by
  intro l
  induction l with
  | nil => intro _; exact ⟨Nat.le_refl _, rfl⟩
  | cons b l ih =>
    intro h
    have hb := h b (List.mem_cons_self ..)
    obtain ⟨h1, h2⟩ := ih (fun x hx => h x (List.mem_cons_of_mem _ hx))
    rw [List.map_cons, List.map_cons, List.map_cons, hv8_c, hv8_c, hv8_c, ← h2]
    omega
theorem hv_add {f g : Nat → Nat} : ∀ l : List Nat, hv8 (l.map f) + hv8 (l.map g) = hv8 (l.map (fun b => f b + g b)) := by
  intro l
  induction l with
  | nil => rfl
  | cons b l ih =>
    rw [List.map_cons, List.map_cons, List.map_cons, hv8_c, hv8_c, hv8_c, ← ih]
    omega
theorem ppopI_add (P a : Nat) : ∀ b, ppopI P (a + b) = ppopI P a + ppopI (P / 2 ^ a) b := by
  intro b
  induction b with
  | zero => rfl
  | succ b ih =>
    rw [← Nat.add_assoc, ppopI_s, ppopI_s, ih, Nat.testBit_div_two_pow, Nat.add_comm b a]
    omega
theorem ppopI_cg {P Q : Nat} : ∀ k, (∀ i, i < k → P.testBit i = Q.testBit i) → ppopI P k = ppopI Q k := by
  intro k
  induction k with
  | zero => intro _; rfl
  | succ k ih => intro h; rw [ppopI_s, ppopI_s, ih (fun i hi => h i (by omega)), h k (by omega)]
theorem ppopI_m8 (P : Nat) : ppopI (P % 256) 8 = ppopI P 8 := by
  refine ppopI_cg 8 (fun i hi => ?_)
  show (P % 2 ^ 8).testBit i = _
  rw [Nat.testBit_mod_two_pow, decide_eq_true hi, Bool.true_and]
def byl (n : Nat) : List Nat := [n % 256, n / 2 ^ 8 % 256, n / 2 ^ 16 % 256, n / 2 ^ 24 % 256, n / 2 ^ 32 % 256, n / 2 ^ 40 % 256, n / 2 ^ 48 % 256, n / 2 ^ 56 % 256]
theorem byl_hv {n : Nat} (h : n < 2 ^ 64) : hv8 (byl n) = n := by
  unfold byl
  simp only [hv8]
  omega
theorem byl_lt {n : Nat} : ∀ b ∈ byl n, b < 256 := by
  intro b hb
  unfold byl at hb
  simp only [List.mem_cons, List.not_mem_nil, or_false] at hb
  omega
theorem ppop_byl (n : Nat) : ppop n = ppopI (n % 256) 8 + ppopI (n / 2 ^ 8 % 256) 8 + ppopI (n / 2 ^ 16 % 256) 8 + ppopI (n / 2 ^ 24 % 256) 8 + ppopI (n / 2 ^ 32 % 256) 8 + ppopI (n / 2 ^ 40 % 256) 8 + ppopI (n / 2 ^ 48 % 256) 8 + ppopI (n / 2 ^ 56 % 256) 8 := by
  simp only [ppopI_m8]
  rw [← ppopI_64, show 64 = 56 + 8 from rfl, ppopI_add, show 56 = 48 + 8 from rfl, ppopI_add, show 48 = 40 + 8 from rfl, ppopI_add, show 40 = 32 + 8 from rfl, ppopI_add, show 32 = 24 + 8 from rfl, ppopI_add, show 24 = 16 + 8 from rfl, ppopI_add, show 16 = 8 + 8 from rfl, ppopI_add]
def pc1 (n : Nat) : Nat := n - ((n / 2 ^ 1) &&& 6148914691236517205)
def pc2 (n : Nat) : Nat := (n &&& 3689348814741910323) + ((n / 2 ^ 2) &&& 3689348814741910323)
def pc3 (n : Nat) : Nat := (n + n / 2 ^ 4) &&& 1085102592571150095
theorem hv8_bd {c : Nat} (hc : c < 256) : ∀ l : List Nat, (∀ b ∈ l, b ≤ c) → hv8 l + 1 ≤ 256 ^ l.length := by
  intro l
  induction l with
  | nil => intro _; decide
  | cons b l ih =>
    intro h
    have hb := h b (List.mem_cons_self ..)
    have h1 := ih (fun x hx => h x (List.mem_cons_of_mem _ hx))
    rw [hv8_c, List.length_cons, Nat.pow_succ]
    omega
theorem pc_1 {n : Nat} (h : n < 2 ^ 64) : pc1 n = hv8 ((byl n).map bp1) ∧ ((n / 2 ^ 1) &&& 6148914691236517205) ≤ n := by
  have h1 := hv_m1 (byl n) byl_lt
  rw [byl_hv h] at h1
  have h1 : (n / 2 ^ 1) &&& 6148914691236517205 = hv8 ((byl n).map (fun b => (b / 2) &&& 85)) := h1
  obtain ⟨h2, h3⟩ := hv_sub (f := fun b => b) (g := fun b => (b / 2) &&& 85) (byl n) (fun b hb => (tb_bp b (byl_lt b hb)).2.1)
  rw [List.map_id', byl_hv h] at h2 h3
  refine ⟨?_, ?_⟩
  · unfold pc1
    rw [h1, h3]
    rfl
  · rw [h1]; exact h2
theorem pc_2 {n : Nat} (h : n < 2 ^ 64) : pc2 (pc1 n) = hv8 ((byl n).map (fun b => bp2 (bp1 b))) := by
  have hl : ∀ b ∈ (byl n).map bp1, b < 256 := by
    intro b hb
    obtain ⟨c, hc, rfl⟩ := List.mem_map.1 hb
    exact (tb_bp c (byl_lt c hc)).1
  have h1 := hv_m20 _ hl
  have h2 := hv_m2 _ hl
  unfold pc2
  rw [(pc_1 h).1]
  have h1 : hv8 ((byl n).map bp1) &&& 3689348814741910323 = _ := h1
  have h2 : (hv8 ((byl n).map bp1) / 2 ^ 2) &&& 3689348814741910323 = _ := h2
  rw [h1, h2, hv_add, List.map_map]
  rfl
theorem pc_3 {n : Nat} (h : n < 2 ^ 64) : pc3 (pc2 (pc1 n)) = hv8 ((byl n).map (fun b => ppopI b 8)) := by
  have hl : ∀ b ∈ (byl n).map (fun b => bp2 (bp1 b)), b < 69 ∧ b % 16 < 5 := by
    intro b hb
    obtain ⟨c, hc, rfl⟩ := List.mem_map.1 hb
    have := tb_bp c (byl_lt c hc)
    exact ⟨this.2.2.1, this.2.2.2.1⟩
  have h1 := (hv_m3 _ hl).1
  unfold pc3
  rw [pc_2 h]
  have h1 : (hv8 ((byl n).map (fun b => bp2 (bp1 b))) + hv8 ((byl n).map (fun b => bp2 (bp1 b))) / 2 ^ 4) &&& 1085102592571150095 = _ := h1
  rw [h1, List.map_map]
  congr 1
  refine List.map_congr_left (fun b hb => ?_)
  exact (tb_bp b (byl_lt b hb)).2.2.2.2.1
theorem pc_2lt {n : Nat} (h : n < 2 ^ 64) : pc2 (pc1 n) + pc2 (pc1 n) / 2 ^ 4 < 2 ^ 64 := by
  have hl : ∀ b ∈ (byl n).map (fun b => bp2 (bp1 b)), b ≤ 68 := by
    intro b hb
    obtain ⟨c, hc, rfl⟩ := List.mem_map.1 hb
    have := (tb_bp c (byl_lt c hc)).2.2.1
    show bp2 (bp1 c) ≤ 68
    omega
  rw [pc_2 h]
  have e : hv8 ((byl n).map (fun b => bp2 (bp1 b))) ≤ 68 * 72340172838076673 := by
    have key : ∀ l : List Nat, (∀ b ∈ l, b ≤ 68) → hv8 l ≤ 68 * mr8 1 l.length := by
      intro l
      induction l with
      | nil => intro _; exact Nat.le_refl _
      | cons b l ih =>
        intro h
        have hb := h b (List.mem_cons_self ..)
        have h1 := ih (fun x hx => h x (List.mem_cons_of_mem _ hx))
        show b + 256 * hv8 l ≤ 68 * (1 + 256 * mr8 1 l.length)
        omega
    exact key _ hl
  omega
theorem dv_l {A B d : Nat} (h : A < d) : (A + d * B) / d = B := by
  rw [Nat.add_mul_div_left _ _ (by omega), Nat.div_eq_of_lt h, Nat.zero_add]
theorem pc_6a {c0 c1 c2 c3 c4 c5 c6 c7 w x y z : Nat} (t0 : c0 ≤ 8) (t1 : c1 ≤ 8) (t2 : c2 ≤ 8) (t3 : c3 ≤ 8) (t4 : c4 ≤ 8) (t5 : c5 ≤ 8) (t6 : c6 ≤ 8) (t7 : c7 ≤ 8) (e : w = c0 + 256 * (c1 + 256 * (c2 + 256 * (c3 + 256 * (c4 + 256 * (c5 + 256 * (c6 + 256 * (c7 + 256 * 0)))))))) (hx : x = w + w / 256) (hy : y = x + x / 65536) (hz : z = y + y / 4294967296) : z % 128 = c0 + c1 + c2 + c3 + c4 + c5 + c6 + c7 ∧ x < 2 ^ 64 ∧ y < 2 ^ 64 ∧ w < 2 ^ 64 := by
  have d1 : w / 256 = c1 + 256 * (c2 + 256 * (c3 + 256 * (c4 + 256 * (c5 + 256 * (c6 + 256 * (c7 + 256 * 0)))))) := by
    rw [e]
    exact dv_l (Nat.lt_of_le_of_lt t0 (by decide))
  rw [d1] at hx
  have ex : x = ((c0 + c1) + 256 * (c1 + c2)) + 65536 * ((c2 + c3) + 256 * ((c3 + c4) + 256 * ((c4 + c5) + 256 * ((c5 + c6) + 256 * ((c6 + c7) + 256 * c7))))) := by
    rw [hx, e]
    clear hx hy hz d1 e
    omega
  have lw : w < 2 ^ 64 := by
    rw [e]
    clear hx hy hz d1 e ex
    omega
  have d2 : x / 65536 = (c2 + c3) + 256 * ((c3 + c4) + 256 * ((c4 + c5) + 256 * ((c5 + c6) + 256 * ((c6 + c7) + 256 * c7)))) := by
    rw [ex]
    clear hx hy hz d1 e ex
    exact dv_l (by omega)
  clear hx d1 e
  rw [d2] at hy
  have ey : y = ((c0 + c1 + c2 + c3) + 256 * ((c1 + c2 + c3 + c4) + 256 * ((c2 + c3 + c4 + c5) + 256 * (c3 + c4 + c5 + c6)))) + 4294967296 * ((c4 + c5 + c6 + c7) + 256 * ((c5 + c6 + c7) + 256 * ((c6 + c7) + 256 * c7))) := by
    rw [hy, ex]
    clear hy hz d2 ex
    omega
  have lx : x < 2 ^ 64 := by
    rw [ex]
    clear hy hz d2 ex ey
    omega
  clear hy d2 ex
  have d3 : y / 4294967296 = (c4 + c5 + c6 + c7) + 256 * ((c5 + c6 + c7) + 256 * ((c6 + c7) + 256 * c7)) := by
    rw [ey]
    clear hz ey
    exact dv_l (by omega)
  rw [d3] at hz
  have ly : y < 2 ^ 64 := by
    rw [ey]
    clear hz ey d3
    omega
  have ez : z = (c0 + c1 + c2 + c3 + c4 + c5 + c6 + c7) + 128 * (2 * ((c1 + c2 + c3 + c4 + c5 + c6 + c7) + 256 * ((c2 + c3 + c4 + c5 + c6 + c7) + 256 * ((c3 + c4 + c5 + c6 + c7) + 256 * ((c4 + c5 + c6 + c7) + 256 * ((c5 + c6 + c7) + 256 * ((c6 + c7) + 256 * c7))))))) := by
    rw [hz, ey]
    clear hz ey d3
    omega
  clear hz ey d3
  refine ⟨?_, lx, ly, lw⟩
  rw [ez, Nat.add_mul_mod_self_left, Nat.mod_eq_of_lt (by omega)]
theorem pc_6 {n : Nat} (h : n < 2 ^ 64) {x y z : Nat} (hx : x = pc3 (pc2 (pc1 n)) + pc3 (pc2 (pc1 n)) / 2 ^ 8) (hy : y = x + x / 2 ^ 16) (hz : z = y + y / 2 ^ 32) : z % 128 = ppop n ∧ x < 2 ^ 64 ∧ y < 2 ^ 64 ∧ pc3 (pc2 (pc1 n)) < 2 ^ 64 := by
  have e : pc3 (pc2 (pc1 n)) = _ := pc_3 h
  have m : ∀ a, a % 256 < 256 := fun a => Nat.mod_lt _ (by decide)
  rw [ppop_byl]
  exact pc_6a (tb_bp _ (m _)).2.2.2.2.2 (tb_bp _ (m _)).2.2.2.2.2 (tb_bp _ (m _)).2.2.2.2.2 (tb_bp _ (m _)).2.2.2.2.2 (tb_bp _ (m _)).2.2.2.2.2 (tb_bp _ (m _)).2.2.2.2.2 (tb_bp _ (m _)).2.2.2.2.2 (tb_bp _ (m _)).2.2.2.2.2 e hx hy hz
section LB
variable {G : hz_G} {τ : hz_T} {φ : Int32 → hz_T → Prop}
theorem nI_mod (n : Nat) : nI n = nI (n % 2 ^ 32) := by
  apply Int32.toBitVec_inj.1
  show BitVec.ofNat 32 n = BitVec.ofNat 32 (n % 2 ^ 32)
  apply BitVec.eq_of_toNat_eq
  rw [BitVec.toNat_ofNat, BitVec.toNat_ofNat, Nat.mod_mod]
theorem sp_bcl {n : Nat} (hn : n < 2 ^ 64) (H : φ (nI (ppop n)) τ) : zCall G MJ13_bitCount_95d88 [.long (lN n)] τ (zpi φ) := by
  refine C_J13_bitCount_95d88 _ τ (fun x1 h1 x2 h2 x3 h3 x4 h4 x5 h5 x6 h6 => pi_ok ?_)
  have s1 : n / 2 ^ 1 < 2 ^ 64 := Nat.lt_of_le_of_lt (Nat.div_le_self _ _) hn
  have e1 : x1 = lN (pc1 n) := by
    have a := wb_shr (k := 1) hn (by decide)
    have a : ((lN n).toUInt64 >>> ((1 : Int32).toInt64.toUInt64 &&& Int64.toUInt64 63)).toInt64 = lN (n / 2 ^ 1) := a
    have b := wb_and s1 (show 6148914691236517205 < 2 ^ 64 by decide)
    have b : lN (n / 2 ^ 1) &&& (6148914691236517205 : Int64) = _ := b
    rw [h1, a, b, lN_sub (pc_1 hn).2]
    rfl
  have l1 : pc1 n < 2 ^ 64 := Nat.lt_of_le_of_lt (Nat.sub_le _ _) hn
  have s2 : pc1 n / 2 ^ 2 < 2 ^ 64 := Nat.lt_of_le_of_lt (Nat.div_le_self _ _) l1
  have e2 : x2 = lN (pc2 (pc1 n)) := by
    have a := wb_shr (k := 2) l1 (by decide)
    have a : ((lN (pc1 n)).toUInt64 >>> ((2 : Int32).toInt64.toUInt64 &&& Int64.toUInt64 63)).toInt64 = lN (pc1 n / 2 ^ 2) := a
    have b := wb_and s2 (show 3689348814741910323 < 2 ^ 64 by decide)
    have b : lN (pc1 n / 2 ^ 2) &&& (3689348814741910323 : Int64) = _ := b
    have c := wb_and l1 (show 3689348814741910323 < 2 ^ 64 by decide)
    have c : lN (pc1 n) &&& (3689348814741910323 : Int64) = _ := c
    rw [h2, e1, a, b, c, lN_add]
    rfl
  have l2 := pc_2lt hn
  have l2' : pc2 (pc1 n) < 2 ^ 64 := by omega
  have e3 : x3 = lN (pc3 (pc2 (pc1 n))) := by
    have a := wb_shr (k := 4) l2' (by decide)
    have a : ((lN (pc2 (pc1 n))).toUInt64 >>> ((4 : Int32).toInt64.toUInt64 &&& Int64.toUInt64 63)).toInt64 = lN (pc2 (pc1 n) / 2 ^ 4) := a
    have b := wb_and l2 (show 1085102592571150095 < 2 ^ 64 by decide)
    have b : lN (pc2 (pc1 n) + pc2 (pc1 n) / 2 ^ 4) &&& (1085102592571150095 : Int64) = _ := b
    rw [h3, e2, a, lN_add, b]
    rfl
  obtain ⟨r1, r2, r3, r4⟩ := pc_6 hn rfl rfl rfl
  have e4 : x4 = lN (pc3 (pc2 (pc1 n)) + pc3 (pc2 (pc1 n)) / 2 ^ 8) := by
    have a := wb_shr (k := 8) r4 (by decide)
    have a : ((lN (pc3 (pc2 (pc1 n)))).toUInt64 >>> ((8 : Int32).toInt64.toUInt64 &&& Int64.toUInt64 63)).toInt64 = lN (pc3 (pc2 (pc1 n)) / 2 ^ 8) := a
    rw [h4, e3, a, lN_add]
  have e5 : x5 = lN (pc3 (pc2 (pc1 n)) + pc3 (pc2 (pc1 n)) / 2 ^ 8 + (pc3 (pc2 (pc1 n)) + pc3 (pc2 (pc1 n)) / 2 ^ 8) / 2 ^ 16) := by
    have a := wb_shr (k := 16) r2 (by decide)
    rw [h5, e4]
    have a : ((lN (pc3 (pc2 (pc1 n)) + pc3 (pc2 (pc1 n)) / 2 ^ 8)).toUInt64 >>> ((16 : Int32).toInt64.toUInt64 &&& Int64.toUInt64 63)).toInt64 = lN ((pc3 (pc2 (pc1 n)) + pc3 (pc2 (pc1 n)) / 2 ^ 8) / 2 ^ 16) := a
    rw [a, lN_add]
  have a := wb_shr (k := 32) r3 (by decide)
  have a : ((lN (pc3 (pc2 (pc1 n)) + pc3 (pc2 (pc1 n)) / 2 ^ 8 + (pc3 (pc2 (pc1 n)) + pc3 (pc2 (pc1 n)) / 2 ^ 8) / 2 ^ 16)).toUInt64 >>> ((32 : Int32).toInt64.toUInt64 &&& Int64.toUInt64 63)).toInt64 = _ := a
  rw [h6, e5, a, lN_add, lN_i32]
  have d : ∀ z : Nat, nI z &&& (127 : Int32) = nI (z % 128) := by
    intro z
    show nI z &&& nI 127 = _
    rw [nx_and, show (127 : Nat) = 2 ^ 7 - 1 from rfl, Nat.and_two_pow_sub_one_eq_mod]
  rw [d, r1]
  exact H
def LowB (P k : Nat) : Prop := P.testBit k = true ∧ ∀ i, i < k → P.testBit i = false
def lz64 (P : Nat) : Nat := ((List.range 64).find? (fun i => P.testBit i)).getD 64
theorem lz64_ok {P k : Nat} (hk : k < 64) (h : P.testBit k = true) : LowB P (lz64 P) ∧ lz64 P ≤ k := by
  unfold lz64
  cases e : (List.range 64).find? (fun i => P.testBit i) with
  | none =>
    rw [List.find?_eq_none] at e
    exact absurd h (e k (List.mem_range.2 hk))
  | some j =>
    rw [List.find?_range_eq_some] at e
    obtain ⟨e1, e2, e3⟩ := e
    refine ⟨⟨e1, fun i hi => ?_⟩, ?_⟩
    · have := e3 i hi
      rw [Bool.not_eq_true'] at this
      exact this
    · show j ≤ k
      rcases Nat.lt_or_ge k j with q | q
      · have := e3 k q
        rw [h] at this
        exact Bool.noConfusion this
      · exact q
theorem low_dec {P k : Nat} (h : LowB P k) : P = 2 ^ (k + 1) * (P / 2 ^ (k + 1)) + 2 ^ k := by
  have e : P % 2 ^ (k + 1) = 2 ^ k := by
    apply Nat.eq_of_testBit_eq
    intro i
    rw [Nat.testBit_mod_two_pow, Nat.testBit_two_pow]
    rcases Nat.lt_trichotomy i k with q | q | q
    · rw [h.2 i q, Bool.and_false, decide_eq_false (by omega)]
    · rw [q, h.1, decide_eq_true (by omega), decide_eq_true rfl]; rfl
    · rw [decide_eq_false (show ¬ i < k + 1 by omega), decide_eq_false (by omega), Bool.false_and]
  have := Nat.div_add_mod P (2 ^ (k + 1))
  rw [e] at this
  exact this.symm
theorem bt_nI (y : Nat) {i : Nat} (hi : i < 32) : bt (nI y) i = y.testBit i := by
  unfold bt
  show (BitVec.ofNat 32 y).getLsbD i = _
  rw [BitVec.getLsbD_ofNat, decide_eq_true hi, Bool.true_and]
theorem ntz_w {y k : Nat} (h : LowB y k) : (nI y ^^^ (-1 : Int32)) &&& (nI y - (1 : Int32)) = (nI (2 ^ k) ^^^ (-1 : Int32)) &&& (nI (2 ^ k) - (1 : Int32)) := by
  have key : ∀ y, LowB y k → ∀ i, i < 32 → bt ((nI y ^^^ (-1 : Int32)) &&& (nI y - (1 : Int32))) i = decide (i < k) := by
    intro y h i hi
    have hd := low_dec h
    generalize y / 2 ^ (k + 1) = z at hd
    have hp : 0 < 2 ^ k := Nat.two_pow_pos k
    have hk1 : 2 ^ k < 2 ^ (k + 1) := Nat.pow_lt_pow_right (by decide) (by omega)
    have e1 : nI y - (1 : Int32) = nI (2 ^ (k + 1) * z + (2 ^ k - 1)) := by
      rw [kx_1, pk_sub (by omega)]
      congr 1
      omega
    rw [b_and, b_xor, e1, bt_nI _ hi, bt_nI _ hi, b_m1 i hi, Nat.testBit_two_pow_mul_add z (by omega)]
    rw [hd, Nat.testBit_two_pow_mul_add z hk1, Nat.testBit_two_pow_sub_one, Nat.testBit_two_pow]
    by_cases q : i < k + 1
    · rw [if_pos q, if_pos q]
      by_cases w : i < k
      · rw [decide_eq_true w, decide_eq_false (by omega)]; rfl
      · rw [decide_eq_false w, Bool.and_false]
    · rw [if_neg q, if_neg q, decide_eq_false (by omega)]
      cases z.testBit (i - (k + 1)) <;> rfl
  have hl : LowB (2 ^ k) k := ⟨Nat.testBit_two_pow_self, fun i hi => by rw [Nat.testBit_two_pow, decide_eq_false (by omega)]⟩
  exact b_ext (fun i hi => by rw [key y h i hi, key (2 ^ k) hl i hi])
theorem tb_ntz : ∀ k, k < 32 → ntzf (nI (2 ^ k)) = nI k := by decide +kernel
theorem ntz_low {y k : Nat} (h : LowB y k) (hk : k < 32) : ntzf (nI y) = nI k := by
  rw [← tb_ntz k hk]
  unfold ntzf
  rw [ntz_w h]
theorem sp_ntzl {P k : Nat} (hP : P < 2 ^ 64) (hk : k < 64) (h : LowB P k) (H : φ (nI k) τ) : zCall G MJ13_numberOfTrailingZeros_95d88 [.long (lN P)] τ (zpi φ) := by
  refine C_J13_numberOfTrailingZeros_95d88 _ τ ?_
  have z0 : nI P = 0 ↔ P % 2 ^ 32 = 0 := by
    rw [nI_mod P]
    constructor
    · intro q
      have := congrArg (fun z : Int32 => z.toBitVec.toNat) q
      have e : (BitVec.ofNat 32 (P % 2 ^ 32)).toNat = 0 := this
      rw [BitVec.toNat_ofNat, Nat.mod_mod] at e
      exact e
    · intro q; rw [q]; rfl
  rw [lN_i32]
  refine ⟨fun q => ?_, fun q => ?_⟩
  · have hk2 : k < 32 := by
      rcases Nat.lt_or_ge k 32 with w | w
      · exact w
      · refine absurd (z0.2 ?_) q
        apply Nat.eq_of_testBit_eq
        intro i
        rw [Nat.testBit_mod_two_pow, Nat.zero_testBit]
        by_cases c : i < 32
        · rw [h.2 i (by omega), Bool.and_false]
        · rw [decide_eq_false c, Bool.false_and]
    refine sp_ntz (pi_ok ?_)
    rw [ntz_low h hk2]
    exact H
  · have q := z0.1 q
    have hk2 : 32 ≤ k := by
      rcases Nat.lt_or_ge k 32 with w | w
      · have e : (P % 2 ^ 32).testBit k = true := by rw [Nat.testBit_mod_two_pow, decide_eq_true w, h.1]; rfl
        rw [q, Nat.zero_testBit] at e
        exact Bool.noConfusion e
      · exact w
    have a := wb_shr (k := 32) hP (by decide)
    have a : ((lN P).toUInt64 >>> ((32 : Int32).toInt64.toUInt64 &&& Int64.toUInt64 63)).toInt64 = lN (P / 2 ^ 32) := a
    rw [a, lN_i32]
    refine sp_ntz (pi_ok ?_)
    have hl : LowB (P / 2 ^ 32) (k - 32) := by
      refine ⟨?_, fun i hi => ?_⟩
      · rw [Nat.testBit_div_two_pow, Nat.sub_add_cancel hk2]; exact h.1
      · rw [Nat.testBit_div_two_pow]; exact h.2 _ (by omega)
    rw [ntz_low hl (by omega), kx_32, nI_add, show 32 + (k - 32) = k by omega]
    exact H
theorem sp_leastOf {P k : Nat} (hP : P < 2 ^ 64) (hk : k < 64) (h : LowB P k) (H : φ (nI k) τ) : zCall G MX12_leastOf [.long (lN P)] τ (zpi φ) := by
  refine C_X12_leastOf _ τ ?_
  have key : ∀ m i, i + m = k → zRun G MX12_leastOf 2 [(0, .long (lN P)), (2, .int (nI i))] [] τ (zpi φ) := by
    intro m
    induction m with
    | zero =>
      intro i e
      have e : i = k := by omega
      subst e
      refine V_X12_leastOf_2 _ _ τ ?_
      rw [lbit hP (by omega), lb0, h.1]
      exact ⟨fun _ => pi_ok H, fun q => Bool.noConfusion q⟩
    | succ m ih =>
      intro i e
      refine V_X12_leastOf_2 _ _ τ ?_
      rw [lbit hP (by omega), lb0, h.2 i (by omega), i1]
      exact ⟨fun q => absurd rfl q, fun _ => ih (i + 1) (by omega)⟩
  exact key k 0 (by omega)
end LB

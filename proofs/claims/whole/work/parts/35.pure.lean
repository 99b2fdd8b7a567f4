/-! PURE PICTURES of the lane: v 0 = n, v 1 whether open, v 2 .. v 7 the rates (R, L, IN, BACK IN, OUT, BACK OUT) -/
def pw (v : Nat → Nat) (k : Nat) : Nat := if k = 0 then 0 else v k
def pgates (n op : Nat) : Nat := if op = 1 then n + 1 else n
def pnx (n g : Nat) : Nat := if g + 1 = n then 0 else g + 1
def pbg (n op g : Nat) : Nat := if op = 1 then ((3 <<< g) >>> 1) % 2 ^ n else (1 <<< g) ||| (1 <<< pnx n g)
def pbond (s l r : Nat) : Nat := if s.testBit l = s.testBit r then 0 else if s.testBit l then 2 else 3
/-- which rate goes over gate g from s: 0 none -/
def pro (n op s g : Nat) : Nat := if op = 1 then (if g = 0 then (if s.testBit 0 then 7 else 4) else if g = n then (if s.testBit (n - 1) then 6 else 5) else pbond s (g - 1) g) else pbond s g (pnx n g)
def psum (m : Nat) (f : Nat → Nat) : Nat := ((List.range m).map f).sum
def prate (v : Nat → Nat) (s t : Nat) : Nat := psum (pgates (v 0) (v 1)) (fun g => if s ^^^ pbg (v 0) (v 1) g = t then pw v (pro (v 0) (v 1) s g) else 0)
def pout (v : Nat → Nat) (s : Nat) : Nat := psum (pgates (v 0) (v 1)) (fun g => pw v (pro (v 0) (v 1) s g))
def ptgt (v : Nat → Nat) (s : Nat) : Nat := (List.range (pgates (v 0) (v 1))).foldl (fun a g => if 0 < pw v (pro (v 0) (v 1) s g) then a ||| 1 <<< (s ^^^ pbg (v 0) (v 1) g) else a) 0
/-- one step of the closing: all that k reaches is reached from s too, if k is -/
def pcl1 (k s : Nat) (f : Nat → Nat) : Nat → Nat := fun a => if a = s ∧ (f s).testBit k = true then f s ||| f k else f a
def pclS (k m : Nat) (f : Nat → Nat) : Nat → Nat := (List.range m).foldl (fun f s => pcl1 k s f) f
def pclK (m : Nat) (f : Nat → Nat) (k : Nat) : Nat → Nat := (List.range k).foldl (fun f b => pclS b m f) f
def preach (v : Nat → Nat) : Nat → Nat := pclK (2 ^ v 0) (fun s => ptgt v s ||| 1 <<< s) (2 ^ v 0)
def pset (m : Nat) (p : Nat → Bool) : Nat := (List.range m).foldl (fun a t => if p t then a ||| 1 <<< t else a) 0
def ppart (v : Nat → Nat) (s : Nat) : Nat := pset (2 ^ v 0) (fun t => decide (preach v t = preach v s))
def pmem (P : Nat) : List Nat := (List.range 64).filter (fun t => P.testBit t)
def ppop (P : Nat) : Nat := (pmem P).length
def pclr (M : Nat → Nat → Int64) (size k : Nat) (before : Int64) : Nat → Nat → Int64 := fun i j => if k < i ∧ i < size ∧ k < j ∧ j < size then (if before = 0 then 0 else (M i j * M k k - M i k * M k j) / before) else M i j
def pdetF (size : Nat) : Nat → (Nat → Nat → Int64) → Nat → Int64 → Int64
  | 0, _, _, before => before
  | n + 1, M, k, before => if M k k = 0 then 0 else pdetF size n (pclr M size k before) (k + 1) (M k k)
def pdet (size : Nat) (M : Nat → Nat → Int64) : Int64 := pdetF size size M 0 1
/-- row i, column j of the outflow of the states mem -/
def pofl (v : Nat → Nat) (mem : List Nat) (i j : Nat) : Int64 := if i = j then (nI (pout v (mem.getD i 0))).toInt64 else (-(nI (prate v (mem.getD i 0) (mem.getD j 0)))).toInt64
def psk (r i : Nat) : Nat := if i < r then i else i + 1
def pwt (v : Nat → Nat) (mem : List Nat) (r : Nat) : Int64 := pdet (mem.length - 1) (fun i j => pofl v mem (psk r i) (psk r j))
def psumL (m : Nat) (f : Nat → Int64) : Int64 := (List.range m).foldl (fun a i => a + f i) 0
/-- worths: a, b as longs -/
def ppow (a : Int64) : Nat → Int64
  | 0 => 1
  | n + 1 => ppow a n * a
def pwo (s i : Nat) : Nat := s % 2 ^ i + s / 2 ^ (i + 1) * 2 ^ i
def pfst (m s : Nat) : Option Nat := (List.range (m - 1)).find? (fun i => s.testBit i && !s.testBit (i + 1))
def pwor (a b : Int64) : Nat → Nat → Int64
  | 0, _ => 1
  | m + 1, s => match pfst (m + 1) s with
    | none => ppow a (ppop s) * ppow b (m + 1 - ppop s)
    | some i => a * b * (pwor a b m (pwo s i) + pwor a b m (pwo s (i + 1)))
/-! THE INVARIANT between the class's world and the reference's -/
def LaneOK (v : Nat → Nat) : Prop := (v 1 = 0 ∧ 2 ≤ v 0 ∧ v 0 ≤ 6 ∨ v 1 = 1 ∧ 1 ≤ v 0 ∧ v 0 ≤ 6) ∧ v 2 ≤ 9 ∧ v 3 ≤ 9 ∧ v 4 ≤ 9 ∧ v 5 ≤ 9 ∧ v 6 ≤ 9 ∧ v 7 ≤ 9
def I_lane (v : Nat → Nat) (τ : hz_T) : Prop := LaneOK v ∧ ∀ j, j < 8 → τ.1.1 4 j = nI (v j) ∧ τ.1.1 30 j = nI (v j)
def I_tape (τ : hz_T) : Prop := ∃ m : Nat, m ≤ 120 ∧ τ.1.1 1 1 = nI m ∧ τ.1.1 29 3 = nI m ∧ ∀ j, j < m → ∃ b : Nat, b < 256 ∧ τ.1.1 2 j &&& 255 = nI b ∧ τ.1.1 32 j = nI b
def I_fault (τ : hz_T) : Prop := τ.1.1 5 8 = τ.1.1 29 4
def I_sheet (k : Nat) (τ : hz_T) : Prop := (τ.1.1 26 k = -1 ∧ τ.1.1 46 k = -4) ∨ ∃ d n : Nat, d ≤ 2 ∧ n ≤ 64 ∧ τ.1.1 26 k = nI d ∧ τ.1.1 46 k = nI d ∧ τ.1.1 27 k = nI n ∧ τ.1.1 47 k = nI n ∧ ∀ i, i < n → τ.1.1 28 (64 * k + i) = τ.1.1 48 (64 * k + i)
def I_const (τ : hz_T) : Prop := (∀ j, j < 6 → τ.1.1 33 j = nI ([0, 4, 8, 11, 13, 16].getD j 0)) ∧ ∀ j, j < 16 → τ.1.1 34 j = nI ([114, 105, 110, 103, 111, 112, 101, 110, 104, 111, 112, 105, 110, 111, 117, 116].getD j 0)
def I_parts (v : Nat → Nat) (τ : hz_T) : Prop := τ.1.1 7 3 = 0 ∨ (τ.1.1 7 3 = 1 ∧ ∀ s, s < 2 ^ v 0 → τ.1.2 8 s = lN (preach v s) ∧ τ.1.2 9 s = lN (ppart v s))
def RestV (v : Nat → Nat) (P : Nat) (τ : hz_T) : Prop := ppop P ≤ 8 ∧ τ.1.1 10 7 = nI (ppop P) ∧ (∀ i, i < ppop P → τ.1.1 11 i = nI ((pmem P).getD i 0) ∧ τ.1.2 12 i = pwt v (pmem P) i ∧ ∀ j, j < ppop P → τ.1.2 13 (i * ppop P + j) = pofl v (pmem P) i j) ∧ τ.1.2 10 8 = psumL (ppop P) (pwt v (pmem P))
def I_rest (v : Nat → Nat) (τ : hz_T) : Prop := τ.1.2 10 6 = 0 ∨ ∃ P s : Nat, s < 2 ^ v 0 ∧ P = ppart v s ∧ preach v s = P ∧ τ.1.2 10 6 = lN P ∧ RestV v P τ
def I_words (v : Nat → Nat) (τ : hz_T) : Prop := τ.1.1 16 2 = 0 ∨ (τ.1.1 16 2 = 1 ∧ ∀ m s, m ≤ v 0 → s < 2 ^ m → τ.1.2 17 (2 ^ m + s) = pwor (lN (v 4)) (lN (v 6)) m s)
def Inv (τ : hz_T) : Prop := ∃ v : Nat → Nat, I_lane v τ ∧ I_tape τ ∧ I_fault τ ∧ (∀ k, k < 4 → I_sheet k τ) ∧ I_const τ ∧ I_parts v τ ∧ I_rest v τ ∧ I_words v τ
/-- the cells of K may have changed, all others are as they were -/
def Sm (K : List Nat) (τ τ' : hz_T) : Prop := ∀ q, q ∉ K → τ'.1.1 q = τ.1.1 q ∧ τ'.1.2 q = τ.1.2 q
def PI (G : hz_G) (Mx My : hz_M) (ax ay : List Value) (τ : hz_T) : Prop := zCall G Mx ax τ (zpi (fun a τ1 => zCall G My ay τ1 (zpi (fun b τ2 => a = b ∧ Inv τ2))))
def PL (G : hz_G) (Mx My : hz_M) (ax ay : List Value) (τ : hz_T) : Prop := zCall G Mx ax τ (zpl (fun a τ1 => zCall G My ay τ1 (zpl (fun b τ2 => a = b ∧ Inv τ2))))
theorem pi_ok {φ : Int32 → hz_T → Prop} {x : Int32} {τ : hz_T} (h : φ x τ) : zpi φ (some (.int x)) τ := ⟨x, rfl, h⟩
theorem pl_ok {φ : Int64 → hz_T → Prop} {x : Int64} {τ : hz_T} (h : φ x τ) : zpl φ (some (.long x)) τ := ⟨x, rfl, h⟩
theorem pv_ok {φ : hz_T → Prop} {τ : hz_T} (h : φ τ) : zpv φ none τ := ⟨rfl, h⟩
theorem pr_ok {φ : Nat → hz_T → Prop} {x : Nat} {τ : hz_T} (h : φ x τ) : zpr φ (some (.ref x)) τ := ⟨x, rfl, h⟩
theorem Sm.rf {K : List Nat} {τ : hz_T} : Sm K τ τ := fun _ _ => ⟨rfl, rfl⟩
theorem Sm.tr {K : List Nat} {a b c : hz_T} (h1 : Sm K a b) (h2 : Sm K b c) : Sm K a c := fun q hq => ⟨(h2 q hq).1.trans (h1 q hq).1, (h2 q hq).2.trans (h1 q hq).2⟩
theorem Sm.wk {K K' : List Nat} {a b : hz_T} (h : Sm K a b) (hs : ∀ q ∈ K, q ∈ K') : Sm K' a b := fun q hq => h q (fun h' => hq (hs q h'))
theorem zI_row {τ : hz_T} {q j q' : Nat} {x : Int32} (h : q' ≠ q) : (zI τ q j x).1.1 q' = τ.1.1 q' := hz_sI_row τ.1 q j x h
theorem zI_l {τ : hz_T} {q j : Nat} {x : Int32} : (zI τ q j x).1.2 = τ.1.2 := rfl
theorem zL_row {τ : hz_T} {q j q' : Nat} {x : Int64} (h : q' ≠ q) : (zL τ q j x).1.2 q' = τ.1.2 q' := hz_sL_row τ.1 q j x h
theorem zL_i {τ : hz_T} {q j : Nat} {x : Int64} : (zL τ q j x).1.1 = τ.1.1 := rfl
theorem zI_at {τ : hz_T} {q j q' j' : Nat} {x : Int32} : (zI τ q j x).1.1 q' j' = if q' = q ∧ j' = j then x else τ.1.1 q' j' := rfl
theorem zL_at {τ : hz_T} {q j q' j' : Nat} {x : Int64} : (zL τ q j x).1.2 q' j' = if q' = q ∧ j' = j then x else τ.1.2 q' j' := rfl
theorem zI_s {τ : hz_T} {q j : Nat} {x : Int32} : (zI τ q j x).2 = τ.2 := rfl
theorem zL_s {τ : hz_T} {q j : Nat} {x : Int64} : (zL τ q j x).2 = τ.2 := rfl
theorem Sm.I {K : List Nat} {a b : hz_T} {q j : Nat} {x : Int32} (h : Sm K a b) (hq : q ∈ K) : Sm K a (zI b q j x) := fun p hp => by
  have hne : p ≠ q := fun e => hp (e ▸ hq)
  exact ⟨(zI_row hne).trans (h p hp).1, (h p hp).2⟩
theorem Sm.L {K : List Nat} {a b : hz_T} {q j : Nat} {x : Int64} (h : Sm K a b) (hq : q ∈ K) : Sm K a (zL b q j x) := fun p hp => by
  have hne : p ≠ q := fun e => hp (e ▸ hq)
  exact ⟨(h p hp).1, (zL_row hne).trans (h p hp).2⟩

/-! THE MACHINE LAYER: one world of 49 cells at the addresses B, B + 1, ..; what they hold is two tables of numbers (ints, longs) and a table of references. -/
def hz_tbl : List Cond := lw_tbl.filter goodWord
abbrev hz_H : Type := (Nat → Nat → Int32) × (Nat → Nat → Int64)
abbrev hz_R : Type := Nat → Nat → Nat
def hz_sI (σ : hz_H) (q j : Nat) (v : Int32) : hz_H := (fun a b => if a = q ∧ b = j then v else σ.1 a b, σ.2)
def hz_sL (σ : hz_H) (q j : Nat) (v : Int64) : hz_H := (σ.1, fun a b => if a = q ∧ b = j then v else σ.2 a b)
def hz_sR (R : hz_R) (q j v : Nat) : hz_R := fun a b => if a = q ∧ b = j then v else R a b
def hz_zr (σ : hz_H) (q : Nat) : hz_H := (fun a b => if a = q then 0 else σ.1 a b, fun a b => if a = q then 0 else σ.2 a b)
def hz_zR (R : hz_R) (q : Nat) : hz_R := fun a b => if a = q then 0 else R a b
/-- launch; class numbers and slots; the classes of int, byte and long arrays; B; the script: its cell, its length, its ints -/
abbrev hz_G : Type := Launch × va_G × (Nat → ClassId) × Nat × (Nat × Nat × (Nat → Int32))
abbrev hz_B (G : hz_G) : Nat := G.2.2.2.1
abbrev hz_A (G : hz_G) : Nat → Prop := fun q => hz_B G ≤ q
def hz_shL : List (Nat × Nat) := [(8, 8), (6, 2), (21, 120), (0, 1), (20, 8), (3, 9), (20, 8), (2, 4), (22, 64), (22, 64), (4, 10), (20, 8), (22, 8), (22, 64), (22, 49), (22, 64), (7, 3), (22, 128), (1, 6), (22, 256), (22, 12), (22, 12), (20, 4), (20, 4), (22, 16), (5, 3), (20, 4), (20, 4), (20, 256), (9, 31), (20, 8), (20, 8), (20, 120), (20, 6), (20, 16), (22, 64), (20, 64), (22, 64), (22, 64), (22, 128), (20, 64), (22, 256), (22, 4096), (22, 4096), (20, 4), (20, 6), (20, 4), (20, 4), (20, 256)]
def hz_sh (q : Nat) : Nat × Nat := hz_shL.getD q (0, 0)
def hz_fkL : List (List Nat) := [[2], [2, 2, 2, 2, 2, 2], [2, 2, 2, 0], [2, 2, 0, 0, 0, 0, 0, 0, 0], [2, 2, 2, 2, 2, 2, 1, 0, 1, 1], [2, 2, 2], [2, 0], [2, 2, 0], [2, 2, 2, 2, 2, 2, 2, 2], [2, 2, 2, 0, 0, 0, 0, 0, 0, 0, 0, 0, 2, 2, 2, 0, 2, 2, 2, 2, 0, 2, 0, 2, 2, 2, 2, 2, 2, 2, 2]]
def hz_fk (ci : Nat) : List Nat := hz_fkL.getD ci []
def hz_S (N : Nat) : Nat := ((List.range N).map (fun q => (hz_sh q).2)).sum
def hz_up (G : hz_G) : Value → Value
  | .ref k => .ref (hz_B G + k)
  | .retAddr _ => .ref G.2.2.2.2.1
  | v => v
def hz_u2 (G : hz_G) (q : Nat × Value) : Nat × Value := (q.1, hz_up G q.2)
def hz_rf (B n : Nat) : Value := match n with
  | 0 => .null
  | k + 1 => .ref (B + k)
def hz_fv (B : Nat) (R : hz_R) (σ : hz_H) (q kd j : Nat) : Value := match kd with
  | 0 => .int (σ.1 q j)
  | 1 => .long (σ.2 q j)
  | _ => hz_rf B (R q j)
def hz_fs (B : Nat) (R : hz_R) (σ : hz_H) (q ci : Nat) : List Value := (List.range (hz_fk ci).length).map (fun j => hz_fv B R σ q ((hz_fk ci).getD j 0) j)
def hz_cell (G : hz_G) (R : hz_R) (σ : hz_H) (q : Nat) : va_E :=
  if (hz_sh q).1 = 20 then .inl (G.2.2.1 0, (hz_sh q).2, .inl (σ.1 q))
  else if (hz_sh q).1 = 21 then .inl (G.2.2.1 1, (hz_sh q).2, .inl (σ.1 q))
  else if (hz_sh q).1 = 22 then .inl (G.2.2.1 2, (hz_sh q).2, .inr (.inl (σ.2 q)))
  else .inr ((hz_sh q).1, hz_fs (hz_B G) R σ q (hz_sh q).1)
def hz_ws (G : hz_G) (R : hz_R) (N : Nat) (σ : hz_H) : va_W := (List.range N).map (fun q => (hz_B G + q, hz_cell G R σ q))
def hz_tys (G : hz_G) : List (ClassId × FieldType) := [(G.2.2.1 0, .int), (G.2.2.1 1, .byte), (G.2.2.1 2, .long)]
def hz_X (G : hz_G) (U : State) : Prop := va_X G.2.2.2.2.1 G.2.2.2.2.2.1 G.2.2.2.2.2.2 U U.heap ∧ G.2.2.2.2.1 < hz_B G
def hz_W (G : hz_G) (N : Nat) (R : hz_R) (σ : hz_H) (U : State) : Prop := U.heap.size = hz_B G + N ∧ va_P G.2.1 vwCl (hz_ws G R N σ) U.heap ∧ va_K G.2.1 vwCl (hz_tys G) U ∧ hz_X G U
abbrev hz_P : Type := Option Value → hz_R → hz_H → Prop
def hz_Q (G : hz_G) (N' : Nat) (post : hz_P) : Array Value → State → Outcome → State → Prop := fun _ st oc t => (∃ (r : Option Value) (R' : hz_R) (σ' : hz_H), oc = .returned (r.map (hz_up G)) ∧ post r R' σ' ∧ hz_W G N' R' σ' t) ∧ va_F (hz_A G) st t
def hz_rm (M : hz_M) (N N' : Nat) : Room := { frames := M.2.2.2.2.1, cells := N' - N, slots := hz_S N' - hz_S N, locals := M.2.2.2.2.2 }
def hz_wd (M : hz_M) : List Cond := Cond.code M.1 M.2.1 M.2.2.1 M.2.2.2.1 :: hz_tbl
/-- a call: in any heap that holds the world N, R, σ method M comes back from the arguments av with an answer, a world N', R', σ' that post says of -/
def hz_Call (G : hz_G) (N N' : Nat) (M : hz_M) (R : hz_R) (av : List Value) (σ : hz_H) (post : hz_P) : Prop :=
  Met G.1 M.1 (hz_wd M) (hz_rm M N N') (va_Pc (av.map (hz_up G)) (hz_W G N R σ)) (hz_Q G N' post) (N' - N) (hz_S N' - hz_S N) (hz_A G)
def hz_C (G : hz_G) (M : hz_M) (p : Program) (s : State) (m : MethodId) (args : Array Value) (meth : Method) (c : Code) : Prop :=
  p.tables.exec = Jvm.exec ∧ c.code = M.2.1 ∧ c.maxLocals = M.2.2.1 ∧ meth.sig.returnType = M.2.2.2.1 ∧ s.vm.findClass M.1.cls = some m.cls ∧ (∀ w ∈ hz_tbl, w.before args s = true) ∧ meth.locks = false ∧ meth.name = M.1.name ∧ va_K G.2.1 vwCl (hz_tys G) s ∧ hz_B G ≤ s.heap.size ∧ hz_X G s
/-- a place in a method: from there it comes to its end as post says -/
def hz_Run (G : hz_G) (N N' : Nat) (M : hz_M) (R : hz_R) (pc : Nat) (lv : List (Nat × Value)) (st : List Value) (σ : hz_H) (post : hz_P) : Prop :=
  ∀ (N0 : Nat) (p : Program) (e : Env) (s : State) (m : MethodId) (args : Array Value) (below : List Frame) (meth : Method) (c : Code) (H : Heap) (locs : List Loc) (ls : Array Slot), N0 ≤ N → hz_C G M p s m args meth c → va_S (hz_A G) s.heap H locs → H.size = hz_B G + N → va_P G.2.1 vwCl (hz_ws G R N σ) H → lv_has ls M.2.2.1 (lv.map (hz_u2 G)) →
    W p G.1 e (hz_rm M N0 N') s m args below meth c H locs (N - N0) (hz_S N - hz_S N0) (MQ below (hz_Q G N' post) args s (N' - N0) (hz_S N' - hz_S N0) (hz_A G)) (F0 m pc ls (st.map (hz_up G)))
theorem hz_goodIn : GoodIn hz_tbl hz_tbl := fun w hw => ⟨hw, good_of_word (List.mem_filter.mp hw).2⟩
theorem hz_mem {w : Cond} (i : Nat) (h : (decide (lw_tbl[i]? = some w) && goodWord w) = true) : w ∈ hz_tbl := by
  simp only [Bool.and_eq_true, decide_eq_true_eq] at h
  exact List.mem_filter.mpr ⟨List.mem_of_getElem? h.1, h.2⟩
theorem hz_allIn {ws : List Cond} (h : ∀ w ∈ ws, w ∈ lw_tbl) (hg : ws.all goodWord = true) : ∀ w ∈ ws, w ∈ hz_tbl := fun w hw => List.mem_filter.mpr ⟨h w hw, List.all_eq_true.mp hg w hw⟩
theorem hz_goodM {M : hz_M} (h : Cond.code M.1 M.2.1 M.2.2.1 M.2.2.2.1 ∈ hz_tbl) : GoodIn hz_tbl (hz_wd M) := fun w hw => (List.mem_cons.mp hw).elim (fun q => q ▸ hz_goodIn _ h) (hz_goodIn w)
theorem hz_S_succ (N : Nat) : hz_S (N + 1) = hz_S N + (hz_sh N).2 := by simp [hz_S, List.range_succ]
theorem hz_S_mono {a b : Nat} (h : a ≤ b) : hz_S a ≤ hz_S b := by
  induction b with
  | zero => have : a = 0 := by omega
            subst this; exact Nat.le_refl _
  | succ n ih =>
    by_cases hn : a = n + 1
    · subst hn; exact Nat.le_refl _
    · exact Nat.le_trans (ih (by omega)) (by rw [hz_S_succ]; exact Nat.le_add_right _ _)
theorem hz_ws_at (G : hz_G) (R : hz_R) {N q : Nat} (σ : hz_H) (h : q < N) : (hz_ws G R N σ)[q]? = some (hz_B G + q, hz_cell G R σ q) := by simp [hz_ws, h]
theorem hz_ws_some {G : hz_G} {R : hz_R} {N k : Nat} {σ : hz_H} {x : Nat × va_E} (h : (hz_ws G R N σ)[k]? = some x) : k < N ∧ x = (hz_B G + k, hz_cell G R σ k) := by
  by_cases hk : k < N
  · rw [hz_ws_at G R σ hk] at h
    exact ⟨hk, (Option.some.inj h).symm⟩
  · simp [hz_ws, hk] at h
theorem hz_ws_D (G : hz_G) (R : hz_R) (N : Nat) (σ : hz_H) : va_D (hz_A G) (hz_ws G R N σ) := by
  refine ⟨fun i j p q hi hj hpq => ?_, fun k q hk => ?_⟩
  · obtain ⟨_, rfl⟩ := hz_ws_some hi
    obtain ⟨_, rfl⟩ := hz_ws_some hj
    dsimp only at hpq
    omega
  · obtain ⟨_, rfl⟩ := hz_ws_some hk
    exact Nat.le_add_right _ _
theorem hz_ws_set {G : hz_G} {R R' : hz_R} {N q : Nat} {σ σ' : hz_H} {e : va_E} (he : hz_cell G R' σ' q = e) (ho : ∀ k, k ≠ q → hz_cell G R' σ' k = hz_cell G R σ k) : (hz_ws G R N σ).set q (hz_B G + q, e) = hz_ws G R' N σ' := by
  apply List.ext_getElem?
  intro k
  rw [List.getElem?_set]
  by_cases hk : q = k
  · subst hk
    by_cases hN : q < N
    · rw [if_pos rfl, if_pos (by simpa [hz_ws] using hN), hz_ws_at G R' σ' hN, he]
    · rw [if_pos rfl, if_neg (by simpa [hz_ws] using hN)]
      simp [hz_ws, hN]
  · rw [if_neg hk]
    by_cases hN : k < N
    · rw [hz_ws_at G R σ hN, hz_ws_at G R' σ' hN, ho k (fun h => hk h.symm)]
    · simp [hz_ws, hN]
theorem hz_ws_app {G : hz_G} {R R' : hz_R} {N : Nat} {σ σ' : hz_H} (ho : ∀ k, k < N → hz_cell G R' σ' k = hz_cell G R σ k) : hz_ws G R N σ ++ [(hz_B G + N, hz_cell G R' σ' N)] = hz_ws G R' (N + 1) σ' := by
  simp only [hz_ws, List.range_succ, List.map_append, List.map_cons, List.map_nil]
  congr 1
  apply List.map_congr_left
  intro k hk
  rw [ho k (List.mem_range.mp hk)]
theorem hz_cell_o {G : hz_G} {R : hz_R} {σ : hz_H} {q ci n : Nat} (h : hz_sh q = (ci, n)) (hc : ci < 20) : hz_cell G R σ q = .inr (ci, hz_fs (hz_B G) R σ q ci) := by
  simp only [hz_cell, h]
  rw [if_neg (by omega), if_neg (by omega), if_neg (by omega)]
theorem hz_cell_i {G : hz_G} {R : hz_R} {σ : hz_H} {q n : Nat} (h : hz_sh q = (20, n)) : hz_cell G R σ q = .inl (G.2.2.1 0, n, .inl (σ.1 q)) := by
  simp only [hz_cell, h, if_true]
theorem hz_cell_b {G : hz_G} {R : hz_R} {σ : hz_H} {q n : Nat} (h : hz_sh q = (21, n)) : hz_cell G R σ q = .inl (G.2.2.1 1, n, .inl (σ.1 q)) := by
  simp only [hz_cell, h, if_true]
  rfl
theorem hz_cell_l {G : hz_G} {R : hz_R} {σ : hz_H} {q n : Nat} (h : hz_sh q = (22, n)) : hz_cell G R σ q = .inl (G.2.2.1 2, n, .inr (.inl (σ.2 q))) := by
  simp only [hz_cell, h, if_true]
  rfl
theorem hz_cell_eq {G : hz_G} {R R' : hz_R} {σ σ' : hz_H} {k : Nat} (h1 : σ'.1 k = σ.1 k) (h2 : σ'.2 k = σ.2 k) (h3 : R' k = R k) : hz_cell G R' σ' k = hz_cell G R σ k := by
  have hf : ∀ ci, hz_fs (hz_B G) R' σ' k ci = hz_fs (hz_B G) R σ k ci := by
    intro ci
    simp only [hz_fs]
    apply List.map_congr_left
    intro j _
    simp only [hz_fv, h1, h2, h3]
  simp only [hz_cell, h1, h2, hf]
theorem hz_up_cat (G : hz_G) (v : Value) : (hz_up G v).category = v.category := by cases v <;> rfl
theorem hz_fs_at {B : Nat} {R : hz_R} {σ : hz_H} {q ci j kd : Nat} (h : (hz_fk ci)[j]? = some kd) : (hz_fs B R σ q ci)[j]? = some (hz_fv B R σ q kd j) := by
  have hj : j < (hz_fk ci).length := (List.getElem?_eq_some_iff.mp h).1
  simp only [hz_fs, List.getElem?_map, List.getElem?_range hj, Option.map_some]
  rw [List.getD_eq_getElem?_getD, h]
  rfl
theorem hz_fs_set {B : Nat} {R R' : hz_R} {σ σ' : hz_H} {q ci j kd : Nat} {v : Value} (h : (hz_fk ci)[j]? = some kd) (hv : hz_fv B R' σ' q kd j = v) (ho : ∀ i kd, i ≠ j → hz_fv B R' σ' q kd i = hz_fv B R σ q kd i) : (hz_fs B R σ q ci).set j v = hz_fs B R' σ' q ci := by
  apply List.ext_getElem?
  intro i
  rw [List.getElem?_set]
  have hj : j < (hz_fk ci).length := (List.getElem?_eq_some_iff.mp h).1
  by_cases hi : j = i
  · subst hi
    rw [if_pos rfl, if_pos (by simpa [hz_fs] using hj), hz_fs_at h, hv]
  · rw [if_neg hi]
    cases hk : (hz_fk ci)[i]? with
    | none =>
      have hl : (hz_fk ci).length ≤ i := by simpa using hk
      simp [hz_fs, hl]
    | some kd' => rw [hz_fs_at hk, hz_fs_at hk, ho i kd' (fun h => hi h.symm)]
theorem hz_fs_len {B : Nat} {R : hz_R} {σ : hz_H} {q ci : Nat} : (hz_fs B R σ q ci).length = (hz_fk ci).length := by simp [hz_fs]


section HZ2
variable {G : hz_G} {N N' : Nat} {M : hz_M} {R : hz_R} {pc : Nat} {lv : List (Nat × Value)} {st : List Value} {σ : hz_H} {post : hz_P}
/-- field k of class ci, as class own's pool has it at idx -/
def hz_F (own : String) (idx ci k : Nat) : Prop := ∃ (C : String) (T : u_T) (NN : Nat), vwCl[ci]? = some (C, T, NN) ∧ k < NN ∧ (∀ w ∈ u_ws C T NN, w ∈ hz_tbl) ∧ Cond.fieldLink own idx (T k).1 (T k).2.1 (T k).2.2.1 ∈ hz_tbl
def hz_FP (own : String) (idx ci k : Nat) (fin : Bool) (ty : FieldType) : Prop := ∃ (C : String) (T : u_T) (NN : Nat) (ty0 : Nat → FieldType), vwCl[ci]? = some (C, T, NN) ∧ k < NN ∧ (∀ w ∈ u_ws C T NN, w ∈ hz_tbl) ∧ Cond.fieldLink own idx (T k).1 (T k).2.1 (T k).2.2.1 ∈ hz_tbl ∧
  (∀ k, k < NN → parseFieldDescriptor (T k).2.2.1 = some (ty0 k)) ∧ (∀ a, a < NN → ∀ b, b < NN → a ≠ b → (T a).2.1 ≠ (T b).2.1) ∧ (T k).2.2.2 = fin ∧ (T k).1 = own ∧ parseFieldDescriptor (T k).2.2.1 = some ty
theorem hz_get {q ci n k kd idx : Nat} (hd : decode M.2.1 pc = .ok (.getfield idx, 3)) (hq : q < N) (hsh : hz_sh q = (ci, n)) (hci : ci < 20) (hF : hz_F M.1.cls idx ci k) (hk : (hz_fk ci)[k]? = some kd)
    {v : Value} (hv : hz_up G v = hz_fv (hz_B G) R σ q kd k) (h : hz_Run G N N' M R (pc + 3) lv (v :: st) σ post) : hz_Run G N N' M R pc lv (.ref q :: st) σ post := by
  intro N0 p e s m args below meth c H locs ls h0 C hS hz hP hlv
  obtain ⟨Cn, T, NN, h1, h2, h3, h4⟩ := hF
  refine va_get (D := G.2.1) (v := hz_up G v) C.1 C.2.1 C.2.2.2.2.2.1 h3 C.2.2.2.2.1 C.2.2.2.2.2.2.2.2.1 hP q (by rw [hz_ws_at G R σ hq, hz_cell_o hsh hci]) h1 k h2 (C.2.2.2.2.2.1 _ h4) (fun _ h9 => h9) (by rw [hz_fs_at hk, hv]) hd ?_
  exact h N0 p e s m args below meth c H locs ls h0 C hS hz hP hlv
theorem o_getI {q ci n k idx : Nat} (hd : decode M.2.1 pc = .ok (.getfield idx, 3)) (hF : hz_F M.1.cls idx ci k) (hq : q < N) (hsh : hz_sh q = (ci, n)) (hci : ci < 20) (hk : (hz_fk ci)[k]? = some 0)
    (h : hz_Run G N N' M R (pc + 3) lv (.int (σ.1 q k) :: st) σ post) : hz_Run G N N' M R pc lv (.ref q :: st) σ post := hz_get hd hq hsh hci hF hk rfl h
theorem o_getL {q ci n k idx : Nat} (hd : decode M.2.1 pc = .ok (.getfield idx, 3)) (hF : hz_F M.1.cls idx ci k) (hq : q < N) (hsh : hz_sh q = (ci, n)) (hci : ci < 20) (hk : (hz_fk ci)[k]? = some 1)
    (h : hz_Run G N N' M R (pc + 3) lv (.long (σ.2 q k) :: st) σ post) : hz_Run G N N' M R pc lv (.ref q :: st) σ post := hz_get hd hq hsh hci hF hk rfl h
theorem o_getR {q ci n k idx a : Nat} (hd : decode M.2.1 pc = .ok (.getfield idx, 3)) (hF : hz_F M.1.cls idx ci k) (hq : q < N) (hsh : hz_sh q = (ci, n)) (hci : ci < 20) (hk : (hz_fk ci)[k]? = some 2) (hR : R q k = a + 1)
    (h : hz_Run G N N' M R (pc + 3) lv (.ref a :: st) σ post) : hz_Run G N N' M R pc lv (.ref q :: st) σ post := hz_get hd hq hsh hci hF hk (by simp only [hz_fv, hR, hz_rf, hz_up]) h
/-- a field becomes v: by its kind the world behind it -/
theorem hz_putf {q ci n k kd idx : Nat} {ty : FieldType} {fin : Bool} (hd : decode M.2.1 pc = .ok (.putfield idx, 3)) (hF : hz_FP M.1.cls idx ci k fin ty) (hfin : fin = true → M.1.name = "<init>") (hq : q < N) (hsh : hz_sh q = (ci, n)) (hci : ci < 20) (hk : (hz_fk ci)[k]? = some kd)
    {v : Value} (hn : narrow ty (hz_up G v) = hz_up G v) (hfit : fits ty (hz_up G v) = true) {R' : hz_R} {σ' : hz_H} (hv : hz_fv (hz_B G) R' σ' q kd k = hz_up G v) (ho : ∀ i kd, i ≠ k → hz_fv (hz_B G) R' σ' q kd i = hz_fv (hz_B G) R σ q kd i)
    (hoc : ∀ j, j ≠ q → σ'.1 j = σ.1 j ∧ σ'.2 j = σ.2 j ∧ R' j = R j) (h : hz_Run G N N' M R' (pc + 3) lv st σ' post) : hz_Run G N N' M R pc lv (v :: .ref q :: st) σ post := by
  intro N0 p e s m args below meth c H locs ls h0 C hS hz hP hlv
  obtain ⟨Cn, T, NN, ty0, h1, h2, h3, h4, h5, h6, h7, h8, h9⟩ := hF
  have hts := C.2.2.2.2.2.1
  have hown := C.2.2.2.2.1
  have hK := C.2.2.2.2.2.2.2.2.1
  have hD := hz_ws_D G R N σ
  have he : (hz_ws G R N σ)[q]? = some (hz_B G + q, .inr (ci, hz_fs (hz_B G) R σ q ci)) := by rw [hz_ws_at G R σ hq, hz_cell_o hsh hci]
  have hap := va_apart (own := M.1.cls) hts h3 ty0 h5 h6 hK h1
  obtain ⟨r, g1, cell, q1, q2, q3, q4⟩ := hP q _ he
  have hr : r = (Cn, T, NN) := Option.some.inj (g1.symm.trans h1)
  subst hr
  obtain ⟨hSl, hfc, kC, hkC, hkind⟩ := hK.1 ci _ h1
  obtain ⟨cf, kf, fi, f, hi, hsl⟩ := hSl k h2
  have hlay := hts _ (h3 _ (u_in_lay h2))
  have hst := (u_facts hfc hkC (u_lays hts h3 h2) hi).1
  have hkl : k < (hz_fs (hz_B G) R σ q ci).length := by rw [hz_fs_len]; exact (List.getElem?_eq_some_iff.mp hk).1
  have fin' : ∀ H' : Heap, H'[hz_B G + q]? = some (cell.setSlot f.slot (hz_up G v)) → H'.size = H.size → (∀ x, x ≠ hz_B G + q → H'[x]? = H[x]?) → W p G.1 e (hz_rm M N0 N') s m args below meth c H' (locs ++ [⟨hz_B G + q, f.slot⟩]) (N - N0) (hz_S N - hz_S N0) (MQ below (hz_Q G N' post) args s (N' - N0) (hz_S N' - hz_S N0) (hz_A G)) (F0 m (pc + 3) ls (st.map (hz_up G))) := by
    intro H' e1 e2 e3
    rw [hsl] at e1
    refine h N0 p e s m args below meth c H' _ ls h0 C (hS.put e2 e3 (Nat.le_add_right _ _)) (by rw [e2]; exact hz) ?_ hlv
    have hP' := hP.set hD he (e := .inr (ci, (hz_fs (hz_B G) R σ q ci).set k (hz_up G v))) ⟨_, h1, t_OB.to (V := updV (vp_V (hz_fs (hz_B G) R σ q ci)) k (hz_up G v)) ⟨_, e1, q2, q3, t_set q4 hap h2 (hz_up G v)⟩ (fun j _ => vp_updV_set hkl (hz_up G v) j)⟩ e3
    rw [hz_ws_set (R' := R') (σ' := σ') (by rw [hz_cell_o hsh hci, hz_fs_set hk hv ho]) (fun j hj => hz_cell_eq (hoc j hj).1 (hoc j hj).2.1 (hoc j hj).2.2)] at hP'
    exact hP'
  cases hfb : fin with
  | false =>
    unfold u_lay at hlay
    rw [if_neg (by rw [h7, hfb]; decide)] at hlay
    have h10 := u_store hfc hkC hkind hlay hi h9 hn hfit
    exact W.putK C.1 C.2.1 (f := f) ⟨hown, hts _ h4, ⟨_, _, _, hi⟩, hst⟩ (by rw [q2]; exact h10) q1 q3 (by rw [hsl]; exact k2_hasslot (q4 k h2)) rfl rfl hd fin'
  | true =>
    unfold u_lay at hlay
    rw [if_pos (by rw [h7, hfb])] at hlay
    have hcf : m.cls = cf := by
      obtain ⟨_, _, c', _, _, _, -, -, hf', -, -, -, hown2, -⟩ := Cond.laysFinal_spec hlay
      have e1 : c' = cf := by have := hi.symm.trans hf'; simp at this; exact this.1.symm
      rw [h8] at hown2
      rw [← e1]; exact Option.some.inj (hown.symm.trans hown2)
    have h10 := u_fits hfc hkC hkind (Or.inr hlay) hi h9 hn hfit
    exact W.putFinK C.1 C.2.1 hown (hts _ h4) hi hst hcf (by rw [C.2.2.2.2.2.2.2.1]; exact hfin hfb) (by rw [q2]; exact h10) q1 q3 (by rw [hsl]; exact k2_hasslot (q4 k h2)) rfl rfl hd fin'
theorem hz_sI_row (σ : hz_H) (q k : Nat) (x : Int32) {j : Nat} (h : j ≠ q) : (hz_sI σ q k x).1 j = σ.1 j := by funext b; simp [hz_sI, h]
theorem hz_sL_row (σ : hz_H) (q k : Nat) (x : Int64) {j : Nat} (h : j ≠ q) : (hz_sL σ q k x).2 j = σ.2 j := by funext b; simp [hz_sL, h]
theorem hz_sR_row (R : hz_R) (q k a : Nat) {j : Nat} (h : j ≠ q) : hz_sR R q k a j = R j := by funext b; simp [hz_sR, h]
theorem o_putI {q ci n k idx : Nat} {ty : FieldType} {x : Int32} (hd : decode M.2.1 pc = .ok (.putfield idx, 3)) (hF : hz_FP M.1.cls idx ci k false ty) (hq : q < N) (hsh : hz_sh q = (ci, n)) (hci : ci < 20) (hk : (hz_fk ci)[k]? = some 0) (hn : narrow ty (.int x) = .int x) (hfit : fits ty (.int x) = true)
    (h : hz_Run G N N' M R (pc + 3) lv st (hz_sI σ q k x) post) : hz_Run G N N' M R pc lv (.int x :: .ref q :: st) σ post := by
  refine hz_putf (R' := R) (σ' := hz_sI σ q k x) hd hF (fun h => by cases h) hq hsh hci hk hn hfit (by simp [hz_fv, hz_sI, hz_up]) (fun i kd hi => ?_) (fun j hj => ⟨hz_sI_row σ q k x hj, rfl, rfl⟩) h
  simp [hz_fv, hz_sI, hi]
theorem o_putL {q ci n k idx : Nat} {ty : FieldType} {x : Int64} (hd : decode M.2.1 pc = .ok (.putfield idx, 3)) (hF : hz_FP M.1.cls idx ci k false ty) (hq : q < N) (hsh : hz_sh q = (ci, n)) (hci : ci < 20) (hk : (hz_fk ci)[k]? = some 1) (hn : narrow ty (.long x) = .long x) (hfit : fits ty (.long x) = true)
    (h : hz_Run G N N' M R (pc + 3) lv st (hz_sL σ q k x) post) : hz_Run G N N' M R pc lv (.long x :: .ref q :: st) σ post := by
  refine hz_putf (R' := R) (σ' := hz_sL σ q k x) hd hF (fun h => by cases h) hq hsh hci hk hn hfit (by simp [hz_fv, hz_sL, hz_up]) (fun i kd hi => ?_) (fun j hj => ⟨rfl, hz_sL_row σ q k x hj, rfl⟩) h
  simp [hz_fv, hz_sL, hi]
theorem o_putR {q ci n k idx a : Nat} {ty : FieldType} {fin : Bool} (hd : decode M.2.1 pc = .ok (.putfield idx, 3)) (hF : hz_FP M.1.cls idx ci k fin ty) (hfin : fin = true → M.1.name = "<init>") (hq : q < N) (hsh : hz_sh q = (ci, n)) (hci : ci < 20) (hk : (hz_fk ci)[k]? = some 2) (hn : ∀ b : Nat, narrow ty (.ref b) = .ref b) (hfit : ∀ b : Nat, fits ty (.ref b) = true)
    (h : hz_Run G N N' M (hz_sR R q k (a + 1)) (pc + 3) lv st σ post) : hz_Run G N N' M R pc lv (.ref a :: .ref q :: st) σ post := by
  refine hz_putf (R' := hz_sR R q k (a + 1)) (σ' := σ) hd hF hfin hq hsh hci hk (hn _) (hfit _) (by simp [hz_fv, hz_sR, hz_up, hz_rf]) (fun i kd hi => ?_) (fun j hj => ⟨rfl, rfl, hz_sR_row R q k (a + 1) hj⟩) h
  simp [hz_fv, hz_sR, hi]
/-! arrays -/
theorem hz_in {i : Int32} {j n : Nat} (hi : i = nI j) (hj : j < n) (hn : n < 2 ^ 31) : vp_in i n := by rw [hi]; exact vp_in_nI hj hn
theorem hz_cl {i : Int32} {j n : Nat} (hi : i = nI j) (hj : j < n) (hn : n < 2 ^ 31) : i.toNatClampNeg = j := by rw [hi]; exact nI_clamp (Nat.lt_trans hj hn)
theorem o_iald {q n j : Nat} {i : Int32} (hd : decode M.2.1 pc = .ok (.iaload, 1)) (hq : q < N) (hsh : hz_sh q = (20, n)) (hn : n < 2 ^ 31) (hi : i = nI j) (hj : j < n)
    (h : hz_Run G N N' M R (pc + 1) lv (.int (σ.1 q j) :: st) σ post) : hz_Run G N N' M R pc lv (.int i :: .ref q :: st) σ post := by
  intro N0 p e s m args below meth c H locs ls h0 C hS hz hP hlv
  refine va_iald (D := G.2.1) C.1 C.2.1 C.2.2.2.2.2.2.2.2.1 hP q 0 (by rw [hz_ws_at G R σ hq, hz_cell_i hsh]) rfl (hz_in hi hj hn) hd ?_
  rw [hz_cl hi hj hn]
  exact h N0 p e s m args below meth c H locs ls h0 C hS hz hP hlv
theorem o_bald {q n j : Nat} {i : Int32} (hd : decode M.2.1 pc = .ok (.baload, 1)) (hq : q < N) (hsh : hz_sh q = (21, n)) (hn : n < 2 ^ 31) (hi : i = nI j) (hj : j < n)
    (h : hz_Run G N N' M R (pc + 1) lv (.int (σ.1 q j) :: st) σ post) : hz_Run G N N' M R pc lv (.int i :: .ref q :: st) σ post := by
  intro N0 p e s m args below meth c H locs ls h0 C hS hz hP hlv
  refine va_bald (D := G.2.1) C.1 C.2.1 C.2.2.2.2.2.2.2.2.1 hP q 1 (by rw [hz_ws_at G R σ hq, hz_cell_b hsh]) rfl (hz_in hi hj hn) hd ?_
  rw [hz_cl hi hj hn]
  exact h N0 p e s m args below meth c H locs ls h0 C hS hz hP hlv
theorem o_lald {q n j : Nat} {i : Int32} (hd : decode M.2.1 pc = .ok (.laload, 1)) (hq : q < N) (hsh : hz_sh q = (22, n)) (hn : n < 2 ^ 31) (hi : i = nI j) (hj : j < n)
    (h : hz_Run G N N' M R (pc + 1) lv (.long (σ.2 q j) :: st) σ post) : hz_Run G N N' M R pc lv (.int i :: .ref q :: st) σ post := by
  intro N0 p e s m args below meth c H locs ls h0 C hS hz hP hlv
  refine va_lald (D := G.2.1) C.1 C.2.1 C.2.2.2.2.2.2.2.2.1 hP q 2 (by rw [hz_ws_at G R σ hq, hz_cell_l hsh]) rfl (hz_in hi hj hn) hd ?_
  rw [hz_cl hi hj hn]
  exact h N0 p e s m args below meth c H locs ls h0 C hS hz hP hlv
theorem o_alen {q tg n : Nat} (hd : decode M.2.1 pc = .ok (.arraylength, 1)) (hq : q < N) (hsh : hz_sh q = (tg, n)) (ht : tg = 20 ∨ tg = 21 ∨ tg = 22)
    (h : hz_Run G N N' M R (pc + 1) lv (.int (nI n) :: st) σ post) : hz_Run G N N' M R pc lv (.ref q :: st) σ post := by
  intro N0 p e s m args below meth c H locs ls h0 C hS hz hP hlv
  rcases ht with rfl | rfl | rfl
  · exact va_alen (D := G.2.1) C.1 C.2.1 C.2.2.2.2.2.2.2.2.1 hP q 0 (by rw [hz_ws_at G R σ hq, hz_cell_i hsh]) rfl (v := nI n) rfl hd (h N0 p e s m args below meth c H locs ls h0 C hS hz hP hlv)
  · exact va_alen (D := G.2.1) C.1 C.2.1 C.2.2.2.2.2.2.2.2.1 hP q 1 (by rw [hz_ws_at G R σ hq, hz_cell_b hsh]) rfl (v := nI n) rfl hd (h N0 p e s m args below meth c H locs ls h0 C hS hz hP hlv)
  · exact va_alen (D := G.2.1) C.1 C.2.1 C.2.2.2.2.2.2.2.2.1 hP q 2 (by rw [hz_ws_at G R σ hq, hz_cell_l hsh]) rfl (v := nI n) rfl hd (h N0 p e s m args below meth c H locs ls h0 C hS hz hP hlv)
theorem hz_updI (σ : hz_H) (q j : Nat) (x : Int32) : (hz_sI σ q j x).1 q = upd (σ.1 q) j x := by funext b; simp [hz_sI, upd]
theorem hz_updL (σ : hz_H) (q j : Nat) (x : Int64) : (hz_sL σ q j x).2 q = vp_updL (σ.2 q) j x := by funext b; simp [hz_sL, vp_updL]
theorem o_iast {q n j : Nat} {i x : Int32} (hd : decode M.2.1 pc = .ok (.iastore, 1)) (hq : q < N) (hsh : hz_sh q = (20, n)) (hn : n < 2 ^ 31) (hi : i = nI j) (hj : j < n)
    (h : hz_Run G N N' M R (pc + 1) lv st (hz_sI σ q j x) post) : hz_Run G N N' M R pc lv (.int x :: .int i :: .ref q :: st) σ post := by
  intro N0 p e s m args below meth c H locs ls h0 C hS hz hP hlv
  have hK := C.2.2.2.2.2.2.2.2.1
  have ha : (hz_ws G R N σ)[q]? = some (hz_B G + q, .inl (G.2.2.1 0, n, .inl (σ.1 q))) := by rw [hz_ws_at G R σ hq, hz_cell_i hsh]
  have hin := hz_in hi hj hn
  refine W.iast C.1 C.2.1 (hP q _ ha) ((hK.2 0 _ rfl).1 n (fun j => .int (σ.1 q j))) (fun q => by cases q) (by show ¬ (i < 0 ∨ (arrV _ _ _).slots.size ≤ _); rw [arrV_size]; exact hin) rfl rfl hd fun H1 e1 z oq => ?_
  refine h N0 p e s m args below meth c H1 _ ls h0 C (hS.put z oq (Nat.le_add_right _ _)) (by rw [z]; exact hz) ?_ hlv
  have hP' := hP.set (hz_ws_D G R N σ) ha (e := .inl (G.2.2.1 0, n, .inl (upd (σ.1 q) j x))) (H1 := H1) (by
    show H1[_]? = some (vp_cell _ _)
    rw [e1, hz_cl hi hj hn, vp_cell_i, vp_cell_i, arrV_store]
    congr 2
    funext b
    by_cases hb : b = j
    · subst hb; simp [updV, upd]
    · simp [updV, upd, hb]) oq
  rw [hz_ws_set (R' := R) (σ' := hz_sI σ q j x) (by rw [hz_cell_i hsh, hz_updI]) (fun k hk => hz_cell_eq (hz_sI_row σ q j x hk) rfl rfl)] at hP'
  exact hP'
theorem o_bast {q n j : Nat} {i x : Int32} (hd : decode M.2.1 pc = .ok (.bastore, 1)) (hq : q < N) (hsh : hz_sh q = (21, n)) (hn : n < 2 ^ 31) (hi : i = nI j) (hj : j < n)
    (h : hz_Run G N N' M R (pc + 1) lv st (hz_sI σ q j x.toInt8.toInt32) post) : hz_Run G N N' M R pc lv (.int x :: .int i :: .ref q :: st) σ post := by
  intro N0 p e s m args below meth c H locs ls h0 C hS hz hP hlv
  have hK := C.2.2.2.2.2.2.2.2.1
  have ha : (hz_ws G R N σ)[q]? = some (hz_B G + q, .inl (G.2.2.1 1, n, .inl (σ.1 q))) := by rw [hz_ws_at G R σ hq, hz_cell_b hsh]
  have hin := hz_in hi hj hn
  refine W.bast C.1 C.2.1 (hP q _ ha) ((hK.2 1 _ rfl).1 n (fun j => .int (σ.1 q j))) (fun q => by cases q) (by show ¬ (i < 0 ∨ (arrV _ _ _).slots.size ≤ _); rw [arrV_size]; exact hin) rfl rfl hd fun H1 e1 z oq => ?_
  refine h N0 p e s m args below meth c H1 _ ls h0 C (hS.put z oq (Nat.le_add_right _ _)) (by rw [z]; exact hz) ?_ hlv
  have hP' := hP.set (hz_ws_D G R N σ) ha (e := .inl (G.2.2.1 1, n, .inl (upd (σ.1 q) j x.toInt8.toInt32))) (H1 := H1) (by
    show H1[_]? = some (vp_cell _ _)
    rw [e1, hz_cl hi hj hn, vp_cell_i, vp_cell_i, arrV_store]
    congr 2
    funext b
    by_cases hb : b = j
    · subst hb; simp [updV, upd]; rfl
    · simp [updV, upd, hb]) oq
  rw [hz_ws_set (R' := R) (σ' := hz_sI σ q j x.toInt8.toInt32) (by rw [hz_cell_b hsh, hz_updI]) (fun k hk => hz_cell_eq (hz_sI_row σ q j _ hk) rfl rfl)] at hP'
  exact hP'
theorem o_last {q n j : Nat} {i : Int32} {x : Int64} (hd : decode M.2.1 pc = .ok (.lastore, 1)) (hq : q < N) (hsh : hz_sh q = (22, n)) (hn : n < 2 ^ 31) (hi : i = nI j) (hj : j < n)
    (h : hz_Run G N N' M R (pc + 1) lv st (hz_sL σ q j x) post) : hz_Run G N N' M R pc lv (.long x :: .int i :: .ref q :: st) σ post := by
  intro N0 p e s m args below meth c H locs ls h0 C hS hz hP hlv
  have hK := C.2.2.2.2.2.2.2.2.1
  have ha : (hz_ws G R N σ)[q]? = some (hz_B G + q, .inl (G.2.2.1 2, n, .inr (.inl (σ.2 q)))) := by rw [hz_ws_at G R σ hq, hz_cell_l hsh]
  have hin := hz_in hi hj hn
  refine W.last C.1 C.2.1 (hP q _ ha) ((hK.2 2 _ rfl).1 n (fun j => .long (σ.2 q j))) (fun q => by cases q) (by show ¬ (i < 0 ∨ (arrV _ _ _).slots.size ≤ _); rw [arrV_size]; exact hin) rfl rfl hd fun H1 e1 z oq => ?_
  refine h N0 p e s m args below meth c H1 _ ls h0 C (hS.put z oq (Nat.le_add_right _ _)) (by rw [z]; exact hz) ?_ hlv
  have hP' := hP.set (hz_ws_D G R N σ) ha (e := .inl (G.2.2.1 2, n, .inr (.inl (vp_updL (σ.2 q) j x)))) (H1 := H1) (by
    show H1[_]? = some (vp_cell _ _)
    rw [e1, hz_cl hi hj hn, vp_cell_l, vp_cell_l, arrV_store]
    congr 2
    funext b
    by_cases hb : b = j
    · subst hb; simp [updV, vp_updL]
    · simp [updV, vp_updL, hb]) oq
  rw [hz_ws_set (R' := R) (σ' := hz_sL σ q j x) (by rw [hz_cell_l hsh, hz_updL]) (fun k hk => hz_cell_eq (σ := σ) rfl (hz_sL_row σ q j x hk) rfl)] at hP'
  exact hP'
/-! the script -/
theorem o_sld {x j : Nat} {i : Int32} (hd : decode M.2.1 pc = .ok (.iaload, 1)) (hn : G.2.2.2.2.2.1 < 2 ^ 31) (hi : i = nI j) (hj : j < G.2.2.2.2.2.1)
    (h : hz_Run G N N' M R (pc + 1) lv (.int (G.2.2.2.2.2.2 j) :: st) σ post) : hz_Run G N N' M R pc lv (.int i :: .retAddr x :: st) σ post := by
  intro N0 p e s m args below meth c H locs ls h0 C hS hz hP hlv
  have hX := C.2.2.2.2.2.2.2.2.2.2
  refine va_sld (A := hz_A G) C.1 C.2.1 hX.1 (Nat.lt_of_lt_of_le hX.2 C.2.2.2.2.2.2.2.2.2.1) (Nat.not_le.mpr hX.2) hS (hz_in hi hj hn) hd ?_
  rw [hz_cl hi hj hn]
  exact h N0 p e s m args below meth c H locs ls h0 C hS hz hP hlv
theorem o_slen {x : Nat} (hd : decode M.2.1 pc = .ok (.arraylength, 1))
    (h : hz_Run G N N' M R (pc + 1) lv (.int (nI G.2.2.2.2.2.1) :: st) σ post) : hz_Run G N N' M R pc lv (.retAddr x :: st) σ post := by
  intro N0 p e s m args below meth c H locs ls h0 C hS hz hP hlv
  have hX := C.2.2.2.2.2.2.2.2.2.2
  exact va_slen (A := hz_A G) C.1 C.2.1 hX.1 (Nat.lt_of_lt_of_le hX.2 C.2.2.2.2.2.2.2.2.2.1) (Nat.not_le.mpr hX.2) hS hd (h N0 p e s m args below meth c H locs ls h0 C hS hz hP hlv)
end HZ2


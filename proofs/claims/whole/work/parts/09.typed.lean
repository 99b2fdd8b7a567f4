/-! the world behind the constructors: references are fixed but for the two rows of walks, which change places (sw) -/
def hz_w1 (sw : Bool) : Nat := cond sw 21 20
def hz_w2 (sw : Bool) : Nat := cond sw 20 21
def hz_rtL (sw : Bool) : List (List Nat) := [[2, 4, 6, 8, 11, 17, 19, 26], [3], [], [5], [], [2, 7], [], [4, 9, 10], [], [], [4, 12, 13, 14, 15, 16], [], [], [], [], [], [4, 18], [], [20, (hz_w1 sw + 1), (hz_w2 sw + 1), 23, 24, 25], [], [], [], [], [], [], [27, 28, 29], [], [], [], [31, 32, 33, 0, 0, 0, 0, 0, 0, 0, 0, 0, 34, 35, 36, 0, 37, 38, 39, 40, 0, 41, 0, 42, 43, 44, 45, 46, 47, 48, 49], [], [], [], [], [], [], [], [], [], [], [], [], [], [], [], [], [], [], []]
def hz_rt (sw : Bool) : hz_R := fun q j => ((hz_rtL sw).getD q []).getD j 0
theorem hz_w1_sh (sw : Bool) : hz_sh (hz_w1 sw) = (22, 12) := by cases sw <;> rfl
theorem hz_w2_sh (sw : Bool) : hz_sh (hz_w2 sw) = (22, 12) := by cases sw <;> rfl
theorem hz_w1_lt (sw : Bool) : hz_w1 sw < 49 := by cases sw <;> decide
theorem hz_w2_lt (sw : Bool) : hz_w2 sw < 49 := by cases sw <;> decide
abbrev hz_T : Type := hz_H × Bool
def zI (τ : hz_T) (q j : Nat) (x : Int32) : hz_T := (hz_sI τ.1 q j x, τ.2)
def zW (τ : hz_T) : hz_T := (τ.1, !τ.2)
def zL (τ : hz_T) (q j : Nat) (x : Int64) : hz_T := (hz_sL τ.1 q j x, τ.2)
abbrev zP : Type := Option Value → hz_T → Prop
def zpo (post : zP) : hz_P := fun r R' σ' => ∃ sw' : Bool, R' = hz_rt sw' ∧ post r (σ', sw')
def zRun (G : hz_G) (M : hz_M) (pc : Nat) (lv : List (Nat × Value)) (st : List Value) (τ : hz_T) (post : zP) : Prop := hz_Run G 49 49 M (hz_rt τ.2) pc lv st τ.1 (zpo post)
def zCall (G : hz_G) (M : hz_M) (av : List Value) (τ : hz_T) (post : zP) : Prop := hz_Call G 49 49 M (hz_rt τ.2) av τ.1 (zpo post)
def zpi (φ : Int32 → hz_T → Prop) : zP := fun r τ => ∃ x : Int32, r = some (.int x) ∧ φ x τ
def zpl (φ : Int64 → hz_T → Prop) : zP := fun r τ => ∃ x : Int64, r = some (.long x) ∧ φ x τ
def zpv (φ : hz_T → Prop) : zP := fun r τ => r = none ∧ φ τ
def zpr (φ : Nat → hz_T → Prop) : zP := fun r τ => ∃ x : Nat, r = some (.ref x) ∧ φ x τ
theorem hz_mono {G : hz_G} {N N' : Nat} {M : hz_M} {R : hz_R} {av : List Value} {σ : hz_H} {P Q : hz_P} (h : ∀ r R' σ', P r R' σ' → Q r R' σ') (hc : hz_Call G N N' M R av σ P) : hz_Call G N N' M R av σ Q := by
  intro p e ha hf hk s m args below hfr hap hP hK
  obtain ⟨n, o, h1, h2, h3, ⟨⟨⟨r, R', σ', a, b, c⟩, d⟩, e⟩⟩ := hc p e ha hf hk s m args below hfr hap hP hK
  exact ⟨n, o, h1, h2, h3, ⟨⟨⟨r, R', σ', a, h _ _ _ b, c⟩, d⟩, e⟩⟩
theorem zmono {G : hz_G} {M : hz_M} {av : List Value} {τ : hz_T} {P Q : zP} (h : ∀ r τ', P r τ' → Q r τ') (hc : zCall G M av τ P) : zCall G M av τ Q :=
  hz_mono (fun r R' σ' ⟨sw', e, hp⟩ => ⟨sw', e, h _ _ hp⟩) hc
theorem zmi {G : hz_G} {M : hz_M} {av : List Value} {τ : hz_T} {φ ψ : Int32 → hz_T → Prop} (h : ∀ x τ', φ x τ' → ψ x τ') (hc : zCall G M av τ (zpi φ)) : zCall G M av τ (zpi ψ) := zmono (fun _ _ ⟨x, e, hp⟩ => ⟨x, e, h _ _ hp⟩) hc
theorem zml {G : hz_G} {M : hz_M} {av : List Value} {τ : hz_T} {φ ψ : Int64 → hz_T → Prop} (h : ∀ x τ', φ x τ' → ψ x τ') (hc : zCall G M av τ (zpl φ)) : zCall G M av τ (zpl ψ) := zmono (fun _ _ ⟨x, e, hp⟩ => ⟨x, e, h _ _ hp⟩) hc
theorem zmr {G : hz_G} {M : hz_M} {av : List Value} {τ : hz_T} {φ ψ : Nat → hz_T → Prop} (h : ∀ x τ', φ x τ' → ψ x τ') (hc : zCall G M av τ (zpr φ)) : zCall G M av τ (zpr ψ) := zmono (fun _ _ ⟨x, e, hp⟩ => ⟨x, e, h _ _ hp⟩) hc
theorem zmv {G : hz_G} {M : hz_M} {av : List Value} {τ : hz_T} {φ ψ : hz_T → Prop} (h : ∀ τ', φ τ' → ψ τ') (hc : zCall G M av τ (zpv φ)) : zCall G M av τ (zpv ψ) := zmono (fun _ _ ⟨e, hp⟩ => ⟨e, h _ hp⟩) hc
theorem zof {G : hz_G} {M : hz_M} {av : List Value} {τ : hz_T} {post : zP} {lv : List (Nat × Value)} (hy : plainName M.1.cls = true) (hl : (lg_sl (av.map (hz_up G))).length ≤ M.2.2.1) (hlv : lv_args 0 (av.map (hz_up G)) = lv.map (hz_u2 G)) (h : zRun G M 0 lv [] τ post) : zCall G M av τ post := hz_ofRun hy hl hlv h
theorem o_mmax {G : hz_G} {N N' : Nat} {M : hz_M} {R : hz_R} {pc : Nat} {lv : List (Nat × Value)} {st : List Value} {σ : hz_H} {post : hz_P} {idx : Nat} {x y : Int32} (hd : decode M.2.1 pc = .ok (.invokestatic idx, 3)) (hL : Cond.methodLink M.1.cls idx yJ9_max_7cf53 ∈ hz_tbl) (hf : hz_fit M MJ9_max_7cf53) (hcat : (st.map fun v => v.category).sum ≤ 8) (hN : N ≤ N') (h : hz_Run G N N' M R (pc + 3) lv (.int (if x < y then y else x) :: st) σ post) : hz_Run G N N' M R pc lv (.int y :: .int x :: st) σ post := by
  intro N0 p e s m args below meth c H locs ls h0 C hS hz hP hlv
  have hts := C.2.2.2.2.2.1
  have hc : ((st.map (hz_up G)).map fun v => v.category).sum = (st.map fun v => v.category).sum := by rw [List.map_map]; simp [Function.comp_def, hz_up_cat]
  have m3 := hz_S_mono hN
  have hl : 8 + (2 + 11) + 0 ≤ M.2.2.2.2.2 := hf.2
  have hf1 : 0 + 1 ≤ M.2.2.2.2.1 := hf.1
  exact va_mmax (rest := st.map (hz_up G)) C.1 C.2.1 (by rw [C.2.2.1]; exact hlv.1.symm) C.2.2.2.2.1 (hts _ hL) (hts _ ms_J9_max_7cf53.2) (hts _ ms_J9_max_7cf53.1.2.1) (hts _ ms_J9_max_7cf53.1.1) hf1 (by rw [hc]; show _ + 13 ≤ M.2.2.2.2.2; omega) (by show N - N0 ≤ N' - N0; omega) (by show hz_S N - hz_S N0 ≤ hz_S N' - hz_S N0; omega) hd (h N0 p e s m args below meth c H locs ls h0 C hS hz hP hlv)
theorem o_mmin {G : hz_G} {N N' : Nat} {M : hz_M} {R : hz_R} {pc : Nat} {lv : List (Nat × Value)} {st : List Value} {σ : hz_H} {post : hz_P} {idx : Nat} {x y : Int32} (hd : decode M.2.1 pc = .ok (.invokestatic idx, 3)) (hL : Cond.methodLink M.1.cls idx yJ9_min_7cf53 ∈ hz_tbl) (hf : hz_fit M MJ9_min_7cf53) (hcat : (st.map fun v => v.category).sum ≤ 8) (hN : N ≤ N') (h : hz_Run G N N' M R (pc + 3) lv (.int (if y < x then y else x) :: st) σ post) : hz_Run G N N' M R pc lv (.int y :: .int x :: st) σ post := by
  intro N0 p e s m args below meth c H locs ls h0 C hS hz hP hlv
  have hts := C.2.2.2.2.2.1
  have hc : ((st.map (hz_up G)).map fun v => v.category).sum = (st.map fun v => v.category).sum := by rw [List.map_map]; simp [Function.comp_def, hz_up_cat]
  have m3 := hz_S_mono hN
  have hl : 8 + (2 + 11) + 0 ≤ M.2.2.2.2.2 := hf.2
  have hf1 : 0 + 1 ≤ M.2.2.2.2.1 := hf.1
  exact va_mmin (rest := st.map (hz_up G)) C.1 C.2.1 (by rw [C.2.2.1]; exact hlv.1.symm) C.2.2.2.2.1 (hts _ hL) (hts _ ms_J9_min_7cf53.2) (hts _ ms_J9_min_7cf53.1.2.1) (hts _ ms_J9_min_7cf53.1.1) hf1 (by rw [hc]; show _ + 13 ≤ M.2.2.2.2.2; omega) (by show N - N0 ≤ N' - N0; omega) (by show hz_S N - hz_S N0 ≤ hz_S N' - hz_S N0; omega) hd (h N0 p e s m args below meth c H locs ls h0 C hS hz hP hlv)
theorem o_mabs_long {G : hz_G} {N N' : Nat} {M : hz_M} {R : hz_R} {pc : Nat} {lv : List (Nat × Value)} {st : List Value} {σ : hz_H} {post : hz_P} {idx : Nat} {x : Int64} (hd : decode M.2.1 pc = .ok (.invokestatic idx, 3)) (hL : Cond.methodLink M.1.cls idx yJ9_abs_067f4 ∈ hz_tbl) (hf : hz_fit M MJ9_abs_067f4) (hcat : (st.map fun v => v.category).sum ≤ 8) (hN : N ≤ N') (h : hz_Run G N N' M R (pc + 3) lv (.long (if 0 < x then x else -x) :: st) σ post) : hz_Run G N N' M R pc lv (.long x :: st) σ post := by
  intro N0 p e s m args below meth c H locs ls h0 C hS hz hP hlv
  have hts := C.2.2.2.2.2.1
  have hc : ((st.map (hz_up G)).map fun v => v.category).sum = (st.map fun v => v.category).sum := by rw [List.map_map]; simp [Function.comp_def, hz_up_cat]
  have m3 := hz_S_mono hN
  have hl : 8 + (2 + 11) + 0 ≤ M.2.2.2.2.2 := hf.2
  have hf1 : 0 + 1 ≤ M.2.2.2.2.1 := hf.1
  exact va_mabs_long (rest := st.map (hz_up G)) C.1 C.2.1 (by rw [C.2.2.1]; exact hlv.1.symm) C.2.2.2.2.1 (hts _ hL) (hts _ ms_J9_abs_067f4.2) (hts _ ms_J9_abs_067f4.1.2.1) (hts _ ms_J9_abs_067f4.1.1) hf1 (by rw [hc]; show _ + 13 ≤ M.2.2.2.2.2; omega) (by show N - N0 ≤ N' - N0; omega) (by show hz_S N - hz_S N0 ≤ hz_S N' - hz_S N0; omega) hd (h N0 p e s m args below meth c H locs ls h0 C hS hz hP hlv)
theorem o_nmI {G : hz_G} {N N' : Nat} {M : hz_M} {R : hz_R} {pc : Nat} {lv : List (Nat × Value)} {st : List Value} {σ : hz_H} {post : hz_P} {x : Int32} (h : ∀ v : Int32, v = x → hz_Run G N N' M R pc lv (.int v :: st) σ post) : hz_Run G N N' M R pc lv (.int x :: st) σ post := h x rfl
theorem o_nmL {G : hz_G} {N N' : Nat} {M : hz_M} {R : hz_R} {pc : Nat} {lv : List (Nat × Value)} {st : List Value} {σ : hz_H} {post : hz_P} {x : Int64} (h : ∀ v : Int64, v = x → hz_Run G N N' M R pc lv (.long v :: st) σ post) : hz_Run G N N' M R pc lv (.long x :: st) σ post := h x rfl
section ZC
variable {G : hz_G} {M : hz_M} {pc : Nat} {lv : List (Nat × Value)} {st : List Value} {τ : hz_T} {post : zP}
theorem z_iret {x : Int32} {ty : FieldType} (hd : decode M.2.1 pc = .ok (.ireturn, 1)) (hr : M.2.2.2.1 = some ty) (hn : narrow ty (.int x) = .int x) (h : post (some (.int x)) τ) : zRun G M pc lv [.int x] τ post := o_iret hd hr hn ⟨τ.2, rfl, h⟩
theorem z_lret {x : Int64} (hd : decode M.2.1 pc = .ok (.lreturn, 1)) (hr : M.2.2.2.1 = some .long) (h : post (some (.long x)) τ) : zRun G M pc lv [.long x] τ post := o_lret hd hr ⟨τ.2, rfl, h⟩
theorem z_vret (hd : decode M.2.1 pc = .ok (.return_, 1)) (hr : M.2.2.2.1 = none) (h : post none τ) : zRun G M pc lv [] τ post := o_vret hd hr ⟨τ.2, rfl, h⟩
theorem z_aret {x : Nat} {rt : FieldType} (hd : decode M.2.1 pc = .ok (.areturn, 1)) (hr : M.2.2.2.1 = some rt) (hrt : (∃ n, rt = .object n) ∨ ∃ t, rt = .array t) (h : post (some (.ref x)) τ) : zRun G M pc lv [.ref x] τ post := o_aret hd hr hrt ⟨τ.2, rfl, h⟩
theorem z_swap (h : hz_Run G 49 49 M (hz_rt (!τ.2)) pc lv st τ.1 (zpo post)) : hz_Run G 49 49 M (hz_sR (hz_sR (hz_rt τ.2) 18 1 (hz_w2 τ.2 + 1)) 18 2 (hz_w1 τ.2 + 1)) pc lv st τ.1 (zpo post) := by
  have e : hz_sR (hz_sR (hz_rt τ.2) 18 1 (hz_w2 τ.2 + 1)) 18 2 (hz_w1 τ.2 + 1) = hz_rt (!τ.2) := by
    obtain ⟨σ, sw⟩ := τ
    dsimp only
    funext a b
    by_cases ha : a = 18
    · subst ha
      by_cases h1 : b = 1
      · subst h1; cases sw <;> rfl
      · by_cases h2 : b = 2
        · subst h2; cases sw <;> rfl
        · simp only [hz_sR, h1, h2, and_false, if_false]
          cases sw <;> (match b, h1, h2 with
            | 0, _, _ => rfl
            | 1, h, _ => exact absurd rfl h
            | 2, _, h => exact absurd rfl h
            | 3, _, _ => rfl
            | 4, _, _ => rfl
            | 5, _, _ => rfl
            | n + 6, _, _ => rfl)
    · simp only [hz_sR, ha, false_and, if_false]
      have : (hz_rtL sw).getD a [] = (hz_rtL (!sw)).getD a [] := by
        cases sw <;> (simp only [hz_rtL, Bool.not_true, Bool.not_false]; match a, ha with
          | 18, h => exact absurd rfl h
          | 0, _ => rfl
          | 1, _ => rfl
          | 2, _ => rfl
          | 3, _ => rfl
          | 4, _ => rfl
          | 5, _ => rfl
          | 6, _ => rfl
          | 7, _ => rfl
          | 8, _ => rfl
          | 9, _ => rfl
          | 10, _ => rfl
          | 11, _ => rfl
          | 12, _ => rfl
          | 13, _ => rfl
          | 14, _ => rfl
          | 15, _ => rfl
          | 16, _ => rfl
          | 17, _ => rfl
          | 19, _ => rfl
          | 20, _ => rfl
          | 21, _ => rfl
          | 22, _ => rfl
          | 23, _ => rfl
          | 24, _ => rfl
          | 25, _ => rfl
          | 26, _ => rfl
          | 27, _ => rfl
          | 28, _ => rfl
          | 29, _ => rfl
          | 30, _ => rfl
          | 31, _ => rfl
          | 32, _ => rfl
          | 33, _ => rfl
          | 34, _ => rfl
          | 35, _ => rfl
          | 36, _ => rfl
          | 37, _ => rfl
          | 38, _ => rfl
          | 39, _ => rfl
          | 40, _ => rfl
          | 41, _ => rfl
          | 42, _ => rfl
          | 43, _ => rfl
          | 44, _ => rfl
          | 45, _ => rfl
          | 46, _ => rfl
          | 47, _ => rfl
          | 48, _ => rfl
          | n + 49, _ => rfl)
      simp only [hz_rt, this]
  rw [e]
  exact h

theorem z_cVi {M2 : hz_M} {idx n q ci k : Nat} (As : List Value) {rest : List Value} (hd : decode M.2.1 pc = .ok (.invokevirtual idx, 3)) (hL : Cond.methodLink M.1.cls idx M2.1 ∈ hz_tbl) (hM : hz_MV M2 n) (hf : hz_fit M M2) (hn : As.length = n) (hq : q < 49) (hsh : hz_sh q = (ci, k)) (hci : ci < 20) (hc : (vwCl[ci]?).map (fun x => x.1) = some M2.1.cls) (hst : st = As.reverse ++ .ref q :: rest) (hcat : (rest.map fun v => v.category).sum ≤ 8) (h : zCall G M2 (.ref q :: As) τ (zpi (fun x τ' => zRun G M (pc + 3) lv (.int x :: rest) τ' post))) : zRun G M pc lv st τ post :=
  o_callV (N1 := 49) As hd hL hM hf hn hq hsh hci hc hst hcat (Nat.le_refl _) (Nat.le_refl _) (hz_mono (fun r R' σ' ⟨sw', e, x, er, hr⟩ => by subst e; subst er; exact hr) h)
theorem z_cVl {M2 : hz_M} {idx n q ci k : Nat} (As : List Value) {rest : List Value} (hd : decode M.2.1 pc = .ok (.invokevirtual idx, 3)) (hL : Cond.methodLink M.1.cls idx M2.1 ∈ hz_tbl) (hM : hz_MV M2 n) (hf : hz_fit M M2) (hn : As.length = n) (hq : q < 49) (hsh : hz_sh q = (ci, k)) (hci : ci < 20) (hc : (vwCl[ci]?).map (fun x => x.1) = some M2.1.cls) (hst : st = As.reverse ++ .ref q :: rest) (hcat : (rest.map fun v => v.category).sum ≤ 8) (h : zCall G M2 (.ref q :: As) τ (zpl (fun x τ' => zRun G M (pc + 3) lv (.long x :: rest) τ' post))) : zRun G M pc lv st τ post :=
  o_callV (N1 := 49) As hd hL hM hf hn hq hsh hci hc hst hcat (Nat.le_refl _) (Nat.le_refl _) (hz_mono (fun r R' σ' ⟨sw', e, x, er, hr⟩ => by subst e; subst er; exact hr) h)
theorem z_cVr {M2 : hz_M} {idx n q ci k : Nat} (As : List Value) {rest : List Value} (hd : decode M.2.1 pc = .ok (.invokevirtual idx, 3)) (hL : Cond.methodLink M.1.cls idx M2.1 ∈ hz_tbl) (hM : hz_MV M2 n) (hf : hz_fit M M2) (hn : As.length = n) (hq : q < 49) (hsh : hz_sh q = (ci, k)) (hci : ci < 20) (hc : (vwCl[ci]?).map (fun x => x.1) = some M2.1.cls) (hst : st = As.reverse ++ .ref q :: rest) (hcat : (rest.map fun v => v.category).sum ≤ 8) (h : zCall G M2 (.ref q :: As) τ (zpr (fun x τ' => zRun G M (pc + 3) lv (.ref x :: rest) τ' post))) : zRun G M pc lv st τ post :=
  o_callV (N1 := 49) As hd hL hM hf hn hq hsh hci hc hst hcat (Nat.le_refl _) (Nat.le_refl _) (hz_mono (fun r R' σ' ⟨sw', e, x, er, hr⟩ => by subst e; subst er; exact hr) h)
theorem z_cVv {M2 : hz_M} {idx n q ci k : Nat} (As : List Value) {rest : List Value} (hd : decode M.2.1 pc = .ok (.invokevirtual idx, 3)) (hL : Cond.methodLink M.1.cls idx M2.1 ∈ hz_tbl) (hM : hz_MV M2 n) (hf : hz_fit M M2) (hn : As.length = n) (hq : q < 49) (hsh : hz_sh q = (ci, k)) (hci : ci < 20) (hc : (vwCl[ci]?).map (fun x => x.1) = some M2.1.cls) (hst : st = As.reverse ++ .ref q :: rest) (hcat : (rest.map fun v => v.category).sum ≤ 8) (h : zCall G M2 (.ref q :: As) τ (zpv (fun τ' => zRun G M (pc + 3) lv rest τ' post))) : zRun G M pc lv st τ post :=
  o_callV (N1 := 49) As hd hL hM hf hn hq hsh hci hc hst hcat (Nat.le_refl _) (Nat.le_refl _) (hz_mono (fun r R' σ' ⟨sw', e, er, hr⟩ => by subst e; subst er; exact hr) h)
theorem z_cSi {M2 : hz_M} {idx n : Nat} (As : List Value) {rest : List Value} (hd : decode M.2.1 pc = .ok (.invokestatic idx, 3)) (hL : Cond.methodLink M.1.cls idx M2.1 ∈ hz_tbl) (hM : hz_MS M2 n) (hf : hz_fit M M2) (hn : As.length = n) (hst : st = As.reverse ++ rest) (hcat : (rest.map fun v => v.category).sum ≤ 8) (h : zCall G M2 As τ (zpi (fun x τ' => zRun G M (pc + 3) lv (.int x :: rest) τ' post))) : zRun G M pc lv st τ post :=
  o_callS (N1 := 49) As hd hL hM hf hn hst hcat (Nat.le_refl _) (Nat.le_refl _) (hz_mono (fun r R' σ' ⟨sw', e, x, er, hr⟩ => by subst e; subst er; exact hr) h)
theorem z_cSl {M2 : hz_M} {idx n : Nat} (As : List Value) {rest : List Value} (hd : decode M.2.1 pc = .ok (.invokestatic idx, 3)) (hL : Cond.methodLink M.1.cls idx M2.1 ∈ hz_tbl) (hM : hz_MS M2 n) (hf : hz_fit M M2) (hn : As.length = n) (hst : st = As.reverse ++ rest) (hcat : (rest.map fun v => v.category).sum ≤ 8) (h : zCall G M2 As τ (zpl (fun x τ' => zRun G M (pc + 3) lv (.long x :: rest) τ' post))) : zRun G M pc lv st τ post :=
  o_callS (N1 := 49) As hd hL hM hf hn hst hcat (Nat.le_refl _) (Nat.le_refl _) (hz_mono (fun r R' σ' ⟨sw', e, x, er, hr⟩ => by subst e; subst er; exact hr) h)
theorem z_cSr {M2 : hz_M} {idx n : Nat} (As : List Value) {rest : List Value} (hd : decode M.2.1 pc = .ok (.invokestatic idx, 3)) (hL : Cond.methodLink M.1.cls idx M2.1 ∈ hz_tbl) (hM : hz_MS M2 n) (hf : hz_fit M M2) (hn : As.length = n) (hst : st = As.reverse ++ rest) (hcat : (rest.map fun v => v.category).sum ≤ 8) (h : zCall G M2 As τ (zpr (fun x τ' => zRun G M (pc + 3) lv (.ref x :: rest) τ' post))) : zRun G M pc lv st τ post :=
  o_callS (N1 := 49) As hd hL hM hf hn hst hcat (Nat.le_refl _) (Nat.le_refl _) (hz_mono (fun r R' σ' ⟨sw', e, x, er, hr⟩ => by subst e; subst er; exact hr) h)
theorem z_cSv {M2 : hz_M} {idx n : Nat} (As : List Value) {rest : List Value} (hd : decode M.2.1 pc = .ok (.invokestatic idx, 3)) (hL : Cond.methodLink M.1.cls idx M2.1 ∈ hz_tbl) (hM : hz_MS M2 n) (hf : hz_fit M M2) (hn : As.length = n) (hst : st = As.reverse ++ rest) (hcat : (rest.map fun v => v.category).sum ≤ 8) (h : zCall G M2 As τ (zpv (fun τ' => zRun G M (pc + 3) lv rest τ' post))) : zRun G M pc lv st τ post :=
  o_callS (N1 := 49) As hd hL hM hf hn hst hcat (Nat.le_refl _) (Nat.le_refl _) (hz_mono (fun r R' σ' ⟨sw', e, er, hr⟩ => by subst e; subst er; exact hr) h)
end ZC
theorem z_fit {M M2 : hz_M} (h1 : Nat.ble (M2.2.2.2.2.1 + 1) M.2.2.2.2.1 = true) (h2 : Nat.ble (8 + (M2.2.2.1 + 11) + M2.2.2.2.2.2) M.2.2.2.2.2 = true) : hz_fit M M2 := ⟨Nat.le_of_ble_eq_true h1, Nat.le_of_ble_eq_true h2⟩
theorem nar_0 : narrow .boolean (.int 0) = .int 0 := by decide +kernel
theorem nar_ite {c : Prop} [hc : Decidable c] {a b : Int32} (ha : narrow .boolean (.int a) = .int a) (hb : narrow .boolean (.int b) = .int b) : narrow .boolean (.int (if c then a else b)) = .int (if c then a else b) := by split <;> assumption
theorem nar_1 : narrow .boolean (.int 1) = .int 1 := by decide +kernel
theorem kB_m104 : (Int8.ofInt (-104)).toInt32 = (-104) := by decide +kernel
theorem kB_m100 : (Int8.ofInt (-100)).toInt32 = (-100) := by decide +kernel
theorem kB_m20 : (Int8.ofInt (-20)).toInt32 = (-20) := by decide +kernel
theorem kB_m14 : (Int8.ofInt (-14)).toInt32 = (-14) := by decide +kernel
theorem kB_m13 : (Int8.ofInt (-13)).toInt32 = (-13) := by decide +kernel
theorem kB_m12 : (Int8.ofInt (-12)).toInt32 = (-12) := by decide +kernel
theorem kB_m11 : (Int8.ofInt (-11)).toInt32 = (-11) := by decide +kernel
theorem kB_m10 : (Int8.ofInt (-10)).toInt32 = (-10) := by decide +kernel
theorem kB_m6 : (Int8.ofInt (-6)).toInt32 = (-6) := by decide +kernel
theorem kB_m4 : (Int8.ofInt (-4)).toInt32 = (-4) := by decide +kernel
theorem kB_m3 : (Int8.ofInt (-3)).toInt32 = (-3) := by decide +kernel
theorem kB_m2 : (Int8.ofInt (-2)).toInt32 = (-2) := by decide +kernel
theorem kB_6 : (Int8.ofInt 6).toInt32 = 6 := by decide +kernel
theorem kB_7 : (Int8.ofInt 7).toInt32 = 7 := by decide +kernel
theorem kB_8 : (Int8.ofInt 8).toInt32 = 8 := by decide +kernel
theorem kB_9 : (Int8.ofInt 9).toInt32 = 9 := by decide +kernel
theorem kB_10 : (Int8.ofInt 10).toInt32 = 10 := by decide +kernel
theorem kB_11 : (Int8.ofInt 11).toInt32 = 11 := by decide +kernel
theorem kB_12 : (Int8.ofInt 12).toInt32 = 12 := by decide +kernel
theorem kB_13 : (Int8.ofInt 13).toInt32 = 13 := by decide +kernel
theorem kB_14 : (Int8.ofInt 14).toInt32 = 14 := by decide +kernel
theorem kB_15 : (Int8.ofInt 15).toInt32 = 15 := by decide +kernel
theorem kB_16 : (Int8.ofInt 16).toInt32 = 16 := by decide +kernel
theorem kB_24 : (Int8.ofInt 24).toInt32 = 24 := by decide +kernel
theorem kB_31 : (Int8.ofInt 31).toInt32 = 31 := by decide +kernel
theorem kB_32 : (Int8.ofInt 32).toInt32 = 32 := by decide +kernel
theorem kB_48 : (Int8.ofInt 48).toInt32 = 48 := by decide +kernel
theorem kB_49 : (Int8.ofInt 49).toInt32 = 49 := by decide +kernel
theorem kB_56 : (Int8.ofInt 56).toInt32 = 56 := by decide +kernel
theorem kB_57 : (Int8.ofInt 57).toInt32 = 57 := by decide +kernel
theorem kB_59 : (Int8.ofInt 59).toInt32 = 59 := by decide +kernel
theorem kB_63 : (Int8.ofInt 63).toInt32 = 63 := by decide +kernel
theorem kB_64 : (Int8.ofInt 64).toInt32 = 64 := by decide +kernel
theorem kB_97 : (Int8.ofInt 97).toInt32 = 97 := by decide +kernel
theorem kB_100 : (Int8.ofInt 100).toInt32 = 100 := by decide +kernel
theorem kB_101 : (Int8.ofInt 101).toInt32 = 101 := by decide +kernel
theorem kB_103 : (Int8.ofInt 103).toInt32 = 103 := by decide +kernel
theorem kB_104 : (Int8.ofInt 104).toInt32 = 104 := by decide +kernel
theorem kB_105 : (Int8.ofInt 105).toInt32 = 105 := by decide +kernel
theorem kB_110 : (Int8.ofInt 110).toInt32 = 110 := by decide +kernel
theorem kB_111 : (Int8.ofInt 111).toInt32 = 111 := by decide +kernel
theorem kB_112 : (Int8.ofInt 112).toInt32 = 112 := by decide +kernel
theorem kB_114 : (Int8.ofInt 114).toInt32 = 114 := by decide +kernel
theorem kB_116 : (Int8.ofInt 116).toInt32 = 116 := by decide +kernel
theorem kB_117 : (Int8.ofInt 117).toInt32 = 117 := by decide +kernel
theorem kB_120 : (Int8.ofInt 120).toInt32 = 120 := by decide +kernel
theorem kB_122 : (Int8.ofInt 122).toInt32 = 122 := by decide +kernel
theorem kB_127 : (Int8.ofInt 127).toInt32 = 127 := by decide +kernel
theorem kI_m1 : Int32.ofInt (-1) = (-1) := by decide +kernel
theorem kI_0 : Int32.ofInt 0 = 0 := by decide +kernel
theorem kI_1 : Int32.ofInt 1 = 1 := by decide +kernel
theorem kI_2 : Int32.ofInt 2 = 2 := by decide +kernel
theorem kI_3 : Int32.ofInt 3 = 3 := by decide +kernel
theorem kI_4 : Int32.ofInt 4 = 4 := by decide +kernel
theorem kI_5 : Int32.ofInt 5 = 5 := by decide +kernel
theorem kS_128 : (Int16.ofInt 128).toInt32 = 128 := by decide +kernel
theorem kS_200 : (Int16.ofInt 200).toInt32 = 200 := by decide +kernel
theorem kS_255 : (Int16.ofInt 255).toInt32 = 255 := by decide +kernel
theorem kS_256 : (Int16.ofInt 256).toInt32 = 256 := by decide +kernel
theorem kS_1000 : (Int16.ofInt 1000).toInt32 = 1000 := by decide +kernel
theorem kS_4096 : (Int16.ofInt 4096).toInt32 = 4096 := by decide +kernel
theorem kS_12345 : (Int16.ofInt 12345).toInt32 = 12345 := by decide +kernel
theorem kS_32767 : (Int16.ofInt 32767).toInt32 = 32767 := by decide +kernel
theorem kL_0 : Int64.ofNat ((0 : Fin 2) : Nat) = 0 := by decide +kernel
theorem kL_1 : Int64.ofNat ((1 : Fin 2) : Nat) = 1 := by decide +kernel
theorem kx_0 : (0 : Int32) = nI 0 := by decide +kernel
theorem kx_1 : (1 : Int32) = nI 1 := by decide +kernel
theorem kx_2 : (2 : Int32) = nI 2 := by decide +kernel
theorem kx_3 : (3 : Int32) = nI 3 := by decide +kernel
theorem kx_4 : (4 : Int32) = nI 4 := by decide +kernel
theorem kx_5 : (5 : Int32) = nI 5 := by decide +kernel
theorem kx_6 : (6 : Int32) = nI 6 := by decide +kernel
theorem kx_7 : (7 : Int32) = nI 7 := by decide +kernel
theorem kx_8 : (8 : Int32) = nI 8 := by decide +kernel
theorem kx_9 : (9 : Int32) = nI 9 := by decide +kernel
theorem kx_10 : (10 : Int32) = nI 10 := by decide +kernel
theorem kx_11 : (11 : Int32) = nI 11 := by decide +kernel
theorem kx_12 : (12 : Int32) = nI 12 := by decide +kernel
theorem kx_13 : (13 : Int32) = nI 13 := by decide +kernel
theorem kx_14 : (14 : Int32) = nI 14 := by decide +kernel
theorem kx_15 : (15 : Int32) = nI 15 := by decide +kernel
theorem kx_16 : (16 : Int32) = nI 16 := by decide +kernel
theorem kx_24 : (24 : Int32) = nI 24 := by decide +kernel
theorem kx_31 : (31 : Int32) = nI 31 := by decide +kernel
theorem kx_32 : (32 : Int32) = nI 32 := by decide +kernel
theorem kx_48 : (48 : Int32) = nI 48 := by decide +kernel
theorem kx_49 : (49 : Int32) = nI 49 := by decide +kernel
theorem kx_56 : (56 : Int32) = nI 56 := by decide +kernel
theorem kx_57 : (57 : Int32) = nI 57 := by decide +kernel
theorem kx_59 : (59 : Int32) = nI 59 := by decide +kernel
theorem kx_63 : (63 : Int32) = nI 63 := by decide +kernel
theorem kx_64 : (64 : Int32) = nI 64 := by decide +kernel
theorem kx_97 : (97 : Int32) = nI 97 := by decide +kernel
theorem kx_100 : (100 : Int32) = nI 100 := by decide +kernel
theorem kx_101 : (101 : Int32) = nI 101 := by decide +kernel
theorem kx_103 : (103 : Int32) = nI 103 := by decide +kernel
theorem kx_104 : (104 : Int32) = nI 104 := by decide +kernel
theorem kx_105 : (105 : Int32) = nI 105 := by decide +kernel
theorem kx_110 : (110 : Int32) = nI 110 := by decide +kernel
theorem kx_111 : (111 : Int32) = nI 111 := by decide +kernel
theorem kx_112 : (112 : Int32) = nI 112 := by decide +kernel
theorem kx_114 : (114 : Int32) = nI 114 := by decide +kernel
theorem kx_116 : (116 : Int32) = nI 116 := by decide +kernel
theorem kx_117 : (117 : Int32) = nI 117 := by decide +kernel
theorem kx_120 : (120 : Int32) = nI 120 := by decide +kernel
theorem kx_122 : (122 : Int32) = nI 122 := by decide +kernel
theorem kx_127 : (127 : Int32) = nI 127 := by decide +kernel
theorem kx_128 : (128 : Int32) = nI 128 := by decide +kernel
theorem kx_200 : (200 : Int32) = nI 200 := by decide +kernel
theorem kx_255 : (255 : Int32) = nI 255 := by decide +kernel
theorem kx_256 : (256 : Int32) = nI 256 := by decide +kernel
theorem kx_1000 : (1000 : Int32) = nI 1000 := by decide +kernel
theorem kx_4096 : (4096 : Int32) = nI 4096 := by decide +kernel
theorem kx_12345 : (12345 : Int32) = nI 12345 := by decide +kernel
theorem kx_32767 : (32767 : Int32) = nI 32767 := by decide +kernel
theorem pn_X0 : plainName RX0 = true := by decide +kernel
theorem pn_X1 : plainName RX1 = true := by decide +kernel
theorem pn_X2 : plainName RX2 = true := by decide +kernel
theorem pn_X3 : plainName RX3 = true := by decide +kernel
theorem pn_X4 : plainName RX4 = true := by decide +kernel
theorem pn_X5 : plainName RX5 = true := by decide +kernel
theorem pn_X6 : plainName RX6 = true := by decide +kernel
theorem pn_X7 : plainName RX7 = true := by decide +kernel
theorem pn_X8 : plainName RX8 = true := by decide +kernel
theorem pn_X9 : plainName RX9 = true := by decide +kernel
theorem pn_X10 : plainName RX10 = true := by decide +kernel
theorem pn_X11 : plainName RX11 = true := by decide +kernel
theorem pn_X12 : plainName RX12 = true := by decide +kernel
theorem pn_J6 : plainName RJ6 = true := by decide +kernel
theorem pn_J13 : plainName RJ13 = true := by decide +kernel

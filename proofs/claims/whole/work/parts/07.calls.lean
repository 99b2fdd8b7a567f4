section HZ3
variable {G : hz_G} {N N' : Nat} {M : hz_M} {R : hz_R} {pc : Nat} {lv : List (Nat × Value)} {st : List Value} {σ : hz_H} {post : hz_P}
theorem hz_Wend {p : Program} {s : State} {m : MethodId} {args : Array Value} {meth : Method} {c : Code} {H : Heap} {locs : List Loc} {t : State} (C : hz_C G M p s m args meth c) (hS : va_S (hz_A G) s.heap H locs) (hz : H.size = hz_B G + N) (hP : va_P G.2.1 vwCl (hz_ws G R N σ) H) (ht : t.heap = H) (hW : s.vm.Alike t.vm) : hz_W G N R σ t := by
  have hX := C.2.2.2.2.2.2.2.2.2.2
  refine ⟨by rw [ht]; exact hz, by rw [ht]; exact hP, va_K.moved hW C.2.2.2.2.2.2.2.2.1, (hX.1.moved hW).kept ?_, hX.2⟩
  rw [ht]
  exact hS.2.1 _ (Nat.lt_of_lt_of_le hX.2 C.2.2.2.2.2.2.2.2.2.1) (Nat.not_le.mpr hX.2)
theorem o_iret {x : Int32} {ty : FieldType} (hd : decode M.2.1 pc = .ok (.ireturn, 1)) (hr : M.2.2.2.1 = some ty) (hn : narrow ty (.int x) = .int x) (h : post (some (.int x)) R σ) : hz_Run G N N M R pc lv [.int x] σ post := by
  intro N0 p e s m args below meth c H locs ls h0 C hS hz hP hlv
  have hlocks := C.2.2.2.2.2.2.1
  exact W.zret C.1 C.2.1 (by rw [C.2.2.2.1]; exact hr) hn (fun t ht hW => ⟨⟨some (.int x), R, σ, rfl, h, hz_Wend C hS hz hP ht hW.alike⟩, hS.F ht⟩) hS.2.2 hd hlocks
theorem o_lret {x : Int64} (hd : decode M.2.1 pc = .ok (.lreturn, 1)) (hr : M.2.2.2.1 = some .long) (h : post (some (.long x)) R σ) : hz_Run G N N M R pc lv [.long x] σ post := by
  intro N0 p e s m args below meth c H locs ls h0 C hS hz hP hlv
  have hlocks := C.2.2.2.2.2.2.1
  exact W.lret C.1 C.2.1 (by rw [C.2.2.2.1]; exact hr) (fun t ht hW => ⟨⟨some (.long x), R, σ, rfl, h, hz_Wend C hS hz hP ht hW.alike⟩, hS.F ht⟩) hS.2.2 hd hlocks
theorem o_vret (hd : decode M.2.1 pc = .ok (.return_, 1)) (hr : M.2.2.2.1 = none) (h : post none R σ) : hz_Run G N N M R pc lv [] σ post := by
  intro N0 p e s m args below meth c H locs ls h0 C hS hz hP hlv
  have hlocks := C.2.2.2.2.2.2.1
  exact W.vret C.1 C.2.1 (by rw [C.2.2.2.1]; exact hr) (fun t ht hW => ⟨⟨none, R, σ, rfl, h, hz_Wend C hS hz hP ht hW.alike⟩, hS.F ht⟩) hS.2.2 hd hlocks
theorem o_aret {x : Nat} {rt : FieldType} (hd : decode M.2.1 pc = .ok (.areturn, 1)) (hr : M.2.2.2.1 = some rt) (hrt : (∃ n, rt = .object n) ∨ ∃ t, rt = .array t) (h : post (some (.ref x)) R σ) : hz_Run G N N M R pc lv [.ref x] σ post := by
  intro N0 p e s m args below meth c H locs ls h0 C hS hz hP hlv
  have hlocks := C.2.2.2.2.2.2.1
  exact W.aret C.1 C.2.1 (by rw [C.2.2.2.1]; exact hr) hrt (Or.inr ⟨_, rfl⟩) (fun t ht hW => ⟨⟨some (.ref x), R, σ, rfl, h, hz_Wend C hS hz hP ht hW.alike⟩, hS.F ht⟩) hS.2.2 hd hlocks
/-! calls -/
def hz_MB (M : hz_M) (n : Nat) : Prop := Cond.code M.1 M.2.1 M.2.2.1 M.2.2.2.1 ∈ hz_tbl ∧ Cond.initialized M.1.cls ∈ hz_tbl ∧ (M.1.cls ≠ "java/lang/invoke/MethodHandle" ∧ M.1.cls ≠ "java/lang/invoke/VarHandle" ∧ (parseMethodDescriptor M.1.desc).map (fun d => d.parameters.length) = some n)
def hz_MV (M : hz_M) (n : Nat) : Prop := hz_MB M n ∧ Cond.instanceMethod M.1 ∈ hz_tbl ∧ Cond.selects M.1.cls M.1 M.1 ∈ hz_tbl
def hz_MS (M : hz_M) (n : Nat) : Prop := hz_MB M n ∧ Cond.static M.1 ∈ hz_tbl
def hz_MI (M : hz_M) (n : Nat) : Prop := hz_MB M n ∧ Cond.instanceMethod M.1 ∈ hz_tbl ∧ M.1.name = "<init>" ∧ M.2.2.2.1 = none
def hz_fit (M M2 : hz_M) : Prop := M2.2.2.2.2.1 + 1 ≤ M.2.2.2.2.1 ∧ 8 + (M2.2.2.1 + 11) + M2.2.2.2.2.2 ≤ M.2.2.2.2.2
theorem hz_blind (av : List Value) : FrameBlind (va_Pc av (hz_W G N R σ)) := by
  intro a U g mk h
  exact ⟨h.1, h.2.1, h.2.2.1, va_K.moved (u := U) (U := U.calling g mk a) (Vm.Alike.refl U.vm) h.2.2.2.1, (h.2.2.2.2.1.moved (Vm.Alike.refl U.vm)).kept rfl, h.2.2.2.2.2⟩
theorem hz_callB {p : Program} {s : State} {m : MethodId} {args : Array Value} {meth : Method} {c : Code} {M2 : hz_M} {N0 N1 idx n : Nat} (C : hz_C G M p s m args meth c) (hL : Cond.methodLink M.1.cls idx M2.1 ∈ hz_tbl) (hB : hz_MB M2 n) (hf : hz_fit M M2) :
    CallB (hz_rm M N0 N') s args M.1.cls idx M2.1 M2.2.1 M2.2.2.1 M2.2.2.2.1 (hz_wd M2) (hz_rm M2 N N1) (N1 - N) (hz_S N1 - hz_S N) n := by
  have hts := C.2.2.2.2.2.1
  exact callB_of n hts (hz_goodM hB.1) rfl rfl rfl (hts _ hB.2.1) (hts _ hL) hB.2.2 hf
theorem hz_call {p : Program} {e : Env} {s : State} {m : MethodId} {args : Array Value} {below : List Frame} {meth : Method} {c : Code} {H : Heap} {locs : List Loc} {ls : Array Slot} {N0 N1 : Nat} {rest : List Value} {a : Array Value}
    (h0 : N0 ≤ N) (h1 : N ≤ N1) (C : hz_C G M p s m args meth c) (hS : va_S (hz_A G) s.heap H locs) (hlv : lv_has ls M.2.2.1 (lv.map (hz_u2 G))) {st0 : List Value}
    (hr : va_Run p G.1 e (hz_rm M N0 N') s m args below meth c H locs (N - N0) (hz_S N - hz_S N0) (N1 - N) (hz_S N1 - hz_S N) (F0 m pc ls st0) (rest.map (hz_up G)) (hz_Q G N1 (fun r R' σ' => hz_Run G N1 N' M R' (pc + 3) lv (r.toList ++ rest) σ' post) a) (hz_A G)) :
    W p G.1 e (hz_rm M N0 N') s m args below meth c H locs (N - N0) (hz_S N - hz_S N0) (MQ below (hz_Q G N' post) args s (N' - N0) (hz_S N' - hz_S N0) (hz_A G)) (F0 m pc ls st0) := by
  intro T hT X
  obtain ⟨v, st₀, t, T', L, g0, X', hL, e1, e2, ⟨⟨r, R', σ', hv, hp, hw⟩, hz, hk⟩, go⟩ := hr T hT X
  have hv : v = r.map (hz_up G) := by injection hv
  subst hv
  rw [g0] at hz hk
  have i1 : N - N0 + (N1 - N) = N1 - N0 := by omega
  have m1 := hz_S_mono h0
  have m2 := hz_S_mono h1
  have i2 : hz_S N - hz_S N0 + (hz_S N1 - hz_S N) = hz_S N1 - hz_S N0 := by omega
  rw [i1, i2] at X'
  have hS' : va_S (hz_A G) s.heap T'.heap (locs ++ L) := by
    refine ⟨Nat.le_trans hS.1 (by rw [e1]; exact hz), fun q q1 q2 => ?_, fun q hq => ?_⟩
    · rw [e1, hk q (Nat.lt_of_lt_of_le q1 hS.1) q2]
      exact hS.2.1 q q1 q2
    · rcases List.mem_append.mp hq with h | h
      · exact hS.2.2 q h
      · exact hL q h
  obtain ⟨t2, a1, b1⟩ := hp N0 p e s m args below meth c T'.heap (locs ++ L) ls (Nat.le_trans h0 h1) C hS' (by rw [e1]; exact hw.1) (by rw [e1]; exact hw.2.1) hlv T' rfl X'
  refine ⟨t2, go t2 ?_, b1⟩
  have hst : (r.toList ++ rest).map (hz_up G) = (r.map (hz_up G)).toList ++ rest.map (hz_up G) := by cases r <;> rfl
  rw [hst] at a1
  exact a1
theorem o_callV {M2 : hz_M} {idx n N1 q ci k : Nat} (As : List Value) {rest : List Value} (hd : decode M.2.1 pc = .ok (.invokevirtual idx, 3)) (hL : Cond.methodLink M.1.cls idx M2.1 ∈ hz_tbl) (hM : hz_MV M2 n) (hf : hz_fit M M2) (hn : As.length = n) (hq : q < N) (hsh : hz_sh q = (ci, k)) (hci : ci < 20) (hc : (vwCl[ci]?).map (fun x => x.1) = some M2.1.cls) (hst : st = As.reverse ++ .ref q :: rest) (hcat : (rest.map fun v => v.category).sum ≤ 8) (h1 : N ≤ N1) (h2 : N1 ≤ N')
    (h : hz_Call G N N1 M2 R (.ref q :: As) σ (fun r R' σ' => hz_Run G N1 N' M R' (pc + 3) lv (r.toList ++ rest) σ' post)) : hz_Run G N N' M R pc lv st σ post := by
  intro N0 p e s m args below meth c H locs ls h0 C hS hz hP hlv
  subst hst
  obtain ⟨qc, hqc, hqn⟩ : ∃ qc, vwCl[ci]? = some qc ∧ qc.1 = M2.1.cls := by
    cases hh : vwCl[ci]? with
    | none => rw [hh] at hc; cases hc
    | some qc => rw [hh] at hc; exact ⟨qc, rfl, Option.some.inj hc⟩
  have hts := C.2.2.2.2.2.1
  have hrec := va_recv C.2.2.2.2.2.2.2.2.1 hP hqc (q0 := q) (by rw [hz_ws_at G R σ hq, hz_cell_o hsh hci])
  rw [hqn] at hrec
  have m1 := hz_S_mono h0
  have m2 := hz_S_mono h1
  have m3 := hz_S_mono h2
  refine hz_call h0 h1 C hS hlv (va_runV (As := As.map (hz_up G)) (rest := rest.map (hz_up G)) (b := hz_B G + q) ⟨C.1, C.2.1, C.2.2.1, C.2.2.2.2.1, hts⟩ h ⟨hz_callB C hL hM.1 hf, hts _ hM.2.1, hts _ hM.2.2⟩ ⟨hz_blind _, hrec, fun U hU hW => ⟨rfl, hz_Wend C hS hz hP hU hW.alike⟩⟩ rfl (by rw [List.length_map]; exact hn) hlv.1 (by simp [hz_up]) (lv_room (by rw [List.map_map]; simpa [Function.comp_def, hz_up_cat] using hcat)) hd ⟨?_, ?_⟩)
  · show N - N0 + (N1 - N) ≤ N' - N0
    omega
  · show hz_S N - hz_S N0 + (hz_S N1 - hz_S N) ≤ hz_S N' - hz_S N0
    omega
theorem o_callS {M2 : hz_M} {idx n N1 : Nat} (As : List Value) {rest : List Value} (hd : decode M.2.1 pc = .ok (.invokestatic idx, 3)) (hL : Cond.methodLink M.1.cls idx M2.1 ∈ hz_tbl) (hM : hz_MS M2 n) (hf : hz_fit M M2) (hn : As.length = n) (hst : st = As.reverse ++ rest) (hcat : (rest.map fun v => v.category).sum ≤ 8) (h1 : N ≤ N1) (h2 : N1 ≤ N')
    (h : hz_Call G N N1 M2 R As σ (fun r R' σ' => hz_Run G N1 N' M R' (pc + 3) lv (r.toList ++ rest) σ' post)) : hz_Run G N N' M R pc lv st σ post := by
  intro N0 p e s m args below meth c H locs ls h0 C hS hz hP hlv
  subst hst
  have hts := C.2.2.2.2.2.1
  have m1 := hz_S_mono h0
  have m2 := hz_S_mono h1
  have m3 := hz_S_mono h2
  refine hz_call h0 h1 C hS hlv (va_runS (As := As.map (hz_up G)) (rest := rest.map (hz_up G)) ⟨C.1, C.2.1, C.2.2.1, C.2.2.2.2.1, hts⟩ h ⟨hz_callB C hL hM.1 hf, hts _ hM.2⟩ ⟨hz_blind _, fun U hU hW => ⟨rfl, hz_Wend C hS hz hP hU hW.alike⟩⟩ rfl (by rw [List.length_map]; exact hn) hlv.1 (by simp) (lv_room (by rw [List.map_map]; simpa [Function.comp_def, hz_up_cat] using hcat)) hd ⟨?_, ?_⟩)
  · show N - N0 + (N1 - N) ≤ N' - N0
    omega
  · show hz_S N - hz_S N0 + (hz_S N1 - hz_S N) ≤ hz_S N' - hz_S N0
    omega
theorem o_callI {M2 : hz_M} {idx n N1 q : Nat} (As : List Value) {rest : List Value} (hd : decode M.2.1 pc = .ok (.invokespecial idx, 3)) (hL : Cond.methodLink M.1.cls idx M2.1 ∈ hz_tbl) (hM : hz_MI M2 n) (hf : hz_fit M M2) (hn : As.length = n) (hst : st = As.reverse ++ .ref q :: rest) (hcat : (rest.map fun v => v.category).sum ≤ 8) (h1 : N ≤ N1) (h2 : N1 ≤ N')
    (h : hz_Call G N N1 M2 R (.ref q :: As) σ (fun r R' σ' => hz_Run G N1 N' M R' (pc + 3) lv (r.toList ++ rest) σ' post)) : hz_Run G N N' M R pc lv st σ post := by
  intro N0 p e s m args below meth c H locs ls h0 C hS hz hP hlv
  subst hst
  have hts := C.2.2.2.2.2.1
  have m1 := hz_S_mono h0
  have m2 := hz_S_mono h1
  have m3 := hz_S_mono h2
  have hB := hz_callB (N := N) (N' := N') (N0 := N0) (N1 := N1) C hL hM.1 hf
  rw [hM.2.2.2] at hB
  refine hz_call h0 h1 C hS hlv (va_runI (As := As.map (hz_up G)) (rest := rest.map (hz_up G)) (b := hz_B G + q) ⟨C.1, C.2.1, C.2.2.1, C.2.2.2.2.1, hts⟩ h ⟨hB, hM.2.2.1, hts _ hM.2.1⟩ ⟨hz_blind _, fun U hU hW => ⟨rfl, hz_Wend C hS hz hP hU hW.alike⟩⟩ rfl (by rw [List.length_map]; exact hn) hlv.1 (by simp [hz_up]) (lv_room (by rw [List.map_map]; simpa [Function.comp_def, hz_up_cat] using hcat)) hd ⟨?_, ?_⟩)
  · show N - N0 + (N1 - N) ≤ N' - N0
    omega
  · show hz_S N - hz_S N0 + (hz_S N1 - hz_S N) ≤ hz_S N' - hz_S N0
    omega
theorem o_objInit {idx q : Nat} {rest : List Value} (hd : decode M.2.1 pc = .ok (.invokespecial idx, 3)) (hL : Cond.methodLink M.1.cls idx objectInit ∈ hz_tbl) (hI : Cond.instanceMethod objectInit ∈ hz_tbl) (hC : Cond.code objectInit ⟨#[0xb1]⟩ 1 none ∈ hz_tbl) (hf : 1 ≤ M.2.2.2.2.1 ∧ (rest.map fun v => v.category).sum + 12 ≤ M.2.2.2.2.2)
    (h : hz_Run G N N' M R (pc + 3) lv rest σ post) : hz_Run G N N' M R pc lv (.ref q :: rest) σ post := by
  intro N0 p e s m args below meth c H locs ls h0 C hS hz hP hlv
  have hts := C.2.2.2.2.2.1
  have hc : ((rest.map (hz_up G)).map fun v => v.category).sum = (rest.map fun v => v.category).sum := by rw [List.map_map]; simp [Function.comp_def, hz_up_cat]
  exact W.objInit (a := hz_B G + q) (rest := rest.map (hz_up G)) C.1 C.2.1 C.2.2.2.2.1 (hts _ hL) (hts _ hI) (hts _ hC) rfl (by rw [C.2.2.1]; exact hlv.1) rfl hd hf.1 (by rw [hc]; show 2 * 0 + _ + 12 ≤ M.2.2.2.2.2; rw [Nat.mul_zero, Nat.zero_add]; exact hf.2) (h N0 p e s m args below meth c H locs ls h0 C hS hz hP hlv)
/-- a method's contract out of its walk -/
theorem hz_ofRun {av : List Value} (hy : plainName M.1.cls = true) (hl : (lg_sl (av.map (hz_up G))).length ≤ M.2.2.1) (hlv : lv_args 0 (av.map (hz_up G)) = lv.map (hz_u2 G)) (h : hz_Run G N N' M R 0 lv [] σ post) : hz_Call G N N' M R av σ post := by
  refine Met.ofW (cc := M.2.1) (maxL := M.2.2.1) (ret := M.2.2.2.1) hy rfl ?_
  intro p e s m args below meth c s₁ B hml hv
  obtain ⟨rfl, hW⟩ := hv
  have hts := atoms_spec (ws := hz_wd M) B.pre
  have hC : hz_C G M p s m (av.map (hz_up G)).toArray meth c := ⟨B.exec, B.bytes, hml, B.returns, findClass_of_methodNamed B.named, fun w hw => hts w (List.mem_cons_of_mem _ hw), B.notSynchronized, (name_of_methodNamed B.named B.method).1, hW.2.2.1, by rw [hW.1]; exact Nat.le_add_right _ _, hW.2.2.2⟩
  rw [lg_entry_eq]
  have hls := lv_entry (av.map (hz_up G)) (n := M.2.2.1) hl
  rw [hlv] at hls
  have := h N p e s m _ below meth c s.heap [] _ (Nat.le_refl N) hC va_S.rf hW.1 hW.2.1 hls
  rw [Nat.sub_self, Nat.sub_self] at this
  exact this
/-! making -/
def hz_NC (own : String) (idx ci NN : Nat) : Prop := ∃ (C : String) (T : u_T) (ty0 : Nat → FieldType), vwCl[ci]? = some (C, T, NN) ∧ (∀ w ∈ u_ws C T NN, w ∈ hz_tbl) ∧ (∀ k, k < NN → parseFieldDescriptor (T k).2.2.1 = some (ty0 k)) ∧ Cond.classLink own idx C ∈ hz_tbl ∧ Cond.instantiable C NN ∈ hz_tbl ∧ Cond.initialized C ∈ hz_tbl ∧ (hz_fk ci).length = NN ∧ ∀ j, j < NN → defaultValue (ty0 j) = (match (hz_fk ci).getD j 0 with | 0 => .int 0 | 1 => .long 0 | _ => .null)
theorem hz_zr_row (σ : hz_H) {q k : Nat} (h : k ≠ q) : (hz_zr σ q).1 k = σ.1 k ∧ (hz_zr σ q).2 k = σ.2 k := by
  constructor <;> (funext b; simp [hz_zr, h])
theorem hz_zR_row (R : hz_R) {q k : Nat} (h : k ≠ q) : hz_zR R q k = R k := by funext b; simp [hz_zR, h]
theorem o_new {idx ci n : Nat} (hd : decode M.2.1 pc = .ok (.new idx, 3)) (hF : hz_NC M.1.cls idx ci n) (hsh : hz_sh N = (ci, n)) (hci : ci < 20) (hN : N + 1 ≤ N') (h : hz_Run G (N + 1) N' M (hz_zR R N) (pc + 3) lv (.ref N :: st) (hz_zr σ N) post) : hz_Run G N N' M R pc lv st σ post := by
  intro N0 p e s m args below meth c H locs ls h0 C hS hz hP hlv
  obtain ⟨Cn, T, ty0, h1, h3, h5, h6, h7, h8, h9, h10⟩ := hF
  have hts := C.2.2.2.2.2.1
  have hK := C.2.2.2.2.2.2.2.2.1
  have hKn := hK.1 ci _ h1
  have m1 := hz_S_mono h0
  have m2 := hz_S_mono hN
  have m3 := hz_S_succ N
  rw [hsh] at m3
  dsimp only at m3
  refine W.newcK (h := hz_B G + N) C.1 C.2.1 C.2.2.2.2.1 (hts _ h6) (hts _ h7) (hts _ h8) rfl hd (by show N - N0 + 1 ≤ N' - N0; omega) (by show hz_S N - hz_S N0 + n ≤ hz_S N' - hz_S N0; omega) hKn.2.1 hz fun H1 kC hkC e1 z1 o1 => ?_
  have hP1 : va_P G.2.1 vwCl (hz_ws G (hz_zR R N) (N + 1) (hz_zr σ N)) H1 := by
    rw [← hz_ws_app (R := R) (σ := σ) (fun k hk => hz_cell_eq (hz_zr_row σ (Nat.ne_of_lt hk)).1 (hz_zr_row σ (Nat.ne_of_lt hk)).2 (hz_zR_row R (Nat.ne_of_lt hk)))]
    refine (hP.kept (fun k x hx => o1 x.1 ?_)).app (fun k x hx => ?_)
    · obtain ⟨hk, rfl⟩ := hz_ws_some hx
      show hz_B G + k < hz_B G + N
      omega
    · have hz1 : k < 1 := (List.getElem?_eq_some_iff.mp hx).1
      rw [show k = 0 by omega] at hx
      cases hx
      rw [hz_cell_o hsh hci]
      refine ⟨_, h1, (u_born ty0 hts h3 hKn hkC e1 h5).to (fun j hj => ?_)⟩
      dsimp only
      rw [h10 j hj]
      have hjl : j < (hz_fk ci).length := by rw [h9]; exact hj
      simp only [vp_V, List.getD_eq_getElem?_getD]
      rw [hz_fs_at (kd := (hz_fk ci).getD j 0) (by rw [List.getD_eq_getElem?_getD, List.getElem?_eq_getElem hjl]; rfl), Option.getD_some, List.getD_eq_getElem?_getD]
      generalize (hz_fk ci)[j]?.getD 0 = kd
      match kd with
      | 0 => simp [hz_fv, hz_zr]
      | 1 => simp [hz_fv, hz_zr]
      | kd + 2 => simp [hz_fv, hz_zR, hz_rf]
  have i1 : N - N0 + 1 = N + 1 - N0 := by omega
  have i2 : hz_S N - hz_S N0 + n = hz_S (N + 1) - hz_S N0 := by omega
  rw [i1, i2]
  exact h N0 p e s m args below meth c H1 locs ls (by omega) C ⟨Nat.le_trans hS.1 (by omega), fun x h1 h2 => (o1 x (by rw [← hz]; exact Nat.lt_of_lt_of_le h1 hS.1)).trans (hS.2.1 x h1 h2), hS.2.2⟩ (by omega) hP1 hlv

theorem o_newI {at_ : ArrayType} {n : Nat} {x : Int32} (hd : decode M.2.1 pc = .ok (.newarray at_, 2)) (hat : newarray.typeOf at_ = .int) (hA : Cond.arrayClass (newarray.typeOf at_) ∈ hz_tbl) (hx : x = nI n) (hn : n < 100000) (hsh : hz_sh N = (20, n)) (hN : N + 1 ≤ N') (h : hz_Run G (N + 1) N' M (hz_zR R N) (pc + 2) lv (.ref N :: st) (hz_zr σ N) post) : hz_Run G N N' M R pc lv (.int x :: st) σ post := by
  intro N0 p e s m args below meth c H locs ls h0 C hS hz hP hlv
  have hts := C.2.2.2.2.2.1
  have hK := C.2.2.2.2.2.2.2.2.1
  have m1 := hz_S_mono h0
  have m2 := hz_S_mono hN
  have m3 := hz_S_succ N
  rw [hsh] at m3
  dsimp only at m3
  have hx0 : ¬ x < 0 := by rw [hx]; exact nI_pos (by omega)
  have hxc : x.toNatClampNeg = n := by rw [hx]; exact nI_clamp (by omega)
  refine va_newaK (h := hz_B G + N) (N := n) C.1 C.2.1 (hts _ hA) rfl hd rfl hx0 hxc (by rw [hat]; show n * componentBytes .int ≤ _; simp only [componentBytes]; omega) (by show N - N0 + 1 ≤ N' - N0; omega) (by show hz_S N - hz_S N0 + n ≤ hz_S N' - hz_S N0; omega) hz fun H1 cA e1 z1 o1 hAr hNm => ?_
  have hcA : cA = G.2.2.1 0 := by
    have h2 := (hK.2 0 _ rfl).2
    rw [hat] at hNm
    exact Option.some.inj (hNm.symm.trans h2)
  rw [hcA, hat] at e1
  have hP1 : va_P G.2.1 vwCl (hz_ws G (hz_zR R N) (N + 1) (hz_zr σ N)) H1 := by
    rw [← hz_ws_app (R := R) (σ := σ) (fun k hk => hz_cell_eq (hz_zr_row σ (Nat.ne_of_lt hk)).1 (hz_zr_row σ (Nat.ne_of_lt hk)).2 (hz_zR_row R (Nat.ne_of_lt hk)))]
    refine (hP.kept (fun k x hx => o1 x.1 ?_)).app (fun k x hx => ?_)
    · obtain ⟨hk, rfl⟩ := hz_ws_some hx
      show hz_B G + k < hz_B G + N
      omega
    · have hz1 : k < 1 := (List.getElem?_eq_some_iff.mp hx).1
      rw [show k = 0 by omega] at hx
      cases hx
      rw [hz_cell_i hsh]
      show H1[_]? = some (vp_cell _ _)
      rw [e1]
      simp [vp_cell, hz_zr, defaultValue]
  have i1 : N - N0 + 1 = N + 1 - N0 := by omega
  have i2 : hz_S N - hz_S N0 + n = hz_S (N + 1) - hz_S N0 := by omega
  rw [i1, i2]
  exact h N0 p e s m args below meth c H1 locs ls (by omega) C ⟨Nat.le_trans hS.1 (by omega), fun x h1 h2 => (o1 x (by rw [← hz]; exact Nat.lt_of_lt_of_le h1 hS.1)).trans (hS.2.1 x h1 h2), hS.2.2⟩ (by omega) hP1 hlv
theorem o_newB {at_ : ArrayType} {n : Nat} {x : Int32} (hd : decode M.2.1 pc = .ok (.newarray at_, 2)) (hat : newarray.typeOf at_ = .byte) (hA : Cond.arrayClass (newarray.typeOf at_) ∈ hz_tbl) (hx : x = nI n) (hn : n < 100000) (hsh : hz_sh N = (21, n)) (hN : N + 1 ≤ N') (h : hz_Run G (N + 1) N' M (hz_zR R N) (pc + 2) lv (.ref N :: st) (hz_zr σ N) post) : hz_Run G N N' M R pc lv (.int x :: st) σ post := by
  intro N0 p e s m args below meth c H locs ls h0 C hS hz hP hlv
  have hts := C.2.2.2.2.2.1
  have hK := C.2.2.2.2.2.2.2.2.1
  have m1 := hz_S_mono h0
  have m2 := hz_S_mono hN
  have m3 := hz_S_succ N
  rw [hsh] at m3
  dsimp only at m3
  have hx0 : ¬ x < 0 := by rw [hx]; exact nI_pos (by omega)
  have hxc : x.toNatClampNeg = n := by rw [hx]; exact nI_clamp (by omega)
  refine va_newaK (h := hz_B G + N) (N := n) C.1 C.2.1 (hts _ hA) rfl hd rfl hx0 hxc (by rw [hat]; show n * componentBytes .byte ≤ _; simp only [componentBytes]; omega) (by show N - N0 + 1 ≤ N' - N0; omega) (by show hz_S N - hz_S N0 + n ≤ hz_S N' - hz_S N0; omega) hz fun H1 cA e1 z1 o1 hAr hNm => ?_
  have hcA : cA = G.2.2.1 1 := by
    have h2 := (hK.2 1 _ rfl).2
    rw [hat] at hNm
    exact Option.some.inj (hNm.symm.trans h2)
  rw [hcA, hat] at e1
  have hP1 : va_P G.2.1 vwCl (hz_ws G (hz_zR R N) (N + 1) (hz_zr σ N)) H1 := by
    rw [← hz_ws_app (R := R) (σ := σ) (fun k hk => hz_cell_eq (hz_zr_row σ (Nat.ne_of_lt hk)).1 (hz_zr_row σ (Nat.ne_of_lt hk)).2 (hz_zR_row R (Nat.ne_of_lt hk)))]
    refine (hP.kept (fun k x hx => o1 x.1 ?_)).app (fun k x hx => ?_)
    · obtain ⟨hk, rfl⟩ := hz_ws_some hx
      show hz_B G + k < hz_B G + N
      omega
    · have hz1 : k < 1 := (List.getElem?_eq_some_iff.mp hx).1
      rw [show k = 0 by omega] at hx
      cases hx
      rw [hz_cell_b hsh]
      show H1[_]? = some (vp_cell _ _)
      rw [e1]
      simp [vp_cell, hz_zr, defaultValue]
  have i1 : N - N0 + 1 = N + 1 - N0 := by omega
  have i2 : hz_S N - hz_S N0 + n = hz_S (N + 1) - hz_S N0 := by omega
  rw [i1, i2]
  exact h N0 p e s m args below meth c H1 locs ls (by omega) C ⟨Nat.le_trans hS.1 (by omega), fun x h1 h2 => (o1 x (by rw [← hz]; exact Nat.lt_of_lt_of_le h1 hS.1)).trans (hS.2.1 x h1 h2), hS.2.2⟩ (by omega) hP1 hlv
theorem o_newL {at_ : ArrayType} {n : Nat} {x : Int32} (hd : decode M.2.1 pc = .ok (.newarray at_, 2)) (hat : newarray.typeOf at_ = .long) (hA : Cond.arrayClass (newarray.typeOf at_) ∈ hz_tbl) (hx : x = nI n) (hn : n < 100000) (hsh : hz_sh N = (22, n)) (hN : N + 1 ≤ N') (h : hz_Run G (N + 1) N' M (hz_zR R N) (pc + 2) lv (.ref N :: st) (hz_zr σ N) post) : hz_Run G N N' M R pc lv (.int x :: st) σ post := by
  intro N0 p e s m args below meth c H locs ls h0 C hS hz hP hlv
  have hts := C.2.2.2.2.2.1
  have hK := C.2.2.2.2.2.2.2.2.1
  have m1 := hz_S_mono h0
  have m2 := hz_S_mono hN
  have m3 := hz_S_succ N
  rw [hsh] at m3
  dsimp only at m3
  have hx0 : ¬ x < 0 := by rw [hx]; exact nI_pos (by omega)
  have hxc : x.toNatClampNeg = n := by rw [hx]; exact nI_clamp (by omega)
  refine va_newaK (h := hz_B G + N) (N := n) C.1 C.2.1 (hts _ hA) rfl hd rfl hx0 hxc (by rw [hat]; show n * componentBytes .long ≤ _; simp only [componentBytes]; omega) (by show N - N0 + 1 ≤ N' - N0; omega) (by show hz_S N - hz_S N0 + n ≤ hz_S N' - hz_S N0; omega) hz fun H1 cA e1 z1 o1 hAr hNm => ?_
  have hcA : cA = G.2.2.1 2 := by
    have h2 := (hK.2 2 _ rfl).2
    rw [hat] at hNm
    exact Option.some.inj (hNm.symm.trans h2)
  rw [hcA, hat] at e1
  have hP1 : va_P G.2.1 vwCl (hz_ws G (hz_zR R N) (N + 1) (hz_zr σ N)) H1 := by
    rw [← hz_ws_app (R := R) (σ := σ) (fun k hk => hz_cell_eq (hz_zr_row σ (Nat.ne_of_lt hk)).1 (hz_zr_row σ (Nat.ne_of_lt hk)).2 (hz_zR_row R (Nat.ne_of_lt hk)))]
    refine (hP.kept (fun k x hx => o1 x.1 ?_)).app (fun k x hx => ?_)
    · obtain ⟨hk, rfl⟩ := hz_ws_some hx
      show hz_B G + k < hz_B G + N
      omega
    · have hz1 : k < 1 := (List.getElem?_eq_some_iff.mp hx).1
      rw [show k = 0 by omega] at hx
      cases hx
      rw [hz_cell_l hsh]
      show H1[_]? = some (vp_cell _ _)
      rw [e1]
      simp [vp_cell, hz_zr, defaultValue]
  have i1 : N - N0 + 1 = N + 1 - N0 := by omega
  have i2 : hz_S N - hz_S N0 + n = hz_S (N + 1) - hz_S N0 := by omega
  rw [i1, i2]
  exact h N0 p e s m args below meth c H1 locs ls (by omega) C ⟨Nat.le_trans hS.1 (by omega), fun x h1 h2 => (o1 x (by rw [← hz]; exact Nat.lt_of_lt_of_le h1 hS.1)).trans (hS.2.1 x h1 h2), hS.2.2⟩ (by omega) hP1 hlv
end HZ3

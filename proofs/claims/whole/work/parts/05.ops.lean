section HZ
variable {G : hz_G} {N N' : Nat} {M : hz_M} {R : hz_R} {pc : Nat} {lv : List (Nat × Value)} {st : List Value} {σ : hz_H} {post : hz_P}
theorem hz_filter (G : hz_G) (f : Nat → Nat → Bool) (lv : List (Nat × Value)) : (lv.map (hz_u2 G)).filter (fun q => f q.1 q.2.category) = (lv.filter (fun q => f q.1 q.2.category)).map (hz_u2 G) := by
  rw [List.filter_map]
  congr 1
  apply List.filter_congr
  intro q _
  simp only [Function.comp, hz_u2, hz_up_cat]
theorem hz_pick (G : hz_G) (lv : List (Nat × Value)) (ks : List Nat) : lv_pick (lv.map (hz_u2 G)) ks = (lv_pick lv ks).map (hz_u2 G) := by
  simp only [lv_pick, List.map_filterMap, List.getElem?_map]
theorem hz_lvat {G : hz_G} {ls : Array Slot} {nL : Nat} {lv : List (Nat × Value)} (h : lv_has ls nL (lv.map (hz_u2 G))) {i : Nat} {v : Value} (hk : lv.lookup i = some v) : ls[i]? = some (.val (hz_up G v)) := by
  have hm : ∀ (l : List (Nat × Value)), l.lookup i = some v → (i, v) ∈ l := by
    intro l
    induction l with
    | nil => intro h; cases h
    | cons a l ih =>
      intro h
      obtain ⟨a1, a2⟩ := a
      rw [List.lookup_cons] at h
      split at h
      · next e =>
        have : i = a1 := by simpa using e
        subst this
        cases h
        exact List.mem_cons_self
      · exact List.mem_cons_of_mem _ (ih h)
  exact h.2.2 (i, hz_up G v) (List.mem_map.mpr ⟨(i, v), hm lv hk, rfl⟩)
/-- local i becomes v (by places in order); what shared its two places is gone -/
def hz_put : List (Nat × Value) → Nat → Value → List (Nat × Value)
  | [], i, v => [(i, v)]
  | (k, u) :: r, i, v => match Nat.blt k i with
    | true => (match (Nat.beq (k + 1) i && Nat.beq u.category 2) with
      | true => hz_put r i v
      | false => (k, u) :: hz_put r i v)
    | false => (i, v) :: ((k, u) :: r).filter (fun q => !(Nat.beq q.1 i) && !(Nat.beq q.1 (i + 1) && Nat.beq v.category 2) && !(Nat.beq (q.1 + 1) i && Nat.beq q.2.category 2))
theorem hz_put_mem {i : Nat} {v : Value} : ∀ (lv : List (Nat × Value)) (q : Nat × Value), q ∈ hz_put lv i v → q = (i, v) ∨ (q ∈ lv ∧ q.1 ≠ i ∧ ¬ (q.1 = i + 1 ∧ v.category = 2) ∧ ¬ (q.1 + 1 = i ∧ q.2.category = 2)) := by
  intro lv
  induction lv with
  | nil => intro q h; exact Or.inl (by simpa [hz_put] using h)
  | cons a r ih =>
    obtain ⟨k, u⟩ := a
    intro q h
    unfold hz_put at h
    split at h
    · next hb =>
      have hlt : k < i := by simpa [Nat.blt_eq] using hb
      split at h
      · rcases ih q h with h1 | h1
        · exact Or.inl h1
        · exact Or.inr ⟨List.mem_cons_of_mem _ h1.1, h1.2⟩
      · next hn =>
        rcases List.mem_cons.mp h with h1 | h1
        · subst h1
          refine Or.inr ⟨List.mem_cons_self, by dsimp only; omega, by dsimp only; omega, ?_⟩
          dsimp only
          intro hh
          have : (Nat.beq (k + 1) i && Nat.beq u.category 2) = true := by rw [hh.1, hh.2]; simp
          rw [this] at hn
          cases hn
        · rcases ih q h1 with h2 | h2
          · exact Or.inl h2
          · exact Or.inr ⟨List.mem_cons_of_mem _ h2.1, h2.2⟩
    · rcases List.mem_cons.mp h with h1 | h1
      · exact Or.inl h1
      · obtain ⟨h2, h3⟩ := List.mem_filter.mp h1
        simp only [Bool.and_eq_true, Bool.not_eq_true', Bool.and_eq_false_iff] at h3
        refine Or.inr ⟨h2, fun e => ?_, fun e => ?_, fun e => ?_⟩
        · rw [e] at h3; simp at h3
        · rw [e.1, e.2] at h3; simp at h3
        · rw [e.1, e.2] at h3; simp at h3
theorem hz_put1 {G : hz_G} {ls : Array Slot} {nL i : Nat} {v : Value} {lv lv' : List (Nat × Value)} (hl : hz_put lv i v = lv') (hc : v.category = 1) (h : lv_has ls nL ((i, hz_up G v) :: (lv.map (hz_u2 G)).filter (fun q => !(q.1 == i) && !(q.1 + 1 == i && q.2.category == 2)))) : lv_has ls nL (lv'.map (hz_u2 G)) := by
  refine ⟨h.1, h.2.1, fun q hq => ?_⟩
  obtain ⟨q0, h0, rfl⟩ := List.mem_map.mp hq
  rw [← hl] at h0
  apply h.2.2
  rcases hz_put_mem lv q0 h0 with h1 | ⟨h1, h2, h3, h4⟩
  · subst h1; exact List.mem_cons_self
  · refine List.mem_cons_of_mem _ (List.mem_filter.mpr ⟨List.mem_map.mpr ⟨q0, h1, rfl⟩, ?_⟩)
    have e1 : (hz_u2 G q0).1 = q0.1 := rfl
    have e2 : (hz_u2 G q0).2.category = q0.2.category := hz_up_cat G q0.2
    rw [e1, e2]
    have e3 : (q0.1 == i) = false := by simpa using h2
    have e4 : (q0.1 + 1 == i && q0.2.category == 2) = false := by
      cases hh : (q0.1 + 1 == i && q0.2.category == 2) with
      | false => rfl
      | true => exact absurd (by simpa using hh) h4
    rw [e3, e4]; rfl
theorem hz_put2 {G : hz_G} {ls : Array Slot} {nL i : Nat} {v : Value} {lv lv' : List (Nat × Value)} (hl : hz_put lv i v = lv') (hc : v.category = 2) (h : lv_has ls nL ((i, hz_up G v) :: (lv.map (hz_u2 G)).filter (fun q => !(q.1 == i) && (!(q.1 == i + 1) && !(q.1 + 1 == i && q.2.category == 2))))) : lv_has ls nL (lv'.map (hz_u2 G)) := by
  refine ⟨h.1, h.2.1, fun q hq => ?_⟩
  obtain ⟨q0, h0, rfl⟩ := List.mem_map.mp hq
  rw [← hl] at h0
  apply h.2.2
  rcases hz_put_mem lv q0 h0 with h1 | ⟨h1, h2, h3, h4⟩
  · subst h1; exact List.mem_cons_self
  · refine List.mem_cons_of_mem _ (List.mem_filter.mpr ⟨List.mem_map.mpr ⟨q0, h1, rfl⟩, ?_⟩)
    have e1 : (hz_u2 G q0).1 = q0.1 := rfl
    have e2 : (hz_u2 G q0).2.category = q0.2.category := hz_up_cat G q0.2
    rw [e1, e2]
    have e3 : (q0.1 == i) = false := by simpa using h2
    have e5 : (q0.1 == i + 1) = false := by
      have : ¬ q0.1 = i + 1 := fun e => h3 ⟨e, hc⟩
      simpa using this
    have e4 : (q0.1 + 1 == i && q0.2.category == 2) = false := by
      cases hh : (q0.1 + 1 == i && q0.2.category == 2) with
      | false => rfl
      | true => exact absurd (by simpa using hh) h4
    rw [e3, e4, e5]; rfl
/-- fewer locals -/
theorem o_sub (ks : List Nat) {lv' : List (Nat × Value)} (hl : lv_pick lv ks = lv') (h : hz_Run G N N' M R pc lv' st σ post) : hz_Run G N N' M R pc lv st σ post := by
  intro N0 p e s m args below meth c H locs ls h0 C hS hz hP hlv
  exact h N0 p e s m args below meth c H locs ls h0 C hS hz hP (lv_sub hlv ks (by rw [hz_pick, hl]))
theorem o_st {st' : List Value} (hs : st = st') (h : hz_Run G N N' M R pc lv st' σ post) : hz_Run G N N' M R pc lv st σ post := by subst hs; exact h
theorem o_at {pc' : Nat} {lv' : List (Nat × Value)} {st' : List Value} {σ' : hz_H} (hp : pc = pc') (hl : lv = lv') (hs : st = st') (hσ : σ = σ') (h : hz_Run G N N' M R pc' lv' st' σ' post) : hz_Run G N N' M R pc lv st σ post := by subst hp; subst hl; subst hs; subst hσ; exact h

theorem o_iconst {n : Int} {v : Int32} (hd : decode M.2.1 pc = .ok (.iconst n, 1)) (hv : Int32.ofInt n = v) (h : hz_Run G N N' M R (pc + 1) lv (.int v :: st) σ post) : hz_Run G N N' M R pc lv (st) σ post := by
  intro N0 p e s m args below meth c H locs ls h0 C hS hz hP hlv
  exact lv_iconst C.1 C.2.1 hd hv (h N0 p e s m args below meth c H locs ls h0 C hS hz hP hlv)
theorem o_bipush {n : Int} {v : Int32} (hd : decode M.2.1 pc = .ok (.bipush n, 2)) (hv : (Int8.ofInt n).toInt32 = v) (h : hz_Run G N N' M R (pc + 2) lv (.int v :: st) σ post) : hz_Run G N N' M R pc lv (st) σ post := by
  intro N0 p e s m args below meth c H locs ls h0 C hS hz hP hlv
  exact lv_bipush C.1 C.2.1 hd hv (h N0 p e s m args below meth c H locs ls h0 C hS hz hP hlv)
theorem o_sipush {n : Int} {v : Int32} (hd : decode M.2.1 pc = .ok (.sipush n, 3)) (hv : (Int16.ofInt n).toInt32 = v) (h : hz_Run G N N' M R (pc + 3) lv (.int v :: st) σ post) : hz_Run G N N' M R pc lv (st) σ post := by
  intro N0 p e s m args below meth c H locs ls h0 C hS hz hP hlv
  exact lv_sipush C.1 C.2.1 hd hv (h N0 p e s m args below meth c H locs ls h0 C hS hz hP hlv)
theorem o_lconst {n : Fin 2} {v : Int64} (hd : decode M.2.1 pc = .ok (.lconst n, 1)) (hv : Int64.ofNat (n : Nat) = v) (h : hz_Run G N N' M R (pc + 1) lv (.long v :: st) σ post) : hz_Run G N N' M R pc lv (st) σ post := by
  intro N0 p e s m args below meth c H locs ls h0 C hS hz hP hlv
  exact lv_lconst C.1 C.2.1 hd hv (h N0 p e s m args below meth c H locs ls h0 C hS hz hP hlv)
theorem o_ldc {idx : Nat} {v : Int32} (hd : decode M.2.1 pc = .ok (.ldc idx, 2)) (hc : Cond.constant M.1.cls idx v ∈ hz_tbl) (h : hz_Run G N N' M R (pc + 2) lv (.int v :: st) σ post) : hz_Run G N N' M R pc lv (st) σ post := by
  intro N0 p e s m args below meth c H locs ls h0 C hS hz hP hlv
  exact lv_ldc C.1 C.2.1 C.2.2.2.2.1 (C.2.2.2.2.2.1 _ hc) hd (h N0 p e s m args below meth c H locs ls h0 C hS hz hP hlv)
theorem o_ldcw {idx : Nat} {v : Int32} (hd : decode M.2.1 pc = .ok (.ldc_w idx, 3)) (hc : Cond.constant M.1.cls idx v ∈ hz_tbl) (h : hz_Run G N N' M R (pc + 3) lv (.int v :: st) σ post) : hz_Run G N N' M R pc lv (st) σ post := by
  intro N0 p e s m args below meth c H locs ls h0 C hS hz hP hlv
  exact lv_ldcw C.1 C.2.1 C.2.2.2.2.1 (C.2.2.2.2.2.1 _ hc) hd (h N0 p e s m args below meth c H locs ls h0 C hS hz hP hlv)
theorem o_ldc2 {idx : Nat} {v : Int64} (hd : decode M.2.1 pc = .ok (.ldc2_w idx, 3)) (hc : Cond.constantLong M.1.cls idx v ∈ hz_tbl) (h : hz_Run G N N' M R (pc + 3) lv (.long v :: st) σ post) : hz_Run G N N' M R pc lv (st) σ post := by
  intro N0 p e s m args below meth c H locs ls h0 C hS hz hP hlv
  exact lv_ldc2 C.1 C.2.1 C.2.2.2.2.1 (C.2.2.2.2.2.1 _ hc) hd (h N0 p e s m args below meth c H locs ls h0 C hS hz hP hlv)
theorem o_iload_n {k : Fin 4} {x : Int32} (hd : decode M.2.1 pc = .ok (.iload_n k, 1)) (hl : lv.lookup (k : Nat) = some (.int x)) (h : hz_Run G N N' M R (pc + 1) lv (.int x :: st) σ post) : hz_Run G N N' M R pc lv (st) σ post := by
  intro N0 p e s m args below meth c H locs ls h0 C hS hz hP hlv
  exact lv_iload_n C.1 C.2.1 hd rfl (hz_lvat hlv hl) (h N0 p e s m args below meth c H locs ls h0 C hS hz hP hlv)
theorem o_iload {k : Nat} {x : Int32} (hd : decode M.2.1 pc = .ok (.iload k, 2)) (hl : lv.lookup k = some (.int x)) (h : hz_Run G N N' M R (pc + 2) lv (.int x :: st) σ post) : hz_Run G N N' M R pc lv (st) σ post := by
  intro N0 p e s m args below meth c H locs ls h0 C hS hz hP hlv
  exact lv_iload C.1 C.2.1 hd (hz_lvat hlv hl) (h N0 p e s m args below meth c H locs ls h0 C hS hz hP hlv)
theorem o_lload_n {k : Fin 4} {x : Int64} (hd : decode M.2.1 pc = .ok (.lload_n k, 1)) (hl : lv.lookup (k : Nat) = some (.long x)) (h : hz_Run G N N' M R (pc + 1) lv (.long x :: st) σ post) : hz_Run G N N' M R pc lv (st) σ post := by
  intro N0 p e s m args below meth c H locs ls h0 C hS hz hP hlv
  exact lv_lload_n C.1 C.2.1 hd rfl (hz_lvat hlv hl) (h N0 p e s m args below meth c H locs ls h0 C hS hz hP hlv)
theorem o_lload {k : Nat} {x : Int64} (hd : decode M.2.1 pc = .ok (.lload k, 2)) (hl : lv.lookup k = some (.long x)) (h : hz_Run G N N' M R (pc + 2) lv (.long x :: st) σ post) : hz_Run G N N' M R pc lv (st) σ post := by
  intro N0 p e s m args below meth c H locs ls h0 C hS hz hP hlv
  exact lv_lload C.1 C.2.1 hd (hz_lvat hlv hl) (h N0 p e s m args below meth c H locs ls h0 C hS hz hP hlv)
theorem o_aload_n {k : Fin 4} {x : Nat} (hd : decode M.2.1 pc = .ok (.aload_n k, 1)) (hl : lv.lookup (k : Nat) = some (.ref x)) (h : hz_Run G N N' M R (pc + 1) lv (.ref x :: st) σ post) : hz_Run G N N' M R pc lv (st) σ post := by
  intro N0 p e s m args below meth c H locs ls h0 C hS hz hP hlv
  exact lv_aload_n C.1 C.2.1 hd rfl (hz_lvat hlv hl) (h N0 p e s m args below meth c H locs ls h0 C hS hz hP hlv)
theorem o_aload {k : Nat} {x : Nat} (hd : decode M.2.1 pc = .ok (.aload k, 2)) (hl : lv.lookup k = some (.ref x)) (h : hz_Run G N N' M R (pc + 2) lv (.ref x :: st) σ post) : hz_Run G N N' M R pc lv (st) σ post := by
  intro N0 p e s m args below meth c H locs ls h0 C hS hz hP hlv
  exact lv_aload C.1 C.2.1 hd (hz_lvat hlv hl) (h N0 p e s m args below meth c H locs ls h0 C hS hz hP hlv)
theorem o_sload_n {k : Fin 4} {x : Nat} (hd : decode M.2.1 pc = .ok (.aload_n k, 1)) (hl : lv.lookup (k : Nat) = some (.retAddr x)) (h : hz_Run G N N' M R (pc + 1) lv (.retAddr x :: st) σ post) : hz_Run G N N' M R pc lv (st) σ post := by
  intro N0 p e s m args below meth c H locs ls h0 C hS hz hP hlv
  exact lv_aload_n C.1 C.2.1 hd rfl (hz_lvat hlv hl) (h N0 p e s m args below meth c H locs ls h0 C hS hz hP hlv)
theorem o_istore_n {k : Fin 4} {x : Int32} {lv' : List (Nat × Value)} (hd : decode M.2.1 pc = .ok (.istore_n k, 1)) (hn : (k : Nat) < M.2.2.1) (hl : hz_put lv (k : Nat) (.int x) = lv') (h : hz_Run G N N' M R (pc + 1) lv' (st) σ post) : hz_Run G N N' M R pc lv (.int x :: st) σ post := by
  intro N0 p e s m args below meth c H locs ls h0 C hS hz hP hlv
  exact lv_istore_n C.1 C.2.1 hd rfl hlv hn rfl (fun ls hlv => h N0 p e s m args below meth c H locs ls h0 C hS hz hP (hz_put1 (v := .int x) hl rfl hlv))
theorem o_istore {k : Nat} {x : Int32} {lv' : List (Nat × Value)} (hd : decode M.2.1 pc = .ok (.istore k, 2)) (hn : (k : Nat) < M.2.2.1) (hl : hz_put lv (k : Nat) (.int x) = lv') (h : hz_Run G N N' M R (pc + 2) lv' (st) σ post) : hz_Run G N N' M R pc lv (.int x :: st) σ post := by
  intro N0 p e s m args below meth c H locs ls h0 C hS hz hP hlv
  exact lv_istore C.1 C.2.1 hd hlv hn rfl (fun ls hlv => h N0 p e s m args below meth c H locs ls h0 C hS hz hP (hz_put1 (v := .int x) hl rfl hlv))
theorem o_lstore_n {k : Fin 4} {x : Int64} {lv' : List (Nat × Value)} (hd : decode M.2.1 pc = .ok (.lstore_n k, 1)) (hn : (k : Nat) + 1 < M.2.2.1) (hl : hz_put lv (k : Nat) (.long x) = lv') (h : hz_Run G N N' M R (pc + 1) lv' (st) σ post) : hz_Run G N N' M R pc lv (.long x :: st) σ post := by
  intro N0 p e s m args below meth c H locs ls h0 C hS hz hP hlv
  exact lv_lstore_n C.1 C.2.1 hd rfl hlv hn rfl (fun ls hlv => h N0 p e s m args below meth c H locs ls h0 C hS hz hP (hz_put2 (v := .long x) hl rfl hlv))
theorem o_lstore {k : Nat} {x : Int64} {lv' : List (Nat × Value)} (hd : decode M.2.1 pc = .ok (.lstore k, 2)) (hn : (k : Nat) + 1 < M.2.2.1) (hl : hz_put lv (k : Nat) (.long x) = lv') (h : hz_Run G N N' M R (pc + 2) lv' (st) σ post) : hz_Run G N N' M R pc lv (.long x :: st) σ post := by
  intro N0 p e s m args below meth c H locs ls h0 C hS hz hP hlv
  exact lv_lstore C.1 C.2.1 hd hlv hn rfl (fun ls hlv => h N0 p e s m args below meth c H locs ls h0 C hS hz hP (hz_put2 (v := .long x) hl rfl hlv))
theorem o_astore_n {k : Fin 4} {x : Nat} {lv' : List (Nat × Value)} (hd : decode M.2.1 pc = .ok (.astore_n k, 1)) (hn : (k : Nat) < M.2.2.1) (hl : hz_put lv (k : Nat) (.ref x) = lv') (h : hz_Run G N N' M R (pc + 1) lv' (st) σ post) : hz_Run G N N' M R pc lv (.ref x :: st) σ post := by
  intro N0 p e s m args below meth c H locs ls h0 C hS hz hP hlv
  exact lv_astore_n C.1 C.2.1 hd rfl hlv hn rfl (fun ls hlv => h N0 p e s m args below meth c H locs ls h0 C hS hz hP (hz_put1 (v := .ref x) hl rfl hlv))
theorem o_astore {k : Nat} {x : Nat} {lv' : List (Nat × Value)} (hd : decode M.2.1 pc = .ok (.astore k, 2)) (hn : (k : Nat) < M.2.2.1) (hl : hz_put lv (k : Nat) (.ref x) = lv') (h : hz_Run G N N' M R (pc + 2) lv' (st) σ post) : hz_Run G N N' M R pc lv (.ref x :: st) σ post := by
  intro N0 p e s m args below meth c H locs ls h0 C hS hz hP hlv
  exact lv_astore C.1 C.2.1 hd hlv hn rfl (fun ls hlv => h N0 p e s m args below meth c H locs ls h0 C hS hz hP (hz_put1 (v := .ref x) hl rfl hlv))
theorem o_iinc {k : Nat} {n : Int} {x v : Int32} {lv' : List (Nat × Value)} (hd : decode M.2.1 pc = .ok (.iinc k n, 3)) (hl : lv.lookup k = some (.int x)) (hv : x + Int32.ofInt n = v) (hn : k < M.2.2.1) (hp : hz_put lv k (.int v) = lv') (h : hz_Run G N N' M R (pc + 3) lv' st σ post) : hz_Run G N N' M R pc lv st σ post := by
  intro N0 p e s m args below meth c H locs ls h0 C hS hz hP hlv
  have hm : ∀ (l : List (Nat × Value)), l.lookup k = some (.int x) → ∃ j : Nat, (l.map (hz_u2 G))[j]? = some (k, .int x) := by
    intro l
    induction l with
    | nil => intro h; cases h
    | cons a l ih =>
      intro h
      obtain ⟨a1, a2⟩ := a
      rw [List.lookup_cons] at h
      split at h
      · next e =>
        have : k = a1 := by simpa using e
        subst this
        cases h
        exact ⟨0, rfl⟩
      · obtain ⟨j, hj⟩ := ih h
        exact ⟨j + 1, hj⟩
  obtain ⟨j, hj⟩ := hm lv hl
  exact lv_iinc (k := j) C.1 C.2.1 hd hlv hj hv hn rfl (fun ls hlv => h N0 p e s m args below meth c H locs ls h0 C hS hz hP (hz_put1 (v := .int v) hp rfl hlv))
theorem o_iadd {x y : Int32} (hd : decode M.2.1 pc = .ok (.iadd, 1)) (h : hz_Run G N N' M R (pc + 1) lv (.int (x + y) :: st) σ post) : hz_Run G N N' M R pc lv (.int y :: .int x :: st) σ post := by
  intro N0 p e s m args below meth c H locs ls h0 C hS hz hP hlv
  exact lv_iadd C.1 C.2.1 hd (h N0 p e s m args below meth c H locs ls h0 C hS hz hP hlv)
theorem o_isub {x y : Int32} (hd : decode M.2.1 pc = .ok (.isub, 1)) (h : hz_Run G N N' M R (pc + 1) lv (.int (x - y) :: st) σ post) : hz_Run G N N' M R pc lv (.int y :: .int x :: st) σ post := by
  intro N0 p e s m args below meth c H locs ls h0 C hS hz hP hlv
  exact lv_isub C.1 C.2.1 hd (h N0 p e s m args below meth c H locs ls h0 C hS hz hP hlv)
theorem o_imul {x y : Int32} (hd : decode M.2.1 pc = .ok (.imul, 1)) (h : hz_Run G N N' M R (pc + 1) lv (.int (x * y) :: st) σ post) : hz_Run G N N' M R pc lv (.int y :: .int x :: st) σ post := by
  intro N0 p e s m args below meth c H locs ls h0 C hS hz hP hlv
  exact lv_imul C.1 C.2.1 hd (h N0 p e s m args below meth c H locs ls h0 C hS hz hP hlv)
theorem o_iand {x y : Int32} (hd : decode M.2.1 pc = .ok (.iand, 1)) (h : hz_Run G N N' M R (pc + 1) lv (.int (x &&& y) :: st) σ post) : hz_Run G N N' M R pc lv (.int y :: .int x :: st) σ post := by
  intro N0 p e s m args below meth c H locs ls h0 C hS hz hP hlv
  exact lv_iand C.1 C.2.1 hd (h N0 p e s m args below meth c H locs ls h0 C hS hz hP hlv)
theorem o_ior {x y : Int32} (hd : decode M.2.1 pc = .ok (.ior, 1)) (h : hz_Run G N N' M R (pc + 1) lv (.int (x ||| y) :: st) σ post) : hz_Run G N N' M R pc lv (.int y :: .int x :: st) σ post := by
  intro N0 p e s m args below meth c H locs ls h0 C hS hz hP hlv
  exact lv_ior C.1 C.2.1 hd (h N0 p e s m args below meth c H locs ls h0 C hS hz hP hlv)
theorem o_ixor {x y : Int32} (hd : decode M.2.1 pc = .ok (.ixor, 1)) (h : hz_Run G N N' M R (pc + 1) lv (.int (x ^^^ y) :: st) σ post) : hz_Run G N N' M R pc lv (.int y :: .int x :: st) σ post := by
  intro N0 p e s m args below meth c H locs ls h0 C hS hz hP hlv
  exact lv_ixor C.1 C.2.1 hd (h N0 p e s m args below meth c H locs ls h0 C hS hz hP hlv)
theorem o_ishl {x y : Int32} (hd : decode M.2.1 pc = .ok (.ishl, 1)) (h : hz_Run G N N' M R (pc + 1) lv (.int (x <<< (y &&& 31)) :: st) σ post) : hz_Run G N N' M R pc lv (.int y :: .int x :: st) σ post := by
  intro N0 p e s m args below meth c H locs ls h0 C hS hz hP hlv
  exact lv_ishl C.1 C.2.1 hd (h N0 p e s m args below meth c H locs ls h0 C hS hz hP hlv)
theorem o_ishr {x y : Int32} (hd : decode M.2.1 pc = .ok (.ishr, 1)) (h : hz_Run G N N' M R (pc + 1) lv (.int (x >>> (y &&& 31)) :: st) σ post) : hz_Run G N N' M R pc lv (.int y :: .int x :: st) σ post := by
  intro N0 p e s m args below meth c H locs ls h0 C hS hz hP hlv
  exact lv_ishr C.1 C.2.1 hd (h N0 p e s m args below meth c H locs ls h0 C hS hz hP hlv)
theorem o_iushr {x y : Int32} (hd : decode M.2.1 pc = .ok (.iushr, 1)) (h : hz_Run G N N' M R (pc + 1) lv (.int (x.toUInt32 >>> (y.toUInt32 &&& Int32.toUInt32 31)).toInt32 :: st) σ post) : hz_Run G N N' M R pc lv (.int y :: .int x :: st) σ post := by
  intro N0 p e s m args below meth c H locs ls h0 C hS hz hP hlv
  exact lv_iushr C.1 C.2.1 hd rfl (h N0 p e s m args below meth c H locs ls h0 C hS hz hP hlv)
theorem o_idiv {x y : Int32} (hd : decode M.2.1 pc = .ok (.idiv, 1)) (hy : ¬ y = 0) (h : hz_Run G N N' M R (pc + 1) lv (.int (x / y) :: st) σ post) : hz_Run G N N' M R pc lv (.int y :: .int x :: st) σ post := by
  intro N0 p e s m args below meth c H locs ls h0 C hS hz hP hlv
  exact lv_idiv C.1 C.2.1 hd hy (h N0 p e s m args below meth c H locs ls h0 C hS hz hP hlv)
theorem o_irem {x y : Int32} (hd : decode M.2.1 pc = .ok (.irem, 1)) (hy : ¬ y = 0) (h : hz_Run G N N' M R (pc + 1) lv (.int (x - x / y * y) :: st) σ post) : hz_Run G N N' M R pc lv (.int y :: .int x :: st) σ post := by
  intro N0 p e s m args below meth c H locs ls h0 C hS hz hP hlv
  exact lv_irem C.1 C.2.1 hd hy (h N0 p e s m args below meth c H locs ls h0 C hS hz hP hlv)
theorem o_ldiv {x y : Int64} (hd : decode M.2.1 pc = .ok (.ldiv, 1)) (hy : ¬ y = 0) (h : hz_Run G N N' M R (pc + 1) lv (.long (x / y) :: st) σ post) : hz_Run G N N' M R pc lv (.long y :: .long x :: st) σ post := by
  intro N0 p e s m args below meth c H locs ls h0 C hS hz hP hlv
  exact lv_ldiv C.1 C.2.1 hd hy (h N0 p e s m args below meth c H locs ls h0 C hS hz hP hlv)
theorem o_lrem {x y : Int64} (hd : decode M.2.1 pc = .ok (.lrem, 1)) (hy : ¬ y = 0) (h : hz_Run G N N' M R (pc + 1) lv (.long (x - x / y * y) :: st) σ post) : hz_Run G N N' M R pc lv (.long y :: .long x :: st) σ post := by
  intro N0 p e s m args below meth c H locs ls h0 C hS hz hP hlv
  exact lv_lrem C.1 C.2.1 hd hy (h N0 p e s m args below meth c H locs ls h0 C hS hz hP hlv)
theorem o_ladd {x y : Int64} (hd : decode M.2.1 pc = .ok (.ladd, 1)) (h : hz_Run G N N' M R (pc + 1) lv (.long (x + y) :: st) σ post) : hz_Run G N N' M R pc lv (.long y :: .long x :: st) σ post := by
  intro N0 p e s m args below meth c H locs ls h0 C hS hz hP hlv
  exact lv_ladd C.1 C.2.1 hd (h N0 p e s m args below meth c H locs ls h0 C hS hz hP hlv)
theorem o_lsub {x y : Int64} (hd : decode M.2.1 pc = .ok (.lsub, 1)) (h : hz_Run G N N' M R (pc + 1) lv (.long (x - y) :: st) σ post) : hz_Run G N N' M R pc lv (.long y :: .long x :: st) σ post := by
  intro N0 p e s m args below meth c H locs ls h0 C hS hz hP hlv
  exact lv_lsub C.1 C.2.1 hd (h N0 p e s m args below meth c H locs ls h0 C hS hz hP hlv)
theorem o_lmul {x y : Int64} (hd : decode M.2.1 pc = .ok (.lmul, 1)) (h : hz_Run G N N' M R (pc + 1) lv (.long (x * y) :: st) σ post) : hz_Run G N N' M R pc lv (.long y :: .long x :: st) σ post := by
  intro N0 p e s m args below meth c H locs ls h0 C hS hz hP hlv
  exact lv_lmul C.1 C.2.1 hd (h N0 p e s m args below meth c H locs ls h0 C hS hz hP hlv)
theorem o_land {x y : Int64} (hd : decode M.2.1 pc = .ok (.land, 1)) (h : hz_Run G N N' M R (pc + 1) lv (.long (x &&& y) :: st) σ post) : hz_Run G N N' M R pc lv (.long y :: .long x :: st) σ post := by
  intro N0 p e s m args below meth c H locs ls h0 C hS hz hP hlv
  exact lv_land C.1 C.2.1 hd (h N0 p e s m args below meth c H locs ls h0 C hS hz hP hlv)
theorem o_lor {x y : Int64} (hd : decode M.2.1 pc = .ok (.lor, 1)) (h : hz_Run G N N' M R (pc + 1) lv (.long (x ||| y) :: st) σ post) : hz_Run G N N' M R pc lv (.long y :: .long x :: st) σ post := by
  intro N0 p e s m args below meth c H locs ls h0 C hS hz hP hlv
  exact lv_lor C.1 C.2.1 hd (h N0 p e s m args below meth c H locs ls h0 C hS hz hP hlv)
theorem o_lxor {x y : Int64} (hd : decode M.2.1 pc = .ok (.lxor, 1)) (h : hz_Run G N N' M R (pc + 1) lv (.long (x ^^^ y) :: st) σ post) : hz_Run G N N' M R pc lv (.long y :: .long x :: st) σ post := by
  intro N0 p e s m args below meth c H locs ls h0 C hS hz hP hlv
  exact lv_lxor C.1 C.2.1 hd (h N0 p e s m args below meth c H locs ls h0 C hS hz hP hlv)
theorem o_lushr {x : Int64} {y : Int32} (hd : decode M.2.1 pc = .ok (.lushr, 1)) (h : hz_Run G N N' M R (pc + 1) lv (.long ((x.toUInt64 >>> (y.toInt64.toUInt64 &&& Int64.toUInt64 63)).toInt64) :: st) σ post) : hz_Run G N N' M R pc lv (.int y :: .long x :: st) σ post := by
  intro N0 p e s m args below meth c H locs ls h0 C hS hz hP hlv
  exact lv_lushr C.1 C.2.1 hd rfl (h N0 p e s m args below meth c H locs ls h0 C hS hz hP hlv)
theorem o_lshl {x : Int64} {y : Int32} (hd : decode M.2.1 pc = .ok (.lshl, 1)) (h : hz_Run G N N' M R (pc + 1) lv (.long (x <<< (y.toInt64 &&& 63)) :: st) σ post) : hz_Run G N N' M R pc lv (.int y :: .long x :: st) σ post := by
  intro N0 p e s m args below meth c H locs ls h0 C hS hz hP hlv
  exact lv_lshl C.1 C.2.1 hd rfl (h N0 p e s m args below meth c H locs ls h0 C hS hz hP hlv)
theorem o_lshr {x : Int64} {y : Int32} (hd : decode M.2.1 pc = .ok (.lshr, 1)) (h : hz_Run G N N' M R (pc + 1) lv (.long (x >>> (y.toInt64 &&& 63)) :: st) σ post) : hz_Run G N N' M R pc lv (.int y :: .long x :: st) σ post := by
  intro N0 p e s m args below meth c H locs ls h0 C hS hz hP hlv
  exact lv_lshr C.1 C.2.1 hd rfl (h N0 p e s m args below meth c H locs ls h0 C hS hz hP hlv)
theorem o_ineg {x : Int32} (hd : decode M.2.1 pc = .ok (.ineg, 1)) (h : hz_Run G N N' M R (pc + 1) lv (.int (-x) :: st) σ post) : hz_Run G N N' M R pc lv (.int x :: st) σ post := by
  intro N0 p e s m args below meth c H locs ls h0 C hS hz hP hlv
  exact lv_ineg C.1 C.2.1 hd (h N0 p e s m args below meth c H locs ls h0 C hS hz hP hlv)
theorem o_lneg {x : Int64} (hd : decode M.2.1 pc = .ok (.lneg, 1)) (h : hz_Run G N N' M R (pc + 1) lv (.long (-x) :: st) σ post) : hz_Run G N N' M R pc lv (.long x :: st) σ post := by
  intro N0 p e s m args below meth c H locs ls h0 C hS hz hP hlv
  exact lv_lneg C.1 C.2.1 hd (h N0 p e s m args below meth c H locs ls h0 C hS hz hP hlv)
theorem o_i2l {x : Int32} (hd : decode M.2.1 pc = .ok (.i2l, 1)) (h : hz_Run G N N' M R (pc + 1) lv (.long x.toInt64 :: st) σ post) : hz_Run G N N' M R pc lv (.int x :: st) σ post := by
  intro N0 p e s m args below meth c H locs ls h0 C hS hz hP hlv
  exact lv_i2l C.1 C.2.1 hd rfl (h N0 p e s m args below meth c H locs ls h0 C hS hz hP hlv)
theorem o_l2i {x : Int64} (hd : decode M.2.1 pc = .ok (.l2i, 1)) (h : hz_Run G N N' M R (pc + 1) lv (.int x.toInt32 :: st) σ post) : hz_Run G N N' M R pc lv (.long x :: st) σ post := by
  intro N0 p e s m args below meth c H locs ls h0 C hS hz hP hlv
  exact lv_l2i C.1 C.2.1 hd rfl (h N0 p e s m args below meth c H locs ls h0 C hS hz hP hlv)
theorem o_i2b {x : Int32} (hd : decode M.2.1 pc = .ok (.i2b, 1)) (h : hz_Run G N N' M R (pc + 1) lv (.int x.toInt8.toInt32 :: st) σ post) : hz_Run G N N' M R pc lv (.int x :: st) σ post := by
  intro N0 p e s m args below meth c H locs ls h0 C hS hz hP hlv
  exact lv_i2b C.1 C.2.1 hd rfl (h N0 p e s m args below meth c H locs ls h0 C hS hz hP hlv)
theorem o_i2s {x : Int32} (hd : decode M.2.1 pc = .ok (.i2s, 1)) (h : hz_Run G N N' M R (pc + 1) lv (.int x.toInt16.toInt32 :: st) σ post) : hz_Run G N N' M R pc lv (.int x :: st) σ post := by
  intro N0 p e s m args below meth c H locs ls h0 C hS hz hP hlv
  exact lv_i2s C.1 C.2.1 hd rfl (h N0 p e s m args below meth c H locs ls h0 C hS hz hP hlv)
theorem o_lcmp {x y : Int64} (hd : decode M.2.1 pc = .ok (.lcmp, 1)) (h : hz_Run G N N' M R (pc + 1) lv (.int (lg_cmp x y) :: st) σ post) : hz_Run G N N' M R pc lv (.long y :: .long x :: st) σ post := by
  intro N0 p e s m args below meth c H locs ls h0 C hS hz hP hlv
  exact W.lcmp C.1 C.2.1 hd (h N0 p e s m args below meth c H locs ls h0 C hS hz hP hlv)
theorem o_dup {v : Value} (hd : decode M.2.1 pc = .ok (.dup, 1)) (hv : v.category = 1) (h : hz_Run G N N' M R (pc + 1) lv (v :: v :: st) σ post) : hz_Run G N N' M R pc lv (v :: st) σ post := by
  intro N0 p e s m args below meth c H locs ls h0 C hS hz hP hlv
  exact lv_dup C.1 C.2.1 hd (by rw [hz_up_cat]; exact hv) (h N0 p e s m args below meth c H locs ls h0 C hS hz hP hlv)
theorem o_pop {v : Value} (hd : decode M.2.1 pc = .ok (.pop, 1)) (hv : v.category = 1) (h : hz_Run G N N' M R (pc + 1) lv (st) σ post) : hz_Run G N N' M R pc lv (v :: st) σ post := by
  intro N0 p e s m args below meth c H locs ls h0 C hS hz hP hlv
  exact lv_pop C.1 C.2.1 hd (by rw [hz_up_cat]; exact hv) (h N0 p e s m args below meth c H locs ls h0 C hS hz hP hlv)
theorem o_dup2 {u v : Value} (hd : decode M.2.1 pc = .ok (.dup2, 1)) (hu : u.category = 1) (hv : v.category = 1) (h : hz_Run G N N' M R (pc + 1) lv (u :: v :: u :: v :: st) σ post) : hz_Run G N N' M R pc lv (u :: v :: st) σ post := by
  intro N0 p e s m args below meth c H locs ls h0 C hS hz hP hlv
  exact lv_dup2_11 C.1 C.2.1 hd (by rw [hz_up_cat]; exact hu) (by rw [hz_up_cat]; exact hv) (h N0 p e s m args below meth c H locs ls h0 C hS hz hP hlv)
theorem o_if_eq {x : Int32} {off : Int} {tgt : Nat} (hd : decode M.2.1 pc = .ok (.ifCond .eq off, 3)) (ht : (pc : Int) + off = (tgt : Int)) (h1 : x = 0 → hz_Run G N N' M R (tgt) lv (st) σ post) (h2 : ¬ x = 0 → hz_Run G N N' M R (pc + 3) lv (st) σ post) : hz_Run G N N' M R pc lv (.int x :: st) σ post := by
  intro N0 p e s m args below meth c H locs ls h0 C hS hz hP hlv
  exact lv_if_eq C.1 C.2.1 hd ht (fun q => h1 q N0 p e s m args below meth c H locs ls h0 C hS hz hP hlv) (fun q => h2 q N0 p e s m args below meth c H locs ls h0 C hS hz hP hlv)
theorem o_icmp_eq {x y : Int32} {off : Int} {tgt : Nat} (hd : decode M.2.1 pc = .ok (.if_icmp .eq off, 3)) (ht : (pc : Int) + off = (tgt : Int)) (h1 : x = y → hz_Run G N N' M R (tgt) lv (st) σ post) (h2 : ¬ x = y → hz_Run G N N' M R (pc + 3) lv (st) σ post) : hz_Run G N N' M R pc lv (.int y :: .int x :: st) σ post := by
  intro N0 p e s m args below meth c H locs ls h0 C hS hz hP hlv
  exact lv_icmp_eq C.1 C.2.1 hd ht (fun q => h1 q N0 p e s m args below meth c H locs ls h0 C hS hz hP hlv) (fun q => h2 q N0 p e s m args below meth c H locs ls h0 C hS hz hP hlv)
theorem o_if_ne {x : Int32} {off : Int} {tgt : Nat} (hd : decode M.2.1 pc = .ok (.ifCond .ne off, 3)) (ht : (pc : Int) + off = (tgt : Int)) (h1 : ¬ x = 0 → hz_Run G N N' M R (tgt) lv (st) σ post) (h2 : x = 0 → hz_Run G N N' M R (pc + 3) lv (st) σ post) : hz_Run G N N' M R pc lv (.int x :: st) σ post := by
  intro N0 p e s m args below meth c H locs ls h0 C hS hz hP hlv
  exact lv_if_ne C.1 C.2.1 hd ht (fun q => h1 q N0 p e s m args below meth c H locs ls h0 C hS hz hP hlv) (fun q => h2 q N0 p e s m args below meth c H locs ls h0 C hS hz hP hlv)
theorem o_icmp_ne {x y : Int32} {off : Int} {tgt : Nat} (hd : decode M.2.1 pc = .ok (.if_icmp .ne off, 3)) (ht : (pc : Int) + off = (tgt : Int)) (h1 : ¬ x = y → hz_Run G N N' M R (tgt) lv (st) σ post) (h2 : x = y → hz_Run G N N' M R (pc + 3) lv (st) σ post) : hz_Run G N N' M R pc lv (.int y :: .int x :: st) σ post := by
  intro N0 p e s m args below meth c H locs ls h0 C hS hz hP hlv
  exact lv_icmp_ne C.1 C.2.1 hd ht (fun q => h1 q N0 p e s m args below meth c H locs ls h0 C hS hz hP hlv) (fun q => h2 q N0 p e s m args below meth c H locs ls h0 C hS hz hP hlv)
theorem o_if_lt {x : Int32} {off : Int} {tgt : Nat} (hd : decode M.2.1 pc = .ok (.ifCond .lt off, 3)) (ht : (pc : Int) + off = (tgt : Int)) (h1 : x < 0 → hz_Run G N N' M R (tgt) lv (st) σ post) (h2 : ¬ x < 0 → hz_Run G N N' M R (pc + 3) lv (st) σ post) : hz_Run G N N' M R pc lv (.int x :: st) σ post := by
  intro N0 p e s m args below meth c H locs ls h0 C hS hz hP hlv
  exact lv_if_lt C.1 C.2.1 hd ht (fun q => h1 q N0 p e s m args below meth c H locs ls h0 C hS hz hP hlv) (fun q => h2 q N0 p e s m args below meth c H locs ls h0 C hS hz hP hlv)
theorem o_icmp_lt {x y : Int32} {off : Int} {tgt : Nat} (hd : decode M.2.1 pc = .ok (.if_icmp .lt off, 3)) (ht : (pc : Int) + off = (tgt : Int)) (h1 : x < y → hz_Run G N N' M R (tgt) lv (st) σ post) (h2 : ¬ x < y → hz_Run G N N' M R (pc + 3) lv (st) σ post) : hz_Run G N N' M R pc lv (.int y :: .int x :: st) σ post := by
  intro N0 p e s m args below meth c H locs ls h0 C hS hz hP hlv
  exact lv_icmp_lt C.1 C.2.1 hd ht (fun q => h1 q N0 p e s m args below meth c H locs ls h0 C hS hz hP hlv) (fun q => h2 q N0 p e s m args below meth c H locs ls h0 C hS hz hP hlv)
theorem o_if_ge {x : Int32} {off : Int} {tgt : Nat} (hd : decode M.2.1 pc = .ok (.ifCond .ge off, 3)) (ht : (pc : Int) + off = (tgt : Int)) (h1 : 0 ≤ x → hz_Run G N N' M R (tgt) lv (st) σ post) (h2 : ¬ 0 ≤ x → hz_Run G N N' M R (pc + 3) lv (st) σ post) : hz_Run G N N' M R pc lv (.int x :: st) σ post := by
  intro N0 p e s m args below meth c H locs ls h0 C hS hz hP hlv
  exact lv_if_ge C.1 C.2.1 hd ht (fun q => h1 q N0 p e s m args below meth c H locs ls h0 C hS hz hP hlv) (fun q => h2 q N0 p e s m args below meth c H locs ls h0 C hS hz hP hlv)
theorem o_icmp_ge {x y : Int32} {off : Int} {tgt : Nat} (hd : decode M.2.1 pc = .ok (.if_icmp .ge off, 3)) (ht : (pc : Int) + off = (tgt : Int)) (h1 : y ≤ x → hz_Run G N N' M R (tgt) lv (st) σ post) (h2 : ¬ y ≤ x → hz_Run G N N' M R (pc + 3) lv (st) σ post) : hz_Run G N N' M R pc lv (.int y :: .int x :: st) σ post := by
  intro N0 p e s m args below meth c H locs ls h0 C hS hz hP hlv
  exact lv_icmp_ge C.1 C.2.1 hd ht (fun q => h1 q N0 p e s m args below meth c H locs ls h0 C hS hz hP hlv) (fun q => h2 q N0 p e s m args below meth c H locs ls h0 C hS hz hP hlv)
theorem o_if_gt {x : Int32} {off : Int} {tgt : Nat} (hd : decode M.2.1 pc = .ok (.ifCond .gt off, 3)) (ht : (pc : Int) + off = (tgt : Int)) (h1 : 0 < x → hz_Run G N N' M R (tgt) lv (st) σ post) (h2 : ¬ 0 < x → hz_Run G N N' M R (pc + 3) lv (st) σ post) : hz_Run G N N' M R pc lv (.int x :: st) σ post := by
  intro N0 p e s m args below meth c H locs ls h0 C hS hz hP hlv
  exact lv_if_gt C.1 C.2.1 hd ht (fun q => h1 q N0 p e s m args below meth c H locs ls h0 C hS hz hP hlv) (fun q => h2 q N0 p e s m args below meth c H locs ls h0 C hS hz hP hlv)
theorem o_icmp_gt {x y : Int32} {off : Int} {tgt : Nat} (hd : decode M.2.1 pc = .ok (.if_icmp .gt off, 3)) (ht : (pc : Int) + off = (tgt : Int)) (h1 : y < x → hz_Run G N N' M R (tgt) lv (st) σ post) (h2 : ¬ y < x → hz_Run G N N' M R (pc + 3) lv (st) σ post) : hz_Run G N N' M R pc lv (.int y :: .int x :: st) σ post := by
  intro N0 p e s m args below meth c H locs ls h0 C hS hz hP hlv
  exact lv_icmp_gt C.1 C.2.1 hd ht (fun q => h1 q N0 p e s m args below meth c H locs ls h0 C hS hz hP hlv) (fun q => h2 q N0 p e s m args below meth c H locs ls h0 C hS hz hP hlv)
theorem o_if_le {x : Int32} {off : Int} {tgt : Nat} (hd : decode M.2.1 pc = .ok (.ifCond .le off, 3)) (ht : (pc : Int) + off = (tgt : Int)) (h1 : x ≤ 0 → hz_Run G N N' M R (tgt) lv (st) σ post) (h2 : ¬ x ≤ 0 → hz_Run G N N' M R (pc + 3) lv (st) σ post) : hz_Run G N N' M R pc lv (.int x :: st) σ post := by
  intro N0 p e s m args below meth c H locs ls h0 C hS hz hP hlv
  exact lv_if_le C.1 C.2.1 hd ht (fun q => h1 q N0 p e s m args below meth c H locs ls h0 C hS hz hP hlv) (fun q => h2 q N0 p e s m args below meth c H locs ls h0 C hS hz hP hlv)
theorem o_icmp_le {x y : Int32} {off : Int} {tgt : Nat} (hd : decode M.2.1 pc = .ok (.if_icmp .le off, 3)) (ht : (pc : Int) + off = (tgt : Int)) (h1 : x ≤ y → hz_Run G N N' M R (tgt) lv (st) σ post) (h2 : ¬ x ≤ y → hz_Run G N N' M R (pc + 3) lv (st) σ post) : hz_Run G N N' M R pc lv (.int y :: .int x :: st) σ post := by
  intro N0 p e s m args below meth c H locs ls h0 C hS hz hP hlv
  exact lv_icmp_le C.1 C.2.1 hd ht (fun q => h1 q N0 p e s m args below meth c H locs ls h0 C hS hz hP hlv) (fun q => h2 q N0 p e s m args below meth c H locs ls h0 C hS hz hP hlv)
theorem o_goto {off : Int} {tgt : Nat} (hd : decode M.2.1 pc = .ok (.goto off, 3)) (ht : (pc : Int) + off = (tgt : Int)) (h : hz_Run G N N' M R (tgt) lv (st) σ post) : hz_Run G N N' M R pc lv (st) σ post := by
  intro N0 p e s m args below meth c H locs ls h0 C hS hz hP hlv
  exact lv_goto C.1 C.2.1 hd ht (h N0 p e s m args below meth c H locs ls h0 C hS hz hP hlv)
theorem o_lookup {dflt : Int} {ps : Array (Int × Int)} {len : Nat} {x : Int32} {off : Int} {tgt : Nat} (hd : decode M.2.1 pc = .ok (.lookupswitch dflt ps, len)) (hp : (ps.toList.zip (ps.toList.drop 1)).all (fun (a, next) => a.1 < next.1) = true) (ho : Op.lookupswitch.offset ps.toList dflt x.toInt = off) (ht : (pc : Int) + off = (tgt : Int)) (h : hz_Run G N N' M R (tgt) lv (st) σ post) : hz_Run G N N' M R pc lv (.int x :: st) σ post := by
  intro N0 p e s m args below meth c H locs ls h0 C hS hz hP hlv
  exact lv_lookup C.1 C.2.1 hd hp ho ht (h N0 p e s m args below meth c H locs ls h0 C hS hz hP hlv)
theorem o_tableOut {dflt lo hi : Int} {offs : Array Int} {len : Nat} {x : Int32} {tgt : Nat} (hd : decode M.2.1 pc = .ok (.tableswitch dflt lo hi offs, len)) (hx : x.toInt < lo ∨ hi < x.toInt) (ht : (pc : Int) + dflt = (tgt : Int)) (h : hz_Run G N N' M R (tgt) lv (st) σ post) : hz_Run G N N' M R pc lv (.int x :: st) σ post := by
  intro N0 p e s m args below meth c H locs ls h0 C hS hz hP hlv
  exact lv_tableOut C.1 C.2.1 hd hx ht (h N0 p e s m args below meth c H locs ls h0 C hS hz hP hlv)
theorem o_tableIn {dflt lo hi : Int} {offs : Array Int} {len : Nat} {x : Int32} {off : Int} {tgt : Nat} (hd : decode M.2.1 pc = .ok (.tableswitch dflt lo hi offs, len)) (h1 : ¬ x.toInt < lo) (h2 : ¬ hi < x.toInt) (ho : offs[(x.toInt - lo).toNat]? = some off) (ht : (pc : Int) + off = (tgt : Int)) (h : hz_Run G N N' M R (tgt) lv (st) σ post) : hz_Run G N N' M R pc lv (.int x :: st) σ post := by
  intro N0 p e s m args below meth c H locs ls h0 C hS hz hP hlv
  exact lv_tableIn C.1 C.2.1 hd h1 h2 ho ht (h N0 p e s m args below meth c H locs ls h0 C hS hz hP hlv)
end HZ

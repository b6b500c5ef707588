/-! ===== the rules ===== -/
def zrf : Value → Bool
  | .ref _ => true
  | .retAddr _ => true
  | .null => true
  | _ => false
/-- a local set; a long's second half before it is forgotten -/
def zset (L : List Value) (i : Nat) (v : Value) : List Value := (match i with
  | 0 => L
  | j + 1 => if (L.getD j .null).category = 2 then L.set j (.float 0) else L).set i v
def zset2 (L : List Value) (i : Nat) (v : Value) : List Value := (zset L i v).set (i + 1) (.float 0)
def zlv (G : zG) (L : List Value) : List (Nat × Value) := (List.range L.length).filterMap fun i => match L[i]? with
  | some v => if v = .float 0 then none else some (i, zv G v)
  | none => none
theorem zlv_in {G : zG} {L : List Value} {i : Nat} {v : Value} (h : L[i]? = some v) (h0 : v ≠ .float 0) : (i, zv G v) ∈ zlv G L := by
  refine List.mem_filterMap.mpr ⟨i, List.mem_range.mpr (List.getElem?_eq_some_iff.mp h).1, ?_⟩
  simp [h, h0]
theorem zls_has {G : zG} {ls : Array Slot} {nL : Nat} {L : List Value} (h : zls G ls nL L) : lv_has ls nL (zlv G L) := by
  refine ⟨h.1, h.2.1, fun q hq => ?_⟩
  obtain ⟨i, -, hi⟩ := List.mem_filterMap.mp hq
  cases hv : L[i]? with
  | none => rw [hv] at hi; cases hi
  | some v =>
    rw [hv] at hi
    by_cases h0 : v = .float 0
    · simp [h0] at hi
    · simp only [h0, if_false, Option.some.injEq] at hi
      subst hi
      exact h.2.2 i v hv h0
theorem zls_has' {G : zG} {ls : Array Slot} {nL : Nat} {L : List Value} {i : Nat} {v : Value} (h : zls G ls nL L) (hi : L[i]? = some v) (h0 : v ≠ .float 0) : lv_has ls nL ((i, zv G v) :: zlv G L) := by
  refine ⟨h.1, h.2.1, fun q hq => ?_⟩
  rcases List.mem_cons.mp hq with rfl | hq
  · exact h.2.2 i v hi h0
  · exact (zls_has h).2.2 q hq
theorem zset_at {L : List Value} {i j : Nat} {v w : Value} (h : (zset L i v)[j]? = some w) (h0 : w ≠ .float 0) : (j = i ∧ w = v) ∨ (j ≠ i ∧ L[j]? = some w ∧ ¬ (j + 1 = i ∧ w.category = 2)) := by
  unfold zset at h
  by_cases hj : j = i
  · subst hj
    left
    have aux : ∀ M : List Value, (M.set j v)[j]? = some w → w = v := by
      intro M hM
      rw [List.getElem?_set] at hM
      simp only [if_true] at hM
      split at hM
      · exact (Option.some.inj hM).symm
      · cases hM
    exact ⟨rfl, aux _ h⟩
  · right
    rw [List.getElem?_set_ne (Ne.symm hj)] at h
    refine ⟨hj, ?_⟩
    cases i with
    | zero => exact ⟨h, by omega⟩
    | succ i =>
      dsimp only at h
      by_cases hc : (L.getD i .null).category = 2
      · rw [if_pos hc] at h
        by_cases hji : j = i
        · subst hji
          rw [List.getElem?_set] at h
          simp only [if_true] at h
          split at h
          · exact absurd (Option.some.inj h).symm h0
          · cases h
        · rw [List.getElem?_set_ne (Ne.symm hji)] at h
          exact ⟨h, by omega⟩
      · rw [if_neg hc] at h
        refine ⟨h, fun ⟨z1, z2⟩ => hc ?_⟩
        have : j = i := by omega
        subst this
        rw [List.getD_eq_getElem?_getD, h]
        exact z2
theorem zls_st {G : zG} {ls ls' : Array Slot} {nL i : Nat} {L : List Value} {v : Value} (h : zls G ls nL L) (_hv : v.category = 1) (h' : lv_has ls' nL ((i, zv G v) :: (zlv G L).filter (fun q => !(q.1 == i) && !(q.1 + 1 == i && q.2.category == 2)))) : zls G ls' nL (zset L i v) := by
  refine ⟨h'.1, h'.2.1, fun j w hj h0 => ?_⟩
  rcases zset_at hj h0 with ⟨rfl, rfl⟩ | ⟨h1, h2, h3⟩
  · exact h'.2.2 _ List.mem_cons_self
  · refine h'.2.2 (j, zv G w) (List.mem_cons_of_mem _ (List.mem_filter.mpr ⟨zlv_in h2 h0, ?_⟩))
    have hc : (zv G w).category = w.category := zv_cat G w (Or.inr trivial)
    have : ¬ (j + 1 = i ∧ (zv G w).category = 2) := by rw [hc]; exact h3
    simp only [Bool.and_eq_true, Bool.not_eq_true', beq_eq_false_iff_ne, ne_eq, h1, not_false_eq_true, true_and, Bool.and_eq_false_imp, beq_iff_eq]
    exact fun z z2 => this ⟨z, z2⟩
theorem zls_st2 {G : zG} {ls ls' : Array Slot} {nL i : Nat} {L : List Value} {v : Value} (h' : zls G ls nL L) (h : lv_has ls' nL ((i, zv G v) :: (zlv G L).filter (fun q => !(q.1 == i) && (!(q.1 == i + 1) && !(q.1 + 1 == i && q.2.category == 2))))) : zls G ls' nL (zset2 L i v) := by
  refine ⟨h.1, h.2.1, fun j w hj h0 => ?_⟩
  unfold zset2 at hj
  by_cases hji : j = i + 1
  · subst hji
    rw [List.getElem?_set] at hj
    simp only [if_true] at hj
    split at hj
    · exact absurd (Option.some.inj hj).symm h0
    · cases hj
  · rw [List.getElem?_set_ne (Ne.symm hji)] at hj
    rcases zset_at hj h0 with ⟨rfl, rfl⟩ | ⟨h1, h2, h3⟩
    · exact h.2.2 _ List.mem_cons_self
    · refine h.2.2 (j, zv G w) (List.mem_cons_of_mem _ (List.mem_filter.mpr ⟨zlv_in h2 h0, ?_⟩))
      have hc : (zv G w).category = w.category := zv_cat G w (Or.inr trivial)
      have : ¬ (j + 1 = i ∧ (zv G w).category = 2) := by rw [hc]; exact h3
      simp only [Bool.and_eq_true, Bool.not_eq_true', beq_eq_false_iff_ne, ne_eq, h1, hji, not_false_eq_true, true_and, Bool.and_eq_false_imp, beq_iff_eq]
      exact fun z z2 => this ⟨z, z2⟩
theorem x_iadd {G : zG} {M : zM} {mc ms : Nat} {κ : zK} {ck cn pc : Nat} {L st : List Value} {h : zH} (C : zCx G M mc ms κ) {x y : Int32} (hd : decode M.2.1 pc = .ok (.iadd, 1)) (kk : zW G M mc ms κ ck cn (pc + 1) L (.int (x + y) :: st) h) : zW G M mc ms κ ck cn pc L (.int y :: .int x :: st) h := by
  obtain ⟨p, l, e, s, m, args, below, meth, c, Q⟩ := κ
  obtain ⟨hx, hb, hml, hown, hts, hF, hG⟩ := C
  intro H locs ls hsim hS hl
  exact lv_iadd hx hb hd (kk H locs ls hsim hS hl)
theorem x_isub {G : zG} {M : zM} {mc ms : Nat} {κ : zK} {ck cn pc : Nat} {L st : List Value} {h : zH} (C : zCx G M mc ms κ) {x y : Int32} (hd : decode M.2.1 pc = .ok (.isub, 1)) (kk : zW G M mc ms κ ck cn (pc + 1) L (.int (x - y) :: st) h) : zW G M mc ms κ ck cn pc L (.int y :: .int x :: st) h := by
  obtain ⟨p, l, e, s, m, args, below, meth, c, Q⟩ := κ
  obtain ⟨hx, hb, hml, hown, hts, hF, hG⟩ := C
  intro H locs ls hsim hS hl
  exact lv_isub hx hb hd (kk H locs ls hsim hS hl)
theorem x_imul {G : zG} {M : zM} {mc ms : Nat} {κ : zK} {ck cn pc : Nat} {L st : List Value} {h : zH} (C : zCx G M mc ms κ) {x y : Int32} (hd : decode M.2.1 pc = .ok (.imul, 1)) (kk : zW G M mc ms κ ck cn (pc + 1) L (.int (x * y) :: st) h) : zW G M mc ms κ ck cn pc L (.int y :: .int x :: st) h := by
  obtain ⟨p, l, e, s, m, args, below, meth, c, Q⟩ := κ
  obtain ⟨hx, hb, hml, hown, hts, hF, hG⟩ := C
  intro H locs ls hsim hS hl
  exact lv_imul hx hb hd (kk H locs ls hsim hS hl)
theorem x_iand {G : zG} {M : zM} {mc ms : Nat} {κ : zK} {ck cn pc : Nat} {L st : List Value} {h : zH} (C : zCx G M mc ms κ) {x y : Int32} (hd : decode M.2.1 pc = .ok (.iand, 1)) (kk : zW G M mc ms κ ck cn (pc + 1) L (.int (x &&& y) :: st) h) : zW G M mc ms κ ck cn pc L (.int y :: .int x :: st) h := by
  obtain ⟨p, l, e, s, m, args, below, meth, c, Q⟩ := κ
  obtain ⟨hx, hb, hml, hown, hts, hF, hG⟩ := C
  intro H locs ls hsim hS hl
  exact lv_iand hx hb hd (kk H locs ls hsim hS hl)
theorem x_ior {G : zG} {M : zM} {mc ms : Nat} {κ : zK} {ck cn pc : Nat} {L st : List Value} {h : zH} (C : zCx G M mc ms κ) {x y : Int32} (hd : decode M.2.1 pc = .ok (.ior, 1)) (kk : zW G M mc ms κ ck cn (pc + 1) L (.int (x ||| y) :: st) h) : zW G M mc ms κ ck cn pc L (.int y :: .int x :: st) h := by
  obtain ⟨p, l, e, s, m, args, below, meth, c, Q⟩ := κ
  obtain ⟨hx, hb, hml, hown, hts, hF, hG⟩ := C
  intro H locs ls hsim hS hl
  exact lv_ior hx hb hd (kk H locs ls hsim hS hl)
theorem x_ixor {G : zG} {M : zM} {mc ms : Nat} {κ : zK} {ck cn pc : Nat} {L st : List Value} {h : zH} (C : zCx G M mc ms κ) {x y : Int32} (hd : decode M.2.1 pc = .ok (.ixor, 1)) (kk : zW G M mc ms κ ck cn (pc + 1) L (.int (x ^^^ y) :: st) h) : zW G M mc ms κ ck cn pc L (.int y :: .int x :: st) h := by
  obtain ⟨p, l, e, s, m, args, below, meth, c, Q⟩ := κ
  obtain ⟨hx, hb, hml, hown, hts, hF, hG⟩ := C
  intro H locs ls hsim hS hl
  exact lv_ixor hx hb hd (kk H locs ls hsim hS hl)
theorem x_ishl {G : zG} {M : zM} {mc ms : Nat} {κ : zK} {ck cn pc : Nat} {L st : List Value} {h : zH} (C : zCx G M mc ms κ) {x y : Int32} (hd : decode M.2.1 pc = .ok (.ishl, 1)) (kk : zW G M mc ms κ ck cn (pc + 1) L (.int (x <<< (y &&& 31)) :: st) h) : zW G M mc ms κ ck cn pc L (.int y :: .int x :: st) h := by
  obtain ⟨p, l, e, s, m, args, below, meth, c, Q⟩ := κ
  obtain ⟨hx, hb, hml, hown, hts, hF, hG⟩ := C
  intro H locs ls hsim hS hl
  exact lv_ishl hx hb hd (kk H locs ls hsim hS hl)
theorem x_ishr {G : zG} {M : zM} {mc ms : Nat} {κ : zK} {ck cn pc : Nat} {L st : List Value} {h : zH} (C : zCx G M mc ms κ) {x y : Int32} (hd : decode M.2.1 pc = .ok (.ishr, 1)) (kk : zW G M mc ms κ ck cn (pc + 1) L (.int (x >>> (y &&& 31)) :: st) h) : zW G M mc ms κ ck cn pc L (.int y :: .int x :: st) h := by
  obtain ⟨p, l, e, s, m, args, below, meth, c, Q⟩ := κ
  obtain ⟨hx, hb, hml, hown, hts, hF, hG⟩ := C
  intro H locs ls hsim hS hl
  exact lv_ishr hx hb hd (kk H locs ls hsim hS hl)
theorem x_iushr {G : zG} {M : zM} {mc ms : Nat} {κ : zK} {ck cn pc : Nat} {L st : List Value} {h : zH} (C : zCx G M mc ms κ) {x y : Int32} (hd : decode M.2.1 pc = .ok (.iushr, 1)) (kk : zW G M mc ms κ ck cn (pc + 1) L (.int ((x.toUInt32 >>> (y.toUInt32 &&& Int32.toUInt32 31)).toInt32) :: st) h) : zW G M mc ms κ ck cn pc L (.int y :: .int x :: st) h := by
  obtain ⟨p, l, e, s, m, args, below, meth, c, Q⟩ := κ
  obtain ⟨hx, hb, hml, hown, hts, hF, hG⟩ := C
  intro H locs ls hsim hS hl
  exact lv_iushr hx hb hd rfl (kk H locs ls hsim hS hl)
theorem x_idiv {G : zG} {M : zM} {mc ms : Nat} {κ : zK} {ck cn pc : Nat} {L st : List Value} {h : zH} (C : zCx G M mc ms κ) {x y : Int32} (hy : ¬ y = 0) (hd : decode M.2.1 pc = .ok (.idiv, 1)) (kk : zW G M mc ms κ ck cn (pc + 1) L (.int (x / y) :: st) h) : zW G M mc ms κ ck cn pc L (.int y :: .int x :: st) h := by
  obtain ⟨p, l, e, s, m, args, below, meth, c, Q⟩ := κ
  obtain ⟨hx, hb, hml, hown, hts, hF, hG⟩ := C
  intro H locs ls hsim hS hl
  exact lv_idiv hx hb hd hy (kk H locs ls hsim hS hl)
theorem x_irem {G : zG} {M : zM} {mc ms : Nat} {κ : zK} {ck cn pc : Nat} {L st : List Value} {h : zH} (C : zCx G M mc ms κ) {x y : Int32} (hy : ¬ y = 0) (hd : decode M.2.1 pc = .ok (.irem, 1)) (kk : zW G M mc ms κ ck cn (pc + 1) L (.int (x - x / y * y) :: st) h) : zW G M mc ms κ ck cn pc L (.int y :: .int x :: st) h := by
  obtain ⟨p, l, e, s, m, args, below, meth, c, Q⟩ := κ
  obtain ⟨hx, hb, hml, hown, hts, hF, hG⟩ := C
  intro H locs ls hsim hS hl
  exact lv_irem hx hb hd hy (kk H locs ls hsim hS hl)
theorem x_ladd {G : zG} {M : zM} {mc ms : Nat} {κ : zK} {ck cn pc : Nat} {L st : List Value} {h : zH} (C : zCx G M mc ms κ) {x y : Int64} (hd : decode M.2.1 pc = .ok (.ladd, 1)) (kk : zW G M mc ms κ ck cn (pc + 1) L (.long (x + y) :: st) h) : zW G M mc ms κ ck cn pc L (.long y :: .long x :: st) h := by
  obtain ⟨p, l, e, s, m, args, below, meth, c, Q⟩ := κ
  obtain ⟨hx, hb, hml, hown, hts, hF, hG⟩ := C
  intro H locs ls hsim hS hl
  exact lv_ladd hx hb hd (kk H locs ls hsim hS hl)
theorem x_lsub {G : zG} {M : zM} {mc ms : Nat} {κ : zK} {ck cn pc : Nat} {L st : List Value} {h : zH} (C : zCx G M mc ms κ) {x y : Int64} (hd : decode M.2.1 pc = .ok (.lsub, 1)) (kk : zW G M mc ms κ ck cn (pc + 1) L (.long (x - y) :: st) h) : zW G M mc ms κ ck cn pc L (.long y :: .long x :: st) h := by
  obtain ⟨p, l, e, s, m, args, below, meth, c, Q⟩ := κ
  obtain ⟨hx, hb, hml, hown, hts, hF, hG⟩ := C
  intro H locs ls hsim hS hl
  exact lv_lsub hx hb hd (kk H locs ls hsim hS hl)
theorem x_lmul {G : zG} {M : zM} {mc ms : Nat} {κ : zK} {ck cn pc : Nat} {L st : List Value} {h : zH} (C : zCx G M mc ms κ) {x y : Int64} (hd : decode M.2.1 pc = .ok (.lmul, 1)) (kk : zW G M mc ms κ ck cn (pc + 1) L (.long (x * y) :: st) h) : zW G M mc ms κ ck cn pc L (.long y :: .long x :: st) h := by
  obtain ⟨p, l, e, s, m, args, below, meth, c, Q⟩ := κ
  obtain ⟨hx, hb, hml, hown, hts, hF, hG⟩ := C
  intro H locs ls hsim hS hl
  exact lv_lmul hx hb hd (kk H locs ls hsim hS hl)
theorem x_lor {G : zG} {M : zM} {mc ms : Nat} {κ : zK} {ck cn pc : Nat} {L st : List Value} {h : zH} (C : zCx G M mc ms κ) {x y : Int64} (hd : decode M.2.1 pc = .ok (.lor, 1)) (kk : zW G M mc ms κ ck cn (pc + 1) L (.long (x ||| y) :: st) h) : zW G M mc ms κ ck cn pc L (.long y :: .long x :: st) h := by
  obtain ⟨p, l, e, s, m, args, below, meth, c, Q⟩ := κ
  obtain ⟨hx, hb, hml, hown, hts, hF, hG⟩ := C
  intro H locs ls hsim hS hl
  exact lv_lor hx hb hd (kk H locs ls hsim hS hl)
theorem x_land {G : zG} {M : zM} {mc ms : Nat} {κ : zK} {ck cn pc : Nat} {L st : List Value} {h : zH} (C : zCx G M mc ms κ) {x y : Int64} (hd : decode M.2.1 pc = .ok (.land, 1)) (kk : zW G M mc ms κ ck cn (pc + 1) L (.long (x &&& y) :: st) h) : zW G M mc ms κ ck cn pc L (.long y :: .long x :: st) h := by
  obtain ⟨p, l, e, s, m, args, below, meth, c, Q⟩ := κ
  obtain ⟨hx, hb, hml, hown, hts, hF, hG⟩ := C
  intro H locs ls hsim hS hl
  exact lv_land hx hb hd (kk H locs ls hsim hS hl)
theorem x_lshl {G : zG} {M : zM} {mc ms : Nat} {κ : zK} {ck cn pc : Nat} {L st : List Value} {h : zH} (C : zCx G M mc ms κ) {x : Int64} {y : Int32} (hd : decode M.2.1 pc = .ok (.lshl, 1)) (kk : zW G M mc ms κ ck cn (pc + 1) L (.long (x <<< (y.toInt64 &&& 63)) :: st) h) : zW G M mc ms κ ck cn pc L (.int y :: .long x :: st) h := by
  obtain ⟨p, l, e, s, m, args, below, meth, c, Q⟩ := κ
  obtain ⟨hx, hb, hml, hown, hts, hF, hG⟩ := C
  intro H locs ls hsim hS hl
  exact lv_lshl hx hb hd rfl (kk H locs ls hsim hS hl)
theorem x_lcmp {G : zG} {M : zM} {mc ms : Nat} {κ : zK} {ck cn pc : Nat} {L st : List Value} {h : zH} (C : zCx G M mc ms κ) {x y : Int64} (hd : decode M.2.1 pc = .ok (.lcmp, 1)) (kk : zW G M mc ms κ ck cn (pc + 1) L (.int (lg_cmp x y) :: st) h) : zW G M mc ms κ ck cn pc L (.long y :: .long x :: st) h := by
  obtain ⟨p, l, e, s, m, args, below, meth, c, Q⟩ := κ
  obtain ⟨hx, hb, hml, hown, hts, hF, hG⟩ := C
  intro H locs ls hsim hS hl
  exact W.lcmp hx hb hd (kk H locs ls hsim hS hl)
theorem x_i2l {G : zG} {M : zM} {mc ms : Nat} {κ : zK} {ck cn pc : Nat} {L st : List Value} {h : zH} (C : zCx G M mc ms κ) {x : Int32} (hd : decode M.2.1 pc = .ok (.i2l, 1)) (kk : zW G M mc ms κ ck cn (pc + 1) L (.long x.toInt64 :: st) h) : zW G M mc ms κ ck cn pc L (.int x :: st) h := by
  obtain ⟨p, l, e, s, m, args, below, meth, c, Q⟩ := κ
  obtain ⟨hx, hb, hml, hown, hts, hF, hG⟩ := C
  intro H locs ls hsim hS hl
  exact lv_i2l hx hb hd rfl (kk H locs ls hsim hS hl)
theorem x_l2i {G : zG} {M : zM} {mc ms : Nat} {κ : zK} {ck cn pc : Nat} {L st : List Value} {h : zH} (C : zCx G M mc ms κ) {x : Int64} (hd : decode M.2.1 pc = .ok (.l2i, 1)) (kk : zW G M mc ms κ ck cn (pc + 1) L (.int x.toInt32 :: st) h) : zW G M mc ms κ ck cn pc L (.long x :: st) h := by
  obtain ⟨p, l, e, s, m, args, below, meth, c, Q⟩ := κ
  obtain ⟨hx, hb, hml, hown, hts, hF, hG⟩ := C
  intro H locs ls hsim hS hl
  exact lv_l2i hx hb hd rfl (kk H locs ls hsim hS hl)
theorem x_i2b {G : zG} {M : zM} {mc ms : Nat} {κ : zK} {ck cn pc : Nat} {L st : List Value} {h : zH} (C : zCx G M mc ms κ) {x : Int32} (hd : decode M.2.1 pc = .ok (.i2b, 1)) (kk : zW G M mc ms κ ck cn (pc + 1) L (.int x.toInt8.toInt32 :: st) h) : zW G M mc ms κ ck cn pc L (.int x :: st) h := by
  obtain ⟨p, l, e, s, m, args, below, meth, c, Q⟩ := κ
  obtain ⟨hx, hb, hml, hown, hts, hF, hG⟩ := C
  intro H locs ls hsim hS hl
  exact lv_i2b hx hb hd rfl (kk H locs ls hsim hS hl)
theorem x_i2c {G : zG} {M : zM} {mc ms : Nat} {κ : zK} {ck cn pc : Nat} {L st : List Value} {h : zH} (C : zCx G M mc ms κ) {x : Int32} (hd : decode M.2.1 pc = .ok (.i2c, 1)) (kk : zW G M mc ms κ ck cn (pc + 1) L (.int (x.toUInt32 % 65536).toInt32 :: st) h) : zW G M mc ms κ ck cn pc L (.int x :: st) h := by
  obtain ⟨p, l, e, s, m, args, below, meth, c, Q⟩ := κ
  obtain ⟨hx, hb, hml, hown, hts, hF, hG⟩ := C
  intro H locs ls hsim hS hl
  exact lv_i2c hx hb hd rfl (kk H locs ls hsim hS hl)
theorem x_iconst {G : zG} {M : zM} {mc ms : Nat} {κ : zK} {ck cn pc : Nat} {L st : List Value} {h : zH} (C : zCx G M mc ms κ) {z : Int} (v : Int32) (hv : Int32.ofInt z = v) (hd : decode M.2.1 pc = .ok (.iconst z, 1)) (kk : zW G M mc ms κ ck cn (pc + 1) L (.int v :: st) h) : zW G M mc ms κ ck cn pc L st h := by
  obtain ⟨p, l, e, s, m, args, below, meth, c, Q⟩ := κ
  obtain ⟨hx, hb, hml, hown, hts, hF, hG⟩ := C
  intro H locs ls hsim hS hl
  exact lv_iconst hx hb hd hv (kk H locs ls hsim hS hl)
theorem x_bipush {G : zG} {M : zM} {mc ms : Nat} {κ : zK} {ck cn pc : Nat} {L st : List Value} {h : zH} (C : zCx G M mc ms κ) {z : Int} (v : Int32) (hv : (Int8.ofInt z).toInt32 = v) (hd : decode M.2.1 pc = .ok (.bipush z, 2)) (kk : zW G M mc ms κ ck cn (pc + 2) L (.int v :: st) h) : zW G M mc ms κ ck cn pc L st h := by
  obtain ⟨p, l, e, s, m, args, below, meth, c, Q⟩ := κ
  obtain ⟨hx, hb, hml, hown, hts, hF, hG⟩ := C
  intro H locs ls hsim hS hl
  exact lv_bipush hx hb hd hv (kk H locs ls hsim hS hl)
theorem x_sipush {G : zG} {M : zM} {mc ms : Nat} {κ : zK} {ck cn pc : Nat} {L st : List Value} {h : zH} (C : zCx G M mc ms κ) {z : Int} (v : Int32) (hv : (Int16.ofInt z).toInt32 = v) (hd : decode M.2.1 pc = .ok (.sipush z, 3)) (kk : zW G M mc ms κ ck cn (pc + 3) L (.int v :: st) h) : zW G M mc ms κ ck cn pc L st h := by
  obtain ⟨p, l, e, s, m, args, below, meth, c, Q⟩ := κ
  obtain ⟨hx, hb, hml, hown, hts, hF, hG⟩ := C
  intro H locs ls hsim hS hl
  exact lv_sipush hx hb hd hv (kk H locs ls hsim hS hl)
theorem x_lconst {G : zG} {M : zM} {mc ms : Nat} {κ : zK} {ck cn pc : Nat} {L st : List Value} {h : zH} (C : zCx G M mc ms κ) {z : Fin 2} (v : Int64) (hv : Int64.ofNat (z : Nat) = v) (hd : decode M.2.1 pc = .ok (.lconst z, 1)) (kk : zW G M mc ms κ ck cn (pc + 1) L (.long v :: st) h) : zW G M mc ms κ ck cn pc L st h := by
  obtain ⟨p, l, e, s, m, args, below, meth, c, Q⟩ := κ
  obtain ⟨hx, hb, hml, hown, hts, hF, hG⟩ := C
  intro H locs ls hsim hS hl
  exact lv_lconst hx hb hd hv (kk H locs ls hsim hS hl)
theorem x_null {G : zG} {M : zM} {mc ms : Nat} {κ : zK} {ck cn pc : Nat} {L st : List Value} {h : zH} (C : zCx G M mc ms κ)  (hd : decode M.2.1 pc = .ok (.aconst_null, 1)) (kk : zW G M mc ms κ ck cn (pc + 1) L (.null :: st) h) : zW G M mc ms κ ck cn pc L st h := by
  obtain ⟨p, l, e, s, m, args, below, meth, c, Q⟩ := κ
  obtain ⟨hx, hb, hml, hown, hts, hF, hG⟩ := C
  intro H locs ls hsim hS hl
  exact lv_null hx hb hd (kk H locs ls hsim hS hl)
theorem x_ldc {G : zG} {M : zM} {mc ms : Nat} {κ : zK} {ck cn pc : Nat} {L st : List Value} {h : zH} (C : zCx G M mc ms κ) {v : Int32} {ix : Nat} (hc : Cond.constant M.1.cls ix v ∈ zbig) (hd : decode M.2.1 pc = .ok (.ldc ix, 2)) (kk : zW G M mc ms κ ck cn (pc + 2) L (.int v :: st) h) : zW G M mc ms κ ck cn pc L st h := by
  obtain ⟨p, l, e, s, m, args, below, meth, c, Q⟩ := κ
  obtain ⟨hx, hb, hml, hown, hts, hF, hG⟩ := C
  intro H locs ls hsim hS hl
  exact lv_ldc hx hb hown (hts _ hc) hd (kk H locs ls hsim hS hl)
theorem x_ldcw {G : zG} {M : zM} {mc ms : Nat} {κ : zK} {ck cn pc : Nat} {L st : List Value} {h : zH} (C : zCx G M mc ms κ) {v : Int32} {ix : Nat} (hc : Cond.constant M.1.cls ix v ∈ zbig) (hd : decode M.2.1 pc = .ok (.ldc_w ix, 3)) (kk : zW G M mc ms κ ck cn (pc + 3) L (.int v :: st) h) : zW G M mc ms κ ck cn pc L st h := by
  obtain ⟨p, l, e, s, m, args, below, meth, c, Q⟩ := κ
  obtain ⟨hx, hb, hml, hown, hts, hF, hG⟩ := C
  intro H locs ls hsim hS hl
  exact lv_ldcw hx hb hown (hts _ hc) hd (kk H locs ls hsim hS hl)
theorem x_ldc2 {G : zG} {M : zM} {mc ms : Nat} {κ : zK} {ck cn pc : Nat} {L st : List Value} {h : zH} (C : zCx G M mc ms κ) {v : Int64} {ix : Nat} (hc : Cond.constantLong M.1.cls ix v ∈ zbig) (hd : decode M.2.1 pc = .ok (.ldc2_w ix, 3)) (kk : zW G M mc ms κ ck cn (pc + 3) L (.long v :: st) h) : zW G M mc ms κ ck cn pc L st h := by
  obtain ⟨p, l, e, s, m, args, below, meth, c, Q⟩ := κ
  obtain ⟨hx, hb, hml, hown, hts, hF, hG⟩ := C
  intro H locs ls hsim hS hl
  exact lv_ldc2 hx hb hown (hts _ hc) hd (kk H locs ls hsim hS hl)
theorem x_dup {G : zG} {M : zM} {mc ms : Nat} {κ : zK} {ck cn pc : Nat} {L st : List Value} {h : zH} (C : zCx G M mc ms κ) {v : Value} (hv : v.category = 1) (hd : decode M.2.1 pc = .ok (.dup, 1)) (kk : zW G M mc ms κ ck cn (pc + 1) L (v :: v :: st) h) : zW G M mc ms κ ck cn pc L (v :: st) h := by
  obtain ⟨p, l, e, s, m, args, below, meth, c, Q⟩ := κ
  obtain ⟨hx, hb, hml, hown, hts, hF, hG⟩ := C
  intro H locs ls hsim hS hl
  exact lv_dup hx hb hd ((zv_cat G v (Or.inr trivial)).trans hv) (kk H locs ls hsim hS hl)
theorem x_pop {G : zG} {M : zM} {mc ms : Nat} {κ : zK} {ck cn pc : Nat} {L st : List Value} {h : zH} (C : zCx G M mc ms κ) {v : Value} (hv : v.category = 1) (hd : decode M.2.1 pc = .ok (.pop, 1)) (kk : zW G M mc ms κ ck cn (pc + 1) L st h) : zW G M mc ms κ ck cn pc L (v :: st) h := by
  obtain ⟨p, l, e, s, m, args, below, meth, c, Q⟩ := κ
  obtain ⟨hx, hb, hml, hown, hts, hF, hG⟩ := C
  intro H locs ls hsim hS hl
  exact lv_pop hx hb hd ((zv_cat G v (Or.inr trivial)).trans hv) (kk H locs ls hsim hS hl)
theorem x_dup2 {G : zG} {M : zM} {mc ms : Nat} {κ : zK} {ck cn pc : Nat} {L st : List Value} {h : zH} (C : zCx G M mc ms κ) {v w : Value} (hv : v.category = 1) (hw : w.category = 1) (hd : decode M.2.1 pc = .ok (.dup2, 1)) (kk : zW G M mc ms κ ck cn (pc + 1) L (v :: w :: v :: w :: st) h) : zW G M mc ms κ ck cn pc L (v :: w :: st) h := by
  obtain ⟨p, l, e, s, m, args, below, meth, c, Q⟩ := κ
  obtain ⟨hx, hb, hml, hown, hts, hF, hG⟩ := C
  intro H locs ls hsim hS hl
  exact lv_dup2_11 hx hb hd ((zv_cat G v (Or.inr trivial)).trans hv) ((zv_cat G w (Or.inr trivial)).trans hw) (kk H locs ls hsim hS hl)
theorem x_iload_n {G : zG} {M : zM} {mc ms : Nat} {κ : zK} {ck cn pc : Nat} {L st : List Value} {h : zH} (C : zCx G M mc ms κ) {i : Fin 4} {x : Int32} (hL : L[(i : Nat)]? = some (.int x)) (hd : decode M.2.1 pc = .ok (.iload_n i, 1)) (kk : zW G M mc ms κ ck cn (pc + 1) L (.int x :: st) h) : zW G M mc ms κ ck cn pc L st h := by
  obtain ⟨p, l, e, s, m, args, below, meth, c, Q⟩ := κ
  obtain ⟨hx, hb, hml, hown, hts, hF, hG⟩ := C
  intro H locs ls hsim hS hl
  exact lv_iload_n hx hb hd rfl (hl.2.2 _ _ hL (fun z => by cases z)) (kk H locs ls hsim hS hl)
theorem x_iload {G : zG} {M : zM} {mc ms : Nat} {κ : zK} {ck cn pc : Nat} {L st : List Value} {h : zH} (C : zCx G M mc ms κ) {i : Nat} {x : Int32} (hL : L[i]? = some (.int x)) (hd : decode M.2.1 pc = .ok (.iload i, 2)) (kk : zW G M mc ms κ ck cn (pc + 2) L (.int x :: st) h) : zW G M mc ms κ ck cn pc L st h := by
  obtain ⟨p, l, e, s, m, args, below, meth, c, Q⟩ := κ
  obtain ⟨hx, hb, hml, hown, hts, hF, hG⟩ := C
  intro H locs ls hsim hS hl
  exact lv_iload hx hb hd (hl.2.2 _ _ hL (fun z => by cases z)) (kk H locs ls hsim hS hl)
theorem x_lload_n {G : zG} {M : zM} {mc ms : Nat} {κ : zK} {ck cn pc : Nat} {L st : List Value} {h : zH} (C : zCx G M mc ms κ) {i : Fin 4} {x : Int64} (hL : L[(i : Nat)]? = some (.long x)) (hd : decode M.2.1 pc = .ok (.lload_n i, 1)) (kk : zW G M mc ms κ ck cn (pc + 1) L (.long x :: st) h) : zW G M mc ms κ ck cn pc L st h := by
  obtain ⟨p, l, e, s, m, args, below, meth, c, Q⟩ := κ
  obtain ⟨hx, hb, hml, hown, hts, hF, hG⟩ := C
  intro H locs ls hsim hS hl
  exact lv_lload_n hx hb hd rfl (hl.2.2 _ _ hL (fun z => by cases z)) (kk H locs ls hsim hS hl)
theorem x_lload {G : zG} {M : zM} {mc ms : Nat} {κ : zK} {ck cn pc : Nat} {L st : List Value} {h : zH} (C : zCx G M mc ms κ) {i : Nat} {x : Int64} (hL : L[i]? = some (.long x)) (hd : decode M.2.1 pc = .ok (.lload i, 2)) (kk : zW G M mc ms κ ck cn (pc + 2) L (.long x :: st) h) : zW G M mc ms κ ck cn pc L st h := by
  obtain ⟨p, l, e, s, m, args, below, meth, c, Q⟩ := κ
  obtain ⟨hx, hb, hml, hown, hts, hF, hG⟩ := C
  intro H locs ls hsim hS hl
  exact lv_lload hx hb hd (hl.2.2 _ _ hL (fun z => by cases z)) (kk H locs ls hsim hS hl)
theorem x_aload_n {G : zG} {M : zM} {mc ms : Nat} {κ : zK} {ck cn pc : Nat} {L st : List Value} {h : zH} (C : zCx G M mc ms κ) {i : Fin 4} {v : Value} (hv : zrf v = true) (hL : L[(i : Nat)]? = some v) (hd : decode M.2.1 pc = .ok (.aload_n i, 1)) (kk : zW G M mc ms κ ck cn (pc + 1) L (v :: st) h) : zW G M mc ms κ ck cn pc L st h := by
  obtain ⟨p, l, e, s, m, args, below, meth, c, Q⟩ := κ
  obtain ⟨hx, hb, hml, hown, hts, hF, hG⟩ := C
  intro H locs ls hsim hS hl
  have h1 := hl.2.2 _ _ hL (fun z => by subst z; cases hv)
  cases v <;> first | exact lv_aload_n hx hb hd rfl h1 (kk H locs ls hsim hS hl) | exact lv_aload_nN hx hb hd rfl h1 (kk H locs ls hsim hS hl) | cases hv
theorem x_aload {G : zG} {M : zM} {mc ms : Nat} {κ : zK} {ck cn pc : Nat} {L st : List Value} {h : zH} (C : zCx G M mc ms κ) {i : Nat} {v : Value} (hv : zrf v = true) (hL : L[i]? = some v) (hd : decode M.2.1 pc = .ok (.aload i, 2)) (kk : zW G M mc ms κ ck cn (pc + 2) L (v :: st) h) : zW G M mc ms κ ck cn pc L st h := by
  obtain ⟨p, l, e, s, m, args, below, meth, c, Q⟩ := κ
  obtain ⟨hx, hb, hml, hown, hts, hF, hG⟩ := C
  intro H locs ls hsim hS hl
  have h1 := hl.2.2 _ _ hL (fun z => by subst z; cases hv)
  cases v <;> first | exact lv_aload hx hb hd h1 (kk H locs ls hsim hS hl) | exact lv_aloadN hx hb hd h1 (kk H locs ls hsim hS hl) | cases hv
theorem x_istore_n {G : zG} {M : zM} {mc ms : Nat} {κ : zK} {ck cn pc : Nat} {L st : List Value} {h : zH} (C : zCx G M mc ms κ) {i : Fin 4} {x : Int32} (hi : (i : Nat) < M.2.2.1) (hd : decode M.2.1 pc = .ok (.istore_n i, 1)) (kk : zW G M mc ms κ ck cn (pc + 1) (zset L i (.int x)) st h) : zW G M mc ms κ ck cn pc L (.int x :: st) h := by
  obtain ⟨p, l, e, s, m, args, below, meth, c, Q⟩ := κ
  obtain ⟨hx, hb, hml, hown, hts, hF, hG⟩ := C
  intro H locs ls hsim hS hl
  exact lv_istore_n hx hb hd rfl (zls_has hl) hi rfl (fun ls' hl' => kk H locs ls' hsim hS (zls_st hl (v := .int x) rfl hl'))
theorem x_istore {G : zG} {M : zM} {mc ms : Nat} {κ : zK} {ck cn pc : Nat} {L st : List Value} {h : zH} (C : zCx G M mc ms κ) {i : Nat} {x : Int32} (hi : i < M.2.2.1) (hd : decode M.2.1 pc = .ok (.istore i, 2)) (kk : zW G M mc ms κ ck cn (pc + 2) (zset L i (.int x)) st h) : zW G M mc ms κ ck cn pc L (.int x :: st) h := by
  obtain ⟨p, l, e, s, m, args, below, meth, c, Q⟩ := κ
  obtain ⟨hx, hb, hml, hown, hts, hF, hG⟩ := C
  intro H locs ls hsim hS hl
  exact lv_istore hx hb hd (zls_has hl) hi rfl (fun ls' hl' => kk H locs ls' hsim hS (zls_st hl (v := .int x) rfl hl'))
theorem x_lstore_n {G : zG} {M : zM} {mc ms : Nat} {κ : zK} {ck cn pc : Nat} {L st : List Value} {h : zH} (C : zCx G M mc ms κ) {i : Fin 4} {x : Int64} (hi : (i : Nat) + 1 < M.2.2.1) (hd : decode M.2.1 pc = .ok (.lstore_n i, 1)) (kk : zW G M mc ms κ ck cn (pc + 1) (zset2 L i (.long x)) st h) : zW G M mc ms κ ck cn pc L (.long x :: st) h := by
  obtain ⟨p, l, e, s, m, args, below, meth, c, Q⟩ := κ
  obtain ⟨hx, hb, hml, hown, hts, hF, hG⟩ := C
  intro H locs ls hsim hS hl
  exact lv_lstore_n hx hb hd rfl (zls_has hl) hi rfl (fun ls' hl' => kk H locs ls' hsim hS (zls_st2 hl (v := .long x) hl'))
theorem x_lstore {G : zG} {M : zM} {mc ms : Nat} {κ : zK} {ck cn pc : Nat} {L st : List Value} {h : zH} (C : zCx G M mc ms κ) {i : Nat} {x : Int64} (hi : i + 1 < M.2.2.1) (hd : decode M.2.1 pc = .ok (.lstore i, 2)) (kk : zW G M mc ms κ ck cn (pc + 2) (zset2 L i (.long x)) st h) : zW G M mc ms κ ck cn pc L (.long x :: st) h := by
  obtain ⟨p, l, e, s, m, args, below, meth, c, Q⟩ := κ
  obtain ⟨hx, hb, hml, hown, hts, hF, hG⟩ := C
  intro H locs ls hsim hS hl
  exact lv_lstore hx hb hd (zls_has hl) hi rfl (fun ls' hl' => kk H locs ls' hsim hS (zls_st2 hl (v := .long x) hl'))
theorem x_astore_n {G : zG} {M : zM} {mc ms : Nat} {κ : zK} {ck cn pc : Nat} {L st : List Value} {h : zH} (C : zCx G M mc ms κ) {i : Fin 4} {v : Value} (hv : zrf v = true) (hi : (i : Nat) < M.2.2.1) (hd : decode M.2.1 pc = .ok (.astore_n i, 1)) (kk : zW G M mc ms κ ck cn (pc + 1) (zset L i v) st h) : zW G M mc ms κ ck cn pc L (v :: st) h := by
  obtain ⟨p, l, e, s, m, args, below, meth, c, Q⟩ := κ
  obtain ⟨hx, hb, hml, hown, hts, hF, hG⟩ := C
  intro H locs ls hsim hS hl
  cases v <;> first | exact lv_astore_n hx hb hd rfl (zls_has hl) hi rfl (fun ls' hl' => kk H locs ls' hsim hS (zls_st hl (by rfl) hl')) | exact lv_astore_nN hx hb hd rfl (zls_has hl) hi rfl (fun ls' hl' => kk H locs ls' hsim hS (zls_st hl (v := .null) rfl hl')) | cases hv
theorem x_astore {G : zG} {M : zM} {mc ms : Nat} {κ : zK} {ck cn pc : Nat} {L st : List Value} {h : zH} (C : zCx G M mc ms κ) {i : Nat} {v : Value} (hv : zrf v = true) (hi : (i : Nat) < M.2.2.1) (hd : decode M.2.1 pc = .ok (.astore i, 2)) (kk : zW G M mc ms κ ck cn (pc + 2) (zset L i v) st h) : zW G M mc ms κ ck cn pc L (v :: st) h := by
  obtain ⟨p, l, e, s, m, args, below, meth, c, Q⟩ := κ
  obtain ⟨hx, hb, hml, hown, hts, hF, hG⟩ := C
  intro H locs ls hsim hS hl
  cases v <;> first | exact lv_astore hx hb hd (zls_has hl) hi rfl (fun ls' hl' => kk H locs ls' hsim hS (zls_st hl (by rfl) hl')) | exact lv_astoreN hx hb hd (zls_has hl) hi rfl (fun ls' hl' => kk H locs ls' hsim hS (zls_st hl (v := .null) rfl hl')) | cases hv
theorem x_iinc {G : zG} {M : zM} {mc ms : Nat} {κ : zK} {ck cn pc : Nat} {L st : List Value} {h : zH} (C : zCx G M mc ms κ) {i : Nat} {z : Int} {x : Int32} (v : Int32) (hL : L[i]? = some (.int x)) (hv : x + Int32.ofInt z = v) (hi : i < M.2.2.1) (hd : decode M.2.1 pc = .ok (.iinc i z, 3)) (kk : zW G M mc ms κ ck cn (pc + 3) (zset L i (.int v)) st h) : zW G M mc ms κ ck cn pc L st h := by
  obtain ⟨p, l, e, s, m, args, below, meth, c, Q⟩ := κ
  obtain ⟨hx, hb, hml, hown, hts, hF, hG⟩ := C
  intro H locs ls hsim hS hl
  exact lv_iinc (k := 0) (lv := (i, .int x) :: zlv G L) hx hb hd (zls_has' hl hL (fun z => by cases z)) rfl hv hi (by rw [List.filter_cons_of_neg (by simp)]; rfl) (fun ls' hl' => kk H locs ls' hsim hS (zls_st hl (v := .int v) rfl hl'))
theorem x_if_eq {G : zG} {M : zM} {mc ms : Nat} {κ : zK} {ck cn pc : Nat} {L st : List Value} {h : zH} (C : zCx G M mc ms κ) {x : Int32} {off : Int} (tgt : Nat) (hd : decode M.2.1 pc = .ok (.ifCond .eq off, 3)) (ht : (pc : Int) + off = (tgt : Int)) (kt : x = 0 → zW G M mc ms κ ck cn tgt L st h) (kf : ¬ x = 0 → zW G M mc ms κ ck cn (pc + 3) L st h) : zW G M mc ms κ ck cn pc L (.int x :: st) h := by
  obtain ⟨p, l, e, s, m, args, below, meth, c, Q⟩ := κ
  obtain ⟨hx, hb, hml, hown, hts, hF, hG⟩ := C
  intro H locs ls hsim hS hl
  exact lv_if_eq hx hb hd ht (fun q => kt q H locs ls hsim hS hl) (fun q => kf q H locs ls hsim hS hl)
theorem x_icmp_eq {G : zG} {M : zM} {mc ms : Nat} {κ : zK} {ck cn pc : Nat} {L st : List Value} {h : zH} (C : zCx G M mc ms κ) {x y : Int32} {off : Int} (tgt : Nat) (hd : decode M.2.1 pc = .ok (.if_icmp .eq off, 3)) (ht : (pc : Int) + off = (tgt : Int)) (kt : x = y → zW G M mc ms κ ck cn tgt L st h) (kf : ¬ x = y → zW G M mc ms κ ck cn (pc + 3) L st h) : zW G M mc ms κ ck cn pc L (.int y :: .int x :: st) h := by
  obtain ⟨p, l, e, s, m, args, below, meth, c, Q⟩ := κ
  obtain ⟨hx, hb, hml, hown, hts, hF, hG⟩ := C
  intro H locs ls hsim hS hl
  exact lv_icmp_eq hx hb hd ht (fun q => kt q H locs ls hsim hS hl) (fun q => kf q H locs ls hsim hS hl)
theorem x_if_ne {G : zG} {M : zM} {mc ms : Nat} {κ : zK} {ck cn pc : Nat} {L st : List Value} {h : zH} (C : zCx G M mc ms κ) {x : Int32} {off : Int} (tgt : Nat) (hd : decode M.2.1 pc = .ok (.ifCond .ne off, 3)) (ht : (pc : Int) + off = (tgt : Int)) (kt : ¬ x = 0 → zW G M mc ms κ ck cn tgt L st h) (kf : x = 0 → zW G M mc ms κ ck cn (pc + 3) L st h) : zW G M mc ms κ ck cn pc L (.int x :: st) h := by
  obtain ⟨p, l, e, s, m, args, below, meth, c, Q⟩ := κ
  obtain ⟨hx, hb, hml, hown, hts, hF, hG⟩ := C
  intro H locs ls hsim hS hl
  exact lv_if_ne hx hb hd ht (fun q => kt q H locs ls hsim hS hl) (fun q => kf q H locs ls hsim hS hl)
theorem x_icmp_ne {G : zG} {M : zM} {mc ms : Nat} {κ : zK} {ck cn pc : Nat} {L st : List Value} {h : zH} (C : zCx G M mc ms κ) {x y : Int32} {off : Int} (tgt : Nat) (hd : decode M.2.1 pc = .ok (.if_icmp .ne off, 3)) (ht : (pc : Int) + off = (tgt : Int)) (kt : ¬ x = y → zW G M mc ms κ ck cn tgt L st h) (kf : x = y → zW G M mc ms κ ck cn (pc + 3) L st h) : zW G M mc ms κ ck cn pc L (.int y :: .int x :: st) h := by
  obtain ⟨p, l, e, s, m, args, below, meth, c, Q⟩ := κ
  obtain ⟨hx, hb, hml, hown, hts, hF, hG⟩ := C
  intro H locs ls hsim hS hl
  exact lv_icmp_ne hx hb hd ht (fun q => kt q H locs ls hsim hS hl) (fun q => kf q H locs ls hsim hS hl)
theorem x_if_lt {G : zG} {M : zM} {mc ms : Nat} {κ : zK} {ck cn pc : Nat} {L st : List Value} {h : zH} (C : zCx G M mc ms κ) {x : Int32} {off : Int} (tgt : Nat) (hd : decode M.2.1 pc = .ok (.ifCond .lt off, 3)) (ht : (pc : Int) + off = (tgt : Int)) (kt : x < 0 → zW G M mc ms κ ck cn tgt L st h) (kf : ¬ x < 0 → zW G M mc ms κ ck cn (pc + 3) L st h) : zW G M mc ms κ ck cn pc L (.int x :: st) h := by
  obtain ⟨p, l, e, s, m, args, below, meth, c, Q⟩ := κ
  obtain ⟨hx, hb, hml, hown, hts, hF, hG⟩ := C
  intro H locs ls hsim hS hl
  exact lv_if_lt hx hb hd ht (fun q => kt q H locs ls hsim hS hl) (fun q => kf q H locs ls hsim hS hl)
theorem x_icmp_lt {G : zG} {M : zM} {mc ms : Nat} {κ : zK} {ck cn pc : Nat} {L st : List Value} {h : zH} (C : zCx G M mc ms κ) {x y : Int32} {off : Int} (tgt : Nat) (hd : decode M.2.1 pc = .ok (.if_icmp .lt off, 3)) (ht : (pc : Int) + off = (tgt : Int)) (kt : x < y → zW G M mc ms κ ck cn tgt L st h) (kf : ¬ x < y → zW G M mc ms κ ck cn (pc + 3) L st h) : zW G M mc ms κ ck cn pc L (.int y :: .int x :: st) h := by
  obtain ⟨p, l, e, s, m, args, below, meth, c, Q⟩ := κ
  obtain ⟨hx, hb, hml, hown, hts, hF, hG⟩ := C
  intro H locs ls hsim hS hl
  exact lv_icmp_lt hx hb hd ht (fun q => kt q H locs ls hsim hS hl) (fun q => kf q H locs ls hsim hS hl)
theorem x_if_ge {G : zG} {M : zM} {mc ms : Nat} {κ : zK} {ck cn pc : Nat} {L st : List Value} {h : zH} (C : zCx G M mc ms κ) {x : Int32} {off : Int} (tgt : Nat) (hd : decode M.2.1 pc = .ok (.ifCond .ge off, 3)) (ht : (pc : Int) + off = (tgt : Int)) (kt : 0 ≤ x → zW G M mc ms κ ck cn tgt L st h) (kf : ¬ 0 ≤ x → zW G M mc ms κ ck cn (pc + 3) L st h) : zW G M mc ms κ ck cn pc L (.int x :: st) h := by
  obtain ⟨p, l, e, s, m, args, below, meth, c, Q⟩ := κ
  obtain ⟨hx, hb, hml, hown, hts, hF, hG⟩ := C
  intro H locs ls hsim hS hl
  exact lv_if_ge hx hb hd ht (fun q => kt q H locs ls hsim hS hl) (fun q => kf q H locs ls hsim hS hl)
theorem x_icmp_ge {G : zG} {M : zM} {mc ms : Nat} {κ : zK} {ck cn pc : Nat} {L st : List Value} {h : zH} (C : zCx G M mc ms κ) {x y : Int32} {off : Int} (tgt : Nat) (hd : decode M.2.1 pc = .ok (.if_icmp .ge off, 3)) (ht : (pc : Int) + off = (tgt : Int)) (kt : y ≤ x → zW G M mc ms κ ck cn tgt L st h) (kf : ¬ y ≤ x → zW G M mc ms κ ck cn (pc + 3) L st h) : zW G M mc ms κ ck cn pc L (.int y :: .int x :: st) h := by
  obtain ⟨p, l, e, s, m, args, below, meth, c, Q⟩ := κ
  obtain ⟨hx, hb, hml, hown, hts, hF, hG⟩ := C
  intro H locs ls hsim hS hl
  exact lv_icmp_ge hx hb hd ht (fun q => kt q H locs ls hsim hS hl) (fun q => kf q H locs ls hsim hS hl)
theorem x_if_gt {G : zG} {M : zM} {mc ms : Nat} {κ : zK} {ck cn pc : Nat} {L st : List Value} {h : zH} (C : zCx G M mc ms κ) {x : Int32} {off : Int} (tgt : Nat) (hd : decode M.2.1 pc = .ok (.ifCond .gt off, 3)) (ht : (pc : Int) + off = (tgt : Int)) (kt : 0 < x → zW G M mc ms κ ck cn tgt L st h) (kf : ¬ 0 < x → zW G M mc ms κ ck cn (pc + 3) L st h) : zW G M mc ms κ ck cn pc L (.int x :: st) h := by
  obtain ⟨p, l, e, s, m, args, below, meth, c, Q⟩ := κ
  obtain ⟨hx, hb, hml, hown, hts, hF, hG⟩ := C
  intro H locs ls hsim hS hl
  exact lv_if_gt hx hb hd ht (fun q => kt q H locs ls hsim hS hl) (fun q => kf q H locs ls hsim hS hl)
theorem x_icmp_gt {G : zG} {M : zM} {mc ms : Nat} {κ : zK} {ck cn pc : Nat} {L st : List Value} {h : zH} (C : zCx G M mc ms κ) {x y : Int32} {off : Int} (tgt : Nat) (hd : decode M.2.1 pc = .ok (.if_icmp .gt off, 3)) (ht : (pc : Int) + off = (tgt : Int)) (kt : y < x → zW G M mc ms κ ck cn tgt L st h) (kf : ¬ y < x → zW G M mc ms κ ck cn (pc + 3) L st h) : zW G M mc ms κ ck cn pc L (.int y :: .int x :: st) h := by
  obtain ⟨p, l, e, s, m, args, below, meth, c, Q⟩ := κ
  obtain ⟨hx, hb, hml, hown, hts, hF, hG⟩ := C
  intro H locs ls hsim hS hl
  exact lv_icmp_gt hx hb hd ht (fun q => kt q H locs ls hsim hS hl) (fun q => kf q H locs ls hsim hS hl)
theorem x_if_le {G : zG} {M : zM} {mc ms : Nat} {κ : zK} {ck cn pc : Nat} {L st : List Value} {h : zH} (C : zCx G M mc ms κ) {x : Int32} {off : Int} (tgt : Nat) (hd : decode M.2.1 pc = .ok (.ifCond .le off, 3)) (ht : (pc : Int) + off = (tgt : Int)) (kt : x ≤ 0 → zW G M mc ms κ ck cn tgt L st h) (kf : ¬ x ≤ 0 → zW G M mc ms κ ck cn (pc + 3) L st h) : zW G M mc ms κ ck cn pc L (.int x :: st) h := by
  obtain ⟨p, l, e, s, m, args, below, meth, c, Q⟩ := κ
  obtain ⟨hx, hb, hml, hown, hts, hF, hG⟩ := C
  intro H locs ls hsim hS hl
  exact lv_if_le hx hb hd ht (fun q => kt q H locs ls hsim hS hl) (fun q => kf q H locs ls hsim hS hl)
theorem x_icmp_le {G : zG} {M : zM} {mc ms : Nat} {κ : zK} {ck cn pc : Nat} {L st : List Value} {h : zH} (C : zCx G M mc ms κ) {x y : Int32} {off : Int} (tgt : Nat) (hd : decode M.2.1 pc = .ok (.if_icmp .le off, 3)) (ht : (pc : Int) + off = (tgt : Int)) (kt : x ≤ y → zW G M mc ms κ ck cn tgt L st h) (kf : ¬ x ≤ y → zW G M mc ms κ ck cn (pc + 3) L st h) : zW G M mc ms κ ck cn pc L (.int y :: .int x :: st) h := by
  obtain ⟨p, l, e, s, m, args, below, meth, c, Q⟩ := κ
  obtain ⟨hx, hb, hml, hown, hts, hF, hG⟩ := C
  intro H locs ls hsim hS hl
  exact lv_icmp_le hx hb hd ht (fun q => kt q H locs ls hsim hS hl) (fun q => kf q H locs ls hsim hS hl)
theorem x_goto {G : zG} {M : zM} {mc ms : Nat} {κ : zK} {ck cn pc : Nat} {L st : List Value} {h : zH} (C : zCx G M mc ms κ) {off : Int} (tgt : Nat) (hd : decode M.2.1 pc = .ok (.goto off, 3)) (ht : (pc : Int) + off = (tgt : Int)) (kk : zW G M mc ms κ ck cn tgt L st h) : zW G M mc ms κ ck cn pc L st h := by
  obtain ⟨p, l, e, s, m, args, below, meth, c, Q⟩ := κ
  obtain ⟨hx, hb, hml, hown, hts, hF, hG⟩ := C
  intro H locs ls hsim hS hl
  exact lv_goto hx hb hd ht (kk H locs ls hsim hS hl)
theorem x_ifnull {G : zG} {M : zM} {mc ms : Nat} {κ : zK} {ck cn pc : Nat} {L st : List Value} {h : zH} (C : zCx G M mc ms κ) {off : Int} {a : Nat} (hd : decode M.2.1 pc = .ok (.ifnull off, 3)) (kk : zW G M mc ms κ ck cn (pc + 3) L st h) : zW G M mc ms κ ck cn pc L (.ref a :: st) h := by
  obtain ⟨p, l, e, s, m, args, below, meth, c, Q⟩ := κ
  obtain ⟨hx, hb, hml, hown, hts, hF, hG⟩ := C
  intro H locs ls hsim hS hl
  exact lv_ifnull hx hb hd (kk H locs ls hsim hS hl)
theorem x_ifnullN {G : zG} {M : zM} {mc ms : Nat} {κ : zK} {ck cn pc : Nat} {L st : List Value} {h : zH} (C : zCx G M mc ms κ) {off : Int} (tgt : Nat) (hd : decode M.2.1 pc = .ok (.ifnull off, 3)) (ht : (pc : Int) + off = (tgt : Int)) (kk : zW G M mc ms κ ck cn tgt L st h) : zW G M mc ms κ ck cn pc L (.null :: st) h := by
  obtain ⟨p, l, e, s, m, args, below, meth, c, Q⟩ := κ
  obtain ⟨hx, hb, hml, hown, hts, hF, hG⟩ := C
  intro H locs ls hsim hS hl
  exact lv_ifnullN hx hb hd ht (kk H locs ls hsim hS hl)
theorem x_ifnonnull {G : zG} {M : zM} {mc ms : Nat} {κ : zK} {ck cn pc : Nat} {L st : List Value} {h : zH} (C : zCx G M mc ms κ) {off : Int} {a : Nat} (tgt : Nat) (hd : decode M.2.1 pc = .ok (.ifnonnull off, 3)) (ht : (pc : Int) + off = (tgt : Int)) (kk : zW G M mc ms κ ck cn tgt L st h) : zW G M mc ms κ ck cn pc L (.ref a :: st) h := by
  obtain ⟨p, l, e, s, m, args, below, meth, c, Q⟩ := κ
  obtain ⟨hx, hb, hml, hown, hts, hF, hG⟩ := C
  intro H locs ls hsim hS hl
  exact lv_ifnonnull hx hb hd ht (kk H locs ls hsim hS hl)
theorem x_ifnonnullN {G : zG} {M : zM} {mc ms : Nat} {κ : zK} {ck cn pc : Nat} {L st : List Value} {h : zH} (C : zCx G M mc ms κ) {off : Int} (hd : decode M.2.1 pc = .ok (.ifnonnull off, 3)) (kk : zW G M mc ms κ ck cn (pc + 3) L st h) : zW G M mc ms κ ck cn pc L (.null :: st) h := by
  obtain ⟨p, l, e, s, m, args, below, meth, c, Q⟩ := κ
  obtain ⟨hx, hb, hml, hown, hts, hF, hG⟩ := C
  intro H locs ls hsim hS hl
  exact lv_ifnonnullN hx hb hd (kk H locs ls hsim hS hl)
theorem x_tableIn {G : zG} {M : zM} {mc ms : Nat} {κ : zK} {ck cn pc : Nat} {L st : List Value} {h : zH} (C : zCx G M mc ms κ) {dflt lo hi : Int} {offs : Array Int} {len : Nat} {x : Int32} {off : Int} (tgt : Nat) (h1 : ¬ x.toInt < lo) (h2 : ¬ hi < x.toInt) (ho : offs[(x.toInt - lo).toNat]? = some off) (hd : decode M.2.1 pc = .ok (.tableswitch dflt lo hi offs, len)) (ht : (pc : Int) + off = (tgt : Int)) (kk : zW G M mc ms κ ck cn tgt L st h) : zW G M mc ms κ ck cn pc L (.int x :: st) h := by
  obtain ⟨p, l, e, s, m, args, below, meth, c, Q⟩ := κ
  obtain ⟨hx, hb, hml, hown, hts, hF, hG⟩ := C
  intro H locs ls hsim hS hl
  exact lv_tableIn hx hb hd h1 h2 ho ht (kk H locs ls hsim hS hl)
theorem x_tableOut {G : zG} {M : zM} {mc ms : Nat} {κ : zK} {ck cn pc : Nat} {L st : List Value} {h : zH} (C : zCx G M mc ms κ) {dflt lo hi : Int} {offs : Array Int} {len : Nat} {x : Int32} (tgt : Nat) (h1 : x.toInt < lo ∨ hi < x.toInt) (hd : decode M.2.1 pc = .ok (.tableswitch dflt lo hi offs, len)) (ht : (pc : Int) + dflt = (tgt : Int)) (kk : zW G M mc ms κ ck cn tgt L st h) : zW G M mc ms κ ck cn pc L (.int x :: st) h := by
  obtain ⟨p, l, e, s, m, args, below, meth, c, Q⟩ := κ
  obtain ⟨hx, hb, hml, hown, hts, hF, hG⟩ := C
  intro H locs ls hsim hS hl
  exact lv_tableOut hx hb hd h1 ht (kk H locs ls hsim hS hl)
theorem x_lookup {G : zG} {M : zM} {mc ms : Nat} {κ : zK} {ck cn pc : Nat} {L st : List Value} {h : zH} (C : zCx G M mc ms κ) {dflt : Int} {ps : Array (Int × Int)} {len : Nat} {x : Int32} {off : Int} (tgt : Nat) (hp : (ps.toList.zip (ps.toList.drop 1)).all (fun (a, next) => a.1 < next.1) = true) (ho : Op.lookupswitch.offset ps.toList dflt x.toInt = off) (hd : decode M.2.1 pc = .ok (.lookupswitch dflt ps, len)) (ht : (pc : Int) + off = (tgt : Int)) (kk : zW G M mc ms κ ck cn tgt L st h) : zW G M mc ms κ ck cn pc L (.int x :: st) h := by
  obtain ⟨p, l, e, s, m, args, below, meth, c, Q⟩ := κ
  obtain ⟨hx, hb, hml, hown, hts, hF, hG⟩ := C
  intro H locs ls hsim hS hl
  exact lv_lookup hx hb hd hp ho ht (kk H locs ls hsim hS hl)
theorem x_iald {G : zG} {M : zM} {mc ms : Nat} {κ : zK} {ck cn pc : Nat} {L st : List Value} {h : zH} (C : zCx G M mc ms κ) {a nn : Nat} {f : Nat → Int32} {i : Int32} (hg : zg h a (zI 0 nn f)) (hin : vp_in i nn) (hd : decode M.2.1 pc = .ok (.iaload, 1)) (kk : zW G M mc ms κ ck cn (pc + 1) L (.int (f i.toNatClampNeg) :: st) h) : zW G M mc ms κ ck cn pc L (.int i :: .ref a :: st) h := by
  obtain ⟨p, l, e, s, m, args, below, meth, c, Q⟩ := κ
  obtain ⟨hx, hb, hml, hown, hts, hF, hG⟩ := C
  intro H locs ls hsim hS hl
  exact va_iald hx hb hF.1 hsim.2 a 0 (zw_at hg) rfl hin hd (kk H locs ls hsim hS hl)
theorem x_bald {G : zG} {M : zM} {mc ms : Nat} {κ : zK} {ck cn pc : Nat} {L st : List Value} {h : zH} (C : zCx G M mc ms κ) {a nn : Nat} {f : Nat → Int32} {i : Int32} (hg : zg h a (zI 1 nn f)) (hin : vp_in i nn) (hd : decode M.2.1 pc = .ok (.baload, 1)) (kk : zW G M mc ms κ ck cn (pc + 1) L (.int (f i.toNatClampNeg) :: st) h) : zW G M mc ms κ ck cn pc L (.int i :: .ref a :: st) h := by
  obtain ⟨p, l, e, s, m, args, below, meth, c, Q⟩ := κ
  obtain ⟨hx, hb, hml, hown, hts, hF, hG⟩ := C
  intro H locs ls hsim hS hl
  exact va_bald hx hb hF.1 hsim.2 a 1 (zw_at hg) rfl hin hd (kk H locs ls hsim hS hl)
theorem x_zald {G : zG} {M : zM} {mc ms : Nat} {κ : zK} {ck cn pc : Nat} {L st : List Value} {h : zH} (C : zCx G M mc ms κ) {a nn : Nat} {f : Nat → Int32} {i : Int32} (hg : zg h a (zI 2 nn f)) (hin : vp_in i nn) (hd : decode M.2.1 pc = .ok (.baload, 1)) (kk : zW G M mc ms κ ck cn (pc + 1) L (.int (f i.toNatClampNeg) :: st) h) : zW G M mc ms κ ck cn pc L (.int i :: .ref a :: st) h := by
  obtain ⟨p, l, e, s, m, args, below, meth, c, Q⟩ := κ
  obtain ⟨hx, hb, hml, hown, hts, hF, hG⟩ := C
  intro H locs ls hsim hS hl
  exact va_zald hx hb hF.1 hsim.2 a 2 (zw_at hg) rfl hin hd (kk H locs ls hsim hS hl)
theorem x_lald {G : zG} {M : zM} {mc ms : Nat} {κ : zK} {ck cn pc : Nat} {L st : List Value} {h : zH} (C : zCx G M mc ms κ) {a nn : Nat} {f : Nat → Int64} {i : Int32} (hg : zg h a (zL nn f)) (hin : vp_in i nn) (hd : decode M.2.1 pc = .ok (.laload, 1)) (kk : zW G M mc ms κ ck cn (pc + 1) L (.long (f i.toNatClampNeg) :: st) h) : zW G M mc ms κ ck cn pc L (.int i :: .ref a :: st) h := by
  obtain ⟨p, l, e, s, m, args, below, meth, c, Q⟩ := κ
  obtain ⟨hx, hb, hml, hown, hts, hF, hG⟩ := C
  intro H locs ls hsim hS hl
  exact va_lald hx hb hF.1 hsim.2 a 3 (zw_at hg) rfl hin hd (kk H locs ls hsim hS hl)

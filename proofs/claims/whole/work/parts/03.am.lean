/-! ===== An abstract machine of this claim: heaps by place, contracts over them; each rule out of a row of the kit ===== -/
/-- a cell: an object (class, fields), a row of ints (kind 0 int, 1 byte, 2 boolean), of longs, of references (kind 0, 1) -/
abbrev zE : Type := (Nat × List Value) ⊕ ((Nat × Nat × (Nat → Int32)) ⊕ ((Nat × (Nat → Int64)) ⊕ (Nat × Nat × (Nat → Option Nat))))
abbrev zO (ci : Nat) (fs : List Value) : zE := .inl (ci, fs)
abbrev zI (t n : Nat) (f : Nat → Int32) : zE := .inr (.inl (t, n, f))
abbrev zL (n : Nat) (f : Nat → Int64) : zE := .inr (.inr (.inl (n, f)))
abbrev zR (t n : Nat) (f : Nat → Option Nat) : zE := .inr (.inr (.inr (t, n, f)))
/-- a heap: how many cells, how many places in them, the cells -/
abbrev zH : Type := Nat × (Nat × (Nat → zE))
def zsz : zE → Nat
  | .inl (_, fs) => fs.length
  | .inr (.inl (_, n, _)) => n
  | .inr (.inr (.inl (n, _))) => n
  | .inr (.inr (.inr (_, n, _))) => n
/-- base, class tables, classes of rows, outer cells -/
abbrev zG : Type := Nat × (va_G × ((Nat → ClassId) × (Nat → Nat)))
def zv (G : zG) : Value → Value
  | .ref k => .ref (G.1 + k)
  | .retAddr k => .ref (G.2.2.2 k)
  | v => v
theorem zv_cat (G : zG) (v : Value) : v ≠ .retAddr 0 ∨ True → (zv G v).category = v.category := fun _ => by cases v <;> rfl
theorem zv_cats (G : zG) (st : List Value) : ((st.map (zv G)).map fun v => v.category) = st.map fun v => v.category := by
  induction st with
  | nil => rfl
  | cons v l ih => simp only [List.map_cons, ih, zv_cat G v (Or.inr trivial)]
abbrev zTags : List FieldType := [.int, .byte, .boolean, .long, .object "BallotRing$Ballot", .object "BallotRing$Earnest"]
def zT (G : zG) : List (ClassId × FieldType) := [(G.2.2.1 0, .int), (G.2.2.1 1, .byte), (G.2.2.1 2, .boolean), (G.2.2.1 3, .long), (G.2.2.1 4, .object "BallotRing$Ballot"), (G.2.2.1 5, .object "BallotRing$Earnest")]
def zc (G : zG) : zE → va_E
  | .inl (ci, fs) => .inr (ci, fs.map (zv G))
  | .inr (.inl (t, n, f)) => .inl (G.2.2.1 t, n, .inl f)
  | .inr (.inr (.inl (n, f))) => .inl (G.2.2.1 3, n, .inr (.inl f))
  | .inr (.inr (.inr (t, n, f))) => .inl (G.2.2.1 (4 + t), n, .inr (.inr (.inr (.inr fun j => (f j).map (G.1 + ·)))))
def zw (G : zG) (h : zH) : va_W := (List.range h.1).map fun k => (G.1 + k, zc G (h.2.2 k))
/-- a cell set -/
def zs (h : zH) (a : Nat) (e : zE) : zH := (h.1, h.2.1, va_up h.2.2 a e)
/-- a cell made -/
def zn (h : zH) (e : zE) : zH := (h.1 + 1, h.2.1 + zsz e, va_up h.2.2 h.1 e)
/-- cell a holds e -/
def zg (h : zH) (a : Nat) (e : zE) : Prop := a < h.1 ∧ h.2.2 a = e
theorem zg_s {h : zH} {a : Nat} {e e0 : zE} (ha : zg h a e0) : zg (zs h a e) a e := ⟨ha.1, by simp [zs, va_up]⟩
theorem zg_o {h : zH} {a b : Nat} {e e0 : zE} (hb : b ≠ a) (ha : zg h b e0) : zg (zs h a e) b e0 := ⟨ha.1, by simp [zs, va_up, hb, ha.2]⟩
theorem zg_n {h : zH} {e : zE} : zg (zn h e) h.1 e := ⟨Nat.lt_succ_self _, by simp [zn, va_up]⟩
theorem zg_k {h : zH} {b : Nat} {e e0 : zE} (ha : zg h b e0) : zg (zn h e) b e0 := ⟨Nat.lt_succ_of_lt ha.1, by have := ha.1; simp [zn, va_up, Nat.ne_of_lt this, ha.2]⟩
theorem zw_len (G : zG) (h : zH) : (zw G h).length = h.1 := by simp [zw]
theorem zw_get (G : zG) (h : zH) {k : Nat} (hk : k < h.1) : (zw G h)[k]? = some (G.1 + k, zc G (h.2.2 k)) := by
  simp [zw, List.getElem?_map, List.getElem?_range hk]
theorem zw_at {G : zG} {h : zH} {k : Nat} {e : zE} (hk : zg h k e) : (zw G h)[k]? = some (G.1 + k, zc G e) := by rw [zw_get G h hk.1, hk.2]
theorem zw_inv {G : zG} {h : zH} {k : Nat} {q : Nat × va_E} (hq : (zw G h)[k]? = some q) : k < h.1 ∧ q = (G.1 + k, zc G (h.2.2 k)) := by
  have hk : k < h.1 := by rw [← zw_len G h]; exact (List.getElem?_eq_some_iff.mp hq).1
  rw [zw_get G h hk] at hq
  exact ⟨hk, (Option.some.inj hq).symm⟩
theorem zw_set (G : zG) (h : zH) {a : Nat} (e : zE) (ha : a < h.1) : (zw G h).set a (G.1 + a, zc G e) = zw G (zs h a e) := by
  apply List.ext_getElem?
  intro k
  by_cases hk : k < h.1
  · rw [zw_get G (zs h a e) hk]
    by_cases hka : k = a
    · subst hka
      rw [List.getElem?_set_self (by rw [zw_len]; exact hk)]
      simp [zs, va_up]
    · rw [List.getElem?_set_ne (Ne.symm hka), zw_get G h hk]
      simp [zs, va_up, hka]
  · rw [List.getElem?_eq_none (by rw [List.length_set, zw_len]; omega), List.getElem?_eq_none (by rw [zw_len]; exact Nat.not_lt.mp hk)]
theorem zw_push (G : zG) (h : zH) (e : zE) : zw G h ++ [(G.1 + h.1, zc G e)] = zw G (zn h e) := by
  simp only [zw, zn, List.range_succ, List.map_append, List.map_cons, List.map_nil]
  congr 1
  · apply List.map_congr_left
    intro k hk
    have : k < h.1 := List.mem_range.mp hk
    simp [va_up, Nat.ne_of_lt this]
  · simp [va_up]
/-- what a run may change: what it made -/
def zA (G : zG) : Nat → Prop := fun q => G.1 ≤ q
theorem zw_D (G : zG) (h : zH) : va_D (zA G) (zw G h) := by
  refine ⟨fun i j p q hi hj hpq => ?_, fun k q hk => ?_⟩
  · obtain ⟨-, rfl⟩ := zw_inv hi
    obtain ⟨-, rfl⟩ := zw_inv hj
    have : G.1 + i = G.1 + j := hpq
    omega
  · obtain ⟨-, rfl⟩ := zw_inv hk
    exact Nat.le_add_right _ _
def zSim (G : zG) (h : zH) (H : Heap) : Prop := H.size = G.1 + h.1 ∧ va_P G.2.1 vwCl (zw G h) H
/-! words -/
def zbig : List Cond := lw_tbl.filter goodWord
theorem zin {w : Cond} (i : Nat) (h : lw_tbl[i]? = some w) (hg : goodWord w = true) : w ∈ zbig := List.mem_filter.mpr ⟨List.mem_of_getElem? h, hg⟩
theorem zbig_good : ∀ w ∈ zbig, (w.onTables && w.keeps) = true ∨ ∃ ty, w = .arrayClass ty := fun w h => good_of_word (List.mem_filter.mp h).2
def zNest : Cond → Bool
  | .fieldLinkNest .. => true
  | .methodLinkNest .. => true
  | _ => false
def zbind : Nat → Int32 := fun j => [0, 0, 0, 0, 1, 2, 3, 4, 4, 4, 5, 5].getD j 0
/-- the texts' bytes -/
def zbyt : List (List Int32) := [("name street voter at weight ballot if then else blank as most in fewest or and not votes blanks is ".toList.map fun c => Int32.ofNat c.toNat), (";()<>=+-".toList.map fun c => Int32.ofNat c.toNat)]
def zlen : List Nat := [99, 8]
/-- outer cells: 0 the script, 1 the row of bindings, 2, 3 the texts, 4, 5 their bytes -/
def zExt (G : zG) (U : State) (H : Heap) : Prop :=
  va_Z "BallotRing" "BINDING" "[I" (.ref (G.2.2.2 1)) (zA G) U H ∧ va_T .int (G.2.2.2 1) 12 (fun j => .int (zbind j)) (zA G) U H ∧ va_Z "java/lang/String" "COMPACT_STRINGS" "Z" (.int 1) (zA G) U H ∧
  vk_S 2 zlen zbyt (fun i => G.2.2.2 (2 + i)) (fun i => G.2.2.2 (4 + i)) (zA G) U H
/-- a static that is carried, never looked at: null, or outer cell 6 -/
def zsio (G : zG) (U : State) (H : Heap) : Prop := va_Z "jdk/internal/util/Preconditions" "SIOOBE_FORMATTER" "Ljava/util/function/BiFunction;" .null (zA G) U H ∨ va_Z "jdk/internal/util/Preconditions" "SIOOBE_FORMATTER" "Ljava/util/function/BiFunction;" (.ref (G.2.2.2 6)) (zA G) U H
theorem zsio.moved {G : zG} {u U : State} {H : Heap} (hvm : u.vm.Alike U.vm) (h : zsio G u H) : zsio G U H := h.imp (va_Z.moved hvm) (va_Z.moved hvm)
theorem zsio.kept {G : zG} {U : State} {H H1 : Heap} (h : zsio G U H) (hq : ∀ a : Nat, a < H.size → ¬ zA G a → H1[a]? = H[a]?) : zsio G U H1 := h.imp (fun z => z.kept hq) (fun z => z.kept hq)
def zF (G : zG) (U : State) (H : Heap) : Prop :=
  va_K G.2.1 vwCl (zT G) U ∧ (∀ w ∈ lw_tbl, zNest w = true → va_Nw w U) ∧ (va_AO "BallotRing$Ballot" U ∧ va_AO "BallotRing$Earnest" U) ∧ zExt G U H ∧
  (vk_R RX8 28 "name street voter at weight ballot if then else blank as most in fewest or and not votes blanks is " (G.2.2.2 2) U ∧ (vk_R RX8 99 ";()<>=+-" (G.2.2.2 3) U ∧ zsio G U H))
theorem zExt.moved {G : zG} {u U : State} {H : Heap} (hvm : u.vm.Alike U.vm) (h : zExt G u H) : zExt G U H := ⟨h.1.moved hvm, h.2.1.moved hvm, h.2.2.1.moved hvm, h.2.2.2.moved hvm⟩
theorem zExt.kept {G : zG} {U : State} {H H1 : Heap} (h : zExt G U H) (hq : ∀ a : Nat, a < H.size → ¬ zA G a → H1[a]? = H[a]?) : zExt G U H1 := ⟨h.1.kept hq, h.2.1.kept hq, h.2.2.1.kept hq, h.2.2.2.kept hq⟩
theorem zF.moved {G : zG} {s U : State} {H : Heap} (hW : s.WarmedH U.vm) (h : zF G s H) : zF G U H := by
  obtain ⟨h1, h2, ⟨h3, h4⟩, h5, h6, h7, h8⟩ := h
  refine ⟨h1.moved hW.alike, fun w hw hn => ?_, ⟨h3.moved hW.alike, h4.moved hW.alike⟩, h5.moved hW.alike, h6.warm hW, h7.warm hW, h8.moved hW.alike⟩
  have := h2 w hw hn
  cases w <;> first | exact va_Nw.warmF hW this | exact va_Nw.warmM hW this | (simp [zNest] at hn)
theorem zF.same {G : zG} {s U : State} {H : Heap} (he : s.vm = U.vm) (h : zF G s H) : zF G U H := by
  obtain ⟨h1, h2, ⟨h3, h4⟩, h5, h6, h7, h8⟩ := h
  have hA : s.vm.Alike U.vm := by rw [he]; exact Vm.Alike.refl _
  refine ⟨h1.moved hA, fun w hw hn => ?_, ⟨h3.moved hA, h4.moved hA⟩, h5.moved hA, h6.same he.symm, h7.same he.symm, h8.moved hA⟩
  have := h2 w hw hn
  cases w <;> first | exact va_Nw.same rfl he this | (simp [zNest] at hn)
theorem zF.kept {G : zG} {U : State} {H H1 : Heap} (h : zF G U H) (hq : ∀ a : Nat, a < H.size → ¬ zA G a → H1[a]? = H[a]?) : zF G U H1 := ⟨h.1, h.2.1, h.2.2.1, h.2.2.2.1.kept hq, h.2.2.2.2.1, h.2.2.2.2.2.1, h.2.2.2.2.2.2.kept hq⟩
/-! the judgement -/
/-- a method: its name, code, locals, what it returns, the frames and words below it -/
abbrev zM : Type := MethodName × (ByteArray × (Nat × (Option FieldType × (Nat × Nat))))
def zws (M : zM) : List Cond := .code M.1 M.2.1 M.2.2.1 M.2.2.2.1 :: zbig
def zrm (M : zM) (mc ms : Nat) : Room := { frames := M.2.2.2.2.1, cells := mc, slots := ms, locals := M.2.2.2.2.2 }
/-- a standing: program, launch, surroundings, first state, method, arguments, frames below, method, code, what is to come -/
abbrev zK : Type := Program × (Launch × (Env × (State × (MethodId × (Array Value × (List Frame × (Method × (Code × (State → Prop)))))))))
abbrev zK.s (κ : zK) : State := κ.2.2.2.1
/-- what a method's body may lean on -/
def zCx (G : zG) (M : zM) (mc ms : Nat) (κ : zK) : Prop := match κ with
  | (p, _, _, s, m, args, _, _, c, _) => p.tables.exec = Jvm.exec ∧ c.code = M.2.1 ∧ c.maxLocals = M.2.2.1 ∧ s.vm.findClass M.1.cls = some m.cls ∧ (∀ w ∈ zbig, w.before args s = true) ∧ zF G s s.heap ∧ G.1 ≤ s.heap.size
/-- locals: place by place; a float: unknown -/
def zls (G : zG) (ls : Array Slot) (nL : Nat) (L : List Value) : Prop := ls.size = nL ∧ lv_wf ls ∧ ∀ (i : Nat) (v : Value), L[i]? = some v → v ≠ .float 0 → ls[i]? = some (.val (zv G v))
def zW (G : zG) (M : zM) (mc ms : Nat) (κ : zK) (k n pc : Nat) (L st : List Value) (h : zH) : Prop := match κ with
  | (p, l, e, s, m, args, below, meth, c, Q) => ∀ (H : Heap) (locs : List Loc) (ls : Array Slot), zSim G h H → va_S (zA G) s.heap H locs → zls G ls M.2.2.1 L → W p l e (zrm M mc ms) s m args below meth c H locs k n Q (F0 m pc ls (st.map (zv G)))
/-- a method's end -/
def zQc (G : zG) (Q : Option Value → zH → Prop) : Array Value → State → Outcome → State → Prop := fun _ st o t => (∃ (r : Option Value) (h' : zH), o = .returned (r.map (zv G)) ∧ Q r h' ∧ zSim G h' t.heap) ∧ va_F (zA G) st t
/-- how a method may end: its answer's kind -/
def zCr (G : zG) (M : zM) (mc ms : Nat) (Q : Option Value → zH → Prop) (κ : zK) : Prop := match κ with
  | (_, _, _, s, _, args, below, meth, _, q) => meth.sig.returnType = M.2.2.2.1 ∧ meth.locks = false ∧ meth.name = M.1.name ∧ q = MQ below (zQc G Q) args s mc ms (zA G)
/-- A CONTRACT: from heap h, called on as, the method returns, and Q holds of its answer and the heap then; at most mc cells of ms places are new -/
def zCn (M : zM) (as : List Value) (h : zH) (mc ms : Nat) (Q : Option Value → zH → Prop) : Prop := ∀ (l : Launch) (G : zG), Met l M.1 (zws M) (zrm M mc ms) (va_Pc (as.map (zv G)) (fun U => zSim G h U.heap ∧ zF G U U.heap ∧ G.1 ≤ U.heap.size)) (zQc G Q) mc ms (zA G)
/-- the locals at a method's entry -/
def zen : Nat → List Value → List Value
  | n, [] => List.replicate n (.float 0)
  | n, v :: vs => if v.category = 2 then v :: .float 0 :: zen (n - 2) vs else v :: zen (n - 1) vs
theorem zen_at (G : zG) : ∀ (vs : List Value) (n k : Nat), (∀ v ∈ vs, v ≠ .float 0) → ∀ (i : Nat) (v : Value), (zen n vs)[i]? = some v → v ≠ .float 0 → (k + i, zv G v) ∈ lv_args k (vs.map (zv G))
  | [], n, k, hv, i, v, h, h0 => by
    exfalso
    simp only [zen] at h
    rw [List.getElem?_replicate] at h
    split at h
    · exact h0 (Option.some.inj h).symm
    · cases h
  | w :: vs, n, k, hv, i, v, h, h0 => by
    have hvs : ∀ v ∈ vs, v ≠ .float 0 := fun v hm => hv v (List.mem_cons_of_mem _ hm)
    simp only [List.map_cons, lv_args]
    have hc : (zv G w).category = w.category := zv_cat G w (Or.inr trivial)
    rw [hc]
    simp only [zen] at h
    by_cases hw : w.category = 2
    · rw [if_pos hw] at h
      rw [if_pos hw]
      match i with
      | 0 => cases h; exact List.mem_cons_self
      | 1 => exfalso; cases h; exact h0 rfl
      | i + 2 =>
        have h' : (zen (n - 2) vs)[i]? = some v := h
        have := zen_at G vs (n - 2) (k + 2) hvs i v h' h0
        rw [show k + 2 + i = k + (i + 2) by omega] at this
        exact List.mem_cons_of_mem _ this
    · rw [if_neg hw] at h
      rw [if_neg hw]
      match i with
      | 0 => cases h; exact List.mem_cons_self
      | i + 1 =>
        have h' : (zen (n - 1) vs)[i]? = some v := h
        have := zen_at G vs (n - 1) (k + 1) hvs i v h' h0
        rw [show k + 1 + i = k + (i + 1) by omega] at this
        exact List.mem_cons_of_mem _ this
/-- A CONTRACT OUT OF A WALK -/
theorem zCn_of {M : zM} {as : List Value} {h : zH} {mc ms : Nat} {Q : Option Value → zH → Prop} (hy : plainName M.1.cls = true) (hv : ∀ v ∈ as, v ≠ .float 0) (hl : ((as.map fun v => v.category).sum) ≤ M.2.2.1)
    (body : ∀ (G : zG) (κ : zK), zCx G M mc ms κ → zCr G M mc ms Q κ → (zK.s κ).heap.size = G.1 + h.1 → zW G M mc ms κ 0 0 0 (zen M.2.2.1 as) [] h) : zCn M as h mc ms Q := by
  intro l G
  refine Met.ofW (cc := M.2.1) (maxL := M.2.2.1) (ret := M.2.2.2.1) hy rfl ?_
  intro p e s m args below meth c s₁ B hml hpc
  obtain ⟨rfl, hsim, hF, hG⟩ := hpc
  have hts := atoms_spec (ws := zws M) B.pre
  have hown : s.vm.findClass M.1.cls = some m.cls := findClass_of_methodNamed B.named
  have C : zCx G M mc ms (p, l, e, s, m, (as.map (zv G)).toArray, below, meth, c, MQ below (zQc G Q) (as.map (zv G)).toArray s mc ms (zA G)) := ⟨B.exec, B.bytes, hml, hown, fun w hw => hts w (List.mem_cons_of_mem _ hw), hF, hG⟩
  have K := body G _ C ⟨B.returns, B.notSynchronized, (name_of_methodNamed B.named B.method).1, rfl⟩ hsim.1
  rw [lg_entry_eq]
  have hlen : (lg_sl (as.map (zv G))).length = (as.map fun v => v.category).sum := by
    clear K C hts hown hsim hF hG hml B hl body hv
    induction as with
    | nil => rfl
    | cons v l ih =>
      have hc : (zv G v).category = v.category := zv_cat G v (Or.inr trivial)
      simp only [lg_sl, List.map_cons, List.flatMap_cons, List.length_append, List.sum_cons] at ih ⊢
      rw [ih, hc]
      rcases lv_cat v with h | h <;> simp [h]
  have hent := lv_entry (as.map (zv G)) (n := M.2.2.1) (by rw [hlen]; exact hl)
  refine K s.heap [] _ hsim va_S.rf ⟨hent.1, hent.2.1, fun i v hi h0 => ?_⟩
  have := hent.2.2 _ (zen_at G as M.2.2.1 0 hv i v hi h0)
  simpa using this

/-! ===== calls, flat; facts that stores keep; less known of the locals ===== -/
theorem f_callV {G : zG} {M M' : zM} {mc ms : Nat} {κ : zK} {ck cn pc : Nat} {L st st0 : List Value} {h : zH} (C : zCx G M mc ms κ) {ix n b ci mc' ms' : Nat} (as : List Value) {Q' : Option Value → zH → Prop} {T : u_T} {N : Nat} (hM : zCn M' (.ref b :: as) h mc' ms' Q') (hk : zMk M' n) (hv : zMv M') (hl : Cond.methodLink M.1.cls ix M'.1 ∈ zbig) (hR : zRm M M') (hc : vwCl[ci]? = some (M'.1.cls, T, N)) (ho : oK h b ci) (hn : as.length = n) (hck : ck + mc' ≤ mc ∧ cn + ms' ≤ ms) (hst : (st.map fun v => v.category).sum ≤ 8) (e0 : st0 = as.reverse ++ .ref b :: st) (hd : decode M.2.1 pc = .ok (.invokevirtual ix, 3)) (kk : ∀ (r : Option Value) (h' : zH), Q' r h' → zW G M mc ms κ (ck + mc') (cn + ms') (pc + 3) L (r.toList ++ st) h') : zW G M mc ms κ ck cn pc L st0 h := by
  obtain ⟨h1, fs, h2, -⟩ := ho
  exact x_callV C as hM hk hv hl hR hc ⟨h1, h2⟩ hn hck hst e0 hd kk
theorem f_callVN {G : zG} {M M' : zM} {mc ms : Nat} {κ : zK} {ck cn pc : Nat} {L st st0 : List Value} {h : zH} (C : zCx G M mc ms κ) {ix n b ci mc' ms' : Nat} (as : List Value) {Q' : Option Value → zH → Prop} {T : u_T} {N : Nat} {host : String} (hM : zCn M' (.ref b :: as) h mc' ms' Q') (hk : zMk M' n) (hv : zMv M') (hl : Cond.methodLinkNest M.1.cls ix M'.1 host ∈ lw_tbl) (hR : zRm M M') (hc : vwCl[ci]? = some (M'.1.cls, T, N)) (ho : oK h b ci) (hn : as.length = n) (hck : ck + mc' ≤ mc ∧ cn + ms' ≤ ms) (hst : (st.map fun v => v.category).sum ≤ 8) (e0 : st0 = as.reverse ++ .ref b :: st) (hd : decode M.2.1 pc = .ok (.invokevirtual ix, 3)) (kk : ∀ (r : Option Value) (h' : zH), Q' r h' → zW G M mc ms κ (ck + mc') (cn + ms') (pc + 3) L (r.toList ++ st) h') : zW G M mc ms κ ck cn pc L st0 h := by
  obtain ⟨h1, fs, h2, -⟩ := ho
  exact x_callVN C as hM hk hv hl hR hc ⟨h1, h2⟩ hn hck hst e0 hd kk
/-- Math.max, Math.min -/
theorem f_mmax {G : zG} {M : zM} {mc ms : Nat} {κ : zK} {ck cn pc : Nat} {L st : List Value} {h : zH} (C : zCx G M mc ms κ) {ix : Nat} {x y : Int32} (hl : Cond.methodLink M.1.cls ix Lib.Math.max.name ∈ zbig) (hs : Cond.static Lib.Math.max.name ∈ zbig) (hi : Cond.initialized "java/lang/Math" ∈ zbig) (hco : Cond.code Lib.Math.max.name Lib.Math.max.code 2 (some .int) ∈ zbig) (hR : 1 ≤ M.2.2.2.2.1 ∧ 24 ≤ M.2.2.2.2.2) (hck : ck ≤ mc ∧ cn ≤ ms) (hst : (st.map fun v => v.category).sum ≤ 8) (hd : decode M.2.1 pc = .ok (.invokestatic ix, 3)) (kk : zW G M mc ms κ ck cn (pc + 3) L (.int (if x < y then y else x) :: st) h) : zW G M mc ms κ ck cn pc L (.int y :: .int x :: st) h := by
  obtain ⟨p, l, e, s, m, args, below, meth, c, Q⟩ := κ
  obtain ⟨hx, hb, hml, hown, hts, hF, hG⟩ := C
  intro H locs ls hsim hS hls
  exact va_mmax hx hb (hml.trans hls.1.symm) hown (hts _ hl) (hts _ hs) (hts _ hi) (hts _ hco) hR.1 (by rw [zv_cats]; exact Nat.le_trans (Nat.add_le_add_right hst 13) (Nat.le_trans (by decide) hR.2)) hck.1 hck.2 hd (kk H locs ls hsim hS hls)
theorem f_mmin {G : zG} {M : zM} {mc ms : Nat} {κ : zK} {ck cn pc : Nat} {L st : List Value} {h : zH} (C : zCx G M mc ms κ) {ix : Nat} {x y : Int32} (hl : Cond.methodLink M.1.cls ix Lib.Math.min.name ∈ zbig) (hs : Cond.static Lib.Math.min.name ∈ zbig) (hi : Cond.initialized "java/lang/Math" ∈ zbig) (hco : Cond.code Lib.Math.min.name Lib.Math.min.code 2 (some .int) ∈ zbig) (hR : 1 ≤ M.2.2.2.2.1 ∧ 24 ≤ M.2.2.2.2.2) (hck : ck ≤ mc ∧ cn ≤ ms) (hst : (st.map fun v => v.category).sum ≤ 8) (hd : decode M.2.1 pc = .ok (.invokestatic ix, 3)) (kk : zW G M mc ms κ ck cn (pc + 3) L (.int (if y < x then y else x) :: st) h) : zW G M mc ms κ ck cn pc L (.int y :: .int x :: st) h := by
  obtain ⟨p, l, e, s, m, args, below, meth, c, Q⟩ := κ
  obtain ⟨hx, hb, hml, hown, hts, hF, hG⟩ := C
  intro H locs ls hsim hS hls
  exact va_mmin hx hb (hml.trans hls.1.symm) hown (hts _ hl) (hts _ hs) (hts _ hi) (hts _ hco) hR.1 (by rw [zv_cats]; exact Nat.le_trans (Nat.add_le_add_right hst 13) (Nat.le_trans (by decide) hR.2)) hck.1 hck.2 hd (kk H locs ls hsim hS hls)
/-- a switch by its table -/
def ztt (pc : Nat) (dflt lo hi : Int) (offs : List Int) (x : Int32) : Nat := if x.toInt < lo ∨ hi < x.toInt then ((pc : Int) + dflt).toNat else ((pc : Int) + offs.getD (x.toInt - lo).toNat 0).toNat
theorem f_table {G : zG} {M : zM} {mc ms : Nat} {κ : zK} {ck cn pc : Nat} {L st : List Value} {h : zH} (C : zCx G M mc ms κ) {dflt lo hi : Int} {offs : Array Int} {len : Nat} {x : Int32} (hz : ((pc : Int) + dflt ≥ 0 ∧ offs.toList.all (fun o => decide ((pc : Int) + o ≥ 0)) = true) ∧ (offs.size : Int) = hi - lo + 1) (hd : decode M.2.1 pc = .ok (.tableswitch dflt lo hi offs, len)) (kk : zW G M mc ms κ ck cn (ztt pc dflt lo hi offs.toList x) L st h) : zW G M mc ms κ ck cn pc L (.int x :: st) h := by
  obtain ⟨⟨hz1, hz2⟩, hz3⟩ := hz
  by_cases hc : x.toInt < lo ∨ hi < x.toInt
  · rw [ztt, if_pos hc] at kk
    exact x_tableOut C _ hc hd (by omega) kk
  · rw [ztt, if_neg hc] at kk
    have hlt : (x.toInt - lo).toNat < offs.size := by omega
    have ho : offs[(x.toInt - lo).toNat]? = some (offs.toList.getD (x.toInt - lo).toNat 0) := by
      rw [List.getD_eq_getElem?_getD, Array.getElem?_toList, Array.getElem?_eq_getElem hlt]; rfl
    have hmem : offs.toList.getD (x.toInt - lo).toNat 0 ∈ offs.toList := by
      rw [List.getD_eq_getElem?_getD, Array.getElem?_toList, Array.getElem?_eq_getElem hlt]
      exact Array.mem_def.mp (Array.getElem_mem hlt)
    have h0 := of_decide_eq_true (List.all_eq_true.mp hz2 _ hmem)
    exact x_tableIn C _ (fun z => hc (Or.inl z)) (fun z => hc (Or.inr z)) ho hd (by omega) kk
theorem oK_one {h : zH} {a c d : Nat} (h1 : oK h a c) (h2 : oK h a d) : c = d := by
  obtain ⟨-, fs, e1, -⟩ := h1
  obtain ⟨-, gs, e2, -⟩ := h2
  have := e1.symm.trans e2
  simp at this
  exact this.1
theorem oK_pF' {h : zH} {a b k c ci t : Nat} {v : Value} (ha : oK h a c) (hk : (zkd c)[k]? = some t) (hv : zm t v = true) (ho : oK h b ci) : oK (pF h a k v) b ci :=
  oK_pF (fun d u hd hu => by cases oK_one ha hd; cases hk.symm.trans hu; exact hv) ho
theorem oK_new {h : zH} {ci : Nat} {fs : List Value} (hf : zmt (zkd ci) fs = true) : oK (zn h (zO ci fs)) h.1 ci := ⟨Nat.lt_succ_self _, fs, zn_at, hf⟩
theorem iK_new {h : zH} {t n : Nat} {f : Nat → Int32} : iK (zn h (zI t n f)) h.1 t := ⟨Nat.lt_succ_self _, n, f, zn_at⟩
theorem lK_new {h : zH} {n : Nat} {f : Nat → Int64} : lK (zn h (zL n f)) h.1 := ⟨Nat.lt_succ_self _, n, f, zn_at⟩
theorem rK_new {h : zH} {t n : Nat} {f : Nat → Option Nat} : rK (zn h (zR t n f)) h.1 t := ⟨Nat.lt_succ_self _, n, f, zn_at⟩
theorem zmr (o : Option Nat) : zm 2 (zr o) = true := by cases o <;> rfl
def wkR (vs ws : List Value) : Prop := ∀ (i : Nat) (v : Value), vs[i]? = some v → v ≠ .float 0 → ws[i]? = some v
theorem wkN {ws : List Value} : wkR [] ws := fun i v h => by simp at h
theorem wkK {v : Value} {vs ws : List Value} (h : wkR vs ws) : wkR (v :: vs) (v :: ws) := fun i w hi h0 => by
  cases i with
  | zero => exact hi
  | succ i => exact h i w hi h0
theorem wkD {w : Value} {vs ws : List Value} (h : wkR vs ws) : wkR (.float 0 :: vs) (w :: ws) := fun i u hi h0 => by
  cases i with
  | zero => exact absurd (Option.some.inj hi).symm h0
  | succ i => exact h i u hi h0
theorem zX_wk {M : zM} {pc : Nat} {L L' st : List Value} {h : zH} {Q : Option Value → zH → Prop} (hL : wkR L' L) (kk : zX M pc L' st h Q) : zX M pc L st h Q := zX_weak hL kk
/-- a field that isn't null -/
theorem f_getR1 {G : zG} {M : zM} {mc ms : Nat} {κ : zK} {ck cn pc : Nat} {L st : List Value} {h : zH} (C : zCx G M mc ms κ) {a ix ci k b : Nat} (hf : zFL M.1.cls ix ci k) (ho : oK h a ci) (hk : (zkd ci)[k]? = some 2) (e : gR h a k = some b) (hd : decode M.2.1 pc = .ok (.getfield ix, 3)) (kk : zW G M mc ms κ ck cn (pc + 3) L (.ref b :: st) h) : zW G M mc ms κ ck cn pc L (.ref a :: st) h := f_getR C hf ho hk hd (by rw [e]; exact kk)
theorem f_getR1N {G : zG} {M : zM} {mc ms : Nat} {κ : zK} {ck cn pc : Nat} {L st : List Value} {h : zH} (C : zCx G M mc ms κ) {a ix ci k b : Nat} (hf : zFLN M.1.cls ix ci k) (ho : oK h a ci) (hk : (zkd ci)[k]? = some 2) (e : gR h a k = some b) (hd : decode M.2.1 pc = .ok (.getfield ix, 3)) (kk : zW G M mc ms κ ck cn (pc + 3) L (.ref b :: st) h) : zW G M mc ms κ ck cn pc L (.ref a :: st) h := f_getRN C hf ho hk hd (by rw [e]; exact kk)
theorem f_ifnull {G : zG} {M : zM} {mc ms : Nat} {κ : zK} {ck cn pc : Nat} {L st : List Value} {h : zH} (C : zCx G M mc ms κ) {o : Option Nat} {off : Int} (tgt : Nat) (hd : decode M.2.1 pc = .ok (.ifnull off, 3)) (ht : (pc : Int) + off = (tgt : Int)) (kt : o = none → zW G M mc ms κ ck cn tgt L st h) (kf : ¬ o = none → zW G M mc ms κ ck cn (pc + 3) L st h) : zW G M mc ms κ ck cn pc L (zr o :: st) h := by
  cases o with
  | none => exact x_ifnullN C tgt hd ht (kt rfl)
  | some a => exact x_ifnull C hd (kf (fun z => by cases z))
theorem f_ifnonnull {G : zG} {M : zM} {mc ms : Nat} {κ : zK} {ck cn pc : Nat} {L st : List Value} {h : zH} (C : zCx G M mc ms κ) {o : Option Nat} {off : Int} (tgt : Nat) (hd : decode M.2.1 pc = .ok (.ifnonnull off, 3)) (ht : (pc : Int) + off = (tgt : Int)) (kt : o = none → zW G M mc ms κ ck cn (pc + 3) L st h) (kf : ¬ o = none → zW G M mc ms κ ck cn tgt L st h) : zW G M mc ms κ ck cn pc L (zr o :: st) h := by
  cases o with
  | none => exact x_ifnonnullN C hd (kt rfl)
  | some a => exact x_ifnonnull C tgt hd ht (kf (fun z => by cases z))
theorem ztt_d {pc : Nat} {dflt lo hi : Int} {offs : List Int} {x : Int32} (ks : List Int32) (hks : (List.range offs.length).all (fun j => offs.getD j 0 == dflt || ks.any (fun k => k.toInt == lo + j)) = true) (hl : (offs.length : Int) = hi - lo + 1) (h : ∀ k ∈ ks, ¬ x = k) : ztt pc dflt lo hi offs x = ((pc : Int) + dflt).toNat := by
  unfold ztt
  split
  · rfl
  · next hc =>
    have hlt : (x.toInt - lo).toNat < offs.length := by omega
    have h1 := List.all_eq_true.mp hks _ (List.mem_range.mpr hlt)
    rcases Bool.or_eq_true _ _ ▸ h1 with h2 | h2
    · rw [beq_iff_eq.mp h2]
    · obtain ⟨k, hk, e⟩ := List.any_eq_true.mp h2
      have e' := beq_iff_eq.mp e
      exact absurd (Int32.toInt_inj.mp (by omega)) (h k hk)
/-- a switch by its pairs -/
def zlt (pc : Nat) (dflt : Int) (ps : List (Int × Int)) (x : Int32) : Nat := ((pc : Int) + Op.lookupswitch.offset ps dflt x.toInt).toNat
theorem zlt_d {pc : Nat} {dflt : Int} {ps : List (Int × Int)} {x : Int32} (ks : List Int32) (hks : ps.all (fun q => ks.any (fun k => k.toInt == q.1)) = true) (h : ∀ k ∈ ks, ¬ x = k) : zlt pc dflt ps x = ((pc : Int) + dflt).toNat := by
  unfold zlt
  congr 2
  induction ps with
  | nil => rfl
  | cons q ps ih =>
    obtain ⟨a, o⟩ := q
    rw [Op.lookupswitch.offset_cons]
    simp only [List.all_cons, Bool.and_eq_true] at hks
    obtain ⟨k, hk, e⟩ := List.any_eq_true.mp hks.1
    have e' : k.toInt = a := beq_iff_eq.mp e
    rw [if_neg (fun z => h k hk (Int32.toInt_inj.mp (by omega)))]
    exact ih hks.2
theorem f_lookup {G : zG} {M : zM} {mc ms : Nat} {κ : zK} {ck cn pc : Nat} {L st : List Value} {h : zH} (C : zCx G M mc ms κ) {dflt : Int} {ps : Array (Int × Int)} {len : Nat} {x : Int32} (hp : (ps.toList.zip (ps.toList.drop 1)).all (fun (a, next) => a.1 < next.1) = true) (hz : (pc : Int) + dflt ≥ 0 ∧ ps.toList.all (fun q => decide ((pc : Int) + q.2 ≥ 0)) = true) (hd : decode M.2.1 pc = .ok (.lookupswitch dflt ps, len)) (kk : zW G M mc ms κ ck cn (zlt pc dflt ps.toList x) L st h) : zW G M mc ms κ ck cn pc L (.int x :: st) h := by
  refine x_lookup C _ hp rfl hd ?_ kk
  have : ∀ l : List (Int × Int), l.all (fun q => decide ((pc : Int) + q.2 ≥ 0)) = true → (pc : Int) + Op.lookupswitch.offset l dflt x.toInt ≥ 0 := by
    intro l
    induction l with
    | nil => intro _; exact hz.1
    | cons q l ih =>
      intro h
      simp only [List.all_cons, Bool.and_eq_true, decide_eq_true_eq] at h
      obtain ⟨a, o⟩ := q
      rw [Op.lookupswitch.offset_cons]
      split
      · exact h.1
      · exact ih h.2
  have := this _ hz.2
  unfold zlt
  omega

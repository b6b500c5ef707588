/-! ===== rules of the heap ===== -/
/-- field link ix of class own: field k of class ci -/
def zFL (own : String) (ix ci k : Nat) : Prop := ∃ (C : String) (T : u_T) (N : Nat), vwCl[ci]? = some (C, T, N) ∧ k < N ∧ Cond.fieldLink own ix (T k).1 (T k).2.1 (T k).2.2.1 ∈ zbig ∧ ∀ w ∈ u_ws C T N, w ∈ zbig
def zFLN (own : String) (ix ci k : Nat) : Prop := ∃ (C : String) (T : u_T) (N : Nat) (host : String), vwCl[ci]? = some (C, T, N) ∧ k < N ∧ Cond.fieldLinkNest own ix (T k).1 (T k).2.1 (T k).2.2.1 host ∈ lw_tbl ∧ ∀ w ∈ u_ws C T N, w ∈ zbig
/-- what is known of class ci: its fields' types -/
def zCl (ci : Nat) (ty : Nat → FieldType) : Prop := ∃ (C : String) (T : u_T) (N : Nat), vwCl[ci]? = some (C, T, N) ∧ (∀ k, k < N → parseFieldDescriptor (T k).2.2.1 = some (ty k)) ∧ ∀ a, a < N → ∀ b, b < N → a ≠ b → (T a).2.1 ≠ (T b).2.1
/-- field k of class ci isn't final -/
def zNF (ci k : Nat) (f : Bool) : Prop := ∃ (C : String) (T : u_T) (N : Nat), vwCl[ci]? = some (C, T, N) ∧ (T k).2.2.2 = f
theorem zmapget {G : zG} {fs : List Value} {k : Nat} {v : Value} (h : fs[k]? = some v) : (fs.map (zv G))[k]? = some (zv G v) := by rw [List.getElem?_map, h]; rfl
theorem x_get {G : zG} {M : zM} {mc ms : Nat} {κ : zK} {ck cn pc : Nat} {L st : List Value} {h : zH} (C : zCx G M mc ms κ) {a ix ci k : Nat} {fs : List Value} {v : Value} (hf : zFL M.1.cls ix ci k) (hg : zg h a (zO ci fs)) (hv : fs[k]? = some v) (hd : decode M.2.1 pc = .ok (.getfield ix, 3)) (kk : zW G M mc ms κ ck cn (pc + 3) L (v :: st) h) : zW G M mc ms κ ck cn pc L (.ref a :: st) h := by
  obtain ⟨p, l, e, s, m, args, below, meth, c, Q⟩ := κ
  obtain ⟨hx, hb, hml, hown, hts, hF, hG⟩ := C
  obtain ⟨C, T, N, hc, hk, hl, hin⟩ := hf
  intro H locs ls hsim hS hls
  exact va_get hx hb hts hin hown hF.1 hsim.2 a (zw_at hg) hc k hk (hts _ hl) (fun _ z => z) (zmapget hv) hd (kk H locs ls hsim hS hls)
theorem zNestW {G : zG} {s : State} {H : Heap} (hF : zF G s H) {w : Cond} (h : w ∈ lw_tbl) (hn : zNest w = true) : va_Nw w s := hF.2.1 w h hn
theorem x_getN {G : zG} {M : zM} {mc ms : Nat} {κ : zK} {ck cn pc : Nat} {L st : List Value} {h : zH} (C : zCx G M mc ms κ) {a ix ci k : Nat} {fs : List Value} {v : Value} (hf : zFLN M.1.cls ix ci k) (hg : zg h a (zO ci fs)) (hv : fs[k]? = some v) (hd : decode M.2.1 pc = .ok (.getfield ix, 3)) (kk : zW G M mc ms κ ck cn (pc + 3) L (v :: st) h) : zW G M mc ms κ ck cn pc L (.ref a :: st) h := by
  obtain ⟨p, l, e, s, m, args, below, meth, c, Q⟩ := κ
  obtain ⟨hx, hb, hml, hown, hts, hF, hG⟩ := C
  obtain ⟨C, T, N, host, hc, hk, hl, hin⟩ := hf
  intro H locs ls hsim hS hls
  exact va_getN hx hb hts hin hown hF.1 hsim.2 a (zw_at hg) hc k hk (va_Nw.use rfl (zNestW hF hl rfl)) (fun _ z => z) (zmapget hv) hd (kk H locs ls hsim hS hls)
/-- behind a store: the heap that has the cell set -/
theorem zSim_st {G : zG} {h : zH} {H H1 : Heap} {a : Nat} {e e0 : zE} (hs : zSim G h H) (hg : zg h a e0) (he : va_at G.2.1 vwCl (G.1 + a, zc G e) H1) (hz : H1.size = H.size) (oq : ∀ q : Nat, q ≠ G.1 + a → H1[q]? = H[q]?) : zSim G (zs h a e) H1 := by
  refine ⟨hz.trans hs.1, ?_⟩
  rw [← zw_set G h e hg.1]
  exact hs.2.set (zw_D G h) (zw_at hg) he oq
theorem zS_st {G : zG} {H0 H H1 : Heap} {locs : List Loc} {a i : Nat} (hS : va_S (zA G) H0 H locs) (hz : H1.size = H.size) (oq : ∀ q : Nat, q ≠ G.1 + a → H1[q]? = H[q]?) : va_S (zA G) H0 H1 (locs ++ [⟨G.1 + a, i⟩]) := hS.put hz oq (show G.1 ≤ G.1 + a from Nat.le_add_right _ _)
theorem zfs_set {G : zG} {fs : List Value} {k : Nat} {v : Value} : (fs.map (zv G)).set k (zv G v) = (fs.set k v).map (zv G) := by rw [List.map_set]
/-- what the tables say of a class that is known -/
theorem zput_facts {G : zG} {M : zM} {s : State} {m : MethodId} {args : Array Value} {ci k N : Nat} {C : String} {T : u_T} (hc : vwCl[ci]? = some (C, T, N)) (hk : k < N) (hin : ∀ w ∈ u_ws C T N, w ∈ zbig) (hts : ∀ w ∈ zbig, w.before args s = true) (hF : zF G s s.heap) {ty0 : Nat → FieldType} (hcl : zCl ci ty0) (hown : s.vm.findClass M.1.cls = some m.cls) :
    parseFieldDescriptor (T k).2.2.1 = some (ty0 k) ∧ ∀ x y, x < N → y < N → x ≠ y → (G.2.1.2 ci) x ≠ (G.2.1.2 ci) y := by
  obtain ⟨C', T', N', hc', hty, hnm⟩ := hcl
  cases hc.symm.trans hc'
  exact ⟨hty k hk, va_apart (own := M.1.cls) hts hin ty0 hty hnm hF.1 hc⟩
theorem zobj_set {G : zG} {ci N k a i : Nat} {C : String} {T : u_T} {fs : List Value} {v : Value} {cell : Cell} {H1 : Heap} (hc : vwCl[ci]? = some (C, T, N)) (hk : k < N) (hkl : k < fs.length) (q2 : cell.cls = G.2.1.1 ci) (q3 : cell.vm = .none) (q4 : ∀ k, k < N → cell.slots[G.2.1.2 ci k]? = some (vp_V (fs.map (zv G)) k)) (hap : ∀ x y, x < N → y < N → x ≠ y → (G.2.1.2 ci) x ≠ (G.2.1.2 ci) y) (hi : G.2.1.2 ci k = i) (e1 : H1[G.1 + a]? = some (cell.setSlot i (zv G v))) : va_at G.2.1 vwCl (G.1 + a, zc G (zO ci (fs.set k v))) H1 := by
  subst hi
  refine ⟨_, hc, t_OB.to (V := updV (vp_V (fs.map (zv G))) k (zv G v)) ⟨_, e1, q2, q3, t_set q4 hap hk _⟩ fun j _ => ?_⟩
  rw [vp_updV_set (by simpa using hkl), zfs_set]
theorem x_put {G : zG} {M : zM} {mc ms : Nat} {κ : zK} {ck cn pc : Nat} {L st : List Value} {h : zH} (C : zCx G M mc ms κ) {a ix ci k : Nat} {fs : List Value} {v : Value} {ty : Nat → FieldType} (hf : zFL M.1.cls ix ci k) (hcl : zCl ci ty) (hnf : zNF ci k false) (hg : zg h a (zO ci fs)) (hkl : k < fs.length) (hn : ∀ G : zG, narrow (ty k) (zv G v) = zv G v) (hv : ∀ G : zG, fits (ty k) (zv G v) = true) (hd : decode M.2.1 pc = .ok (.putfield ix, 3)) (kk : zW G M mc ms κ ck cn (pc + 3) L st (zs h a (zO ci (fs.set k v)))) : zW G M mc ms κ ck cn pc L (v :: .ref a :: st) h := by
  obtain ⟨p, l, e, s, m, args, below, meth, c, Q⟩ := κ
  obtain ⟨hx, hb, hml, hown, hts, hF, hG⟩ := C
  obtain ⟨C, T, N, hc, hk, hl, hin⟩ := hf
  intro H locs ls hsim hS hls
  obtain ⟨hpd, hap⟩ := zput_facts (M := M) hc hk hin hts hF hcl hown
  have hfin : (T k).2.2.2 = false := by
    obtain ⟨C', T', N', hc', h2⟩ := hnf
    cases hc.symm.trans hc'
    exact h2
  obtain ⟨r, h1, cell, q1, q2, q3, q4⟩ := hsim.2 a _ (zw_at hg)
  have hr : r = (C, T, N) := Option.some.inj (h1.symm.trans hc)
  subst hr
  obtain ⟨hSl, hfc, kC, hkC, hkind⟩ := hF.1.1 ci _ hc
  obtain ⟨cf, kf, fi, f, hi, hsl⟩ := hSl k hk
  have hlay := hts _ (hin _ (u_in_lay hk))
  unfold u_lay at hlay
  rw [if_neg (by rw [hfin]; decide)] at hlay
  have hst := (u_facts hfc hkC (u_lays hts hin hk) hi).1
  have h6 := u_store hfc hkC hkind hlay hi hpd (hn G) (hv G)
  refine W.putK hx hb (f := f) ⟨hown, hts _ hl, ⟨_, _, _, hi⟩, hst⟩ (by rw [q2]; exact h6) q1 q3 (by rw [hsl]; exact k2_hasslot (q4 k hk)) rfl rfl hd fun H' e1 e2 e3 => ?_
  exact kk H' _ ls (zSim_st hsim hg (zobj_set hc hk hkl q2 q3 q4 hap hsl.symm e1) e2 e3) (zS_st hS e2 e3) hls
theorem x_putN {G : zG} {M : zM} {mc ms : Nat} {κ : zK} {ck cn pc : Nat} {L st : List Value} {h : zH} (C : zCx G M mc ms κ) {a ix ci k : Nat} {fs : List Value} {v : Value} {ty : Nat → FieldType} (hf : zFLN M.1.cls ix ci k) (hcl : zCl ci ty) (hnf : zNF ci k false) (hg : zg h a (zO ci fs)) (hkl : k < fs.length) (hn : ∀ G : zG, narrow (ty k) (zv G v) = zv G v) (hv : ∀ G : zG, fits (ty k) (zv G v) = true) (hd : decode M.2.1 pc = .ok (.putfield ix, 3)) (kk : zW G M mc ms κ ck cn (pc + 3) L st (zs h a (zO ci (fs.set k v)))) : zW G M mc ms κ ck cn pc L (v :: .ref a :: st) h := by
  obtain ⟨p, l, e, s, m, args, below, meth, c, Q⟩ := κ
  obtain ⟨hx, hb, hml, hown, hts, hF, hG⟩ := C
  obtain ⟨C, T, N, host, hc, hk, hl, hin⟩ := hf
  intro H locs ls hsim hS hls
  obtain ⟨hpd, hap⟩ := zput_facts (M := M) hc hk hin hts hF hcl hown
  have hfin : (T k).2.2.2 = false := by
    obtain ⟨C', T', N', hc', h2⟩ := hnf
    cases hc.symm.trans hc'
    exact h2
  obtain ⟨r, h1, cell, q1, q2, q3, q4⟩ := hsim.2 a _ (zw_at hg)
  have hr : r = (C, T, N) := Option.some.inj (h1.symm.trans hc)
  subst hr
  obtain ⟨hSl, hfc, kC, hkC, hkind⟩ := hF.1.1 ci _ hc
  obtain ⟨cf, kf, fi, f, hi, hsl⟩ := hSl k hk
  have hlay := hts _ (hin _ (u_in_lay hk))
  unfold u_lay at hlay
  rw [if_neg (by rw [hfin]; decide)] at hlay
  have hst := (u_facts hfc hkC (u_lays hts hin hk) hi).1
  have h6 := u_store hfc hkC hkind hlay hi hpd (hn G) (hv G)
  refine va_WputK hx hb (f := f) hown (va_Nw.use rfl (zNestW hF hl rfl)) hi hst (by rw [q2]; exact h6) q1 q3 (by rw [hsl]; exact k2_hasslot (q4 k hk)) rfl rfl hd fun H' e1 e2 e3 => ?_
  exact kk H' _ ls (zSim_st hsim hg (zobj_set hc hk hkl q2 q3 q4 hap hsl.symm e1) e2 e3) (zS_st hS e2 e3) hls
/-- a final field, in the class's own constructor -/
theorem x_putF {G : zG} {M : zM} {mc ms : Nat} {κ : zK} {ck cn pc : Nat} {L st : List Value} {h : zH} (C : zCx G M mc ms κ) (hini : M.1.name = "<init>") {a ix ci k : Nat} {fs : List Value} {v : Value} {ty : Nat → FieldType} (hf : zFL M.1.cls ix ci k) (hcl : zCl ci ty) (hnf : ∃ (C : String) (T : u_T) (N : Nat), vwCl[ci]? = some (C, T, N) ∧ (T k).2.2.2 = true ∧ (T k).1 = M.1.cls) (hg : zg h a (zO ci fs)) (hkl : k < fs.length) (hn : ∀ G : zG, narrow (ty k) (zv G v) = zv G v) (hv : ∀ G : zG, fits (ty k) (zv G v) = true) {Qr : Option Value → zH → Prop} (Cr : zCr G M mc ms Qr κ) (hd : decode M.2.1 pc = .ok (.putfield ix, 3)) (kk : zW G M mc ms κ ck cn (pc + 3) L st (zs h a (zO ci (fs.set k v)))) : zW G M mc ms κ ck cn pc L (v :: .ref a :: st) h := by
  obtain ⟨p, l, e, s, m, args, below, meth, c, Q⟩ := κ
  have hin2 : meth.name = "<init>" := Cr.2.2.1.trans hini
  obtain ⟨hx, hb, hml, hown, hts, hF, hG⟩ := C
  obtain ⟨C, T, N, hc, hk, hl, hin⟩ := hf
  intro H locs ls hsim hS hls
  obtain ⟨hpd, hap⟩ := zput_facts (M := M) hc hk hin hts hF hcl hown
  have hfin : (T k).2.2.2 = true ∧ (T k).1 = M.1.cls := by
    obtain ⟨C', T', N', hc', h2⟩ := hnf
    cases hc.symm.trans hc'
    exact h2
  obtain ⟨r, h1, cell, q1, q2, q3, q4⟩ := hsim.2 a _ (zw_at hg)
  have hr : r = (C, T, N) := Option.some.inj (h1.symm.trans hc)
  subst hr
  obtain ⟨hSl, hfc, kC, hkC, hkind⟩ := hF.1.1 ci _ hc
  obtain ⟨cf, kf, fi, f, hi, hsl⟩ := hSl k hk
  have hlay := hts _ (hin _ (u_in_lay hk))
  unfold u_lay at hlay
  rw [if_pos hfin.1] at hlay
  have hst := (u_facts hfc hkC (u_lays hts hin hk) hi).1
  have hcf : m.cls = cf := by
    obtain ⟨_, _, c', _, _, _, -, -, hf', -, -, -, hown2, -⟩ := Cond.laysFinal_spec hlay
    have e1 : c' = cf := by have := hi.symm.trans hf'; simp at this; exact this.1.symm
    rw [hfin.2] at hown2
    rw [← e1]; exact Option.some.inj (hown.symm.trans hown2)
  have h6 := u_fits hfc hkC hkind (Or.inr hlay) hi hpd (hn G) (hv G)
  refine W.putFinK hx hb hown (hts _ hl) hi hst hcf hin2 (by rw [q2]; exact h6) q1 q3 (by rw [hsl]; exact k2_hasslot (q4 k hk)) rfl rfl hd fun H' e1 e2 e3 => ?_
  exact kk H' _ ls (zSim_st hsim hg (zobj_set hc hk hkl q2 q3 q4 hap hsl.symm e1) e2 e3) (zS_st hS e2 e3) hls
/-! rows of numbers, of references -/
theorem zcell_set {G : zG} {t nn i : Nat} {f : Nat → Int32} {x : Int32} : (vp_cell (G.2.2.1 t) (nn, .inl f)).setSlot i (.int x) = vp_cell (G.2.2.1 t) (nn, .inl (upd f i x)) := by
  rw [vp_cell_i, vp_cell_i, arrV_store]
  congr 1
  funext q
  by_cases hq : q = i
  · subst hq; simp [updV, upd]
  · simp [updV, upd, hq]
theorem zcell_setL {G : zG} {nn i : Nat} {f : Nat → Int64} {x : Int64} : (vp_cell (G.2.2.1 3) (nn, .inr (.inl f))).setSlot i (.long x) = vp_cell (G.2.2.1 3) (nn, .inr (.inl (vp_updL f i x))) := by
  rw [vp_cell_l, vp_cell_l, arrV_store]
  congr 1
  funext q
  by_cases hq : q = i
  · subst hq; simp [updV, vp_updL]
  · simp [updV, vp_updL, hq]
theorem zcell_setR {G : zG} {t nn i : Nat} {f : Nat → Option Nat} {v : Option Nat} : (vp_cell (G.2.2.1 t) (nn, .inr (.inr (.inr (.inr fun j => (f j).map (G.1 + ·)))))).setSlot i (va_rf (v.map (G.1 + ·))) = vp_cell (G.2.2.1 t) (nn, .inr (.inr (.inr (.inr fun j => (va_up f i v j).map (G.1 + ·))))) := by
  rw [vp_cell_q, vp_cell_q, arrV_store]
  congr 1
  funext q
  by_cases hq : q = i
  · subst hq; simp [updV, va_up]
  · simp [updV, va_up, hq]
theorem x_iast {G : zG} {M : zM} {mc ms : Nat} {κ : zK} {ck cn pc : Nat} {L st : List Value} {h : zH} (C : zCx G M mc ms κ) {a nn : Nat} {f : Nat → Int32} {i x : Int32} (hg : zg h a (zI 0 nn f)) (hin : vp_in i nn) (hd : decode M.2.1 pc = .ok (.iastore, 1)) (kk : zW G M mc ms κ ck cn (pc + 1) L st (zs h a (zI 0 nn (upd f i.toNatClampNeg x)))) : zW G M mc ms κ ck cn pc L (.int x :: .int i :: .ref a :: st) h := by
  obtain ⟨p, l, e, s, m, args, below, meth, c, Q⟩ := κ
  obtain ⟨hx, hb, hml, hown, hts, hF, hG⟩ := C
  intro H locs ls hsim hS hls
  refine W.iast hx hb (hsim.2 a _ (zw_at hg)) ((hF.1.2 0 _ rfl).1 nn (fun j => .int (f j))) (fun q => by cases q) (by show ¬ (i < 0 ∨ (arrV _ _ _).slots.size ≤ _); rw [arrV_size]; exact hin) rfl rfl hd fun H1 e1 e2 e3 => ?_
  exact kk H1 _ ls (zSim_st hsim hg (by show H1[G.1 + a]? = some _; rw [e1]; exact congrArg some zcell_set) e2 e3) (zS_st hS e2 e3) hls
theorem x_bast {G : zG} {M : zM} {mc ms : Nat} {κ : zK} {ck cn pc : Nat} {L st : List Value} {h : zH} (C : zCx G M mc ms κ) {a nn : Nat} {f : Nat → Int32} {i x : Int32} (hg : zg h a (zI 1 nn f)) (hin : vp_in i nn) (hd : decode M.2.1 pc = .ok (.bastore, 1)) (kk : zW G M mc ms κ ck cn (pc + 1) L st (zs h a (zI 1 nn (upd f i.toNatClampNeg (vp_nar .byte x))))) : zW G M mc ms κ ck cn pc L (.int x :: .int i :: .ref a :: st) h := by
  obtain ⟨p, l, e, s, m, args, below, meth, c, Q⟩ := κ
  obtain ⟨hx, hb, hml, hown, hts, hF, hG⟩ := C
  intro H locs ls hsim hS hls
  refine W.bast hx hb (hsim.2 a _ (zw_at hg)) ((hF.1.2 1 _ rfl).1 nn (fun j => .int (f j))) (fun q => by cases q) (by show ¬ (i < 0 ∨ (arrV _ _ _).slots.size ≤ _); rw [arrV_size]; exact hin) rfl rfl hd fun H1 e1 e2 e3 => ?_
  exact kk H1 _ ls (zSim_st hsim hg (by show H1[G.1 + a]? = some _; rw [e1]; exact congrArg some zcell_set) e2 e3) (zS_st hS e2 e3) hls
theorem x_zast {G : zG} {M : zM} {mc ms : Nat} {κ : zK} {ck cn pc : Nat} {L st : List Value} {h : zH} (C : zCx G M mc ms κ) {a nn : Nat} {f : Nat → Int32} {i x : Int32} (hg : zg h a (zI 2 nn f)) (hin : vp_in i nn) (hd : decode M.2.1 pc = .ok (.bastore, 1)) (kk : zW G M mc ms κ ck cn (pc + 1) L st (zs h a (zI 2 nn (upd f i.toNatClampNeg (vp_nar .boolean x))))) : zW G M mc ms κ ck cn pc L (.int x :: .int i :: .ref a :: st) h := by
  obtain ⟨p, l, e, s, m, args, below, meth, c, Q⟩ := κ
  obtain ⟨hx, hb, hml, hown, hts, hF, hG⟩ := C
  intro H locs ls hsim hS hls
  refine W.zast hx hb (hsim.2 a _ (zw_at hg)) ((hF.1.2 2 _ rfl).1 nn (fun j => .int (f j))) (fun q => by cases q) (by show ¬ (i < 0 ∨ (arrV _ _ _).slots.size ≤ _); rw [arrV_size]; exact hin) rfl rfl hd fun H1 e1 e2 e3 => ?_
  exact kk H1 _ ls (zSim_st hsim hg (by show H1[G.1 + a]? = some _; rw [e1]; exact congrArg some zcell_set) e2 e3) (zS_st hS e2 e3) hls
theorem x_last {G : zG} {M : zM} {mc ms : Nat} {κ : zK} {ck cn pc : Nat} {L st : List Value} {h : zH} (C : zCx G M mc ms κ) {a nn : Nat} {f : Nat → Int64} {i : Int32} {x : Int64} (hg : zg h a (zL nn f)) (hin : vp_in i nn) (hd : decode M.2.1 pc = .ok (.lastore, 1)) (kk : zW G M mc ms κ ck cn (pc + 1) L st (zs h a (zL nn (vp_updL f i.toNatClampNeg x)))) : zW G M mc ms κ ck cn pc L (.long x :: .int i :: .ref a :: st) h := by
  obtain ⟨p, l, e, s, m, args, below, meth, c, Q⟩ := κ
  obtain ⟨hx, hb, hml, hown, hts, hF, hG⟩ := C
  intro H locs ls hsim hS hls
  refine W.last hx hb (hsim.2 a _ (zw_at hg)) ((hF.1.2 3 _ rfl).1 nn (fun j => .long (f j))) (fun q => by cases q) (by show ¬ (i < 0 ∨ (arrV _ _ _).slots.size ≤ _); rw [arrV_size]; exact hin) rfl rfl hd fun H1 e1 e2 e3 => ?_
  exact kk H1 _ ls (zSim_st hsim hg (by show H1[G.1 + a]? = some _; rw [e1]; exact congrArg some zcell_setL) e2 e3) (zS_st hS e2 e3) hls
/-- a reference out of a row, as a value -/
def zr : Option Nat → Value
  | none => .null
  | some a => .ref a
theorem zr_v (G : zG) (r : Option Nat) : va_rf (r.map (G.1 + ·)) = zv G (zr r) := by cases r <;> rfl
/-- the classes that a row of references holds: kind 0 BallotRing$Ballot (class 0), kind 1 BallotRing$Earnest (class 1) -/
theorem x_aald {G : zG} {M : zM} {mc ms : Nat} {κ : zK} {ck cn pc : Nat} {L st : List Value} {h : zH} (C : zCx G M mc ms κ) {a nn t : Nat} {f : Nat → Option Nat} {i : Int32} (ht : t < 2) (hg : zg h a (zR t nn f)) (hin : vp_in i nn) (hd : decode M.2.1 pc = .ok (.aaload, 1)) (kk : zW G M mc ms κ ck cn (pc + 1) L (zr (f i.toNatClampNeg) :: st) h) : zW G M mc ms κ ck cn pc L (.int i :: .ref a :: st) h := by
  obtain ⟨p, l, e, s, m, args, below, meth, c, Q⟩ := κ
  obtain ⟨hx, hb, hml, hown, hts, hF, hG⟩ := C
  intro H locs ls hsim hS hls
  have k1 := kk H locs ls hsim hS hls
  simp only [List.map_cons, ← zr_v] at k1
  have hc : t = 0 ∨ t = 1 := by omega
  rcases hc with rfl | rfl
  · exact va_aldq hx hb hF.1 hsim.2 a 4 (zw_at hg) rfl hin hd k1
  · exact va_aldq hx hb hF.1 hsim.2 a 5 (zw_at hg) rfl hin hd k1
theorem x_aast {G : zG} {M : zM} {mc ms : Nat} {κ : zK} {ck cn pc : Nat} {L st : List Value} {h : zH} (C : zCx G M mc ms κ) {a nn t v : Nat} {f : Nat → Option Nat} {vs : List Value} {i : Int32} (ht : t < 2) (hg : zg h a (zR t nn f)) (hv : zg h v (zO t vs)) (hin : vp_in i nn) (hd : decode M.2.1 pc = .ok (.aastore, 1)) (kk : zW G M mc ms κ ck cn (pc + 1) L st (zs h a (zR t nn (va_up f i.toNatClampNeg (some v))))) : zW G M mc ms κ ck cn pc L (.ref v :: .int i :: .ref a :: st) h := by
  obtain ⟨p, l, e, s, m, args, below, meth, c, Q⟩ := κ
  obtain ⟨hx, hb, hml, hown, hts, hF, hG⟩ := C
  intro H locs ls hsim hS hls
  have hlt : i.toNatClampNeg < nn := Nat.not_le.mp fun q => hin (Or.inr q)
  have h0 : ¬ i < 0 := fun q => hin (Or.inl q)
  obtain ⟨r, hr, cellV, g1, g2, g3, -⟩ := hsim.2 v _ (zw_at hv)
  have hcl : ∃ r' : vw_C, vwCl[t]? = some r' ∧ (zT G)[4 + t]? = some (G.2.2.1 (4 + t), .object r'.1) := by
    have hc : t = 0 ∨ t = 1 := by omega
    rcases hc with rfl | rfl <;> exact ⟨_, rfl, rfl⟩
  obtain ⟨r', hr', htg⟩ := hcl
  cases hr.symm.trans hr'
  have hcls := (hF.1.1 t r hr).2
  obtain ⟨kA, comp, k1, k2, k3, -⟩ := (hF.1.2 (4 + t) _ htg).2
  have hcomp : comp = G.2.1.1 t := Option.some.inj (k3.symm.trans hcls.1)
  subst hcomp
  obtain ⟨kC, hkC, -⟩ := hcls.2
  refine W.aast hx hb (hsim.2 a _ (zw_at hg)) (fun q h => by cases h) (fun h => by cases h) k1 k2 rfl hkC ⟨h0, by show _ < (arrV _ _ _).slots.size; rw [arrV_size]; exact hlt⟩ g1 (fun q h => by rw [g3] at h; cases h) (by rw [g2]; exact hkC) (by rw [g2]; exact va_assign hcls) rfl rfl hd fun H1 e1 e2 e3 => ?_
  refine kk H1 _ ls (zSim_st hsim hg ?_ e2 e3) (zS_st hS e2 e3) hls
  show H1[G.1 + a]? = some _
  rw [e1]
  exact congrArg some (zcell_setR (v := some v))
theorem x_aastN {G : zG} {M : zM} {mc ms : Nat} {κ : zK} {ck cn pc : Nat} {L st : List Value} {h : zH} (C : zCx G M mc ms κ) {a nn t : Nat} {f : Nat → Option Nat} {i : Int32} (ht : t < 2) (hg : zg h a (zR t nn f)) (hin : vp_in i nn) (hd : decode M.2.1 pc = .ok (.aastore, 1)) (kk : zW G M mc ms κ ck cn (pc + 1) L st (zs h a (zR t nn (va_up f i.toNatClampNeg none)))) : zW G M mc ms κ ck cn pc L (.null :: .int i :: .ref a :: st) h := by
  obtain ⟨p, l, e, s, m, args, below, meth, c, Q⟩ := κ
  obtain ⟨hx, hb, hml, hown, hts, hF, hG⟩ := C
  intro H locs ls hsim hS hls
  have hcl : ∃ C : String, (zT G)[4 + t]? = some (G.2.2.1 (4 + t), .object C) := by
    have hc : t = 0 ∨ t = 1 := by omega
    rcases hc with rfl | rfl <;> exact ⟨_, rfl⟩
  obtain ⟨C, htg⟩ := hcl
  refine va_WaastN (C := C) hx hb (hsim.2 a _ (zw_at hg)) ((hF.1.2 _ _ htg).1 nn (fun j => va_rf ((f j).map (G.1 + ·)))) (fun h => by cases h) (by show ¬ (i < 0 ∨ (arrV _ _ _).slots.size ≤ _); rw [arrV_size]; exact hin) rfl rfl hd fun H1 e1 e2 e3 => ?_
  refine kk H1 _ ls (zSim_st hsim hg ?_ e2 e3) (zS_st hS e2 e3) hls
  show H1[G.1 + a]? = some _
  rw [e1]
  exact congrArg some (zcell_setR (v := none))

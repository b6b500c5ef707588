/-! ===== what is made; calls; ends ===== -/
theorem zSim_new {G : zG} {h : zH} {H H1 : Heap} {e : zE} (hs : zSim G h H) (he : va_at G.2.1 vwCl (G.1 + h.1, zc G e) H1) (hz : H1.size = H.size + 1) (oq : ∀ q : Nat, q < H.size → H1[q]? = H[q]?) : zSim G (zn h e) H1 := by
  refine ⟨by rw [hz, hs.1]; rfl, ?_⟩
  rw [← zw_push G h e]
  refine va_P.app (hs.2.kept fun k q hq => oq _ (hs.2 k q hq).lt) (fun k q hq => ?_)
  have hz : k < 1 := (List.getElem?_eq_some_iff.mp hq).1
  rw [show k = 0 by omega] at hq
  cases hq
  exact he
theorem zS_new {G : zG} {H0 H H1 : Heap} {locs : List Loc} (hS : va_S (zA G) H0 H locs) (hz : H1.size = H.size + 1) (oq : ∀ q : Nat, q < H.size → H1[q]? = H[q]?) : va_S (zA G) H0 H1 locs :=
  ⟨Nat.le_trans hS.1 (by omega), fun x h1 h2 => (oq x (Nat.lt_of_lt_of_le h1 hS.1)).trans (hS.2.1 x h1 h2), hS.2.2⟩
theorem x_newa {G : zG} {M : zM} {mc ms : Nat} {κ : zK} {ck cn pc : Nat} {L st : List Value} {h : zH} (C : zCx G M mc ms κ) {at0 : ArrayType} {x : Int32} {nn : Nat} {e : zE} (hc : Cond.arrayClass (newarray.typeOf at0) ∈ zbig) (he : (at0 = .int ∧ e = zI 0 nn (fun _ => 0)) ∨ (at0 = .byte ∧ e = zI 1 nn (fun _ => 0)) ∨ (at0 = .boolean ∧ e = zI 2 nn (fun _ => 0)) ∨ (at0 = .long ∧ e = zL nn (fun _ => 0))) (h0 : ¬ x < 0) (hN : x.toNatClampNeg = nn) (hb8 : nn * 8 ≤ 536870912) (hck : ck + 1 ≤ mc) (hcn : cn + nn ≤ ms) (hd : decode M.2.1 pc = .ok (.newarray at0, 2)) (kk : zW G M mc ms κ (ck + 1) (cn + nn) (pc + 2) L (.ref h.1 :: st) (zn h e)) : zW G M mc ms κ ck cn pc L (.int x :: st) h := by
  obtain ⟨p, l, ev, s, m, args, below, meth, c, Q⟩ := κ
  obtain ⟨hx, hb, hml, hown, hts, hF, hG⟩ := C
  intro H locs ls hsim hS hls
  refine va_newaK hx hb (hts _ hc) rfl hd rfl h0 hN (by rcases he with ⟨rfl, -⟩ | ⟨rfl, -⟩ | ⟨rfl, -⟩ | ⟨rfl, -⟩ <;> simp [newarray.typeOf, componentBytes] <;> omega) hck hcn hsim.1 fun H1 cA e1 z1 o1 hAr hNm => ?_
  have z1' : H1.size = H.size + 1 := by rw [z1, hsim.1]
  have o1' : ∀ q : Nat, q < H.size → H1[q]? = H[q]? := fun q hq => o1 q (by rw [← hsim.1]; exact hq)
  refine kk H1 locs ls (zSim_new hsim ?_ z1' o1') (zS_new hS z1' o1') hls
  rcases he with ⟨rfl, rfl⟩ | ⟨rfl, rfl⟩ | ⟨rfl, rfl⟩ | ⟨rfl, rfl⟩
  · have : cA = G.2.2.1 0 := Option.some.inj (hNm.symm.trans (hF.1.2 0 _ rfl).2)
    subst this; exact e1
  · have : cA = G.2.2.1 1 := Option.some.inj (hNm.symm.trans (hF.1.2 1 _ rfl).2)
    subst this; exact e1
  · have : cA = G.2.2.1 2 := Option.some.inj (hNm.symm.trans (hF.1.2 2 _ rfl).2)
    subst this; exact e1
  · have : cA = G.2.2.1 3 := Option.some.inj (hNm.symm.trans (hF.1.2 3 _ rfl).2)
    subst this; exact e1
theorem x_anew {G : zG} {M : zM} {mc ms : Nat} {κ : zK} {ck cn pc : Nat} {L st : List Value} {h : zH} (C : zCx G M mc ms κ) {x : Int32} {nn t ix : Nat} {CN : String} (ht : (t = 0 ∧ CN = "BallotRing$Ballot") ∨ (t = 1 ∧ CN = "BallotRing$Earnest")) (hc : Cond.classLink M.1.cls ix CN ∈ zbig) (h0 : ¬ x < 0) (hN : x.toNatClampNeg = nn) (hb8 : nn * 8 ≤ 536870912) (hck : ck + 1 ≤ mc) (hcn : cn + nn ≤ ms) (hd : decode M.2.1 pc = .ok (.anewarray ix, 3)) (kk : zW G M mc ms κ (ck + 1) (cn + nn) (pc + 3) L (.ref h.1 :: st) (zn h (zR t nn (fun _ => none)))) : zW G M mc ms κ ck cn pc L (.int x :: st) h := by
  obtain ⟨p, l, ev, s, m, args, below, meth, c, Q⟩ := κ
  obtain ⟨hx, hb, hml, hown, hts, hF, hG⟩ := C
  intro H locs ls hsim hS hls
  have hao : va_AO CN s := by rcases ht with ⟨-, rfl⟩ | ⟨-, rfl⟩; exact hF.2.2.1.1; exact hF.2.2.1.2
  subst hN
  refine W.anew hx hb hown (hts _ hc) (va_AO.use hao) rfl hd rfl h0 (by omega) hck hcn fun cA kA comp f1 f2 f3 f4 => ?_
  generalize hH1 : H.push ({ cls := cA, slots := Array.replicate x.toNatClampNeg .null, vm := .none } : Cell) = H1
  have z1 : H1.size = H.size + 1 := by rw [← hH1, Array.size_push]
  have e1 : H1[H.size]? = some (arrV cA x.toNatClampNeg (fun _ => .null)) := by rw [← hH1, Array.getElem?_push_size, ← arrV_new]
  have o1 : ∀ q : Nat, q < H.size → H1[q]? = H[q]? := fun q hq => by rw [← hH1, Array.getElem?_push, if_neg (Nat.ne_of_lt hq)]
  have k1 := kk H1 locs ls (zSim_new hsim (by
    show H1[G.1 + h.1]? = some _
    rw [← hsim.1, e1]
    congr 1
    rcases ht with ⟨rfl, rfl⟩ | ⟨rfl, rfl⟩
    · obtain ⟨-, -, -, -, -, -, f5⟩ := hF.1.2 4 _ rfl
      have : cA = G.2.2.1 4 := Option.some.inj (f1.symm.trans f5)
      subst this; rfl
    · obtain ⟨-, -, -, -, -, -, f5⟩ := hF.1.2 5 _ rfl
      have : cA = G.2.2.1 5 := Option.some.inj (f1.symm.trans f5)
      subst this; rfl) z1 o1) (zS_new hS z1 o1) hls
  rw [hsim.1]
  exact k1
theorem zv_def (G : zG) (t : FieldType) : zv G (defaultValue t) = defaultValue t := by cases t <;> rfl
theorem x_new {G : zG} {M : zM} {mc ms : Nat} {κ : zK} {ck cn pc : Nat} {L st : List Value} {h : zH} (C : zCx G M mc ms κ) {ix ci N : Nat} {CN : String} {T : u_T} {ty : Nat → FieldType} (fs : List Value) (hcl : vwCl[ci]? = some (CN, T, N)) (hty : zCl ci ty) (hin : ∀ w ∈ u_ws CN T N, w ∈ zbig) (hw : Cond.classLink M.1.cls ix CN ∈ zbig ∧ Cond.instantiable CN N ∈ zbig ∧ Cond.initialized CN ∈ zbig) (hfs : fs = (List.range N).map fun j => defaultValue (ty j)) (hck : ck + 1 ≤ mc) (hcn : cn + N ≤ ms) (hd : decode M.2.1 pc = .ok (.new ix, 3)) (kk : zW G M mc ms κ (ck + 1) (cn + N) (pc + 3) L (.ref h.1 :: st) (zn h (zO ci fs))) : zW G M mc ms κ ck cn pc L st h := by
  obtain ⟨p, l, ev, s, m, args, below, meth, c, Q⟩ := κ
  obtain ⟨hx, hb, hml, hown, hts, hF, hG⟩ := C
  obtain ⟨C', T', N', hcl', hpd, -⟩ := hty
  cases hcl.symm.trans hcl'
  intro H locs ls hsim hS hls
  have hKn := hF.1.1 ci _ hcl
  refine W.newcK hx hb hown (hts _ hw.1) (hts _ hw.2.1) (hts _ hw.2.2) rfl hd hck hcn hKn.2.1 hsim.1 fun H1 kC hkC e1 z1 o1 => ?_
  have z1' : H1.size = H.size + 1 := by rw [z1, hsim.1]
  have o1' : ∀ q : Nat, q < H.size → H1[q]? = H[q]? := fun q hq => o1 q (by rw [← hsim.1]; exact hq)
  refine kk H1 locs ls (zSim_new hsim ?_ z1' o1') (zS_new hS z1' o1') hls
  refine ⟨_, hcl, (u_born ty hts hin hKn hkC e1 hpd).to fun j hj => ?_⟩
  subst hfs
  simp [vp_V, List.getD_eq_getElem?_getD, List.getElem?_map, List.getElem?_range hj, zv_def]
theorem x_alenI {G : zG} {M : zM} {mc ms : Nat} {κ : zK} {ck cn pc : Nat} {L st : List Value} {h : zH} (C : zCx G M mc ms κ) {a nn t : Nat} {f : Nat → Int32} (ht : t < 3) (hg : zg h a (zI t nn f)) (hd : decode M.2.1 pc = .ok (.arraylength, 1)) (kk : zW G M mc ms κ ck cn (pc + 1) L (.int (nI nn) :: st) h) : zW G M mc ms κ ck cn pc L (.ref a :: st) h := by
  obtain ⟨p, l, e, s, m, args, below, meth, c, Q⟩ := κ
  obtain ⟨hx, hb, hml, hown, hts, hF, hG⟩ := C
  intro H locs ls hsim hS hls
  have hc : t = 0 ∨ t = 1 ∨ t = 2 := by omega
  rcases hc with rfl | rfl | rfl
  · exact va_alen hx hb hF.1 hsim.2 a 0 (zw_at hg) rfl rfl hd (kk H locs ls hsim hS hls)
  · exact va_alen hx hb hF.1 hsim.2 a 1 (zw_at hg) rfl rfl hd (kk H locs ls hsim hS hls)
  · exact va_alen hx hb hF.1 hsim.2 a 2 (zw_at hg) rfl rfl hd (kk H locs ls hsim hS hls)
theorem x_alenL {G : zG} {M : zM} {mc ms : Nat} {κ : zK} {ck cn pc : Nat} {L st : List Value} {h : zH} (C : zCx G M mc ms κ) {a nn : Nat} {f : Nat → Int64} (hg : zg h a (zL nn f)) (hd : decode M.2.1 pc = .ok (.arraylength, 1)) (kk : zW G M mc ms κ ck cn (pc + 1) L (.int (nI nn) :: st) h) : zW G M mc ms κ ck cn pc L (.ref a :: st) h := by
  obtain ⟨p, l, e, s, m, args, below, meth, c, Q⟩ := κ
  obtain ⟨hx, hb, hml, hown, hts, hF, hG⟩ := C
  intro H locs ls hsim hS hls
  exact va_alen hx hb hF.1 hsim.2 a 3 (zw_at hg) rfl rfl hd (kk H locs ls hsim hS hls)
theorem x_alenR {G : zG} {M : zM} {mc ms : Nat} {κ : zK} {ck cn pc : Nat} {L st : List Value} {h : zH} (C : zCx G M mc ms κ) {a nn t : Nat} {f : Nat → Option Nat} (ht : t < 2) (hg : zg h a (zR t nn f)) (hd : decode M.2.1 pc = .ok (.arraylength, 1)) (kk : zW G M mc ms κ ck cn (pc + 1) L (.int (nI nn) :: st) h) : zW G M mc ms κ ck cn pc L (.ref a :: st) h := by
  obtain ⟨p, l, e, s, m, args, below, meth, c, Q⟩ := κ
  obtain ⟨hx, hb, hml, hown, hts, hF, hG⟩ := C
  intro H locs ls hsim hS hls
  have hc : t = 0 ∨ t = 1 := by omega
  rcases hc with rfl | rfl
  · exact va_alen hx hb hF.1 hsim.2 a 4 (zw_at hg) rfl rfl hd (kk H locs ls hsim hS hls)
  · exact va_alen hx hb hF.1 hsim.2 a 5 (zw_at hg) rfl rfl hd (kk H locs ls hsim hS hls)
theorem x_acmp_eq {G : zG} {M : zM} {mc ms : Nat} {κ : zK} {ck cn pc : Nat} {L st : List Value} {h : zH} (C : zCx G M mc ms κ) {rx ry : Option Nat} {off : Int} (tgt : Nat) (hd : decode M.2.1 pc = .ok (.if_acmp .eq off, 3)) (ht : (pc : Int) + off = (tgt : Int)) (kt : rx = ry → zW G M mc ms κ ck cn tgt L st h) (kf : ¬ rx = ry → zW G M mc ms κ ck cn (pc + 3) L st h) : zW G M mc ms κ ck cn pc L (zr ry :: zr rx :: st) h := by
  obtain ⟨p, l, e, s, m, args, below, meth, c, Q⟩ := κ
  obtain ⟨hx, hb, hml, hown, hts, hF, hG⟩ := C
  intro H locs ls hsim hS hls
  simp only [List.map_cons, ← zr_v]
  have inj : rx.map (G.1 + ·) = ry.map (G.1 + ·) ↔ rx = ry := by
    refine ⟨fun q => ?_, fun q => by rw [q]⟩
    cases rx <;> cases ry <;> simp at q ⊢
    exact q
  exact lv_acmp_eq hx hb hd ht (fun q => kt (inj.mp q) H locs ls hsim hS hls) (fun q => kf (fun z => q (inj.mpr z)) H locs ls hsim hS hls)
/-! calls -/
def zMk (M : zM) (n : Nat) : Prop := Cond.code M.1 M.2.1 M.2.2.1 M.2.2.2.1 ∈ zbig ∧ Cond.initialized M.1.cls ∈ zbig ∧ (M.1.cls ≠ "java/lang/invoke/MethodHandle" ∧ M.1.cls ≠ "java/lang/invoke/VarHandle") ∧ (parseMethodDescriptor M.1.desc).map (fun d => d.parameters.length) = some n
def zMv (M : zM) : Prop := Cond.instanceMethod M.1 ∈ zbig ∧ Cond.selects M.1.cls M.1 M.1 ∈ zbig
theorem zGood {M : zM} {n : Nat} (h : zMk M n) : GoodIn zbig (zws M) := by
  intro w hw
  rcases List.mem_cons.mp hw with rfl | hw
  · exact ⟨h.1, zbig_good _ h.1⟩
  · exact ⟨hw, zbig_good w hw⟩
theorem zPc_blind (G : zG) (as : List Value) (h : zH) : FrameBlind (va_Pc (as.map (zv G)) (fun U => zSim G h U.heap ∧ zF G U U.heap ∧ G.1 ≤ U.heap.size)) := by
  intro a U g mk q
  obtain ⟨q0, q1, q2, q3⟩ := q
  exact ⟨q0, q1, zF.same (s := U) rfl q2, q3⟩
theorem zPc_at {G : zG} {as : List Value} {h : zH} {s : State} {H : Heap} {locs : List Loc} (hsim : zSim G h H) (hF : zF G s s.heap) (hS : va_S (zA G) s.heap H locs) (U : State) (hU : U.heap = H) (hW : s.WarmedH U.vm) : va_Pc (as.map (zv G)) (fun U => zSim G h U.heap ∧ zF G U U.heap ∧ G.1 ≤ U.heap.size) (as.map (zv G)).toArray U := by
  refine ⟨rfl, ?_, ?_, ?_⟩
  · rw [hU]; exact hsim
  · rw [hU]; exact (hF.kept hS.2.1).moved hW
  · rw [hU, hsim.1]; exact Nat.le_add_right _ _
/-- behind a call -/
theorem zcall {p : Program} {l : Launch} {e : Env} {R : Room} {s : State} {m : MethodId} {args : Array Value} {below : List Frame} {meth : Method} {c : Code} {Q : State → Prop} {G : zG} {H : Heap} {locs : List Loc} {ck cn mc ms pc : Nat} {ls : Array Slot} {rest st0 : List Value} {a : Array Value} {H0 : Heap} {Q' : Option Value → zH → Prop}
    (hr : va_Run p l e R s m args below meth c H locs ck cn mc ms (F0 m pc ls st0) rest (zQc G Q' a) (zA G)) (hG : G.1 ≤ H.size) (hS : va_S (zA G) H0 H locs)
    (kk : ∀ (r : Option Value) (h' : zH) (H1 : Heap) (locs1 : List Loc), Q' r h' → zSim G h' H1 → va_S (zA G) H0 H1 locs1 → W p l e R s m args below meth c H1 locs1 (ck + mc) (cn + ms) Q (F0 m (pc + 3) ls ((r.map (zv G)).toList ++ rest))) : W p l e R s m args below meth c H locs ck cn Q (F0 m pc ls st0) := by
  intro T hT X
  obtain ⟨v, st₀, t, T', L, h0, X', hL, e1, e2, ⟨⟨r, h', hv, hp, hb⟩, hz, hk⟩, st⟩ := hr T hT X
  cases hv
  rw [h0] at hz hk
  obtain ⟨t2, a1, b1⟩ := kk r h' T'.heap (locs ++ L) hp (by rw [e1]; exact hb)
    ⟨Nat.le_trans hS.1 (by rw [e1]; exact hz), fun q h1 h2 => by rw [e1, hk q (Nat.lt_of_lt_of_le h1 hS.1) h2]; exact hS.2.1 q h1 h2, fun q hq => by
      rcases List.mem_append.mp hq with h | h
      · exact hS.2.2 q h
      · exact hL q h⟩ T' rfl X'
  exact ⟨t2, st t2 a1, b1⟩
/-- the room that a callee wants -/
def zRm (M M' : zM) : Prop := M'.2.2.2.2.1 + 1 ≤ M.2.2.2.2.1 ∧ 8 + (M'.2.2.1 + 11) + M'.2.2.2.2.2 ≤ M.2.2.2.2.2
theorem zcallB {G : zG} {M M' : zM} {mc ms mc' ms' n ix : Nat} {s : State} {args : Array Value} (hts : ∀ w ∈ zbig, w.before args s = true) (hk : zMk M' n) (hl : Cond.methodLink M.1.cls ix M'.1 ∈ zbig) (hR : zRm M M') : CallB (zrm M mc ms) s args M.1.cls ix M'.1 M'.2.1 M'.2.2.1 M'.2.2.2.1 (zws M') (zrm M' mc' ms') mc' ms' n :=
  callB_of n hts (zGood hk) rfl rfl rfl (hts _ hk.2.1) (hts _ hl) ⟨hk.2.2.1.1, hk.2.2.1.2, hk.2.2.2⟩ hR
/-- an instance method of the class itself, or one that may be linked -/
theorem x_callV {G : zG} {M M' : zM} {mc ms : Nat} {κ : zK} {ck cn pc : Nat} {L st st0 : List Value} {h : zH} (C : zCx G M mc ms κ) {ix n b ci mc' ms' : Nat} (as : List Value) {Q' : Option Value → zH → Prop} {fs : List Value} {T : u_T} {N : Nat} (hM : zCn M' (.ref b :: as) h mc' ms' Q') (hk : zMk M' n) (hv : zMv M') (hl : Cond.methodLink M.1.cls ix M'.1 ∈ zbig) (hR : zRm M M') (hc : vwCl[ci]? = some (M'.1.cls, T, N)) (hg : zg h b (zO ci fs)) (hn : as.length = n) (hck : ck + mc' ≤ mc ∧ cn + ms' ≤ ms) (hst : (st.map fun v => v.category).sum ≤ 8) (e0 : st0 = as.reverse ++ .ref b :: st) (hd : decode M.2.1 pc = .ok (.invokevirtual ix, 3)) (kk : ∀ (r : Option Value) (h' : zH), Q' r h' → zW G M mc ms κ (ck + mc') (cn + ms') (pc + 3) L (r.toList ++ st) h') : zW G M mc ms κ ck cn pc L st0 h := by
  subst e0
  obtain ⟨p, l, e, s, m, args, below, meth, c, Q⟩ := κ
  obtain ⟨hx, hb, hml, hown, hts, hF, hG⟩ := C
  intro H locs ls hsim hS hls
  refine zcall (va_runV (C := M'.1.cls) (b := G.1 + b) (As := as.map (zv G)) (rest := st.map (zv G)) ⟨hx, hb, hml, hown, hts⟩ (hM l G) ⟨zcallB (G := G) hts hk hl hR, hts _ hv.1, hts _ hv.2⟩ ⟨zPc_blind G (.ref b :: as) h, va_recv hF.1 hsim.2 hc (zw_at hg), fun U hU hW => zPc_at (as := .ref b :: as) hsim hF hS U hU hW⟩ rfl (by rw [List.length_map]; exact hn) hls.1 (by simp [zv]) (lv_room (by rw [zv_cats]; exact hst)) hd hck) (by rw [hsim.1]; exact Nat.le_add_right _ _) hS fun r h' H1 locs1 hq hs1 hS1 => ?_
  have := kk r h' hq H1 locs1 ls hs1 hS1 hls
  cases r <;> simpa using this
theorem x_callVN {G : zG} {M M' : zM} {mc ms : Nat} {κ : zK} {ck cn pc : Nat} {L st st0 : List Value} {h : zH} (C : zCx G M mc ms κ) {ix n b ci mc' ms' : Nat} (as : List Value) {Q' : Option Value → zH → Prop} {fs : List Value} {T : u_T} {N : Nat} {host : String} (hM : zCn M' (.ref b :: as) h mc' ms' Q') (hk : zMk M' n) (hv : zMv M') (hl : Cond.methodLinkNest M.1.cls ix M'.1 host ∈ lw_tbl) (hR : zRm M M') (hc : vwCl[ci]? = some (M'.1.cls, T, N)) (hg : zg h b (zO ci fs)) (hn : as.length = n) (hck : ck + mc' ≤ mc ∧ cn + ms' ≤ ms) (hst : (st.map fun v => v.category).sum ≤ 8) (e0 : st0 = as.reverse ++ .ref b :: st) (hd : decode M.2.1 pc = .ok (.invokevirtual ix, 3)) (kk : ∀ (r : Option Value) (h' : zH), Q' r h' → zW G M mc ms κ (ck + mc') (cn + ms') (pc + 3) L (r.toList ++ st) h') : zW G M mc ms κ ck cn pc L st0 h := by
  subst e0
  obtain ⟨p, l, e, s, m, args, below, meth, c, Q⟩ := κ
  obtain ⟨hx, hb, hml, hown, hts, hF, hG⟩ := C
  intro H locs ls hsim hS hls
  refine zcall (va_runVN (C := M'.1.cls) (b := G.1 + b) (As := as.map (zv G)) (rest := st.map (zv G)) ⟨hx, hb, hml, hown, hts⟩ (hM l G) ⟨va_cnB n hts (zGood hk) rfl rfl rfl (zNestW hF hl rfl) (hts _ hk.2.1) ⟨hk.2.2.1.1, hk.2.2.1.2, hk.2.2.2⟩ hR, hts _ hv.1, hts _ hv.2⟩ ⟨zPc_blind G (.ref b :: as) h, va_recv hF.1 hsim.2 hc (zw_at hg), fun U hU hW => zPc_at (as := .ref b :: as) hsim hF hS U hU hW⟩ rfl (by rw [List.length_map]; exact hn) hls.1 (by simp [zv]) (lv_room (by rw [zv_cats]; exact hst)) hd hck) (by rw [hsim.1]; exact Nat.le_add_right _ _) hS fun r h' H1 locs1 hq hs1 hS1 => ?_
  have := kk r h' hq H1 locs1 ls hs1 hS1 hls
  cases r <;> simpa using this
theorem x_callS {G : zG} {M M' : zM} {mc ms : Nat} {κ : zK} {ck cn pc : Nat} {L st st0 : List Value} {h : zH} (C : zCx G M mc ms κ) {ix n mc' ms' : Nat} (as : List Value) {Q' : Option Value → zH → Prop} (hM : zCn M' as h mc' ms' Q') (hk : zMk M' n) (hv : Cond.static M'.1 ∈ zbig) (hl : Cond.methodLink M.1.cls ix M'.1 ∈ zbig) (hR : zRm M M') (hn : as.length = n) (hck : ck + mc' ≤ mc ∧ cn + ms' ≤ ms) (hst : (st.map fun v => v.category).sum ≤ 8) (e0 : st0 = as.reverse ++ st) (hd : decode M.2.1 pc = .ok (.invokestatic ix, 3)) (kk : ∀ (r : Option Value) (h' : zH), Q' r h' → zW G M mc ms κ (ck + mc') (cn + ms') (pc + 3) L (r.toList ++ st) h') : zW G M mc ms κ ck cn pc L st0 h := by
  subst e0
  obtain ⟨p, l, e, s, m, args, below, meth, c, Q⟩ := κ
  obtain ⟨hx, hb, hml, hown, hts, hF, hG⟩ := C
  intro H locs ls hsim hS hls
  refine zcall (va_runS (As := as.map (zv G)) (rest := st.map (zv G)) ⟨hx, hb, hml, hown, hts⟩ (hM l G) ⟨zcallB (G := G) hts hk hl hR, hts _ hv⟩ ⟨zPc_blind G as h, fun U hU hW => zPc_at (as := as) hsim hF hS U hU hW⟩ rfl (by rw [List.length_map]; exact hn) hls.1 (by simp) (lv_room (by rw [zv_cats]; exact hst)) hd hck) (by rw [hsim.1]; exact Nat.le_add_right _ _) hS fun r h' H1 locs1 hq hs1 hS1 => ?_
  have := kk r h' hq H1 locs1 ls hs1 hS1 hls
  cases r <;> simpa using this
theorem x_callSN {G : zG} {M M' : zM} {mc ms : Nat} {κ : zK} {ck cn pc : Nat} {L st st0 : List Value} {h : zH} (C : zCx G M mc ms κ) {ix n mc' ms' : Nat} {host : String} (as : List Value) {Q' : Option Value → zH → Prop} (hM : zCn M' as h mc' ms' Q') (hk : zMk M' n) (hv : Cond.static M'.1 ∈ zbig) (hl : Cond.methodLinkNest M.1.cls ix M'.1 host ∈ lw_tbl) (hR : zRm M M') (hn : as.length = n) (hck : ck + mc' ≤ mc ∧ cn + ms' ≤ ms) (hst : (st.map fun v => v.category).sum ≤ 8) (e0 : st0 = as.reverse ++ st) (hd : decode M.2.1 pc = .ok (.invokestatic ix, 3)) (kk : ∀ (r : Option Value) (h' : zH), Q' r h' → zW G M mc ms κ (ck + mc') (cn + ms') (pc + 3) L (r.toList ++ st) h') : zW G M mc ms κ ck cn pc L st0 h := by
  subst e0
  obtain ⟨p, l, e, s, m, args, below, meth, c, Q⟩ := κ
  obtain ⟨hx, hb, hml, hown, hts, hF, hG⟩ := C
  intro H locs ls hsim hS hls
  refine zcall (va_runSN (As := as.map (zv G)) (rest := st.map (zv G)) ⟨hx, hb, hml, hown, hts⟩ (hM l G) ⟨va_cnB n hts (zGood hk) rfl rfl rfl (zNestW hF hl rfl) (hts _ hk.2.1) ⟨hk.2.2.1.1, hk.2.2.1.2, hk.2.2.2⟩ hR, hts _ hv, trivial⟩ ⟨zPc_blind G as h, fun U hU hW => zPc_at (as := as) hsim hF hS U hU hW⟩ rfl (by rw [List.length_map]; exact hn) hls.1 (by simp) (lv_room (by rw [zv_cats]; exact hst)) hd hck) (by rw [hsim.1]; exact Nat.le_add_right _ _) hS fun r h' H1 locs1 hq hs1 hS1 => ?_
  have := kk r h' hq H1 locs1 ls hs1 hS1 hls
  cases r <;> simpa using this
/-- constructors -/
theorem x_callI {G : zG} {M M' : zM} {mc ms : Nat} {κ : zK} {ck cn pc : Nat} {L st st0 : List Value} {h : zH} (C : zCx G M mc ms κ) {ix n b mc' ms' : Nat} (as : List Value) {Q' : Option Value → zH → Prop} (hM : zCn M' (.ref b :: as) h mc' ms' Q') (hk : zMk M' n) (hin : Cond.instanceMethod M'.1 ∈ zbig) (hy : M'.1.name = "<init>" ∧ M'.2.2.2.1 = none) (hl : Cond.methodLink M.1.cls ix M'.1 ∈ zbig) (hR : zRm M M') (hn : as.length = n) (hck : ck + mc' ≤ mc ∧ cn + ms' ≤ ms) (hst : (st.map fun v => v.category).sum ≤ 8) (e0 : st0 = as.reverse ++ .ref b :: st) (hd : decode M.2.1 pc = .ok (.invokespecial ix, 3)) (kk : ∀ (r : Option Value) (h' : zH), Q' r h' → zW G M mc ms κ (ck + mc') (cn + ms') (pc + 3) L (r.toList ++ st) h') : zW G M mc ms κ ck cn pc L st0 h := by
  subst e0
  obtain ⟨p, l, e, s, m, args, below, meth, c, Q⟩ := κ
  obtain ⟨hx, hb, hml, hown, hts, hF, hG⟩ := C
  intro H locs ls hsim hS hls
  have hcb := zcallB (G := G) (mc := mc) (ms := ms) (mc' := mc') (ms' := ms') hts hk hl hR
  rw [hy.2] at hcb
  refine zcall (va_runI (b := G.1 + b) (As := as.map (zv G)) (rest := st.map (zv G)) ⟨hx, hb, hml, hown, hts⟩ (hM l G) ⟨hcb, hy.1, hts _ hin⟩ ⟨zPc_blind G (.ref b :: as) h, fun U hU hW => zPc_at (as := .ref b :: as) hsim hF hS U hU hW⟩ rfl (by rw [List.length_map]; exact hn) hls.1 (by simp [zv]) (lv_room (by rw [zv_cats]; exact hst)) hd hck) (by rw [hsim.1]; exact Nat.le_add_right _ _) hS fun r h' H1 locs1 hq hs1 hS1 => ?_
  have := kk r h' hq H1 locs1 ls hs1 hS1 hls
  cases r <;> simpa using this
theorem x_callIN {G : zG} {M M' : zM} {mc ms : Nat} {κ : zK} {ck cn pc : Nat} {L st st0 : List Value} {h : zH} (C : zCx G M mc ms κ) {ix n b mc' ms' : Nat} {host : String} (as : List Value) {Q' : Option Value → zH → Prop} (hM : zCn M' (.ref b :: as) h mc' ms' Q') (hk : zMk M' n) (hin : Cond.instanceMethod M'.1 ∈ zbig) (hy : M'.1.name = "<init>" ∧ M'.2.2.2.1 = none) (hl : Cond.methodLinkNest M.1.cls ix M'.1 host ∈ lw_tbl) (hR : zRm M M') (hn : as.length = n) (hck : ck + mc' ≤ mc ∧ cn + ms' ≤ ms) (hst : (st.map fun v => v.category).sum ≤ 8) (e0 : st0 = as.reverse ++ .ref b :: st) (hd : decode M.2.1 pc = .ok (.invokespecial ix, 3)) (kk : ∀ (r : Option Value) (h' : zH), Q' r h' → zW G M mc ms κ (ck + mc') (cn + ms') (pc + 3) L (r.toList ++ st) h') : zW G M mc ms κ ck cn pc L st0 h := by
  subst e0
  obtain ⟨p, l, e, s, m, args, below, meth, c, Q⟩ := κ
  obtain ⟨hx, hb, hml, hown, hts, hF, hG⟩ := C
  intro H locs ls hsim hS hls
  have hcb := va_cnB (R := zrm M mc ms) (s := s) (args := args) (mc := mc') (ms := ms') (rm := zrm M' mc' ms') n hts (zGood hk) rfl rfl rfl (zNestW hF hl rfl) (hts _ hk.2.1) ⟨hk.2.2.1.1, hk.2.2.1.2, hk.2.2.2⟩ hR
  rw [hy.2] at hcb
  refine zcall (va_runIN (b := G.1 + b) (As := as.map (zv G)) (rest := st.map (zv G)) ⟨hx, hb, hml, hown, hts⟩ (hM l G) ⟨hcb, hy.1, hts _ hin⟩ ⟨zPc_blind G (.ref b :: as) h, fun U hU hW => zPc_at (as := .ref b :: as) hsim hF hS U hU hW⟩ rfl (by rw [List.length_map]; exact hn) hls.1 (by simp [zv]) (lv_room (by rw [zv_cats]; exact hst)) hd hck) (by rw [hsim.1]; exact Nat.le_add_right _ _) hS fun r h' H1 locs1 hq hs1 hS1 => ?_
  have := kk r h' hq H1 locs1 ls hs1 hS1 hls
  cases r <;> simpa using this
theorem x_objInit {G : zG} {M : zM} {mc ms : Nat} {κ : zK} {ck cn pc : Nat} {L st : List Value} {h : zH} (C : zCx G M mc ms κ) {a ix : Nat} (hl : Cond.methodLink M.1.cls ix objectInit ∈ zbig) (hi : Cond.instanceMethod objectInit ∈ zbig) (hc : Cond.code objectInit ⟨#[0xb1]⟩ 1 none ∈ zbig) (hR : 1 ≤ M.2.2.2.2.1 ∧ 20 ≤ M.2.2.2.2.2) (hst : (st.map fun v => v.category).sum ≤ 8) (hd : decode M.2.1 pc = .ok (.invokespecial ix, 3)) (kk : zW G M mc ms κ ck cn (pc + 3) L st h) : zW G M mc ms κ ck cn pc L (.ref a :: st) h := by
  obtain ⟨p, l, e, s, m, args, below, meth, c, Q⟩ := κ
  obtain ⟨hx, hb, hml, hown, hts, hF, hG⟩ := C
  intro H locs ls hsim hS hls
  refine W.objInit hx hb hown (hts _ hl) (hts _ hi) (hts _ hc) rfl (hls.1.trans hml.symm) rfl hd hR.1 ?_ (kk H locs ls hsim hS hls)
  have := lv_room (m := m) (pc := pc) (ls := ls) (rest := st.map (zv G)) (st := st.map (zv G)) (by rw [zv_cats]; exact hst)
  have h20 : 20 ≤ (zrm M mc ms).locals := hR.2
  exact Nat.le_trans (Nat.add_le_add_right this 12) h20
/-! ends -/
theorem x_ret {G : zG} {M : zM} {mc ms : Nat} {κ : zK} {ck cn pc : Nat} {L : List Value} {h : zH} {Q : Option Value → zH → Prop} (C : zCx G M mc ms κ) (Cr : zCr G M mc ms Q κ) (hr : M.2.2.2.1 = none) (hck : ck ≤ mc ∧ cn ≤ ms) (hd : decode M.2.1 pc = .ok (.return_, 1)) (hq : Q none h) : zW G M mc ms κ ck cn pc L [] h := by
  obtain ⟨p, l, e, s, m, args, below, meth, c, Q0⟩ := κ
  obtain ⟨hx, hb, hml, hown, hts, hF, hG⟩ := C
  obtain ⟨h1, h2, -, rfl⟩ := Cr
  intro H locs ls hsim hS hls
  refine W.widen hck.1 hck.2 ?_
  exact W.vret hx hb (h1.trans hr) (fun t ht hW => ⟨⟨none, h, rfl, hq, by rw [ht]; exact hsim⟩, hS.F ht⟩) hS.2.2 hd h2
theorem x_iret {G : zG} {M : zM} {mc ms : Nat} {κ : zK} {ck cn pc : Nat} {L : List Value} {h : zH} {Q : Option Value → zH → Prop} {x : Int32} (C : zCx G M mc ms κ) (Cr : zCr G M mc ms Q κ) {ty : FieldType} (hr : M.2.2.2.1 = some ty) (hn : narrow ty (.int x) = .int x) (hck : ck ≤ mc ∧ cn ≤ ms) (hd : decode M.2.1 pc = .ok (.ireturn, 1)) (hq : Q (some (.int x)) h) : zW G M mc ms κ ck cn pc L [.int x] h := by
  obtain ⟨p, l, e, s, m, args, below, meth, c, Q0⟩ := κ
  obtain ⟨hx, hb, hml, hown, hts, hF, hG⟩ := C
  obtain ⟨h1, h2, -, rfl⟩ := Cr
  intro H locs ls hsim hS hls
  refine W.widen hck.1 hck.2 ?_
  exact W.zret hx hb (h1.trans hr) hn (fun t ht hW => ⟨⟨some (.int x), h, rfl, hq, by rw [ht]; exact hsim⟩, hS.F ht⟩) hS.2.2 hd h2
theorem x_lret {G : zG} {M : zM} {mc ms : Nat} {κ : zK} {ck cn pc : Nat} {L : List Value} {h : zH} {Q : Option Value → zH → Prop} {x : Int64} (C : zCx G M mc ms κ) (Cr : zCr G M mc ms Q κ) (hr : M.2.2.2.1 = some .long) (hck : ck ≤ mc ∧ cn ≤ ms) (hd : decode M.2.1 pc = .ok (.lreturn, 1)) (hq : Q (some (.long x)) h) : zW G M mc ms κ ck cn pc L [.long x] h := by
  obtain ⟨p, l, e, s, m, args, below, meth, c, Q0⟩ := κ
  obtain ⟨hx, hb, hml, hown, hts, hF, hG⟩ := C
  obtain ⟨h1, h2, -, rfl⟩ := Cr
  intro H locs ls hsim hS hls
  refine W.widen hck.1 hck.2 ?_
  exact W.lret hx hb (h1.trans hr) (fun t ht hW => ⟨⟨some (.long x), h, rfl, hq, by rw [ht]; exact hsim⟩, hS.F ht⟩) hS.2.2 hd h2
theorem x_aret {G : zG} {M : zM} {mc ms : Nat} {κ : zK} {ck cn pc : Nat} {L : List Value} {h : zH} {Q : Option Value → zH → Prop} {v : Value} (C : zCx G M mc ms κ) (Cr : zCr G M mc ms Q κ) (hr : ∃ rt : FieldType, M.2.2.2.1 = some rt ∧ ((∃ n, rt = .object n) ∨ ∃ t, rt = .array t)) (hv : zrf v = true) (hck : ck ≤ mc ∧ cn ≤ ms) (hd : decode M.2.1 pc = .ok (.areturn, 1)) (hq : Q (some v) h) : zW G M mc ms κ ck cn pc L [v] h := by
  obtain ⟨p, l, e, s, m, args, below, meth, c, Q0⟩ := κ
  obtain ⟨hx, hb, hml, hown, hts, hF, hG⟩ := C
  obtain ⟨h1, h2, -, rfl⟩ := Cr
  obtain ⟨rt, hr1, hr2⟩ := hr
  intro H locs ls hsim hS hls
  refine W.widen hck.1 hck.2 ?_
  refine W.aret hx hb (h1.trans hr1) hr2 ?_ (fun t ht hW => ⟨⟨some v, h, rfl, hq, by rw [ht]; exact hsim⟩, hS.F ht⟩) hS.2.2 hd h2
  cases v <;> first | exact Or.inr ⟨_, rfl⟩ | exact Or.inl rfl | cases hv
/-- less is known of the locals -/
theorem x_weak {G : zG} {M : zM} {mc ms : Nat} {κ : zK} {ck cn pc : Nat} {L L' st : List Value} {h : zH} (hL : ∀ (i : Nat) (v : Value), L'[i]? = some v → v ≠ .float 0 → L[i]? = some v) (kk : zW G M mc ms κ ck cn pc L' st h) : zW G M mc ms κ ck cn pc L st h := by
  obtain ⟨p, l, e, s, m, args, below, meth, c, Q⟩ := κ
  intro H locs ls hsim hS hls
  exact kk H locs ls hsim hS ⟨hls.1, hls.2.1, fun i v hi h0 => hls.2.2 i v (hL i v hi h0) h0⟩
theorem zCn.mono {M : zM} {as : List Value} {h : zH} {mc ms : Nat} {Q Q' : Option Value → zH → Prop} (hM : zCn M as h mc ms Q) (hq : ∀ r h', Q r h' → Q' r h') : zCn M as h mc ms Q' := by
  intro l G p e a1 a2 a3 s m args below f ap pc t
  obtain ⟨n, o, h1, h2, h3, ⟨⟨r, h', e1, hq1, hs⟩, hf⟩, hL⟩ := hM l G p e a1 a2 a3 s m args below f ap pc t
  exact ⟨n, o, h1, h2, h3, ⟨⟨r, h', e1, hq _ _ hq1, hs⟩, hf⟩, hL⟩

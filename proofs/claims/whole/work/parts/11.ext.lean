/-! ===== outer cells: the row of bindings, the two texts; Math; rows copied ===== -/
theorem zr_nf (o : Option Nat) : (zr o = .float 0) = False := by cases o <;> simp [zr]
theorem mm_i : Cond.initialized "java/lang/Math" ∈ zbig := zin_1 18 (by decide +kernel) rfl
theorem mm_min_s : Cond.static Lib.Math.min.name ∈ zbig := zin_3 49 (by decide +kernel) rfl
theorem mm_min_c : Cond.code Lib.Math.min.name Lib.Math.min.code 2 (some .int) ∈ zbig := zin_3 50 (by decide +kernel) rfl
theorem mm_max_s : Cond.static Lib.Math.max.name ∈ zbig := zin_3 90 (by decide +kernel) rfl
theorem mm_max_c : Cond.code Lib.Math.max.name Lib.Math.max.code 2 (some .int) ∈ zbig := zin_3 91 (by decide +kernel) rfl
theorem lX4_248 : Cond.fieldLinkNest RX4 248 "BallotRing" "BINDING" "[I" "BallotRing" ∈ lw_tbl := ztm_3 230 (by decide +kernel)
section EXT
variable {G : zG} {M : zM} {mc ms : Nat} {κ : zK} {ck cn pc : Nat} {L st : List Value} {h : zH}
theorem f_getsB (C : zCx G M mc ms κ) (hM : M.1.cls = RX4) (hd : decode M.2.1 pc = .ok (.getstatic 248, 3)) (kk : zW G M mc ms κ ck cn (pc + 3) L (.retAddr 1 :: st) h) : zW G M mc ms κ ck cn pc L st h := by
  obtain ⟨p, l, e, s, m, args, below, meth, c, Q⟩ := κ
  obtain ⟨hx, hb, hml, hown, hts, hF, hG⟩ := C
  intro H locs ls hsim hS hls
  rw [hM] at hown
  exact va_getsN hx hb hF.2.2.2.1.1 hS hown (va_Nw.use rfl (zNestW hF lX4_248 rfl)) (fun _ z => z) hd (kk H locs ls hsim hS hls)
theorem f_ldcs28 (C : zCx G M mc ms κ) (hM : M.1.cls = RX8) (hd : decode M.2.1 pc = .ok (.ldc 28, 2)) (kk : zW G M mc ms κ ck cn (pc + 2) L (.retAddr 2 :: st) h) : zW G M mc ms κ ck cn pc L st h := by
  obtain ⟨p, l, e, s, m, args, below, meth, c, Q⟩ := κ
  obtain ⟨hx, hb, hml, hown, hts, hF, hG⟩ := C
  intro H locs ls hsim hS hls
  rw [hM] at hown
  exact va_ldcS hx hb hown hF.2.2.2.2.1 hd (kk H locs ls hsim hS hls)
theorem f_ldcs99 (C : zCx G M mc ms κ) (hM : M.1.cls = RX8) (hd : decode M.2.1 pc = .ok (.ldc 99, 2)) (kk : zW G M mc ms κ ck cn (pc + 2) L (.retAddr 3 :: st) h) : zW G M mc ms κ ck cn pc L st h := by
  obtain ⟨p, l, e, s, m, args, below, meth, c, Q⟩ := κ
  obtain ⟨hx, hb, hml, hown, hts, hF, hG⟩ := C
  intro H locs ls hsim hS hls
  rw [hM] at hown
  exact va_ldcS hx hb hown hF.2.2.2.2.2.1 hd (kk H locs ls hsim hS hls)
/-- a place of the row of bindings -/
theorem f_xbald (C : zCx G M mc ms κ) {i : Int32} (hin : vp_in i 12) (hd : decode M.2.1 pc = .ok (.iaload, 1)) (kk : zW G M mc ms κ ck cn (pc + 1) L (.int (zbind i.toNatClampNeg) :: st) h) : zW G M mc ms κ ck cn pc L (.int i :: .retAddr 1 :: st) h := by
  obtain ⟨p, l, e, s, m, args, below, meth, c, Q⟩ := κ
  obtain ⟨hx, hb, hml, hown, hts, hF, hG⟩ := C
  intro H locs ls hsim hS hls
  exact va_ti hx hb hF.2.2.2.1.2.1 hS hin rfl hd (kk H locs ls hsim hS hls)
theorem f_xblen (C : zCx G M mc ms κ) (hd : decode M.2.1 pc = .ok (.arraylength, 1)) (kk : zW G M mc ms κ ck cn (pc + 1) L (.int 12 :: st) h) : zW G M mc ms κ ck cn pc L (.retAddr 1 :: st) h := by
  obtain ⟨p, l, e, s, m, args, below, meth, c, Q⟩ := κ
  obtain ⟨hx, hb, hml, hown, hts, hF, hG⟩ := C
  intro H locs ls hsim hS hls
  exact va_tlen hx hb hF.2.2.2.1.2.1 hS rfl hd (kk H locs ls hsim hS hls)
/-- a text's bytes: text i (0, 1) is outer cell 2 + i, its bytes 4 + i -/
theorem f_xtald (C : zCx G M mc ms κ) {i : Nat} (hi : i < 2) {x : Int32} (hin : vp_in x (zlen.getD i 0)) (hd : decode M.2.1 pc = .ok (.baload, 1)) (kk : zW G M mc ms κ ck cn (pc + 1) L (.int ((zbyt.getD i []).getD x.toNatClampNeg 0) :: st) h) : zW G M mc ms κ ck cn pc L (.int x :: .retAddr (4 + i) :: st) h := by
  obtain ⟨p, l, e, s, m, args, below, meth, c, Q⟩ := κ
  obtain ⟨hx, hb, hml, hown, hts, hF, hG⟩ := C
  intro H locs ls hsim hS hls
  exact va_tb hx hb (hF.2.2.2.1.2.2.2.1 i hi).2.2.2 hS hin rfl hd (kk H locs ls hsim hS hls)
theorem f_xtlen (C : zCx G M mc ms κ) {i : Nat} (hi : i < 2) (hd : decode M.2.1 pc = .ok (.arraylength, 1)) (kk : zW G M mc ms κ ck cn (pc + 1) L (.int (nI (zlen.getD i 0)) :: st) h) : zW G M mc ms κ ck cn pc L (.retAddr (4 + i) :: st) h := by
  obtain ⟨p, l, e, s, m, args, below, meth, c, Q⟩ := κ
  obtain ⟨hx, hb, hml, hown, hts, hF, hG⟩ := C
  intro H locs ls hsim hS hls
  exact va_tlen hx hb (hF.2.2.2.1.2.2.2.1 i hi).2.2.2 hS rfl hd (kk H locs ls hsim hS hls)
theorem f_xtval (C : zCx G M mc ms κ) {i ix : Nat} (hi : i < 2) (hl : Cond.fieldLink M.1.cls ix "java/lang/String" "value" "[B" ∈ zbig) (hd : decode M.2.1 pc = .ok (.getfield ix, 3)) (kk : zW G M mc ms κ ck cn (pc + 3) L (.retAddr (4 + i) :: st) h) : zW G M mc ms κ ck cn pc L (.retAddr (2 + i) :: st) h := by
  obtain ⟨p, l, e, s, m, args, below, meth, c, Q⟩ := κ
  obtain ⟨hx, hb, hml, hown, hts, hF, hG⟩ := C
  intro H locs ls hsim hS hls
  exact vk_getf hx hb (hF.2.2.2.1.2.2.2.1 i hi).2.2.1 hS hown (hts _ hl) (fun _ z => z) hd (kk H locs ls hsim hS hls)
theorem f_xtcod (C : zCx G M mc ms κ) {i ix : Nat} (hi : i < 2) (hl : Cond.fieldLink M.1.cls ix "java/lang/String" "coder" "B" ∈ zbig) (hd : decode M.2.1 pc = .ok (.getfield ix, 3)) (kk : zW G M mc ms κ ck cn (pc + 3) L (.int 0 :: st) h) : zW G M mc ms κ ck cn pc L (.retAddr (2 + i) :: st) h := by
  obtain ⟨p, l, e, s, m, args, below, meth, c, Q⟩ := κ
  obtain ⟨hx, hb, hml, hown, hts, hF, hG⟩ := C
  intro H locs ls hsim hS hls
  exact vk_getf hx hb (hF.2.2.2.1.2.2.2.1 i hi).2.1 hS hown (hts _ hl) (fun _ z => z) hd (kk H locs ls hsim hS hls)
theorem f_xtcs (C : zCx G M mc ms κ) {ix : Nat} (hl : Cond.fieldLink M.1.cls ix "java/lang/String" "COMPACT_STRINGS" "Z" ∈ zbig) (hd : decode M.2.1 pc = .ok (.getstatic ix, 3)) (kk : zW G M mc ms κ ck cn (pc + 3) L (.int 1 :: st) h) : zW G M mc ms κ ck cn pc L st h := by
  obtain ⟨p, l, e, s, m, args, below, meth, c, Q⟩ := κ
  obtain ⟨hx, hb, hml, hown, hts, hF, hG⟩ := C
  intro H locs ls hsim hS hls
  exact va_gets hx hb hF.2.2.2.1.2.2.1 hS hown (hts _ hl) (fun _ z => z) hd (kk H locs ls hsim hS hls)
/-- a call on a text -/
theorem f_callX {M' : zM} {st0 : List Value} (C : zCx G M mc ms κ) {ix n i mc' ms' : Nat} (as : List Value) {Q' : Option Value → zH → Prop} (hM : zCn M' (.retAddr (2 + i) :: as) h mc' ms' Q') (hk : zMk M' n) (hv : zMv M') (hl : Cond.methodLink M.1.cls ix M'.1 ∈ zbig) (hR : zRm M M') (hi : i < 2 ∧ M'.1.cls = "java/lang/String") (hn : as.length = n) (hck : ck + mc' ≤ mc ∧ cn + ms' ≤ ms) (hst : (st.map fun v => v.category).sum ≤ 8) (e0 : st0 = as.reverse ++ .retAddr (2 + i) :: st) (hd : decode M.2.1 pc = .ok (.invokevirtual ix, 3)) (kk : ∀ (r : Option Value) (h' : zH), Q' r h' → zW G M mc ms κ (ck + mc') (cn + ms') (pc + 3) L (r.toList ++ st) h') : zW G M mc ms κ ck cn pc L st0 h := by
  subst e0
  obtain ⟨p, l, e, s, m, args, below, meth, c, Q⟩ := κ
  obtain ⟨hx, hb, hml, hown, hts, hF, hG⟩ := C
  intro H locs ls hsim hS hls
  refine zcall (va_runV (C := M'.1.cls) (b := G.2.2.2 (2 + i)) (As := as.map (zv G)) (rest := st.map (zv G)) ⟨hx, hb, hml, hown, hts⟩ (hM l G) ⟨zcallB (G := G) hts hk hl hR, hts _ hv.1, hts _ hv.2⟩ ⟨zPc_blind G (.retAddr (2 + i) :: as) h, by rw [hi.2]; exact vk_recv (i := i) hF.2.2.2.1.2.2.2 hi.1 hS, fun U hU hW => zPc_at (as := .retAddr (2 + i) :: as) hsim hF hS U hU hW⟩ rfl (by rw [List.length_map]; exact hn) hls.1 (by simp [zv]) (lv_room (by rw [zv_cats]; exact hst)) hd hck) (by rw [hsim.1]; exact Nat.le_add_right _ _) hS fun r h' H1 locs1 hq hs1 hS1 => ?_
  have := kk r h' hq H1 locs1 ls hs1 hS1 hls
  cases r <;> simpa using this
end EXT

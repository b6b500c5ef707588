/-! ===== JDK: a row copied, a text's letter ===== -/
theorem dJ0_charAt_5068e_0 : decode cJ0_charAt_5068e 0 = .ok (.aload_n 0, 1) := by decide +kernel
theorem dJ0_charAt_5068e_1 : decode cJ0_charAt_5068e 1 = .ok (.invokevirtual 492, 3) := by decide +kernel
theorem dJ0_charAt_5068e_4 : decode cJ0_charAt_5068e 4 = .ok (.ifCond .eq 12, 3) := by decide +kernel
theorem dJ0_charAt_5068e_7 : decode cJ0_charAt_5068e 7 = .ok (.aload_n 0, 1) := by decide +kernel
theorem dJ0_charAt_5068e_8 : decode cJ0_charAt_5068e 8 = .ok (.getfield 9, 3) := by decide +kernel
theorem dJ0_charAt_5068e_11 : decode cJ0_charAt_5068e 11 = .ok (.iload_n 1, 1) := by decide +kernel
theorem dJ0_charAt_5068e_12 : decode cJ0_charAt_5068e 12 = .ok (.invokestatic 495, 3) := by decide +kernel
theorem dJ0_charAt_5068e_15 : decode cJ0_charAt_5068e 15 = .ok (.ireturn, 1) := by decide +kernel
theorem dJ1_charAt_3b067_0 : decode cJ1_charAt_3b067 0 = .ok (.iload_n 1, 1) := by decide +kernel
theorem dJ1_charAt_3b067_1 : decode cJ1_charAt_3b067 1 = .ok (.aload_n 0, 1) := by decide +kernel
theorem dJ1_charAt_3b067_2 : decode cJ1_charAt_3b067 2 = .ok (.arraylength, 1) := by decide +kernel
theorem dJ1_charAt_3b067_3 : decode cJ1_charAt_3b067 3 = .ok (.invokestatic 9, 3) := by decide +kernel
theorem dJ1_charAt_3b067_6 : decode cJ1_charAt_3b067 6 = .ok (.aload_n 0, 1) := by decide +kernel
theorem dJ1_charAt_3b067_7 : decode cJ1_charAt_3b067 7 = .ok (.iload_n 1, 1) := by decide +kernel
theorem dJ1_charAt_3b067_8 : decode cJ1_charAt_3b067 8 = .ok (.baload, 1) := by decide +kernel
theorem dJ1_charAt_3b067_9 : decode cJ1_charAt_3b067 9 = .ok (.sipush 255, 3) := by decide +kernel
theorem dJ1_charAt_3b067_12 : decode cJ1_charAt_3b067 12 = .ok (.iand, 1) := by decide +kernel
theorem dJ1_charAt_3b067_13 : decode cJ1_charAt_3b067 13 = .ok (.i2c, 1) := by decide +kernel
theorem dJ1_charAt_3b067_14 : decode cJ1_charAt_3b067 14 = .ok (.ireturn, 1) := by decide +kernel
theorem dJ0_checkIndex_df160_0 : decode cJ0_checkIndex_df160 0 = .ok (.iload_n 0, 1) := by decide +kernel
theorem dJ0_checkIndex_df160_1 : decode cJ0_checkIndex_df160 1 = .ok (.iload_n 1, 1) := by decide +kernel
theorem dJ0_checkIndex_df160_2 : decode cJ0_checkIndex_df160 2 = .ok (.getstatic 1053, 3) := by decide +kernel
theorem dJ0_checkIndex_df160_5 : decode cJ0_checkIndex_df160 5 = .ok (.invokestatic 1059, 3) := by decide +kernel
theorem dJ0_checkIndex_df160_8 : decode cJ0_checkIndex_df160 8 = .ok (.pop, 1) := by decide +kernel
theorem dJ0_checkIndex_df160_9 : decode cJ0_checkIndex_df160 9 = .ok (.return_, 1) := by decide +kernel
theorem dJ3_checkIndex_8e157_0 : decode cJ3_checkIndex_8e157 0 = .ok (.iload_n 0, 1) := by decide +kernel
theorem dJ3_checkIndex_8e157_1 : decode cJ3_checkIndex_8e157 1 = .ok (.ifCond .lt 8, 3) := by decide +kernel
theorem dJ3_checkIndex_8e157_4 : decode cJ3_checkIndex_8e157 4 = .ok (.iload_n 0, 1) := by decide +kernel
theorem dJ3_checkIndex_8e157_5 : decode cJ3_checkIndex_8e157 5 = .ok (.iload_n 1, 1) := by decide +kernel
theorem dJ3_checkIndex_8e157_6 : decode cJ3_checkIndex_8e157 6 = .ok (.if_icmp .lt 10, 3) := by decide +kernel
theorem dJ3_checkIndex_8e157_16 : decode cJ3_checkIndex_8e157 16 = .ok (.iload_n 0, 1) := by decide +kernel
theorem dJ3_checkIndex_8e157_17 : decode cJ3_checkIndex_8e157 17 = .ok (.ireturn, 1) := by decide +kernel
theorem dJ7_copyOf_59c91_0 : decode cJ7_copyOf_59c91 0 = .ok (.iload_n 1, 1) := by decide +kernel
theorem dJ7_copyOf_59c91_1 : decode cJ7_copyOf_59c91 1 = .ok (.aload_n 0, 1) := by decide +kernel
theorem dJ7_copyOf_59c91_2 : decode cJ7_copyOf_59c91 2 = .ok (.arraylength, 1) := by decide +kernel
theorem dJ7_copyOf_59c91_3 : decode cJ7_copyOf_59c91 3 = .ok (.if_icmp .ne 11, 3) := by decide +kernel
theorem dJ7_copyOf_59c91_14 : decode cJ7_copyOf_59c91 14 = .ok (.iload_n 1, 1) := by decide +kernel
theorem dJ7_copyOf_59c91_15 : decode cJ7_copyOf_59c91 15 = .ok (.newarray .int, 2) := by decide +kernel
theorem dJ7_copyOf_59c91_17 : decode cJ7_copyOf_59c91 17 = .ok (.astore_n 2, 1) := by decide +kernel
theorem dJ7_copyOf_59c91_18 : decode cJ7_copyOf_59c91 18 = .ok (.aload_n 0, 1) := by decide +kernel
theorem dJ7_copyOf_59c91_19 : decode cJ7_copyOf_59c91 19 = .ok (.iconst 0, 1) := by decide +kernel
theorem dJ7_copyOf_59c91_20 : decode cJ7_copyOf_59c91 20 = .ok (.aload_n 2, 1) := by decide +kernel
theorem dJ7_copyOf_59c91_21 : decode cJ7_copyOf_59c91 21 = .ok (.iconst 0, 1) := by decide +kernel
theorem dJ7_copyOf_59c91_22 : decode cJ7_copyOf_59c91 22 = .ok (.aload_n 0, 1) := by decide +kernel
theorem dJ7_copyOf_59c91_23 : decode cJ7_copyOf_59c91 23 = .ok (.arraylength, 1) := by decide +kernel
theorem dJ7_copyOf_59c91_24 : decode cJ7_copyOf_59c91 24 = .ok (.iload_n 1, 1) := by decide +kernel
theorem dJ7_copyOf_59c91_25 : decode cJ7_copyOf_59c91 25 = .ok (.invokestatic 304, 3) := by decide +kernel
theorem dJ7_copyOf_59c91_28 : decode cJ7_copyOf_59c91 28 = .ok (.invokestatic 150, 3) := by decide +kernel
theorem dJ7_copyOf_59c91_31 : decode cJ7_copyOf_59c91 31 = .ok (.aload_n 2, 1) := by decide +kernel
theorem dJ7_copyOf_59c91_32 : decode cJ7_copyOf_59c91 32 = .ok (.areturn, 1) := by decide +kernel
section
variable {G : zG} {M : zM} {mc ms : Nat} {κ : zK} {ck cn pc : Nat} {L st : List Value} {h : zH} {Q : Option Value → zH → Prop}
/-- the static that is carried -/
theorem f_gsio (C : zCx G M mc ms κ) (hM : M.1.cls = RJ0) (hd : decode M.2.1 pc = .ok (.getstatic 1053, 3)) (k1 : zW G M mc ms κ ck cn (pc + 3) L (.null :: st) h) (k2 : zW G M mc ms κ ck cn (pc + 3) L (.retAddr 6 :: st) h) : zW G M mc ms κ ck cn pc L st h := by
  have hl : Cond.fieldLink M.1.cls 1053 "jdk/internal/util/Preconditions" "SIOOBE_FORMATTER" "Ljava/util/function/BiFunction;" ∈ zbig := by rw [hM]; exact zin_1 68 (by decide +kernel) rfl
  obtain ⟨p, l, e, s, m, args, below, meth, c, Qk⟩ := κ
  obtain ⟨hx, hb, hml, hown, hts, hF, hG⟩ := C
  intro H locs ls hsim hS hls
  rcases hF.2.2.2.2.2.2 with z | z
  · exact va_gets hx hb z hS hown (hts _ hl) (fun _ w => w) hd (k1 H locs ls hsim hS hls)
  · exact va_gets hx hb z hS hown (hts _ hl) (fun _ w => w) hd (k2 H locs ls hsim hS hls)
theorem zX_two {pc' : Nat} {st1 st2 : List Value} {r0 : Option Value} {h0 : zH} (step : ∀ {G : zG} {κ : zK} {mc ms ck cn : Nat}, zCx G M mc ms κ → zW G M mc ms κ ck cn pc' L st1 h → zW G M mc ms κ ck cn pc' L st2 h → zW G M mc ms κ ck cn pc L st h) (k1 : zX M pc' L st1 h (fun r h' => r = r0 ∧ h' = h0)) (k2 : zX M pc' L st2 h (fun r h' => r = r0 ∧ h' = h0)) (hq : Q r0 h0) : zX M pc L st h Q := by
  obtain ⟨r, h1, ⟨e1, e2⟩, a1, a2, w1⟩ := k1
  obtain ⟨r', h2, ⟨f1, f2⟩, b1, b2, w2⟩ := k2
  subst e1 e2 f1 f2
  exact ⟨_, _, hq, a1, a2, fun G κ n0 m0 i1 i2 C Cr hs => step C (w1 G κ n0 m0 i1 i2 C Cr hs) (w2 G κ n0 m0 i1 i2 C Cr hs)⟩
/-- a row is copied into another -/
theorem x_copyi (C : zCx G M mc ms κ) {ix a0 a n0 n1 : Nat} {f g : Nat → Int32} {sp dp n : Int32} (hl : Cond.methodLink M.1.cls ix arraycopyName ∈ zbig) (hg0 : zg h a0 (zI 0 n0 f)) (hg1 : zg h a (zI 0 n1 g)) (h1 : ¬ sp < 0) (h2 : ¬ dp < 0) (h3 : ¬ n < 0) (h4 : sp.toNatClampNeg + n.toNatClampNeg ≤ n0) (h5 : dp.toNatClampNeg + n.toNatClampNeg ≤ n1) (hR : 1 ≤ M.2.2.2.2.1 ∧ 60 ≤ M.2.2.2.2.2) (hst : (st.map fun v => v.category).sum ≤ 8) (hd : decode M.2.1 pc = .ok (.invokestatic ix, 3)) (kk : zW G M mc ms κ ck cn (pc + 3) L st (zs h a (zI 0 n1 (va_cpy f g sp.toNatClampNeg dp.toNatClampNeg n.toNatClampNeg)))) : zW G M mc ms κ ck cn pc L (.int n :: .int dp :: .ref a :: .int sp :: .ref a0 :: st) h := by
  have hnat : Cond.native arraycopyName ∈ zbig := zin_4 51 (by decide +kernel) rfl
  have hstat : Cond.static arraycopyName ∈ zbig := zin_4 50 (by decide +kernel) rfl
  have hini : Cond.initialized "java/lang/System" ∈ zbig := zin_1 21 (by decide +kernel) rfl
  have nn : ∀ z : Int32, ¬ z < 0 → z.toInt = (z.toNatClampNeg : Int) := fun z hz => by
    have hz0 : (0 : Int) ≤ z.toInt := by
      have := Int32.not_lt.mp hz
      simpa using Int32.le_iff_toInt_le.mp this
    show z.toInt = ((z.toInt.toNat : Nat) : Int)
    omega
  obtain ⟨p, l, e, s, m, args, below, meth, c, Qk⟩ := κ
  obtain ⟨hx, hb, hml, hown, hts, hF, hG⟩ := C
  intro H locs ls hsim hS hls
  intro T hT X
  have hc0 : H[G.1 + a0]? = some (vp_cell (G.2.2.1 0) (n0, .inl f)) := hsim.2 a0 _ (zw_at hg0)
  have hc1 : H[G.1 + a]? = some (vp_cell (G.2.2.1 0) (n1, .inl g)) := hsim.2 a _ (zw_at hg1)
  obtain ⟨-, k0, hk0, cm0, hkk0⟩ := (hF.1.2 0 _ rfl).1 n0 (fun j => .int (f j))
  obtain ⟨-, k1, hk1, cm1, hkk1⟩ := (hF.1.2 0 _ rfl).1 n1 (fun j => .int (g j))
  obtain ⟨vm', X', step⟩ := X.arraycopy hx hown (hts _ hl) (hts _ hnat) (hts _ hstat) (hts _ hini) (src := G.1 + a0) (dst := G.1 + a) (cs := vp_cell (G.2.2.1 0) (n0, .inl f)) (cd := vp_cell (G.2.2.1 0) (n1, .inl g)) (srcPos := sp) (destPos := dp) (n := n) (by rw [hT]; exact hc0) (by rw [hT]; exact hc1)
    (fun _ h => by cases h) (fun _ h => by cases h) (fun h => by cases h) (fun h => by cases h) hk0 hk1 hkk0 hkk1 (by simp [refKind]) h1 h2 h3
    (by rw [nn sp h1, nn n h3]; show ¬ _ > ((arrV (G.2.2.1 0) n0 (fun j => .int (f j))).slots.size : Int); rw [arrV_size]; omega)
    (by rw [nn dp h2, nn n h3]; show ¬ _ > ((arrV (G.2.2.1 0) n1 (fun j => .int (g j))).slots.size : Int); rw [arrV_size]; omega)
    (fun vm₁ _ i hi => by
      have e : (vp_cell (G.2.2.1 0) (n0, .inl f)).slots.getD (sp.toNatClampNeg + i) .null = .int (f (sp.toNatClampNeg + i)) := by
        show (arrV (G.2.2.1 0) n0 (fun j => .int (f j))).slots.getD _ _ = _
        rw [Array.getD_eq_getD_getElem?, arrV_read _ _ (by omega)]
        rfl
      exact ⟨by rw [e]; rfl, by rw [e]; exact trivial⟩)
    (g := F0 m pc ls (.int n :: .int dp :: .ref (G.1 + a) :: .int sp :: .ref (G.1 + a0) :: st.map (zv G))) rfl (by rw [hml, ← hls.1]) (rest := st.map (zv G)) rfl (by rw [hb]; exact hd) hR.1 (by
      have e : ((st.map (zv G)).map fun v => v.category).sum ≤ 8 := by rw [zv_cats]; exact hst
      have w : nativeFrameWords "java/lang/System" "arraycopy" 5 + 11 ≤ 52 := by decide +kernel
      show 2 * 0 + _ + _ ≤ _
      have := hR.2
      show _ ≤ M.2.2.2.2.2
      omega)
  have e1 : copied (vp_cell (G.2.2.1 0) (n0, .inl f)) (vp_cell (G.2.2.1 0) (n1, .inl g)) sp dp n = vp_cell (G.2.2.1 0) (n1, .inl (va_cpy f g sp.toNatClampNeg dp.toNatClampNeg n.toNatClampNeg)) := va_copied (fun z => .int z) (G.2.2.1 0) (G.2.2.1 0) f g h4
  rw [e1] at X' step
  have hlt : G.1 + a < H.size := (Array.getElem?_eq_some_iff.mp hc1).1
  have hheap : ((T.setVm vm').setCell (G.1 + a) (vp_cell (G.2.2.1 0) (n1, .inl (va_cpy f g sp.toNatClampNeg dp.toNatClampNeg n.toNatClampNeg)))).heap = H.setIfInBounds (G.1 + a) (vp_cell (G.2.2.1 0) (n1, .inl (va_cpy f g sp.toNatClampNeg dp.toNatClampNeg n.toNatClampNeg))) := by rw [← hT]; rfl
  have oq : ∀ q : Nat, q ≠ G.1 + a → (H.setIfInBounds (G.1 + a) (vp_cell (G.2.2.1 0) (n1, .inl (va_cpy f g sp.toNatClampNeg dp.toNatClampNeg n.toNatClampNeg))))[q]? = H[q]? := fun q hq => by simp [Array.getElem?_setIfInBounds, Ne.symm hq]
  obtain ⟨t, a1, b1⟩ := kk _ _ ls (zSim_st hsim hg1 (show (H.setIfInBounds (G.1 + a) _)[G.1 + a]? = some _ by simp [Array.getElem?_setIfInBounds, hlt]) (by simp) oq) ⟨by simp; exact hS.1, fun q g1 g2 => by
      rw [oq q (fun e => g2 (by rw [e]; exact Nat.le_add_right _ _))]
      exact hS.2.1 q g1 g2, fun q hq => by
      rcases List.mem_append.mp hq with h | h
      · exact hS.2.2 q h
      · obtain ⟨z, -, hz⟩ := List.mem_map.mp h
        rw [← hz]
        exact Nat.le_add_right _ _⟩ hls _ hheap X'
  exact ⟨t, step t a1, b1⟩
/-- a row's beginning, anew -/
theorem s7_copyOf {a n m : Nat} (ho : iK h a 0) (hn : aN h a = n) (hm : m < n) (h31 : n < 2 ^ 31) (hb8 : m * 8 ≤ 536870912) (H : ∀ h', fz h.1 [] [] h h' → h'.1 = h.1 + 1 → h'.2.1 = h.2.1 + m → iK h' h.1 0 → aN h' h.1 = m → (∀ j, j < m → aI h' h.1 j = aI h a j) → Q (some (.ref h.1)) h') : zC mJ7_copyOf_59c91 [.ref a, .int (nI m)] h Q := by
  obtain ⟨h1, n', f, h2⟩ := ho
  have en : n' = n := by rw [← hn]; unfold aN; rw [h2]
  subst en
  have ea : aI h a = f := by funext i; unfold aI; rw [h2]
  have hg0 : zg h a (zI 0 n' f) := ⟨h1, h2⟩
  have hg1 : zg (zn h (zI 0 m (fun _ => 0))) a (zI 0 n' f) := zg_k hg0
  have hgn : zg (zn h (zI 0 m (fun _ => 0))) h.1 (zI 0 m (fun _ => 0)) := zg_n
  have cm : (nI m).toNatClampNeg = m := nI_clamp (by omega)
  have c0 : (0 : Int32).toNatClampNeg = 0 := by decide +kernel
  refine zC_of (by decide +kernel) (by simp) (Nat.le_of_ble_eq_true rfl) ?_
  refine zX_seg (pc' := 15) (L' := [.ref a, .int (nI m), .float 0]) (st' := [.int (nI m)]) (h2 := h) rfl rfl (fun C Cr hc kk => x_iload_n C rfl dJ7_copyOf_59c91_0 (x_aload_n C (v := .ref a) rfl rfl dJ7_copyOf_59c91_1 (x_alenI C (t := 0) (by decide) hg0 dJ7_copyOf_59c91_2 (x_icmp_ne C 14 dJ7_copyOf_59c91_3 (by decide) (fun _ => x_iload_n C rfl dJ7_copyOf_59c91_14 kk) (fun q => absurd ((nI_eq (by omega) (by omega)).mp q) (by omega)))))) ?_
  refine zX_new (pc' := 17) (L' := [.ref a, .int (nI m), .float 0]) (st' := [.ref h.1]) (e := zI 0 m (fun _ => 0)) (fun C z1 z2 kk => x_newa C (at0 := .int) ac_int (Or.inl ⟨rfl, rfl⟩) (nI_pos (by omega)) cm hb8 z1 z2 dJ7_copyOf_59c91_15 kk) ?_
  refine zX_seg (pc' := 32) (L' := [.ref a, .int (nI m), .ref h.1]) (st' := [.ref h.1]) (h2 := zs (zn h (zI 0 m (fun _ => 0))) h.1 (zI 0 m (va_cpy f (fun _ => 0) (0 : Int32).toNatClampNeg (0 : Int32).toNatClampNeg (nI m).toNatClampNeg))) rfl rfl (fun C Cr hc kk => x_astore_n C (v := .ref h.1) rfl (by decide) dJ7_copyOf_59c91_17 (x_aload_n C (v := .ref a) rfl rfl dJ7_copyOf_59c91_18 (x_iconst C (0 : Int32) (by decide) dJ7_copyOf_59c91_19 (x_aload_n C (v := .ref h.1) rfl rfl dJ7_copyOf_59c91_20 (x_iconst C (0 : Int32) (by decide) dJ7_copyOf_59c91_21 (x_aload_n C (v := .ref a) rfl rfl dJ7_copyOf_59c91_22 (x_alenI C (t := 0) (by decide) hg1 dJ7_copyOf_59c91_23 (x_iload_n C rfl dJ7_copyOf_59c91_24 (f_mmin C (zin_4 48 (by decide +kernel) rfl) mm_min_s mm_i mm_min_c ⟨by decide, by decide⟩ hc (Nat.le_of_ble_eq_true rfl) dJ7_copyOf_59c91_25 (by
      rw [if_pos (nI_lt hm h31)]
      exact x_copyi C (zin_4 49 (by decide +kernel) rfl) hg1 hgn (by decide +kernel) (by decide +kernel) (nI_pos (by omega)) (by rw [c0, cm]; omega) (by rw [c0, cm]; omega) ⟨by decide, by decide⟩ (Nat.le_of_ble_eq_true rfl) dJ7_copyOf_59c91_28 (x_aload_n C (v := .ref h.1) rfl rfl dJ7_copyOf_59c91_31 kk))))))))))) ?_
  refine zX_ret (some (.ref h.1)) (fun C Cr hc => x_aret C Cr ⟨_, rfl, Or.inr ⟨_, rfl⟩⟩ rfl hc dJ7_copyOf_59c91_32 ⟨rfl, rfl⟩) ?_
  have e3 : (zs (zn h (zI 0 m (fun _ => 0))) h.1 (zI 0 m (va_cpy f (fun _ => 0) (0 : Int32).toNatClampNeg (0 : Int32).toNatClampNeg (nI m).toNatClampNeg))) = zn h (zI 0 m (va_cpy f (fun _ => 0) 0 0 m)) := by
    unfold zs zn
    rw [c0, cm]
    refine Prod.ext rfl (Prod.ext rfl ?_)
    funext k
    show va_up (va_up h.2.2 h.1 _) h.1 _ k = va_up h.2.2 h.1 _ k
    unfold va_up
    split <;> rfl
  rw [e3]
  refine H _ (fz_zn (Nat.le_refl _)) rfl rfl ⟨zg_n.1, m, _, zg_n.2⟩ zn_N (fun j hj => ?_)
  rw [zn_I, ea]
  unfold va_cpy
  rw [if_pos (by omega)]
  simp
theorem sJ3_check {i n : Nat} {v : Value} (hv : v = .null ∨ v = .retAddr 6) (hi : i < n) (hn : n < 2 ^ 31) (H : Q (some (.int (nI i))) h) : zC mJ3_checkIndex_8e157 [.int (nI i), .int (nI n), v] h Q := by
  rcases hv with rfl | rfl
  · refine zC_of (by decide +kernel) (by simp) (Nat.le_of_ble_eq_true rfl) ?_
    refine zX_seg (pc' := 17) (L' := [.int (nI i), .int (nI n), .null]) (st' := [.int (nI i)]) (h2 := h) rfl rfl (fun C Cr hc kk => x_iload_n C rfl dJ3_checkIndex_8e157_0 (x_if_lt C 9 dJ3_checkIndex_8e157_1 (by decide) (fun q => absurd q (nI_pos (by omega))) (fun _ => x_iload_n C rfl dJ3_checkIndex_8e157_4 (x_iload_n C rfl dJ3_checkIndex_8e157_5 (x_icmp_lt C 16 dJ3_checkIndex_8e157_6 (by decide) (fun _ => x_iload_n C rfl dJ3_checkIndex_8e157_16 kk) (fun q => absurd (nI_lt hi hn) q)))))) ?_
    exact zX_ret (some (.int (nI i))) (fun C Cr hc => x_iret C Cr rfl rfl hc dJ3_checkIndex_8e157_17 ⟨rfl, rfl⟩) H
  · refine zC_of (by decide +kernel) (by simp) (Nat.le_of_ble_eq_true rfl) ?_
    refine zX_seg (pc' := 17) (L' := [.int (nI i), .int (nI n), .retAddr 6]) (st' := [.int (nI i)]) (h2 := h) rfl rfl (fun C Cr hc kk => x_iload_n C rfl dJ3_checkIndex_8e157_0 (x_if_lt C 9 dJ3_checkIndex_8e157_1 (by decide) (fun q => absurd q (nI_pos (by omega))) (fun _ => x_iload_n C rfl dJ3_checkIndex_8e157_4 (x_iload_n C rfl dJ3_checkIndex_8e157_5 (x_icmp_lt C 16 dJ3_checkIndex_8e157_6 (by decide) (fun _ => x_iload_n C rfl dJ3_checkIndex_8e157_16 kk) (fun q => absurd (nI_lt hi hn) q)))))) ?_
    exact zX_ret (some (.int (nI i))) (fun C Cr hc => x_iret C Cr rfl rfl hc dJ3_checkIndex_8e157_17 ⟨rfl, rfl⟩) H
theorem sJ0_check {i n : Nat} (hi : i < n) (hn : n < 2 ^ 31) (H : Q none h) : zC mJ0_checkIndex_df160 [.int (nI i), .int (nI n)] h Q := by
  refine zC_of (by decide +kernel) (by simp) (Nat.le_of_ble_eq_true rfl) ?_
  refine zX_seg (pc' := 2) (L' := [.int (nI i), .int (nI n)]) (st' := [.int (nI n), .int (nI i)]) (h2 := h) rfl rfl (fun C Cr hc kk => x_iload_n C rfl dJ0_checkIndex_df160_0 (x_iload_n C rfl dJ0_checkIndex_df160_1 kk)) ?_
  have tl : ∀ v : Value, (v = .null ∨ v = .retAddr 6) → zX mJ0_checkIndex_df160 5 [.int (nI i), .int (nI n)] [v, .int (nI n), .int (nI i)] h (fun r h' => r = none ∧ h' = h) := fun v hv => by
    refine zX_call (as := [.int (nI i), .int (nI n), v]) (st := []) (fun C hM hc kk => x_callS C [.int (nI i), .int (nI n), v] hM kJ3_checkIndex_8e157 sJ3_checkIndex_8e157 lJ0_1059 ⟨by decide, by decide⟩ rfl hc (Nat.le_of_ble_eq_true rfl) rfl dJ0_checkIndex_df160_5 kk) (sJ3_check hv hi hn ?_)
    show zX mJ0_checkIndex_df160 8 [.int (nI i), .int (nI n)] [.int (nI i)] h _
    refine zX_seg (pc' := 9) (L' := [.int (nI i), .int (nI n)]) (st' := []) (h2 := h) rfl rfl (fun C Cr hc kk => x_pop C rfl dJ0_checkIndex_df160_8 kk) ?_
    exact zX_ret none (fun C Cr hc => x_ret C Cr rfl hc dJ0_checkIndex_df160_9 ⟨rfl, rfl⟩) ⟨rfl, rfl⟩
  exact zX_two (st1 := [.null, .int (nI n), .int (nI i)]) (st2 := [.retAddr 6, .int (nI n), .int (nI i)]) (fun C w1 w2 => f_gsio C rfl dJ0_checkIndex_df160_2 w1 w2) (tl .null (Or.inl rfl)) (tl (.retAddr 6) (Or.inr rfl)) H
/-- the own words' text -/
def wch (k : Nat) : Nat := ("name street voter at weight ballot if then else blank as most in fewest or and not votes blanks is ".toList.map Char.toNat).getD k 0
theorem wch_b : ∀ k, k < 99 → ((((zbyt.getD 0 []).getD k 0 &&& (255 : Int32)).toUInt32 % 65536).toInt32 = nI (wch k)) := by decide +kernel
theorem wch_n : ∀ k, k < 99 → ((nI (wch k)).toUInt32 % 65536).toInt32 = nI (wch k) := by decide +kernel
theorem wch_c {k : Nat} (hk : k < 99) : narrow FieldType.char (Value.int (nI (wch k))) = Value.int (nI (wch k)) := by
  show Value.int (((nI (wch k)).toUInt32 % 65536).toInt32) = _
  rw [wch_n k hk]
theorem sJ1_charAt {k : Nat} (hk : k < 99) (H : Q (some (.int (nI (wch k)))) h) : zC mJ1_charAt_3b067 [.retAddr 4, .int (nI k)] h Q := by
  have ck : (nI k).toNatClampNeg = k := nI_clamp (by omega)
  have l99 : zlen.getD 0 0 = 99 := rfl
  refine zC_of (by decide +kernel) (by simp) (Nat.le_of_ble_eq_true rfl) ?_
  refine zX_seg (pc' := 3) (L' := [.retAddr 4, .int (nI k)]) (st' := [.int (nI 99), .int (nI k)]) (h2 := h) rfl rfl (fun C Cr hc kk => x_iload_n C rfl dJ1_charAt_3b067_0 (x_aload_n C (v := .retAddr 4) rfl rfl dJ1_charAt_3b067_1 (f_xtlen C (i := 0) (by decide) dJ1_charAt_3b067_2 kk))) ?_
  refine zX_call (as := [.int (nI k), .int (nI 99)]) (st := []) (fun C hM hc kk => x_callS C [.int (nI k), .int (nI 99)] hM kJ0_checkIndex_df160 sJ0_checkIndex_df160 lJ1_9 ⟨by decide, by decide⟩ rfl hc (Nat.le_of_ble_eq_true rfl) rfl dJ1_charAt_3b067_3 kk) (sJ0_check hk (by decide) ?_)
  show zX mJ1_charAt_3b067 6 [.retAddr 4, .int (nI k)] [] h _
  refine zX_seg (pc' := 14) (L' := [.retAddr 4, .int (nI k)]) (st' := [.int (((zbyt.getD 0 []).getD k 0 &&& (255 : Int32)).toUInt32 % 65536).toInt32]) (h2 := h) rfl rfl (fun C Cr hc kk => x_aload_n C (v := .retAddr 4) rfl rfl dJ1_charAt_3b067_6 (x_iload_n C rfl dJ1_charAt_3b067_7 (f_xtald C (i := 0) (by decide) (by rw [l99]; exact vp_in_nI hk (by decide)) dJ1_charAt_3b067_8 (by rw [ck]; exact x_sipush C (255 : Int32) (by decide) dJ1_charAt_3b067_9 (x_iand C dJ1_charAt_3b067_12 (x_i2c C dJ1_charAt_3b067_13 kk)))))) ?_
  rw [wch_b k hk]
  exact zX_ret (some (.int (nI (wch k)))) (fun C Cr hc => x_iret C Cr rfl (wch_c hk) hc dJ1_charAt_3b067_14 ⟨rfl, rfl⟩) H
theorem sJ0_charAt {k : Nat} (hk : k < 99) (H : Q (some (.int (nI (wch k)))) h) : zC mJ0_charAt_5068e [.retAddr 2, .int (nI k)] h Q := by
  refine zC_of (by decide +kernel) (by simp) (Nat.le_of_ble_eq_true rfl) ?_
  refine zX_seg (pc' := 1) (L' := [.retAddr 2, .int (nI k)]) (st' := [.retAddr 2]) (h2 := h) rfl rfl (fun C Cr hc kk => x_aload_n C (v := .retAddr 2) rfl rfl dJ0_charAt_5068e_0 kk) ?_
  refine zX_call (as := [.retAddr 2]) (st := []) (fun C hM hc kk => f_callX (i := 0) C [] hM kJ0_isLatin1_aae02 vJ0_isLatin1_aae02 lJ0_492 ⟨by decide, by decide⟩ ⟨by decide, rfl⟩ rfl hc (Nat.le_of_ble_eq_true rfl) rfl dJ0_charAt_5068e_1 kk) (sJ_isLatin1 (i := 0) (by decide) ?_)
  show zX mJ0_charAt_5068e 4 [.retAddr 2, .int (nI k)] [.int 1] h Q
  refine zX_seg (pc' := 12) (L' := [.retAddr 2, .int (nI k)]) (st' := [.int (nI k), .retAddr 4]) (h2 := h) rfl rfl (fun C Cr hc kk => x_if_eq C 16 dJ0_charAt_5068e_4 (by decide) (fun q => absurd q (by decide +kernel)) (fun _ => x_aload_n C (v := .retAddr 2) rfl rfl dJ0_charAt_5068e_7 (f_xtval C (i := 0) (by decide) lfJ0_9 dJ0_charAt_5068e_8 (x_iload_n C rfl dJ0_charAt_5068e_11 kk)))) ?_
  refine zX_call (as := [.retAddr 4, .int (nI k)]) (st := []) (fun C hM hc kk => x_callS C [.retAddr 4, .int (nI k)] hM kJ1_charAt_3b067 sJ1_charAt_3b067 lJ0_495 ⟨by decide, by decide⟩ rfl hc (Nat.le_of_ble_eq_true rfl) rfl dJ0_charAt_5068e_12 kk) (sJ1_charAt hk ?_)
  exact zX_ret (some (.int (nI (wch k)))) (fun C Cr hc => x_iret C Cr rfl (wch_c hk) hc dJ0_charAt_5068e_15 ⟨rfl, rfl⟩) H
end

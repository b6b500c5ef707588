/-! ===== the law: its loop, its beginning ===== -/
section
variable {G : zG} {κ : zK} {h : zH} {nn : Nat} {xs : Nat → Int32} {P : Nat}
theorem and31 (a : Int32) : ∃ k, k < 32 ∧ a &&& 31 = nI k := by
  have e : a = nI a.toBitVec.toNat := by
    apply Int32.toBitVec_inj.1
    show a.toBitVec = BitVec.ofNat 32 a.toBitVec.toNat
    simp
  refine ⟨a.toBitVec.toNat &&& 31, Nat.lt_of_le_of_lt Nat.and_le_right (by decide), ?_⟩
  exact (congrArg (fun q => q &&& (31 : Int32)) e).trans (nI_and _ 31)
theorem lt_sub6 {n i : Nat} (hn : n ≤ 384) (hi : i ≤ 390) : nI n - 6 < nI i ↔ n < i + 6 := by
  by_cases y : 6 ≤ n
  · have e : nI n - 6 = nI (n - 6) := nI_sub y
    rw [e, nI_ltI (by omega) (by omega)]
    omega
  · have e : nI n - 6 < 0 := (by decide +kernel : ∀ k, k < 6 → nI k - 6 < 0) n (by omega)
    have e2 : (0 : Int32) ≤ nI i := nI_le (Nat.zero_le i) (by omega)
    exact ⟨fun _ => by omega, fun _ => Int32.lt_of_lt_of_le e e2⟩
def lTg (k : Nat) : Nat := [168, 231, 254, 267, 290, 313, 326, 359, 382, 405, 428, 451, 474, 487, 520, 543, 566, 579, 602, 625, 658, 691, 734, 767, 790, 813, 836, 869, 892, 915].getD k 938
theorem lw_tt : ∀ k, k < 32 → ztt 33 905 0 29 [135, 198, 221, 234, 257, 280, 293, 326, 349, 372, 395, 418, 441, 454, 487, 510, 533, 546, 569, 592, 625, 658, 701, 734, 757, 780, 803, 836, 859, 882] (nI k) = lTg k := by decide +kernel
theorem lW_pc {pc pc' : Nat} {L st : List Value} (e : pc = pc') (k : lW G κ pc' L st h) : lW G κ pc L st h := by rw [e]; exact k
theorem law_loop (C : zCx G mL 600000 7302250 κ) (X : lX G κ nn xs) (hn : nn ≤ 384) (hP : P ≤ 300000) (E : ∀ (x : Int32) (h : zH), lB h → lW G κ 944 (lL x) [] h) (d : Nat) : ∀ (j c : Nat) (w : zSt) (h : zH), j + d = 65 → c ≤ 2 * j → cR h w P c → mR h w → lW G κ 18 (lL (nI (6 * j))) [] h := by
  induction d with
  | zero =>
    intro j c w h hj hc A B
    refine x_iload_n C rfl dL_18 (x_aload_n C (v := .retAddr 0) rfl rfl dL_19 (f_slen C X dL_20 (x_bipush C (6 : Int32) (by decide) dL_21 (x_isub C dL_23 (x_icmp_gt C 944 dL_24 (by decide) (fun _ => E _ h (lB_R A hP (by omega))) (fun z => absurd ((lt_sub6 hn (by omega)).mpr (by omega)) z))))))
  | succ d ih =>
    intro j c w h hj hc A B
    refine x_iload_n C rfl dL_18 (x_aload_n C (v := .retAddr 0) rfl rfl dL_19 (f_slen C X dL_20 (x_bipush C (6 : Int32) (by decide) dL_21 (x_isub C dL_23 (x_icmp_gt C 944 dL_24 (by decide) (fun _ => E _ h (lB_R A hP (by omega))) (fun z => ?_))))))
    have hlt : 6 * j + 6 ≤ nn := by
      rcases Nat.lt_or_ge nn (6 * j + 6) with q | q
      · exact absurd ((lt_sub6 hn (by omega)).mpr q) z
      · exact q
    have g : ∀ t, t ≤ 5 → vp_in (nI (6 * j) + nI t) nn := fun t ht => by rw [nI_add]; exact vp_in_nI (by omega) (by omega)
    have g0 : vp_in (nI (6 * j)) nn := vp_in_nI (by omega) (by omega)
    have K : ∀ h2 w2 c2, c2 ≤ c + 2 → cR h2 w2 P c2 → mR h2 w2 → lW G κ 938 (lL (nI (6 * j))) [] h2 := fun h2 w2 c2 hc2 A2 B2 => x_iinc C (nI (6 * (j + 1))) rfl ((congrArg (HAdd.hAdd _) (by decide : Int32.ofInt 6 = nI 6)).trans (nI_add (6 * j) 6)) (by decide) dL_938 (x_goto C 18 dL_941 (by decide) (ih (j + 1) c2 w2 h2 (by omega) (by omega) A2 B2))
    have hc2 : c + 2 ≤ 200 := by omega
    obtain ⟨k, hk, ek⟩ := and31 (xs (nI (6 * j)).toNatClampNeg)
    refine x_aload_n C (v := .retAddr 0) rfl rfl dL_27 (x_iload_n C rfl dL_28 (f_sld C X g0 dL_29 (x_bipush C (31 : Int32) (by decide) dL_30 (x_iand C dL_32 (f_table C ⟨⟨by decide, by decide⟩, by decide⟩ dL_33 (lW_pc (pc' := lTg k) (by rw [ek]; exact lw_tt k hk) ?_))))))
    match k, hk with
    | 0, _ => exact lw_op0 C X (g 1 (by decide)) (g 2 (by decide)) (g 3 (by decide)) (g 4 (by decide)) (g 5 (by decide)) A B hP hc2 K
    | 1, _ => exact lw_op1 C X (g 1 (by decide)) (g 2 (by decide)) (g 3 (by decide)) (g 4 (by decide)) (g 5 (by decide)) A B hP hc2 K
    | 2, _ => exact lw_op2 C X (g 1 (by decide)) (g 2 (by decide)) (g 3 (by decide)) (g 4 (by decide)) (g 5 (by decide)) A B hP hc2 K
    | 3, _ => exact lw_op3 C X (g 1 (by decide)) (g 2 (by decide)) (g 3 (by decide)) (g 4 (by decide)) (g 5 (by decide)) A B hP hc2 K
    | 4, _ => exact lw_op4 C X (g 1 (by decide)) (g 2 (by decide)) (g 3 (by decide)) (g 4 (by decide)) (g 5 (by decide)) A B hP hc2 K
    | 5, _ => exact lw_op5 C X (g 1 (by decide)) (g 2 (by decide)) (g 3 (by decide)) (g 4 (by decide)) (g 5 (by decide)) A B hP hc2 K
    | 6, _ => exact lw_op6 C X (g 1 (by decide)) (g 2 (by decide)) (g 3 (by decide)) (g 4 (by decide)) (g 5 (by decide)) A B hP hc2 K
    | 7, _ => exact lw_op7 C X (g 1 (by decide)) (g 2 (by decide)) (g 3 (by decide)) (g 4 (by decide)) (g 5 (by decide)) A B hP hc2 K
    | 8, _ => exact lw_op8 C X (g 1 (by decide)) (g 2 (by decide)) (g 3 (by decide)) (g 4 (by decide)) (g 5 (by decide)) A B hP hc2 K
    | 9, _ => exact lw_op9 C X (g 1 (by decide)) (g 2 (by decide)) (g 3 (by decide)) (g 4 (by decide)) (g 5 (by decide)) A B hP hc2 K
    | 10, _ => exact lw_op10 C X (g 1 (by decide)) (g 2 (by decide)) (g 3 (by decide)) (g 4 (by decide)) (g 5 (by decide)) A B hP hc2 K
    | 11, _ => exact lw_op11 C X (g 1 (by decide)) (g 2 (by decide)) (g 3 (by decide)) (g 4 (by decide)) (g 5 (by decide)) A B hP hc2 K
    | 12, _ => exact lw_op12 C X (g 1 (by decide)) (g 2 (by decide)) (g 3 (by decide)) (g 4 (by decide)) (g 5 (by decide)) A B hP hc2 K
    | 13, _ => exact lw_op13 C X (g 1 (by decide)) (g 2 (by decide)) (g 3 (by decide)) (g 4 (by decide)) (g 5 (by decide)) A B hP hc2 K
    | 14, _ => exact lw_op14 C X (g 1 (by decide)) (g 2 (by decide)) (g 3 (by decide)) (g 4 (by decide)) (g 5 (by decide)) A B hP hc2 K
    | 15, _ => exact lw_op15 C X (g 1 (by decide)) (g 2 (by decide)) (g 3 (by decide)) (g 4 (by decide)) (g 5 (by decide)) A B hP hc2 K
    | 16, _ => exact lw_op16 C X (g 1 (by decide)) (g 2 (by decide)) (g 3 (by decide)) (g 4 (by decide)) (g 5 (by decide)) A B hP hc2 K
    | 17, _ => exact lw_op17 C X (g 1 (by decide)) (g 2 (by decide)) (g 3 (by decide)) (g 4 (by decide)) (g 5 (by decide)) A B hP hc2 K
    | 18, _ => exact lw_op18 C X (g 1 (by decide)) (g 2 (by decide)) (g 3 (by decide)) (g 4 (by decide)) (g 5 (by decide)) A B hP hc2 K
    | 19, _ => exact lw_op19 C X (g 1 (by decide)) (g 2 (by decide)) (g 3 (by decide)) (g 4 (by decide)) (g 5 (by decide)) A B hP hc2 K
    | 20, _ => exact lw_op20 C X (g 1 (by decide)) (g 2 (by decide)) (g 3 (by decide)) (g 4 (by decide)) (g 5 (by decide)) A B hP hc2 K
    | 21, _ => exact lw_op21 C X (g 1 (by decide)) (g 2 (by decide)) (g 3 (by decide)) (g 4 (by decide)) (g 5 (by decide)) A B hP hc2 K
    | 22, _ => exact lw_op22 C X (g 1 (by decide)) (g 2 (by decide)) (g 3 (by decide)) (g 4 (by decide)) (g 5 (by decide)) A B hP hc2 K
    | 23, _ => exact lw_op23 C X (g 1 (by decide)) (g 2 (by decide)) (g 3 (by decide)) (g 4 (by decide)) (g 5 (by decide)) A B hP hc2 K
    | 24, _ => exact lw_op24 C X (g 1 (by decide)) (g 2 (by decide)) (g 3 (by decide)) (g 4 (by decide)) (g 5 (by decide)) A B hP hc2 K
    | 25, _ => exact lw_op25 C X (g 1 (by decide)) (g 2 (by decide)) (g 3 (by decide)) (g 4 (by decide)) (g 5 (by decide)) A B hP hc2 K
    | 26, _ => exact lw_op26 C X (g 1 (by decide)) (g 2 (by decide)) (g 3 (by decide)) (g 4 (by decide)) (g 5 (by decide)) A B hP hc2 K
    | 27, _ => exact lw_op27 C X (g 1 (by decide)) (g 2 (by decide)) (g 3 (by decide)) (g 4 (by decide)) (g 5 (by decide)) A B hP hc2 K
    | 28, _ => exact lw_op28 C X (g 1 (by decide)) (g 2 (by decide)) (g 3 (by decide)) (g 4 (by decide)) (g 5 (by decide)) A B hP hc2 K
    | 29, _ => exact lw_op29 C X (g 1 (by decide)) (g 2 (by decide)) (g 3 (by decide)) (g 4 (by decide)) (g 5 (by decide)) A B hP hc2 K
    | 30, _ => exact K h w c (by omega) A B
    | 31, _ => exact K h w c (by omega) A B
    | k + 32, hk => exact absurd hk (by omega)
abbrev lF0 : List Value := [.null, .null, .null, .null, .null, .null, .null, .null, .null, .null, .null, .null, .int 0, .int 0, .int 0]
theorem law_begin (C : zCx G mL 600000 7302250 κ) (X : lX G κ nn xs) (hn : nn ≤ 384) (E : ∀ (x : Int32) (h : zH), lB h → lW G κ 944 (lL x) [] h) (f : Nat → zE) : lW G κ 0 [.retAddr 0, .float 0, .float 0, .float 0] [] (0, 0, f) := by
  have A0 : hA (0, 0, f) 0 [] [] 0 := ⟨rfl, rfl, rfl, fun j e hj => by cases hj⟩
  refine x_new C lF0 (hcl := (rfl : vwCl[11]? = some (RX11, TX11, 15))) tX11 wX11 ⟨lL_7, qX11⟩ rfl (by show 0 + 1 ≤ 600000; decide) (by show 0 + 15 ≤ 7302250; decide) dL_0 ?_
  obtain ⟨h1, e1⟩ : ∃ y : zH, y = zn (0, 0, f) (zO 11 lF0) := ⟨_, rfl⟩
  have A1 := hA_n e1 A0
  show lW G κ 3 _ [.ref 0] (zn (0, 0, f) (zO 11 lF0))
  rw [← e1]
  refine x_dup C rfl dL_3 ?_
  refine l_callI C (as := []) (st := [.ref 0]) kX11_init iX11_init ⟨rfl, rfl⟩ lL_9 ⟨Nat.le_of_ble_eq_true rfl, Nat.le_of_ble_eq_true rfl⟩ rfl (by decide) rfl dL_4 ?_
  refine s11_init A1 (fun h2 A2 => ⟨⟨by rw [A2.2.1]; decide +kernel, by rw [A2.2.2.1]; decide +kernel⟩, ?_⟩)
  have e84 : h2.1 = 84 := A2.2.1.trans (by decide +kernel)
  obtain ⟨q, eq⟩ : ∃ y : Nat, y = (cL0.map zsz).sum := ⟨_, rfl⟩
  have p84 : h2.2.1 = q := by rw [eq]; exact A2.2.2.1.trans (Nat.zero_add _)
  have s84 : q ≤ 50000 := by rw [eq]; decide +kernel
  refine x_astore_n C (v := .ref 0) rfl (by decide) dL_7 ?_
  refine x_new C mF0 (hcl := (rfl : vwCl[12]? = some (RX12, TX12, 62))) tX12 wX12 ⟨lL_10, qX12⟩ rfl (by omega) (by omega) dL_8 ?_
  obtain ⟨h3, e3⟩ : ∃ y : zH, y = zn h2 (zO 12 mF0) := ⟨_, rfl⟩
  have A3 := hA_n e3 A2
  show lW G κ 11 [.retAddr 0, .ref 0, .float 0, .float 0] [.ref h2.1] (zn h2 (zO 12 mF0))
  rw [← e3, e84]
  refine x_dup C rfl dL_11 ?_
  refine l_callI C (as := []) (st := [.ref 84]) kX12_init iX12_init ⟨rfl, rfl⟩ lL_12 ⟨Nat.le_of_ble_eq_true rfl, Nat.le_of_ble_eq_true rfl⟩ rfl (by decide) rfl dL_12 ?_
  have A4 : hA h3 84 cL0 [zO 12 mF0] q := by
    have z := hA_in (c := 84) A3 (by rw [Nat.zero_add]; exact cL0_len)
    rw [List.nil_append, Nat.zero_add, ← eq] at z
    exact z
  clear eq
  refine r12_init A4 (fun h4 l4 p4 cr mr => ⟨⟨by rw [l4]; decide, by rw [p4]; omega⟩, ?_⟩)
  exact x_astore_n C (v := .ref 84) rfl (by decide) dL_15 (x_iconst C (0 : Int32) (by decide) dL_16 (x_istore_n C (by decide) dL_17 (law_loop C X hn (by omega) E 65 0 0 wz h4 rfl (Nat.zero_le _) cr mr)))
end

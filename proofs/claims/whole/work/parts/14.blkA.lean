set_option maxHeartbeats 20000000 in
theorem bX0_init_0 (t : Nat) (p0 : Nat) (p1 : Int32) (p2 : Int32) (p3 : Int32) (h : zH) (Q : Option Value → zH → Prop) (H : oK h t 0 ∧ (∀ h2 : zH, h2 = (pF h t 0 (zr (some p0))) → (∀ h4 : zH, h4 = (pF h2 t 1 (.int p1)) → (∀ h6 : zH, h6 = (pF h4 t 2 (.int p2)) → (∀ h8 : zH, h8 = (pF h6 t 3 (.int p3)) → (Q none h8)))))) : zX mX0_init 0 [.ref t, .ref p0, .int p1, .int p2, .int p3] [] h Q := by
  obtain ⟨g1, H⟩ := H
  refine zX_seg (pc' := 9) (L' := [.ref t, .ref p0, .int p1, .int p2, .int p3]) (st' := []) (h2 := (pF h t 0 (zr (some p0)))) rfl rfl (fun C Cr hc kk => x_aload_n C (v := .ref t) rfl rfl dX0_init_0 (x_objInit C lX0_1 oi_i oi_c ⟨by decide, by decide⟩ (Nat.le_of_ble_eq_true rfl) dX0_init_1 (x_aload_n C (v := .ref t) rfl rfl dX0_init_4 (x_aload_n C (v := .ref p0) rfl rfl dX0_init_5 (f_putFR C Cr rfl (x := (some p0)) lX0_7 tX0 nX0_0 g1 rfl (Or.inr ⟨_, rfl⟩) dX0_init_6 (kk)))))) ?_
  obtain ⟨h2, eh2⟩ : ∃ y : zH, y = (pF h t 0 (zr (some p0))) := ⟨_, rfl⟩
  replace H := H h2 eh2
  rw [← eh2]
  have g3 : oK h2 t 0 := by rw [eh2]; exact oK_pF' g1 rfl (zmr _) g1
  refine zX_seg (pc' := 14) (L' := [.ref t, .ref p0, .int p1, .int p2, .int p3]) (st' := []) (h2 := (pF h2 t 1 (.int p1))) rfl rfl (fun C Cr hc kk => x_aload_n C (v := .ref t) rfl rfl dX0_init_9 (x_iload_n C rfl dX0_init_10 (f_putFI C Cr rfl lX0_13 tX0 nX0_1 g3 rfl rfl dX0_init_11 (kk)))) ?_
  obtain ⟨h4, eh4⟩ : ∃ y : zH, y = (pF h2 t 1 (.int p1)) := ⟨_, rfl⟩
  replace H := H h4 eh4
  rw [← eh4]
  have g5 : oK h4 t 0 := by rw [eh4]; exact oK_pF' g3 rfl rfl g3
  refine zX_seg (pc' := 19) (L' := [.ref t, .ref p0, .int p1, .int p2, .int p3]) (st' := []) (h2 := (pF h4 t 2 (.int p2))) rfl rfl (fun C Cr hc kk => x_aload_n C (v := .ref t) rfl rfl dX0_init_14 (x_iload_n C rfl dX0_init_15 (f_putFI C Cr rfl lX0_17 tX0 nX0_2 g5 rfl rfl dX0_init_16 (kk)))) ?_
  obtain ⟨h6, eh6⟩ : ∃ y : zH, y = (pF h4 t 2 (.int p2)) := ⟨_, rfl⟩
  replace H := H h6 eh6
  rw [← eh6]
  have g7 : oK h6 t 0 := by rw [eh6]; exact oK_pF' g5 rfl rfl g5
  refine zX_seg (pc' := 25) (L' := [.ref t, .ref p0, .int p1, .int p2, .int p3]) (st' := []) (h2 := (pF h6 t 3 (.int p3))) rfl rfl (fun C Cr hc kk => x_aload_n C (v := .ref t) rfl rfl dX0_init_19 (x_iload C rfl dX0_init_20 (f_putFI C Cr rfl lX0_20 tX0 nX0_3 g7 rfl rfl dX0_init_22 (kk)))) ?_
  obtain ⟨h8, eh8⟩ : ∃ y : zH, y = (pF h6 t 3 (.int p3)) := ⟨_, rfl⟩
  replace H := H h8 eh8
  rw [← eh8]
  have g9 : oK h8 t 0 := by rw [eh8]; exact oK_pF' g7 rfl rfl g7
  exact zX_ret none (fun C Cr hc => x_ret C Cr rfl hc dX0_init_25 ⟨rfl, rfl⟩) H
theorem nX0_init (t : Nat) (p0 : Nat) (p1 : Int32) (p2 : Int32) (p3 : Int32) (h : zH) (Q : Option Value → zH → Prop) (H : zX mX0_init 0 [.ref t, .ref p0, .int p1, .int p2, .int p3] [] h Q) : zC mX0_init [.ref t, .ref p0, .int p1, .int p2, .int p3] h Q := zC_of (by decide +kernel) (by simp) (Nat.le_of_ble_eq_true rfl) H
set_option maxHeartbeats 20000000 in
theorem bX1_init_0 (t : Nat) (h : zH) (Q : Option Value → zH → Prop) (H : ∀ h1 : zH, h1 = (zn h (zO 0 [.null, .int 0, .int 0, .int 0])) → (∀ h3 : zH, h3 = (zn h1 (zI 0 0 (fun _ => 0))) → (zC mX0_init [.ref (h.1), .ref (h1.1), .int (0 : Int32), .int (0 : Int32), .int (0 : Int32)] h3 (fun r0 h6 => r0 = none ∧ (oK h6 t 1 ∧ (∀ h8 : zH, h8 = (pF h6 t 0 (zr (some h.1))) → (∀ h10 : zH, h10 = (zn h8 (zR 0 8 (fun _ => none))) → (∀ h13 : zH, h13 = (pF h10 t 1 (zr (some h8.1))) → (∀ h16 : zH, h16 = (zn h13 (zO 2 [.null, .null, .null, .null, .int 0, .int 0, .int 0])) → (zC mX2_init [.ref (h13.1)] h16 (fun r0 h20 => r0 = none ∧ (oK h20 t 1 ∧ (∀ h22 : zH, h22 = (pF h20 t 2 (zr (some h13.1))) → (Q none h22)))))))))))))) : zX mX1_init 0 [.ref t] [] h Q := by
  refine zX_seg (pc' := 5) (L' := [.ref t]) (st' := [.ref t]) (h2 := h) rfl rfl (fun C Cr hc kk => x_aload_n C (v := .ref t) rfl rfl dX1_init_0 (x_objInit C lX1_3 oi_i oi_c ⟨by decide, by decide⟩ (Nat.le_of_ble_eq_true rfl) dX1_init_1 (x_aload_n C (v := .ref t) rfl rfl dX1_init_4 (kk)))) ?_
  refine zX_new (pc' := 8) (L' := [.ref t]) (st' := [.ref (h.1), .ref t]) (e := (zO 0 [.null, .int 0, .int 0, .int 0])) (fun C z1 z2 kk => x_new C [.null, .int 0, .int 0, .int 0] (hcl := (rfl : vwCl[0]? = some (RX0, TX0, 4))) tX0 wX0 ⟨lX1_9, qX0⟩ rfl z1 z2 dX1_init_5 kk) ?_
  obtain ⟨h1, eh1⟩ : ∃ y : zH, y = (zn h (zO 0 [.null, .int 0, .int 0, .int 0])) := ⟨_, rfl⟩
  replace H := H h1 eh1
  rw [← eh1]
  have g2 : oK h1 h.1 0 := by rw [eh1]; exact oK_new rfl
  refine zX_seg (pc' := 10) (L' := [.ref t]) (st' := [.int (0 : Int32), .ref (h.1), .ref (h.1), .ref t]) (h2 := h1) rfl rfl (fun C Cr hc kk => x_dup C rfl dX1_init_8 (x_iconst C (0 : Int32) (by decide) dX1_init_9 (kk))) ?_
  refine zX_new (pc' := 12) (L' := [.ref t]) (st' := [.ref (h1.1), .ref (h.1), .ref (h.1), .ref t]) (e := (zI 0 0 (fun _ => 0))) (fun C z1 z2 kk => x_newa C (at0 := .int) ac_int (Or.inl ⟨rfl, rfl⟩) (by decide) (by decide) (by decide) z1 z2 dX1_init_10 kk) ?_
  obtain ⟨h3, eh3⟩ : ∃ y : zH, y = (zn h1 (zI 0 0 (fun _ => 0))) := ⟨_, rfl⟩
  replace H := H h3 eh3
  rw [← eh3]
  have g4 : oK h3 h.1 0 := by rw [eh3]; exact oK_zn g2
  have g5 : iK h3 h1.1 0 := by rw [eh3]; exact iK_new
  refine zX_seg (pc' := 15) (L' := [.ref t]) (st' := [.int (0 : Int32), .int (0 : Int32), .int (0 : Int32), .ref (h1.1), .ref (h.1), .ref (h.1), .ref t]) (h2 := h3) rfl rfl (fun C Cr hc kk => x_iconst C (0 : Int32) (by decide) dX1_init_12 (x_iconst C (0 : Int32) (by decide) dX1_init_13 (x_iconst C (0 : Int32) (by decide) dX1_init_14 (kk)))) ?_
  refine zX_call (as := [.ref (h.1), .ref (h1.1), .int (0 : Int32), .int (0 : Int32), .int (0 : Int32)]) (st := [.ref (h.1), .ref t]) (fun C hM hc kk => x_callIN C [.ref (h1.1), .int (0 : Int32), .int (0 : Int32), .int (0 : Int32)] hM kX0_init iX0_init ⟨rfl, rfl⟩ lX1_11 ⟨by decide, by decide⟩ rfl hc (Nat.le_of_ble_eq_true rfl) rfl dX1_init_15 kk) (zC.mono H ?_)
  rintro r0 h6 ⟨rfl, H⟩
  show zX mX1_init 18 [.ref t] [.ref (h.1), .ref t] h6 Q
  obtain ⟨g7, H⟩ := H
  refine zX_seg (pc' := 21) (L' := [.ref t]) (st' := []) (h2 := (pF h6 t 0 (zr (some h.1)))) rfl rfl (fun C Cr hc kk => f_putFR C Cr rfl (x := (some h.1)) lX1_14 tX1 nX1_0 g7 rfl (Or.inl ⟨_, rfl⟩) dX1_init_18 (kk)) ?_
  obtain ⟨h8, eh8⟩ : ∃ y : zH, y = (pF h6 t 0 (zr (some h.1))) := ⟨_, rfl⟩
  replace H := H h8 eh8
  rw [← eh8]
  have g9 : oK h8 t 1 := by rw [eh8]; exact oK_pF' g7 rfl (zmr _) g7
  refine zX_seg (pc' := 24) (L' := [.ref t]) (st' := [.int (8 : Int32), .ref t]) (h2 := h8) rfl rfl (fun C Cr hc kk => x_aload_n C (v := .ref t) rfl rfl dX1_init_21 (x_bipush C (8 : Int32) (by decide) dX1_init_22 (kk))) ?_
  refine zX_new (pc' := 27) (L' := [.ref t]) (st' := [.ref (h8.1), .ref t]) (e := (zR 0 8 (fun _ => none))) (fun C z1 z2 kk => x_anew C (Or.inl ⟨rfl, rfl⟩) lX1_9 (by decide) (by decide) (by decide) z1 z2 dX1_init_24 kk) ?_
  obtain ⟨h10, eh10⟩ : ∃ y : zH, y = (zn h8 (zR 0 8 (fun _ => none))) := ⟨_, rfl⟩
  replace H := H h10 eh10
  rw [← eh10]
  have g11 : oK h10 t 1 := by rw [eh10]; exact oK_zn g9
  have g12 : rK h10 h8.1 0 := by rw [eh10]; exact rK_new
  refine zX_seg (pc' := 30) (L' := [.ref t]) (st' := []) (h2 := (pF h10 t 1 (zr (some h8.1)))) rfl rfl (fun C Cr hc kk => f_putFR C Cr rfl (x := (some h8.1)) lX1_20 tX1 nX1_1 g11 rfl (Or.inr ⟨_, rfl⟩) dX1_init_27 (kk)) ?_
  obtain ⟨h13, eh13⟩ : ∃ y : zH, y = (pF h10 t 1 (zr (some h8.1))) := ⟨_, rfl⟩
  replace H := H h13 eh13
  rw [← eh13]
  have g14 : oK h13 t 1 := by rw [eh13]; exact oK_pF' g11 rfl (zmr _) g11
  have g15 : rK h13 h8.1 0 := by rw [eh13]; exact rK_pF g12
  refine zX_seg (pc' := 31) (L' := [.ref t]) (st' := [.ref t]) (h2 := h13) rfl rfl (fun C Cr hc kk => x_aload_n C (v := .ref t) rfl rfl dX1_init_30 (kk)) ?_
  refine zX_new (pc' := 34) (L' := [.ref t]) (st' := [.ref (h13.1), .ref t]) (e := (zO 2 [.null, .null, .null, .null, .int 0, .int 0, .int 0])) (fun C z1 z2 kk => x_new C [.null, .null, .null, .null, .int 0, .int 0, .int 0] (hcl := (rfl : vwCl[2]? = some (RX2, TX2, 7))) tX2 wX2 ⟨lX1_24, qX2⟩ rfl z1 z2 dX1_init_31 kk) ?_
  obtain ⟨h16, eh16⟩ : ∃ y : zH, y = (zn h13 (zO 2 [.null, .null, .null, .null, .int 0, .int 0, .int 0])) := ⟨_, rfl⟩
  replace H := H h16 eh16
  rw [← eh16]
  have g17 : oK h16 t 1 := by rw [eh16]; exact oK_zn g14
  have g18 : rK h16 h8.1 0 := by rw [eh16]; exact rK_zn g15
  have g19 : oK h16 h13.1 2 := by rw [eh16]; exact oK_new rfl
  refine zX_seg (pc' := 35) (L' := [.ref t]) (st' := [.ref (h13.1), .ref (h13.1), .ref t]) (h2 := h16) rfl rfl (fun C Cr hc kk => x_dup C rfl dX1_init_34 (kk)) ?_
  refine zX_call (as := [.ref (h13.1)]) (st := [.ref (h13.1), .ref t]) (fun C hM hc kk => x_callIN C [] hM kX2_init iX2_init ⟨rfl, rfl⟩ lX1_26 ⟨by decide, by decide⟩ rfl hc (Nat.le_of_ble_eq_true rfl) rfl dX1_init_35 kk) (zC.mono H ?_)
  rintro r0 h20 ⟨rfl, H⟩
  show zX mX1_init 38 [.ref t] [.ref (h13.1), .ref t] h20 Q
  obtain ⟨g21, H⟩ := H
  refine zX_seg (pc' := 41) (L' := [.ref t]) (st' := []) (h2 := (pF h20 t 2 (zr (some h13.1)))) rfl rfl (fun C Cr hc kk => f_putFR C Cr rfl (x := (some h13.1)) lX1_27 tX1 nX1_2 g21 rfl (Or.inl ⟨_, rfl⟩) dX1_init_38 (kk)) ?_
  obtain ⟨h22, eh22⟩ : ∃ y : zH, y = (pF h20 t 2 (zr (some h13.1))) := ⟨_, rfl⟩
  replace H := H h22 eh22
  rw [← eh22]
  have g23 : oK h22 t 1 := by rw [eh22]; exact oK_pF' g21 rfl (zmr _) g21
  exact zX_ret none (fun C Cr hc => x_ret C Cr rfl hc dX1_init_41 ⟨rfl, rfl⟩) H
theorem nX1_init (t : Nat) (h : zH) (Q : Option Value → zH → Prop) (H : zX mX1_init 0 [.ref t] [] h Q) : zC mX1_init [.ref t] h Q := zC_of (by decide +kernel) (by simp) (Nat.le_of_ble_eq_true rfl) H
set_option maxHeartbeats 20000000 in
theorem bX1_beginWith_0 (t : Nat) (p0 : Nat) (h : zH) (Q : Option Value → zH → Prop) (H : oK h t 1 ∧ (∀ h2 : zH, h2 = (pF h t 3 (.int (0 : Int32))) → (∃ a4 : Nat, gR h2 t 2 = some a4 ∧ (oK h2 a4 2 ∧ (∀ h6 : zH, h6 = (pF h2 a4 4 (.int (0 : Int32))) → (zX mX1_beginWith 15 [.ref t, .ref p0, .int (0 : Int32)] [] h6 Q)))))) : zX mX1_beginWith 0 [.ref t, .ref p0, .float 0] [] h Q := by
  obtain ⟨g1, H⟩ := H
  refine zX_seg (pc' := 5) (L' := [.ref t, .ref p0, .float 0]) (st' := []) (h2 := (pF h t 3 (.int (0 : Int32)))) rfl rfl (fun C Cr hc kk => x_aload_n C (v := .ref t) rfl rfl dX1_beginWith_0 (x_iconst C (0 : Int32) (by decide) dX1_beginWith_1 (f_putI C lX1_31 tX1 nX1_3 g1 rfl rfl dX1_beginWith_2 (kk)))) ?_
  obtain ⟨h2, eh2⟩ : ∃ y : zH, y = (pF h t 3 (.int (0 : Int32))) := ⟨_, rfl⟩
  replace H := H h2 eh2
  rw [← eh2]
  have g3 : oK h2 t 1 := by rw [eh2]; exact oK_pF' g1 rfl rfl g1
  obtain ⟨a4, ea4, H⟩ := H
  obtain ⟨g5, H⟩ := H
  refine zX_seg (pc' := 13) (L' := [.ref t, .ref p0, .float 0]) (st' := []) (h2 := (pF h2 a4 4 (.int (0 : Int32)))) rfl rfl (fun C Cr hc kk => x_aload_n C (v := .ref t) rfl rfl dX1_beginWith_5 (f_getR1 C lX1_27 g3 rfl ea4 dX1_beginWith_6 (x_iconst C (0 : Int32) (by decide) dX1_beginWith_9 (f_putIN C lX1_35 tX2 nX2_4 g5 rfl rfl dX1_beginWith_10 (kk))))) ?_
  obtain ⟨h6, eh6⟩ : ∃ y : zH, y = (pF h2 a4 4 (.int (0 : Int32))) := ⟨_, rfl⟩
  replace H := H h6 eh6
  rw [← eh6]
  have g7 : oK h6 t 1 := by rw [eh6]; exact oK_pF' g5 rfl rfl g3
  have g8 : oK h6 a4 2 := by rw [eh6]; exact oK_pF' g5 rfl rfl g5
  refine zX_seg (pc' := 15) (L' := [.ref t, .ref p0, .int (0 : Int32)]) (st' := []) (h2 := h6) rfl rfl (fun C Cr hc kk => x_iconst C (0 : Int32) (by decide) dX1_beginWith_13 (x_istore_n C (by decide) dX1_beginWith_14 (kk))) ?_
  exact zX_wk (wkK (wkK (wkK wkN))) H
set_option maxHeartbeats 20000000 in
theorem bX1_beginWith_15 (l0 : Nat) (l1 : Nat) (l2 : Int32) (h : zH) (Q : Option Value → zH → Prop) (H : oK h l0 1 ∧ (∃ a2 : Nat, gR h l0 1 = some a2 ∧ (rK h a2 0 ∧ (((nI (aN h a2)) ≤ l2 → (Q none h)) ∧ (¬ ((nI (aN h a2)) ≤ l2) → (oK h l1 10 ∧ (∃ a6 : Nat, gR h l1 5 = some a6 ∧ (rK h a6 0 ∧ (((nI (aN h a6)) ≤ l2 → (vp_in l2 (aN h a2) ∧ (∀ h10 : zH, h10 = (pR h a2 l2.toNatClampNeg none) → (zX mX1_beginWith 15 [.ref l0, .ref l1, .int (l2 + 1)] [] h10 Q)))) ∧ (¬ ((nI (aN h a6)) ≤ l2) → (vp_in l2 (aN h a6) ∧ ((∀ v, (aR h a6 l2.toNatClampNeg) = some v → oK h v 0) ∧ (vp_in l2 (aN h a2) ∧ (∀ h18 : zH, h18 = (pR h a2 l2.toNatClampNeg (aR h a6 l2.toNatClampNeg)) → (zX mX1_beginWith 15 [.ref l0, .ref l1, .int (l2 + 1)] [] h18 Q))))))))))))))) : zX mX1_beginWith 15 [.ref l0, .ref l1, .int l2] [] h Q := by
  obtain ⟨g1, H⟩ := H
  obtain ⟨a2, ea2, H⟩ := H
  obtain ⟨g3, H⟩ := H
  refine zX_seg (pc' := 21) (L' := [.ref l0, .ref l1, .int l2]) (st' := [.int (nI (aN h a2)), .int l2]) (h2 := h) rfl rfl (fun C Cr hc kk => x_iload_n C rfl dX1_beginWith_15 (x_aload_n C (v := .ref l0) rfl rfl dX1_beginWith_16 (f_getR1 C lX1_20 g1 rfl ea2 dX1_beginWith_17 (f_alenR C (by decide) g3 dX1_beginWith_20 (kk))))) ?_
  refine zX_br (p1 := 55) (p2 := 24) (st' := []) ((nI (aN h a2)) ≤ l2) (fun C kt kf => x_icmp_ge C 55 dX1_beginWith_21 (by decide) kt kf) (fun q4 => ?_) (fun q4 => ?_)
  · replace H := H.1 q4
    exact zX_ret none (fun C Cr hc => x_ret C Cr rfl hc dX1_beginWith_55 ⟨rfl, rfl⟩) H
  · replace H := H.2 q4
    obtain ⟨g5, H⟩ := H
    obtain ⟨a6, ea6, H⟩ := H
    obtain ⟨g7, H⟩ := H
    refine zX_seg (pc' := 35) (L' := [.ref l0, .ref l1, .int l2]) (st' := [.int (nI (aN h a6)), .int l2, .int l2, .ref a2]) (h2 := h) rfl rfl (fun C Cr hc kk => x_aload_n C (v := .ref l0) rfl rfl dX1_beginWith_24 (f_getR1 C lX1_20 g1 rfl ea2 dX1_beginWith_25 (x_iload_n C rfl dX1_beginWith_28 (x_iload_n C rfl dX1_beginWith_29 (x_aload_n C (v := .ref l1) rfl rfl dX1_beginWith_30 (f_getR1N C lX1_38 g5 rfl ea6 dX1_beginWith_31 (f_alenR C (by decide) g7 dX1_beginWith_34 (kk)))))))) ?_
    refine zX_br (p1 := 47) (p2 := 38) (st' := [.int l2, .ref a2]) ((nI (aN h a6)) ≤ l2) (fun C kt kf => x_icmp_ge C 47 dX1_beginWith_35 (by decide) kt kf) (fun q8 => ?_) (fun q8 => ?_)
    · replace H := H.1 q8
      obtain ⟨g9, H⟩ := H
      refine zX_seg (pc' := 49) (L' := [.ref l0, .ref l1, .int l2]) (st' := []) (h2 := (pR h a2 l2.toNatClampNeg none)) rfl rfl (fun C Cr hc kk => x_null C dX1_beginWith_47 (f_aast C (x := none) (by decide) g3 (fun v z => by cases z) g9 dX1_beginWith_48 (kk))) ?_
      obtain ⟨h10, eh10⟩ : ∃ y : zH, y = (pR h a2 l2.toNatClampNeg none) := ⟨_, rfl⟩
      replace H := H h10 eh10
      rw [← eh10]
      have g11 : oK h10 l0 1 := by rw [eh10]; exact oK_pR g1
      have g12 : rK h10 a2 0 := by rw [eh10]; exact rK_pR g3
      have g13 : oK h10 l1 10 := by rw [eh10]; exact oK_pR g5
      have g14 : rK h10 a6 0 := by rw [eh10]; exact rK_pR g7
      refine zX_seg (pc' := 15) (L' := [.ref l0, .ref l1, .int (l2 + 1)]) (st' := []) (h2 := h10) rfl rfl (fun C Cr hc kk => x_iinc C (l2 + 1) rfl (congrArg (HAdd.hAdd _) (by decide)) (by decide) dX1_beginWith_49 (x_goto C 15 dX1_beginWith_52 (by decide) (kk))) ?_
      exact zX_wk (wkK (wkK (wkK wkN))) H
    · replace H := H.2 q8
      obtain ⟨g15, H⟩ := H
      obtain ⟨g17, H⟩ := H
      obtain ⟨g16, H⟩ := H
      refine zX_seg (pc' := 49) (L' := [.ref l0, .ref l1, .int l2]) (st' := []) (h2 := (pR h a2 l2.toNatClampNeg (aR h a6 l2.toNatClampNeg))) rfl rfl (fun C Cr hc kk => x_aload_n C (v := .ref l1) rfl rfl dX1_beginWith_38 (f_getR1N C lX1_38 g5 rfl ea6 dX1_beginWith_39 (x_iload_n C rfl dX1_beginWith_42 (f_aald C (by decide) g7 g15 dX1_beginWith_43 (x_goto C 48 dX1_beginWith_44 (by decide) (f_aast C (x := (aR h a6 l2.toNatClampNeg)) (by decide) g3 g17 g16 dX1_beginWith_48 (kk))))))) ?_
      obtain ⟨h18, eh18⟩ : ∃ y : zH, y = (pR h a2 l2.toNatClampNeg (aR h a6 l2.toNatClampNeg)) := ⟨_, rfl⟩
      replace H := H h18 eh18
      rw [← eh18]
      have g19 : oK h18 l0 1 := by rw [eh18]; exact oK_pR g1
      have g20 : rK h18 a2 0 := by rw [eh18]; exact rK_pR g3
      have g21 : oK h18 l1 10 := by rw [eh18]; exact oK_pR g5
      have g22 : rK h18 a6 0 := by rw [eh18]; exact rK_pR g7
      refine zX_seg (pc' := 15) (L' := [.ref l0, .ref l1, .int (l2 + 1)]) (st' := []) (h2 := h18) rfl rfl (fun C Cr hc kk => x_iinc C (l2 + 1) rfl (congrArg (HAdd.hAdd _) (by decide)) (by decide) dX1_beginWith_49 (x_goto C 15 dX1_beginWith_52 (by decide) (kk))) ?_
      exact zX_wk (wkK (wkK (wkK wkN))) H
theorem nX1_beginWith (t : Nat) (p0 : Nat) (h : zH) (Q : Option Value → zH → Prop) (H : zX mX1_beginWith 0 [.ref t, .ref p0, .float 0] [] h Q) : zC mX1_beginWith [.ref t, .ref p0] h Q := zC_of (by decide +kernel) (by simp) (Nat.le_of_ble_eq_true rfl) H
set_option maxHeartbeats 20000000 in
theorem bX1_become_0 (t : Nat) (p0 : Nat) (h : zH) (Q : Option Value → zH → Prop) (H : oK h p0 1 ∧ (oK h t 1 ∧ (∀ h3 : zH, h3 = (pF h t 3 (.int (gI h p0 3))) → (∃ a6 : Nat, gR h3 t 2 = some a6 ∧ (∃ a7 : Nat, gR h3 p0 2 = some a7 ∧ (oK h3 a6 2 ∧ (zC mX2_become [.ref a6, .ref a7] h3 (fun r0 h9 => r0 = none ∧ (zX mX1_become 21 [.ref t, .ref p0, .int (0 : Int32)] [] h9 Q))))))))) : zX mX1_become 0 [.ref t, .ref p0, .float 0] [] h Q := by
  obtain ⟨g1, H⟩ := H
  obtain ⟨g2, H⟩ := H
  refine zX_seg (pc' := 8) (L' := [.ref t, .ref p0, .float 0]) (st' := []) (h2 := (pF h t 3 (.int (gI h p0 3)))) rfl rfl (fun C Cr hc kk => x_aload_n C (v := .ref t) rfl rfl dX1_become_0 (x_aload_n C (v := .ref p0) rfl rfl dX1_become_1 (f_getI C lX1_31 g1 rfl dX1_become_2 (f_putI C lX1_31 tX1 nX1_3 g2 rfl rfl dX1_become_5 (kk))))) ?_
  obtain ⟨h3, eh3⟩ : ∃ y : zH, y = (pF h t 3 (.int (gI h p0 3))) := ⟨_, rfl⟩
  replace H := H h3 eh3
  rw [← eh3]
  have g4 : oK h3 p0 1 := by rw [eh3]; exact oK_pF' g2 rfl rfl g1
  have g5 : oK h3 t 1 := by rw [eh3]; exact oK_pF' g2 rfl rfl g2
  obtain ⟨a6, ea6, H⟩ := H
  obtain ⟨a7, ea7, H⟩ := H
  refine zX_seg (pc' := 16) (L' := [.ref t, .ref p0, .float 0]) (st' := [.ref a7, .ref a6]) (h2 := h3) rfl rfl (fun C Cr hc kk => x_aload_n C (v := .ref t) rfl rfl dX1_become_8 (f_getR1 C lX1_27 g5 rfl ea6 dX1_become_9 (x_aload_n C (v := .ref p0) rfl rfl dX1_become_12 (f_getR1 C lX1_27 g4 rfl ea7 dX1_become_13 (kk))))) ?_
  obtain ⟨g8, H⟩ := H
  refine zX_call (as := [.ref a6, .ref a7]) (st := []) (fun C hM hc kk => f_callVN C [.ref a7] hM kX2_become vX2_become lX1_41 ⟨by decide, by decide⟩ (rfl : vwCl[2]? = some (RX2, TX2, 7)) g8 rfl hc (Nat.le_of_ble_eq_true rfl) rfl dX1_become_16 kk) (zC.mono H ?_)
  rintro r0 h9 ⟨rfl, H⟩
  show zX mX1_become 19 [.ref t, .ref p0, .float 0] [] h9 Q
  refine zX_seg (pc' := 21) (L' := [.ref t, .ref p0, .int (0 : Int32)]) (st' := []) (h2 := h9) rfl rfl (fun C Cr hc kk => x_iconst C (0 : Int32) (by decide) dX1_become_19 (x_istore_n C (by decide) dX1_become_20 (kk))) ?_
  exact zX_wk (wkK (wkK (wkK wkN))) H
set_option maxHeartbeats 20000000 in
theorem bX1_become_21 (l0 : Nat) (l1 : Nat) (l2 : Int32) (h : zH) (Q : Option Value → zH → Prop) (H : oK h l0 1 ∧ (∃ a2 : Nat, gR h l0 1 = some a2 ∧ (rK h a2 0 ∧ (((nI (aN h a2)) ≤ l2 → (Q none h)) ∧ (¬ ((nI (aN h a2)) ≤ l2) → (oK h l1 1 ∧ (∃ a6 : Nat, gR h l1 1 = some a6 ∧ (rK h a6 0 ∧ (((nI (aN h a6)) ≤ l2 → (vp_in l2 (aN h a2) ∧ (∀ h10 : zH, h10 = (pR h a2 l2.toNatClampNeg none) → (zX mX1_become 21 [.ref l0, .ref l1, .int (l2 + 1)] [] h10 Q)))) ∧ (¬ ((nI (aN h a6)) ≤ l2) → (vp_in l2 (aN h a6) ∧ ((∀ v, (aR h a6 l2.toNatClampNeg) = some v → oK h v 0) ∧ (vp_in l2 (aN h a2) ∧ (∀ h18 : zH, h18 = (pR h a2 l2.toNatClampNeg (aR h a6 l2.toNatClampNeg)) → (zX mX1_become 21 [.ref l0, .ref l1, .int (l2 + 1)] [] h18 Q))))))))))))))) : zX mX1_become 21 [.ref l0, .ref l1, .int l2] [] h Q := by
  obtain ⟨g1, H⟩ := H
  obtain ⟨a2, ea2, H⟩ := H
  obtain ⟨g3, H⟩ := H
  refine zX_seg (pc' := 27) (L' := [.ref l0, .ref l1, .int l2]) (st' := [.int (nI (aN h a2)), .int l2]) (h2 := h) rfl rfl (fun C Cr hc kk => x_iload_n C rfl dX1_become_21 (x_aload_n C (v := .ref l0) rfl rfl dX1_become_22 (f_getR1 C lX1_20 g1 rfl ea2 dX1_become_23 (f_alenR C (by decide) g3 dX1_become_26 (kk))))) ?_
  refine zX_br (p1 := 61) (p2 := 30) (st' := []) ((nI (aN h a2)) ≤ l2) (fun C kt kf => x_icmp_ge C 61 dX1_become_27 (by decide) kt kf) (fun q4 => ?_) (fun q4 => ?_)
  · replace H := H.1 q4
    exact zX_ret none (fun C Cr hc => x_ret C Cr rfl hc dX1_become_61 ⟨rfl, rfl⟩) H
  · replace H := H.2 q4
    obtain ⟨g5, H⟩ := H
    obtain ⟨a6, ea6, H⟩ := H
    obtain ⟨g7, H⟩ := H
    refine zX_seg (pc' := 41) (L' := [.ref l0, .ref l1, .int l2]) (st' := [.int (nI (aN h a6)), .int l2, .int l2, .ref a2]) (h2 := h) rfl rfl (fun C Cr hc kk => x_aload_n C (v := .ref l0) rfl rfl dX1_become_30 (f_getR1 C lX1_20 g1 rfl ea2 dX1_become_31 (x_iload_n C rfl dX1_become_34 (x_iload_n C rfl dX1_become_35 (x_aload_n C (v := .ref l1) rfl rfl dX1_become_36 (f_getR1 C lX1_20 g5 rfl ea6 dX1_become_37 (f_alenR C (by decide) g7 dX1_become_40 (kk)))))))) ?_
    refine zX_br (p1 := 53) (p2 := 44) (st' := [.int l2, .ref a2]) ((nI (aN h a6)) ≤ l2) (fun C kt kf => x_icmp_ge C 53 dX1_become_41 (by decide) kt kf) (fun q8 => ?_) (fun q8 => ?_)
    · replace H := H.1 q8
      obtain ⟨g9, H⟩ := H
      refine zX_seg (pc' := 55) (L' := [.ref l0, .ref l1, .int l2]) (st' := []) (h2 := (pR h a2 l2.toNatClampNeg none)) rfl rfl (fun C Cr hc kk => x_null C dX1_become_53 (f_aast C (x := none) (by decide) g3 (fun v z => by cases z) g9 dX1_become_54 (kk))) ?_
      obtain ⟨h10, eh10⟩ : ∃ y : zH, y = (pR h a2 l2.toNatClampNeg none) := ⟨_, rfl⟩
      replace H := H h10 eh10
      rw [← eh10]
      have g11 : oK h10 l0 1 := by rw [eh10]; exact oK_pR g1
      have g12 : rK h10 a2 0 := by rw [eh10]; exact rK_pR g3
      have g13 : oK h10 l1 1 := by rw [eh10]; exact oK_pR g5
      have g14 : rK h10 a6 0 := by rw [eh10]; exact rK_pR g7
      refine zX_seg (pc' := 21) (L' := [.ref l0, .ref l1, .int (l2 + 1)]) (st' := []) (h2 := h10) rfl rfl (fun C Cr hc kk => x_iinc C (l2 + 1) rfl (congrArg (HAdd.hAdd _) (by decide)) (by decide) dX1_become_55 (x_goto C 21 dX1_become_58 (by decide) (kk))) ?_
      exact zX_wk (wkK (wkK (wkK wkN))) H
    · replace H := H.2 q8
      obtain ⟨g15, H⟩ := H
      obtain ⟨g17, H⟩ := H
      obtain ⟨g16, H⟩ := H
      refine zX_seg (pc' := 55) (L' := [.ref l0, .ref l1, .int l2]) (st' := []) (h2 := (pR h a2 l2.toNatClampNeg (aR h a6 l2.toNatClampNeg))) rfl rfl (fun C Cr hc kk => x_aload_n C (v := .ref l1) rfl rfl dX1_become_44 (f_getR1 C lX1_20 g5 rfl ea6 dX1_become_45 (x_iload_n C rfl dX1_become_48 (f_aald C (by decide) g7 g15 dX1_become_49 (x_goto C 54 dX1_become_50 (by decide) (f_aast C (x := (aR h a6 l2.toNatClampNeg)) (by decide) g3 g17 g16 dX1_become_54 (kk))))))) ?_
      obtain ⟨h18, eh18⟩ : ∃ y : zH, y = (pR h a2 l2.toNatClampNeg (aR h a6 l2.toNatClampNeg)) := ⟨_, rfl⟩
      replace H := H h18 eh18
      rw [← eh18]
      have g19 : oK h18 l0 1 := by rw [eh18]; exact oK_pR g1
      have g20 : rK h18 a2 0 := by rw [eh18]; exact rK_pR g3
      have g21 : oK h18 l1 1 := by rw [eh18]; exact oK_pR g5
      have g22 : rK h18 a6 0 := by rw [eh18]; exact rK_pR g7
      refine zX_seg (pc' := 21) (L' := [.ref l0, .ref l1, .int (l2 + 1)]) (st' := []) (h2 := h18) rfl rfl (fun C Cr hc kk => x_iinc C (l2 + 1) rfl (congrArg (HAdd.hAdd _) (by decide)) (by decide) dX1_become_55 (x_goto C 21 dX1_become_58 (by decide) (kk))) ?_
      exact zX_wk (wkK (wkK (wkK wkN))) H
theorem nX1_become (t : Nat) (p0 : Nat) (h : zH) (Q : Option Value → zH → Prop) (H : zX mX1_become 0 [.ref t, .ref p0, .float 0] [] h Q) : zC mX1_become [.ref t, .ref p0] h Q := zC_of (by decide +kernel) (by simp) (Nat.le_of_ble_eq_true rfl) H
set_option maxHeartbeats 20000000 in
theorem bX1_ballotOf_0 (t : Nat) (p0 : Int32) (h : zH) (Q : Option Value → zH → Prop) (H : (p0 < 0 → (zX mX1_ballotOf 26 [.ref t, .int p0, .float 0] [] h Q)) ∧ (¬ (p0 < 0) → (oK h t 1 ∧ (∃ a3 : Nat, gR h t 1 = some a3 ∧ (rK h a3 0 ∧ (((nI (aN h a3)) ≤ p0 → (zX mX1_ballotOf 26 [.ref t, .int p0, .float 0] [] h Q)) ∧ (¬ ((nI (aN h a3)) ≤ p0) → (vp_in p0 (aN h a3) ∧ (((aR h a3 p0.toNatClampNeg) = none → (zX mX1_ballotOf 26 [.ref t, .int p0, .float 0] [] h Q)) ∧ (¬ ((aR h a3 p0.toNatClampNeg) = none) → (((1 : Int32) = 0 → (∃ a9 : Nat, gR h t 0 = some a9 ∧ (Q (some (zr (some a9))) h))) ∧ (¬ ((1 : Int32) = 0) → (vp_in p0 (aN h a3) ∧ (Q (some (zr (aR h a3 p0.toNatClampNeg))) h)))))))))))))) : zX mX1_ballotOf 0 [.ref t, .int p0, .float 0] [] h Q := by
  refine zX_seg (pc' := 1) (L' := [.ref t, .int p0, .float 0]) (st' := [.int p0]) (h2 := h) rfl rfl (fun C Cr hc kk => x_iload_n C rfl dX1_ballotOf_0 (kk)) ?_
  refine zX_br (p1 := 26) (p2 := 4) (st' := []) (p0 < 0) (fun C kt kf => x_if_lt C 26 dX1_ballotOf_1 (by decide) kt kf) (fun q1 => ?_) (fun q1 => ?_)
  · replace H := H.1 q1
    exact zX_wk (wkK (wkK (wkD wkN))) H
  · replace H := H.2 q1
    obtain ⟨g2, H⟩ := H
    obtain ⟨a3, ea3, H⟩ := H
    obtain ⟨g4, H⟩ := H
    refine zX_seg (pc' := 10) (L' := [.ref t, .int p0, .float 0]) (st' := [.int (nI (aN h a3)), .int p0]) (h2 := h) rfl rfl (fun C Cr hc kk => x_iload_n C rfl dX1_ballotOf_4 (x_aload_n C (v := .ref t) rfl rfl dX1_ballotOf_5 (f_getR1 C lX1_20 g2 rfl ea3 dX1_ballotOf_6 (f_alenR C (by decide) g4 dX1_ballotOf_9 (kk))))) ?_
    refine zX_br (p1 := 26) (p2 := 13) (st' := []) ((nI (aN h a3)) ≤ p0) (fun C kt kf => x_icmp_ge C 26 dX1_ballotOf_10 (by decide) kt kf) (fun q5 => ?_) (fun q5 => ?_)
    · replace H := H.1 q5
      exact zX_wk (wkK (wkK (wkD wkN))) H
    · replace H := H.2 q5
      obtain ⟨g6, H⟩ := H
      refine zX_seg (pc' := 19) (L' := [.ref t, .int p0, .float 0]) (st' := [zr (aR h a3 p0.toNatClampNeg)]) (h2 := h) rfl rfl (fun C Cr hc kk => x_aload_n C (v := .ref t) rfl rfl dX1_ballotOf_13 (f_getR1 C lX1_20 g2 rfl ea3 dX1_ballotOf_14 (x_iload_n C rfl dX1_ballotOf_17 (f_aald C (by decide) g4 g6 dX1_ballotOf_18 (kk))))) ?_
      refine zX_br (p1 := 26) (p2 := 22) (st' := []) ((aR h a3 p0.toNatClampNeg) = none) (fun C kt kf => f_ifnull C 26 dX1_ballotOf_19 (by decide) kt kf) (fun q7 => ?_) (fun q7 => ?_)
      · replace H := H.1 q7
        exact zX_wk (wkK (wkK (wkD wkN))) H
      · replace H := H.2 q7
        refine zX_seg (pc' := 29) (L' := [.ref t, .int p0, .int (1 : Int32)]) (st' := [.int (1 : Int32)]) (h2 := h) rfl rfl (fun C Cr hc kk => x_iconst C (1 : Int32) (by decide) dX1_ballotOf_22 (x_goto C 27 dX1_ballotOf_23 (by decide) (x_istore_n C (by decide) dX1_ballotOf_27 (x_iload_n C rfl dX1_ballotOf_28 (kk))))) ?_
        refine zX_br (p1 := 41) (p2 := 32) (st' := []) ((1 : Int32) = 0) (fun C kt kf => x_if_eq C 41 dX1_ballotOf_29 (by decide) kt kf) (fun q8 => ?_) (fun q8 => ?_)
        · replace H := H.1 q8
          obtain ⟨a9, ea9, H⟩ := H
          refine zX_seg (pc' := 45) (L' := [.ref t, .int p0, .int (1 : Int32)]) (st' := [.ref a9]) (h2 := h) rfl rfl (fun C Cr hc kk => x_aload_n C (v := .ref t) rfl rfl dX1_ballotOf_41 (f_getR1 C lX1_14 g2 rfl ea9 dX1_ballotOf_42 (kk))) ?_
          exact zX_ret (some (zr (some a9))) (fun C Cr hc => x_aret C Cr ⟨_, rfl, Or.inl ⟨_, rfl⟩⟩ rfl hc dX1_ballotOf_45 ⟨rfl, rfl⟩) H
        · replace H := H.2 q8
          obtain ⟨g10, H⟩ := H
          refine zX_seg (pc' := 45) (L' := [.ref t, .int p0, .int (1 : Int32)]) (st' := [zr (aR h a3 p0.toNatClampNeg)]) (h2 := h) rfl rfl (fun C Cr hc kk => x_aload_n C (v := .ref t) rfl rfl dX1_ballotOf_32 (f_getR1 C lX1_20 g2 rfl ea3 dX1_ballotOf_33 (x_iload_n C rfl dX1_ballotOf_36 (f_aald C (by decide) g4 g10 dX1_ballotOf_37 (x_goto C 45 dX1_ballotOf_38 (by decide) (kk)))))) ?_
          exact zX_ret (some (zr (aR h a3 p0.toNatClampNeg))) (fun C Cr hc => x_aret C Cr ⟨_, rfl, Or.inl ⟨_, rfl⟩⟩ (zr_rf _) hc dX1_ballotOf_45 ⟨rfl, rfl⟩) H
set_option maxHeartbeats 20000000 in
theorem bX1_ballotOf_26 (l0 : Nat) (l1 : Int32) (h : zH) (Q : Option Value → zH → Prop) (H : ((0 : Int32) = 0 → (oK h l0 1 ∧ (∃ a3 : Nat, gR h l0 0 = some a3 ∧ (Q (some (zr (some a3))) h)))) ∧ (¬ ((0 : Int32) = 0) → (oK h l0 1 ∧ (∃ a5 : Nat, gR h l0 1 = some a5 ∧ (rK h a5 0 ∧ (vp_in l1 (aN h a5) ∧ (Q (some (zr (aR h a5 l1.toNatClampNeg))) h))))))) : zX mX1_ballotOf 26 [.ref l0, .int l1, .float 0] [] h Q := by
  refine zX_seg (pc' := 29) (L' := [.ref l0, .int l1, .int (0 : Int32)]) (st' := [.int (0 : Int32)]) (h2 := h) rfl rfl (fun C Cr hc kk => x_iconst C (0 : Int32) (by decide) dX1_ballotOf_26 (x_istore_n C (by decide) dX1_ballotOf_27 (x_iload_n C rfl dX1_ballotOf_28 (kk)))) ?_
  refine zX_br (p1 := 41) (p2 := 32) (st' := []) ((0 : Int32) = 0) (fun C kt kf => x_if_eq C 41 dX1_ballotOf_29 (by decide) kt kf) (fun q1 => ?_) (fun q1 => ?_)
  · replace H := H.1 q1
    obtain ⟨g2, H⟩ := H
    obtain ⟨a3, ea3, H⟩ := H
    refine zX_seg (pc' := 45) (L' := [.ref l0, .int l1, .int (0 : Int32)]) (st' := [.ref a3]) (h2 := h) rfl rfl (fun C Cr hc kk => x_aload_n C (v := .ref l0) rfl rfl dX1_ballotOf_41 (f_getR1 C lX1_14 g2 rfl ea3 dX1_ballotOf_42 (kk))) ?_
    exact zX_ret (some (zr (some a3))) (fun C Cr hc => x_aret C Cr ⟨_, rfl, Or.inl ⟨_, rfl⟩⟩ rfl hc dX1_ballotOf_45 ⟨rfl, rfl⟩) H
  · replace H := H.2 q1
    obtain ⟨g4, H⟩ := H
    obtain ⟨a5, ea5, H⟩ := H
    obtain ⟨g7, H⟩ := H
    obtain ⟨g6, H⟩ := H
    refine zX_seg (pc' := 45) (L' := [.ref l0, .int l1, .int (0 : Int32)]) (st' := [zr (aR h a5 l1.toNatClampNeg)]) (h2 := h) rfl rfl (fun C Cr hc kk => x_aload_n C (v := .ref l0) rfl rfl dX1_ballotOf_32 (f_getR1 C lX1_20 g4 rfl ea5 dX1_ballotOf_33 (x_iload_n C rfl dX1_ballotOf_36 (f_aald C (by decide) g7 g6 dX1_ballotOf_37 (x_goto C 45 dX1_ballotOf_38 (by decide) (kk)))))) ?_
    exact zX_ret (some (zr (aR h a5 l1.toNatClampNeg))) (fun C Cr hc => x_aret C Cr ⟨_, rfl, Or.inl ⟨_, rfl⟩⟩ (zr_rf _) hc dX1_ballotOf_45 ⟨rfl, rfl⟩) H
theorem nX1_ballotOf (t : Nat) (p0 : Int32) (h : zH) (Q : Option Value → zH → Prop) (H : zX mX1_ballotOf 0 [.ref t, .int p0, .float 0] [] h Q) : zC mX1_ballotOf [.ref t, .int p0] h Q := zC_of (by decide +kernel) (by simp) (Nat.le_of_ble_eq_true rfl) H
set_option maxHeartbeats 20000000 in
theorem bX1_putBallot_0 (t : Nat) (p0 : Int32) (p1 : Nat) (h : zH) (Q : Option Value → zH → Prop) (H : (p0 < 0 → (Q none h)) ∧ (¬ (p0 < 0) → (oK h t 1 ∧ (∃ a3 : Nat, gR h t 1 = some a3 ∧ (rK h a3 0 ∧ (((nI (aN h a3)) ≤ p0 → (Q none h)) ∧ (¬ ((nI (aN h a3)) ≤ p0) → (oK h p1 0 ∧ (vp_in p0 (aN h a3) ∧ (∀ h8 : zH, h8 = (pR h a3 p0.toNatClampNeg (some p1)) → (Q none h8))))))))))) : zX mX1_putBallot 0 [.ref t, .int p0, .ref p1] [] h Q := by
  refine zX_seg (pc' := 1) (L' := [.ref t, .int p0, .ref p1]) (st' := [.int p0]) (h2 := h) rfl rfl (fun C Cr hc kk => x_iload_n C rfl dX1_putBallot_0 (kk)) ?_
  refine zX_br (p1 := 20) (p2 := 4) (st' := []) (p0 < 0) (fun C kt kf => x_if_lt C 20 dX1_putBallot_1 (by decide) kt kf) (fun q1 => ?_) (fun q1 => ?_)
  · replace H := H.1 q1
    exact zX_ret none (fun C Cr hc => x_ret C Cr rfl hc dX1_putBallot_20 ⟨rfl, rfl⟩) H
  · replace H := H.2 q1
    obtain ⟨g2, H⟩ := H
    obtain ⟨a3, ea3, H⟩ := H
    obtain ⟨g4, H⟩ := H
    refine zX_seg (pc' := 10) (L' := [.ref t, .int p0, .ref p1]) (st' := [.int (nI (aN h a3)), .int p0]) (h2 := h) rfl rfl (fun C Cr hc kk => x_iload_n C rfl dX1_putBallot_4 (x_aload_n C (v := .ref t) rfl rfl dX1_putBallot_5 (f_getR1 C lX1_20 g2 rfl ea3 dX1_putBallot_6 (f_alenR C (by decide) g4 dX1_putBallot_9 (kk))))) ?_
    refine zX_br (p1 := 20) (p2 := 13) (st' := []) ((nI (aN h a3)) ≤ p0) (fun C kt kf => x_icmp_ge C 20 dX1_putBallot_10 (by decide) kt kf) (fun q5 => ?_) (fun q5 => ?_)
    · replace H := H.1 q5
      exact zX_ret none (fun C Cr hc => x_ret C Cr rfl hc dX1_putBallot_20 ⟨rfl, rfl⟩) H
    · replace H := H.2 q5
      obtain ⟨g7, H⟩ := H
      obtain ⟨g6, H⟩ := H
      refine zX_seg (pc' := 20) (L' := [.ref t, .int p0, .ref p1]) (st' := []) (h2 := (pR h a3 p0.toNatClampNeg (some p1))) rfl rfl (fun C Cr hc kk => x_aload_n C (v := .ref t) rfl rfl dX1_putBallot_13 (f_getR1 C lX1_20 g2 rfl ea3 dX1_putBallot_14 (x_iload_n C rfl dX1_putBallot_17 (x_aload_n C (v := .ref p1) rfl rfl dX1_putBallot_18 (f_aast C (x := (some p1)) (by decide) g4 (fun v z => by cases z; exact g7) g6 dX1_putBallot_19 (kk)))))) ?_
      obtain ⟨h8, eh8⟩ : ∃ y : zH, y = (pR h a3 p0.toNatClampNeg (some p1)) := ⟨_, rfl⟩
      replace H := H h8 eh8
      rw [← eh8]
      have g9 : oK h8 t 1 := by rw [eh8]; exact oK_pR g2
      have g10 : rK h8 a3 0 := by rw [eh8]; exact rK_pR g4
      have g11 : oK h8 p1 0 := by rw [eh8]; exact oK_pR g7
      exact zX_ret none (fun C Cr hc => x_ret C Cr rfl hc dX1_putBallot_20 ⟨rfl, rfl⟩) H
theorem nX1_putBallot (t : Nat) (p0 : Int32) (p1 : Nat) (h : zH) (Q : Option Value → zH → Prop) (H : zX mX1_putBallot 0 [.ref t, .int p0, .ref p1] [] h Q) : zC mX1_putBallot [.ref t, .int p0, .ref p1] h Q := zC_of (by decide +kernel) (by simp) (Nat.le_of_ble_eq_true rfl) H
set_option maxHeartbeats 20000000 in
theorem bX1_units_0 (t : Nat) (h : zH) (Q : Option Value → zH → Prop) (H : zX mX1_units 4 [.ref t, .int (0 : Int32), .int (0 : Int32)] [] h Q) : zX mX1_units 0 [.ref t, .float 0, .float 0] [] h Q := by
  refine zX_seg (pc' := 4) (L' := [.ref t, .int (0 : Int32), .int (0 : Int32)]) (st' := []) (h2 := h) rfl rfl (fun C Cr hc kk => x_iconst C (0 : Int32) (by decide) dX1_units_0 (x_istore_n C (by decide) dX1_units_1 (x_iconst C (0 : Int32) (by decide) dX1_units_2 (x_istore_n C (by decide) dX1_units_3 (kk))))) ?_
  exact zX_wk (wkK (wkK (wkK wkN))) H
set_option maxHeartbeats 20000000 in
theorem bX1_units_4 (l0 : Nat) (l1 : Int32) (l2 : Int32) (h : zH) (Q : Option Value → zH → Prop) (H : oK h l0 1 ∧ (∃ a2 : Nat, gR h l0 1 = some a2 ∧ (rK h a2 0 ∧ (((nI (aN h a2)) ≤ l2 → (Q (some (.int l1)) h)) ∧ (¬ ((nI (aN h a2)) ≤ l2) → (zC mX1_ballotOf [.ref l0, .int l2] h (fun r0 h5 => ∃ x6 : Option Nat, r0 = some (zr x6) ∧ (∃ a7 : Nat, x6 = some a7 ∧ (oK h5 a7 0 ∧ (zX mX1_units 4 [.ref l0, .int (l1 + (gI h5 a7 1)), .int (l2 + 1)] [] h5 Q)))))))))) : zX mX1_units 4 [.ref l0, .int l1, .int l2] [] h Q := by
  obtain ⟨g1, H⟩ := H
  obtain ⟨a2, ea2, H⟩ := H
  obtain ⟨g3, H⟩ := H
  refine zX_seg (pc' := 10) (L' := [.ref l0, .int l1, .int l2]) (st' := [.int (nI (aN h a2)), .int l2]) (h2 := h) rfl rfl (fun C Cr hc kk => x_iload_n C rfl dX1_units_4 (x_aload_n C (v := .ref l0) rfl rfl dX1_units_5 (f_getR1 C lX1_20 g1 rfl ea2 dX1_units_6 (f_alenR C (by decide) g3 dX1_units_9 (kk))))) ?_
  refine zX_br (p1 := 30) (p2 := 13) (st' := []) ((nI (aN h a2)) ≤ l2) (fun C kt kf => x_icmp_ge C 30 dX1_units_10 (by decide) kt kf) (fun q4 => ?_) (fun q4 => ?_)
  · replace H := H.1 q4
    refine zX_seg (pc' := 31) (L' := [.ref l0, .int l1, .int l2]) (st' := [.int l1]) (h2 := h) rfl rfl (fun C Cr hc kk => x_iload_n C rfl dX1_units_30 (kk)) ?_
    exact zX_ret (some (.int l1)) (fun C Cr hc => x_iret C Cr rfl rfl hc dX1_units_31 ⟨rfl, rfl⟩) H
  · replace H := H.2 q4
    refine zX_seg (pc' := 16) (L' := [.ref l0, .int l1, .int l2]) (st' := [.int l2, .ref l0, .int l1]) (h2 := h) rfl rfl (fun C Cr hc kk => x_iload_n C rfl dX1_units_13 (x_aload_n C (v := .ref l0) rfl rfl dX1_units_14 (x_iload_n C rfl dX1_units_15 (kk)))) ?_
    refine zX_call (as := [.ref l0, .int l2]) (st := [.int l1]) (fun C hM hc kk => f_callV C [.int l2] hM kX1_ballotOf vX1_ballotOf lX1_45 ⟨by decide, by decide⟩ (rfl : vwCl[1]? = some (RX1, TX1, 5)) g1 rfl hc (Nat.le_of_ble_eq_true rfl) rfl dX1_units_16 kk) (zC.mono H ?_)
    rintro r0 h5 ⟨x6, rfl, H⟩
    show zX mX1_units 19 [.ref l0, .int l1, .int l2] [zr x6, .int l1] h5 Q
    obtain ⟨a7, rfl, H⟩ := H
    obtain ⟨g8, H⟩ := H
    refine zX_seg (pc' := 4) (L' := [.ref l0, .int (l1 + (gI h5 a7 1)), .int (l2 + 1)]) (st' := []) (h2 := h5) rfl rfl (fun C Cr hc kk => f_getIN C lX1_49 g8 rfl dX1_units_19 (x_iadd C dX1_units_22 (x_istore_n C (by decide) dX1_units_23 (x_iinc C (l2 + 1) rfl (congrArg (HAdd.hAdd _) (by decide)) (by decide) dX1_units_24 (x_goto C 4 dX1_units_27 (by decide) (kk)))))) ?_
    exact zX_wk (wkK (wkK (wkK wkN))) H
theorem nX1_units (t : Nat) (h : zH) (Q : Option Value → zH → Prop) (H : zX mX1_units 0 [.ref t, .float 0, .float 0] [] h Q) : zC mX1_units [.ref t] h Q := zC_of (by decide +kernel) (by simp) (Nat.le_of_ble_eq_true rfl) H
set_option maxHeartbeats 20000000 in
theorem bX1_otherBallots_0 (t : Nat) (p0 : Nat) (h : zH) (Q : Option Value → zH → Prop) (H : zX mX1_otherBallots 4 [.ref t, .ref p0, .int (0 : Int32), .int (0 : Int32)] [] h Q) : zX mX1_otherBallots 0 [.ref t, .ref p0, .float 0, .float 0] [] h Q := by
  refine zX_seg (pc' := 4) (L' := [.ref t, .ref p0, .int (0 : Int32), .int (0 : Int32)]) (st' := []) (h2 := h) rfl rfl (fun C Cr hc kk => x_iconst C (0 : Int32) (by decide) dX1_otherBallots_0 (x_istore_n C (by decide) dX1_otherBallots_1 (x_iconst C (0 : Int32) (by decide) dX1_otherBallots_2 (x_istore_n C (by decide) dX1_otherBallots_3 (kk))))) ?_
  exact zX_wk (wkK (wkK (wkK (wkK wkN)))) H
set_option maxHeartbeats 20000000 in
theorem bX1_otherBallots_4 (l0 : Nat) (l1 : Nat) (l2 : Int32) (l3 : Int32) (h : zH) (Q : Option Value → zH → Prop) (H : oK h l0 1 ∧ (∃ a2 : Nat, gR h l0 1 = some a2 ∧ (rK h a2 0 ∧ (((nI (aN h a2)) ≤ l3 → (Q (some (.int l2)) h)) ∧ (¬ ((nI (aN h a2)) ≤ l3) → (oK h l1 1 ∧ (∃ a6 : Nat, gR h l1 1 = some a6 ∧ (rK h a6 0 ∧ (((nI (aN h a6)) ≤ l3 → (Q (some (.int l2)) h)) ∧ (¬ ((nI (aN h a6)) ≤ l3) → (vp_in l3 (aN h a2) ∧ (vp_in l3 (aN h a6) ∧ (((aR h a2 l3.toNatClampNeg) = (aR h a6 l3.toNatClampNeg) → (zX mX1_otherBallots 4 [.ref l0, .ref l1, .int l2, .int (l3 + 1)] [] h Q)) ∧ (¬ ((aR h a2 l3.toNatClampNeg) = (aR h a6 l3.toNatClampNeg)) → (zX mX1_otherBallots 4 [.ref l0, .ref l1, .int (l2 ||| ((1 : Int32) <<< (l3 &&& 31))), .int (l3 + 1)] [] h Q))))))))))))))) : zX mX1_otherBallots 4 [.ref l0, .ref l1, .int l2, .int l3] [] h Q := by
  obtain ⟨g1, H⟩ := H
  obtain ⟨a2, ea2, H⟩ := H
  obtain ⟨g3, H⟩ := H
  refine zX_seg (pc' := 10) (L' := [.ref l0, .ref l1, .int l2, .int l3]) (st' := [.int (nI (aN h a2)), .int l3]) (h2 := h) rfl rfl (fun C Cr hc kk => x_iload_n C rfl dX1_otherBallots_4 (x_aload_n C (v := .ref l0) rfl rfl dX1_otherBallots_5 (f_getR1 C lX1_20 g1 rfl ea2 dX1_otherBallots_6 (f_alenR C (by decide) g3 dX1_otherBallots_9 (kk))))) ?_
  refine zX_br (p1 := 49) (p2 := 13) (st' := []) ((nI (aN h a2)) ≤ l3) (fun C kt kf => x_icmp_ge C 49 dX1_otherBallots_10 (by decide) kt kf) (fun q4 => ?_) (fun q4 => ?_)
  · replace H := H.1 q4
    refine zX_seg (pc' := 50) (L' := [.ref l0, .ref l1, .int l2, .int l3]) (st' := [.int l2]) (h2 := h) rfl rfl (fun C Cr hc kk => x_iload_n C rfl dX1_otherBallots_49 (kk)) ?_
    exact zX_ret (some (.int l2)) (fun C Cr hc => x_iret C Cr rfl rfl hc dX1_otherBallots_50 ⟨rfl, rfl⟩) H
  · replace H := H.2 q4
    obtain ⟨g5, H⟩ := H
    obtain ⟨a6, ea6, H⟩ := H
    obtain ⟨g7, H⟩ := H
    refine zX_seg (pc' := 19) (L' := [.ref l0, .ref l1, .int l2, .int l3]) (st' := [.int (nI (aN h a6)), .int l3]) (h2 := h) rfl rfl (fun C Cr hc kk => x_iload_n C rfl dX1_otherBallots_13 (x_aload_n C (v := .ref l1) rfl rfl dX1_otherBallots_14 (f_getR1 C lX1_20 g5 rfl ea6 dX1_otherBallots_15 (f_alenR C (by decide) g7 dX1_otherBallots_18 (kk))))) ?_
    refine zX_br (p1 := 49) (p2 := 22) (st' := []) ((nI (aN h a6)) ≤ l3) (fun C kt kf => x_icmp_ge C 49 dX1_otherBallots_19 (by decide) kt kf) (fun q8 => ?_) (fun q8 => ?_)
    · replace H := H.1 q8
      refine zX_seg (pc' := 50) (L' := [.ref l0, .ref l1, .int l2, .int l3]) (st' := [.int l2]) (h2 := h) rfl rfl (fun C Cr hc kk => x_iload_n C rfl dX1_otherBallots_49 (kk)) ?_
      exact zX_ret (some (.int l2)) (fun C Cr hc => x_iret C Cr rfl rfl hc dX1_otherBallots_50 ⟨rfl, rfl⟩) H
    · replace H := H.2 q8
      obtain ⟨g9, H⟩ := H
      obtain ⟨g10, H⟩ := H
      refine zX_seg (pc' := 34) (L' := [.ref l0, .ref l1, .int l2, .int l3]) (st' := [zr (aR h a6 l3.toNatClampNeg), zr (aR h a2 l3.toNatClampNeg)]) (h2 := h) rfl rfl (fun C Cr hc kk => x_aload_n C (v := .ref l0) rfl rfl dX1_otherBallots_22 (f_getR1 C lX1_20 g1 rfl ea2 dX1_otherBallots_23 (x_iload_n C rfl dX1_otherBallots_26 (f_aald C (by decide) g3 g9 dX1_otherBallots_27 (x_aload_n C (v := .ref l1) rfl rfl dX1_otherBallots_28 (f_getR1 C lX1_20 g5 rfl ea6 dX1_otherBallots_29 (x_iload_n C rfl dX1_otherBallots_32 (f_aald C (by decide) g7 g10 dX1_otherBallots_33 (kk))))))))) ?_
      refine zX_br (p1 := 43) (p2 := 37) (st' := []) ((aR h a2 l3.toNatClampNeg) = (aR h a6 l3.toNatClampNeg)) (fun C kt kf => x_acmp_eq C 43 dX1_otherBallots_34 (by decide) kt kf) (fun q11 => ?_) (fun q11 => ?_)
      · replace H := H.1 q11
        refine zX_seg (pc' := 4) (L' := [.ref l0, .ref l1, .int l2, .int (l3 + 1)]) (st' := []) (h2 := h) rfl rfl (fun C Cr hc kk => x_iinc C (l3 + 1) rfl (congrArg (HAdd.hAdd _) (by decide)) (by decide) dX1_otherBallots_43 (x_goto C 4 dX1_otherBallots_46 (by decide) (kk))) ?_
        exact zX_wk (wkK (wkK (wkK (wkK wkN)))) H
      · replace H := H.2 q11
        refine zX_seg (pc' := 4) (L' := [.ref l0, .ref l1, .int (l2 ||| ((1 : Int32) <<< (l3 &&& 31))), .int (l3 + 1)]) (st' := []) (h2 := h) rfl rfl (fun C Cr hc kk => x_iload_n C rfl dX1_otherBallots_37 (x_iconst C (1 : Int32) (by decide) dX1_otherBallots_38 (x_iload_n C rfl dX1_otherBallots_39 (x_ishl C dX1_otherBallots_40 (x_ior C dX1_otherBallots_41 (x_istore_n C (by decide) dX1_otherBallots_42 (x_iinc C (l3 + 1) rfl (congrArg (HAdd.hAdd _) (by decide)) (by decide) dX1_otherBallots_43 (x_goto C 4 dX1_otherBallots_46 (by decide) (kk))))))))) ?_
        exact zX_wk (wkK (wkK (wkK (wkK wkN)))) H
theorem nX1_otherBallots (t : Nat) (p0 : Nat) (h : zH) (Q : Option Value → zH → Prop) (H : zX mX1_otherBallots 0 [.ref t, .ref p0, .float 0, .float 0] [] h Q) : zC mX1_otherBallots [.ref t, .ref p0] h Q := zC_of (by decide +kernel) (by simp) (Nat.le_of_ble_eq_true rfl) H
set_option maxHeartbeats 20000000 in
theorem bX2_init_0 (t : Nat) (h : zH) (Q : Option Value → zH → Prop) (H : ∀ h1 : zH, h1 = (zn h (zI 0 20 (fun _ => 0))) → (oK h1 t 2 ∧ (∀ h4 : zH, h4 = (pF h1 t 0 (zr (some h.1))) → (∀ h7 : zH, h7 = (zn h4 (zI 0 20 (fun _ => 0))) → (∀ h11 : zH, h11 = (pF h7 t 1 (zr (some h4.1))) → (∀ h15 : zH, h15 = (zn h11 (zI 0 20 (fun _ => 0))) → (∀ h20 : zH, h20 = (pF h15 t 2 (zr (some h11.1))) → (∀ h25 : zH, h25 = (zn h20 (zI 0 20 (fun _ => 0))) → (∀ h31 : zH, h31 = (pF h25 t 3 (zr (some h20.1))) → (Q none h31)))))))))) : zX mX2_init 0 [.ref t] [] h Q := by
  refine zX_seg (pc' := 7) (L' := [.ref t]) (st' := [.int (20 : Int32), .ref t]) (h2 := h) rfl rfl (fun C Cr hc kk => x_aload_n C (v := .ref t) rfl rfl dX2_init_0 (x_objInit C lX2_3 oi_i oi_c ⟨by decide, by decide⟩ (Nat.le_of_ble_eq_true rfl) dX2_init_1 (x_aload_n C (v := .ref t) rfl rfl dX2_init_4 (x_bipush C (20 : Int32) (by decide) dX2_init_5 (kk))))) ?_
  refine zX_new (pc' := 9) (L' := [.ref t]) (st' := [.ref (h.1), .ref t]) (e := (zI 0 20 (fun _ => 0))) (fun C z1 z2 kk => x_newa C (at0 := .int) ac_int (Or.inl ⟨rfl, rfl⟩) (by decide) (by decide) (by decide) z1 z2 dX2_init_7 kk) ?_
  obtain ⟨h1, eh1⟩ : ∃ y : zH, y = (zn h (zI 0 20 (fun _ => 0))) := ⟨_, rfl⟩
  replace H := H h1 eh1
  rw [← eh1]
  have g2 : iK h1 h.1 0 := by rw [eh1]; exact iK_new
  obtain ⟨g3, H⟩ := H
  refine zX_seg (pc' := 12) (L' := [.ref t]) (st' := []) (h2 := (pF h1 t 0 (zr (some h.1)))) rfl rfl (fun C Cr hc kk => f_putFR C Cr rfl (x := (some h.1)) lX2_9 tX2 nX2_0 g3 rfl (Or.inr ⟨_, rfl⟩) dX2_init_9 (kk)) ?_
  obtain ⟨h4, eh4⟩ : ∃ y : zH, y = (pF h1 t 0 (zr (some h.1))) := ⟨_, rfl⟩
  replace H := H h4 eh4
  rw [← eh4]
  have g5 : iK h4 h.1 0 := by rw [eh4]; exact iK_pF g2
  have g6 : oK h4 t 2 := by rw [eh4]; exact oK_pF' g3 rfl (zmr _) g3
  refine zX_seg (pc' := 15) (L' := [.ref t]) (st' := [.int (20 : Int32), .ref t]) (h2 := h4) rfl rfl (fun C Cr hc kk => x_aload_n C (v := .ref t) rfl rfl dX2_init_12 (x_bipush C (20 : Int32) (by decide) dX2_init_13 (kk))) ?_
  refine zX_new (pc' := 17) (L' := [.ref t]) (st' := [.ref (h4.1), .ref t]) (e := (zI 0 20 (fun _ => 0))) (fun C z1 z2 kk => x_newa C (at0 := .int) ac_int (Or.inl ⟨rfl, rfl⟩) (by decide) (by decide) (by decide) z1 z2 dX2_init_15 kk) ?_
  obtain ⟨h7, eh7⟩ : ∃ y : zH, y = (zn h4 (zI 0 20 (fun _ => 0))) := ⟨_, rfl⟩
  replace H := H h7 eh7
  rw [← eh7]
  have g8 : iK h7 h.1 0 := by rw [eh7]; exact iK_zn g5
  have g9 : oK h7 t 2 := by rw [eh7]; exact oK_zn g6
  have g10 : iK h7 h4.1 0 := by rw [eh7]; exact iK_new
  refine zX_seg (pc' := 20) (L' := [.ref t]) (st' := []) (h2 := (pF h7 t 1 (zr (some h4.1)))) rfl rfl (fun C Cr hc kk => f_putFR C Cr rfl (x := (some h4.1)) lX2_15 tX2 nX2_1 g9 rfl (Or.inr ⟨_, rfl⟩) dX2_init_17 (kk)) ?_
  obtain ⟨h11, eh11⟩ : ∃ y : zH, y = (pF h7 t 1 (zr (some h4.1))) := ⟨_, rfl⟩
  replace H := H h11 eh11
  rw [← eh11]
  have g12 : iK h11 h.1 0 := by rw [eh11]; exact iK_pF g8
  have g13 : oK h11 t 2 := by rw [eh11]; exact oK_pF' g9 rfl (zmr _) g9
  have g14 : iK h11 h4.1 0 := by rw [eh11]; exact iK_pF g10
  refine zX_seg (pc' := 23) (L' := [.ref t]) (st' := [.int (20 : Int32), .ref t]) (h2 := h11) rfl rfl (fun C Cr hc kk => x_aload_n C (v := .ref t) rfl rfl dX2_init_20 (x_bipush C (20 : Int32) (by decide) dX2_init_21 (kk))) ?_
  refine zX_new (pc' := 25) (L' := [.ref t]) (st' := [.ref (h11.1), .ref t]) (e := (zI 0 20 (fun _ => 0))) (fun C z1 z2 kk => x_newa C (at0 := .int) ac_int (Or.inl ⟨rfl, rfl⟩) (by decide) (by decide) (by decide) z1 z2 dX2_init_23 kk) ?_
  obtain ⟨h15, eh15⟩ : ∃ y : zH, y = (zn h11 (zI 0 20 (fun _ => 0))) := ⟨_, rfl⟩
  replace H := H h15 eh15
  rw [← eh15]
  have g16 : iK h15 h.1 0 := by rw [eh15]; exact iK_zn g12
  have g17 : oK h15 t 2 := by rw [eh15]; exact oK_zn g13
  have g18 : iK h15 h4.1 0 := by rw [eh15]; exact iK_zn g14
  have g19 : iK h15 h11.1 0 := by rw [eh15]; exact iK_new
  refine zX_seg (pc' := 28) (L' := [.ref t]) (st' := []) (h2 := (pF h15 t 2 (zr (some h11.1)))) rfl rfl (fun C Cr hc kk => f_putFR C Cr rfl (x := (some h11.1)) lX2_18 tX2 nX2_2 g17 rfl (Or.inr ⟨_, rfl⟩) dX2_init_25 (kk)) ?_
  obtain ⟨h20, eh20⟩ : ∃ y : zH, y = (pF h15 t 2 (zr (some h11.1))) := ⟨_, rfl⟩
  replace H := H h20 eh20
  rw [← eh20]
  have g21 : iK h20 h.1 0 := by rw [eh20]; exact iK_pF g16
  have g22 : oK h20 t 2 := by rw [eh20]; exact oK_pF' g17 rfl (zmr _) g17
  have g23 : iK h20 h4.1 0 := by rw [eh20]; exact iK_pF g18
  have g24 : iK h20 h11.1 0 := by rw [eh20]; exact iK_pF g19
  refine zX_seg (pc' := 31) (L' := [.ref t]) (st' := [.int (20 : Int32), .ref t]) (h2 := h20) rfl rfl (fun C Cr hc kk => x_aload_n C (v := .ref t) rfl rfl dX2_init_28 (x_bipush C (20 : Int32) (by decide) dX2_init_29 (kk))) ?_
  refine zX_new (pc' := 33) (L' := [.ref t]) (st' := [.ref (h20.1), .ref t]) (e := (zI 0 20 (fun _ => 0))) (fun C z1 z2 kk => x_newa C (at0 := .int) ac_int (Or.inl ⟨rfl, rfl⟩) (by decide) (by decide) (by decide) z1 z2 dX2_init_31 kk) ?_
  obtain ⟨h25, eh25⟩ : ∃ y : zH, y = (zn h20 (zI 0 20 (fun _ => 0))) := ⟨_, rfl⟩
  replace H := H h25 eh25
  rw [← eh25]
  have g26 : iK h25 h.1 0 := by rw [eh25]; exact iK_zn g21
  have g27 : oK h25 t 2 := by rw [eh25]; exact oK_zn g22
  have g28 : iK h25 h4.1 0 := by rw [eh25]; exact iK_zn g23
  have g29 : iK h25 h11.1 0 := by rw [eh25]; exact iK_zn g24
  have g30 : iK h25 h20.1 0 := by rw [eh25]; exact iK_new
  refine zX_seg (pc' := 36) (L' := [.ref t]) (st' := []) (h2 := (pF h25 t 3 (zr (some h20.1)))) rfl rfl (fun C Cr hc kk => f_putFR C Cr rfl (x := (some h20.1)) lX2_21 tX2 nX2_3 g27 rfl (Or.inr ⟨_, rfl⟩) dX2_init_33 (kk)) ?_
  obtain ⟨h31, eh31⟩ : ∃ y : zH, y = (pF h25 t 3 (zr (some h20.1))) := ⟨_, rfl⟩
  replace H := H h31 eh31
  rw [← eh31]
  have g32 : iK h31 h.1 0 := by rw [eh31]; exact iK_pF g26
  have g33 : oK h31 t 2 := by rw [eh31]; exact oK_pF' g27 rfl (zmr _) g27
  have g34 : iK h31 h4.1 0 := by rw [eh31]; exact iK_pF g28
  have g35 : iK h31 h11.1 0 := by rw [eh31]; exact iK_pF g29
  have g36 : iK h31 h20.1 0 := by rw [eh31]; exact iK_pF g30
  exact zX_ret none (fun C Cr hc => x_ret C Cr rfl hc dX2_init_36 ⟨rfl, rfl⟩) H
theorem nX2_init (t : Nat) (h : zH) (Q : Option Value → zH → Prop) (H : zX mX2_init 0 [.ref t] [] h Q) : zC mX2_init [.ref t] h Q := zC_of (by decide +kernel) (by simp) (Nat.le_of_ble_eq_true rfl) H
set_option maxHeartbeats 20000000 in
theorem bX2_tell_0 (t : Nat) (p0 : Int32) (p1 : Int32) (p2 : Int32) (h : zH) (Q : Option Value → zH → Prop) (H : oK h t 2 ∧ (((gI h t 4) < (20 : Int32) → (∃ a3 : Nat, gR h t 0 = some a3 ∧ (zC mX11_put [.ref a3, .int (gI h t 4), .int p0] h (fun r0 h4 => r0 = none ∧ (oK h4 t 2 ∧ (∃ a6 : Nat, gR h4 t 1 = some a6 ∧ (zC mX11_put [.ref a6, .int (gI h4 t 4), .int p1] h4 (fun r0 h7 => r0 = none ∧ (oK h7 t 2 ∧ (∃ a9 : Nat, gR h7 t 2 = some a9 ∧ (zC mX11_put [.ref a9, .int (gI h7 t 4), .int p2] h7 (fun r0 h10 => r0 = none ∧ (oK h10 t 2 ∧ (∃ a12 : Nat, gR h10 t 3 = some a12 ∧ (zC mX11_put [.ref a12, .int (gI h10 t 4), .int (-1 : Int32)] h10 (fun r0 h13 => r0 = none ∧ (oK h13 t 2 ∧ (∀ h15 : zH, h15 = (pF h13 t 4 (.int ((gI h13 t 4) + (1 : Int32)))) → (Q (some (.int ((gI h15 t 4) - (1 : Int32)))) h15))))))))))))))))))) ∧ (¬ ((gI h t 4) < (20 : Int32)) → (Q (some (.int (-1 : Int32))) h)))) : zX mX2_tell 0 [.ref t, .int p0, .int p1, .int p2] [] h Q := by
  obtain ⟨g1, H⟩ := H
  refine zX_seg (pc' := 6) (L' := [.ref t, .int p0, .int p1, .int p2]) (st' := [.int (20 : Int32), .int (gI h t 4)]) (h2 := h) rfl rfl (fun C Cr hc kk => x_aload_n C (v := .ref t) rfl rfl dX2_tell_0 (f_getI C lX2_24 g1 rfl dX2_tell_1 (x_bipush C (20 : Int32) (by decide) dX2_tell_4 (kk)))) ?_
  refine zX_br (p1 := 11) (p2 := 9) (st' := []) ((gI h t 4) < (20 : Int32)) (fun C kt kf => x_icmp_lt C 11 dX2_tell_6 (by decide) kt kf) (fun q2 => ?_) (fun q2 => ?_)
  · replace H := H.1 q2
    obtain ⟨a3, ea3, H⟩ := H
    refine zX_seg (pc' := 20) (L' := [.ref t, .int p0, .int p1, .int p2]) (st' := [.int p0, .int (gI h t 4), .ref a3]) (h2 := h) rfl rfl (fun C Cr hc kk => x_aload_n C (v := .ref t) rfl rfl dX2_tell_11 (f_getR1 C lX2_9 g1 rfl ea3 dX2_tell_12 (x_aload_n C (v := .ref t) rfl rfl dX2_tell_15 (f_getI C lX2_24 g1 rfl dX2_tell_16 (x_iload_n C rfl dX2_tell_19 (kk)))))) ?_
    refine zX_call (as := [.ref a3, .int (gI h t 4), .int p0]) (st := []) (fun C hM hc kk => x_callSN C [.ref a3, .int (gI h t 4), .int p0] hM kX11_put sX11_put lX2_28 ⟨by decide, by decide⟩ rfl hc (Nat.le_of_ble_eq_true rfl) rfl dX2_tell_20 kk) (zC.mono H ?_)
    rintro r0 h4 ⟨rfl, H⟩
    show zX mX2_tell 23 [.ref t, .int p0, .int p1, .int p2] [] h4 Q
    obtain ⟨g5, H⟩ := H
    obtain ⟨a6, ea6, H⟩ := H
    refine zX_seg (pc' := 32) (L' := [.ref t, .int p0, .int p1, .int p2]) (st' := [.int p1, .int (gI h4 t 4), .ref a6]) (h2 := h4) rfl rfl (fun C Cr hc kk => x_aload_n C (v := .ref t) rfl rfl dX2_tell_23 (f_getR1 C lX2_15 g5 rfl ea6 dX2_tell_24 (x_aload_n C (v := .ref t) rfl rfl dX2_tell_27 (f_getI C lX2_24 g5 rfl dX2_tell_28 (x_iload_n C rfl dX2_tell_31 (kk)))))) ?_
    refine zX_call (as := [.ref a6, .int (gI h4 t 4), .int p1]) (st := []) (fun C hM hc kk => x_callSN C [.ref a6, .int (gI h4 t 4), .int p1] hM kX11_put sX11_put lX2_28 ⟨by decide, by decide⟩ rfl hc (Nat.le_of_ble_eq_true rfl) rfl dX2_tell_32 kk) (zC.mono H ?_)
    rintro r0 h7 ⟨rfl, H⟩
    show zX mX2_tell 35 [.ref t, .int p0, .int p1, .int p2] [] h7 Q
    obtain ⟨g8, H⟩ := H
    obtain ⟨a9, ea9, H⟩ := H
    refine zX_seg (pc' := 44) (L' := [.ref t, .int p0, .int p1, .int p2]) (st' := [.int p2, .int (gI h7 t 4), .ref a9]) (h2 := h7) rfl rfl (fun C Cr hc kk => x_aload_n C (v := .ref t) rfl rfl dX2_tell_35 (f_getR1 C lX2_18 g8 rfl ea9 dX2_tell_36 (x_aload_n C (v := .ref t) rfl rfl dX2_tell_39 (f_getI C lX2_24 g8 rfl dX2_tell_40 (x_iload_n C rfl dX2_tell_43 (kk)))))) ?_
    refine zX_call (as := [.ref a9, .int (gI h7 t 4), .int p2]) (st := []) (fun C hM hc kk => x_callSN C [.ref a9, .int (gI h7 t 4), .int p2] hM kX11_put sX11_put lX2_28 ⟨by decide, by decide⟩ rfl hc (Nat.le_of_ble_eq_true rfl) rfl dX2_tell_44 kk) (zC.mono H ?_)
    rintro r0 h10 ⟨rfl, H⟩
    show zX mX2_tell 47 [.ref t, .int p0, .int p1, .int p2] [] h10 Q
    obtain ⟨g11, H⟩ := H
    obtain ⟨a12, ea12, H⟩ := H
    refine zX_seg (pc' := 56) (L' := [.ref t, .int p0, .int p1, .int p2]) (st' := [.int (-1 : Int32), .int (gI h10 t 4), .ref a12]) (h2 := h10) rfl rfl (fun C Cr hc kk => x_aload_n C (v := .ref t) rfl rfl dX2_tell_47 (f_getR1 C lX2_21 g11 rfl ea12 dX2_tell_48 (x_aload_n C (v := .ref t) rfl rfl dX2_tell_51 (f_getI C lX2_24 g11 rfl dX2_tell_52 (x_iconst C (-1 : Int32) (by decide) dX2_tell_55 (kk)))))) ?_
    refine zX_call (as := [.ref a12, .int (gI h10 t 4), .int (-1 : Int32)]) (st := []) (fun C hM hc kk => x_callSN C [.ref a12, .int (gI h10 t 4), .int (-1 : Int32)] hM kX11_put sX11_put lX2_28 ⟨by decide, by decide⟩ rfl hc (Nat.le_of_ble_eq_true rfl) rfl dX2_tell_56 kk) (zC.mono H ?_)
    rintro r0 h13 ⟨rfl, H⟩
    show zX mX2_tell 59 [.ref t, .int p0, .int p1, .int p2] [] h13 Q
    obtain ⟨g14, H⟩ := H
    refine zX_seg (pc' := 69) (L' := [.ref t, .int p0, .int p1, .int p2]) (st' := []) (h2 := (pF h13 t 4 (.int ((gI h13 t 4) + (1 : Int32))))) rfl rfl (fun C Cr hc kk => x_aload_n C (v := .ref t) rfl rfl dX2_tell_59 (x_dup C rfl dX2_tell_60 (f_getI C lX2_24 g14 rfl dX2_tell_61 (x_iconst C (1 : Int32) (by decide) dX2_tell_64 (x_iadd C dX2_tell_65 (f_putI C lX2_24 tX2 nX2_4 g14 rfl rfl dX2_tell_66 (kk))))))) ?_
    obtain ⟨h15, eh15⟩ : ∃ y : zH, y = (pF h13 t 4 (.int ((gI h13 t 4) + (1 : Int32)))) := ⟨_, rfl⟩
    replace H := H h15 eh15
    rw [← eh15]
    have g16 : oK h15 t 2 := by rw [eh15]; exact oK_pF' g14 rfl rfl g14
    refine zX_seg (pc' := 75) (L' := [.ref t, .int p0, .int p1, .int p2]) (st' := [.int ((gI h15 t 4) - (1 : Int32))]) (h2 := h15) rfl rfl (fun C Cr hc kk => x_aload_n C (v := .ref t) rfl rfl dX2_tell_69 (f_getI C lX2_24 g16 rfl dX2_tell_70 (x_iconst C (1 : Int32) (by decide) dX2_tell_73 (x_isub C dX2_tell_74 (kk))))) ?_
    exact zX_ret (some (.int ((gI h15 t 4) - (1 : Int32)))) (fun C Cr hc => x_iret C Cr rfl rfl hc dX2_tell_75 ⟨rfl, rfl⟩) H
  · replace H := H.2 q2
    refine zX_seg (pc' := 10) (L' := [.ref t, .int p0, .int p1, .int p2]) (st' := [.int (-1 : Int32)]) (h2 := h) rfl rfl (fun C Cr hc kk => x_iconst C (-1 : Int32) (by decide) dX2_tell_9 (kk)) ?_
    exact zX_ret (some (.int (-1 : Int32))) (fun C Cr hc => x_iret C Cr rfl rfl hc dX2_tell_10 ⟨rfl, rfl⟩) H
theorem nX2_tell (t : Nat) (p0 : Int32) (p1 : Int32) (p2 : Int32) (h : zH) (Q : Option Value → zH → Prop) (H : zX mX2_tell 0 [.ref t, .int p0, .int p1, .int p2] [] h Q) : zC mX2_tell [.ref t, .int p0, .int p1, .int p2] h Q := zC_of (by decide +kernel) (by simp) (Nat.le_of_ble_eq_true rfl) H
set_option maxHeartbeats 20000000 in
theorem bX2_takeBack_0 (t : Nat) (p0 : Int32) (p1 : Int32) (h : zH) (Q : Option Value → zH → Prop) (H : (p0 < 0 → (Q (some (.int (0 : Int32))) h)) ∧ (¬ (p0 < 0) → (oK h t 2 ∧ (((gI h t 4) ≤ p0 → (Q (some (.int (0 : Int32))) h)) ∧ (¬ ((gI h t 4) ≤ p0) → (∃ a4 : Nat, gR h t 3 = some a4 ∧ (zC mX11_at [.ref a4, .int p0] h (fun r0 h5 => ∃ x6 : Int32, r0 = some (.int x6) ∧ ((x6 = (-1 : Int32) → (oK h5 t 2 ∧ (∃ a9 : Nat, gR h5 t 3 = some a9 ∧ (zC mX11_put [.ref a9, .int p0, .int p1] h5 (fun r0 h10 => r0 = none ∧ (Q (some (.int (1 : Int32))) h10)))))) ∧ (¬ (x6 = (-1 : Int32)) → (Q (some (.int (0 : Int32))) h5))))))))))) : zX mX2_takeBack 0 [.ref t, .int p0, .int p1] [] h Q := by
  refine zX_seg (pc' := 1) (L' := [.ref t, .int p0, .int p1]) (st' := [.int p0]) (h2 := h) rfl rfl (fun C Cr hc kk => x_iload_n C rfl dX2_takeBack_0 (kk)) ?_
  refine zX_br (p1 := 24) (p2 := 4) (st' := []) (p0 < 0) (fun C kt kf => x_if_lt C 24 dX2_takeBack_1 (by decide) kt kf) (fun q1 => ?_) (fun q1 => ?_)
  · replace H := H.1 q1
    refine zX_seg (pc' := 25) (L' := [.ref t, .int p0, .int p1]) (st' := [.int (0 : Int32)]) (h2 := h) rfl rfl (fun C Cr hc kk => x_iconst C (0 : Int32) (by decide) dX2_takeBack_24 (kk)) ?_
    exact zX_ret (some (.int (0 : Int32))) (fun C Cr hc => x_iret C Cr rfl rfl hc dX2_takeBack_25 ⟨rfl, rfl⟩) H
  · replace H := H.2 q1
    obtain ⟨g2, H⟩ := H
    refine zX_seg (pc' := 9) (L' := [.ref t, .int p0, .int p1]) (st' := [.int (gI h t 4), .int p0]) (h2 := h) rfl rfl (fun C Cr hc kk => x_iload_n C rfl dX2_takeBack_4 (x_aload_n C (v := .ref t) rfl rfl dX2_takeBack_5 (f_getI C lX2_24 g2 rfl dX2_takeBack_6 (kk)))) ?_
    refine zX_br (p1 := 24) (p2 := 12) (st' := []) ((gI h t 4) ≤ p0) (fun C kt kf => x_icmp_ge C 24 dX2_takeBack_9 (by decide) kt kf) (fun q3 => ?_) (fun q3 => ?_)
    · replace H := H.1 q3
      refine zX_seg (pc' := 25) (L' := [.ref t, .int p0, .int p1]) (st' := [.int (0 : Int32)]) (h2 := h) rfl rfl (fun C Cr hc kk => x_iconst C (0 : Int32) (by decide) dX2_takeBack_24 (kk)) ?_
      exact zX_ret (some (.int (0 : Int32))) (fun C Cr hc => x_iret C Cr rfl rfl hc dX2_takeBack_25 ⟨rfl, rfl⟩) H
    · replace H := H.2 q3
      obtain ⟨a4, ea4, H⟩ := H
      refine zX_seg (pc' := 17) (L' := [.ref t, .int p0, .int p1]) (st' := [.int p0, .ref a4]) (h2 := h) rfl rfl (fun C Cr hc kk => x_aload_n C (v := .ref t) rfl rfl dX2_takeBack_12 (f_getR1 C lX2_21 g2 rfl ea4 dX2_takeBack_13 (x_iload_n C rfl dX2_takeBack_16 (kk)))) ?_
      refine zX_call (as := [.ref a4, .int p0]) (st := []) (fun C hM hc kk => x_callSN C [.ref a4, .int p0] hM kX11_at sX11_at lX2_32 ⟨by decide, by decide⟩ rfl hc (Nat.le_of_ble_eq_true rfl) rfl dX2_takeBack_17 kk) (zC.mono H ?_)
      rintro r0 h5 ⟨x6, rfl, H⟩
      show zX mX2_takeBack 20 [.ref t, .int p0, .int p1] [.int x6] h5 Q
      refine zX_seg (pc' := 21) (L' := [.ref t, .int p0, .int p1]) (st' := [.int (-1 : Int32), .int x6]) (h2 := h5) rfl rfl (fun C Cr hc kk => x_iconst C (-1 : Int32) (by decide) dX2_takeBack_20 (kk)) ?_
      refine zX_br (p1 := 26) (p2 := 24) (st' := []) (x6 = (-1 : Int32)) (fun C kt kf => x_icmp_eq C 26 dX2_takeBack_21 (by decide) kt kf) (fun q7 => ?_) (fun q7 => ?_)
      · replace H := H.1 q7
        obtain ⟨g8, H⟩ := H
        obtain ⟨a9, ea9, H⟩ := H
        refine zX_seg (pc' := 32) (L' := [.ref t, .int p0, .int p1]) (st' := [.int p1, .int p0, .ref a9]) (h2 := h5) rfl rfl (fun C Cr hc kk => x_aload_n C (v := .ref t) rfl rfl dX2_takeBack_26 (f_getR1 C lX2_21 g8 rfl ea9 dX2_takeBack_27 (x_iload_n C rfl dX2_takeBack_30 (x_iload_n C rfl dX2_takeBack_31 (kk))))) ?_
        refine zX_call (as := [.ref a9, .int p0, .int p1]) (st := []) (fun C hM hc kk => x_callSN C [.ref a9, .int p0, .int p1] hM kX11_put sX11_put lX2_28 ⟨by decide, by decide⟩ rfl hc (Nat.le_of_ble_eq_true rfl) rfl dX2_takeBack_32 kk) (zC.mono H ?_)
        rintro r0 h10 ⟨rfl, H⟩
        show zX mX2_takeBack 35 [.ref t, .int p0, .int p1] [] h10 Q
        refine zX_seg (pc' := 36) (L' := [.ref t, .int p0, .int p1]) (st' := [.int (1 : Int32)]) (h2 := h10) rfl rfl (fun C Cr hc kk => x_iconst C (1 : Int32) (by decide) dX2_takeBack_35 (kk)) ?_
        exact zX_ret (some (.int (1 : Int32))) (fun C Cr hc => x_iret C Cr rfl rfl hc dX2_takeBack_36 ⟨rfl, rfl⟩) H
      · replace H := H.2 q7
        refine zX_seg (pc' := 25) (L' := [.ref t, .int p0, .int p1]) (st' := [.int (0 : Int32)]) (h2 := h5) rfl rfl (fun C Cr hc kk => x_iconst C (0 : Int32) (by decide) dX2_takeBack_24 (kk)) ?_
        exact zX_ret (some (.int (0 : Int32))) (fun C Cr hc => x_iret C Cr rfl rfl hc dX2_takeBack_25 ⟨rfl, rfl⟩) H
theorem nX2_takeBack (t : Nat) (p0 : Int32) (p1 : Int32) (h : zH) (Q : Option Value → zH → Prop) (H : zX mX2_takeBack 0 [.ref t, .int p0, .int p1] [] h Q) : zC mX2_takeBack [.ref t, .int p0, .int p1] h Q := zC_of (by decide +kernel) (by simp) (Nat.le_of_ble_eq_true rfl) H
set_option maxHeartbeats 20000000 in
theorem bX2_become_0 (t : Nat) (p0 : Nat) (h : zH) (Q : Option Value → zH → Prop) (H : oK h p0 2 ∧ (oK h t 2 ∧ (∀ h3 : zH, h3 = (pF h t 4 (.int (gI h p0 4))) → (zX mX2_become 10 [.ref t, .ref p0, .int (0 : Int32)] [] h3 Q)))) : zX mX2_become 0 [.ref t, .ref p0, .float 0] [] h Q := by
  obtain ⟨g1, H⟩ := H
  obtain ⟨g2, H⟩ := H
  refine zX_seg (pc' := 8) (L' := [.ref t, .ref p0, .float 0]) (st' := []) (h2 := (pF h t 4 (.int (gI h p0 4)))) rfl rfl (fun C Cr hc kk => x_aload_n C (v := .ref t) rfl rfl dX2_become_0 (x_aload_n C (v := .ref p0) rfl rfl dX2_become_1 (f_getI C lX2_24 g1 rfl dX2_become_2 (f_putI C lX2_24 tX2 nX2_4 g2 rfl rfl dX2_become_5 (kk))))) ?_
  obtain ⟨h3, eh3⟩ : ∃ y : zH, y = (pF h t 4 (.int (gI h p0 4))) := ⟨_, rfl⟩
  replace H := H h3 eh3
  rw [← eh3]
  have g4 : oK h3 p0 2 := by rw [eh3]; exact oK_pF' g2 rfl rfl g1
  have g5 : oK h3 t 2 := by rw [eh3]; exact oK_pF' g2 rfl rfl g2
  refine zX_seg (pc' := 10) (L' := [.ref t, .ref p0, .int (0 : Int32)]) (st' := []) (h2 := h3) rfl rfl (fun C Cr hc kk => x_iconst C (0 : Int32) (by decide) dX2_become_8 (x_istore_n C (by decide) dX2_become_9 (kk))) ?_
  exact zX_wk (wkK (wkK (wkK wkN))) H
set_option maxHeartbeats 20000000 in
theorem bX2_become_10 (l0 : Nat) (l1 : Nat) (l2 : Int32) (h : zH) (Q : Option Value → zH → Prop) (H : ((20 : Int32) ≤ l2 → (Q none h)) ∧ (¬ ((20 : Int32) ≤ l2) → (oK h l0 2 ∧ (∃ a3 : Nat, gR h l0 0 = some a3 ∧ (oK h l1 2 ∧ (∃ a5 : Nat, gR h l1 0 = some a5 ∧ (zC mX11_at [.ref a5, .int l2] h (fun r0 h6 => ∃ x7 : Int32, r0 = some (.int x7) ∧ (zC mX11_put [.ref a3, .int l2, .int x7] h6 (fun r0 h8 => r0 = none ∧ (oK h8 l0 2 ∧ (∃ a10 : Nat, gR h8 l0 1 = some a10 ∧ (oK h8 l1 2 ∧ (∃ a12 : Nat, gR h8 l1 1 = some a12 ∧ (zC mX11_at [.ref a12, .int l2] h8 (fun r0 h13 => ∃ x14 : Int32, r0 = some (.int x14) ∧ (zC mX11_put [.ref a10, .int l2, .int x14] h13 (fun r0 h15 => r0 = none ∧ (oK h15 l0 2 ∧ (∃ a17 : Nat, gR h15 l0 2 = some a17 ∧ (oK h15 l1 2 ∧ (∃ a19 : Nat, gR h15 l1 2 = some a19 ∧ (zC mX11_at [.ref a19, .int l2] h15 (fun r0 h20 => ∃ x21 : Int32, r0 = some (.int x21) ∧ (zC mX11_put [.ref a17, .int l2, .int x21] h20 (fun r0 h22 => r0 = none ∧ (oK h22 l0 2 ∧ (∃ a24 : Nat, gR h22 l0 3 = some a24 ∧ (oK h22 l1 2 ∧ (∃ a26 : Nat, gR h22 l1 3 = some a26 ∧ (zC mX11_at [.ref a26, .int l2] h22 (fun r0 h27 => ∃ x28 : Int32, r0 = some (.int x28) ∧ (zC mX11_put [.ref a24, .int l2, .int x28] h27 (fun r0 h29 => r0 = none ∧ (zX mX2_become 10 [.ref l0, .ref l1, .int (l2 + 1)] [] h29 Q))))))))))))))))))))))))))))))))))) : zX mX2_become 10 [.ref l0, .ref l1, .int l2] [] h Q := by
  refine zX_seg (pc' := 13) (L' := [.ref l0, .ref l1, .int l2]) (st' := [.int (20 : Int32), .int l2]) (h2 := h) rfl rfl (fun C Cr hc kk => x_iload_n C rfl dX2_become_10 (x_bipush C (20 : Int32) (by decide) dX2_become_11 (kk))) ?_
  refine zX_br (p1 := 86) (p2 := 16) (st' := []) ((20 : Int32) ≤ l2) (fun C kt kf => x_icmp_ge C 86 dX2_become_13 (by decide) kt kf) (fun q1 => ?_) (fun q1 => ?_)
  · replace H := H.1 q1
    exact zX_ret none (fun C Cr hc => x_ret C Cr rfl hc dX2_become_86 ⟨rfl, rfl⟩) H
  · replace H := H.2 q1
    obtain ⟨g2, H⟩ := H
    obtain ⟨a3, ea3, H⟩ := H
    obtain ⟨g4, H⟩ := H
    obtain ⟨a5, ea5, H⟩ := H
    refine zX_seg (pc' := 26) (L' := [.ref l0, .ref l1, .int l2]) (st' := [.int l2, .ref a5, .int l2, .ref a3]) (h2 := h) rfl rfl (fun C Cr hc kk => x_aload_n C (v := .ref l0) rfl rfl dX2_become_16 (f_getR1 C lX2_9 g2 rfl ea3 dX2_become_17 (x_iload_n C rfl dX2_become_20 (x_aload_n C (v := .ref l1) rfl rfl dX2_become_21 (f_getR1 C lX2_9 g4 rfl ea5 dX2_become_22 (x_iload_n C rfl dX2_become_25 (kk))))))) ?_
    refine zX_call (as := [.ref a5, .int l2]) (st := [.int l2, .ref a3]) (fun C hM hc kk => x_callSN C [.ref a5, .int l2] hM kX11_at sX11_at lX2_32 ⟨by decide, by decide⟩ rfl hc (Nat.le_of_ble_eq_true rfl) rfl dX2_become_26 kk) (zC.mono H ?_)
    rintro r0 h6 ⟨x7, rfl, H⟩
    show zX mX2_become 29 [.ref l0, .ref l1, .int l2] [.int x7, .int l2, .ref a3] h6 Q
    refine zX_call (as := [.ref a3, .int l2, .int x7]) (st := []) (fun C hM hc kk => x_callSN C [.ref a3, .int l2, .int x7] hM kX11_put sX11_put lX2_28 ⟨by decide, by decide⟩ rfl hc (Nat.le_of_ble_eq_true rfl) rfl dX2_become_29 kk) (zC.mono H ?_)
    rintro r0 h8 ⟨rfl, H⟩
    show zX mX2_become 32 [.ref l0, .ref l1, .int l2] [] h8 Q
    obtain ⟨g9, H⟩ := H
    obtain ⟨a10, ea10, H⟩ := H
    obtain ⟨g11, H⟩ := H
    obtain ⟨a12, ea12, H⟩ := H
    refine zX_seg (pc' := 42) (L' := [.ref l0, .ref l1, .int l2]) (st' := [.int l2, .ref a12, .int l2, .ref a10]) (h2 := h8) rfl rfl (fun C Cr hc kk => x_aload_n C (v := .ref l0) rfl rfl dX2_become_32 (f_getR1 C lX2_15 g9 rfl ea10 dX2_become_33 (x_iload_n C rfl dX2_become_36 (x_aload_n C (v := .ref l1) rfl rfl dX2_become_37 (f_getR1 C lX2_15 g11 rfl ea12 dX2_become_38 (x_iload_n C rfl dX2_become_41 (kk))))))) ?_
    refine zX_call (as := [.ref a12, .int l2]) (st := [.int l2, .ref a10]) (fun C hM hc kk => x_callSN C [.ref a12, .int l2] hM kX11_at sX11_at lX2_32 ⟨by decide, by decide⟩ rfl hc (Nat.le_of_ble_eq_true rfl) rfl dX2_become_42 kk) (zC.mono H ?_)
    rintro r0 h13 ⟨x14, rfl, H⟩
    show zX mX2_become 45 [.ref l0, .ref l1, .int l2] [.int x14, .int l2, .ref a10] h13 Q
    refine zX_call (as := [.ref a10, .int l2, .int x14]) (st := []) (fun C hM hc kk => x_callSN C [.ref a10, .int l2, .int x14] hM kX11_put sX11_put lX2_28 ⟨by decide, by decide⟩ rfl hc (Nat.le_of_ble_eq_true rfl) rfl dX2_become_45 kk) (zC.mono H ?_)
    rintro r0 h15 ⟨rfl, H⟩
    show zX mX2_become 48 [.ref l0, .ref l1, .int l2] [] h15 Q
    obtain ⟨g16, H⟩ := H
    obtain ⟨a17, ea17, H⟩ := H
    obtain ⟨g18, H⟩ := H
    obtain ⟨a19, ea19, H⟩ := H
    refine zX_seg (pc' := 58) (L' := [.ref l0, .ref l1, .int l2]) (st' := [.int l2, .ref a19, .int l2, .ref a17]) (h2 := h15) rfl rfl (fun C Cr hc kk => x_aload_n C (v := .ref l0) rfl rfl dX2_become_48 (f_getR1 C lX2_18 g16 rfl ea17 dX2_become_49 (x_iload_n C rfl dX2_become_52 (x_aload_n C (v := .ref l1) rfl rfl dX2_become_53 (f_getR1 C lX2_18 g18 rfl ea19 dX2_become_54 (x_iload_n C rfl dX2_become_57 (kk))))))) ?_
    refine zX_call (as := [.ref a19, .int l2]) (st := [.int l2, .ref a17]) (fun C hM hc kk => x_callSN C [.ref a19, .int l2] hM kX11_at sX11_at lX2_32 ⟨by decide, by decide⟩ rfl hc (Nat.le_of_ble_eq_true rfl) rfl dX2_become_58 kk) (zC.mono H ?_)
    rintro r0 h20 ⟨x21, rfl, H⟩
    show zX mX2_become 61 [.ref l0, .ref l1, .int l2] [.int x21, .int l2, .ref a17] h20 Q
    refine zX_call (as := [.ref a17, .int l2, .int x21]) (st := []) (fun C hM hc kk => x_callSN C [.ref a17, .int l2, .int x21] hM kX11_put sX11_put lX2_28 ⟨by decide, by decide⟩ rfl hc (Nat.le_of_ble_eq_true rfl) rfl dX2_become_61 kk) (zC.mono H ?_)
    rintro r0 h22 ⟨rfl, H⟩
    show zX mX2_become 64 [.ref l0, .ref l1, .int l2] [] h22 Q
    obtain ⟨g23, H⟩ := H
    obtain ⟨a24, ea24, H⟩ := H
    obtain ⟨g25, H⟩ := H
    obtain ⟨a26, ea26, H⟩ := H
    refine zX_seg (pc' := 74) (L' := [.ref l0, .ref l1, .int l2]) (st' := [.int l2, .ref a26, .int l2, .ref a24]) (h2 := h22) rfl rfl (fun C Cr hc kk => x_aload_n C (v := .ref l0) rfl rfl dX2_become_64 (f_getR1 C lX2_21 g23 rfl ea24 dX2_become_65 (x_iload_n C rfl dX2_become_68 (x_aload_n C (v := .ref l1) rfl rfl dX2_become_69 (f_getR1 C lX2_21 g25 rfl ea26 dX2_become_70 (x_iload_n C rfl dX2_become_73 (kk))))))) ?_
    refine zX_call (as := [.ref a26, .int l2]) (st := [.int l2, .ref a24]) (fun C hM hc kk => x_callSN C [.ref a26, .int l2] hM kX11_at sX11_at lX2_32 ⟨by decide, by decide⟩ rfl hc (Nat.le_of_ble_eq_true rfl) rfl dX2_become_74 kk) (zC.mono H ?_)
    rintro r0 h27 ⟨x28, rfl, H⟩
    show zX mX2_become 77 [.ref l0, .ref l1, .int l2] [.int x28, .int l2, .ref a24] h27 Q
    refine zX_call (as := [.ref a24, .int l2, .int x28]) (st := []) (fun C hM hc kk => x_callSN C [.ref a24, .int l2, .int x28] hM kX11_put sX11_put lX2_28 ⟨by decide, by decide⟩ rfl hc (Nat.le_of_ble_eq_true rfl) rfl dX2_become_77 kk) (zC.mono H ?_)
    rintro r0 h29 ⟨rfl, H⟩
    show zX mX2_become 80 [.ref l0, .ref l1, .int l2] [] h29 Q
    refine zX_seg (pc' := 10) (L' := [.ref l0, .ref l1, .int (l2 + 1)]) (st' := []) (h2 := h29) rfl rfl (fun C Cr hc kk => x_iinc C (l2 + 1) rfl (congrArg (HAdd.hAdd _) (by decide)) (by decide) dX2_become_80 (x_goto C 10 dX2_become_83 (by decide) (kk))) ?_
    exact zX_wk (wkK (wkK (wkK wkN))) H
theorem nX2_become (t : Nat) (p0 : Nat) (h : zH) (Q : Option Value → zH → Prop) (H : zX mX2_become 0 [.ref t, .ref p0, .float 0] [] h Q) : zC mX2_become [.ref t, .ref p0] h Q := zC_of (by decide +kernel) (by simp) (Nat.le_of_ble_eq_true rfl) H
set_option maxHeartbeats 20000000 in
theorem bX2_countsAt_0 (t : Nat) (p0 : Int32) (p1 : Int32) (h : zH) (Q : Option Value → zH → Prop) (H : oK h t 2 ∧ (∃ a2 : Nat, gR h t 3 = some a2 ∧ (zC mX11_at [.ref a2, .int p0] h (fun r0 h3 => ∃ x4 : Int32, r0 = some (.int x4) ∧ (oK h3 t 2 ∧ (∃ a6 : Nat, gR h3 t 2 = some a6 ∧ (zC mX11_at [.ref a6, .int p0] h3 (fun r0 h7 => ∃ x8 : Int32, r0 = some (.int x8) ∧ ((p1 < x8 → (Q (some (.int (0 : Int32))) h7)) ∧ (¬ (p1 < x8) → ((x4 = (-1 : Int32) → (Q (some (.int (1 : Int32))) h7)) ∧ (¬ (x4 = (-1 : Int32)) → ((x4 ≤ p1 → (Q (some (.int (0 : Int32))) h7)) ∧ (¬ (x4 ≤ p1) → (Q (some (.int (1 : Int32))) h7))))))))))))))) : zX mX2_countsAt 0 [.ref t, .int p0, .int p1, .float 0] [] h Q := by
  obtain ⟨g1, H⟩ := H
  obtain ⟨a2, ea2, H⟩ := H
  refine zX_seg (pc' := 5) (L' := [.ref t, .int p0, .int p1, .float 0]) (st' := [.int p0, .ref a2]) (h2 := h) rfl rfl (fun C Cr hc kk => x_aload_n C (v := .ref t) rfl rfl dX2_countsAt_0 (f_getR1 C lX2_21 g1 rfl ea2 dX2_countsAt_1 (x_iload_n C rfl dX2_countsAt_4 (kk)))) ?_
  refine zX_call (as := [.ref a2, .int p0]) (st := []) (fun C hM hc kk => x_callSN C [.ref a2, .int p0] hM kX11_at sX11_at lX2_32 ⟨by decide, by decide⟩ rfl hc (Nat.le_of_ble_eq_true rfl) rfl dX2_countsAt_5 kk) (zC.mono H ?_)
  rintro r0 h3 ⟨x4, rfl, H⟩
  show zX mX2_countsAt 8 [.ref t, .int p0, .int p1, .float 0] [.int x4] h3 Q
  obtain ⟨g5, H⟩ := H
  obtain ⟨a6, ea6, H⟩ := H
  refine zX_seg (pc' := 14) (L' := [.ref t, .int p0, .int p1, .int x4]) (st' := [.int p0, .ref a6]) (h2 := h3) rfl rfl (fun C Cr hc kk => x_istore_n C (by decide) dX2_countsAt_8 (x_aload_n C (v := .ref t) rfl rfl dX2_countsAt_9 (f_getR1 C lX2_18 g5 rfl ea6 dX2_countsAt_10 (x_iload_n C rfl dX2_countsAt_13 (kk))))) ?_
  refine zX_call (as := [.ref a6, .int p0]) (st := []) (fun C hM hc kk => x_callSN C [.ref a6, .int p0] hM kX11_at sX11_at lX2_32 ⟨by decide, by decide⟩ rfl hc (Nat.le_of_ble_eq_true rfl) rfl dX2_countsAt_14 kk) (zC.mono H ?_)
  rintro r0 h7 ⟨x8, rfl, H⟩
  show zX mX2_countsAt 17 [.ref t, .int p0, .int p1, .int x4] [.int x8] h7 Q
  refine zX_seg (pc' := 18) (L' := [.ref t, .int p0, .int p1, .int x4]) (st' := [.int p1, .int x8]) (h2 := h7) rfl rfl (fun C Cr hc kk => x_iload_n C rfl dX2_countsAt_17 (kk)) ?_
  refine zX_br (p1 := 35) (p2 := 21) (st' := []) (p1 < x8) (fun C kt kf => x_icmp_gt C 35 dX2_countsAt_18 (by decide) kt kf) (fun q9 => ?_) (fun q9 => ?_)
  · replace H := H.1 q9
    refine zX_seg (pc' := 36) (L' := [.ref t, .int p0, .int p1, .int x4]) (st' := [.int (0 : Int32)]) (h2 := h7) rfl rfl (fun C Cr hc kk => x_iconst C (0 : Int32) (by decide) dX2_countsAt_35 (kk)) ?_
    exact zX_ret (some (.int (0 : Int32))) (fun C Cr hc => x_iret C Cr rfl rfl hc dX2_countsAt_36 ⟨rfl, rfl⟩) H
  · replace H := H.2 q9
    refine zX_seg (pc' := 23) (L' := [.ref t, .int p0, .int p1, .int x4]) (st' := [.int (-1 : Int32), .int x4]) (h2 := h7) rfl rfl (fun C Cr hc kk => x_iload_n C rfl dX2_countsAt_21 (x_iconst C (-1 : Int32) (by decide) dX2_countsAt_22 (kk))) ?_
    refine zX_br (p1 := 31) (p2 := 26) (st' := []) (x4 = (-1 : Int32)) (fun C kt kf => x_icmp_eq C 31 dX2_countsAt_23 (by decide) kt kf) (fun q10 => ?_) (fun q10 => ?_)
    · replace H := H.1 q10
      refine zX_seg (pc' := 36) (L' := [.ref t, .int p0, .int p1, .int x4]) (st' := [.int (1 : Int32)]) (h2 := h7) rfl rfl (fun C Cr hc kk => x_iconst C (1 : Int32) (by decide) dX2_countsAt_31 (x_goto C 36 dX2_countsAt_32 (by decide) (kk))) ?_
      exact zX_ret (some (.int (1 : Int32))) (fun C Cr hc => x_iret C Cr rfl rfl hc dX2_countsAt_36 ⟨rfl, rfl⟩) H
    · replace H := H.2 q10
      refine zX_seg (pc' := 28) (L' := [.ref t, .int p0, .int p1, .int x4]) (st' := [.int p1, .int x4]) (h2 := h7) rfl rfl (fun C Cr hc kk => x_iload_n C rfl dX2_countsAt_26 (x_iload_n C rfl dX2_countsAt_27 (kk))) ?_
      refine zX_br (p1 := 35) (p2 := 31) (st' := []) (x4 ≤ p1) (fun C kt kf => x_icmp_le C 35 dX2_countsAt_28 (by decide) kt kf) (fun q11 => ?_) (fun q11 => ?_)
      · replace H := H.1 q11
        refine zX_seg (pc' := 36) (L' := [.ref t, .int p0, .int p1, .int x4]) (st' := [.int (0 : Int32)]) (h2 := h7) rfl rfl (fun C Cr hc kk => x_iconst C (0 : Int32) (by decide) dX2_countsAt_35 (kk)) ?_
        exact zX_ret (some (.int (0 : Int32))) (fun C Cr hc => x_iret C Cr rfl rfl hc dX2_countsAt_36 ⟨rfl, rfl⟩) H
      · replace H := H.2 q11
        refine zX_seg (pc' := 36) (L' := [.ref t, .int p0, .int p1, .int x4]) (st' := [.int (1 : Int32)]) (h2 := h7) rfl rfl (fun C Cr hc kk => x_iconst C (1 : Int32) (by decide) dX2_countsAt_31 (x_goto C 36 dX2_countsAt_32 (by decide) (kk))) ?_
        exact zX_ret (some (.int (1 : Int32))) (fun C Cr hc => x_iret C Cr rfl rfl hc dX2_countsAt_36 ⟨rfl, rfl⟩) H
theorem nX2_countsAt (t : Nat) (p0 : Int32) (p1 : Int32) (h : zH) (Q : Option Value → zH → Prop) (H : zX mX2_countsAt 0 [.ref t, .int p0, .int p1, .float 0] [] h Q) : zC mX2_countsAt [.ref t, .int p0, .int p1] h Q := zC_of (by decide +kernel) (by simp) (Nat.le_of_ble_eq_true rfl) H
set_option maxHeartbeats 20000000 in
theorem bX2_gather_0 (t : Nat) (p0 : Int32) (p1 : Nat) (h : zH) (Q : Option Value → zH → Prop) (H : oK h t 2 ∧ (∀ h2 : zH, h2 = (pF h t 5 (.int (0 : Int32))) → (∀ h4 : zH, h4 = (pF h2 t 6 (.int (0 : Int32))) → (zX mX2_gather 12 [.ref t, .int p0, .ref p1, .int (0 : Int32), .float 0, .float 0] [] h4 Q)))) : zX mX2_gather 0 [.ref t, .int p0, .ref p1, .float 0, .float 0, .float 0] [] h Q := by
  obtain ⟨g1, H⟩ := H
  refine zX_seg (pc' := 5) (L' := [.ref t, .int p0, .ref p1, .float 0, .float 0, .float 0]) (st' := []) (h2 := (pF h t 5 (.int (0 : Int32)))) rfl rfl (fun C Cr hc kk => x_aload_n C (v := .ref t) rfl rfl dX2_gather_0 (x_iconst C (0 : Int32) (by decide) dX2_gather_1 (f_putI C lX2_36 tX2 nX2_5 g1 rfl rfl dX2_gather_2 (kk)))) ?_
  obtain ⟨h2, eh2⟩ : ∃ y : zH, y = (pF h t 5 (.int (0 : Int32))) := ⟨_, rfl⟩
  replace H := H h2 eh2
  rw [← eh2]
  have g3 : oK h2 t 2 := by rw [eh2]; exact oK_pF' g1 rfl rfl g1
  refine zX_seg (pc' := 10) (L' := [.ref t, .int p0, .ref p1, .float 0, .float 0, .float 0]) (st' := []) (h2 := (pF h2 t 6 (.int (0 : Int32)))) rfl rfl (fun C Cr hc kk => x_aload_n C (v := .ref t) rfl rfl dX2_gather_5 (x_iconst C (0 : Int32) (by decide) dX2_gather_6 (f_putI C lX2_39 tX2 nX2_6 g3 rfl rfl dX2_gather_7 (kk)))) ?_
  obtain ⟨h4, eh4⟩ : ∃ y : zH, y = (pF h2 t 6 (.int (0 : Int32))) := ⟨_, rfl⟩
  replace H := H h4 eh4
  rw [← eh4]
  have g5 : oK h4 t 2 := by rw [eh4]; exact oK_pF' g3 rfl rfl g3
  refine zX_seg (pc' := 12) (L' := [.ref t, .int p0, .ref p1, .int (0 : Int32), .float 0, .float 0]) (st' := []) (h2 := h4) rfl rfl (fun C Cr hc kk => x_iconst C (0 : Int32) (by decide) dX2_gather_10 (x_istore_n C (by decide) dX2_gather_11 (kk))) ?_
  exact zX_wk (wkK (wkK (wkK (wkK (wkD (wkD wkN)))))) H
set_option maxHeartbeats 20000000 in
theorem bX2_gather_12 (l0 : Nat) (l1 : Int32) (l2 : Nat) (l3 : Int32) (h : zH) (Q : Option Value → zH → Prop) (H : oK h l0 2 ∧ (((gI h l0 4) ≤ l3 → (Q (some (.int (1 : Int32))) h)) ∧ (¬ ((gI h l0 4) ≤ l3) → (zC mX2_countsAt [.ref l0, .int l3, .int l1] h (fun r0 h3 => ∃ x4 : Int32, r0 = some (.int x4) ∧ ((x4 = 0 → (zX mX2_gather 12 [.ref l0, .int l1, .ref l2, .int (l3 + 1), .float 0, .float 0] [] h3 Q)) ∧ (¬ (x4 = 0) → (oK h3 l0 2 ∧ (∃ a7 : Nat, gR h3 l0 0 = some a7 ∧ (zC mX11_at [.ref a7, .int l3] h3 (fun r0 h8 => ∃ x9 : Int32, r0 = some (.int x9) ∧ (oK h8 l2 10 ∧ (zC mX10_bitsInRows [.ref l2, .int ((1 : Int32) <<< (x9 &&& 31))] h8 (fun r0 h11 => ∃ x12 : Int32, r0 = some (.int x12) ∧ (oK h11 l0 2 ∧ (∃ a14 : Nat, gR h11 l0 0 = some a14 ∧ (zC mX11_at [.ref a14, .int l3] h11 (fun r0 h15 => ∃ x16 : Int32, r0 = some (.int x16) ∧ (oK h15 l0 2 ∧ (∃ a18 : Nat, gR h15 l0 1 = some a18 ∧ (zC mX11_at [.ref a18, .int l3] h15 (fun r0 h19 => ∃ x20 : Int32, r0 = some (.int x20) ∧ (oK h19 l2 10 ∧ (zC mX10_withMark [.ref l2, .int (0 : Int32), .int x16, .int x20] h19 (fun r0 h22 => ∃ x23 : Int32, r0 = some (.int x23) ∧ (oK h22 l0 2 ∧ ((((gI h22 l0 5) &&& x12) = 0 → (zX mX2_gather 92 [.ref l0, .int l1, .ref l2, .int l3, .int x12, .int x23] [] h22 Q)) ∧ (¬ (((gI h22 l0 5) &&& x12) = 0) → ((((gI h22 l0 6) &&& x12) = x23 → (zX mX2_gather 92 [.ref l0, .int l1, .ref l2, .int l3, .int x12, .int x23] [] h22 Q)) ∧ (¬ (((gI h22 l0 6) &&& x12) = x23) → (Q (some (.int (0 : Int32))) h22))))))))))))))))))))))))))))))) : zX mX2_gather 12 [.ref l0, .int l1, .ref l2, .int l3, .float 0, .float 0] [] h Q := by
  obtain ⟨g1, H⟩ := H
  refine zX_seg (pc' := 17) (L' := [.ref l0, .int l1, .ref l2, .int l3, .float 0, .float 0]) (st' := [.int (gI h l0 4), .int l3]) (h2 := h) rfl rfl (fun C Cr hc kk => x_iload_n C rfl dX2_gather_12 (x_aload_n C (v := .ref l0) rfl rfl dX2_gather_13 (f_getI C lX2_24 g1 rfl dX2_gather_14 (kk)))) ?_
  refine zX_br (p1 := 120) (p2 := 20) (st' := []) ((gI h l0 4) ≤ l3) (fun C kt kf => x_icmp_ge C 120 dX2_gather_17 (by decide) kt kf) (fun q2 => ?_) (fun q2 => ?_)
  · replace H := H.1 q2
    refine zX_seg (pc' := 121) (L' := [.ref l0, .int l1, .ref l2, .int l3, .float 0, .float 0]) (st' := [.int (1 : Int32)]) (h2 := h) rfl rfl (fun C Cr hc kk => x_iconst C (1 : Int32) (by decide) dX2_gather_120 (kk)) ?_
    exact zX_ret (some (.int (1 : Int32))) (fun C Cr hc => x_iret C Cr rfl rfl hc dX2_gather_121 ⟨rfl, rfl⟩) H
  · replace H := H.2 q2
    refine zX_seg (pc' := 23) (L' := [.ref l0, .int l1, .ref l2, .int l3, .float 0, .float 0]) (st' := [.int l1, .int l3, .ref l0]) (h2 := h) rfl rfl (fun C Cr hc kk => x_aload_n C (v := .ref l0) rfl rfl dX2_gather_20 (x_iload_n C rfl dX2_gather_21 (x_iload_n C rfl dX2_gather_22 (kk)))) ?_
    refine zX_call (as := [.ref l0, .int l3, .int l1]) (st := []) (fun C hM hc kk => f_callV C [.int l3, .int l1] hM kX2_countsAt vX2_countsAt lX2_42 ⟨by decide, by decide⟩ (rfl : vwCl[2]? = some (RX2, TX2, 7)) g1 rfl hc (Nat.le_of_ble_eq_true rfl) rfl dX2_gather_23 kk) (zC.mono H ?_)
    rintro r0 h3 ⟨x4, rfl, H⟩
    show zX mX2_gather 26 [.ref l0, .int l1, .ref l2, .int l3, .float 0, .float 0] [.int x4] h3 Q
    refine zX_br (p1 := 114) (p2 := 29) (st' := []) (x4 = 0) (fun C kt kf => x_if_eq C 114 dX2_gather_26 (by decide) kt kf) (fun q5 => ?_) (fun q5 => ?_)
    · replace H := H.1 q5
      refine zX_seg (pc' := 12) (L' := [.ref l0, .int l1, .ref l2, .int (l3 + 1), .float 0, .float 0]) (st' := []) (h2 := h3) rfl rfl (fun C Cr hc kk => x_iinc C (l3 + 1) rfl (congrArg (HAdd.hAdd _) (by decide)) (by decide) dX2_gather_114 (x_goto C 12 dX2_gather_117 (by decide) (kk))) ?_
      exact zX_wk (wkK (wkK (wkK (wkK (wkD (wkD wkN)))))) H
    · replace H := H.2 q5
      obtain ⟨g6, H⟩ := H
      obtain ⟨a7, ea7, H⟩ := H
      refine zX_seg (pc' := 36) (L' := [.ref l0, .int l1, .ref l2, .int l3, .float 0, .float 0]) (st' := [.int l3, .ref a7, .int (1 : Int32), .ref l2]) (h2 := h3) rfl rfl (fun C Cr hc kk => x_aload_n C (v := .ref l2) rfl rfl dX2_gather_29 (x_iconst C (1 : Int32) (by decide) dX2_gather_30 (x_aload_n C (v := .ref l0) rfl rfl dX2_gather_31 (f_getR1 C lX2_9 g6 rfl ea7 dX2_gather_32 (x_iload_n C rfl dX2_gather_35 (kk)))))) ?_
      refine zX_call (as := [.ref a7, .int l3]) (st := [.int (1 : Int32), .ref l2]) (fun C hM hc kk => x_callSN C [.ref a7, .int l3] hM kX11_at sX11_at lX2_32 ⟨by decide, by decide⟩ rfl hc (Nat.le_of_ble_eq_true rfl) rfl dX2_gather_36 kk) (zC.mono H ?_)
      rintro r0 h8 ⟨x9, rfl, H⟩
      show zX mX2_gather 39 [.ref l0, .int l1, .ref l2, .int l3, .float 0, .float 0] [.int x9, .int (1 : Int32), .ref l2] h8 Q
      refine zX_seg (pc' := 40) (L' := [.ref l0, .int l1, .ref l2, .int l3, .float 0, .float 0]) (st' := [.int ((1 : Int32) <<< (x9 &&& 31)), .ref l2]) (h2 := h8) rfl rfl (fun C Cr hc kk => x_ishl C dX2_gather_39 (kk)) ?_
      obtain ⟨g10, H⟩ := H
      refine zX_call (as := [.ref l2, .int ((1 : Int32) <<< (x9 &&& 31))]) (st := []) (fun C hM hc kk => f_callVN C [.int ((1 : Int32) <<< (x9 &&& 31))] hM kX10_bitsInRows vX10_bitsInRows lX2_46 ⟨by decide, by decide⟩ (rfl : vwCl[10]? = some (RX10, TX10, 10)) g10 rfl hc (Nat.le_of_ble_eq_true rfl) rfl dX2_gather_40 kk) (zC.mono H ?_)
      rintro r0 h11 ⟨x12, rfl, H⟩
      show zX mX2_gather 43 [.ref l0, .int l1, .ref l2, .int l3, .float 0, .float 0] [.int x12] h11 Q
      obtain ⟨g13, H⟩ := H
      obtain ⟨a14, ea14, H⟩ := H
      refine zX_seg (pc' := 52) (L' := [.ref l0, .int l1, .ref l2, .int l3, .int x12, .float 0]) (st' := [.int l3, .ref a14, .int (0 : Int32), .ref l2]) (h2 := h11) rfl rfl (fun C Cr hc kk => x_istore C (by decide) dX2_gather_43 (x_aload_n C (v := .ref l2) rfl rfl dX2_gather_45 (x_iconst C (0 : Int32) (by decide) dX2_gather_46 (x_aload_n C (v := .ref l0) rfl rfl dX2_gather_47 (f_getR1 C lX2_9 g13 rfl ea14 dX2_gather_48 (x_iload_n C rfl dX2_gather_51 (kk))))))) ?_
      refine zX_call (as := [.ref a14, .int l3]) (st := [.int (0 : Int32), .ref l2]) (fun C hM hc kk => x_callSN C [.ref a14, .int l3] hM kX11_at sX11_at lX2_32 ⟨by decide, by decide⟩ rfl hc (Nat.le_of_ble_eq_true rfl) rfl dX2_gather_52 kk) (zC.mono H ?_)
      rintro r0 h15 ⟨x16, rfl, H⟩
      show zX mX2_gather 55 [.ref l0, .int l1, .ref l2, .int l3, .int x12, .float 0] [.int x16, .int (0 : Int32), .ref l2] h15 Q
      obtain ⟨g17, H⟩ := H
      obtain ⟨a18, ea18, H⟩ := H
      refine zX_seg (pc' := 60) (L' := [.ref l0, .int l1, .ref l2, .int l3, .int x12, .float 0]) (st' := [.int l3, .ref a18, .int x16, .int (0 : Int32), .ref l2]) (h2 := h15) rfl rfl (fun C Cr hc kk => x_aload_n C (v := .ref l0) rfl rfl dX2_gather_55 (f_getR1 C lX2_15 g17 rfl ea18 dX2_gather_56 (x_iload_n C rfl dX2_gather_59 (kk)))) ?_
      refine zX_call (as := [.ref a18, .int l3]) (st := [.int x16, .int (0 : Int32), .ref l2]) (fun C hM hc kk => x_callSN C [.ref a18, .int l3] hM kX11_at sX11_at lX2_32 ⟨by decide, by decide⟩ rfl hc (Nat.le_of_ble_eq_true rfl) rfl dX2_gather_60 kk) (zC.mono H ?_)
      rintro r0 h19 ⟨x20, rfl, H⟩
      show zX mX2_gather 63 [.ref l0, .int l1, .ref l2, .int l3, .int x12, .float 0] [.int x20, .int x16, .int (0 : Int32), .ref l2] h19 Q
      obtain ⟨g21, H⟩ := H
      refine zX_call (as := [.ref l2, .int (0 : Int32), .int x16, .int x20]) (st := []) (fun C hM hc kk => f_callVN C [.int (0 : Int32), .int x16, .int x20] hM kX10_withMark vX10_withMark lX2_52 ⟨by decide, by decide⟩ (rfl : vwCl[10]? = some (RX10, TX10, 10)) g21 rfl hc (Nat.le_of_ble_eq_true rfl) rfl dX2_gather_63 kk) (zC.mono H ?_)
      rintro r0 h22 ⟨x23, rfl, H⟩
      show zX mX2_gather 66 [.ref l0, .int l1, .ref l2, .int l3, .int x12, .float 0] [.int x23] h22 Q
      obtain ⟨g24, H⟩ := H
      refine zX_seg (pc' := 75) (L' := [.ref l0, .int l1, .ref l2, .int l3, .int x12, .int x23]) (st' := [.int ((gI h22 l0 5) &&& x12)]) (h2 := h22) rfl rfl (fun C Cr hc kk => x_istore C (by decide) dX2_gather_66 (x_aload_n C (v := .ref l0) rfl rfl dX2_gather_68 (f_getI C lX2_36 g24 rfl dX2_gather_69 (x_iload C rfl dX2_gather_72 (x_iand C dX2_gather_74 (kk)))))) ?_
      refine zX_br (p1 := 92) (p2 := 78) (st' := []) (((gI h22 l0 5) &&& x12) = 0) (fun C kt kf => x_if_eq C 92 dX2_gather_75 (by decide) kt kf) (fun q25 => ?_) (fun q25 => ?_)
      · replace H := H.1 q25
        exact zX_wk (wkK (wkK (wkK (wkK (wkK (wkK wkN)))))) H
      · replace H := H.2 q25
        refine zX_seg (pc' := 87) (L' := [.ref l0, .int l1, .ref l2, .int l3, .int x12, .int x23]) (st' := [.int x23, .int ((gI h22 l0 6) &&& x12)]) (h2 := h22) rfl rfl (fun C Cr hc kk => x_aload_n C (v := .ref l0) rfl rfl dX2_gather_78 (f_getI C lX2_39 g24 rfl dX2_gather_79 (x_iload C rfl dX2_gather_82 (x_iand C dX2_gather_84 (x_iload C rfl dX2_gather_85 (kk)))))) ?_
        refine zX_br (p1 := 92) (p2 := 90) (st' := []) (((gI h22 l0 6) &&& x12) = x23) (fun C kt kf => x_icmp_eq C 92 dX2_gather_87 (by decide) kt kf) (fun q26 => ?_) (fun q26 => ?_)
        · replace H := H.1 q26
          exact zX_wk (wkK (wkK (wkK (wkK (wkK (wkK wkN)))))) H
        · replace H := H.2 q26
          refine zX_seg (pc' := 91) (L' := [.ref l0, .int l1, .ref l2, .int l3, .int x12, .int x23]) (st' := [.int (0 : Int32)]) (h2 := h22) rfl rfl (fun C Cr hc kk => x_iconst C (0 : Int32) (by decide) dX2_gather_90 (kk)) ?_
          exact zX_ret (some (.int (0 : Int32))) (fun C Cr hc => x_iret C Cr rfl rfl hc dX2_gather_91 ⟨rfl, rfl⟩) H
set_option maxHeartbeats 20000000 in
theorem bX2_gather_92 (l0 : Nat) (l1 : Int32) (l2 : Nat) (l3 : Int32) (l4 : Int32) (l5 : Int32) (h : zH) (Q : Option Value → zH → Prop) (H : oK h l0 2 ∧ (∀ h2 : zH, h2 = (pF h l0 5 (.int ((gI h l0 5) ||| l4))) → (∀ h4 : zH, h4 = (pF h2 l0 6 (.int ((gI h2 l0 6) ||| l5))) → (zX mX2_gather 12 [.ref l0, .int l1, .ref l2, .int (l3 + 1), .float 0, .float 0] [] h4 Q)))) : zX mX2_gather 92 [.ref l0, .int l1, .ref l2, .int l3, .int l4, .int l5] [] h Q := by
  obtain ⟨g1, H⟩ := H
  refine zX_seg (pc' := 103) (L' := [.ref l0, .int l1, .ref l2, .int l3, .int l4, .int l5]) (st' := []) (h2 := (pF h l0 5 (.int ((gI h l0 5) ||| l4)))) rfl rfl (fun C Cr hc kk => x_aload_n C (v := .ref l0) rfl rfl dX2_gather_92 (x_dup C rfl dX2_gather_93 (f_getI C lX2_36 g1 rfl dX2_gather_94 (x_iload C rfl dX2_gather_97 (x_ior C dX2_gather_99 (f_putI C lX2_36 tX2 nX2_5 g1 rfl rfl dX2_gather_100 (kk))))))) ?_
  obtain ⟨h2, eh2⟩ : ∃ y : zH, y = (pF h l0 5 (.int ((gI h l0 5) ||| l4))) := ⟨_, rfl⟩
  replace H := H h2 eh2
  rw [← eh2]
  have g3 : oK h2 l0 2 := by rw [eh2]; exact oK_pF' g1 rfl rfl g1
  refine zX_seg (pc' := 114) (L' := [.ref l0, .int l1, .ref l2, .int l3, .int l4, .int l5]) (st' := []) (h2 := (pF h2 l0 6 (.int ((gI h2 l0 6) ||| l5)))) rfl rfl (fun C Cr hc kk => x_aload_n C (v := .ref l0) rfl rfl dX2_gather_103 (x_dup C rfl dX2_gather_104 (f_getI C lX2_39 g3 rfl dX2_gather_105 (x_iload C rfl dX2_gather_108 (x_ior C dX2_gather_110 (f_putI C lX2_39 tX2 nX2_6 g3 rfl rfl dX2_gather_111 (kk))))))) ?_
  obtain ⟨h4, eh4⟩ : ∃ y : zH, y = (pF h2 l0 6 (.int ((gI h2 l0 6) ||| l5))) := ⟨_, rfl⟩
  replace H := H h4 eh4
  rw [← eh4]
  have g5 : oK h4 l0 2 := by rw [eh4]; exact oK_pF' g3 rfl rfl g3
  refine zX_seg (pc' := 12) (L' := [.ref l0, .int l1, .ref l2, .int (l3 + 1), .int l4, .int l5]) (st' := []) (h2 := h4) rfl rfl (fun C Cr hc kk => x_iinc C (l3 + 1) rfl (congrArg (HAdd.hAdd _) (by decide)) (by decide) dX2_gather_114 (x_goto C 12 dX2_gather_117 (by decide) (kk))) ?_
  exact zX_wk (wkK (wkK (wkK (wkK (wkD (wkD wkN)))))) H
theorem nX2_gather (t : Nat) (p0 : Int32) (p1 : Nat) (h : zH) (Q : Option Value → zH → Prop) (H : zX mX2_gather 0 [.ref t, .int p0, .ref p1, .float 0, .float 0, .float 0] [] h Q) : zC mX2_gather [.ref t, .int p0, .ref p1] h Q := zC_of (by decide +kernel) (by simp) (Nat.le_of_ble_eq_true rfl) H
set_option maxHeartbeats 20000000 in
theorem bX2_agreeWith_0 (t : Nat) (p0 : Int32) (h : zH) (Q : Option Value → zH → Prop) (H : oK h t 2 ∧ (((p0 &&& (gI h t 5)) = (gI h t 6) → (Q (some (.int (1 : Int32))) h)) ∧ (¬ ((p0 &&& (gI h t 5)) = (gI h t 6)) → (Q (some (.int (0 : Int32))) h)))) : zX mX2_agreeWith 0 [.ref t, .int p0] [] h Q := by
  obtain ⟨g1, H⟩ := H
  refine zX_seg (pc' := 10) (L' := [.ref t, .int p0]) (st' := [.int (gI h t 6), .int (p0 &&& (gI h t 5))]) (h2 := h) rfl rfl (fun C Cr hc kk => x_iload_n C rfl dX2_agreeWith_0 (x_aload_n C (v := .ref t) rfl rfl dX2_agreeWith_1 (f_getI C lX2_36 g1 rfl dX2_agreeWith_2 (x_iand C dX2_agreeWith_5 (x_aload_n C (v := .ref t) rfl rfl dX2_agreeWith_6 (f_getI C lX2_39 g1 rfl dX2_agreeWith_7 (kk))))))) ?_
  refine zX_br (p1 := 13) (p2 := 17) (st' := []) ((p0 &&& (gI h t 5)) = (gI h t 6)) (fun C kt kf => x_icmp_ne C 17 dX2_agreeWith_10 (by decide) kf kt) (fun q2 => ?_) (fun q2 => ?_)
  · replace H := H.1 q2
    refine zX_seg (pc' := 18) (L' := [.ref t, .int p0]) (st' := [.int (1 : Int32)]) (h2 := h) rfl rfl (fun C Cr hc kk => x_iconst C (1 : Int32) (by decide) dX2_agreeWith_13 (x_goto C 18 dX2_agreeWith_14 (by decide) (kk))) ?_
    exact zX_ret (some (.int (1 : Int32))) (fun C Cr hc => x_iret C Cr rfl rfl hc dX2_agreeWith_18 ⟨rfl, rfl⟩) H
  · replace H := H.2 q2
    refine zX_seg (pc' := 18) (L' := [.ref t, .int p0]) (st' := [.int (0 : Int32)]) (h2 := h) rfl rfl (fun C Cr hc kk => x_iconst C (0 : Int32) (by decide) dX2_agreeWith_17 (kk)) ?_
    exact zX_ret (some (.int (0 : Int32))) (fun C Cr hc => x_iret C Cr rfl rfl hc dX2_agreeWith_18 ⟨rfl, rfl⟩) H
theorem nX2_agreeWith (t : Nat) (p0 : Int32) (h : zH) (Q : Option Value → zH → Prop) (H : zX mX2_agreeWith 0 [.ref t, .int p0] [] h Q) : zC mX2_agreeWith [.ref t, .int p0] h Q := zC_of (by decide +kernel) (by simp) (Nat.le_of_ble_eq_true rfl) H
set_option maxHeartbeats 20000000 in
theorem bX3_init_0 (t : Nat) (h : zH) (Q : Option Value → zH → Prop) (H : ∀ h1 : zH, h1 = (zn h (zI 0 8 (fun _ => 0))) → (oK h1 t 3 ∧ (∀ h4 : zH, h4 = (pF h1 t 0 (zr (some h.1))) → (Q none h4)))) : zX mX3_init 0 [.ref t] [] h Q := by
  refine zX_seg (pc' := 7) (L' := [.ref t]) (st' := [.int (8 : Int32), .ref t]) (h2 := h) rfl rfl (fun C Cr hc kk => x_aload_n C (v := .ref t) rfl rfl dX3_init_0 (x_objInit C lX3_3 oi_i oi_c ⟨by decide, by decide⟩ (Nat.le_of_ble_eq_true rfl) dX3_init_1 (x_aload_n C (v := .ref t) rfl rfl dX3_init_4 (x_bipush C (8 : Int32) (by decide) dX3_init_5 (kk))))) ?_
  refine zX_new (pc' := 9) (L' := [.ref t]) (st' := [.ref (h.1), .ref t]) (e := (zI 0 8 (fun _ => 0))) (fun C z1 z2 kk => x_newa C (at0 := .int) ac_int (Or.inl ⟨rfl, rfl⟩) (by decide) (by decide) (by decide) z1 z2 dX3_init_7 kk) ?_
  obtain ⟨h1, eh1⟩ : ∃ y : zH, y = (zn h (zI 0 8 (fun _ => 0))) := ⟨_, rfl⟩
  replace H := H h1 eh1
  rw [← eh1]
  have g2 : iK h1 h.1 0 := by rw [eh1]; exact iK_new
  obtain ⟨g3, H⟩ := H
  refine zX_seg (pc' := 12) (L' := [.ref t]) (st' := []) (h2 := (pF h1 t 0 (zr (some h.1)))) rfl rfl (fun C Cr hc kk => f_putFR C Cr rfl (x := (some h.1)) lX3_9 tX3 nX3_0 g3 rfl (Or.inr ⟨_, rfl⟩) dX3_init_9 (kk)) ?_
  obtain ⟨h4, eh4⟩ : ∃ y : zH, y = (pF h1 t 0 (zr (some h.1))) := ⟨_, rfl⟩
  replace H := H h4 eh4
  rw [← eh4]
  have g5 : iK h4 h.1 0 := by rw [eh4]; exact iK_pF g2
  have g6 : oK h4 t 3 := by rw [eh4]; exact oK_pF' g3 rfl (zmr _) g3
  exact zX_ret none (fun C Cr hc => x_ret C Cr rfl hc dX3_init_12 ⟨rfl, rfl⟩) H
theorem nX3_init (t : Nat) (h : zH) (Q : Option Value → zH → Prop) (H : zX mX3_init 0 [.ref t] [] h Q) : zC mX3_init [.ref t] h Q := zC_of (by decide +kernel) (by simp) (Nat.le_of_ble_eq_true rfl) H
set_option maxHeartbeats 20000000 in
theorem bX3_take_0 (t : Nat) (p0 : Int32) (p1 : Int32) (h : zH) (Q : Option Value → zH → Prop) (H : oK h t 3 ∧ (∀ h2 : zH, h2 = (pF h t 1 (.int p1)) → (zX mX3_take 15 [.ref t, .float 0, .int p1, .int p0, .int (0 : Int32), .int (p1 - (1 : Int32)), .float 0] [] h2 Q))) : zX mX3_take 0 [.ref t, .int p0, .int p1, .float 0, .float 0, .float 0, .float 0] [] h Q := by
  obtain ⟨g1, H⟩ := H
  refine zX_seg (pc' := 5) (L' := [.ref t, .int p0, .int p1, .float 0, .float 0, .float 0, .float 0]) (st' := []) (h2 := (pF h t 1 (.int p1))) rfl rfl (fun C Cr hc kk => x_aload_n C (v := .ref t) rfl rfl dX3_take_0 (x_iload_n C rfl dX3_take_1 (f_putI C lX3_15 tX3 nX3_1 g1 rfl rfl dX3_take_2 (kk)))) ?_
  obtain ⟨h2, eh2⟩ : ∃ y : zH, y = (pF h t 1 (.int p1)) := ⟨_, rfl⟩
  replace H := H h2 eh2
  rw [← eh2]
  have g3 : oK h2 t 3 := by rw [eh2]; exact oK_pF' g1 rfl rfl g1
  refine zX_seg (pc' := 15) (L' := [.ref t, .int p0, .int p1, .int p0, .int (0 : Int32), .int (p1 - (1 : Int32)), .float 0]) (st' := []) (h2 := h2) rfl rfl (fun C Cr hc kk => x_iload_n C rfl dX3_take_5 (x_istore_n C (by decide) dX3_take_6 (x_iconst C (0 : Int32) (by decide) dX3_take_7 (x_istore C (by decide) dX3_take_8 (x_iload_n C rfl dX3_take_10 (x_iconst C (1 : Int32) (by decide) dX3_take_11 (x_isub C dX3_take_12 (x_istore C (by decide) dX3_take_13 (kk))))))))) ?_
  exact zX_wk (wkK (wkD (wkK (wkK (wkK (wkK (wkD wkN))))))) H
set_option maxHeartbeats 20000000 in
theorem bX3_take_15 (l0 : Nat) (l2 : Int32) (l3 : Int32) (l4 : Int32) (l5 : Int32) (h : zH) (Q : Option Value → zH → Prop) (H : (l5 < 0 → ((l3 = 0 → ((l4 = (((1 : Int32) <<< (l2 &&& 31)) - (1 : Int32)) → (Q (some (.int (1 : Int32))) h)) ∧ (¬ (l4 = (((1 : Int32) <<< (l2 &&& 31)) - (1 : Int32))) → (Q (some (.int (0 : Int32))) h)))) ∧ (¬ (l3 = 0) → (Q (some (.int (0 : Int32))) h)))) ∧ (¬ (l5 < 0) → (¬ (10 : Int32) = 0 ∧ (¬ (10 : Int32) = 0 ∧ ((((l3 - l3 / (10 : Int32) * (10 : Int32)) - (1 : Int32)) < 0 → (Q (some (.int (0 : Int32))) h)) ∧ (¬ (((l3 - l3 / (10 : Int32) * (10 : Int32)) - (1 : Int32)) < 0) → ((((l3 - l3 / (10 : Int32) * (10 : Int32)) - (1 : Int32)) < l2 → (oK h l0 3 ∧ (∃ a9 : Nat, gR h l0 0 = some a9 ∧ (zC mX11_put [.ref a9, .int l5, .int ((l3 - l3 / (10 : Int32) * (10 : Int32)) - (1 : Int32))] h (fun r0 h10 => r0 = none ∧ (zX mX3_take 15 [.ref l0, .float 0, .int l2, .int (l3 / (10 : Int32)), .int (l4 ||| ((1 : Int32) <<< (((l3 - l3 / (10 : Int32) * (10 : Int32)) - (1 : Int32)) &&& 31))), .int (l5 + (-1)), .float 0] [] h10 Q)))))) ∧ (¬ (((l3 - l3 / (10 : Int32) * (10 : Int32)) - (1 : Int32)) < l2) → (Q (some (.int (0 : Int32))) h))))))))) : zX mX3_take 15 [.ref l0, .float 0, .int l2, .int l3, .int l4, .int l5, .float 0] [] h Q := by
  refine zX_seg (pc' := 17) (L' := [.ref l0, .float 0, .int l2, .int l3, .int l4, .int l5, .float 0]) (st' := [.int l5]) (h2 := h) rfl rfl (fun C Cr hc kk => x_iload C rfl dX3_take_15 (kk)) ?_
  refine zX_br (p1 := 72) (p2 := 20) (st' := []) (l5 < 0) (fun C kt kf => x_if_lt C 72 dX3_take_17 (by decide) kt kf) (fun q1 => ?_) (fun q1 => ?_)
  · replace H := H.1 q1
    refine zX_seg (pc' := 73) (L' := [.ref l0, .float 0, .int l2, .int l3, .int l4, .int l5, .float 0]) (st' := [.int l3]) (h2 := h) rfl rfl (fun C Cr hc kk => x_iload_n C rfl dX3_take_72 (kk)) ?_
    refine zX_br (p1 := 76) (p2 := 90) (st' := []) (l3 = 0) (fun C kt kf => x_if_ne C 90 dX3_take_73 (by decide) kf kt) (fun q2 => ?_) (fun q2 => ?_)
    · replace H := H.1 q2
      refine zX_seg (pc' := 83) (L' := [.ref l0, .float 0, .int l2, .int l3, .int l4, .int l5, .float 0]) (st' := [.int (((1 : Int32) <<< (l2 &&& 31)) - (1 : Int32)), .int l4]) (h2 := h) rfl rfl (fun C Cr hc kk => x_iload C rfl dX3_take_76 (x_iconst C (1 : Int32) (by decide) dX3_take_78 (x_iload_n C rfl dX3_take_79 (x_ishl C dX3_take_80 (x_iconst C (1 : Int32) (by decide) dX3_take_81 (x_isub C dX3_take_82 (kk))))))) ?_
      refine zX_br (p1 := 86) (p2 := 90) (st' := []) (l4 = (((1 : Int32) <<< (l2 &&& 31)) - (1 : Int32))) (fun C kt kf => x_icmp_ne C 90 dX3_take_83 (by decide) kf kt) (fun q3 => ?_) (fun q3 => ?_)
      · replace H := H.1 q3
        refine zX_seg (pc' := 91) (L' := [.ref l0, .float 0, .int l2, .int l3, .int l4, .int l5, .float 0]) (st' := [.int (1 : Int32)]) (h2 := h) rfl rfl (fun C Cr hc kk => x_iconst C (1 : Int32) (by decide) dX3_take_86 (x_goto C 91 dX3_take_87 (by decide) (kk))) ?_
        exact zX_ret (some (.int (1 : Int32))) (fun C Cr hc => x_iret C Cr rfl rfl hc dX3_take_91 ⟨rfl, rfl⟩) H
      · replace H := H.2 q3
        refine zX_seg (pc' := 91) (L' := [.ref l0, .float 0, .int l2, .int l3, .int l4, .int l5, .float 0]) (st' := [.int (0 : Int32)]) (h2 := h) rfl rfl (fun C Cr hc kk => x_iconst C (0 : Int32) (by decide) dX3_take_90 (kk)) ?_
        exact zX_ret (some (.int (0 : Int32))) (fun C Cr hc => x_iret C Cr rfl rfl hc dX3_take_91 ⟨rfl, rfl⟩) H
    · replace H := H.2 q2
      refine zX_seg (pc' := 91) (L' := [.ref l0, .float 0, .int l2, .int l3, .int l4, .int l5, .float 0]) (st' := [.int (0 : Int32)]) (h2 := h) rfl rfl (fun C Cr hc kk => x_iconst C (0 : Int32) (by decide) dX3_take_90 (kk)) ?_
      exact zX_ret (some (.int (0 : Int32))) (fun C Cr hc => x_iret C Cr rfl rfl hc dX3_take_91 ⟨rfl, rfl⟩) H
  · replace H := H.2 q1
    obtain ⟨g4, H⟩ := H
    obtain ⟨g5, H⟩ := H
    refine zX_seg (pc' := 35) (L' := [.ref l0, .float 0, .int l2, .int (l3 / (10 : Int32)), .int l4, .int l5, .int ((l3 - l3 / (10 : Int32) * (10 : Int32)) - (1 : Int32))]) (st' := [.int ((l3 - l3 / (10 : Int32) * (10 : Int32)) - (1 : Int32))]) (h2 := h) rfl rfl (fun C Cr hc kk => x_iload_n C rfl dX3_take_20 (x_bipush C (10 : Int32) (by decide) dX3_take_21 (x_irem C g4 dX3_take_23 (x_iconst C (1 : Int32) (by decide) dX3_take_24 (x_isub C dX3_take_25 (x_istore C (by decide) dX3_take_26 (x_iload_n C rfl dX3_take_28 (x_bipush C (10 : Int32) (by decide) dX3_take_29 (x_idiv C g5 dX3_take_31 (x_istore_n C (by decide) dX3_take_32 (x_iload C rfl dX3_take_33 (kk)))))))))))) ?_
    refine zX_br (p1 := 44) (p2 := 38) (st' := []) (((l3 - l3 / (10 : Int32) * (10 : Int32)) - (1 : Int32)) < 0) (fun C kt kf => x_if_lt C 44 dX3_take_35 (by decide) kt kf) (fun q6 => ?_) (fun q6 => ?_)
    · replace H := H.1 q6
      refine zX_seg (pc' := 45) (L' := [.ref l0, .float 0, .int l2, .int (l3 / (10 : Int32)), .int l4, .int l5, .int ((l3 - l3 / (10 : Int32) * (10 : Int32)) - (1 : Int32))]) (st' := [.int (0 : Int32)]) (h2 := h) rfl rfl (fun C Cr hc kk => x_iconst C (0 : Int32) (by decide) dX3_take_44 (kk)) ?_
      exact zX_ret (some (.int (0 : Int32))) (fun C Cr hc => x_iret C Cr rfl rfl hc dX3_take_45 ⟨rfl, rfl⟩) H
    · replace H := H.2 q6
      refine zX_seg (pc' := 41) (L' := [.ref l0, .float 0, .int l2, .int (l3 / (10 : Int32)), .int l4, .int l5, .int ((l3 - l3 / (10 : Int32) * (10 : Int32)) - (1 : Int32))]) (st' := [.int l2, .int ((l3 - l3 / (10 : Int32) * (10 : Int32)) - (1 : Int32))]) (h2 := h) rfl rfl (fun C Cr hc kk => x_iload C rfl dX3_take_38 (x_iload_n C rfl dX3_take_40 (kk))) ?_
      refine zX_br (p1 := 46) (p2 := 44) (st' := []) (((l3 - l3 / (10 : Int32) * (10 : Int32)) - (1 : Int32)) < l2) (fun C kt kf => x_icmp_lt C 46 dX3_take_41 (by decide) kt kf) (fun q7 => ?_) (fun q7 => ?_)
      · replace H := H.1 q7
        obtain ⟨g8, H⟩ := H
        obtain ⟨a9, ea9, H⟩ := H
        refine zX_seg (pc' := 63) (L' := [.ref l0, .float 0, .int l2, .int (l3 / (10 : Int32)), .int (l4 ||| ((1 : Int32) <<< (((l3 - l3 / (10 : Int32) * (10 : Int32)) - (1 : Int32)) &&& 31))), .int l5, .int ((l3 - l3 / (10 : Int32) * (10 : Int32)) - (1 : Int32))]) (st' := [.int ((l3 - l3 / (10 : Int32) * (10 : Int32)) - (1 : Int32)), .int l5, .ref a9]) (h2 := h) rfl rfl (fun C Cr hc kk => x_iload C rfl dX3_take_46 (x_iconst C (1 : Int32) (by decide) dX3_take_48 (x_iload C rfl dX3_take_49 (x_ishl C dX3_take_51 (x_ior C dX3_take_52 (x_istore C (by decide) dX3_take_53 (x_aload_n C (v := .ref l0) rfl rfl dX3_take_55 (f_getR1 C lX3_9 g8 rfl ea9 dX3_take_56 (x_iload C rfl dX3_take_59 (x_iload C rfl dX3_take_61 (kk))))))))))) ?_
        refine zX_call (as := [.ref a9, .int l5, .int ((l3 - l3 / (10 : Int32) * (10 : Int32)) - (1 : Int32))]) (st := []) (fun C hM hc kk => x_callSN C [.ref a9, .int l5, .int ((l3 - l3 / (10 : Int32) * (10 : Int32)) - (1 : Int32))] hM kX11_put sX11_put lX3_19 ⟨by decide, by decide⟩ rfl hc (Nat.le_of_ble_eq_true rfl) rfl dX3_take_63 kk) (zC.mono H ?_)
        rintro r0 h10 ⟨rfl, H⟩
        show zX mX3_take 66 [.ref l0, .float 0, .int l2, .int (l3 / (10 : Int32)), .int (l4 ||| ((1 : Int32) <<< (((l3 - l3 / (10 : Int32) * (10 : Int32)) - (1 : Int32)) &&& 31))), .int l5, .int ((l3 - l3 / (10 : Int32) * (10 : Int32)) - (1 : Int32))] [] h10 Q
        refine zX_seg (pc' := 15) (L' := [.ref l0, .float 0, .int l2, .int (l3 / (10 : Int32)), .int (l4 ||| ((1 : Int32) <<< (((l3 - l3 / (10 : Int32) * (10 : Int32)) - (1 : Int32)) &&& 31))), .int (l5 + (-1)), .int ((l3 - l3 / (10 : Int32) * (10 : Int32)) - (1 : Int32))]) (st' := []) (h2 := h10) rfl rfl (fun C Cr hc kk => x_iinc C (l5 + (-1)) rfl (congrArg (HAdd.hAdd _) (by decide)) (by decide) dX3_take_66 (x_goto C 15 dX3_take_69 (by decide) (kk))) ?_
        exact zX_wk (wkK (wkD (wkK (wkK (wkK (wkK (wkD wkN))))))) H
      · replace H := H.2 q7
        refine zX_seg (pc' := 45) (L' := [.ref l0, .float 0, .int l2, .int (l3 / (10 : Int32)), .int l4, .int l5, .int ((l3 - l3 / (10 : Int32) * (10 : Int32)) - (1 : Int32))]) (st' := [.int (0 : Int32)]) (h2 := h) rfl rfl (fun C Cr hc kk => x_iconst C (0 : Int32) (by decide) dX3_take_44 (kk)) ?_
        exact zX_ret (some (.int (0 : Int32))) (fun C Cr hc => x_iret C Cr rfl rfl hc dX3_take_45 ⟨rfl, rfl⟩) H
theorem nX3_take (t : Nat) (p0 : Int32) (p1 : Int32) (h : zH) (Q : Option Value → zH → Prop) (H : zX mX3_take 0 [.ref t, .int p0, .int p1, .float 0, .float 0, .float 0, .float 0] [] h Q) : zC mX3_take [.ref t, .int p0, .int p1] h Q := zC_of (by decide +kernel) (by simp) (Nat.le_of_ble_eq_true rfl) H
set_option maxHeartbeats 20000000 in
theorem bX3_roundsToRest_0 (t : Nat) (p0 : Nat) (p1 : Int32) (h : zH) (Q : Option Value → zH → Prop) (H : zX mX3_roundsToRest 8 [.ref t, .ref p0, .int p1, .int (0 : Int32), .int (-1 : Int32), .int (0 : Int32), .float 0, .float 0, .float 0] [] h Q) : zX mX3_roundsToRest 0 [.ref t, .ref p0, .int p1, .float 0, .float 0, .float 0, .float 0, .float 0, .float 0] [] h Q := by
  refine zX_seg (pc' := 8) (L' := [.ref t, .ref p0, .int p1, .int (0 : Int32), .int (-1 : Int32), .int (0 : Int32), .float 0, .float 0, .float 0]) (st' := []) (h2 := h) rfl rfl (fun C Cr hc kk => x_iconst C (0 : Int32) (by decide) dX3_roundsToRest_0 (x_istore_n C (by decide) dX3_roundsToRest_1 (x_iconst C (-1 : Int32) (by decide) dX3_roundsToRest_2 (x_istore C (by decide) dX3_roundsToRest_3 (x_iconst C (0 : Int32) (by decide) dX3_roundsToRest_5 (x_istore C (by decide) dX3_roundsToRest_6 (kk))))))) ?_
  exact zX_wk (wkK (wkK (wkK (wkK (wkK (wkK (wkD (wkD (wkD wkN))))))))) H
set_option maxHeartbeats 20000000 in
theorem bX3_roundsToRest_8 (l0 : Nat) (l1 : Nat) (l2 : Int32) (l3 : Int32) (l4 : Int32) (l5 : Int32) (h : zH) (Q : Option Value → zH → Prop) (H : (l2 < l5 → (Q (some (.int (-1 : Int32))) h)) ∧ (¬ (l2 < l5) → (zX mX3_roundsToRest 20 [.ref l0, .ref l1, .int l2, .int l3, .int l4, .int l5, .int l3, .int (0 : Int32), .float 0] [] h Q))) : zX mX3_roundsToRest 8 [.ref l0, .ref l1, .int l2, .int l3, .int l4, .int l5, .float 0, .float 0, .float 0] [] h Q := by
  refine zX_seg (pc' := 11) (L' := [.ref l0, .ref l1, .int l2, .int l3, .int l4, .int l5, .float 0, .float 0, .float 0]) (st' := [.int l2, .int l5]) (h2 := h) rfl rfl (fun C Cr hc kk => x_iload C rfl dX3_roundsToRest_8 (x_iload_n C rfl dX3_roundsToRest_10 (kk))) ?_
  refine zX_br (p1 := 108) (p2 := 14) (st' := []) (l2 < l5) (fun C kt kf => x_icmp_gt C 108 dX3_roundsToRest_11 (by decide) kt kf) (fun q1 => ?_) (fun q1 => ?_)
  · replace H := H.1 q1
    refine zX_seg (pc' := 109) (L' := [.ref l0, .ref l1, .int l2, .int l3, .int l4, .int l5, .float 0, .float 0, .float 0]) (st' := [.int (-1 : Int32)]) (h2 := h) rfl rfl (fun C Cr hc kk => x_iconst C (-1 : Int32) (by decide) dX3_roundsToRest_108 (kk)) ?_
    exact zX_ret (some (.int (-1 : Int32))) (fun C Cr hc => x_iret C Cr rfl rfl hc dX3_roundsToRest_109 ⟨rfl, rfl⟩) H
  · replace H := H.2 q1
    refine zX_seg (pc' := 20) (L' := [.ref l0, .ref l1, .int l2, .int l3, .int l4, .int l5, .int l3, .int (0 : Int32), .float 0]) (st' := []) (h2 := h) rfl rfl (fun C Cr hc kk => x_iload_n C rfl dX3_roundsToRest_14 (x_istore C (by decide) dX3_roundsToRest_15 (x_iconst C (0 : Int32) (by decide) dX3_roundsToRest_17 (x_istore C (by decide) dX3_roundsToRest_18 (kk))))) ?_
    exact zX_wk (wkK (wkK (wkK (wkK (wkK (wkK (wkK (wkK (wkD wkN))))))))) H
set_option maxHeartbeats 20000000 in
theorem bX3_roundsToRest_20 (l0 : Nat) (l1 : Nat) (l2 : Int32) (l3 : Int32) (l4 : Int32) (l5 : Int32) (l6 : Int32) (l7 : Int32) (h : zH) (Q : Option Value → zH → Prop) (H : oK h l0 3 ∧ (((gI h l0 1) ≤ l7 → ((l3 = l6 → (Q (some (.int l5)) h)) ∧ (¬ (l3 = l6) → ((l3 = l4 → (Q (some (.int (-1 : Int32))) h)) ∧ (¬ (l3 = l4) → (zC mJ6_bitCount_0f7a4 [.int l5] h (fun r0 h5 => ∃ x6 : Int32, r0 = some (.int x6) ∧ (((1 : Int32) < x6 → (zX mX3_roundsToRest 8 [.ref l0, .ref l1, .int l2, .int l3, .int l4, .int (l5 + 1), .float 0, .float 0, .float 0] [] h5 Q)) ∧ (¬ ((1 : Int32) < x6) → (zX mX3_roundsToRest 8 [.ref l0, .ref l1, .int l2, .int l3, .int l3, .int (l5 + 1), .float 0, .float 0, .float 0] [] h5 Q)))))))))) ∧ (¬ ((gI h l0 1) ≤ l7) → (∃ a8 : Nat, gR h l0 0 = some a8 ∧ (zC mX11_at [.ref a8, .int l7] h (fun r0 h9 => ∃ x10 : Int32, r0 = some (.int x10) ∧ (zC mX11_at [.ref l1, .int l3] h9 (fun r0 h11 => ∃ x12 : Int32, r0 = some (.int x12) ∧ (zX mX3_roundsToRest 20 [.ref l0, .ref l1, .int l2, .int ((l3 &&& (((3 : Int32) <<< (((2 : Int32) * (((gI h l0 1) - (1 : Int32)) - x10)) &&& 31)) ^^^ (-1 : Int32))) ||| (x12 &&& ((3 : Int32) <<< (((2 : Int32) * (((gI h l0 1) - (1 : Int32)) - x10)) &&& 31)))), .int l4, .int l5, .int l6, .int (l7 + 1), .float 0] [] h11 Q))))))))) : zX mX3_roundsToRest 20 [.ref l0, .ref l1, .int l2, .int l3, .int l4, .int l5, .int l6, .int l7, .float 0] [] h Q := by
  obtain ⟨g1, H⟩ := H
  refine zX_seg (pc' := 26) (L' := [.ref l0, .ref l1, .int l2, .int l3, .int l4, .int l5, .int l6, .int l7, .float 0]) (st' := [.int (gI h l0 1), .int l7]) (h2 := h) rfl rfl (fun C Cr hc kk => x_iload C rfl dX3_roundsToRest_20 (x_aload_n C (v := .ref l0) rfl rfl dX3_roundsToRest_22 (f_getI C lX3_15 g1 rfl dX3_roundsToRest_23 (kk)))) ?_
  refine zX_br (p1 := 73) (p2 := 29) (st' := []) ((gI h l0 1) ≤ l7) (fun C kt kf => x_icmp_ge C 73 dX3_roundsToRest_26 (by decide) kt kf) (fun q2 => ?_) (fun q2 => ?_)
  · replace H := H.1 q2
    refine zX_seg (pc' := 76) (L' := [.ref l0, .ref l1, .int l2, .int l3, .int l4, .int l5, .int l6, .int l7, .float 0]) (st' := [.int l6, .int l3]) (h2 := h) rfl rfl (fun C Cr hc kk => x_iload_n C rfl dX3_roundsToRest_73 (x_iload C rfl dX3_roundsToRest_74 (kk))) ?_
    refine zX_br (p1 := 79) (p2 := 82) (st' := []) (l3 = l6) (fun C kt kf => x_icmp_ne C 82 dX3_roundsToRest_76 (by decide) kf kt) (fun q3 => ?_) (fun q3 => ?_)
    · replace H := H.1 q3
      refine zX_seg (pc' := 81) (L' := [.ref l0, .ref l1, .int l2, .int l3, .int l4, .int l5, .int l6, .int l7, .float 0]) (st' := [.int l5]) (h2 := h) rfl rfl (fun C Cr hc kk => x_iload C rfl dX3_roundsToRest_79 (kk)) ?_
      exact zX_ret (some (.int l5)) (fun C Cr hc => x_iret C Cr rfl rfl hc dX3_roundsToRest_81 ⟨rfl, rfl⟩) H
    · replace H := H.2 q3
      refine zX_seg (pc' := 85) (L' := [.ref l0, .ref l1, .int l2, .int l3, .int l4, .int l5, .int l6, .int l7, .float 0]) (st' := [.int l4, .int l3]) (h2 := h) rfl rfl (fun C Cr hc kk => x_iload_n C rfl dX3_roundsToRest_82 (x_iload C rfl dX3_roundsToRest_83 (kk))) ?_
      refine zX_br (p1 := 88) (p2 := 90) (st' := []) (l3 = l4) (fun C kt kf => x_icmp_ne C 90 dX3_roundsToRest_85 (by decide) kf kt) (fun q4 => ?_) (fun q4 => ?_)
      · replace H := H.1 q4
        refine zX_seg (pc' := 89) (L' := [.ref l0, .ref l1, .int l2, .int l3, .int l4, .int l5, .int l6, .int l7, .float 0]) (st' := [.int (-1 : Int32)]) (h2 := h) rfl rfl (fun C Cr hc kk => x_iconst C (-1 : Int32) (by decide) dX3_roundsToRest_88 (kk)) ?_
        exact zX_ret (some (.int (-1 : Int32))) (fun C Cr hc => x_iret C Cr rfl rfl hc dX3_roundsToRest_89 ⟨rfl, rfl⟩) H
      · replace H := H.2 q4
        refine zX_seg (pc' := 92) (L' := [.ref l0, .ref l1, .int l2, .int l3, .int l4, .int l5, .int l6, .int l7, .float 0]) (st' := [.int l5]) (h2 := h) rfl rfl (fun C Cr hc kk => x_iload C rfl dX3_roundsToRest_90 (kk)) ?_
        refine zX_call (as := [.int l5]) (st := []) (fun C hM hc kk => x_callS C [.int l5] hM kJ6_bitCount_0f7a4 sJ6_bitCount_0f7a4 lX3_27 ⟨by decide, by decide⟩ rfl hc (Nat.le_of_ble_eq_true rfl) rfl dX3_roundsToRest_92 kk) (zC.mono H ?_)
        rintro r0 h5 ⟨x6, rfl, H⟩
        show zX mX3_roundsToRest 95 [.ref l0, .ref l1, .int l2, .int l3, .int l4, .int l5, .int l6, .int l7, .float 0] [.int x6] h5 Q
        refine zX_seg (pc' := 96) (L' := [.ref l0, .ref l1, .int l2, .int l3, .int l4, .int l5, .int l6, .int l7, .float 0]) (st' := [.int (1 : Int32), .int x6]) (h2 := h5) rfl rfl (fun C Cr hc kk => x_iconst C (1 : Int32) (by decide) dX3_roundsToRest_95 (kk)) ?_
        refine zX_br (p1 := 102) (p2 := 99) (st' := []) ((1 : Int32) < x6) (fun C kt kf => x_icmp_gt C 102 dX3_roundsToRest_96 (by decide) kt kf) (fun q7 => ?_) (fun q7 => ?_)
        · replace H := H.1 q7
          refine zX_seg (pc' := 8) (L' := [.ref l0, .ref l1, .int l2, .int l3, .int l4, .int (l5 + 1), .int l6, .int l7, .float 0]) (st' := []) (h2 := h5) rfl rfl (fun C Cr hc kk => x_iinc C (l5 + 1) rfl (congrArg (HAdd.hAdd _) (by decide)) (by decide) dX3_roundsToRest_102 (x_goto C 8 dX3_roundsToRest_105 (by decide) (kk))) ?_
          exact zX_wk (wkK (wkK (wkK (wkK (wkK (wkK (wkD (wkD (wkD wkN))))))))) H
        · replace H := H.2 q7
          refine zX_seg (pc' := 8) (L' := [.ref l0, .ref l1, .int l2, .int l3, .int l3, .int (l5 + 1), .int l6, .int l7, .float 0]) (st' := []) (h2 := h5) rfl rfl (fun C Cr hc kk => x_iload_n C rfl dX3_roundsToRest_99 (x_istore C (by decide) dX3_roundsToRest_100 (x_iinc C (l5 + 1) rfl (congrArg (HAdd.hAdd _) (by decide)) (by decide) dX3_roundsToRest_102 (x_goto C 8 dX3_roundsToRest_105 (by decide) (kk))))) ?_
          exact zX_wk (wkK (wkK (wkK (wkK (wkK (wkK (wkD (wkD (wkD wkN))))))))) H
  · replace H := H.2 q2
    obtain ⟨a8, ea8, H⟩ := H
    refine zX_seg (pc' := 43) (L' := [.ref l0, .ref l1, .int l2, .int l3, .int l4, .int l5, .int l6, .int l7, .float 0]) (st' := [.int l7, .ref a8, .int ((gI h l0 1) - (1 : Int32)), .int (2 : Int32), .int (3 : Int32)]) (h2 := h) rfl rfl (fun C Cr hc kk => x_iconst C (3 : Int32) (by decide) dX3_roundsToRest_29 (x_iconst C (2 : Int32) (by decide) dX3_roundsToRest_30 (x_aload_n C (v := .ref l0) rfl rfl dX3_roundsToRest_31 (f_getI C lX3_15 g1 rfl dX3_roundsToRest_32 (x_iconst C (1 : Int32) (by decide) dX3_roundsToRest_35 (x_isub C dX3_roundsToRest_36 (x_aload_n C (v := .ref l0) rfl rfl dX3_roundsToRest_37 (f_getR1 C lX3_9 g1 rfl ea8 dX3_roundsToRest_38 (x_iload C rfl dX3_roundsToRest_41 (kk)))))))))) ?_
    refine zX_call (as := [.ref a8, .int l7]) (st := [.int ((gI h l0 1) - (1 : Int32)), .int (2 : Int32), .int (3 : Int32)]) (fun C hM hc kk => x_callSN C [.ref a8, .int l7] hM kX11_at sX11_at lX3_23 ⟨by decide, by decide⟩ rfl hc (Nat.le_of_ble_eq_true rfl) rfl dX3_roundsToRest_43 kk) (zC.mono H ?_)
    rintro r0 h9 ⟨x10, rfl, H⟩
    show zX mX3_roundsToRest 46 [.ref l0, .ref l1, .int l2, .int l3, .int l4, .int l5, .int l6, .int l7, .float 0] [.int x10, .int ((gI h l0 1) - (1 : Int32)), .int (2 : Int32), .int (3 : Int32)] h9 Q
    refine zX_seg (pc' := 59) (L' := [.ref l0, .ref l1, .int l2, .int l3, .int l4, .int l5, .int l6, .int l7, .int ((3 : Int32) <<< (((2 : Int32) * (((gI h l0 1) - (1 : Int32)) - x10)) &&& 31))]) (st' := [.int l3, .ref l1, .int (l3 &&& (((3 : Int32) <<< (((2 : Int32) * (((gI h l0 1) - (1 : Int32)) - x10)) &&& 31)) ^^^ (-1 : Int32)))]) (h2 := h9) rfl rfl (fun C Cr hc kk => x_isub C dX3_roundsToRest_46 (x_imul C dX3_roundsToRest_47 (x_ishl C dX3_roundsToRest_48 (x_istore C (by decide) dX3_roundsToRest_49 (x_iload_n C rfl dX3_roundsToRest_51 (x_iload C rfl dX3_roundsToRest_52 (x_iconst C (-1 : Int32) (by decide) dX3_roundsToRest_54 (x_ixor C dX3_roundsToRest_55 (x_iand C dX3_roundsToRest_56 (x_aload_n C (v := .ref l1) rfl rfl dX3_roundsToRest_57 (x_iload_n C rfl dX3_roundsToRest_58 (kk)))))))))))) ?_
    refine zX_call (as := [.ref l1, .int l3]) (st := [.int (l3 &&& (((3 : Int32) <<< (((2 : Int32) * (((gI h l0 1) - (1 : Int32)) - x10)) &&& 31)) ^^^ (-1 : Int32)))]) (fun C hM hc kk => x_callSN C [.ref l1, .int l3] hM kX11_at sX11_at lX3_23 ⟨by decide, by decide⟩ rfl hc (Nat.le_of_ble_eq_true rfl) rfl dX3_roundsToRest_59 kk) (zC.mono H ?_)
    rintro r0 h11 ⟨x12, rfl, H⟩
    show zX mX3_roundsToRest 62 [.ref l0, .ref l1, .int l2, .int l3, .int l4, .int l5, .int l6, .int l7, .int ((3 : Int32) <<< (((2 : Int32) * (((gI h l0 1) - (1 : Int32)) - x10)) &&& 31))] [.int x12, .int (l3 &&& (((3 : Int32) <<< (((2 : Int32) * (((gI h l0 1) - (1 : Int32)) - x10)) &&& 31)) ^^^ (-1 : Int32)))] h11 Q
    refine zX_seg (pc' := 20) (L' := [.ref l0, .ref l1, .int l2, .int ((l3 &&& (((3 : Int32) <<< (((2 : Int32) * (((gI h l0 1) - (1 : Int32)) - x10)) &&& 31)) ^^^ (-1 : Int32))) ||| (x12 &&& ((3 : Int32) <<< (((2 : Int32) * (((gI h l0 1) - (1 : Int32)) - x10)) &&& 31)))), .int l4, .int l5, .int l6, .int (l7 + 1), .int ((3 : Int32) <<< (((2 : Int32) * (((gI h l0 1) - (1 : Int32)) - x10)) &&& 31))]) (st' := []) (h2 := h11) rfl rfl (fun C Cr hc kk => x_iload C rfl dX3_roundsToRest_62 (x_iand C dX3_roundsToRest_64 (x_ior C dX3_roundsToRest_65 (x_istore_n C (by decide) dX3_roundsToRest_66 (x_iinc C (l7 + 1) rfl (congrArg (HAdd.hAdd _) (by decide)) (by decide) dX3_roundsToRest_67 (x_goto C 20 dX3_roundsToRest_70 (by decide) (kk))))))) ?_
    exact zX_wk (wkK (wkK (wkK (wkK (wkK (wkK (wkK (wkK (wkD wkN))))))))) H
theorem nX3_roundsToRest (t : Nat) (p0 : Nat) (p1 : Int32) (h : zH) (Q : Option Value → zH → Prop) (H : zX mX3_roundsToRest 0 [.ref t, .ref p0, .int p1, .float 0, .float 0, .float 0, .float 0, .float 0, .float 0] [] h Q) : zC mX3_roundsToRest [.ref t, .ref p0, .int p1] h Q := zC_of (by decide +kernel) (by simp) (Nat.le_of_ble_eq_true rfl) H
set_option maxHeartbeats 20000000 in
theorem bX3_search_0 (t : Nat) (p0 : Nat) (p1 : Int32) (h : zH) (Q : Option Value → zH → Prop) (H : oK h t 3 ∧ (∀ h2 : zH, h2 = (pF h t 1 (.int p1)) → (∀ h4 : zH, h4 = (pF h2 t 2 (.int (-1 : Int32))) → (∀ h6 : zH, h6 = (pF h4 t 3 (.int (-1 : Int32))) → (zX mX3_search 20 [.ref t, .ref p0, .int p1, .int (1 : Int32), .int (0 : Int32), .float 0, .float 0] [] h6 Q))))) : zX mX3_search 0 [.ref t, .ref p0, .int p1, .float 0, .float 0, .float 0, .float 0] [] h Q := by
  obtain ⟨g1, H⟩ := H
  refine zX_seg (pc' := 5) (L' := [.ref t, .ref p0, .int p1, .float 0, .float 0, .float 0, .float 0]) (st' := []) (h2 := (pF h t 1 (.int p1))) rfl rfl (fun C Cr hc kk => x_aload_n C (v := .ref t) rfl rfl dX3_search_0 (x_iload_n C rfl dX3_search_1 (f_putI C lX3_15 tX3 nX3_1 g1 rfl rfl dX3_search_2 (kk)))) ?_
  obtain ⟨h2, eh2⟩ : ∃ y : zH, y = (pF h t 1 (.int p1)) := ⟨_, rfl⟩
  replace H := H h2 eh2
  rw [← eh2]
  have g3 : oK h2 t 3 := by rw [eh2]; exact oK_pF' g1 rfl rfl g1
  refine zX_seg (pc' := 10) (L' := [.ref t, .ref p0, .int p1, .float 0, .float 0, .float 0, .float 0]) (st' := []) (h2 := (pF h2 t 2 (.int (-1 : Int32)))) rfl rfl (fun C Cr hc kk => x_aload_n C (v := .ref t) rfl rfl dX3_search_5 (x_iconst C (-1 : Int32) (by decide) dX3_search_6 (f_putI C lX3_33 tX3 nX3_2 g3 rfl rfl dX3_search_7 (kk)))) ?_
  obtain ⟨h4, eh4⟩ : ∃ y : zH, y = (pF h2 t 2 (.int (-1 : Int32))) := ⟨_, rfl⟩
  replace H := H h4 eh4
  rw [← eh4]
  have g5 : oK h4 t 3 := by rw [eh4]; exact oK_pF' g3 rfl rfl g3
  refine zX_seg (pc' := 15) (L' := [.ref t, .ref p0, .int p1, .float 0, .float 0, .float 0, .float 0]) (st' := []) (h2 := (pF h4 t 3 (.int (-1 : Int32)))) rfl rfl (fun C Cr hc kk => x_aload_n C (v := .ref t) rfl rfl dX3_search_10 (x_iconst C (-1 : Int32) (by decide) dX3_search_11 (f_putI C lX3_36 tX3 nX3_3 g5 rfl rfl dX3_search_12 (kk)))) ?_
  obtain ⟨h6, eh6⟩ : ∃ y : zH, y = (pF h4 t 3 (.int (-1 : Int32))) := ⟨_, rfl⟩
  replace H := H h6 eh6
  rw [← eh6]
  have g7 : oK h6 t 3 := by rw [eh6]; exact oK_pF' g5 rfl rfl g5
  refine zX_seg (pc' := 20) (L' := [.ref t, .ref p0, .int p1, .int (1 : Int32), .int (0 : Int32), .float 0, .float 0]) (st' := []) (h2 := h6) rfl rfl (fun C Cr hc kk => x_iconst C (1 : Int32) (by decide) dX3_search_15 (x_istore_n C (by decide) dX3_search_16 (x_iconst C (0 : Int32) (by decide) dX3_search_17 (x_istore C (by decide) dX3_search_18 (kk))))) ?_
  exact zX_wk (wkK (wkK (wkK (wkK (wkK (wkD (wkD wkN))))))) H
set_option maxHeartbeats 20000000 in
theorem bX3_search_20 (l0 : Nat) (l1 : Nat) (l2 : Int32) (l3 : Int32) (l4 : Int32) (h : zH) (Q : Option Value → zH → Prop) (H : (l2 ≤ l4 → (zX mX3_search 53 [.ref l0, .ref l1, .float 0, .int l3, .int (0 : Int32), .float 0, .float 0] [] h Q)) ∧ (¬ (l2 ≤ l4) → (oK h l0 3 ∧ (∃ a3 : Nat, gR h l0 0 = some a3 ∧ (zC mX11_put [.ref a3, .int l4, .int l4] h (fun r0 h4 => r0 = none ∧ (zX mX3_search 20 [.ref l0, .ref l1, .int l2, .int (l3 * (l4 + (1 : Int32))), .int (l4 + 1), .float 0, .float 0] [] h4 Q))))))) : zX mX3_search 20 [.ref l0, .ref l1, .int l2, .int l3, .int l4, .float 0, .float 0] [] h Q := by
  refine zX_seg (pc' := 23) (L' := [.ref l0, .ref l1, .int l2, .int l3, .int l4, .float 0, .float 0]) (st' := [.int l2, .int l4]) (h2 := h) rfl rfl (fun C Cr hc kk => x_iload C rfl dX3_search_20 (x_iload_n C rfl dX3_search_22 (kk))) ?_
  refine zX_br (p1 := 50) (p2 := 26) (st' := []) (l2 ≤ l4) (fun C kt kf => x_icmp_ge C 50 dX3_search_23 (by decide) kt kf) (fun q1 => ?_) (fun q1 => ?_)
  · replace H := H.1 q1
    refine zX_seg (pc' := 53) (L' := [.ref l0, .ref l1, .int l2, .int l3, .int (0 : Int32), .float 0, .float 0]) (st' := []) (h2 := h) rfl rfl (fun C Cr hc kk => x_iconst C (0 : Int32) (by decide) dX3_search_50 (x_istore C (by decide) dX3_search_51 (kk))) ?_
    exact zX_wk (wkK (wkK (wkD (wkK (wkK (wkD (wkD wkN))))))) H
  · replace H := H.2 q1
    obtain ⟨g2, H⟩ := H
    obtain ⟨a3, ea3, H⟩ := H
    refine zX_seg (pc' := 34) (L' := [.ref l0, .ref l1, .int l2, .int l3, .int l4, .float 0, .float 0]) (st' := [.int l4, .int l4, .ref a3]) (h2 := h) rfl rfl (fun C Cr hc kk => x_aload_n C (v := .ref l0) rfl rfl dX3_search_26 (f_getR1 C lX3_9 g2 rfl ea3 dX3_search_27 (x_iload C rfl dX3_search_30 (x_iload C rfl dX3_search_32 (kk))))) ?_
    refine zX_call (as := [.ref a3, .int l4, .int l4]) (st := []) (fun C hM hc kk => x_callSN C [.ref a3, .int l4, .int l4] hM kX11_put sX11_put lX3_19 ⟨by decide, by decide⟩ rfl hc (Nat.le_of_ble_eq_true rfl) rfl dX3_search_34 kk) (zC.mono H ?_)
    rintro r0 h4 ⟨rfl, H⟩
    show zX mX3_search 37 [.ref l0, .ref l1, .int l2, .int l3, .int l4, .float 0, .float 0] [] h4 Q
    refine zX_seg (pc' := 20) (L' := [.ref l0, .ref l1, .int l2, .int (l3 * (l4 + (1 : Int32))), .int (l4 + 1), .float 0, .float 0]) (st' := []) (h2 := h4) rfl rfl (fun C Cr hc kk => x_iload_n C rfl dX3_search_37 (x_iload C rfl dX3_search_38 (x_iconst C (1 : Int32) (by decide) dX3_search_40 (x_iadd C dX3_search_41 (x_imul C dX3_search_42 (x_istore_n C (by decide) dX3_search_43 (x_iinc C (l4 + 1) rfl (congrArg (HAdd.hAdd _) (by decide)) (by decide) dX3_search_44 (x_goto C 20 dX3_search_47 (by decide) (kk))))))))) ?_
    exact zX_wk (wkK (wkK (wkK (wkK (wkK (wkD (wkD wkN))))))) H
set_option maxHeartbeats 20000000 in
theorem bX3_search_53 (l0 : Nat) (l1 : Nat) (l3 : Int32) (l4 : Int32) (h : zH) (Q : Option Value → zH → Prop) (H : (l3 ≤ l4 → (oK h l0 3 ∧ (∀ h3 : zH, h3 = (pF h l0 4 (.int (1 : Int32))) → (Q none h3)))) ∧ (¬ (l3 ≤ l4) → (oK h l0 3 ∧ (((gI h l0 2) = 0 → (∀ h7 : zH, h7 = (pF h l0 4 (.int (1 : Int32))) → (Q none h7))) ∧ (¬ ((gI h l0 2) = 0) → (((gI h l0 2) = (-1 : Int32) → (zX mX3_search 85 [.ref l0, .ref l1, .float 0, .int l3, .int l4, .float 0, .float 0] [.int (40 : Int32)] h Q)) ∧ (¬ ((gI h l0 2) = (-1 : Int32)) → (zX mX3_search 85 [.ref l0, .ref l1, .float 0, .int l3, .int l4, .float 0, .float 0] [.int ((gI h l0 2) - (1 : Int32))] h Q)))))))) : zX mX3_search 53 [.ref l0, .ref l1, .float 0, .int l3, .int l4, .float 0, .float 0] [] h Q := by
  refine zX_seg (pc' := 56) (L' := [.ref l0, .ref l1, .float 0, .int l3, .int l4, .float 0, .float 0]) (st' := [.int l3, .int l4]) (h2 := h) rfl rfl (fun C Cr hc kk => x_iload C rfl dX3_search_53 (x_iload_n C rfl dX3_search_55 (kk))) ?_
  refine zX_br (p1 := 126) (p2 := 59) (st' := []) (l3 ≤ l4) (fun C kt kf => x_icmp_ge C 126 dX3_search_56 (by decide) kt kf) (fun q1 => ?_) (fun q1 => ?_)
  · replace H := H.1 q1
    obtain ⟨g2, H⟩ := H
    refine zX_seg (pc' := 131) (L' := [.ref l0, .ref l1, .float 0, .int l3, .int l4, .float 0, .float 0]) (st' := []) (h2 := (pF h l0 4 (.int (1 : Int32)))) rfl rfl (fun C Cr hc kk => x_aload_n C (v := .ref l0) rfl rfl dX3_search_126 (x_iconst C (1 : Int32) (by decide) dX3_search_127 (f_putZ C lX3_49 tX3 nX3_4 g2 rfl rfl (Or.inr rfl) dX3_search_128 (kk)))) ?_
    obtain ⟨h3, eh3⟩ : ∃ y : zH, y = (pF h l0 4 (.int (1 : Int32))) := ⟨_, rfl⟩
    replace H := H h3 eh3
    rw [← eh3]
    have g4 : oK h3 l0 3 := by rw [eh3]; exact oK_pF' g2 rfl rfl g2
    exact zX_ret none (fun C Cr hc => x_ret C Cr rfl hc dX3_search_131 ⟨rfl, rfl⟩) H
  · replace H := H.2 q1
    obtain ⟨g5, H⟩ := H
    refine zX_seg (pc' := 63) (L' := [.ref l0, .ref l1, .float 0, .int l3, .int l4, .float 0, .float 0]) (st' := [.int (gI h l0 2)]) (h2 := h) rfl rfl (fun C Cr hc kk => x_aload_n C (v := .ref l0) rfl rfl dX3_search_59 (f_getI C lX3_33 g5 rfl dX3_search_60 (kk))) ?_
    refine zX_br (p1 := 126) (p2 := 66) (st' := []) ((gI h l0 2) = 0) (fun C kt kf => x_if_eq C 126 dX3_search_63 (by decide) kt kf) (fun q6 => ?_) (fun q6 => ?_)
    · replace H := H.1 q6
      refine zX_seg (pc' := 131) (L' := [.ref l0, .ref l1, .float 0, .int l3, .int l4, .float 0, .float 0]) (st' := []) (h2 := (pF h l0 4 (.int (1 : Int32)))) rfl rfl (fun C Cr hc kk => x_aload_n C (v := .ref l0) rfl rfl dX3_search_126 (x_iconst C (1 : Int32) (by decide) dX3_search_127 (f_putZ C lX3_49 tX3 nX3_4 g5 rfl rfl (Or.inr rfl) dX3_search_128 (kk)))) ?_
      obtain ⟨h7, eh7⟩ : ∃ y : zH, y = (pF h l0 4 (.int (1 : Int32))) := ⟨_, rfl⟩
      replace H := H h7 eh7
      rw [← eh7]
      have g8 : oK h7 l0 3 := by rw [eh7]; exact oK_pF' g5 rfl rfl g5
      exact zX_ret none (fun C Cr hc => x_ret C Cr rfl hc dX3_search_131 ⟨rfl, rfl⟩) H
    · replace H := H.2 q6
      refine zX_seg (pc' := 71) (L' := [.ref l0, .ref l1, .float 0, .int l3, .int l4, .float 0, .float 0]) (st' := [.int (-1 : Int32), .int (gI h l0 2)]) (h2 := h) rfl rfl (fun C Cr hc kk => x_aload_n C (v := .ref l0) rfl rfl dX3_search_66 (f_getI C lX3_33 g5 rfl dX3_search_67 (x_iconst C (-1 : Int32) (by decide) dX3_search_70 (kk)))) ?_
      refine zX_br (p1 := 74) (p2 := 79) (st' := []) ((gI h l0 2) = (-1 : Int32)) (fun C kt kf => x_icmp_ne C 79 dX3_search_71 (by decide) kf kt) (fun q9 => ?_) (fun q9 => ?_)
      · replace H := H.1 q9
        refine zX_seg (pc' := 85) (L' := [.ref l0, .ref l1, .float 0, .int l3, .int l4, .float 0, .float 0]) (st' := [.int (40 : Int32)]) (h2 := h) rfl rfl (fun C Cr hc kk => x_bipush C (40 : Int32) (by decide) dX3_search_74 (x_goto C 85 dX3_search_76 (by decide) (kk))) ?_
        exact zX_wk (wkK (wkK (wkD (wkK (wkK (wkD (wkD wkN))))))) H
      · replace H := H.2 q9
        refine zX_seg (pc' := 85) (L' := [.ref l0, .ref l1, .float 0, .int l3, .int l4, .float 0, .float 0]) (st' := [.int ((gI h l0 2) - (1 : Int32))]) (h2 := h) rfl rfl (fun C Cr hc kk => x_aload_n C (v := .ref l0) rfl rfl dX3_search_79 (f_getI C lX3_33 g5 rfl dX3_search_80 (x_iconst C (1 : Int32) (by decide) dX3_search_83 (x_isub C dX3_search_84 (kk))))) ?_
        exact zX_wk (wkK (wkK (wkD (wkK (wkK (wkD (wkD wkN))))))) H
set_option maxHeartbeats 20000000 in
theorem bX3_search_85 (l0 : Nat) (l1 : Nat) (l3 : Int32) (l4 : Int32) (s0 : Int32) (h : zH) (Q : Option Value → zH → Prop) (H : oK h l0 3 ∧ (zC mX3_roundsToRest [.ref l0, .ref l1, .int s0] h (fun r0 h2 => ∃ x3 : Int32, r0 = some (.int x3) ∧ ((x3 = (-1 : Int32) → (oK h2 l0 3 ∧ (zC mX3_goOn [.ref l0] h2 (fun r0 h6 => r0 = none ∧ (zX mX3_search 53 [.ref l0, .ref l1, .float 0, .int l3, .int (l4 + 1), .float 0, .float 0] [] h6 Q))))) ∧ (¬ (x3 = (-1 : Int32)) → (oK h2 l0 3 ∧ (∀ h8 : zH, h8 = (pF h2 l0 2 (.int x3)) → (zC mX3_digits [.ref l0] h8 (fun r0 h10 => ∃ x11 : Int32, r0 = some (.int x11) ∧ (oK h10 l0 3 ∧ (∀ h13 : zH, h13 = (pF h10 l0 3 (.int x11)) → (zC mX3_goOn [.ref l0] h13 (fun r0 h15 => r0 = none ∧ (zX mX3_search 53 [.ref l0, .ref l1, .float 0, .int l3, .int (l4 + 1), .float 0, .float 0] [] h15 Q)))))))))))))) : zX mX3_search 85 [.ref l0, .ref l1, .float 0, .int l3, .int l4, .float 0, .float 0] [.int s0] h Q := by
  refine zX_seg (pc' := 91) (L' := [.ref l0, .ref l1, .float 0, .int l3, .int l4, .int s0, .float 0]) (st' := [.int s0, .ref l1, .ref l0]) (h2 := h) rfl rfl (fun C Cr hc kk => x_istore C (by decide) dX3_search_85 (x_aload_n C (v := .ref l0) rfl rfl dX3_search_87 (x_aload_n C (v := .ref l1) rfl rfl dX3_search_88 (x_iload C rfl dX3_search_89 (kk))))) ?_
  obtain ⟨g1, H⟩ := H
  refine zX_call (as := [.ref l0, .ref l1, .int s0]) (st := []) (fun C hM hc kk => f_callV C [.ref l1, .int s0] hM kX3_roundsToRest vX3_roundsToRest lX3_39 ⟨by decide, by decide⟩ (rfl : vwCl[3]? = some (RX3, TX3, 5)) g1 rfl hc (Nat.le_of_ble_eq_true rfl) rfl dX3_search_91 kk) (zC.mono H ?_)
  rintro r0 h2 ⟨x3, rfl, H⟩
  show zX mX3_search 94 [.ref l0, .ref l1, .float 0, .int l3, .int l4, .int s0, .float 0] [.int x3] h2 Q
  refine zX_seg (pc' := 99) (L' := [.ref l0, .ref l1, .float 0, .int l3, .int l4, .int s0, .int x3]) (st' := [.int (-1 : Int32), .int x3]) (h2 := h2) rfl rfl (fun C Cr hc kk => x_istore C (by decide) dX3_search_94 (x_iload C rfl dX3_search_96 (x_iconst C (-1 : Int32) (by decide) dX3_search_98 (kk)))) ?_
  refine zX_br (p1 := 116) (p2 := 102) (st' := []) (x3 = (-1 : Int32)) (fun C kt kf => x_icmp_eq C 116 dX3_search_99 (by decide) kt kf) (fun q4 => ?_) (fun q4 => ?_)
  · replace H := H.1 q4
    refine zX_seg (pc' := 117) (L' := [.ref l0, .ref l1, .float 0, .int l3, .int l4, .int s0, .int x3]) (st' := [.ref l0]) (h2 := h2) rfl rfl (fun C Cr hc kk => x_aload_n C (v := .ref l0) rfl rfl dX3_search_116 (kk)) ?_
    obtain ⟨g5, H⟩ := H
    refine zX_call (as := [.ref l0]) (st := []) (fun C hM hc kk => f_callV C [] hM kX3_goOn vX3_goOn lX3_46 ⟨by decide, by decide⟩ (rfl : vwCl[3]? = some (RX3, TX3, 5)) g5 rfl hc (Nat.le_of_ble_eq_true rfl) rfl dX3_search_117 kk) (zC.mono H ?_)
    rintro r0 h6 ⟨rfl, H⟩
    show zX mX3_search 120 [.ref l0, .ref l1, .float 0, .int l3, .int l4, .int s0, .int x3] [] h6 Q
    refine zX_seg (pc' := 53) (L' := [.ref l0, .ref l1, .float 0, .int l3, .int (l4 + 1), .int s0, .int x3]) (st' := []) (h2 := h6) rfl rfl (fun C Cr hc kk => x_iinc C (l4 + 1) rfl (congrArg (HAdd.hAdd _) (by decide)) (by decide) dX3_search_120 (x_goto C 53 dX3_search_123 (by decide) (kk))) ?_
    exact zX_wk (wkK (wkK (wkD (wkK (wkK (wkD (wkD wkN))))))) H
  · replace H := H.2 q4
    obtain ⟨g7, H⟩ := H
    refine zX_seg (pc' := 108) (L' := [.ref l0, .ref l1, .float 0, .int l3, .int l4, .int s0, .int x3]) (st' := []) (h2 := (pF h2 l0 2 (.int x3))) rfl rfl (fun C Cr hc kk => x_aload_n C (v := .ref l0) rfl rfl dX3_search_102 (x_iload C rfl dX3_search_103 (f_putI C lX3_33 tX3 nX3_2 g7 rfl rfl dX3_search_105 (kk)))) ?_
    obtain ⟨h8, eh8⟩ : ∃ y : zH, y = (pF h2 l0 2 (.int x3)) := ⟨_, rfl⟩
    replace H := H h8 eh8
    rw [← eh8]
    have g9 : oK h8 l0 3 := by rw [eh8]; exact oK_pF' g7 rfl rfl g7
    refine zX_seg (pc' := 110) (L' := [.ref l0, .ref l1, .float 0, .int l3, .int l4, .int s0, .int x3]) (st' := [.ref l0, .ref l0]) (h2 := h8) rfl rfl (fun C Cr hc kk => x_aload_n C (v := .ref l0) rfl rfl dX3_search_108 (x_aload_n C (v := .ref l0) rfl rfl dX3_search_109 (kk))) ?_
    refine zX_call (as := [.ref l0]) (st := [.ref l0]) (fun C hM hc kk => f_callV C [] hM kX3_digits vX3_digits lX3_42 ⟨by decide, by decide⟩ (rfl : vwCl[3]? = some (RX3, TX3, 5)) g9 rfl hc (Nat.le_of_ble_eq_true rfl) rfl dX3_search_110 kk) (zC.mono H ?_)
    rintro r0 h10 ⟨x11, rfl, H⟩
    show zX mX3_search 113 [.ref l0, .ref l1, .float 0, .int l3, .int l4, .int s0, .int x3] [.int x11, .ref l0] h10 Q
    obtain ⟨g12, H⟩ := H
    refine zX_seg (pc' := 116) (L' := [.ref l0, .ref l1, .float 0, .int l3, .int l4, .int s0, .int x3]) (st' := []) (h2 := (pF h10 l0 3 (.int x11))) rfl rfl (fun C Cr hc kk => f_putI C lX3_36 tX3 nX3_3 g12 rfl rfl dX3_search_113 (kk)) ?_
    obtain ⟨h13, eh13⟩ : ∃ y : zH, y = (pF h10 l0 3 (.int x11)) := ⟨_, rfl⟩
    replace H := H h13 eh13
    rw [← eh13]
    have g14 : oK h13 l0 3 := by rw [eh13]; exact oK_pF' g12 rfl rfl g12
    refine zX_seg (pc' := 117) (L' := [.ref l0, .ref l1, .float 0, .int l3, .int l4, .int s0, .int x3]) (st' := [.ref l0]) (h2 := h13) rfl rfl (fun C Cr hc kk => x_aload_n C (v := .ref l0) rfl rfl dX3_search_116 (kk)) ?_
    refine zX_call (as := [.ref l0]) (st := []) (fun C hM hc kk => f_callV C [] hM kX3_goOn vX3_goOn lX3_46 ⟨by decide, by decide⟩ (rfl : vwCl[3]? = some (RX3, TX3, 5)) g14 rfl hc (Nat.le_of_ble_eq_true rfl) rfl dX3_search_117 kk) (zC.mono H ?_)
    rintro r0 h15 ⟨rfl, H⟩
    show zX mX3_search 120 [.ref l0, .ref l1, .float 0, .int l3, .int l4, .int s0, .int x3] [] h15 Q
    refine zX_seg (pc' := 53) (L' := [.ref l0, .ref l1, .float 0, .int l3, .int (l4 + 1), .int s0, .int x3]) (st' := []) (h2 := h15) rfl rfl (fun C Cr hc kk => x_iinc C (l4 + 1) rfl (congrArg (HAdd.hAdd _) (by decide)) (by decide) dX3_search_120 (x_goto C 53 dX3_search_123 (by decide) (kk))) ?_
    exact zX_wk (wkK (wkK (wkD (wkK (wkK (wkD (wkD wkN))))))) H
theorem nX3_search (t : Nat) (p0 : Nat) (p1 : Int32) (h : zH) (Q : Option Value → zH → Prop) (H : zX mX3_search 0 [.ref t, .ref p0, .int p1, .float 0, .float 0, .float 0, .float 0] [] h Q) : zC mX3_search [.ref t, .ref p0, .int p1] h Q := zC_of (by decide +kernel) (by simp) (Nat.le_of_ble_eq_true rfl) H
set_option maxHeartbeats 20000000 in
theorem bX3_digits_0 (t : Nat) (h : zH) (Q : Option Value → zH → Prop) (H : zX mX3_digits 4 [.ref t, .int (0 : Int32), .int (0 : Int32)] [] h Q) : zX mX3_digits 0 [.ref t, .float 0, .float 0] [] h Q := by
  refine zX_seg (pc' := 4) (L' := [.ref t, .int (0 : Int32), .int (0 : Int32)]) (st' := []) (h2 := h) rfl rfl (fun C Cr hc kk => x_iconst C (0 : Int32) (by decide) dX3_digits_0 (x_istore_n C (by decide) dX3_digits_1 (x_iconst C (0 : Int32) (by decide) dX3_digits_2 (x_istore_n C (by decide) dX3_digits_3 (kk))))) ?_
  exact zX_wk (wkK (wkK (wkK wkN))) H
set_option maxHeartbeats 20000000 in
theorem bX3_digits_4 (l0 : Nat) (l1 : Int32) (l2 : Int32) (h : zH) (Q : Option Value → zH → Prop) (H : oK h l0 3 ∧ (((gI h l0 1) ≤ l2 → (Q (some (.int l1)) h)) ∧ (¬ ((gI h l0 1) ≤ l2) → (∃ a3 : Nat, gR h l0 0 = some a3 ∧ (zC mX11_at [.ref a3, .int l2] h (fun r0 h4 => ∃ x5 : Int32, r0 = some (.int x5) ∧ (zX mX3_digits 4 [.ref l0, .int (((l1 * (10 : Int32)) + x5) + (1 : Int32)), .int (l2 + 1)] [] h4 Q))))))) : zX mX3_digits 4 [.ref l0, .int l1, .int l2] [] h Q := by
  obtain ⟨g1, H⟩ := H
  refine zX_seg (pc' := 9) (L' := [.ref l0, .int l1, .int l2]) (st' := [.int (gI h l0 1), .int l2]) (h2 := h) rfl rfl (fun C Cr hc kk => x_iload_n C rfl dX3_digits_4 (x_aload_n C (v := .ref l0) rfl rfl dX3_digits_5 (f_getI C lX3_15 g1 rfl dX3_digits_6 (kk)))) ?_
  refine zX_br (p1 := 34) (p2 := 12) (st' := []) ((gI h l0 1) ≤ l2) (fun C kt kf => x_icmp_ge C 34 dX3_digits_9 (by decide) kt kf) (fun q2 => ?_) (fun q2 => ?_)
  · replace H := H.1 q2
    refine zX_seg (pc' := 35) (L' := [.ref l0, .int l1, .int l2]) (st' := [.int l1]) (h2 := h) rfl rfl (fun C Cr hc kk => x_iload_n C rfl dX3_digits_34 (kk)) ?_
    exact zX_ret (some (.int l1)) (fun C Cr hc => x_iret C Cr rfl rfl hc dX3_digits_35 ⟨rfl, rfl⟩) H
  · replace H := H.2 q2
    obtain ⟨a3, ea3, H⟩ := H
    refine zX_seg (pc' := 21) (L' := [.ref l0, .int l1, .int l2]) (st' := [.int l2, .ref a3, .int (l1 * (10 : Int32))]) (h2 := h) rfl rfl (fun C Cr hc kk => x_iload_n C rfl dX3_digits_12 (x_bipush C (10 : Int32) (by decide) dX3_digits_13 (x_imul C dX3_digits_15 (x_aload_n C (v := .ref l0) rfl rfl dX3_digits_16 (f_getR1 C lX3_9 g1 rfl ea3 dX3_digits_17 (x_iload_n C rfl dX3_digits_20 (kk))))))) ?_
    refine zX_call (as := [.ref a3, .int l2]) (st := [.int (l1 * (10 : Int32))]) (fun C hM hc kk => x_callSN C [.ref a3, .int l2] hM kX11_at sX11_at lX3_23 ⟨by decide, by decide⟩ rfl hc (Nat.le_of_ble_eq_true rfl) rfl dX3_digits_21 kk) (zC.mono H ?_)
    rintro r0 h4 ⟨x5, rfl, H⟩
    show zX mX3_digits 24 [.ref l0, .int l1, .int l2] [.int x5, .int (l1 * (10 : Int32))] h4 Q
    refine zX_seg (pc' := 4) (L' := [.ref l0, .int (((l1 * (10 : Int32)) + x5) + (1 : Int32)), .int (l2 + 1)]) (st' := []) (h2 := h4) rfl rfl (fun C Cr hc kk => x_iadd C dX3_digits_24 (x_iconst C (1 : Int32) (by decide) dX3_digits_25 (x_iadd C dX3_digits_26 (x_istore_n C (by decide) dX3_digits_27 (x_iinc C (l2 + 1) rfl (congrArg (HAdd.hAdd _) (by decide)) (by decide) dX3_digits_28 (x_goto C 4 dX3_digits_31 (by decide) (kk))))))) ?_
    exact zX_wk (wkK (wkK (wkK wkN))) H
theorem nX3_digits (t : Nat) (h : zH) (Q : Option Value → zH → Prop) (H : zX mX3_digits 0 [.ref t, .float 0, .float 0] [] h Q) : zC mX3_digits [.ref t] h Q := zC_of (by decide +kernel) (by simp) (Nat.le_of_ble_eq_true rfl) H
set_option maxHeartbeats 20000000 in
theorem bX3_goOn_0 (t : Nat) (h : zH) (Q : Option Value → zH → Prop) (H : oK h t 3 ∧ (zX mX3_goOn 7 [.ref t, .int ((gI h t 1) - (2 : Int32)), .float 0, .float 0, .float 0] [] h Q)) : zX mX3_goOn 0 [.ref t, .float 0, .float 0, .float 0, .float 0] [] h Q := by
  obtain ⟨g1, H⟩ := H
  refine zX_seg (pc' := 7) (L' := [.ref t, .int ((gI h t 1) - (2 : Int32)), .float 0, .float 0, .float 0]) (st' := []) (h2 := h) rfl rfl (fun C Cr hc kk => x_aload_n C (v := .ref t) rfl rfl dX3_goOn_0 (f_getI C lX3_15 g1 rfl dX3_goOn_1 (x_iconst C (2 : Int32) (by decide) dX3_goOn_4 (x_isub C dX3_goOn_5 (x_istore_n C (by decide) dX3_goOn_6 (kk)))))) ?_
  exact zX_wk (wkK (wkK (wkD (wkD (wkD wkN))))) H
set_option maxHeartbeats 20000000 in
theorem bX3_goOn_7 (l0 : Nat) (l1 : Int32) (h : zH) (Q : Option Value → zH → Prop) (H : (l1 < 0 → ((0 ≤ l1 → (oK h l0 3 ∧ (zX mX3_goOn 50 [.ref l0, .int l1, .int ((gI h l0 1) - (1 : Int32)), .float 0, .float 0] [] h Q))) ∧ (¬ (0 ≤ l1) → (Q none h)))) ∧ (¬ (l1 < 0) → (oK h l0 3 ∧ (∃ a5 : Nat, gR h l0 0 = some a5 ∧ (zC mX11_at [.ref a5, .int l1] h (fun r0 h6 => ∃ x7 : Int32, r0 = some (.int x7) ∧ (oK h6 l0 3 ∧ (∃ a9 : Nat, gR h6 l0 0 = some a9 ∧ (zC mX11_at [.ref a9, .int (l1 + (1 : Int32))] h6 (fun r0 h10 => ∃ x11 : Int32, r0 = some (.int x11) ∧ ((x7 ≤ x11 → ((0 ≤ l1 → (oK h10 l0 3 ∧ (zX mX3_goOn 50 [.ref l0, .int l1, .int ((gI h10 l0 1) - (1 : Int32)), .float 0, .float 0] [] h10 Q))) ∧ (¬ (0 ≤ l1) → (Q none h10)))) ∧ (¬ (x7 ≤ x11) → (zX mX3_goOn 7 [.ref l0, .int (l1 + (-1)), .float 0, .float 0, .float 0] [] h10 Q))))))))))))) : zX mX3_goOn 7 [.ref l0, .int l1, .float 0, .float 0, .float 0] [] h Q := by
  refine zX_seg (pc' := 8) (L' := [.ref l0, .int l1, .float 0, .float 0, .float 0]) (st' := [.int l1]) (h2 := h) rfl rfl (fun C Cr hc kk => x_iload_n C rfl dX3_goOn_7 (kk)) ?_
  refine zX_br (p1 := 38) (p2 := 11) (st' := []) (l1 < 0) (fun C kt kf => x_if_lt C 38 dX3_goOn_8 (by decide) kt kf) (fun q1 => ?_) (fun q1 => ?_)
  · replace H := H.1 q1
    refine zX_seg (pc' := 39) (L' := [.ref l0, .int l1, .float 0, .float 0, .float 0]) (st' := [.int l1]) (h2 := h) rfl rfl (fun C Cr hc kk => x_iload_n C rfl dX3_goOn_38 (kk)) ?_
    refine zX_br (p1 := 43) (p2 := 42) (st' := []) (0 ≤ l1) (fun C kt kf => x_if_ge C 43 dX3_goOn_39 (by decide) kt kf) (fun q2 => ?_) (fun q2 => ?_)
    · replace H := H.1 q2
      obtain ⟨g3, H⟩ := H
      refine zX_seg (pc' := 50) (L' := [.ref l0, .int l1, .int ((gI h l0 1) - (1 : Int32)), .float 0, .float 0]) (st' := []) (h2 := h) rfl rfl (fun C Cr hc kk => x_aload_n C (v := .ref l0) rfl rfl dX3_goOn_43 (f_getI C lX3_15 g3 rfl dX3_goOn_44 (x_iconst C (1 : Int32) (by decide) dX3_goOn_47 (x_isub C dX3_goOn_48 (x_istore_n C (by decide) dX3_goOn_49 (kk)))))) ?_
      exact zX_wk (wkK (wkK (wkK (wkD (wkD wkN))))) H
    · replace H := H.2 q2
      exact zX_ret none (fun C Cr hc => x_ret C Cr rfl hc dX3_goOn_42 ⟨rfl, rfl⟩) H
  · replace H := H.2 q1
    obtain ⟨g4, H⟩ := H
    obtain ⟨a5, ea5, H⟩ := H
    refine zX_seg (pc' := 16) (L' := [.ref l0, .int l1, .float 0, .float 0, .float 0]) (st' := [.int l1, .ref a5]) (h2 := h) rfl rfl (fun C Cr hc kk => x_aload_n C (v := .ref l0) rfl rfl dX3_goOn_11 (f_getR1 C lX3_9 g4 rfl ea5 dX3_goOn_12 (x_iload_n C rfl dX3_goOn_15 (kk)))) ?_
    refine zX_call (as := [.ref a5, .int l1]) (st := []) (fun C hM hc kk => x_callSN C [.ref a5, .int l1] hM kX11_at sX11_at lX3_23 ⟨by decide, by decide⟩ rfl hc (Nat.le_of_ble_eq_true rfl) rfl dX3_goOn_16 kk) (zC.mono H ?_)
    rintro r0 h6 ⟨x7, rfl, H⟩
    show zX mX3_goOn 19 [.ref l0, .int l1, .float 0, .float 0, .float 0] [.int x7] h6 Q
    obtain ⟨g8, H⟩ := H
    obtain ⟨a9, ea9, H⟩ := H
    refine zX_seg (pc' := 26) (L' := [.ref l0, .int l1, .float 0, .float 0, .float 0]) (st' := [.int (l1 + (1 : Int32)), .ref a9, .int x7]) (h2 := h6) rfl rfl (fun C Cr hc kk => x_aload_n C (v := .ref l0) rfl rfl dX3_goOn_19 (f_getR1 C lX3_9 g8 rfl ea9 dX3_goOn_20 (x_iload_n C rfl dX3_goOn_23 (x_iconst C (1 : Int32) (by decide) dX3_goOn_24 (x_iadd C dX3_goOn_25 (kk)))))) ?_
    refine zX_call (as := [.ref a9, .int (l1 + (1 : Int32))]) (st := [.int x7]) (fun C hM hc kk => x_callSN C [.ref a9, .int (l1 + (1 : Int32))] hM kX11_at sX11_at lX3_23 ⟨by decide, by decide⟩ rfl hc (Nat.le_of_ble_eq_true rfl) rfl dX3_goOn_26 kk) (zC.mono H ?_)
    rintro r0 h10 ⟨x11, rfl, H⟩
    show zX mX3_goOn 29 [.ref l0, .int l1, .float 0, .float 0, .float 0] [.int x11, .int x7] h10 Q
    refine zX_br (p1 := 38) (p2 := 32) (st' := []) (x7 ≤ x11) (fun C kt kf => x_icmp_le C 38 dX3_goOn_29 (by decide) kt kf) (fun q12 => ?_) (fun q12 => ?_)
    · replace H := H.1 q12
      refine zX_seg (pc' := 39) (L' := [.ref l0, .int l1, .float 0, .float 0, .float 0]) (st' := [.int l1]) (h2 := h10) rfl rfl (fun C Cr hc kk => x_iload_n C rfl dX3_goOn_38 (kk)) ?_
      refine zX_br (p1 := 43) (p2 := 42) (st' := []) (0 ≤ l1) (fun C kt kf => x_if_ge C 43 dX3_goOn_39 (by decide) kt kf) (fun q13 => ?_) (fun q13 => ?_)
      · replace H := H.1 q13
        obtain ⟨g14, H⟩ := H
        refine zX_seg (pc' := 50) (L' := [.ref l0, .int l1, .int ((gI h10 l0 1) - (1 : Int32)), .float 0, .float 0]) (st' := []) (h2 := h10) rfl rfl (fun C Cr hc kk => x_aload_n C (v := .ref l0) rfl rfl dX3_goOn_43 (f_getI C lX3_15 g14 rfl dX3_goOn_44 (x_iconst C (1 : Int32) (by decide) dX3_goOn_47 (x_isub C dX3_goOn_48 (x_istore_n C (by decide) dX3_goOn_49 (kk)))))) ?_
        exact zX_wk (wkK (wkK (wkK (wkD (wkD wkN))))) H
      · replace H := H.2 q13
        exact zX_ret none (fun C Cr hc => x_ret C Cr rfl hc dX3_goOn_42 ⟨rfl, rfl⟩) H
    · replace H := H.2 q12
      refine zX_seg (pc' := 7) (L' := [.ref l0, .int (l1 + (-1)), .float 0, .float 0, .float 0]) (st' := []) (h2 := h10) rfl rfl (fun C Cr hc kk => x_iinc C (l1 + (-1)) rfl (congrArg (HAdd.hAdd _) (by decide)) (by decide) dX3_goOn_32 (x_goto C 7 dX3_goOn_35 (by decide) (kk))) ?_
      exact zX_wk (wkK (wkK (wkD (wkD (wkD wkN))))) H
set_option maxHeartbeats 20000000 in
theorem bX3_goOn_50 (l0 : Nat) (l1 : Int32) (l2 : Int32) (h : zH) (Q : Option Value → zH → Prop) (H : (l2 ≤ l1 → (zX mX3_goOn 80 [.ref l0, .int l1, .int l2, .float 0, .float 0] [] h Q)) ∧ (¬ (l2 ≤ l1) → (oK h l0 3 ∧ (∃ a3 : Nat, gR h l0 0 = some a3 ∧ (zC mX11_at [.ref a3, .int l2] h (fun r0 h4 => ∃ x5 : Int32, r0 = some (.int x5) ∧ (oK h4 l0 3 ∧ (∃ a7 : Nat, gR h4 l0 0 = some a7 ∧ (zC mX11_at [.ref a7, .int l1] h4 (fun r0 h8 => ∃ x9 : Int32, r0 = some (.int x9) ∧ ((x9 ≤ x5 → (zX mX3_goOn 80 [.ref l0, .int l1, .int l2, .float 0, .float 0] [] h8 Q)) ∧ (¬ (x9 ≤ x5) → (zX mX3_goOn 50 [.ref l0, .int l1, .int (l2 + (-1)), .float 0, .float 0] [] h8 Q))))))))))))) : zX mX3_goOn 50 [.ref l0, .int l1, .int l2, .float 0, .float 0] [] h Q := by
  refine zX_seg (pc' := 52) (L' := [.ref l0, .int l1, .int l2, .float 0, .float 0]) (st' := [.int l1, .int l2]) (h2 := h) rfl rfl (fun C Cr hc kk => x_iload_n C rfl dX3_goOn_50 (x_iload_n C rfl dX3_goOn_51 (kk))) ?_
  refine zX_br (p1 := 80) (p2 := 55) (st' := []) (l2 ≤ l1) (fun C kt kf => x_icmp_le C 80 dX3_goOn_52 (by decide) kt kf) (fun q1 => ?_) (fun q1 => ?_)
  · replace H := H.1 q1
    exact zX_wk (wkK (wkK (wkK (wkD (wkD wkN))))) H
  · replace H := H.2 q1
    obtain ⟨g2, H⟩ := H
    obtain ⟨a3, ea3, H⟩ := H
    refine zX_seg (pc' := 60) (L' := [.ref l0, .int l1, .int l2, .float 0, .float 0]) (st' := [.int l2, .ref a3]) (h2 := h) rfl rfl (fun C Cr hc kk => x_aload_n C (v := .ref l0) rfl rfl dX3_goOn_55 (f_getR1 C lX3_9 g2 rfl ea3 dX3_goOn_56 (x_iload_n C rfl dX3_goOn_59 (kk)))) ?_
    refine zX_call (as := [.ref a3, .int l2]) (st := []) (fun C hM hc kk => x_callSN C [.ref a3, .int l2] hM kX11_at sX11_at lX3_23 ⟨by decide, by decide⟩ rfl hc (Nat.le_of_ble_eq_true rfl) rfl dX3_goOn_60 kk) (zC.mono H ?_)
    rintro r0 h4 ⟨x5, rfl, H⟩
    show zX mX3_goOn 63 [.ref l0, .int l1, .int l2, .float 0, .float 0] [.int x5] h4 Q
    obtain ⟨g6, H⟩ := H
    obtain ⟨a7, ea7, H⟩ := H
    refine zX_seg (pc' := 68) (L' := [.ref l0, .int l1, .int l2, .float 0, .float 0]) (st' := [.int l1, .ref a7, .int x5]) (h2 := h4) rfl rfl (fun C Cr hc kk => x_aload_n C (v := .ref l0) rfl rfl dX3_goOn_63 (f_getR1 C lX3_9 g6 rfl ea7 dX3_goOn_64 (x_iload_n C rfl dX3_goOn_67 (kk)))) ?_
    refine zX_call (as := [.ref a7, .int l1]) (st := [.int x5]) (fun C hM hc kk => x_callSN C [.ref a7, .int l1] hM kX11_at sX11_at lX3_23 ⟨by decide, by decide⟩ rfl hc (Nat.le_of_ble_eq_true rfl) rfl dX3_goOn_68 kk) (zC.mono H ?_)
    rintro r0 h8 ⟨x9, rfl, H⟩
    show zX mX3_goOn 71 [.ref l0, .int l1, .int l2, .float 0, .float 0] [.int x9, .int x5] h8 Q
    refine zX_br (p1 := 80) (p2 := 74) (st' := []) (x9 ≤ x5) (fun C kt kf => x_icmp_ge C 80 dX3_goOn_71 (by decide) kt kf) (fun q10 => ?_) (fun q10 => ?_)
    · replace H := H.1 q10
      exact zX_wk (wkK (wkK (wkK (wkD (wkD wkN))))) H
    · replace H := H.2 q10
      refine zX_seg (pc' := 50) (L' := [.ref l0, .int l1, .int (l2 + (-1)), .float 0, .float 0]) (st' := []) (h2 := h8) rfl rfl (fun C Cr hc kk => x_iinc C (l2 + (-1)) rfl (congrArg (HAdd.hAdd _) (by decide)) (by decide) dX3_goOn_74 (x_goto C 50 dX3_goOn_77 (by decide) (kk))) ?_
      exact zX_wk (wkK (wkK (wkK (wkD (wkD wkN))))) H
set_option maxHeartbeats 20000000 in
theorem bX3_goOn_80 (l0 : Nat) (l1 : Int32) (l2 : Int32) (h : zH) (Q : Option Value → zH → Prop) (H : oK h l0 3 ∧ (zC mX3_swap [.ref l0, .int l1, .int l2] h (fun r0 h2 => r0 = none ∧ (oK h2 l0 3 ∧ (zX mX3_goOn 98 [.ref l0, .float 0, .float 0, .int (l1 + (1 : Int32)), .int ((gI h2 l0 1) - (1 : Int32))] [] h2 Q))))) : zX mX3_goOn 80 [.ref l0, .int l1, .int l2, .float 0, .float 0] [] h Q := by
  refine zX_seg (pc' := 83) (L' := [.ref l0, .int l1, .int l2, .float 0, .float 0]) (st' := [.int l2, .int l1, .ref l0]) (h2 := h) rfl rfl (fun C Cr hc kk => x_aload_n C (v := .ref l0) rfl rfl dX3_goOn_80 (x_iload_n C rfl dX3_goOn_81 (x_iload_n C rfl dX3_goOn_82 (kk)))) ?_
  obtain ⟨g1, H⟩ := H
  refine zX_call (as := [.ref l0, .int l1, .int l2]) (st := []) (fun C hM hc kk => f_callV C [.int l1, .int l2] hM kX3_swap vX3_swap lX3_53 ⟨by decide, by decide⟩ (rfl : vwCl[3]? = some (RX3, TX3, 5)) g1 rfl hc (Nat.le_of_ble_eq_true rfl) rfl dX3_goOn_83 kk) (zC.mono H ?_)
  rintro r0 h2 ⟨rfl, H⟩
  show zX mX3_goOn 86 [.ref l0, .int l1, .int l2, .float 0, .float 0] [] h2 Q
  obtain ⟨g3, H⟩ := H
  refine zX_seg (pc' := 98) (L' := [.ref l0, .int l1, .int l2, .int (l1 + (1 : Int32)), .int ((gI h2 l0 1) - (1 : Int32))]) (st' := []) (h2 := h2) rfl rfl (fun C Cr hc kk => x_iload_n C rfl dX3_goOn_86 (x_iconst C (1 : Int32) (by decide) dX3_goOn_87 (x_iadd C dX3_goOn_88 (x_istore_n C (by decide) dX3_goOn_89 (x_aload_n C (v := .ref l0) rfl rfl dX3_goOn_90 (f_getI C lX3_15 g3 rfl dX3_goOn_91 (x_iconst C (1 : Int32) (by decide) dX3_goOn_94 (x_isub C dX3_goOn_95 (x_istore C (by decide) dX3_goOn_96 (kk)))))))))) ?_
  exact zX_wk (wkK (wkD (wkD (wkK (wkK wkN))))) H
set_option maxHeartbeats 20000000 in
theorem bX3_goOn_98 (l0 : Nat) (l3 : Int32) (l4 : Int32) (h : zH) (Q : Option Value → zH → Prop) (H : (l4 ≤ l3 → (Q none h)) ∧ (¬ (l4 ≤ l3) → (oK h l0 3 ∧ (zC mX3_swap [.ref l0, .int l3, .int l4] h (fun r0 h3 => r0 = none ∧ (zX mX3_goOn 98 [.ref l0, .float 0, .float 0, .int (l3 + 1), .int (l4 + (-1))] [] h3 Q)))))) : zX mX3_goOn 98 [.ref l0, .float 0, .float 0, .int l3, .int l4] [] h Q := by
  refine zX_seg (pc' := 101) (L' := [.ref l0, .float 0, .float 0, .int l3, .int l4]) (st' := [.int l4, .int l3]) (h2 := h) rfl rfl (fun C Cr hc kk => x_iload_n C rfl dX3_goOn_98 (x_iload C rfl dX3_goOn_99 (kk))) ?_
  refine zX_br (p1 := 120) (p2 := 104) (st' := []) (l4 ≤ l3) (fun C kt kf => x_icmp_ge C 120 dX3_goOn_101 (by decide) kt kf) (fun q1 => ?_) (fun q1 => ?_)
  · replace H := H.1 q1
    exact zX_ret none (fun C Cr hc => x_ret C Cr rfl hc dX3_goOn_120 ⟨rfl, rfl⟩) H
  · replace H := H.2 q1
    refine zX_seg (pc' := 108) (L' := [.ref l0, .float 0, .float 0, .int l3, .int l4]) (st' := [.int l4, .int l3, .ref l0]) (h2 := h) rfl rfl (fun C Cr hc kk => x_aload_n C (v := .ref l0) rfl rfl dX3_goOn_104 (x_iload_n C rfl dX3_goOn_105 (x_iload C rfl dX3_goOn_106 (kk)))) ?_
    obtain ⟨g2, H⟩ := H
    refine zX_call (as := [.ref l0, .int l3, .int l4]) (st := []) (fun C hM hc kk => f_callV C [.int l3, .int l4] hM kX3_swap vX3_swap lX3_53 ⟨by decide, by decide⟩ (rfl : vwCl[3]? = some (RX3, TX3, 5)) g2 rfl hc (Nat.le_of_ble_eq_true rfl) rfl dX3_goOn_108 kk) (zC.mono H ?_)
    rintro r0 h3 ⟨rfl, H⟩
    show zX mX3_goOn 111 [.ref l0, .float 0, .float 0, .int l3, .int l4] [] h3 Q
    refine zX_seg (pc' := 98) (L' := [.ref l0, .float 0, .float 0, .int (l3 + 1), .int (l4 + (-1))]) (st' := []) (h2 := h3) rfl rfl (fun C Cr hc kk => x_iinc C (l3 + 1) rfl (congrArg (HAdd.hAdd _) (by decide)) (by decide) dX3_goOn_111 (x_iinc C (l4 + (-1)) rfl (congrArg (HAdd.hAdd _) (by decide)) (by decide) dX3_goOn_114 (x_goto C 98 dX3_goOn_117 (by decide) (kk)))) ?_
    exact zX_wk (wkK (wkD (wkD (wkK (wkK wkN))))) H
theorem nX3_goOn (t : Nat) (h : zH) (Q : Option Value → zH → Prop) (H : zX mX3_goOn 0 [.ref t, .float 0, .float 0, .float 0, .float 0] [] h Q) : zC mX3_goOn [.ref t] h Q := zC_of (by decide +kernel) (by simp) (Nat.le_of_ble_eq_true rfl) H
set_option maxHeartbeats 20000000 in
theorem bX3_swap_0 (t : Nat) (p0 : Int32) (p1 : Int32) (h : zH) (Q : Option Value → zH → Prop) (H : oK h t 3 ∧ (∃ a2 : Nat, gR h t 0 = some a2 ∧ (zC mX11_at [.ref a2, .int p0] h (fun r0 h3 => ∃ x4 : Int32, r0 = some (.int x4) ∧ (oK h3 t 3 ∧ (∃ a6 : Nat, gR h3 t 0 = some a6 ∧ (zC mX11_at [.ref a6, .int p1] h3 (fun r0 h7 => ∃ x8 : Int32, r0 = some (.int x8) ∧ (zC mX11_put [.ref a6, .int p0, .int x8] h7 (fun r0 h9 => r0 = none ∧ (oK h9 t 3 ∧ (∃ a11 : Nat, gR h9 t 0 = some a11 ∧ (zC mX11_put [.ref a11, .int p1, .int x4] h9 (fun r0 h12 => r0 = none ∧ (Q none h12))))))))))))))) : zX mX3_swap 0 [.ref t, .int p0, .int p1, .float 0] [] h Q := by
  obtain ⟨g1, H⟩ := H
  obtain ⟨a2, ea2, H⟩ := H
  refine zX_seg (pc' := 5) (L' := [.ref t, .int p0, .int p1, .float 0]) (st' := [.int p0, .ref a2]) (h2 := h) rfl rfl (fun C Cr hc kk => x_aload_n C (v := .ref t) rfl rfl dX3_swap_0 (f_getR1 C lX3_9 g1 rfl ea2 dX3_swap_1 (x_iload_n C rfl dX3_swap_4 (kk)))) ?_
  refine zX_call (as := [.ref a2, .int p0]) (st := []) (fun C hM hc kk => x_callSN C [.ref a2, .int p0] hM kX11_at sX11_at lX3_23 ⟨by decide, by decide⟩ rfl hc (Nat.le_of_ble_eq_true rfl) rfl dX3_swap_5 kk) (zC.mono H ?_)
  rintro r0 h3 ⟨x4, rfl, H⟩
  show zX mX3_swap 8 [.ref t, .int p0, .int p1, .float 0] [.int x4] h3 Q
  obtain ⟨g5, H⟩ := H
  obtain ⟨a6, ea6, H⟩ := H
  refine zX_seg (pc' := 19) (L' := [.ref t, .int p0, .int p1, .int x4]) (st' := [.int p1, .ref a6, .int p0, .ref a6]) (h2 := h3) rfl rfl (fun C Cr hc kk => x_istore_n C (by decide) dX3_swap_8 (x_aload_n C (v := .ref t) rfl rfl dX3_swap_9 (f_getR1 C lX3_9 g5 rfl ea6 dX3_swap_10 (x_iload_n C rfl dX3_swap_13 (x_aload_n C (v := .ref t) rfl rfl dX3_swap_14 (f_getR1 C lX3_9 g5 rfl ea6 dX3_swap_15 (x_iload_n C rfl dX3_swap_18 (kk)))))))) ?_
  refine zX_call (as := [.ref a6, .int p1]) (st := [.int p0, .ref a6]) (fun C hM hc kk => x_callSN C [.ref a6, .int p1] hM kX11_at sX11_at lX3_23 ⟨by decide, by decide⟩ rfl hc (Nat.le_of_ble_eq_true rfl) rfl dX3_swap_19 kk) (zC.mono H ?_)
  rintro r0 h7 ⟨x8, rfl, H⟩
  show zX mX3_swap 22 [.ref t, .int p0, .int p1, .int x4] [.int x8, .int p0, .ref a6] h7 Q
  refine zX_call (as := [.ref a6, .int p0, .int x8]) (st := []) (fun C hM hc kk => x_callSN C [.ref a6, .int p0, .int x8] hM kX11_put sX11_put lX3_19 ⟨by decide, by decide⟩ rfl hc (Nat.le_of_ble_eq_true rfl) rfl dX3_swap_22 kk) (zC.mono H ?_)
  rintro r0 h9 ⟨rfl, H⟩
  show zX mX3_swap 25 [.ref t, .int p0, .int p1, .int x4] [] h9 Q
  obtain ⟨g10, H⟩ := H
  obtain ⟨a11, ea11, H⟩ := H
  refine zX_seg (pc' := 31) (L' := [.ref t, .int p0, .int p1, .int x4]) (st' := [.int x4, .int p1, .ref a11]) (h2 := h9) rfl rfl (fun C Cr hc kk => x_aload_n C (v := .ref t) rfl rfl dX3_swap_25 (f_getR1 C lX3_9 g10 rfl ea11 dX3_swap_26 (x_iload_n C rfl dX3_swap_29 (x_iload_n C rfl dX3_swap_30 (kk))))) ?_
  refine zX_call (as := [.ref a11, .int p1, .int x4]) (st := []) (fun C hM hc kk => x_callSN C [.ref a11, .int p1, .int x4] hM kX11_put sX11_put lX3_19 ⟨by decide, by decide⟩ rfl hc (Nat.le_of_ble_eq_true rfl) rfl dX3_swap_31 kk) (zC.mono H ?_)
  rintro r0 h12 ⟨rfl, H⟩
  show zX mX3_swap 34 [.ref t, .int p0, .int p1, .int x4] [] h12 Q
  exact zX_ret none (fun C Cr hc => x_ret C Cr rfl hc dX3_swap_34 ⟨rfl, rfl⟩) H
theorem nX3_swap (t : Nat) (p0 : Int32) (p1 : Int32) (h : zH) (Q : Option Value → zH → Prop) (H : zX mX3_swap 0 [.ref t, .int p0, .int p1, .float 0] [] h Q) : zC mX3_swap [.ref t, .int p0, .int p1] h Q := zC_of (by decide +kernel) (by simp) (Nat.le_of_ble_eq_true rfl) H
set_option maxHeartbeats 20000000 in
theorem bX5_init_0 (t : Nat) (h : zH) (Q : Option Value → zH → Prop) (H : ∀ h1 : zH, h1 = (zn h (zO 6 [.null, .int 0])) → (zC mX6_init [.ref (h.1)] h1 (fun r0 h3 => r0 = none ∧ (oK h3 t 5 ∧ (∀ h5 : zH, h5 = (pF h3 t 0 (zr (some h.1))) → (∀ h7 : zH, h7 = (zn h5 (zI 0 256 (fun _ => 0))) → (∀ h10 : zH, h10 = (pF h7 t 1 (zr (some h5.1))) → (∀ h13 : zH, h13 = (zn h10 (zI 0 1 (fun _ => 0))) → (∀ h17 : zH, h17 = (pF h13 t 2 (zr (some h10.1))) → (∀ h21 : zH, h21 = (zn h17 (zI 0 1 (fun _ => 0))) → (∀ h26 : zH, h26 = (pF h21 t 3 (zr (some h17.1))) → (∀ h31 : zH, h31 = (zn h26 (zI 0 1 (fun _ => 0))) → (∀ h37 : zH, h37 = (pF h31 t 4 (zr (some h26.1))) → (Q none h37)))))))))))))) : zX mX5_init 0 [.ref t] [] h Q := by
  refine zX_seg (pc' := 5) (L' := [.ref t]) (st' := [.ref t]) (h2 := h) rfl rfl (fun C Cr hc kk => x_aload_n C (v := .ref t) rfl rfl dX5_init_0 (x_objInit C lX5_3 oi_i oi_c ⟨by decide, by decide⟩ (Nat.le_of_ble_eq_true rfl) dX5_init_1 (x_aload_n C (v := .ref t) rfl rfl dX5_init_4 (kk)))) ?_
  refine zX_new (pc' := 8) (L' := [.ref t]) (st' := [.ref (h.1), .ref t]) (e := (zO 6 [.null, .int 0])) (fun C z1 z2 kk => x_new C [.null, .int 0] (hcl := (rfl : vwCl[6]? = some (RX6, TX6, 2))) tX6 wX6 ⟨lX5_9, qX6⟩ rfl z1 z2 dX5_init_5 kk) ?_
  obtain ⟨h1, eh1⟩ : ∃ y : zH, y = (zn h (zO 6 [.null, .int 0])) := ⟨_, rfl⟩
  replace H := H h1 eh1
  rw [← eh1]
  have g2 : oK h1 h.1 6 := by rw [eh1]; exact oK_new rfl
  refine zX_seg (pc' := 9) (L' := [.ref t]) (st' := [.ref (h.1), .ref (h.1), .ref t]) (h2 := h1) rfl rfl (fun C Cr hc kk => x_dup C rfl dX5_init_8 (kk)) ?_
  refine zX_call (as := [.ref (h.1)]) (st := [.ref (h.1), .ref t]) (fun C hM hc kk => x_callIN C [] hM kX6_init iX6_init ⟨rfl, rfl⟩ lX5_11 ⟨by decide, by decide⟩ rfl hc (Nat.le_of_ble_eq_true rfl) rfl dX5_init_9 kk) (zC.mono H ?_)
  rintro r0 h3 ⟨rfl, H⟩
  show zX mX5_init 12 [.ref t] [.ref (h.1), .ref t] h3 Q
  obtain ⟨g4, H⟩ := H
  refine zX_seg (pc' := 15) (L' := [.ref t]) (st' := []) (h2 := (pF h3 t 0 (zr (some h.1)))) rfl rfl (fun C Cr hc kk => f_putFR C Cr rfl (x := (some h.1)) lX5_12 tX5 nX5_0 g4 rfl (Or.inl ⟨_, rfl⟩) dX5_init_12 (kk)) ?_
  obtain ⟨h5, eh5⟩ : ∃ y : zH, y = (pF h3 t 0 (zr (some h.1))) := ⟨_, rfl⟩
  replace H := H h5 eh5
  rw [← eh5]
  have g6 : oK h5 t 5 := by rw [eh5]; exact oK_pF' g4 rfl (zmr _) g4
  refine zX_seg (pc' := 19) (L' := [.ref t]) (st' := [.int (256 : Int32), .ref t]) (h2 := h5) rfl rfl (fun C Cr hc kk => x_aload_n C (v := .ref t) rfl rfl dX5_init_15 (x_sipush C (256 : Int32) (by decide) dX5_init_16 (kk))) ?_
  refine zX_new (pc' := 21) (L' := [.ref t]) (st' := [.ref (h5.1), .ref t]) (e := (zI 0 256 (fun _ => 0))) (fun C z1 z2 kk => x_newa C (at0 := .int) ac_int (Or.inl ⟨rfl, rfl⟩) (by decide) (by decide) (by decide) z1 z2 dX5_init_19 kk) ?_
  obtain ⟨h7, eh7⟩ : ∃ y : zH, y = (zn h5 (zI 0 256 (fun _ => 0))) := ⟨_, rfl⟩
  replace H := H h7 eh7
  rw [← eh7]
  have g8 : oK h7 t 5 := by rw [eh7]; exact oK_zn g6
  have g9 : iK h7 h5.1 0 := by rw [eh7]; exact iK_new
  refine zX_seg (pc' := 24) (L' := [.ref t]) (st' := []) (h2 := (pF h7 t 1 (zr (some h5.1)))) rfl rfl (fun C Cr hc kk => f_putFR C Cr rfl (x := (some h5.1)) lX5_18 tX5 nX5_1 g8 rfl (Or.inr ⟨_, rfl⟩) dX5_init_21 (kk)) ?_
  obtain ⟨h10, eh10⟩ : ∃ y : zH, y = (pF h7 t 1 (zr (some h5.1))) := ⟨_, rfl⟩
  replace H := H h10 eh10
  rw [← eh10]
  have g11 : oK h10 t 5 := by rw [eh10]; exact oK_pF' g8 rfl (zmr _) g8
  have g12 : iK h10 h5.1 0 := by rw [eh10]; exact iK_pF g9
  refine zX_seg (pc' := 26) (L' := [.ref t]) (st' := [.int (1 : Int32), .ref t]) (h2 := h10) rfl rfl (fun C Cr hc kk => x_aload_n C (v := .ref t) rfl rfl dX5_init_24 (x_iconst C (1 : Int32) (by decide) dX5_init_25 (kk))) ?_
  refine zX_new (pc' := 28) (L' := [.ref t]) (st' := [.ref (h10.1), .ref t]) (e := (zI 0 1 (fun _ => 0))) (fun C z1 z2 kk => x_newa C (at0 := .int) ac_int (Or.inl ⟨rfl, rfl⟩) (by decide) (by decide) (by decide) z1 z2 dX5_init_26 kk) ?_
  obtain ⟨h13, eh13⟩ : ∃ y : zH, y = (zn h10 (zI 0 1 (fun _ => 0))) := ⟨_, rfl⟩
  replace H := H h13 eh13
  rw [← eh13]
  have g14 : oK h13 t 5 := by rw [eh13]; exact oK_zn g11
  have g15 : iK h13 h5.1 0 := by rw [eh13]; exact iK_zn g12
  have g16 : iK h13 h10.1 0 := by rw [eh13]; exact iK_new
  refine zX_seg (pc' := 31) (L' := [.ref t]) (st' := []) (h2 := (pF h13 t 2 (zr (some h10.1)))) rfl rfl (fun C Cr hc kk => f_putR C (x := (some h10.1)) lX5_22 tX5 nX5_2 g14 rfl (Or.inr ⟨_, rfl⟩) dX5_init_28 (kk)) ?_
  obtain ⟨h17, eh17⟩ : ∃ y : zH, y = (pF h13 t 2 (zr (some h10.1))) := ⟨_, rfl⟩
  replace H := H h17 eh17
  rw [← eh17]
  have g18 : oK h17 t 5 := by rw [eh17]; exact oK_pF' g14 rfl (zmr _) g14
  have g19 : iK h17 h5.1 0 := by rw [eh17]; exact iK_pF g15
  have g20 : iK h17 h10.1 0 := by rw [eh17]; exact iK_pF g16
  refine zX_seg (pc' := 33) (L' := [.ref t]) (st' := [.int (1 : Int32), .ref t]) (h2 := h17) rfl rfl (fun C Cr hc kk => x_aload_n C (v := .ref t) rfl rfl dX5_init_31 (x_iconst C (1 : Int32) (by decide) dX5_init_32 (kk))) ?_
  refine zX_new (pc' := 35) (L' := [.ref t]) (st' := [.ref (h17.1), .ref t]) (e := (zI 0 1 (fun _ => 0))) (fun C z1 z2 kk => x_newa C (at0 := .int) ac_int (Or.inl ⟨rfl, rfl⟩) (by decide) (by decide) (by decide) z1 z2 dX5_init_33 kk) ?_
  obtain ⟨h21, eh21⟩ : ∃ y : zH, y = (zn h17 (zI 0 1 (fun _ => 0))) := ⟨_, rfl⟩
  replace H := H h21 eh21
  rw [← eh21]
  have g22 : oK h21 t 5 := by rw [eh21]; exact oK_zn g18
  have g23 : iK h21 h5.1 0 := by rw [eh21]; exact iK_zn g19
  have g24 : iK h21 h10.1 0 := by rw [eh21]; exact iK_zn g20
  have g25 : iK h21 h17.1 0 := by rw [eh21]; exact iK_new
  refine zX_seg (pc' := 38) (L' := [.ref t]) (st' := []) (h2 := (pF h21 t 3 (zr (some h17.1)))) rfl rfl (fun C Cr hc kk => f_putR C (x := (some h17.1)) lX5_25 tX5 nX5_3 g22 rfl (Or.inr ⟨_, rfl⟩) dX5_init_35 (kk)) ?_
  obtain ⟨h26, eh26⟩ : ∃ y : zH, y = (pF h21 t 3 (zr (some h17.1))) := ⟨_, rfl⟩
  replace H := H h26 eh26
  rw [← eh26]
  have g27 : oK h26 t 5 := by rw [eh26]; exact oK_pF' g22 rfl (zmr _) g22
  have g28 : iK h26 h5.1 0 := by rw [eh26]; exact iK_pF g23
  have g29 : iK h26 h10.1 0 := by rw [eh26]; exact iK_pF g24
  have g30 : iK h26 h17.1 0 := by rw [eh26]; exact iK_pF g25
  refine zX_seg (pc' := 40) (L' := [.ref t]) (st' := [.int (1 : Int32), .ref t]) (h2 := h26) rfl rfl (fun C Cr hc kk => x_aload_n C (v := .ref t) rfl rfl dX5_init_38 (x_iconst C (1 : Int32) (by decide) dX5_init_39 (kk))) ?_
  refine zX_new (pc' := 42) (L' := [.ref t]) (st' := [.ref (h26.1), .ref t]) (e := (zI 0 1 (fun _ => 0))) (fun C z1 z2 kk => x_newa C (at0 := .int) ac_int (Or.inl ⟨rfl, rfl⟩) (by decide) (by decide) (by decide) z1 z2 dX5_init_40 kk) ?_
  obtain ⟨h31, eh31⟩ : ∃ y : zH, y = (zn h26 (zI 0 1 (fun _ => 0))) := ⟨_, rfl⟩
  replace H := H h31 eh31
  rw [← eh31]
  have g32 : oK h31 t 5 := by rw [eh31]; exact oK_zn g27
  have g33 : iK h31 h5.1 0 := by rw [eh31]; exact iK_zn g28
  have g34 : iK h31 h10.1 0 := by rw [eh31]; exact iK_zn g29
  have g35 : iK h31 h17.1 0 := by rw [eh31]; exact iK_zn g30
  have g36 : iK h31 h26.1 0 := by rw [eh31]; exact iK_new
  refine zX_seg (pc' := 45) (L' := [.ref t]) (st' := []) (h2 := (pF h31 t 4 (zr (some h26.1)))) rfl rfl (fun C Cr hc kk => f_putR C (x := (some h26.1)) lX5_28 tX5 nX5_4 g32 rfl (Or.inr ⟨_, rfl⟩) dX5_init_42 (kk)) ?_
  obtain ⟨h37, eh37⟩ : ∃ y : zH, y = (pF h31 t 4 (zr (some h26.1))) := ⟨_, rfl⟩
  replace H := H h37 eh37
  rw [← eh37]
  have g38 : oK h37 t 5 := by rw [eh37]; exact oK_pF' g32 rfl (zmr _) g32
  have g39 : iK h37 h5.1 0 := by rw [eh37]; exact iK_pF g33
  have g40 : iK h37 h10.1 0 := by rw [eh37]; exact iK_pF g34
  have g41 : iK h37 h17.1 0 := by rw [eh37]; exact iK_pF g35
  have g42 : iK h37 h26.1 0 := by rw [eh37]; exact iK_pF g36
  exact zX_ret none (fun C Cr hc => x_ret C Cr rfl hc dX5_init_45 ⟨rfl, rfl⟩) H
theorem nX5_init (t : Nat) (h : zH) (Q : Option Value → zH → Prop) (H : zX mX5_init 0 [.ref t] [] h Q) : zC mX5_init [.ref t] h Q := zC_of (by decide +kernel) (by simp) (Nat.le_of_ble_eq_true rfl) H
set_option maxHeartbeats 20000000 in
theorem bX5_forget_0 (t : Nat) (p0 : Int32) (h : zH) (Q : Option Value → zH → Prop) (H : oK h t 5 ∧ (∀ h2 : zH, h2 = (pF h t 7 (.int ((gI h t 7) ||| p0))) → (∀ h4 : zH, h4 = (pF h2 t 8 (.int (0 : Int32))) → (Q none h4)))) : zX mX5_forget 0 [.ref t, .int p0] [] h Q := by
  obtain ⟨g1, H⟩ := H
  refine zX_seg (pc' := 10) (L' := [.ref t, .int p0]) (st' := []) (h2 := (pF h t 7 (.int ((gI h t 7) ||| p0)))) rfl rfl (fun C Cr hc kk => x_aload_n C (v := .ref t) rfl rfl dX5_forget_0 (x_dup C rfl dX5_forget_1 (f_getI C lX5_31 g1 rfl dX5_forget_2 (x_iload_n C rfl dX5_forget_5 (x_ior C dX5_forget_6 (f_putI C lX5_31 tX5 nX5_7 g1 rfl rfl dX5_forget_7 (kk))))))) ?_
  obtain ⟨h2, eh2⟩ : ∃ y : zH, y = (pF h t 7 (.int ((gI h t 7) ||| p0))) := ⟨_, rfl⟩
  replace H := H h2 eh2
  rw [← eh2]
  have g3 : oK h2 t 5 := by rw [eh2]; exact oK_pF' g1 rfl rfl g1
  refine zX_seg (pc' := 15) (L' := [.ref t, .int p0]) (st' := []) (h2 := (pF h2 t 8 (.int (0 : Int32)))) rfl rfl (fun C Cr hc kk => x_aload_n C (v := .ref t) rfl rfl dX5_forget_10 (x_iconst C (0 : Int32) (by decide) dX5_forget_11 (f_putZ C lX5_35 tX5 nX5_8 g3 rfl rfl (Or.inl rfl) dX5_forget_12 (kk)))) ?_
  obtain ⟨h4, eh4⟩ : ∃ y : zH, y = (pF h2 t 8 (.int (0 : Int32))) := ⟨_, rfl⟩
  replace H := H h4 eh4
  rw [← eh4]
  have g5 : oK h4 t 5 := by rw [eh4]; exact oK_pF' g3 rfl rfl g3
  exact zX_ret none (fun C Cr hc => x_ret C Cr rfl hc dX5_forget_15 ⟨rfl, rfl⟩) H
theorem nX5_forget (t : Nat) (p0 : Int32) (h : zH) (Q : Option Value → zH → Prop) (H : zX mX5_forget 0 [.ref t, .int p0] [] h Q) : zC mX5_forget [.ref t, .int p0] h Q := zC_of (by decide +kernel) (by simp) (Nat.le_of_ble_eq_true rfl) H
set_option maxHeartbeats 20000000 in
theorem bX5_refresh_0 (t : Nat) (p0 : Nat) (p1 : Nat) (h : zH) (Q : Option Value → zH → Prop) (H : oK h t 5 ∧ (((gI h t 8) = 0 → (oK h p0 10 ∧ (∃ a4 : Nat, gR h t 2 = some a4 ∧ (iK h a4 0 ∧ ((((1 : Int32) <<< (((2 : Int32) * (gI h p0 8)) &&& 31)) ≤ (nI (aN h a4)) → (((gI h t 7) = (255 : Int32) → (zC mJ7_fill_53178 [.ref a4, .int (0 : Int32)] h (fun r0 h8 => r0 = none ∧ (zX mX5_refresh 64 [.ref t, .ref p0, .ref p1, .int ((1 : Int32) <<< (((2 : Int32) * (gI h p0 8)) &&& 31)), .int (0 : Int32)] [] h8 Q)))) ∧ (¬ ((gI h t 7) = (255 : Int32)) → (zX mX5_refresh 64 [.ref t, .ref p0, .ref p1, .int ((1 : Int32) <<< (((2 : Int32) * (gI h p0 8)) &&& 31)), .int (0 : Int32)] [] h Q)))) ∧ (¬ (((1 : Int32) <<< (((2 : Int32) * (gI h p0 8)) &&& 31)) ≤ (nI (aN h a4))) → (¬ ((1 : Int32) <<< (((2 : Int32) * (gI h p0 8)) &&& 31)) < 0 ∧ (((1 : Int32) <<< (((2 : Int32) * (gI h p0 8)) &&& 31)).toNatClampNeg * 8 ≤ 536870912 ∧ (∀ h11 : zH, h11 = (zn h (zI 0 ((1 : Int32) <<< (((2 : Int32) * (gI h p0 8)) &&& 31)).toNatClampNeg (fun _ => 0))) → (∀ h16 : zH, h16 = (pF h11 t 2 (zr (some h.1))) → (∀ h21 : zH, h21 = (pF h16 t 7 (.int (255 : Int32))) → (zX mX5_refresh 64 [.ref t, .ref p0, .ref p1, .int ((1 : Int32) <<< (((2 : Int32) * (gI h p0 8)) &&& 31)), .int (0 : Int32)] [] h21 Q)))))))))))) ∧ (¬ ((gI h t 8) = 0) → (Q none h)))) : zX mX5_refresh 0 [.ref t, .ref p0, .ref p1, .float 0, .float 0] [] h Q := by
  obtain ⟨g1, H⟩ := H
  refine zX_seg (pc' := 4) (L' := [.ref t, .ref p0, .ref p1, .float 0, .float 0]) (st' := [.int (gI h t 8)]) (h2 := h) rfl rfl (fun C Cr hc kk => x_aload_n C (v := .ref t) rfl rfl dX5_refresh_0 (f_getI C lX5_35 g1 rfl dX5_refresh_1 (kk))) ?_
  refine zX_br (p1 := 8) (p2 := 7) (st' := []) ((gI h t 8) = 0) (fun C kt kf => x_if_eq C 8 dX5_refresh_4 (by decide) kt kf) (fun q2 => ?_) (fun q2 => ?_)
  · replace H := H.1 q2
    obtain ⟨g3, H⟩ := H
    obtain ⟨a4, ea4, H⟩ := H
    obtain ⟨g5, H⟩ := H
    refine zX_seg (pc' := 23) (L' := [.ref t, .ref p0, .ref p1, .int ((1 : Int32) <<< (((2 : Int32) * (gI h p0 8)) &&& 31)), .float 0]) (st' := [.int ((1 : Int32) <<< (((2 : Int32) * (gI h p0 8)) &&& 31)), .int (nI (aN h a4))]) (h2 := h) rfl rfl (fun C Cr hc kk => x_iconst C (1 : Int32) (by decide) dX5_refresh_8 (x_iconst C (2 : Int32) (by decide) dX5_refresh_9 (x_aload_n C (v := .ref p0) rfl rfl dX5_refresh_10 (f_getIN C lX5_39 g3 rfl dX5_refresh_11 (x_imul C dX5_refresh_14 (x_ishl C dX5_refresh_15 (x_istore_n C (by decide) dX5_refresh_16 (x_aload_n C (v := .ref t) rfl rfl dX5_refresh_17 (f_getR1 C lX5_22 g1 rfl ea4 dX5_refresh_18 (f_alenI C (by decide) g5 dX5_refresh_21 (x_iload_n C rfl dX5_refresh_22 (kk)))))))))))) ?_
    refine zX_br (p1 := 43) (p2 := 26) (st' := []) (((1 : Int32) <<< (((2 : Int32) * (gI h p0 8)) &&& 31)) ≤ (nI (aN h a4))) (fun C kt kf => x_icmp_ge C 43 dX5_refresh_23 (by decide) kt kf) (fun q6 => ?_) (fun q6 => ?_)
    · replace H := H.1 q6
      refine zX_seg (pc' := 50) (L' := [.ref t, .ref p0, .ref p1, .int ((1 : Int32) <<< (((2 : Int32) * (gI h p0 8)) &&& 31)), .float 0]) (st' := [.int (255 : Int32), .int (gI h t 7)]) (h2 := h) rfl rfl (fun C Cr hc kk => x_aload_n C (v := .ref t) rfl rfl dX5_refresh_43 (f_getI C lX5_31 g1 rfl dX5_refresh_44 (x_sipush C (255 : Int32) (by decide) dX5_refresh_47 (kk)))) ?_
      refine zX_br (p1 := 53) (p2 := 61) (st' := []) ((gI h t 7) = (255 : Int32)) (fun C kt kf => x_icmp_ne C 61 dX5_refresh_50 (by decide) kf kt) (fun q7 => ?_) (fun q7 => ?_)
      · replace H := H.1 q7
        refine zX_seg (pc' := 58) (L' := [.ref t, .ref p0, .ref p1, .int ((1 : Int32) <<< (((2 : Int32) * (gI h p0 8)) &&& 31)), .float 0]) (st' := [.int (0 : Int32), .ref a4]) (h2 := h) rfl rfl (fun C Cr hc kk => x_aload_n C (v := .ref t) rfl rfl dX5_refresh_53 (f_getR1 C lX5_22 g1 rfl ea4 dX5_refresh_54 (x_iconst C (0 : Int32) (by decide) dX5_refresh_57 (kk)))) ?_
        refine zX_call (as := [.ref a4, .int (0 : Int32)]) (st := []) (fun C hM hc kk => x_callS C [.ref a4, .int (0 : Int32)] hM kJ7_fill_53178 sJ7_fill_53178 lX5_44 ⟨by decide, by decide⟩ rfl hc (Nat.le_of_ble_eq_true rfl) rfl dX5_refresh_58 kk) (zC.mono H ?_)
        rintro r0 h8 ⟨rfl, H⟩
        show zX mX5_refresh 61 [.ref t, .ref p0, .ref p1, .int ((1 : Int32) <<< (((2 : Int32) * (gI h p0 8)) &&& 31)), .float 0] [] h8 Q
        refine zX_seg (pc' := 64) (L' := [.ref t, .ref p0, .ref p1, .int ((1 : Int32) <<< (((2 : Int32) * (gI h p0 8)) &&& 31)), .int (0 : Int32)]) (st' := []) (h2 := h8) rfl rfl (fun C Cr hc kk => x_iconst C (0 : Int32) (by decide) dX5_refresh_61 (x_istore C (by decide) dX5_refresh_62 (kk))) ?_
        exact zX_wk (wkK (wkK (wkK (wkK (wkK wkN))))) H
      · replace H := H.2 q7
        refine zX_seg (pc' := 64) (L' := [.ref t, .ref p0, .ref p1, .int ((1 : Int32) <<< (((2 : Int32) * (gI h p0 8)) &&& 31)), .int (0 : Int32)]) (st' := []) (h2 := h) rfl rfl (fun C Cr hc kk => x_iconst C (0 : Int32) (by decide) dX5_refresh_61 (x_istore C (by decide) dX5_refresh_62 (kk))) ?_
        exact zX_wk (wkK (wkK (wkK (wkK (wkK wkN))))) H
    · replace H := H.2 q6
      obtain ⟨g9, H⟩ := H
      obtain ⟨g10, H⟩ := H
      refine zX_seg (pc' := 28) (L' := [.ref t, .ref p0, .ref p1, .int ((1 : Int32) <<< (((2 : Int32) * (gI h p0 8)) &&& 31)), .float 0]) (st' := [.int ((1 : Int32) <<< (((2 : Int32) * (gI h p0 8)) &&& 31)), .ref t]) (h2 := h) rfl rfl (fun C Cr hc kk => x_aload_n C (v := .ref t) rfl rfl dX5_refresh_26 (x_iload_n C rfl dX5_refresh_27 (kk))) ?_
      refine zX_new (pc' := 30) (L' := [.ref t, .ref p0, .ref p1, .int ((1 : Int32) <<< (((2 : Int32) * (gI h p0 8)) &&& 31)), .float 0]) (st' := [.ref (h.1), .ref t]) (e := (zI 0 ((1 : Int32) <<< (((2 : Int32) * (gI h p0 8)) &&& 31)).toNatClampNeg (fun _ => 0))) (fun C z1 z2 kk => x_newa C (at0 := .int) ac_int (Or.inl ⟨rfl, rfl⟩) g9 rfl g10 z1 z2 dX5_refresh_28 kk) ?_
      obtain ⟨h11, eh11⟩ : ∃ y : zH, y = (zn h (zI 0 ((1 : Int32) <<< (((2 : Int32) * (gI h p0 8)) &&& 31)).toNatClampNeg (fun _ => 0))) := ⟨_, rfl⟩
      replace H := H h11 eh11
      rw [← eh11]
      have g12 : oK h11 t 5 := by rw [eh11]; exact oK_zn g1
      have g13 : oK h11 p0 10 := by rw [eh11]; exact oK_zn g3
      have g14 : iK h11 a4 0 := by rw [eh11]; exact iK_zn g5
      have g15 : iK h11 h.1 0 := by rw [eh11]; exact iK_new
      refine zX_seg (pc' := 33) (L' := [.ref t, .ref p0, .ref p1, .int ((1 : Int32) <<< (((2 : Int32) * (gI h p0 8)) &&& 31)), .float 0]) (st' := []) (h2 := (pF h11 t 2 (zr (some h.1)))) rfl rfl (fun C Cr hc kk => f_putR C (x := (some h.1)) lX5_22 tX5 nX5_2 g12 rfl (Or.inr ⟨_, rfl⟩) dX5_refresh_30 (kk)) ?_
      obtain ⟨h16, eh16⟩ : ∃ y : zH, y = (pF h11 t 2 (zr (some h.1))) := ⟨_, rfl⟩
      replace H := H h16 eh16
      rw [← eh16]
      have g17 : oK h16 t 5 := by rw [eh16]; exact oK_pF' g12 rfl (zmr _) g12
      have g18 : oK h16 p0 10 := by rw [eh16]; exact oK_pF' g12 rfl (zmr _) g13
      have g19 : iK h16 a4 0 := by rw [eh16]; exact iK_pF g14
      have g20 : iK h16 h.1 0 := by rw [eh16]; exact iK_pF g15
      refine zX_seg (pc' := 40) (L' := [.ref t, .ref p0, .ref p1, .int ((1 : Int32) <<< (((2 : Int32) * (gI h p0 8)) &&& 31)), .float 0]) (st' := []) (h2 := (pF h16 t 7 (.int (255 : Int32)))) rfl rfl (fun C Cr hc kk => x_aload_n C (v := .ref t) rfl rfl dX5_refresh_33 (x_sipush C (255 : Int32) (by decide) dX5_refresh_34 (f_putI C lX5_31 tX5 nX5_7 g17 rfl rfl dX5_refresh_37 (kk)))) ?_
      obtain ⟨h21, eh21⟩ : ∃ y : zH, y = (pF h16 t 7 (.int (255 : Int32))) := ⟨_, rfl⟩
      replace H := H h21 eh21
      rw [← eh21]
      have g22 : oK h21 t 5 := by rw [eh21]; exact oK_pF' g17 rfl rfl g17
      have g23 : oK h21 p0 10 := by rw [eh21]; exact oK_pF' g17 rfl rfl g18
      have g24 : iK h21 a4 0 := by rw [eh21]; exact iK_pF g19
      have g25 : iK h21 h.1 0 := by rw [eh21]; exact iK_pF g20
      refine zX_seg (pc' := 64) (L' := [.ref t, .ref p0, .ref p1, .int ((1 : Int32) <<< (((2 : Int32) * (gI h p0 8)) &&& 31)), .int (0 : Int32)]) (st' := []) (h2 := h21) rfl rfl (fun C Cr hc kk => x_goto C 61 dX5_refresh_40 (by decide) (x_iconst C (0 : Int32) (by decide) dX5_refresh_61 (x_istore C (by decide) dX5_refresh_62 (kk)))) ?_
      exact zX_wk (wkK (wkK (wkK (wkK (wkK wkN))))) H
  · replace H := H.2 q2
    exact zX_ret none (fun C Cr hc => x_ret C Cr rfl hc dX5_refresh_7 ⟨rfl, rfl⟩) H
set_option maxHeartbeats 20000000 in
theorem bX5_refresh_64 (l0 : Nat) (l1 : Nat) (l2 : Nat) (l3 : Int32) (l4 : Int32) (h : zH) (Q : Option Value → zH → Prop) (H : oK h l1 10 ∧ (((gI h l1 8) ≤ l4 → (oK h l0 5 ∧ (∀ h4 : zH, h4 = (pF h l0 7 (.int (0 : Int32))) → (zC mX5_makeRoom [.ref l0, .int l3, .ref l1] h4 (fun r0 h7 => r0 = none ∧ (oK h7 l0 5 ∧ (zC mX5_sort [.ref l0, .int l3, .ref l1] h7 (fun r0 h9 => r0 = none ∧ (oK h9 l0 5 ∧ (zC mX5_closeDownwards [.ref l0] h9 (fun r0 h11 => r0 = none ∧ (oK h11 l0 5 ∧ (∀ h13 : zH, h13 = (pF h11 l0 8 (.int (1 : Int32))) → (Q none h13)))))))))))))) ∧ (¬ ((gI h l1 8) ≤ l4) → (oK h l0 5 ∧ (((((gI h l0 7) >>> (l4 &&& 31)) &&& (1 : Int32)) = (1 : Int32) → (oK h l2 1 ∧ (zC mX1_ballotOf [.ref l2, .int l4] h (fun r0 h18 => ∃ x19 : Option Nat, r0 = some (zr x19) ∧ (∃ a20 : Nat, x19 = some a20 ∧ (oK h18 l0 5 ∧ (zC mX5_hearOfAll [.ref l0, .int l4, .ref a20, .int l3, .ref l1] h18 (fun r0 h22 => r0 = none ∧ (zX mX5_refresh 64 [.ref l0, .ref l1, .ref l2, .int l3, .int (l4 + 1)] [] h22 Q))))))))) ∧ (¬ ((((gI h l0 7) >>> (l4 &&& 31)) &&& (1 : Int32)) = (1 : Int32)) → (zX mX5_refresh 64 [.ref l0, .ref l1, .ref l2, .int l3, .int (l4 + 1)] [] h Q))))))) : zX mX5_refresh 64 [.ref l0, .ref l1, .ref l2, .int l3, .int l4] [] h Q := by
  obtain ⟨g1, H⟩ := H
  refine zX_seg (pc' := 70) (L' := [.ref l0, .ref l1, .ref l2, .int l3, .int l4]) (st' := [.int (gI h l1 8), .int l4]) (h2 := h) rfl rfl (fun C Cr hc kk => x_iload C rfl dX5_refresh_64 (x_aload_n C (v := .ref l1) rfl rfl dX5_refresh_66 (f_getIN C lX5_39 g1 rfl dX5_refresh_67 (kk)))) ?_
  refine zX_br (p1 := 106) (p2 := 73) (st' := []) ((gI h l1 8) ≤ l4) (fun C kt kf => x_icmp_ge C 106 dX5_refresh_70 (by decide) kt kf) (fun q2 => ?_) (fun q2 => ?_)
  · replace H := H.1 q2
    obtain ⟨g3, H⟩ := H
    refine zX_seg (pc' := 111) (L' := [.ref l0, .ref l1, .ref l2, .int l3, .int l4]) (st' := []) (h2 := (pF h l0 7 (.int (0 : Int32)))) rfl rfl (fun C Cr hc kk => x_aload_n C (v := .ref l0) rfl rfl dX5_refresh_106 (x_iconst C (0 : Int32) (by decide) dX5_refresh_107 (f_putI C lX5_31 tX5 nX5_7 g3 rfl rfl dX5_refresh_108 (kk)))) ?_
    obtain ⟨h4, eh4⟩ : ∃ y : zH, y = (pF h l0 7 (.int (0 : Int32))) := ⟨_, rfl⟩
    replace H := H h4 eh4
    rw [← eh4]
    have g5 : oK h4 l1 10 := by rw [eh4]; exact oK_pF' g3 rfl rfl g1
    have g6 : oK h4 l0 5 := by rw [eh4]; exact oK_pF' g3 rfl rfl g3
    refine zX_seg (pc' := 114) (L' := [.ref l0, .ref l1, .ref l2, .int l3, .int l4]) (st' := [.ref l1, .int l3, .ref l0]) (h2 := h4) rfl rfl (fun C Cr hc kk => x_aload_n C (v := .ref l0) rfl rfl dX5_refresh_111 (x_iload_n C rfl dX5_refresh_112 (x_aload_n C (v := .ref l1) rfl rfl dX5_refresh_113 (kk)))) ?_
    refine zX_call (as := [.ref l0, .int l3, .ref l1]) (st := []) (fun C hM hc kk => f_callV C [.int l3, .ref l1] hM kX5_makeRoom vX5_makeRoom lX5_60 ⟨by decide, by decide⟩ (rfl : vwCl[5]? = some (RX5, TX5, 9)) g6 rfl hc (Nat.le_of_ble_eq_true rfl) rfl dX5_refresh_114 kk) (zC.mono H ?_)
    rintro r0 h7 ⟨rfl, H⟩
    show zX mX5_refresh 117 [.ref l0, .ref l1, .ref l2, .int l3, .int l4] [] h7 Q
    refine zX_seg (pc' := 120) (L' := [.ref l0, .ref l1, .ref l2, .int l3, .int l4]) (st' := [.ref l1, .int l3, .ref l0]) (h2 := h7) rfl rfl (fun C Cr hc kk => x_aload_n C (v := .ref l0) rfl rfl dX5_refresh_117 (x_iload_n C rfl dX5_refresh_118 (x_aload_n C (v := .ref l1) rfl rfl dX5_refresh_119 (kk)))) ?_
    obtain ⟨g8, H⟩ := H
    refine zX_call (as := [.ref l0, .int l3, .ref l1]) (st := []) (fun C hM hc kk => f_callV C [.int l3, .ref l1] hM kX5_sort vX5_sort lX5_64 ⟨by decide, by decide⟩ (rfl : vwCl[5]? = some (RX5, TX5, 9)) g8 rfl hc (Nat.le_of_ble_eq_true rfl) rfl dX5_refresh_120 kk) (zC.mono H ?_)
    rintro r0 h9 ⟨rfl, H⟩
    show zX mX5_refresh 123 [.ref l0, .ref l1, .ref l2, .int l3, .int l4] [] h9 Q
    refine zX_seg (pc' := 124) (L' := [.ref l0, .ref l1, .ref l2, .int l3, .int l4]) (st' := [.ref l0]) (h2 := h9) rfl rfl (fun C Cr hc kk => x_aload_n C (v := .ref l0) rfl rfl dX5_refresh_123 (kk)) ?_
    obtain ⟨g10, H⟩ := H
    refine zX_call (as := [.ref l0]) (st := []) (fun C hM hc kk => f_callV C [] hM kX5_closeDownwards vX5_closeDownwards lX5_67 ⟨by decide, by decide⟩ (rfl : vwCl[5]? = some (RX5, TX5, 9)) g10 rfl hc (Nat.le_of_ble_eq_true rfl) rfl dX5_refresh_124 kk) (zC.mono H ?_)
    rintro r0 h11 ⟨rfl, H⟩
    show zX mX5_refresh 127 [.ref l0, .ref l1, .ref l2, .int l3, .int l4] [] h11 Q
    obtain ⟨g12, H⟩ := H
    refine zX_seg (pc' := 132) (L' := [.ref l0, .ref l1, .ref l2, .int l3, .int l4]) (st' := []) (h2 := (pF h11 l0 8 (.int (1 : Int32)))) rfl rfl (fun C Cr hc kk => x_aload_n C (v := .ref l0) rfl rfl dX5_refresh_127 (x_iconst C (1 : Int32) (by decide) dX5_refresh_128 (f_putZ C lX5_35 tX5 nX5_8 g12 rfl rfl (Or.inr rfl) dX5_refresh_129 (kk)))) ?_
    obtain ⟨h13, eh13⟩ : ∃ y : zH, y = (pF h11 l0 8 (.int (1 : Int32))) := ⟨_, rfl⟩
    replace H := H h13 eh13
    rw [← eh13]
    have g14 : oK h13 l0 5 := by rw [eh13]; exact oK_pF' g12 rfl rfl g12
    exact zX_ret none (fun C Cr hc => x_ret C Cr rfl hc dX5_refresh_132 ⟨rfl, rfl⟩) H
  · replace H := H.2 q2
    obtain ⟨g15, H⟩ := H
    refine zX_seg (pc' := 83) (L' := [.ref l0, .ref l1, .ref l2, .int l3, .int l4]) (st' := [.int (1 : Int32), .int (((gI h l0 7) >>> (l4 &&& 31)) &&& (1 : Int32))]) (h2 := h) rfl rfl (fun C Cr hc kk => x_aload_n C (v := .ref l0) rfl rfl dX5_refresh_73 (f_getI C lX5_31 g15 rfl dX5_refresh_74 (x_iload C rfl dX5_refresh_77 (x_ishr C dX5_refresh_79 (x_iconst C (1 : Int32) (by decide) dX5_refresh_80 (x_iand C dX5_refresh_81 (x_iconst C (1 : Int32) (by decide) dX5_refresh_82 (kk)))))))) ?_
    refine zX_br (p1 := 86) (p2 := 100) (st' := []) ((((gI h l0 7) >>> (l4 &&& 31)) &&& (1 : Int32)) = (1 : Int32)) (fun C kt kf => x_icmp_ne C 100 dX5_refresh_83 (by decide) kf kt) (fun q16 => ?_) (fun q16 => ?_)
    · replace H := H.1 q16
      refine zX_seg (pc' := 92) (L' := [.ref l0, .ref l1, .ref l2, .int l3, .int l4]) (st' := [.int l4, .ref l2, .int l4, .ref l0]) (h2 := h) rfl rfl (fun C Cr hc kk => x_aload_n C (v := .ref l0) rfl rfl dX5_refresh_86 (x_iload C rfl dX5_refresh_87 (x_aload_n C (v := .ref l2) rfl rfl dX5_refresh_89 (x_iload C rfl dX5_refresh_90 (kk))))) ?_
      obtain ⟨g17, H⟩ := H
      refine zX_call (as := [.ref l2, .int l4]) (st := [.int l4, .ref l0]) (fun C hM hc kk => f_callVN C [.int l4] hM kX1_ballotOf vX1_ballotOf lX5_50 ⟨by decide, by decide⟩ (rfl : vwCl[1]? = some (RX1, TX1, 5)) g17 rfl hc (Nat.le_of_ble_eq_true rfl) rfl dX5_refresh_92 kk) (zC.mono H ?_)
      rintro r0 h18 ⟨x19, rfl, H⟩
      show zX mX5_refresh 95 [.ref l0, .ref l1, .ref l2, .int l3, .int l4] [zr x19, .int l4, .ref l0] h18 Q
      obtain ⟨a20, rfl, H⟩ := H
      refine zX_seg (pc' := 97) (L' := [.ref l0, .ref l1, .ref l2, .int l3, .int l4]) (st' := [.ref l1, .int l3, .ref a20, .int l4, .ref l0]) (h2 := h18) rfl rfl (fun C Cr hc kk => x_iload_n C rfl dX5_refresh_95 (x_aload_n C (v := .ref l1) rfl rfl dX5_refresh_96 (kk))) ?_
      obtain ⟨g21, H⟩ := H
      refine zX_call (as := [.ref l0, .int l4, .ref a20, .int l3, .ref l1]) (st := []) (fun C hM hc kk => f_callV C [.int l4, .ref a20, .int l3, .ref l1] hM kX5_hearOfAll vX5_hearOfAll lX5_56 ⟨by decide, by decide⟩ (rfl : vwCl[5]? = some (RX5, TX5, 9)) g21 rfl hc (Nat.le_of_ble_eq_true rfl) rfl dX5_refresh_97 kk) (zC.mono H ?_)
      rintro r0 h22 ⟨rfl, H⟩
      show zX mX5_refresh 100 [.ref l0, .ref l1, .ref l2, .int l3, .int l4] [] h22 Q
      refine zX_seg (pc' := 64) (L' := [.ref l0, .ref l1, .ref l2, .int l3, .int (l4 + 1)]) (st' := []) (h2 := h22) rfl rfl (fun C Cr hc kk => x_iinc C (l4 + 1) rfl (congrArg (HAdd.hAdd _) (by decide)) (by decide) dX5_refresh_100 (x_goto C 64 dX5_refresh_103 (by decide) (kk))) ?_
      exact zX_wk (wkK (wkK (wkK (wkK (wkK wkN))))) H
    · replace H := H.2 q16
      refine zX_seg (pc' := 64) (L' := [.ref l0, .ref l1, .ref l2, .int l3, .int (l4 + 1)]) (st' := []) (h2 := h) rfl rfl (fun C Cr hc kk => x_iinc C (l4 + 1) rfl (congrArg (HAdd.hAdd _) (by decide)) (by decide) dX5_refresh_100 (x_goto C 64 dX5_refresh_103 (by decide) (kk))) ?_
      exact zX_wk (wkK (wkK (wkK (wkK (wkK wkN))))) H
theorem nX5_refresh (t : Nat) (p0 : Nat) (p1 : Nat) (h : zH) (Q : Option Value → zH → Prop) (H : zX mX5_refresh 0 [.ref t, .ref p0, .ref p1, .float 0, .float 0] [] h Q) : zC mX5_refresh [.ref t, .ref p0, .ref p1] h Q := zC_of (by decide +kernel) (by simp) (Nat.le_of_ble_eq_true rfl) H
set_option maxHeartbeats 20000000 in
theorem bX5_hearOfAll_0 (t : Nat) (p0 : Int32) (p1 : Nat) (p2 : Int32) (p3 : Nat) (h : zH) (Q : Option Value → zH → Prop) (H : oK h p3 10 ∧ (zC mX10_looksOf [.ref p3, .int p0, .ref p1] h (fun r0 h2 => ∃ x3 : Int32, r0 = some (.int x3) ∧ (oK h2 p3 10 ∧ (zC mX10_bitsInRows [.ref p3, .int x3] h2 (fun r0 h5 => ∃ x6 : Int32, r0 = some (.int x6) ∧ (oK h5 p3 10 ∧ (zC mX10_bitsInRows [.ref p3, .int ((1 : Int32) <<< (p0 &&& 31))] h5 (fun r0 h8 => ∃ x9 : Int32, r0 = some (.int x9) ∧ (zX mX5_hearOfAll 27 [.ref t, .int p0, .ref p1, .int p2, .ref p3, .int x6, .int x9, .int (0 : Int32), .float 0, .float 0] [] h8 Q)))))))))) : zX mX5_hearOfAll 0 [.ref t, .int p0, .ref p1, .int p2, .ref p3, .float 0, .float 0, .float 0, .float 0, .float 0] [] h Q := by
  refine zX_seg (pc' := 6) (L' := [.ref t, .int p0, .ref p1, .int p2, .ref p3, .float 0, .float 0, .float 0, .float 0, .float 0]) (st' := [.ref p1, .int p0, .ref p3, .ref p3]) (h2 := h) rfl rfl (fun C Cr hc kk => x_aload C (v := .ref p3) rfl rfl dX5_hearOfAll_0 (x_aload C (v := .ref p3) rfl rfl dX5_hearOfAll_2 (x_iload_n C rfl dX5_hearOfAll_4 (x_aload_n C (v := .ref p1) rfl rfl dX5_hearOfAll_5 (kk))))) ?_
  obtain ⟨g1, H⟩ := H
  refine zX_call (as := [.ref p3, .int p0, .ref p1]) (st := [.ref p3]) (fun C hM hc kk => f_callVN C [.int p0, .ref p1] hM kX10_looksOf vX10_looksOf lX5_70 ⟨by decide, by decide⟩ (rfl : vwCl[10]? = some (RX10, TX10, 10)) g1 rfl hc (Nat.le_of_ble_eq_true rfl) rfl dX5_hearOfAll_6 kk) (zC.mono H ?_)
  rintro r0 h2 ⟨x3, rfl, H⟩
  show zX mX5_hearOfAll 9 [.ref t, .int p0, .ref p1, .int p2, .ref p3, .float 0, .float 0, .float 0, .float 0, .float 0] [.int x3, .ref p3] h2 Q
  obtain ⟨g4, H⟩ := H
  refine zX_call (as := [.ref p3, .int x3]) (st := []) (fun C hM hc kk => f_callVN C [.int x3] hM kX10_bitsInRows vX10_bitsInRows lX5_74 ⟨by decide, by decide⟩ (rfl : vwCl[10]? = some (RX10, TX10, 10)) g4 rfl hc (Nat.le_of_ble_eq_true rfl) rfl dX5_hearOfAll_9 kk) (zC.mono H ?_)
  rintro r0 h5 ⟨x6, rfl, H⟩
  show zX mX5_hearOfAll 12 [.ref t, .int p0, .ref p1, .int p2, .ref p3, .float 0, .float 0, .float 0, .float 0, .float 0] [.int x6] h5 Q
  refine zX_seg (pc' := 19) (L' := [.ref t, .int p0, .ref p1, .int p2, .ref p3, .int x6, .float 0, .float 0, .float 0, .float 0]) (st' := [.int ((1 : Int32) <<< (p0 &&& 31)), .ref p3]) (h2 := h5) rfl rfl (fun C Cr hc kk => x_istore C (by decide) dX5_hearOfAll_12 (x_aload C (v := .ref p3) rfl rfl dX5_hearOfAll_14 (x_iconst C (1 : Int32) (by decide) dX5_hearOfAll_16 (x_iload_n C rfl dX5_hearOfAll_17 (x_ishl C dX5_hearOfAll_18 (kk)))))) ?_
  obtain ⟨g7, H⟩ := H
  refine zX_call (as := [.ref p3, .int ((1 : Int32) <<< (p0 &&& 31))]) (st := []) (fun C hM hc kk => f_callVN C [.int ((1 : Int32) <<< (p0 &&& 31))] hM kX10_bitsInRows vX10_bitsInRows lX5_74 ⟨by decide, by decide⟩ (rfl : vwCl[10]? = some (RX10, TX10, 10)) g7 rfl hc (Nat.le_of_ble_eq_true rfl) rfl dX5_hearOfAll_19 kk) (zC.mono H ?_)
  rintro r0 h8 ⟨x9, rfl, H⟩
  show zX mX5_hearOfAll 22 [.ref t, .int p0, .ref p1, .int p2, .ref p3, .int x6, .float 0, .float 0, .float 0, .float 0] [.int x9] h8 Q
  refine zX_seg (pc' := 27) (L' := [.ref t, .int p0, .ref p1, .int p2, .ref p3, .int x6, .int x9, .int (0 : Int32), .float 0, .float 0]) (st' := []) (h2 := h8) rfl rfl (fun C Cr hc kk => x_istore C (by decide) dX5_hearOfAll_22 (x_iconst C (0 : Int32) (by decide) dX5_hearOfAll_24 (x_istore C (by decide) dX5_hearOfAll_25 (kk)))) ?_
  exact zX_wk (wkK (wkK (wkK (wkK (wkK (wkK (wkK (wkK (wkD (wkD wkN)))))))))) H
set_option maxHeartbeats 20000000 in
theorem bX5_hearOfAll_27 (l0 : Nat) (l1 : Int32) (l2 : Nat) (l3 : Int32) (l4 : Nat) (l5 : Int32) (l6 : Int32) (l7 : Int32) (h : zH) (Q : Option Value → zH → Prop) (H : (l3 ≤ l7 → (Q none h)) ∧ (¬ (l3 ≤ l7) → (oK h l4 10 ∧ (zC mX10_canBe [.ref l4, .int l7] h (fun r0 h3 => ∃ x4 : Int32, r0 = some (.int x4) ∧ ((x4 = 0 → (zX mX5_hearOfAll 27 [.ref l0, .int l1, .ref l2, .int l3, .ref l4, .int l5, .int l6, .int (l7 + 1), .float 0, .float 0] [] h3 Q)) ∧ (¬ (x4 = 0) → (((l7 &&& l5) = l7 → (oK h3 l0 5 ∧ (∃ a8 : Nat, gR h3 l0 0 = some a8 ∧ (oK h3 a8 6 ∧ (zC mX6_hear [.ref a8, .ref l2, .int l1, .int l7, .ref l4] h3 (fun r0 h10 => ∃ x11 : Int32, r0 = some (.int x11) ∧ (oK h10 l4 10 ∧ (zC mX10_withMark [.ref l4, .int (0 : Int32), .int l1, .int x11] h10 (fun r0 h13 => ∃ x14 : Int32, r0 = some (.int x14) ∧ (zX mX5_hearOfAll 92 [.ref l0, .int l1, .ref l2, .int l3, .ref l4, .int l5, .int l6, .int l7, .float 0, .float 0] [.int x14] h13 Q)))))))))) ∧ (¬ ((l7 &&& l5) = l7) → (oK h3 l0 5 ∧ (∃ a16 : Nat, gR h3 l0 2 = some a16 ∧ (zC mX11_at [.ref a16, .int (l7 &&& l5)] h3 (fun r0 h17 => ∃ x18 : Int32, r0 = some (.int x18) ∧ (zX mX5_hearOfAll 92 [.ref l0, .int l1, .ref l2, .int l3, .ref l4, .int l5, .int l6, .int l7, .float 0, .float 0] [.int (x18 &&& l6)] h17 Q)))))))))))))) : zX mX5_hearOfAll 27 [.ref l0, .int l1, .ref l2, .int l3, .ref l4, .int l5, .int l6, .int l7, .float 0, .float 0] [] h Q := by
  refine zX_seg (pc' := 30) (L' := [.ref l0, .int l1, .ref l2, .int l3, .ref l4, .int l5, .int l6, .int l7, .float 0, .float 0]) (st' := [.int l3, .int l7]) (h2 := h) rfl rfl (fun C Cr hc kk => x_iload C rfl dX5_hearOfAll_27 (x_iload_n C rfl dX5_hearOfAll_29 (kk))) ?_
  refine zX_br (p1 := 126) (p2 := 33) (st' := []) (l3 ≤ l7) (fun C kt kf => x_icmp_ge C 126 dX5_hearOfAll_30 (by decide) kt kf) (fun q1 => ?_) (fun q1 => ?_)
  · replace H := H.1 q1
    exact zX_ret none (fun C Cr hc => x_ret C Cr rfl hc dX5_hearOfAll_126 ⟨rfl, rfl⟩) H
  · replace H := H.2 q1
    refine zX_seg (pc' := 37) (L' := [.ref l0, .int l1, .ref l2, .int l3, .ref l4, .int l5, .int l6, .int l7, .float 0, .float 0]) (st' := [.int l7, .ref l4]) (h2 := h) rfl rfl (fun C Cr hc kk => x_aload C (v := .ref l4) rfl rfl dX5_hearOfAll_33 (x_iload C rfl dX5_hearOfAll_35 (kk))) ?_
    obtain ⟨g2, H⟩ := H
    refine zX_call (as := [.ref l4, .int l7]) (st := []) (fun C hM hc kk => f_callVN C [.int l7] hM kX10_canBe vX10_canBe lX5_78 ⟨by decide, by decide⟩ (rfl : vwCl[10]? = some (RX10, TX10, 10)) g2 rfl hc (Nat.le_of_ble_eq_true rfl) rfl dX5_hearOfAll_37 kk) (zC.mono H ?_)
    rintro r0 h3 ⟨x4, rfl, H⟩
    show zX mX5_hearOfAll 40 [.ref l0, .int l1, .ref l2, .int l3, .ref l4, .int l5, .int l6, .int l7, .float 0, .float 0] [.int x4] h3 Q
    refine zX_br (p1 := 120) (p2 := 43) (st' := []) (x4 = 0) (fun C kt kf => x_if_eq C 120 dX5_hearOfAll_40 (by decide) kt kf) (fun q5 => ?_) (fun q5 => ?_)
    · replace H := H.1 q5
      refine zX_seg (pc' := 27) (L' := [.ref l0, .int l1, .ref l2, .int l3, .ref l4, .int l5, .int l6, .int (l7 + 1), .float 0, .float 0]) (st' := []) (h2 := h3) rfl rfl (fun C Cr hc kk => x_iinc C (l7 + 1) rfl (congrArg (HAdd.hAdd _) (by decide)) (by decide) dX5_hearOfAll_120 (x_goto C 27 dX5_hearOfAll_123 (by decide) (kk))) ?_
      exact zX_wk (wkK (wkK (wkK (wkK (wkK (wkK (wkK (wkK (wkD (wkD wkN)))))))))) H
    · replace H := H.2 q5
      refine zX_seg (pc' := 54) (L' := [.ref l0, .int l1, .ref l2, .int l3, .ref l4, .int l5, .int l6, .int l7, .int (l7 &&& l5), .float 0]) (st' := [.int l7, .int (l7 &&& l5)]) (h2 := h3) rfl rfl (fun C Cr hc kk => x_iload C rfl dX5_hearOfAll_43 (x_iload C rfl dX5_hearOfAll_45 (x_iand C dX5_hearOfAll_47 (x_istore C (by decide) dX5_hearOfAll_48 (x_iload C rfl dX5_hearOfAll_50 (x_iload C rfl dX5_hearOfAll_52 (kk))))))) ?_
      refine zX_br (p1 := 57) (p2 := 80) (st' := []) ((l7 &&& l5) = l7) (fun C kt kf => x_icmp_ne C 80 dX5_hearOfAll_54 (by decide) kf kt) (fun q6 => ?_) (fun q6 => ?_)
      · replace H := H.1 q6
        obtain ⟨g7, H⟩ := H
        obtain ⟨a8, ea8, H⟩ := H
        refine zX_seg (pc' := 71) (L' := [.ref l0, .int l1, .ref l2, .int l3, .ref l4, .int l5, .int l6, .int l7, .int (l7 &&& l5), .float 0]) (st' := [.ref l4, .int l7, .int l1, .ref l2, .ref a8, .int l1, .int (0 : Int32), .ref l4]) (h2 := h3) rfl rfl (fun C Cr hc kk => x_aload C (v := .ref l4) rfl rfl dX5_hearOfAll_57 (x_iconst C (0 : Int32) (by decide) dX5_hearOfAll_59 (x_iload_n C rfl dX5_hearOfAll_60 (x_aload_n C (v := .ref l0) rfl rfl dX5_hearOfAll_61 (f_getR1 C lX5_12 g7 rfl ea8 dX5_hearOfAll_62 (x_aload_n C (v := .ref l2) rfl rfl dX5_hearOfAll_65 (x_iload_n C rfl dX5_hearOfAll_66 (x_iload C rfl dX5_hearOfAll_67 (x_aload C (v := .ref l4) rfl rfl dX5_hearOfAll_69 (kk)))))))))) ?_
        obtain ⟨g9, H⟩ := H
        refine zX_call (as := [.ref a8, .ref l2, .int l1, .int l7, .ref l4]) (st := [.int l1, .int (0 : Int32), .ref l4]) (fun C hM hc kk => f_callVN C [.ref l2, .int l1, .int l7, .ref l4] hM kX6_hear vX6_hear lX5_82 ⟨by decide, by decide⟩ (rfl : vwCl[6]? = some (RX6, TX6, 2)) g9 rfl hc (Nat.le_of_ble_eq_true rfl) rfl dX5_hearOfAll_71 kk) (zC.mono H ?_)
        rintro r0 h10 ⟨x11, rfl, H⟩
        show zX mX5_hearOfAll 74 [.ref l0, .int l1, .ref l2, .int l3, .ref l4, .int l5, .int l6, .int l7, .int (l7 &&& l5), .float 0] [.int x11, .int l1, .int (0 : Int32), .ref l4] h10 Q
        obtain ⟨g12, H⟩ := H
        refine zX_call (as := [.ref l4, .int (0 : Int32), .int l1, .int x11]) (st := []) (fun C hM hc kk => f_callVN C [.int (0 : Int32), .int l1, .int x11] hM kX10_withMark vX10_withMark lX5_86 ⟨by decide, by decide⟩ (rfl : vwCl[10]? = some (RX10, TX10, 10)) g12 rfl hc (Nat.le_of_ble_eq_true rfl) rfl dX5_hearOfAll_74 kk) (zC.mono H ?_)
        rintro r0 h13 ⟨x14, rfl, H⟩
        show zX mX5_hearOfAll 77 [.ref l0, .int l1, .ref l2, .int l3, .ref l4, .int l5, .int l6, .int l7, .int (l7 &&& l5), .float 0] [.int x14] h13 Q
        refine zX_seg (pc' := 92) (L' := [.ref l0, .int l1, .ref l2, .int l3, .ref l4, .int l5, .int l6, .int l7, .int (l7 &&& l5), .float 0]) (st' := [.int x14]) (h2 := h13) rfl rfl (fun C Cr hc kk => x_goto C 92 dX5_hearOfAll_77 (by decide) (kk)) ?_
        exact zX_wk (wkK (wkK (wkK (wkK (wkK (wkK (wkK (wkK (wkD (wkD wkN)))))))))) H
      · replace H := H.2 q6
        obtain ⟨g15, H⟩ := H
        obtain ⟨a16, ea16, H⟩ := H
        refine zX_seg (pc' := 86) (L' := [.ref l0, .int l1, .ref l2, .int l3, .ref l4, .int l5, .int l6, .int l7, .int (l7 &&& l5), .float 0]) (st' := [.int (l7 &&& l5), .ref a16]) (h2 := h3) rfl rfl (fun C Cr hc kk => x_aload_n C (v := .ref l0) rfl rfl dX5_hearOfAll_80 (f_getR1 C lX5_22 g15 rfl ea16 dX5_hearOfAll_81 (x_iload C rfl dX5_hearOfAll_84 (kk)))) ?_
        refine zX_call (as := [.ref a16, .int (l7 &&& l5)]) (st := []) (fun C hM hc kk => x_callSN C [.ref a16, .int (l7 &&& l5)] hM kX11_at sX11_at lX5_90 ⟨by decide, by decide⟩ rfl hc (Nat.le_of_ble_eq_true rfl) rfl dX5_hearOfAll_86 kk) (zC.mono H ?_)
        rintro r0 h17 ⟨x18, rfl, H⟩
        show zX mX5_hearOfAll 89 [.ref l0, .int l1, .ref l2, .int l3, .ref l4, .int l5, .int l6, .int l7, .int (l7 &&& l5), .float 0] [.int x18] h17 Q
        refine zX_seg (pc' := 92) (L' := [.ref l0, .int l1, .ref l2, .int l3, .ref l4, .int l5, .int l6, .int l7, .int (l7 &&& l5), .float 0]) (st' := [.int (x18 &&& l6)]) (h2 := h17) rfl rfl (fun C Cr hc kk => x_iload C rfl dX5_hearOfAll_89 (x_iand C dX5_hearOfAll_91 (kk))) ?_
        exact zX_wk (wkK (wkK (wkK (wkK (wkK (wkK (wkK (wkK (wkD (wkD wkN)))))))))) H
set_option maxHeartbeats 20000000 in
theorem bX5_hearOfAll_92 (l0 : Nat) (l1 : Int32) (l2 : Nat) (l3 : Int32) (l4 : Nat) (l5 : Int32) (l6 : Int32) (l7 : Int32) (s0 : Int32) (h : zH) (Q : Option Value → zH → Prop) (H : oK h l0 5 ∧ (∃ a2 : Nat, gR h l0 2 = some a2 ∧ (zC mX11_at [.ref a2, .int l7] h (fun r0 h3 => ∃ x4 : Int32, r0 = some (.int x4) ∧ (zC mX11_put [.ref a2, .int l7, .int ((x4 &&& (l6 ^^^ (-1 : Int32))) ||| s0)] h3 (fun r0 h5 => r0 = none ∧ (zX mX5_hearOfAll 27 [.ref l0, .int l1, .ref l2, .int l3, .ref l4, .int l5, .int l6, .int (l7 + 1), .float 0, .float 0] [] h5 Q))))))) : zX mX5_hearOfAll 92 [.ref l0, .int l1, .ref l2, .int l3, .ref l4, .int l5, .int l6, .int l7, .float 0, .float 0] [.int s0] h Q := by
  obtain ⟨g1, H⟩ := H
  obtain ⟨a2, ea2, H⟩ := H
  refine zX_seg (pc' := 106) (L' := [.ref l0, .int l1, .ref l2, .int l3, .ref l4, .int l5, .int l6, .int l7, .float 0, .int s0]) (st' := [.int l7, .ref a2, .int l7, .ref a2]) (h2 := h) rfl rfl (fun C Cr hc kk => x_istore C (by decide) dX5_hearOfAll_92 (x_aload_n C (v := .ref l0) rfl rfl dX5_hearOfAll_94 (f_getR1 C lX5_22 g1 rfl ea2 dX5_hearOfAll_95 (x_iload C rfl dX5_hearOfAll_98 (x_aload_n C (v := .ref l0) rfl rfl dX5_hearOfAll_100 (f_getR1 C lX5_22 g1 rfl ea2 dX5_hearOfAll_101 (x_iload C rfl dX5_hearOfAll_104 (kk)))))))) ?_
  refine zX_call (as := [.ref a2, .int l7]) (st := [.int l7, .ref a2]) (fun C hM hc kk => x_callSN C [.ref a2, .int l7] hM kX11_at sX11_at lX5_90 ⟨by decide, by decide⟩ rfl hc (Nat.le_of_ble_eq_true rfl) rfl dX5_hearOfAll_106 kk) (zC.mono H ?_)
  rintro r0 h3 ⟨x4, rfl, H⟩
  show zX mX5_hearOfAll 109 [.ref l0, .int l1, .ref l2, .int l3, .ref l4, .int l5, .int l6, .int l7, .float 0, .int s0] [.int x4, .int l7, .ref a2] h3 Q
  refine zX_seg (pc' := 117) (L' := [.ref l0, .int l1, .ref l2, .int l3, .ref l4, .int l5, .int l6, .int l7, .float 0, .int s0]) (st' := [.int ((x4 &&& (l6 ^^^ (-1 : Int32))) ||| s0), .int l7, .ref a2]) (h2 := h3) rfl rfl (fun C Cr hc kk => x_iload C rfl dX5_hearOfAll_109 (x_iconst C (-1 : Int32) (by decide) dX5_hearOfAll_111 (x_ixor C dX5_hearOfAll_112 (x_iand C dX5_hearOfAll_113 (x_iload C rfl dX5_hearOfAll_114 (x_ior C dX5_hearOfAll_116 (kk))))))) ?_
  refine zX_call (as := [.ref a2, .int l7, .int ((x4 &&& (l6 ^^^ (-1 : Int32))) ||| s0)]) (st := []) (fun C hM hc kk => x_callSN C [.ref a2, .int l7, .int ((x4 &&& (l6 ^^^ (-1 : Int32))) ||| s0)] hM kX11_put sX11_put lX5_94 ⟨by decide, by decide⟩ rfl hc (Nat.le_of_ble_eq_true rfl) rfl dX5_hearOfAll_117 kk) (zC.mono H ?_)
  rintro r0 h5 ⟨rfl, H⟩
  show zX mX5_hearOfAll 120 [.ref l0, .int l1, .ref l2, .int l3, .ref l4, .int l5, .int l6, .int l7, .float 0, .int s0] [] h5 Q
  refine zX_seg (pc' := 27) (L' := [.ref l0, .int l1, .ref l2, .int l3, .ref l4, .int l5, .int l6, .int (l7 + 1), .float 0, .int s0]) (st' := []) (h2 := h5) rfl rfl (fun C Cr hc kk => x_iinc C (l7 + 1) rfl (congrArg (HAdd.hAdd _) (by decide)) (by decide) dX5_hearOfAll_120 (x_goto C 27 dX5_hearOfAll_123 (by decide) (kk))) ?_
  exact zX_wk (wkK (wkK (wkK (wkK (wkK (wkK (wkK (wkK (wkD (wkD wkN)))))))))) H
theorem nX5_hearOfAll (t : Nat) (p0 : Int32) (p1 : Nat) (p2 : Int32) (p3 : Nat) (h : zH) (Q : Option Value → zH → Prop) (H : zX mX5_hearOfAll 0 [.ref t, .int p0, .ref p1, .int p2, .ref p3, .float 0, .float 0, .float 0, .float 0, .float 0] [] h Q) : zC mX5_hearOfAll [.ref t, .int p0, .ref p1, .int p2, .ref p3] h Q := zC_of (by decide +kernel) (by simp) (Nat.le_of_ble_eq_true rfl) H
set_option maxHeartbeats 20000000 in
theorem bX5_brokenBits_0 (p0 : Int32) (p1 : Int32) (h : zH) (Q : Option Value → zH → Prop) (H : Q (some (.int (((p0 ^^^ p1) ||| ((p0 ^^^ p1) >>> ((1 : Int32) &&& 31))) &&& (21845 : Int32)))) h) : zX mX5_brokenBits 0 [.int p0, .int p1, .float 0] [] h Q := by
  refine zX_seg (pc' := 13) (L' := [.int p0, .int p1, .int (p0 ^^^ p1)]) (st' := [.int (((p0 ^^^ p1) ||| ((p0 ^^^ p1) >>> ((1 : Int32) &&& 31))) &&& (21845 : Int32))]) (h2 := h) rfl rfl (fun C Cr hc kk => x_iload_n C rfl dX5_brokenBits_0 (x_iload_n C rfl dX5_brokenBits_1 (x_ixor C dX5_brokenBits_2 (x_istore_n C (by decide) dX5_brokenBits_3 (x_iload_n C rfl dX5_brokenBits_4 (x_iload_n C rfl dX5_brokenBits_5 (x_iconst C (1 : Int32) (by decide) dX5_brokenBits_6 (x_ishr C dX5_brokenBits_7 (x_ior C dX5_brokenBits_8 (x_sipush C (21845 : Int32) (by decide) dX5_brokenBits_9 (x_iand C dX5_brokenBits_12 (kk)))))))))))) ?_
  exact zX_ret (some (.int (((p0 ^^^ p1) ||| ((p0 ^^^ p1) >>> ((1 : Int32) &&& 31))) &&& (21845 : Int32)))) (fun C Cr hc => x_iret C Cr rfl rfl hc dX5_brokenBits_13 ⟨rfl, rfl⟩) H
theorem nX5_brokenBits (p0 : Int32) (p1 : Int32) (h : zH) (Q : Option Value → zH → Prop) (H : zX mX5_brokenBits 0 [.int p0, .int p1, .float 0] [] h Q) : zC mX5_brokenBits [.int p0, .int p1] h Q := zC_of (by decide +kernel) (by simp) (Nat.le_of_ble_eq_true rfl) H
set_option maxHeartbeats 20000000 in
theorem bX5_makeRoom_0 (t : Nat) (p0 : Int32) (p1 : Nat) (h : zH) (Q : Option Value → zH → Prop) (H : zX mX5_makeRoom 8 [.ref t, .int p0, .ref p1, .int (0 : Int32), .int (0 : Int32), .int (0 : Int32), .float 0] [] h Q) : zX mX5_makeRoom 0 [.ref t, .int p0, .ref p1, .float 0, .float 0, .float 0, .float 0] [] h Q := by
  refine zX_seg (pc' := 8) (L' := [.ref t, .int p0, .ref p1, .int (0 : Int32), .int (0 : Int32), .int (0 : Int32), .float 0]) (st' := []) (h2 := h) rfl rfl (fun C Cr hc kk => x_iconst C (0 : Int32) (by decide) dX5_makeRoom_0 (x_istore_n C (by decide) dX5_makeRoom_1 (x_iconst C (0 : Int32) (by decide) dX5_makeRoom_2 (x_istore C (by decide) dX5_makeRoom_3 (x_iconst C (0 : Int32) (by decide) dX5_makeRoom_5 (x_istore C (by decide) dX5_makeRoom_6 (kk))))))) ?_
  exact zX_wk (wkK (wkK (wkK (wkK (wkK (wkK (wkD wkN))))))) H
set_option maxHeartbeats 20000000 in
theorem bX5_makeRoom_8 (l0 : Nat) (l1 : Int32) (l2 : Nat) (l3 : Int32) (l4 : Int32) (l5 : Int32) (h : zH) (Q : Option Value → zH → Prop) (H : (l1 ≤ l5 → (oK h l0 5 ∧ (∃ a3 : Nat, gR h l0 3 = some a3 ∧ (iK h a3 0 ∧ ((l3 ≤ (nI (aN h a3)) → (zX mX5_makeRoom 103 [.ref l0, .float 0, .float 0, .float 0, .int l4, .float 0, .float 0] [] h Q)) ∧ (¬ (l3 ≤ (nI (aN h a3))) → (¬ (if l3 < ((2 : Int32) * (nI (aN h a3))) then ((2 : Int32) * (nI (aN h a3))) else l3) < 0 ∧ ((if l3 < ((2 : Int32) * (nI (aN h a3))) then ((2 : Int32) * (nI (aN h a3))) else l3).toNatClampNeg * 8 ≤ 536870912 ∧ (∀ h8 : zH, h8 = (zn h (zI 0 (if l3 < ((2 : Int32) * (nI (aN h a3))) then ((2 : Int32) * (nI (aN h a3))) else l3).toNatClampNeg (fun _ => 0))) → (∀ h12 : zH, h12 = (pF h8 l0 3 (zr (some h.1))) → (zX mX5_makeRoom 103 [.ref l0, .float 0, .float 0, .float 0, .int l4, .float 0, .float 0] [] h12 Q))))))))))) ∧ (¬ (l1 ≤ l5) → (oK h l2 10 ∧ (zC mX10_canBe [.ref l2, .int l5] h (fun r0 h17 => ∃ x18 : Int32, r0 = some (.int x18) ∧ ((x18 = 0 → (zX mX5_makeRoom 8 [.ref l0, .int l1, .ref l2, .int l3, .int l4, .int (l5 + 1), .float 0] [] h17 Q)) ∧ (¬ (x18 = 0) → (oK h17 l0 5 ∧ (∃ a21 : Nat, gR h17 l0 2 = some a21 ∧ (zC mX11_at [.ref a21, .int l5] h17 (fun r0 h22 => ∃ x23 : Int32, r0 = some (.int x23) ∧ (zC mX5_brokenBits [.int l5, .int x23] h22 (fun r0 h24 => ∃ x25 : Int32, r0 = some (.int x25) ∧ (zC mJ6_bitCount_0f7a4 [.int x25] h24 (fun r0 h26 => ∃ x27 : Int32, r0 = some (.int x27) ∧ ((x27 = 0 → (zX mX5_makeRoom 53 [.ref l0, .int l1, .ref l2, .float 0, .int l4, .int l5, .int x27] [.int (1 : Int32), .int l3] h26 Q)) ∧ (¬ (x27 = 0) → (zX mX5_makeRoom 53 [.ref l0, .int l1, .ref l2, .float 0, .int l4, .int l5, .int x27] [.int (0 : Int32), .int l3] h26 Q)))))))))))))))))) : zX mX5_makeRoom 8 [.ref l0, .int l1, .ref l2, .int l3, .int l4, .int l5, .float 0] [] h Q := by
  refine zX_seg (pc' := 11) (L' := [.ref l0, .int l1, .ref l2, .int l3, .int l4, .int l5, .float 0]) (st' := [.int l1, .int l5]) (h2 := h) rfl rfl (fun C Cr hc kk => x_iload C rfl dX5_makeRoom_8 (x_iload_n C rfl dX5_makeRoom_10 (kk))) ?_
  refine zX_br (p1 := 77) (p2 := 14) (st' := []) (l1 ≤ l5) (fun C kt kf => x_icmp_ge C 77 dX5_makeRoom_11 (by decide) kt kf) (fun q1 => ?_) (fun q1 => ?_)
  · replace H := H.1 q1
    obtain ⟨g2, H⟩ := H
    obtain ⟨a3, ea3, H⟩ := H
    obtain ⟨g4, H⟩ := H
    refine zX_seg (pc' := 83) (L' := [.ref l0, .int l1, .ref l2, .int l3, .int l4, .int l5, .float 0]) (st' := [.int (nI (aN h a3)), .int l3]) (h2 := h) rfl rfl (fun C Cr hc kk => x_iload_n C rfl dX5_makeRoom_77 (x_aload_n C (v := .ref l0) rfl rfl dX5_makeRoom_78 (f_getR1 C lX5_25 g2 rfl ea3 dX5_makeRoom_79 (f_alenI C (by decide) g4 dX5_makeRoom_82 (kk))))) ?_
    refine zX_br (p1 := 103) (p2 := 86) (st' := []) (l3 ≤ (nI (aN h a3))) (fun C kt kf => x_icmp_le C 103 dX5_makeRoom_83 (by decide) kt kf) (fun q5 => ?_) (fun q5 => ?_)
    · replace H := H.1 q5
      exact zX_wk (wkK (wkD (wkD (wkD (wkK (wkD (wkD wkN))))))) H
    · replace H := H.2 q5
      obtain ⟨g6, H⟩ := H
      obtain ⟨g7, H⟩ := H
      refine zX_seg (pc' := 98) (L' := [.ref l0, .int l1, .ref l2, .int l3, .int l4, .int l5, .float 0]) (st' := [.int (if l3 < ((2 : Int32) * (nI (aN h a3))) then ((2 : Int32) * (nI (aN h a3))) else l3), .ref l0]) (h2 := h) rfl rfl (fun C Cr hc kk => x_aload_n C (v := .ref l0) rfl rfl dX5_makeRoom_86 (x_iload_n C rfl dX5_makeRoom_87 (x_iconst C (2 : Int32) (by decide) dX5_makeRoom_88 (x_aload_n C (v := .ref l0) rfl rfl dX5_makeRoom_89 (f_getR1 C lX5_25 g2 rfl ea3 dX5_makeRoom_90 (f_alenI C (by decide) g4 dX5_makeRoom_93 (x_imul C dX5_makeRoom_94 (f_mmax C lX5_107 mm_max_s mm_i mm_max_c ⟨by decide, by decide⟩ hc (Nat.le_of_ble_eq_true rfl) dX5_makeRoom_95 (kk))))))))) ?_
      refine zX_new (pc' := 100) (L' := [.ref l0, .int l1, .ref l2, .int l3, .int l4, .int l5, .float 0]) (st' := [.ref (h.1), .ref l0]) (e := (zI 0 (if l3 < ((2 : Int32) * (nI (aN h a3))) then ((2 : Int32) * (nI (aN h a3))) else l3).toNatClampNeg (fun _ => 0))) (fun C z1 z2 kk => x_newa C (at0 := .int) ac_int (Or.inl ⟨rfl, rfl⟩) g6 rfl g7 z1 z2 dX5_makeRoom_98 kk) ?_
      obtain ⟨h8, eh8⟩ : ∃ y : zH, y = (zn h (zI 0 (if l3 < ((2 : Int32) * (nI (aN h a3))) then ((2 : Int32) * (nI (aN h a3))) else l3).toNatClampNeg (fun _ => 0))) := ⟨_, rfl⟩
      replace H := H h8 eh8
      rw [← eh8]
      have g9 : oK h8 l0 5 := by rw [eh8]; exact oK_zn g2
      have g10 : iK h8 a3 0 := by rw [eh8]; exact iK_zn g4
      have g11 : iK h8 h.1 0 := by rw [eh8]; exact iK_new
      refine zX_seg (pc' := 103) (L' := [.ref l0, .int l1, .ref l2, .int l3, .int l4, .int l5, .float 0]) (st' := []) (h2 := (pF h8 l0 3 (zr (some h.1)))) rfl rfl (fun C Cr hc kk => f_putR C (x := (some h.1)) lX5_25 tX5 nX5_3 g9 rfl (Or.inr ⟨_, rfl⟩) dX5_makeRoom_100 (kk)) ?_
      obtain ⟨h12, eh12⟩ : ∃ y : zH, y = (pF h8 l0 3 (zr (some h.1))) := ⟨_, rfl⟩
      replace H := H h12 eh12
      rw [← eh12]
      have g13 : oK h12 l0 5 := by rw [eh12]; exact oK_pF' g9 rfl (zmr _) g9
      have g14 : iK h12 a3 0 := by rw [eh12]; exact iK_pF g10
      have g15 : iK h12 h.1 0 := by rw [eh12]; exact iK_pF g11
      exact zX_wk (wkK (wkD (wkD (wkD (wkK (wkD (wkD wkN))))))) H
  · replace H := H.2 q1
    refine zX_seg (pc' := 17) (L' := [.ref l0, .int l1, .ref l2, .int l3, .int l4, .int l5, .float 0]) (st' := [.int l5, .ref l2]) (h2 := h) rfl rfl (fun C Cr hc kk => x_aload_n C (v := .ref l2) rfl rfl dX5_makeRoom_14 (x_iload C rfl dX5_makeRoom_15 (kk))) ?_
    obtain ⟨g16, H⟩ := H
    refine zX_call (as := [.ref l2, .int l5]) (st := []) (fun C hM hc kk => f_callVN C [.int l5] hM kX10_canBe vX10_canBe lX5_78 ⟨by decide, by decide⟩ (rfl : vwCl[10]? = some (RX10, TX10, 10)) g16 rfl hc (Nat.le_of_ble_eq_true rfl) rfl dX5_makeRoom_17 kk) (zC.mono H ?_)
    rintro r0 h17 ⟨x18, rfl, H⟩
    show zX mX5_makeRoom 20 [.ref l0, .int l1, .ref l2, .int l3, .int l4, .int l5, .float 0] [.int x18] h17 Q
    refine zX_br (p1 := 71) (p2 := 23) (st' := []) (x18 = 0) (fun C kt kf => x_if_eq C 71 dX5_makeRoom_20 (by decide) kt kf) (fun q19 => ?_) (fun q19 => ?_)
    · replace H := H.1 q19
      refine zX_seg (pc' := 8) (L' := [.ref l0, .int l1, .ref l2, .int l3, .int l4, .int (l5 + 1), .float 0]) (st' := []) (h2 := h17) rfl rfl (fun C Cr hc kk => x_iinc C (l5 + 1) rfl (congrArg (HAdd.hAdd _) (by decide)) (by decide) dX5_makeRoom_71 (x_goto C 8 dX5_makeRoom_74 (by decide) (kk))) ?_
      exact zX_wk (wkK (wkK (wkK (wkK (wkK (wkK (wkD wkN))))))) H
    · replace H := H.2 q19
      obtain ⟨g20, H⟩ := H
      obtain ⟨a21, ea21, H⟩ := H
      refine zX_seg (pc' := 31) (L' := [.ref l0, .int l1, .ref l2, .int l3, .int l4, .int l5, .float 0]) (st' := [.int l5, .ref a21, .int l5]) (h2 := h17) rfl rfl (fun C Cr hc kk => x_iload C rfl dX5_makeRoom_23 (x_aload_n C (v := .ref l0) rfl rfl dX5_makeRoom_25 (f_getR1 C lX5_22 g20 rfl ea21 dX5_makeRoom_26 (x_iload C rfl dX5_makeRoom_29 (kk))))) ?_
      refine zX_call (as := [.ref a21, .int l5]) (st := [.int l5]) (fun C hM hc kk => x_callSN C [.ref a21, .int l5] hM kX11_at sX11_at lX5_90 ⟨by decide, by decide⟩ rfl hc (Nat.le_of_ble_eq_true rfl) rfl dX5_makeRoom_31 kk) (zC.mono H ?_)
      rintro r0 h22 ⟨x23, rfl, H⟩
      show zX mX5_makeRoom 34 [.ref l0, .int l1, .ref l2, .int l3, .int l4, .int l5, .float 0] [.int x23, .int l5] h22 Q
      refine zX_call (as := [.int l5, .int x23]) (st := []) (fun C hM hc kk => x_callS C [.int l5, .int x23] hM kX5_brokenBits sX5_brokenBits lX5_98 ⟨by decide, by decide⟩ rfl hc (Nat.le_of_ble_eq_true rfl) rfl dX5_makeRoom_34 kk) (zC.mono H ?_)
      rintro r0 h24 ⟨x25, rfl, H⟩
      show zX mX5_makeRoom 37 [.ref l0, .int l1, .ref l2, .int l3, .int l4, .int l5, .float 0] [.int x25] h24 Q
      refine zX_call (as := [.int x25]) (st := []) (fun C hM hc kk => x_callS C [.int x25] hM kJ6_bitCount_0f7a4 sJ6_bitCount_0f7a4 lX5_102 ⟨by decide, by decide⟩ rfl hc (Nat.le_of_ble_eq_true rfl) rfl dX5_makeRoom_37 kk) (zC.mono H ?_)
      rintro r0 h26 ⟨x27, rfl, H⟩
      show zX mX5_makeRoom 40 [.ref l0, .int l1, .ref l2, .int l3, .int l4, .int l5, .float 0] [.int x27] h26 Q
      refine zX_seg (pc' := 45) (L' := [.ref l0, .int l1, .ref l2, .int l3, .int l4, .int l5, .int x27]) (st' := [.int x27, .int l3]) (h2 := h26) rfl rfl (fun C Cr hc kk => x_istore C (by decide) dX5_makeRoom_40 (x_iload_n C rfl dX5_makeRoom_42 (x_iload C rfl dX5_makeRoom_43 (kk)))) ?_
      refine zX_br (p1 := 48) (p2 := 52) (st' := [.int l3]) (x27 = 0) (fun C kt kf => x_if_ne C 52 dX5_makeRoom_45 (by decide) kf kt) (fun q28 => ?_) (fun q28 => ?_)
      · replace H := H.1 q28
        refine zX_seg (pc' := 53) (L' := [.ref l0, .int l1, .ref l2, .int l3, .int l4, .int l5, .int x27]) (st' := [.int (1 : Int32), .int l3]) (h2 := h26) rfl rfl (fun C Cr hc kk => x_iconst C (1 : Int32) (by decide) dX5_makeRoom_48 (x_goto C 53 dX5_makeRoom_49 (by decide) (kk))) ?_
        exact zX_wk (wkK (wkK (wkK (wkD (wkK (wkK (wkK wkN))))))) H
      · replace H := H.2 q28
        refine zX_seg (pc' := 53) (L' := [.ref l0, .int l1, .ref l2, .int l3, .int l4, .int l5, .int x27]) (st' := [.int (0 : Int32), .int l3]) (h2 := h26) rfl rfl (fun C Cr hc kk => x_iconst C (0 : Int32) (by decide) dX5_makeRoom_52 (kk)) ?_
        exact zX_wk (wkK (wkK (wkK (wkD (wkK (wkK (wkK wkN))))))) H
set_option maxHeartbeats 20000000 in
theorem bX5_makeRoom_53 (l0 : Nat) (l1 : Int32) (l2 : Nat) (l4 : Int32) (l5 : Int32) (l6 : Int32) (s0 : Int32) (s1 : Int32) (h : zH) (Q : Option Value → zH → Prop) (H : ((3 : Int32) < l6 → (zX mX5_makeRoom 8 [.ref l0, .int l1, .ref l2, .int (s1 + s0), .int (l4 + (0 : Int32)), .int (l5 + 1), .float 0] [] h Q)) ∧ (¬ ((3 : Int32) < l6) → (zX mX5_makeRoom 8 [.ref l0, .int l1, .ref l2, .int (s1 + s0), .int (l4 + (1 : Int32)), .int (l5 + 1), .float 0] [] h Q))) : zX mX5_makeRoom 53 [.ref l0, .int l1, .ref l2, .float 0, .int l4, .int l5, .int l6] [.int s0, .int s1] h Q := by
  refine zX_seg (pc' := 60) (L' := [.ref l0, .int l1, .ref l2, .int (s1 + s0), .int l4, .int l5, .int l6]) (st' := [.int (3 : Int32), .int l6, .int l4]) (h2 := h) rfl rfl (fun C Cr hc kk => x_iadd C dX5_makeRoom_53 (x_istore_n C (by decide) dX5_makeRoom_54 (x_iload C rfl dX5_makeRoom_55 (x_iload C rfl dX5_makeRoom_57 (x_iconst C (3 : Int32) (by decide) dX5_makeRoom_59 (kk)))))) ?_
  refine zX_br (p1 := 67) (p2 := 63) (st' := [.int l4]) ((3 : Int32) < l6) (fun C kt kf => x_icmp_gt C 67 dX5_makeRoom_60 (by decide) kt kf) (fun q1 => ?_) (fun q1 => ?_)
  · replace H := H.1 q1
    refine zX_seg (pc' := 8) (L' := [.ref l0, .int l1, .ref l2, .int (s1 + s0), .int (l4 + (0 : Int32)), .int (l5 + 1), .int l6]) (st' := []) (h2 := h) rfl rfl (fun C Cr hc kk => x_iconst C (0 : Int32) (by decide) dX5_makeRoom_67 (x_iadd C dX5_makeRoom_68 (x_istore C (by decide) dX5_makeRoom_69 (x_iinc C (l5 + 1) rfl (congrArg (HAdd.hAdd _) (by decide)) (by decide) dX5_makeRoom_71 (x_goto C 8 dX5_makeRoom_74 (by decide) (kk)))))) ?_
    exact zX_wk (wkK (wkK (wkK (wkK (wkK (wkK (wkD wkN))))))) H
  · replace H := H.2 q1
    refine zX_seg (pc' := 8) (L' := [.ref l0, .int l1, .ref l2, .int (s1 + s0), .int (l4 + (1 : Int32)), .int (l5 + 1), .int l6]) (st' := []) (h2 := h) rfl rfl (fun C Cr hc kk => x_iconst C (1 : Int32) (by decide) dX5_makeRoom_63 (x_goto C 68 dX5_makeRoom_64 (by decide) (x_iadd C dX5_makeRoom_68 (x_istore C (by decide) dX5_makeRoom_69 (x_iinc C (l5 + 1) rfl (congrArg (HAdd.hAdd _) (by decide)) (by decide) dX5_makeRoom_71 (x_goto C 8 dX5_makeRoom_74 (by decide) (kk))))))) ?_
    exact zX_wk (wkK (wkK (wkK (wkK (wkK (wkK (wkD wkN))))))) H
set_option maxHeartbeats 20000000 in
theorem bX5_makeRoom_103 (l0 : Nat) (l4 : Int32) (h : zH) (Q : Option Value → zH → Prop) (H : oK h l0 5 ∧ (∃ a2 : Nat, gR h l0 4 = some a2 ∧ (iK h a2 0 ∧ ((l4 ≤ (nI (aN h a2)) → (Q none h)) ∧ (¬ (l4 ≤ (nI (aN h a2))) → (¬ (if l4 < ((2 : Int32) * (nI (aN h a2))) then ((2 : Int32) * (nI (aN h a2))) else l4) < 0 ∧ ((if l4 < ((2 : Int32) * (nI (aN h a2))) then ((2 : Int32) * (nI (aN h a2))) else l4).toNatClampNeg * 8 ≤ 536870912 ∧ (∀ h7 : zH, h7 = (zn h (zI 0 (if l4 < ((2 : Int32) * (nI (aN h a2))) then ((2 : Int32) * (nI (aN h a2))) else l4).toNatClampNeg (fun _ => 0))) → (∀ h11 : zH, h11 = (pF h7 l0 4 (zr (some h.1))) → (Q none h11)))))))))) : zX mX5_makeRoom 103 [.ref l0, .float 0, .float 0, .float 0, .int l4, .float 0, .float 0] [] h Q := by
  obtain ⟨g1, H⟩ := H
  obtain ⟨a2, ea2, H⟩ := H
  obtain ⟨g3, H⟩ := H
  refine zX_seg (pc' := 110) (L' := [.ref l0, .float 0, .float 0, .float 0, .int l4, .float 0, .float 0]) (st' := [.int (nI (aN h a2)), .int l4]) (h2 := h) rfl rfl (fun C Cr hc kk => x_iload C rfl dX5_makeRoom_103 (x_aload_n C (v := .ref l0) rfl rfl dX5_makeRoom_105 (f_getR1 C lX5_28 g1 rfl ea2 dX5_makeRoom_106 (f_alenI C (by decide) g3 dX5_makeRoom_109 (kk))))) ?_
  refine zX_br (p1 := 131) (p2 := 113) (st' := []) (l4 ≤ (nI (aN h a2))) (fun C kt kf => x_icmp_le C 131 dX5_makeRoom_110 (by decide) kt kf) (fun q4 => ?_) (fun q4 => ?_)
  · replace H := H.1 q4
    exact zX_ret none (fun C Cr hc => x_ret C Cr rfl hc dX5_makeRoom_131 ⟨rfl, rfl⟩) H
  · replace H := H.2 q4
    obtain ⟨g5, H⟩ := H
    obtain ⟨g6, H⟩ := H
    refine zX_seg (pc' := 126) (L' := [.ref l0, .float 0, .float 0, .float 0, .int l4, .float 0, .float 0]) (st' := [.int (if l4 < ((2 : Int32) * (nI (aN h a2))) then ((2 : Int32) * (nI (aN h a2))) else l4), .ref l0]) (h2 := h) rfl rfl (fun C Cr hc kk => x_aload_n C (v := .ref l0) rfl rfl dX5_makeRoom_113 (x_iload C rfl dX5_makeRoom_114 (x_iconst C (2 : Int32) (by decide) dX5_makeRoom_116 (x_aload_n C (v := .ref l0) rfl rfl dX5_makeRoom_117 (f_getR1 C lX5_28 g1 rfl ea2 dX5_makeRoom_118 (f_alenI C (by decide) g3 dX5_makeRoom_121 (x_imul C dX5_makeRoom_122 (f_mmax C lX5_107 mm_max_s mm_i mm_max_c ⟨by decide, by decide⟩ hc (Nat.le_of_ble_eq_true rfl) dX5_makeRoom_123 (kk))))))))) ?_
    refine zX_new (pc' := 128) (L' := [.ref l0, .float 0, .float 0, .float 0, .int l4, .float 0, .float 0]) (st' := [.ref (h.1), .ref l0]) (e := (zI 0 (if l4 < ((2 : Int32) * (nI (aN h a2))) then ((2 : Int32) * (nI (aN h a2))) else l4).toNatClampNeg (fun _ => 0))) (fun C z1 z2 kk => x_newa C (at0 := .int) ac_int (Or.inl ⟨rfl, rfl⟩) g5 rfl g6 z1 z2 dX5_makeRoom_126 kk) ?_
    obtain ⟨h7, eh7⟩ : ∃ y : zH, y = (zn h (zI 0 (if l4 < ((2 : Int32) * (nI (aN h a2))) then ((2 : Int32) * (nI (aN h a2))) else l4).toNatClampNeg (fun _ => 0))) := ⟨_, rfl⟩
    replace H := H h7 eh7
    rw [← eh7]
    have g8 : oK h7 l0 5 := by rw [eh7]; exact oK_zn g1
    have g9 : iK h7 a2 0 := by rw [eh7]; exact iK_zn g3
    have g10 : iK h7 h.1 0 := by rw [eh7]; exact iK_new
    refine zX_seg (pc' := 131) (L' := [.ref l0, .float 0, .float 0, .float 0, .int l4, .float 0, .float 0]) (st' := []) (h2 := (pF h7 l0 4 (zr (some h.1)))) rfl rfl (fun C Cr hc kk => f_putR C (x := (some h.1)) lX5_28 tX5 nX5_4 g8 rfl (Or.inr ⟨_, rfl⟩) dX5_makeRoom_128 (kk)) ?_
    obtain ⟨h11, eh11⟩ : ∃ y : zH, y = (pF h7 l0 4 (zr (some h.1))) := ⟨_, rfl⟩
    replace H := H h11 eh11
    rw [← eh11]
    have g12 : oK h11 l0 5 := by rw [eh11]; exact oK_pF' g8 rfl (zmr _) g8
    have g13 : iK h11 a2 0 := by rw [eh11]; exact iK_pF g9
    have g14 : iK h11 h.1 0 := by rw [eh11]; exact iK_pF g10
    exact zX_ret none (fun C Cr hc => x_ret C Cr rfl hc dX5_makeRoom_131 ⟨rfl, rfl⟩) H
theorem nX5_makeRoom (t : Nat) (p0 : Int32) (p1 : Nat) (h : zH) (Q : Option Value → zH → Prop) (H : zX mX5_makeRoom 0 [.ref t, .int p0, .ref p1, .float 0, .float 0, .float 0, .float 0] [] h Q) : zC mX5_makeRoom [.ref t, .int p0, .ref p1] h Q := zC_of (by decide +kernel) (by simp) (Nat.le_of_ble_eq_true rfl) H
set_option maxHeartbeats 20000000 in
theorem bX5_sort_0 (t : Nat) (p0 : Int32) (p1 : Nat) (h : zH) (Q : Option Value → zH → Prop) (H : oK h t 5 ∧ (∀ h2 : zH, h2 = (pF h t 5 (.int (0 : Int32))) → (∀ h4 : zH, h4 = (pF h2 t 6 (.int (0 : Int32))) → (∃ a6 : Nat, gR h4 t 1 = some a6 ∧ (zC mJ7_fill_53178 [.ref a6, .int (0 : Int32)] h4 (fun r0 h7 => r0 = none ∧ (zX mX5_sort 20 [.ref t, .int p0, .ref p1, .int (0 : Int32), .float 0] [] h7 Q))))))) : zX mX5_sort 0 [.ref t, .int p0, .ref p1, .float 0, .float 0] [] h Q := by
  obtain ⟨g1, H⟩ := H
  refine zX_seg (pc' := 5) (L' := [.ref t, .int p0, .ref p1, .float 0, .float 0]) (st' := []) (h2 := (pF h t 5 (.int (0 : Int32)))) rfl rfl (fun C Cr hc kk => x_aload_n C (v := .ref t) rfl rfl dX5_sort_0 (x_iconst C (0 : Int32) (by decide) dX5_sort_1 (f_putI C lX5_112 tX5 nX5_5 g1 rfl rfl dX5_sort_2 (kk)))) ?_
  obtain ⟨h2, eh2⟩ : ∃ y : zH, y = (pF h t 5 (.int (0 : Int32))) := ⟨_, rfl⟩
  replace H := H h2 eh2
  rw [← eh2]
  have g3 : oK h2 t 5 := by rw [eh2]; exact oK_pF' g1 rfl rfl g1
  refine zX_seg (pc' := 10) (L' := [.ref t, .int p0, .ref p1, .float 0, .float 0]) (st' := []) (h2 := (pF h2 t 6 (.int (0 : Int32)))) rfl rfl (fun C Cr hc kk => x_aload_n C (v := .ref t) rfl rfl dX5_sort_5 (x_iconst C (0 : Int32) (by decide) dX5_sort_6 (f_putI C lX5_115 tX5 nX5_6 g3 rfl rfl dX5_sort_7 (kk)))) ?_
  obtain ⟨h4, eh4⟩ : ∃ y : zH, y = (pF h2 t 6 (.int (0 : Int32))) := ⟨_, rfl⟩
  replace H := H h4 eh4
  rw [← eh4]
  have g5 : oK h4 t 5 := by rw [eh4]; exact oK_pF' g3 rfl rfl g3
  obtain ⟨a6, ea6, H⟩ := H
  refine zX_seg (pc' := 15) (L' := [.ref t, .int p0, .ref p1, .float 0, .float 0]) (st' := [.int (0 : Int32), .ref a6]) (h2 := h4) rfl rfl (fun C Cr hc kk => x_aload_n C (v := .ref t) rfl rfl dX5_sort_10 (f_getR1 C lX5_18 g5 rfl ea6 dX5_sort_11 (x_iconst C (0 : Int32) (by decide) dX5_sort_14 (kk)))) ?_
  refine zX_call (as := [.ref a6, .int (0 : Int32)]) (st := []) (fun C hM hc kk => x_callS C [.ref a6, .int (0 : Int32)] hM kJ7_fill_53178 sJ7_fill_53178 lX5_44 ⟨by decide, by decide⟩ rfl hc (Nat.le_of_ble_eq_true rfl) rfl dX5_sort_15 kk) (zC.mono H ?_)
  rintro r0 h7 ⟨rfl, H⟩
  show zX mX5_sort 18 [.ref t, .int p0, .ref p1, .float 0, .float 0] [] h7 Q
  refine zX_seg (pc' := 20) (L' := [.ref t, .int p0, .ref p1, .int (0 : Int32), .float 0]) (st' := []) (h2 := h7) rfl rfl (fun C Cr hc kk => x_iconst C (0 : Int32) (by decide) dX5_sort_18 (x_istore_n C (by decide) dX5_sort_19 (kk))) ?_
  exact zX_wk (wkK (wkK (wkK (wkK (wkD wkN))))) H
set_option maxHeartbeats 20000000 in
theorem bX5_sort_20 (l0 : Nat) (l1 : Int32) (l2 : Nat) (l3 : Int32) (h : zH) (Q : Option Value → zH → Prop) (H : (l1 ≤ l3 → (Q none h)) ∧ (¬ (l1 ≤ l3) → (oK h l2 10 ∧ (zC mX10_canBe [.ref l2, .int l3] h (fun r0 h3 => ∃ x4 : Int32, r0 = some (.int x4) ∧ ((x4 = 0 → (zX mX5_sort 20 [.ref l0, .int l1, .ref l2, .int (l3 + 1), .float 0] [] h3 Q)) ∧ (¬ (x4 = 0) → (oK h3 l0 5 ∧ (∃ a7 : Nat, gR h3 l0 2 = some a7 ∧ (zC mX11_at [.ref a7, .int l3] h3 (fun r0 h8 => ∃ x9 : Int32, r0 = some (.int x9) ∧ (zC mX5_brokenBits [.int l3, .int x9] h8 (fun r0 h10 => ∃ x11 : Int32, r0 = some (.int x11) ∧ (oK h10 l0 5 ∧ (∃ a13 : Nat, gR h10 l0 1 = some a13 ∧ (zC mX5_keptBits [.int x11, .int l1] h10 (fun r0 h14 => ∃ x15 : Int32, r0 = some (.int x15) ∧ (zC mX11_put [.ref a13, .int x15, .int (1 : Int32)] h14 (fun r0 h16 => r0 = none ∧ (zC mJ6_bitCount_0f7a4 [.int x11] h16 (fun r0 h17 => ∃ x18 : Int32, r0 = some (.int x18) ∧ (((3 : Int32) < x18 → (zX mX5_sort 101 [.ref l0, .int l1, .ref l2, .int l3, .int x11] [] h17 Q)) ∧ (¬ ((3 : Int32) < x18) → (oK h17 l0 5 ∧ (∃ a21 : Nat, gR h17 l0 4 = some a21 ∧ (oK h17 l2 10 ∧ (zC mX10_chosenIn [.ref l2, .int l3] h17 (fun r0 h23 => ∃ x24 : Int32, r0 = some (.int x24) ∧ (zC mX11_put [.ref a21, .int (gI h17 l0 6), .int (l3 ||| (x24 <<< ((16 : Int32) &&& 31)))] h23 (fun r0 h25 => r0 = none ∧ (oK h25 l0 5 ∧ (∀ h27 : zH, h27 = (pF h25 l0 6 (.int ((gI h25 l0 6) + (1 : Int32)))) → (zX mX5_sort 101 [.ref l0, .int l1, .ref l2, .int l3, .int x11] [] h27 Q))))))))))))))))))))))))))))))))) : zX mX5_sort 20 [.ref l0, .int l1, .ref l2, .int l3, .float 0] [] h Q := by
  refine zX_seg (pc' := 22) (L' := [.ref l0, .int l1, .ref l2, .int l3, .float 0]) (st' := [.int l1, .int l3]) (h2 := h) rfl rfl (fun C Cr hc kk => x_iload_n C rfl dX5_sort_20 (x_iload_n C rfl dX5_sort_21 (kk))) ?_
  refine zX_br (p1 := 134) (p2 := 25) (st' := []) (l1 ≤ l3) (fun C kt kf => x_icmp_ge C 134 dX5_sort_22 (by decide) kt kf) (fun q1 => ?_) (fun q1 => ?_)
  · replace H := H.1 q1
    exact zX_ret none (fun C Cr hc => x_ret C Cr rfl hc dX5_sort_134 ⟨rfl, rfl⟩) H
  · replace H := H.2 q1
    refine zX_seg (pc' := 27) (L' := [.ref l0, .int l1, .ref l2, .int l3, .float 0]) (st' := [.int l3, .ref l2]) (h2 := h) rfl rfl (fun C Cr hc kk => x_aload_n C (v := .ref l2) rfl rfl dX5_sort_25 (x_iload_n C rfl dX5_sort_26 (kk))) ?_
    obtain ⟨g2, H⟩ := H
    refine zX_call (as := [.ref l2, .int l3]) (st := []) (fun C hM hc kk => f_callVN C [.int l3] hM kX10_canBe vX10_canBe lX5_78 ⟨by decide, by decide⟩ (rfl : vwCl[10]? = some (RX10, TX10, 10)) g2 rfl hc (Nat.le_of_ble_eq_true rfl) rfl dX5_sort_27 kk) (zC.mono H ?_)
    rintro r0 h3 ⟨x4, rfl, H⟩
    show zX mX5_sort 30 [.ref l0, .int l1, .ref l2, .int l3, .float 0] [.int x4] h3 Q
    refine zX_br (p1 := 128) (p2 := 33) (st' := []) (x4 = 0) (fun C kt kf => x_if_eq C 128 dX5_sort_30 (by decide) kt kf) (fun q5 => ?_) (fun q5 => ?_)
    · replace H := H.1 q5
      refine zX_seg (pc' := 20) (L' := [.ref l0, .int l1, .ref l2, .int (l3 + 1), .float 0]) (st' := []) (h2 := h3) rfl rfl (fun C Cr hc kk => x_iinc C (l3 + 1) rfl (congrArg (HAdd.hAdd _) (by decide)) (by decide) dX5_sort_128 (x_goto C 20 dX5_sort_131 (by decide) (kk))) ?_
      exact zX_wk (wkK (wkK (wkK (wkK (wkD wkN))))) H
    · replace H := H.2 q5
      obtain ⟨g6, H⟩ := H
      obtain ⟨a7, ea7, H⟩ := H
      refine zX_seg (pc' := 39) (L' := [.ref l0, .int l1, .ref l2, .int l3, .float 0]) (st' := [.int l3, .ref a7, .int l3]) (h2 := h3) rfl rfl (fun C Cr hc kk => x_iload_n C rfl dX5_sort_33 (x_aload_n C (v := .ref l0) rfl rfl dX5_sort_34 (f_getR1 C lX5_22 g6 rfl ea7 dX5_sort_35 (x_iload_n C rfl dX5_sort_38 (kk))))) ?_
      refine zX_call (as := [.ref a7, .int l3]) (st := [.int l3]) (fun C hM hc kk => x_callSN C [.ref a7, .int l3] hM kX11_at sX11_at lX5_90 ⟨by decide, by decide⟩ rfl hc (Nat.le_of_ble_eq_true rfl) rfl dX5_sort_39 kk) (zC.mono H ?_)
      rintro r0 h8 ⟨x9, rfl, H⟩
      show zX mX5_sort 42 [.ref l0, .int l1, .ref l2, .int l3, .float 0] [.int x9, .int l3] h8 Q
      refine zX_call (as := [.int l3, .int x9]) (st := []) (fun C hM hc kk => x_callS C [.int l3, .int x9] hM kX5_brokenBits sX5_brokenBits lX5_98 ⟨by decide, by decide⟩ rfl hc (Nat.le_of_ble_eq_true rfl) rfl dX5_sort_42 kk) (zC.mono H ?_)
      rintro r0 h10 ⟨x11, rfl, H⟩
      show zX mX5_sort 45 [.ref l0, .int l1, .ref l2, .int l3, .float 0] [.int x11] h10 Q
      obtain ⟨g12, H⟩ := H
      obtain ⟨a13, ea13, H⟩ := H
      refine zX_seg (pc' := 54) (L' := [.ref l0, .int l1, .ref l2, .int l3, .int x11]) (st' := [.int l1, .int x11, .ref a13]) (h2 := h10) rfl rfl (fun C Cr hc kk => x_istore C (by decide) dX5_sort_45 (x_aload_n C (v := .ref l0) rfl rfl dX5_sort_47 (f_getR1 C lX5_18 g12 rfl ea13 dX5_sort_48 (x_iload C rfl dX5_sort_51 (x_iload_n C rfl dX5_sort_53 (kk)))))) ?_
      refine zX_call (as := [.int x11, .int l1]) (st := [.ref a13]) (fun C hM hc kk => x_callS C [.int x11, .int l1] hM kX5_keptBits sX5_keptBits lX5_118 ⟨by decide, by decide⟩ rfl hc (Nat.le_of_ble_eq_true rfl) rfl dX5_sort_54 kk) (zC.mono H ?_)
      rintro r0 h14 ⟨x15, rfl, H⟩
      show zX mX5_sort 57 [.ref l0, .int l1, .ref l2, .int l3, .int x11] [.int x15, .ref a13] h14 Q
      refine zX_seg (pc' := 58) (L' := [.ref l0, .int l1, .ref l2, .int l3, .int x11]) (st' := [.int (1 : Int32), .int x15, .ref a13]) (h2 := h14) rfl rfl (fun C Cr hc kk => x_iconst C (1 : Int32) (by decide) dX5_sort_57 (kk)) ?_
      refine zX_call (as := [.ref a13, .int x15, .int (1 : Int32)]) (st := []) (fun C hM hc kk => x_callSN C [.ref a13, .int x15, .int (1 : Int32)] hM kX11_put sX11_put lX5_94 ⟨by decide, by decide⟩ rfl hc (Nat.le_of_ble_eq_true rfl) rfl dX5_sort_58 kk) (zC.mono H ?_)
      rintro r0 h16 ⟨rfl, H⟩
      show zX mX5_sort 61 [.ref l0, .int l1, .ref l2, .int l3, .int x11] [] h16 Q
      refine zX_seg (pc' := 63) (L' := [.ref l0, .int l1, .ref l2, .int l3, .int x11]) (st' := [.int x11]) (h2 := h16) rfl rfl (fun C Cr hc kk => x_iload C rfl dX5_sort_61 (kk)) ?_
      refine zX_call (as := [.int x11]) (st := []) (fun C hM hc kk => x_callS C [.int x11] hM kJ6_bitCount_0f7a4 sJ6_bitCount_0f7a4 lX5_102 ⟨by decide, by decide⟩ rfl hc (Nat.le_of_ble_eq_true rfl) rfl dX5_sort_63 kk) (zC.mono H ?_)
      rintro r0 h17 ⟨x18, rfl, H⟩
      show zX mX5_sort 66 [.ref l0, .int l1, .ref l2, .int l3, .int x11] [.int x18] h17 Q
      refine zX_seg (pc' := 67) (L' := [.ref l0, .int l1, .ref l2, .int l3, .int x11]) (st' := [.int (3 : Int32), .int x18]) (h2 := h17) rfl rfl (fun C Cr hc kk => x_iconst C (3 : Int32) (by decide) dX5_sort_66 (kk)) ?_
      refine zX_br (p1 := 101) (p2 := 70) (st' := []) ((3 : Int32) < x18) (fun C kt kf => x_icmp_gt C 101 dX5_sort_67 (by decide) kt kf) (fun q19 => ?_) (fun q19 => ?_)
      · replace H := H.1 q19
        exact zX_wk (wkK (wkK (wkK (wkK (wkK wkN))))) H
      · replace H := H.2 q19
        obtain ⟨g20, H⟩ := H
        obtain ⟨a21, ea21, H⟩ := H
        refine zX_seg (pc' := 81) (L' := [.ref l0, .int l1, .ref l2, .int l3, .int x11]) (st' := [.int l3, .ref l2, .int l3, .int (gI h17 l0 6), .ref a21]) (h2 := h17) rfl rfl (fun C Cr hc kk => x_aload_n C (v := .ref l0) rfl rfl dX5_sort_70 (f_getR1 C lX5_28 g20 rfl ea21 dX5_sort_71 (x_aload_n C (v := .ref l0) rfl rfl dX5_sort_74 (f_getI C lX5_115 g20 rfl dX5_sort_75 (x_iload_n C rfl dX5_sort_78 (x_aload_n C (v := .ref l2) rfl rfl dX5_sort_79 (x_iload_n C rfl dX5_sort_80 (kk)))))))) ?_
        obtain ⟨g22, H⟩ := H
        refine zX_call (as := [.ref l2, .int l3]) (st := [.int l3, .int (gI h17 l0 6), .ref a21]) (fun C hM hc kk => f_callVN C [.int l3] hM kX10_chosenIn vX10_chosenIn lX5_121 ⟨by decide, by decide⟩ (rfl : vwCl[10]? = some (RX10, TX10, 10)) g22 rfl hc (Nat.le_of_ble_eq_true rfl) rfl dX5_sort_81 kk) (zC.mono H ?_)
        rintro r0 h23 ⟨x24, rfl, H⟩
        show zX mX5_sort 84 [.ref l0, .int l1, .ref l2, .int l3, .int x11] [.int x24, .int l3, .int (gI h17 l0 6), .ref a21] h23 Q
        refine zX_seg (pc' := 88) (L' := [.ref l0, .int l1, .ref l2, .int l3, .int x11]) (st' := [.int (l3 ||| (x24 <<< ((16 : Int32) &&& 31))), .int (gI h17 l0 6), .ref a21]) (h2 := h23) rfl rfl (fun C Cr hc kk => x_bipush C (16 : Int32) (by decide) dX5_sort_84 (x_ishl C dX5_sort_86 (x_ior C dX5_sort_87 (kk)))) ?_
        refine zX_call (as := [.ref a21, .int (gI h17 l0 6), .int (l3 ||| (x24 <<< ((16 : Int32) &&& 31)))]) (st := []) (fun C hM hc kk => x_callSN C [.ref a21, .int (gI h17 l0 6), .int (l3 ||| (x24 <<< ((16 : Int32) &&& 31)))] hM kX11_put sX11_put lX5_94 ⟨by decide, by decide⟩ rfl hc (Nat.le_of_ble_eq_true rfl) rfl dX5_sort_88 kk) (zC.mono H ?_)
        rintro r0 h25 ⟨rfl, H⟩
        show zX mX5_sort 91 [.ref l0, .int l1, .ref l2, .int l3, .int x11] [] h25 Q
        obtain ⟨g26, H⟩ := H
        refine zX_seg (pc' := 101) (L' := [.ref l0, .int l1, .ref l2, .int l3, .int x11]) (st' := []) (h2 := (pF h25 l0 6 (.int ((gI h25 l0 6) + (1 : Int32))))) rfl rfl (fun C Cr hc kk => x_aload_n C (v := .ref l0) rfl rfl dX5_sort_91 (x_dup C rfl dX5_sort_92 (f_getI C lX5_115 g26 rfl dX5_sort_93 (x_iconst C (1 : Int32) (by decide) dX5_sort_96 (x_iadd C dX5_sort_97 (f_putI C lX5_115 tX5 nX5_6 g26 rfl rfl dX5_sort_98 (kk))))))) ?_
        obtain ⟨h27, eh27⟩ : ∃ y : zH, y = (pF h25 l0 6 (.int ((gI h25 l0 6) + (1 : Int32)))) := ⟨_, rfl⟩
        replace H := H h27 eh27
        rw [← eh27]
        have g28 : oK h27 l0 5 := by rw [eh27]; exact oK_pF' g26 rfl rfl g26
        exact zX_wk (wkK (wkK (wkK (wkK (wkK wkN))))) H
set_option maxHeartbeats 20000000 in
theorem bX5_sort_101 (l0 : Nat) (l1 : Int32) (l2 : Nat) (l3 : Int32) (l4 : Int32) (h : zH) (Q : Option Value → zH → Prop) (H : (l4 = 0 → (oK h l0 5 ∧ (∃ a3 : Nat, gR h l0 3 = some a3 ∧ (zC mX11_put [.ref a3, .int (gI h l0 5), .int l3] h (fun r0 h4 => r0 = none ∧ (oK h4 l0 5 ∧ (∀ h6 : zH, h6 = (pF h4 l0 5 (.int ((gI h4 l0 5) + (1 : Int32)))) → (zX mX5_sort 20 [.ref l0, .int l1, .ref l2, .int (l3 + 1), .float 0] [] h6 Q)))))))) ∧ (¬ (l4 = 0) → (zX mX5_sort 20 [.ref l0, .int l1, .ref l2, .int (l3 + 1), .float 0] [] h Q))) : zX mX5_sort 101 [.ref l0, .int l1, .ref l2, .int l3, .int l4] [] h Q := by
  refine zX_seg (pc' := 103) (L' := [.ref l0, .int l1, .ref l2, .int l3, .int l4]) (st' := [.int l4]) (h2 := h) rfl rfl (fun C Cr hc kk => x_iload C rfl dX5_sort_101 (kk)) ?_
  refine zX_br (p1 := 106) (p2 := 128) (st' := []) (l4 = 0) (fun C kt kf => x_if_ne C 128 dX5_sort_103 (by decide) kf kt) (fun q1 => ?_) (fun q1 => ?_)
  · replace H := H.1 q1
    obtain ⟨g2, H⟩ := H
    obtain ⟨a3, ea3, H⟩ := H
    refine zX_seg (pc' := 115) (L' := [.ref l0, .int l1, .ref l2, .int l3, .int l4]) (st' := [.int l3, .int (gI h l0 5), .ref a3]) (h2 := h) rfl rfl (fun C Cr hc kk => x_aload_n C (v := .ref l0) rfl rfl dX5_sort_106 (f_getR1 C lX5_25 g2 rfl ea3 dX5_sort_107 (x_aload_n C (v := .ref l0) rfl rfl dX5_sort_110 (f_getI C lX5_112 g2 rfl dX5_sort_111 (x_iload_n C rfl dX5_sort_114 (kk)))))) ?_
    refine zX_call (as := [.ref a3, .int (gI h l0 5), .int l3]) (st := []) (fun C hM hc kk => x_callSN C [.ref a3, .int (gI h l0 5), .int l3] hM kX11_put sX11_put lX5_94 ⟨by decide, by decide⟩ rfl hc (Nat.le_of_ble_eq_true rfl) rfl dX5_sort_115 kk) (zC.mono H ?_)
    rintro r0 h4 ⟨rfl, H⟩
    show zX mX5_sort 118 [.ref l0, .int l1, .ref l2, .int l3, .int l4] [] h4 Q
    obtain ⟨g5, H⟩ := H
    refine zX_seg (pc' := 128) (L' := [.ref l0, .int l1, .ref l2, .int l3, .int l4]) (st' := []) (h2 := (pF h4 l0 5 (.int ((gI h4 l0 5) + (1 : Int32))))) rfl rfl (fun C Cr hc kk => x_aload_n C (v := .ref l0) rfl rfl dX5_sort_118 (x_dup C rfl dX5_sort_119 (f_getI C lX5_112 g5 rfl dX5_sort_120 (x_iconst C (1 : Int32) (by decide) dX5_sort_123 (x_iadd C dX5_sort_124 (f_putI C lX5_112 tX5 nX5_5 g5 rfl rfl dX5_sort_125 (kk))))))) ?_
    obtain ⟨h6, eh6⟩ : ∃ y : zH, y = (pF h4 l0 5 (.int ((gI h4 l0 5) + (1 : Int32)))) := ⟨_, rfl⟩
    replace H := H h6 eh6
    rw [← eh6]
    have g7 : oK h6 l0 5 := by rw [eh6]; exact oK_pF' g5 rfl rfl g5
    refine zX_seg (pc' := 20) (L' := [.ref l0, .int l1, .ref l2, .int (l3 + 1), .int l4]) (st' := []) (h2 := h6) rfl rfl (fun C Cr hc kk => x_iinc C (l3 + 1) rfl (congrArg (HAdd.hAdd _) (by decide)) (by decide) dX5_sort_128 (x_goto C 20 dX5_sort_131 (by decide) (kk))) ?_
    exact zX_wk (wkK (wkK (wkK (wkK (wkD wkN))))) H
  · replace H := H.2 q1
    refine zX_seg (pc' := 20) (L' := [.ref l0, .int l1, .ref l2, .int (l3 + 1), .int l4]) (st' := []) (h2 := h) rfl rfl (fun C Cr hc kk => x_iinc C (l3 + 1) rfl (congrArg (HAdd.hAdd _) (by decide)) (by decide) dX5_sort_128 (x_goto C 20 dX5_sort_131 (by decide) (kk))) ?_
    exact zX_wk (wkK (wkK (wkK (wkK (wkD wkN))))) H
theorem nX5_sort (t : Nat) (p0 : Int32) (p1 : Nat) (h : zH) (Q : Option Value → zH → Prop) (H : zX mX5_sort 0 [.ref t, .int p0, .ref p1, .float 0, .float 0] [] h Q) : zC mX5_sort [.ref t, .int p0, .ref p1] h Q := zC_of (by decide +kernel) (by simp) (Nat.le_of_ble_eq_true rfl) H
set_option maxHeartbeats 20000000 in
theorem bX5_keptBits_0 (p0 : Int32) (p1 : Int32) (h : zH) (Q : Option Value → zH → Prop) (H : zC mX5_narrowed [.int (((p0 ^^^ (-1 : Int32)) &&& (21845 : Int32)) &&& (p1 - (1 : Int32)))] h (fun r0 h1 => ∃ x2 : Int32, r0 = some (.int x2) ∧ (Q (some (.int x2)) h1))) : zX mX5_keptBits 0 [.int p0, .int p1] [] h Q := by
  refine zX_seg (pc' := 11) (L' := [.int p0, .int p1]) (st' := [.int (((p0 ^^^ (-1 : Int32)) &&& (21845 : Int32)) &&& (p1 - (1 : Int32)))]) (h2 := h) rfl rfl (fun C Cr hc kk => x_iload_n C rfl dX5_keptBits_0 (x_iconst C (-1 : Int32) (by decide) dX5_keptBits_1 (x_ixor C dX5_keptBits_2 (x_sipush C (21845 : Int32) (by decide) dX5_keptBits_3 (x_iand C dX5_keptBits_6 (x_iload_n C rfl dX5_keptBits_7 (x_iconst C (1 : Int32) (by decide) dX5_keptBits_8 (x_isub C dX5_keptBits_9 (x_iand C dX5_keptBits_10 (kk)))))))))) ?_
  refine zX_call (as := [.int (((p0 ^^^ (-1 : Int32)) &&& (21845 : Int32)) &&& (p1 - (1 : Int32)))]) (st := []) (fun C hM hc kk => x_callS C [.int (((p0 ^^^ (-1 : Int32)) &&& (21845 : Int32)) &&& (p1 - (1 : Int32)))] hM kX5_narrowed sX5_narrowed lX5_124 ⟨by decide, by decide⟩ rfl hc (Nat.le_of_ble_eq_true rfl) rfl dX5_keptBits_11 kk) (zC.mono H ?_)
  rintro r0 h1 ⟨x2, rfl, H⟩
  show zX mX5_keptBits 14 [.int p0, .int p1] [.int x2] h1 Q
  exact zX_ret (some (.int x2)) (fun C Cr hc => x_iret C Cr rfl rfl hc dX5_keptBits_14 ⟨rfl, rfl⟩) H
theorem nX5_keptBits (p0 : Int32) (p1 : Int32) (h : zH) (Q : Option Value → zH → Prop) (H : zX mX5_keptBits 0 [.int p0, .int p1] [] h Q) : zC mX5_keptBits [.int p0, .int p1] h Q := zC_of (by decide +kernel) (by simp) (Nat.le_of_ble_eq_true rfl) H
set_option maxHeartbeats 20000000 in
theorem bX5_narrowed_0 (p0 : Int32) (h : zH) (Q : Option Value → zH → Prop) (H : Q (some (.int ((((((p0 ||| (p0 >>> ((1 : Int32) &&& 31))) &&& (13107 : Int32)) ||| (((p0 ||| (p0 >>> ((1 : Int32) &&& 31))) &&& (13107 : Int32)) >>> ((2 : Int32) &&& 31))) &&& (3855 : Int32)) ||| (((((p0 ||| (p0 >>> ((1 : Int32) &&& 31))) &&& (13107 : Int32)) ||| (((p0 ||| (p0 >>> ((1 : Int32) &&& 31))) &&& (13107 : Int32)) >>> ((2 : Int32) &&& 31))) &&& (3855 : Int32)) >>> ((4 : Int32) &&& 31))) &&& (255 : Int32)))) h) : zX mX5_narrowed 0 [.int p0, .float 0, .float 0] [] h Q := by
  refine zX_seg (pc' := 29) (L' := [.int p0, .int ((p0 ||| (p0 >>> ((1 : Int32) &&& 31))) &&& (13107 : Int32)), .int ((((p0 ||| (p0 >>> ((1 : Int32) &&& 31))) &&& (13107 : Int32)) ||| (((p0 ||| (p0 >>> ((1 : Int32) &&& 31))) &&& (13107 : Int32)) >>> ((2 : Int32) &&& 31))) &&& (3855 : Int32))]) (st' := [.int ((((((p0 ||| (p0 >>> ((1 : Int32) &&& 31))) &&& (13107 : Int32)) ||| (((p0 ||| (p0 >>> ((1 : Int32) &&& 31))) &&& (13107 : Int32)) >>> ((2 : Int32) &&& 31))) &&& (3855 : Int32)) ||| (((((p0 ||| (p0 >>> ((1 : Int32) &&& 31))) &&& (13107 : Int32)) ||| (((p0 ||| (p0 >>> ((1 : Int32) &&& 31))) &&& (13107 : Int32)) >>> ((2 : Int32) &&& 31))) &&& (3855 : Int32)) >>> ((4 : Int32) &&& 31))) &&& (255 : Int32))]) (h2 := h) rfl rfl (fun C Cr hc kk => x_iload_n C rfl dX5_narrowed_0 (x_iload_n C rfl dX5_narrowed_1 (x_iconst C (1 : Int32) (by decide) dX5_narrowed_2 (x_ishr C dX5_narrowed_3 (x_ior C dX5_narrowed_4 (x_sipush C (13107 : Int32) (by decide) dX5_narrowed_5 (x_iand C dX5_narrowed_8 (x_istore_n C (by decide) dX5_narrowed_9 (x_iload_n C rfl dX5_narrowed_10 (x_iload_n C rfl dX5_narrowed_11 (x_iconst C (2 : Int32) (by decide) dX5_narrowed_12 (x_ishr C dX5_narrowed_13 (x_ior C dX5_narrowed_14 (x_sipush C (3855 : Int32) (by decide) dX5_narrowed_15 (x_iand C dX5_narrowed_18 (x_istore_n C (by decide) dX5_narrowed_19 (x_iload_n C rfl dX5_narrowed_20 (x_iload_n C rfl dX5_narrowed_21 (x_iconst C (4 : Int32) (by decide) dX5_narrowed_22 (x_ishr C dX5_narrowed_23 (x_ior C dX5_narrowed_24 (x_sipush C (255 : Int32) (by decide) dX5_narrowed_25 (x_iand C dX5_narrowed_28 (kk)))))))))))))))))))))))) ?_
  exact zX_ret (some (.int ((((((p0 ||| (p0 >>> ((1 : Int32) &&& 31))) &&& (13107 : Int32)) ||| (((p0 ||| (p0 >>> ((1 : Int32) &&& 31))) &&& (13107 : Int32)) >>> ((2 : Int32) &&& 31))) &&& (3855 : Int32)) ||| (((((p0 ||| (p0 >>> ((1 : Int32) &&& 31))) &&& (13107 : Int32)) ||| (((p0 ||| (p0 >>> ((1 : Int32) &&& 31))) &&& (13107 : Int32)) >>> ((2 : Int32) &&& 31))) &&& (3855 : Int32)) >>> ((4 : Int32) &&& 31))) &&& (255 : Int32)))) (fun C Cr hc => x_iret C Cr rfl rfl hc dX5_narrowed_29 ⟨rfl, rfl⟩) H
theorem nX5_narrowed (p0 : Int32) (h : zH) (Q : Option Value → zH → Prop) (H : zX mX5_narrowed 0 [.int p0, .float 0, .float 0] [] h Q) : zC mX5_narrowed [.int p0] h Q := zC_of (by decide +kernel) (by simp) (Nat.le_of_ble_eq_true rfl) H
set_option maxHeartbeats 20000000 in
theorem bX5_closeDownwards_0 (t : Nat) (h : zH) (Q : Option Value → zH → Prop) (H : oK h t 5 ∧ (∃ a2 : Nat, gR h t 1 = some a2 ∧ (iK h a2 0 ∧ (zX mX5_closeDownwards 8 [.ref t, .int ((nI (aN h a2)) - (1 : Int32)), .float 0] [] h Q)))) : zX mX5_closeDownwards 0 [.ref t, .float 0, .float 0] [] h Q := by
  obtain ⟨g1, H⟩ := H
  obtain ⟨a2, ea2, H⟩ := H
  obtain ⟨g3, H⟩ := H
  refine zX_seg (pc' := 8) (L' := [.ref t, .int ((nI (aN h a2)) - (1 : Int32)), .float 0]) (st' := []) (h2 := h) rfl rfl (fun C Cr hc kk => x_aload_n C (v := .ref t) rfl rfl dX5_closeDownwards_0 (f_getR1 C lX5_18 g1 rfl ea2 dX5_closeDownwards_1 (f_alenI C (by decide) g3 dX5_closeDownwards_4 (x_iconst C (1 : Int32) (by decide) dX5_closeDownwards_5 (x_isub C dX5_closeDownwards_6 (x_istore_n C (by decide) dX5_closeDownwards_7 (kk))))))) ?_
  exact zX_wk (wkK (wkK (wkD wkN))) H
set_option maxHeartbeats 20000000 in
theorem bX5_closeDownwards_8 (l0 : Nat) (l1 : Int32) (h : zH) (Q : Option Value → zH → Prop) (H : (l1 < 0 → (Q none h)) ∧ (¬ (l1 < 0) → (zX mX5_closeDownwards 14 [.ref l0, .int l1, .int (0 : Int32)] [] h Q))) : zX mX5_closeDownwards 8 [.ref l0, .int l1, .float 0] [] h Q := by
  refine zX_seg (pc' := 9) (L' := [.ref l0, .int l1, .float 0]) (st' := [.int l1]) (h2 := h) rfl rfl (fun C Cr hc kk => x_iload_n C rfl dX5_closeDownwards_8 (kk)) ?_
  refine zX_br (p1 := 57) (p2 := 12) (st' := []) (l1 < 0) (fun C kt kf => x_if_lt C 57 dX5_closeDownwards_9 (by decide) kt kf) (fun q1 => ?_) (fun q1 => ?_)
  · replace H := H.1 q1
    exact zX_ret none (fun C Cr hc => x_ret C Cr rfl hc dX5_closeDownwards_57 ⟨rfl, rfl⟩) H
  · replace H := H.2 q1
    refine zX_seg (pc' := 14) (L' := [.ref l0, .int l1, .int (0 : Int32)]) (st' := []) (h2 := h) rfl rfl (fun C Cr hc kk => x_iconst C (0 : Int32) (by decide) dX5_closeDownwards_12 (x_istore_n C (by decide) dX5_closeDownwards_13 (kk))) ?_
    exact zX_wk (wkK (wkK (wkK wkN))) H
set_option maxHeartbeats 20000000 in
theorem bX5_closeDownwards_14 (l0 : Nat) (l1 : Int32) (l2 : Int32) (h : zH) (Q : Option Value → zH → Prop) (H : ((8 : Int32) ≤ l2 → (zX mX5_closeDownwards 8 [.ref l0, .int (l1 + (-1)), .float 0] [] h Q)) ∧ (¬ ((8 : Int32) ≤ l2) → (oK h l0 5 ∧ (∃ a3 : Nat, gR h l0 1 = some a3 ∧ (iK h a3 0 ∧ (vp_in l1 (aN h a3) ∧ (((aI h a3 l1.toNatClampNeg) = (1 : Int32) → (zC mX11_put [.ref a3, .int (l1 &&& (((1 : Int32) <<< (l2 &&& 31)) ^^^ (-1 : Int32))), .int (1 : Int32)] h (fun r0 h7 => r0 = none ∧ (zX mX5_closeDownwards 14 [.ref l0, .int l1, .int (l2 + 1)] [] h7 Q)))) ∧ (¬ ((aI h a3 l1.toNatClampNeg) = (1 : Int32)) → (zX mX5_closeDownwards 8 [.ref l0, .int (l1 + (-1)), .float 0] [] h Q))))))))) : zX mX5_closeDownwards 14 [.ref l0, .int l1, .int l2] [] h Q := by
  refine zX_seg (pc' := 17) (L' := [.ref l0, .int l1, .int l2]) (st' := [.int (8 : Int32), .int l2]) (h2 := h) rfl rfl (fun C Cr hc kk => x_iload_n C rfl dX5_closeDownwards_14 (x_bipush C (8 : Int32) (by decide) dX5_closeDownwards_15 (kk))) ?_
  refine zX_br (p1 := 51) (p2 := 20) (st' := []) ((8 : Int32) ≤ l2) (fun C kt kf => x_icmp_ge C 51 dX5_closeDownwards_17 (by decide) kt kf) (fun q1 => ?_) (fun q1 => ?_)
  · replace H := H.1 q1
    refine zX_seg (pc' := 8) (L' := [.ref l0, .int (l1 + (-1)), .int l2]) (st' := []) (h2 := h) rfl rfl (fun C Cr hc kk => x_iinc C (l1 + (-1)) rfl (congrArg (HAdd.hAdd _) (by decide)) (by decide) dX5_closeDownwards_51 (x_goto C 8 dX5_closeDownwards_54 (by decide) (kk))) ?_
    exact zX_wk (wkK (wkK (wkD wkN))) H
  · replace H := H.2 q1
    obtain ⟨g2, H⟩ := H
    obtain ⟨a3, ea3, H⟩ := H
    obtain ⟨g5, H⟩ := H
    obtain ⟨g4, H⟩ := H
    refine zX_seg (pc' := 27) (L' := [.ref l0, .int l1, .int l2]) (st' := [.int (1 : Int32), .int (aI h a3 l1.toNatClampNeg)]) (h2 := h) rfl rfl (fun C Cr hc kk => x_aload_n C (v := .ref l0) rfl rfl dX5_closeDownwards_20 (f_getR1 C lX5_18 g2 rfl ea3 dX5_closeDownwards_21 (x_iload_n C rfl dX5_closeDownwards_24 (f_iald C g5 g4 dX5_closeDownwards_25 (x_iconst C (1 : Int32) (by decide) dX5_closeDownwards_26 (kk)))))) ?_
    refine zX_br (p1 := 30) (p2 := 51) (st' := []) ((aI h a3 l1.toNatClampNeg) = (1 : Int32)) (fun C kt kf => x_icmp_ne C 51 dX5_closeDownwards_27 (by decide) kf kt) (fun q6 => ?_) (fun q6 => ?_)
    · replace H := H.1 q6
      refine zX_seg (pc' := 42) (L' := [.ref l0, .int l1, .int l2]) (st' := [.int (1 : Int32), .int (l1 &&& (((1 : Int32) <<< (l2 &&& 31)) ^^^ (-1 : Int32))), .ref a3]) (h2 := h) rfl rfl (fun C Cr hc kk => x_aload_n C (v := .ref l0) rfl rfl dX5_closeDownwards_30 (f_getR1 C lX5_18 g2 rfl ea3 dX5_closeDownwards_31 (x_iload_n C rfl dX5_closeDownwards_34 (x_iconst C (1 : Int32) (by decide) dX5_closeDownwards_35 (x_iload_n C rfl dX5_closeDownwards_36 (x_ishl C dX5_closeDownwards_37 (x_iconst C (-1 : Int32) (by decide) dX5_closeDownwards_38 (x_ixor C dX5_closeDownwards_39 (x_iand C dX5_closeDownwards_40 (x_iconst C (1 : Int32) (by decide) dX5_closeDownwards_41 (kk))))))))))) ?_
      refine zX_call (as := [.ref a3, .int (l1 &&& (((1 : Int32) <<< (l2 &&& 31)) ^^^ (-1 : Int32))), .int (1 : Int32)]) (st := []) (fun C hM hc kk => x_callSN C [.ref a3, .int (l1 &&& (((1 : Int32) <<< (l2 &&& 31)) ^^^ (-1 : Int32))), .int (1 : Int32)] hM kX11_put sX11_put lX5_94 ⟨by decide, by decide⟩ rfl hc (Nat.le_of_ble_eq_true rfl) rfl dX5_closeDownwards_42 kk) (zC.mono H ?_)
      rintro r0 h7 ⟨rfl, H⟩
      show zX mX5_closeDownwards 45 [.ref l0, .int l1, .int l2] [] h7 Q
      refine zX_seg (pc' := 14) (L' := [.ref l0, .int l1, .int (l2 + 1)]) (st' := []) (h2 := h7) rfl rfl (fun C Cr hc kk => x_iinc C (l2 + 1) rfl (congrArg (HAdd.hAdd _) (by decide)) (by decide) dX5_closeDownwards_45 (x_goto C 14 dX5_closeDownwards_48 (by decide) (kk))) ?_
      exact zX_wk (wkK (wkK (wkK wkN))) H
    · replace H := H.2 q6
      refine zX_seg (pc' := 8) (L' := [.ref l0, .int (l1 + (-1)), .int l2]) (st' := []) (h2 := h) rfl rfl (fun C Cr hc kk => x_iinc C (l1 + (-1)) rfl (congrArg (HAdd.hAdd _) (by decide)) (by decide) dX5_closeDownwards_51 (x_goto C 8 dX5_closeDownwards_54 (by decide) (kk))) ?_
      exact zX_wk (wkK (wkK (wkD wkN))) H
theorem nX5_closeDownwards (t : Nat) (h : zH) (Q : Option Value → zH → Prop) (H : zX mX5_closeDownwards 0 [.ref t, .float 0, .float 0] [] h Q) : zC mX5_closeDownwards [.ref t] h Q := zC_of (by decide +kernel) (by simp) (Nat.le_of_ble_eq_true rfl) H
set_option maxHeartbeats 20000000 in
theorem bX5_hasStanding_0 (t : Nat) (p0 : Int32) (h : zH) (Q : Option Value → zH → Prop) (H : (p0 < 0 → (Q (some (.int (0 : Int32))) h)) ∧ (¬ (p0 < 0) → (oK h t 5 ∧ (((gI h t 5) ≤ p0 → (Q (some (.int (0 : Int32))) h)) ∧ (¬ ((gI h t 5) ≤ p0) → (Q (some (.int (1 : Int32))) h)))))) : zX mX5_hasStanding 0 [.ref t, .int p0] [] h Q := by
  refine zX_seg (pc' := 1) (L' := [.ref t, .int p0]) (st' := [.int p0]) (h2 := h) rfl rfl (fun C Cr hc kk => x_iload_n C rfl dX5_hasStanding_0 (kk)) ?_
  refine zX_br (p1 := 16) (p2 := 4) (st' := []) (p0 < 0) (fun C kt kf => x_if_lt C 16 dX5_hasStanding_1 (by decide) kt kf) (fun q1 => ?_) (fun q1 => ?_)
  · replace H := H.1 q1
    refine zX_seg (pc' := 17) (L' := [.ref t, .int p0]) (st' := [.int (0 : Int32)]) (h2 := h) rfl rfl (fun C Cr hc kk => x_iconst C (0 : Int32) (by decide) dX5_hasStanding_16 (kk)) ?_
    exact zX_ret (some (.int (0 : Int32))) (fun C Cr hc => x_iret C Cr rfl rfl hc dX5_hasStanding_17 ⟨rfl, rfl⟩) H
  · replace H := H.2 q1
    obtain ⟨g2, H⟩ := H
    refine zX_seg (pc' := 9) (L' := [.ref t, .int p0]) (st' := [.int (gI h t 5), .int p0]) (h2 := h) rfl rfl (fun C Cr hc kk => x_iload_n C rfl dX5_hasStanding_4 (x_aload_n C (v := .ref t) rfl rfl dX5_hasStanding_5 (f_getI C lX5_112 g2 rfl dX5_hasStanding_6 (kk)))) ?_
    refine zX_br (p1 := 16) (p2 := 12) (st' := []) ((gI h t 5) ≤ p0) (fun C kt kf => x_icmp_ge C 16 dX5_hasStanding_9 (by decide) kt kf) (fun q3 => ?_) (fun q3 => ?_)
    · replace H := H.1 q3
      refine zX_seg (pc' := 17) (L' := [.ref t, .int p0]) (st' := [.int (0 : Int32)]) (h2 := h) rfl rfl (fun C Cr hc kk => x_iconst C (0 : Int32) (by decide) dX5_hasStanding_16 (kk)) ?_
      exact zX_ret (some (.int (0 : Int32))) (fun C Cr hc => x_iret C Cr rfl rfl hc dX5_hasStanding_17 ⟨rfl, rfl⟩) H
    · replace H := H.2 q3
      refine zX_seg (pc' := 17) (L' := [.ref t, .int p0]) (st' := [.int (1 : Int32)]) (h2 := h) rfl rfl (fun C Cr hc kk => x_iconst C (1 : Int32) (by decide) dX5_hasStanding_12 (x_goto C 17 dX5_hasStanding_13 (by decide) (kk))) ?_
      exact zX_ret (some (.int (1 : Int32))) (fun C Cr hc => x_iret C Cr rfl rfl hc dX5_hasStanding_17 ⟨rfl, rfl⟩) H
theorem nX5_hasStanding (t : Nat) (p0 : Int32) (h : zH) (Q : Option Value → zH → Prop) (H : zX mX5_hasStanding 0 [.ref t, .int p0] [] h Q) : zC mX5_hasStanding [.ref t, .int p0] h Q := zC_of (by decide +kernel) (by simp) (Nat.le_of_ble_eq_true rfl) H
set_option maxHeartbeats 20000000 in
theorem bX5_leastUnkept_0 (t : Nat) (p0 : Nat) (h : zH) (Q : Option Value → zH → Prop) (H : zX mX5_leastUnkept 4 [.ref t, .ref p0, .int (-1 : Int32), .int (0 : Int32), .float 0] [] h Q) : zX mX5_leastUnkept 0 [.ref t, .ref p0, .float 0, .float 0, .float 0] [] h Q := by
  refine zX_seg (pc' := 4) (L' := [.ref t, .ref p0, .int (-1 : Int32), .int (0 : Int32), .float 0]) (st' := []) (h2 := h) rfl rfl (fun C Cr hc kk => x_iconst C (-1 : Int32) (by decide) dX5_leastUnkept_0 (x_istore_n C (by decide) dX5_leastUnkept_1 (x_iconst C (0 : Int32) (by decide) dX5_leastUnkept_2 (x_istore_n C (by decide) dX5_leastUnkept_3 (kk))))) ?_
  exact zX_wk (wkK (wkK (wkK (wkK (wkD wkN))))) H
set_option maxHeartbeats 20000000 in
theorem bX5_leastUnkept_4 (l0 : Nat) (l1 : Nat) (l2 : Int32) (l3 : Int32) (h : zH) (Q : Option Value → zH → Prop) (H : oK h l1 10 ∧ ((((1 : Int32) <<< ((gI h l1 8) &&& 31)) ≤ l3 → (Q (some (.int l2)) h)) ∧ (¬ (((1 : Int32) <<< ((gI h l1 8) &&& 31)) ≤ l3) → ((l2 = (-1 : Int32) → (zX mX5_leastUnkept 30 [.ref l0, .ref l1, .int l2, .int l3, .float 0] [] h Q)) ∧ (¬ (l2 = (-1 : Int32)) → (zC mJ6_bitCount_0f7a4 [.int l3] h (fun r0 h4 => ∃ x5 : Int32, r0 = some (.int x5) ∧ (zC mJ6_bitCount_0f7a4 [.int l2] h4 (fun r0 h6 => ∃ x7 : Int32, r0 = some (.int x7) ∧ ((x7 ≤ x5 → (zX mX5_leastUnkept 35 [.ref l0, .ref l1, .int l2, .int l3, .float 0] [.int (0 : Int32)] h6 Q)) ∧ (¬ (x7 ≤ x5) → (zX mX5_leastUnkept 30 [.ref l0, .ref l1, .int l2, .int l3, .float 0] [] h6 Q)))))))))))) : zX mX5_leastUnkept 4 [.ref l0, .ref l1, .int l2, .int l3, .float 0] [] h Q := by
  obtain ⟨g1, H⟩ := H
  refine zX_seg (pc' := 11) (L' := [.ref l0, .ref l1, .int l2, .int l3, .float 0]) (st' := [.int ((1 : Int32) <<< ((gI h l1 8) &&& 31)), .int l3]) (h2 := h) rfl rfl (fun C Cr hc kk => x_iload_n C rfl dX5_leastUnkept_4 (x_iconst C (1 : Int32) (by decide) dX5_leastUnkept_5 (x_aload_n C (v := .ref l1) rfl rfl dX5_leastUnkept_6 (f_getIN C lX5_39 g1 rfl dX5_leastUnkept_7 (x_ishl C dX5_leastUnkept_10 (kk)))))) ?_
  refine zX_br (p1 := 72) (p2 := 14) (st' := []) (((1 : Int32) <<< ((gI h l1 8) &&& 31)) ≤ l3) (fun C kt kf => x_icmp_ge C 72 dX5_leastUnkept_11 (by decide) kt kf) (fun q2 => ?_) (fun q2 => ?_)
  · replace H := H.1 q2
    refine zX_seg (pc' := 73) (L' := [.ref l0, .ref l1, .int l2, .int l3, .float 0]) (st' := [.int l2]) (h2 := h) rfl rfl (fun C Cr hc kk => x_iload_n C rfl dX5_leastUnkept_72 (kk)) ?_
    exact zX_ret (some (.int l2)) (fun C Cr hc => x_iret C Cr rfl rfl hc dX5_leastUnkept_73 ⟨rfl, rfl⟩) H
  · replace H := H.2 q2
    refine zX_seg (pc' := 16) (L' := [.ref l0, .ref l1, .int l2, .int l3, .float 0]) (st' := [.int (-1 : Int32), .int l2]) (h2 := h) rfl rfl (fun C Cr hc kk => x_iload_n C rfl dX5_leastUnkept_14 (x_iconst C (-1 : Int32) (by decide) dX5_leastUnkept_15 (kk))) ?_
    refine zX_br (p1 := 30) (p2 := 19) (st' := []) (l2 = (-1 : Int32)) (fun C kt kf => x_icmp_eq C 30 dX5_leastUnkept_16 (by decide) kt kf) (fun q3 => ?_) (fun q3 => ?_)
    · replace H := H.1 q3
      exact zX_wk (wkK (wkK (wkK (wkK (wkD wkN))))) H
    · replace H := H.2 q3
      refine zX_seg (pc' := 20) (L' := [.ref l0, .ref l1, .int l2, .int l3, .float 0]) (st' := [.int l3]) (h2 := h) rfl rfl (fun C Cr hc kk => x_iload_n C rfl dX5_leastUnkept_19 (kk)) ?_
      refine zX_call (as := [.int l3]) (st := []) (fun C hM hc kk => x_callS C [.int l3] hM kJ6_bitCount_0f7a4 sJ6_bitCount_0f7a4 lX5_102 ⟨by decide, by decide⟩ rfl hc (Nat.le_of_ble_eq_true rfl) rfl dX5_leastUnkept_20 kk) (zC.mono H ?_)
      rintro r0 h4 ⟨x5, rfl, H⟩
      show zX mX5_leastUnkept 23 [.ref l0, .ref l1, .int l2, .int l3, .float 0] [.int x5] h4 Q
      refine zX_seg (pc' := 24) (L' := [.ref l0, .ref l1, .int l2, .int l3, .float 0]) (st' := [.int l2, .int x5]) (h2 := h4) rfl rfl (fun C Cr hc kk => x_iload_n C rfl dX5_leastUnkept_23 (kk)) ?_
      refine zX_call (as := [.int l2]) (st := [.int x5]) (fun C hM hc kk => x_callS C [.int l2] hM kJ6_bitCount_0f7a4 sJ6_bitCount_0f7a4 lX5_102 ⟨by decide, by decide⟩ rfl hc (Nat.le_of_ble_eq_true rfl) rfl dX5_leastUnkept_24 kk) (zC.mono H ?_)
      rintro r0 h6 ⟨x7, rfl, H⟩
      show zX mX5_leastUnkept 27 [.ref l0, .ref l1, .int l2, .int l3, .float 0] [.int x7, .int x5] h6 Q
      refine zX_br (p1 := 34) (p2 := 30) (st' := []) (x7 ≤ x5) (fun C kt kf => x_icmp_ge C 34 dX5_leastUnkept_27 (by decide) kt kf) (fun q8 => ?_) (fun q8 => ?_)
      · replace H := H.1 q8
        refine zX_seg (pc' := 35) (L' := [.ref l0, .ref l1, .int l2, .int l3, .float 0]) (st' := [.int (0 : Int32)]) (h2 := h6) rfl rfl (fun C Cr hc kk => x_iconst C (0 : Int32) (by decide) dX5_leastUnkept_34 (kk)) ?_
        exact zX_wk (wkK (wkK (wkK (wkK (wkD wkN))))) H
      · replace H := H.2 q8
        exact zX_wk (wkK (wkK (wkK (wkK (wkD wkN))))) H
set_option maxHeartbeats 20000000 in
theorem bX5_leastUnkept_30 (l0 : Nat) (l1 : Nat) (l2 : Int32) (l3 : Int32) (h : zH) (Q : Option Value → zH → Prop) (H : zX mX5_leastUnkept 35 [.ref l0, .ref l1, .int l2, .int l3, .float 0] [.int (1 : Int32)] h Q) : zX mX5_leastUnkept 30 [.ref l0, .ref l1, .int l2, .int l3, .float 0] [] h Q := by
  refine zX_seg (pc' := 35) (L' := [.ref l0, .ref l1, .int l2, .int l3, .float 0]) (st' := [.int (1 : Int32)]) (h2 := h) rfl rfl (fun C Cr hc kk => x_iconst C (1 : Int32) (by decide) dX5_leastUnkept_30 (x_goto C 35 dX5_leastUnkept_31 (by decide) (kk))) ?_
  exact zX_wk (wkK (wkK (wkK (wkK (wkD wkN))))) H
set_option maxHeartbeats 20000000 in
theorem bX5_leastUnkept_35 (l0 : Nat) (l1 : Nat) (l2 : Int32) (l3 : Int32) (s0 : Int32) (h : zH) (Q : Option Value → zH → Prop) (H : (s0 = 0 → (zX mX5_leastUnkept 4 [.ref l0, .ref l1, .int l2, .int (l3 + 1), .float 0] [] h Q)) ∧ (¬ (s0 = 0) → (oK h l0 5 ∧ (∃ a3 : Nat, gR h l0 1 = some a3 ∧ (oK h l1 10 ∧ (zC mX10_bitsInRows [.ref l1, .int l3] h (fun r0 h5 => ∃ x6 : Int32, r0 = some (.int x6) ∧ (zC mX5_narrowed [.int (x6 &&& (21845 : Int32))] h5 (fun r0 h7 => ∃ x8 : Int32, r0 = some (.int x8) ∧ (zC mX11_at [.ref a3, .int x8] h7 (fun r0 h9 => ∃ x10 : Int32, r0 = some (.int x10) ∧ ((x10 = 0 → (zX mX5_leastUnkept 4 [.ref l0, .ref l1, .int l3, .int (l3 + 1), .float 0] [] h9 Q)) ∧ (¬ (x10 = 0) → (zX mX5_leastUnkept 4 [.ref l0, .ref l1, .int l2, .int (l3 + 1), .float 0] [] h9 Q)))))))))))))) : zX mX5_leastUnkept 35 [.ref l0, .ref l1, .int l2, .int l3, .float 0] [.int s0] h Q := by
  refine zX_seg (pc' := 39) (L' := [.ref l0, .ref l1, .int l2, .int l3, .int s0]) (st' := [.int s0]) (h2 := h) rfl rfl (fun C Cr hc kk => x_istore C (by decide) dX5_leastUnkept_35 (x_iload C rfl dX5_leastUnkept_37 (kk))) ?_
  refine zX_br (p1 := 66) (p2 := 42) (st' := []) (s0 = 0) (fun C kt kf => x_if_eq C 66 dX5_leastUnkept_39 (by decide) kt kf) (fun q1 => ?_) (fun q1 => ?_)
  · replace H := H.1 q1
    refine zX_seg (pc' := 4) (L' := [.ref l0, .ref l1, .int l2, .int (l3 + 1), .int s0]) (st' := []) (h2 := h) rfl rfl (fun C Cr hc kk => x_iinc C (l3 + 1) rfl (congrArg (HAdd.hAdd _) (by decide)) (by decide) dX5_leastUnkept_66 (x_goto C 4 dX5_leastUnkept_69 (by decide) (kk))) ?_
    exact zX_wk (wkK (wkK (wkK (wkK (wkD wkN))))) H
  · replace H := H.2 q1
    obtain ⟨g2, H⟩ := H
    obtain ⟨a3, ea3, H⟩ := H
    refine zX_seg (pc' := 48) (L' := [.ref l0, .ref l1, .int l2, .int l3, .int s0]) (st' := [.int l3, .ref l1, .ref a3]) (h2 := h) rfl rfl (fun C Cr hc kk => x_aload_n C (v := .ref l0) rfl rfl dX5_leastUnkept_42 (f_getR1 C lX5_18 g2 rfl ea3 dX5_leastUnkept_43 (x_aload_n C (v := .ref l1) rfl rfl dX5_leastUnkept_46 (x_iload_n C rfl dX5_leastUnkept_47 (kk))))) ?_
    obtain ⟨g4, H⟩ := H
    refine zX_call (as := [.ref l1, .int l3]) (st := [.ref a3]) (fun C hM hc kk => f_callVN C [.int l3] hM kX10_bitsInRows vX10_bitsInRows lX5_74 ⟨by decide, by decide⟩ (rfl : vwCl[10]? = some (RX10, TX10, 10)) g4 rfl hc (Nat.le_of_ble_eq_true rfl) rfl dX5_leastUnkept_48 kk) (zC.mono H ?_)
    rintro r0 h5 ⟨x6, rfl, H⟩
    show zX mX5_leastUnkept 51 [.ref l0, .ref l1, .int l2, .int l3, .int s0] [.int x6, .ref a3] h5 Q
    refine zX_seg (pc' := 55) (L' := [.ref l0, .ref l1, .int l2, .int l3, .int s0]) (st' := [.int (x6 &&& (21845 : Int32)), .ref a3]) (h2 := h5) rfl rfl (fun C Cr hc kk => x_sipush C (21845 : Int32) (by decide) dX5_leastUnkept_51 (x_iand C dX5_leastUnkept_54 (kk))) ?_
    refine zX_call (as := [.int (x6 &&& (21845 : Int32))]) (st := [.ref a3]) (fun C hM hc kk => x_callS C [.int (x6 &&& (21845 : Int32))] hM kX5_narrowed sX5_narrowed lX5_124 ⟨by decide, by decide⟩ rfl hc (Nat.le_of_ble_eq_true rfl) rfl dX5_leastUnkept_55 kk) (zC.mono H ?_)
    rintro r0 h7 ⟨x8, rfl, H⟩
    show zX mX5_leastUnkept 58 [.ref l0, .ref l1, .int l2, .int l3, .int s0] [.int x8, .ref a3] h7 Q
    refine zX_call (as := [.ref a3, .int x8]) (st := []) (fun C hM hc kk => x_callSN C [.ref a3, .int x8] hM kX11_at sX11_at lX5_90 ⟨by decide, by decide⟩ rfl hc (Nat.le_of_ble_eq_true rfl) rfl dX5_leastUnkept_58 kk) (zC.mono H ?_)
    rintro r0 h9 ⟨x10, rfl, H⟩
    show zX mX5_leastUnkept 61 [.ref l0, .ref l1, .int l2, .int l3, .int s0] [.int x10] h9 Q
    refine zX_br (p1 := 64) (p2 := 66) (st' := []) (x10 = 0) (fun C kt kf => x_if_ne C 66 dX5_leastUnkept_61 (by decide) kf kt) (fun q11 => ?_) (fun q11 => ?_)
    · replace H := H.1 q11
      refine zX_seg (pc' := 4) (L' := [.ref l0, .ref l1, .int l3, .int (l3 + 1), .int s0]) (st' := []) (h2 := h9) rfl rfl (fun C Cr hc kk => x_iload_n C rfl dX5_leastUnkept_64 (x_istore_n C (by decide) dX5_leastUnkept_65 (x_iinc C (l3 + 1) rfl (congrArg (HAdd.hAdd _) (by decide)) (by decide) dX5_leastUnkept_66 (x_goto C 4 dX5_leastUnkept_69 (by decide) (kk))))) ?_
      exact zX_wk (wkK (wkK (wkK (wkK (wkD wkN))))) H
    · replace H := H.2 q11
      refine zX_seg (pc' := 4) (L' := [.ref l0, .ref l1, .int l2, .int (l3 + 1), .int s0]) (st' := []) (h2 := h9) rfl rfl (fun C Cr hc kk => x_iinc C (l3 + 1) rfl (congrArg (HAdd.hAdd _) (by decide)) (by decide) dX5_leastUnkept_66 (x_goto C 4 dX5_leastUnkept_69 (by decide) (kk))) ?_
      exact zX_wk (wkK (wkK (wkK (wkK (wkD wkN))))) H
theorem nX5_leastUnkept (t : Nat) (p0 : Nat) (h : zH) (Q : Option Value → zH → Prop) (H : zX mX5_leastUnkept 0 [.ref t, .ref p0, .float 0, .float 0, .float 0] [] h Q) : zC mX5_leastUnkept [.ref t, .ref p0] h Q := zC_of (by decide +kernel) (by simp) (Nat.le_of_ble_eq_true rfl) H
set_option maxHeartbeats 20000000 in
theorem bX6_init_0 (t : Nat) (h : zH) (Q : Option Value → zH → Prop) (H : ∀ h1 : zH, h1 = (zn h (zI 0 64 (fun _ => 0))) → (oK h1 t 6 ∧ (∀ h4 : zH, h4 = (pF h1 t 0 (zr (some h.1))) → (Q none h4)))) : zX mX6_init 0 [.ref t] [] h Q := by
  refine zX_seg (pc' := 7) (L' := [.ref t]) (st' := [.int (64 : Int32), .ref t]) (h2 := h) rfl rfl (fun C Cr hc kk => x_aload_n C (v := .ref t) rfl rfl dX6_init_0 (x_objInit C lX6_3 oi_i oi_c ⟨by decide, by decide⟩ (Nat.le_of_ble_eq_true rfl) dX6_init_1 (x_aload_n C (v := .ref t) rfl rfl dX6_init_4 (x_bipush C (64 : Int32) (by decide) dX6_init_5 (kk))))) ?_
  refine zX_new (pc' := 9) (L' := [.ref t]) (st' := [.ref (h.1), .ref t]) (e := (zI 0 64 (fun _ => 0))) (fun C z1 z2 kk => x_newa C (at0 := .int) ac_int (Or.inl ⟨rfl, rfl⟩) (by decide) (by decide) (by decide) z1 z2 dX6_init_7 kk) ?_
  obtain ⟨h1, eh1⟩ : ∃ y : zH, y = (zn h (zI 0 64 (fun _ => 0))) := ⟨_, rfl⟩
  replace H := H h1 eh1
  rw [← eh1]
  have g2 : iK h1 h.1 0 := by rw [eh1]; exact iK_new
  obtain ⟨g3, H⟩ := H
  refine zX_seg (pc' := 12) (L' := [.ref t]) (st' := []) (h2 := (pF h1 t 0 (zr (some h.1)))) rfl rfl (fun C Cr hc kk => f_putFR C Cr rfl (x := (some h.1)) lX6_9 tX6 nX6_0 g3 rfl (Or.inr ⟨_, rfl⟩) dX6_init_9 (kk)) ?_
  obtain ⟨h4, eh4⟩ : ∃ y : zH, y = (pF h1 t 0 (zr (some h.1))) := ⟨_, rfl⟩
  replace H := H h4 eh4
  rw [← eh4]
  have g5 : iK h4 h.1 0 := by rw [eh4]; exact iK_pF g2
  have g6 : oK h4 t 6 := by rw [eh4]; exact oK_pF' g3 rfl (zmr _) g3
  exact zX_ret none (fun C Cr hc => x_ret C Cr rfl hc dX6_init_12 ⟨rfl, rfl⟩) H
theorem nX6_init (t : Nat) (h : zH) (Q : Option Value → zH → Prop) (H : zX mX6_init 0 [.ref t] [] h Q) : zC mX6_init [.ref t] h Q := zC_of (by decide +kernel) (by simp) (Nat.le_of_ble_eq_true rfl) H
set_option maxHeartbeats 20000000 in
theorem bX6_hear_0 (t : Nat) (p0 : Nat) (p1 : Int32) (p2 : Int32) (p3 : Nat) (h : zH) (Q : Option Value → zH → Prop) (H : oK h p0 0 ∧ (∃ a2 : Nat, gR h p0 0 = some a2 ∧ (oK h t 6 ∧ (∀ h4 : zH, h4 = (pF h t 1 (.int (0 : Int32))) → (zX mX6_hear 17 [.ref t, .float 0, .int p1, .int p2, .ref p3, .ref a2, .int (0 : Int32), .int (0 : Int32), .float 0, .float 0, .float 0] [] h4 Q))))) : zX mX6_hear 0 [.ref t, .ref p0, .int p1, .int p2, .ref p3, .float 0, .float 0, .float 0, .float 0, .float 0, .float 0] [] h Q := by
  obtain ⟨g1, H⟩ := H
  obtain ⟨a2, ea2, H⟩ := H
  obtain ⟨g3, H⟩ := H
  refine zX_seg (pc' := 14) (L' := [.ref t, .ref p0, .int p1, .int p2, .ref p3, .ref a2, .int (0 : Int32), .float 0, .float 0, .float 0, .float 0]) (st' := []) (h2 := (pF h t 1 (.int (0 : Int32)))) rfl rfl (fun C Cr hc kk => x_aload_n C (v := .ref p0) rfl rfl dX6_hear_0 (f_getR1N C lX6_15 g1 rfl ea2 dX6_hear_1 (x_astore C rfl (by decide) dX6_hear_4 (x_iconst C (0 : Int32) (by decide) dX6_hear_6 (x_istore C (by decide) dX6_hear_7 (x_aload_n C (v := .ref t) rfl rfl dX6_hear_9 (x_iconst C (0 : Int32) (by decide) dX6_hear_10 (f_putI C lX6_20 tX6 nX6_1 g3 rfl rfl dX6_hear_11 (kk))))))))) ?_
  obtain ⟨h4, eh4⟩ : ∃ y : zH, y = (pF h t 1 (.int (0 : Int32))) := ⟨_, rfl⟩
  replace H := H h4 eh4
  rw [← eh4]
  have g5 : oK h4 p0 0 := by rw [eh4]; exact oK_pF' g3 rfl rfl g1
  have g6 : oK h4 t 6 := by rw [eh4]; exact oK_pF' g3 rfl rfl g3
  refine zX_seg (pc' := 17) (L' := [.ref t, .ref p0, .int p1, .int p2, .ref p3, .ref a2, .int (0 : Int32), .int (0 : Int32), .float 0, .float 0, .float 0]) (st' := []) (h2 := h4) rfl rfl (fun C Cr hc kk => x_iconst C (0 : Int32) (by decide) dX6_hear_14 (x_istore C (by decide) dX6_hear_15 (kk))) ?_
  exact zX_wk (wkK (wkD (wkK (wkK (wkK (wkK (wkK (wkK (wkD (wkD (wkD wkN))))))))))) H
set_option maxHeartbeats 20000000 in
theorem bX6_hear_17 (l0 : Nat) (l2 : Int32) (l3 : Int32) (l4 : Nat) (l5 : Nat) (l6 : Int32) (l7 : Int32) (h : zH) (Q : Option Value → zH → Prop) (H : iK h l5 0 ∧ (((nI (aN h l5)) ≤ l7 → (Q (some (.int (0 : Int32))) h)) ∧ (¬ ((nI (aN h l5)) ≤ l7) → ((l6 ≤ l7 → (vp_in l7 (aN h l5) ∧ (vp_in l7 (aN h l5) ∧ (vp_in l7 (aN h l5) ∧ ((((aI h l5 l7.toNatClampNeg) &&& (15 : Int32)) = 0 → (zX mX6_hear 176 [.ref l0, .float 0, .int l2, .int l3, .ref l4, .ref l5, .int l6, .int l7, .float 0, .int ((aI h l5 l7.toNatClampNeg) >>> ((8 : Int32) &&& 31)), .float 0] [] h Q)) ∧ ((((aI h l5 l7.toNatClampNeg) &&& (15 : Int32)) = 1 → (zX mX6_hear 185 [.ref l0, .float 0, .int l2, .int l3, .ref l4, .ref l5, .int l6, .int l7, .int (((aI h l5 l7.toNatClampNeg) >>> ((4 : Int32) &&& 31)) &&& (15 : Int32)), .int ((aI h l5 l7.toNatClampNeg) >>> ((8 : Int32) &&& 31)), .float 0] [] h Q)) ∧ ((((aI h l5 l7.toNatClampNeg) &&& (15 : Int32)) = 2 → (zX mX6_hear 203 [.ref l0, .float 0, .int l2, .int l3, .ref l4, .ref l5, .int l6, .int l7, .int (((aI h l5 l7.toNatClampNeg) >>> ((4 : Int32) &&& 31)) &&& (15 : Int32)), .int ((aI h l5 l7.toNatClampNeg) >>> ((8 : Int32) &&& 31)), .float 0] [] h Q)) ∧ ((((aI h l5 l7.toNatClampNeg) &&& (15 : Int32)) = 3 → (zX mX6_hear 247 [.ref l0, .float 0, .int l2, .int l3, .ref l4, .ref l5, .float 0, .int l7, .float 0, .int ((aI h l5 l7.toNatClampNeg) >>> ((8 : Int32) &&& 31)), .float 0] [] h Q)) ∧ ((((aI h l5 l7.toNatClampNeg) &&& (15 : Int32)) = 6 → (zX mX6_hear 228 [.ref l0, .float 0, .int l2, .int l3, .ref l4, .ref l5, .int l6, .int l7, .float 0, .float 0, .float 0] [] h Q)) ∧ ((((aI h l5 l7.toNatClampNeg) &&& (15 : Int32)) = 12 → (zX mX6_hear 144 [.float 0, .float 0, .float 0, .float 0, .float 0, .float 0, .float 0, .float 0, .float 0, .int ((aI h l5 l7.toNatClampNeg) >>> ((8 : Int32) &&& 31)), .float 0] [] h Q)) ∧ ((((aI h l5 l7.toNatClampNeg) &&& (15 : Int32)) = 13 → (zX mX6_hear 147 [.float 0, .float 0, .float 0, .int l3, .ref l4, .float 0, .float 0, .float 0, .float 0, .int ((aI h l5 l7.toNatClampNeg) >>> ((8 : Int32) &&& 31)), .float 0] [] h Q)) ∧ ((((aI h l5 l7.toNatClampNeg) &&& (15 : Int32)) = 14 → (zX mX6_hear 156 [.float 0, .float 0, .int l2, .int l3, .ref l4, .float 0, .float 0, .float 0, .int (((aI h l5 l7.toNatClampNeg) >>> ((4 : Int32) &&& 31)) &&& (15 : Int32)), .float 0, .float 0] [] h Q)) ∧ ((((aI h l5 l7.toNatClampNeg) &&& (15 : Int32)) = 15 → (zX mX6_hear 166 [.float 0, .float 0, .int l2, .int l3, .ref l4, .float 0, .float 0, .float 0, .int (((aI h l5 l7.toNatClampNeg) >>> ((4 : Int32) &&& 31)) &&& (15 : Int32)), .float 0, .float 0] [] h Q)) ∧ (¬ ((aI h l5 l7.toNatClampNeg) &&& (15 : Int32)) = 0 → ¬ ((aI h l5 l7.toNatClampNeg) &&& (15 : Int32)) = 1 → ¬ ((aI h l5 l7.toNatClampNeg) &&& (15 : Int32)) = 2 → ¬ ((aI h l5 l7.toNatClampNeg) &&& (15 : Int32)) = 3 → ¬ ((aI h l5 l7.toNatClampNeg) &&& (15 : Int32)) = 6 → ¬ ((aI h l5 l7.toNatClampNeg) &&& (15 : Int32)) = 12 → ¬ ((aI h l5 l7.toNatClampNeg) &&& (15 : Int32)) = 13 → ¬ ((aI h l5 l7.toNatClampNeg) &&& (15 : Int32)) = 14 → ¬ ((aI h l5 l7.toNatClampNeg) &&& (15 : Int32)) = 15 → (zX mX6_hear 265 [.ref l0, .float 0, .int l2, .int l3, .ref l4, .ref l5, .int l6, .int l7, .float 0, .float 0, .float 0] [] h Q))))))))))))))) ∧ (¬ (l6 ≤ l7) → (zX mX6_hear 292 [.ref l0, .float 0, .int l2, .int l3, .ref l4, .ref l5, .int l6, .int l7, .float 0, .float 0, .float 0] [] h Q)))))) : zX mX6_hear 17 [.ref l0, .float 0, .int l2, .int l3, .ref l4, .ref l5, .int l6, .int l7, .float 0, .float 0, .float 0] [] h Q := by
  obtain ⟨g1, H⟩ := H
  refine zX_seg (pc' := 22) (L' := [.ref l0, .float 0, .int l2, .int l3, .ref l4, .ref l5, .int l6, .int l7, .float 0, .float 0, .float 0]) (st' := [.int (nI (aN h l5)), .int l7]) (h2 := h) rfl rfl (fun C Cr hc kk => x_iload C rfl dX6_hear_17 (x_aload C (v := .ref l5) rfl rfl dX6_hear_19 (f_alenI C (by decide) g1 dX6_hear_21 (kk)))) ?_
  refine zX_br (p1 := 298) (p2 := 25) (st' := []) ((nI (aN h l5)) ≤ l7) (fun C kt kf => x_icmp_ge C 298 dX6_hear_22 (by decide) kt kf) (fun q2 => ?_) (fun q2 => ?_)
  · replace H := H.1 q2
    refine zX_seg (pc' := 299) (L' := [.ref l0, .float 0, .int l2, .int l3, .ref l4, .ref l5, .int l6, .int l7, .float 0, .float 0, .float 0]) (st' := [.int (0 : Int32)]) (h2 := h) rfl rfl (fun C Cr hc kk => x_iconst C (0 : Int32) (by decide) dX6_hear_298 (kk)) ?_
    exact zX_ret (some (.int (0 : Int32))) (fun C Cr hc => x_iret C Cr rfl rfl hc dX6_hear_299 ⟨rfl, rfl⟩) H
  · replace H := H.2 q2
    refine zX_seg (pc' := 29) (L' := [.ref l0, .float 0, .int l2, .int l3, .ref l4, .ref l5, .int l6, .int l7, .float 0, .float 0, .float 0]) (st' := [.int l6, .int l7]) (h2 := h) rfl rfl (fun C Cr hc kk => x_iload C rfl dX6_hear_25 (x_iload C rfl dX6_hear_27 (kk))) ?_
    refine zX_br (p1 := 35) (p2 := 32) (st' := []) (l6 ≤ l7) (fun C kt kf => x_icmp_ge C 35 dX6_hear_29 (by decide) kt kf) (fun q3 => ?_) (fun q3 => ?_)
    · replace H := H.1 q3
      obtain ⟨g4, H⟩ := H
      obtain ⟨g5, H⟩ := H
      obtain ⟨g6, H⟩ := H
      refine zX_seg (pc' := (ztt 65 200 0 15 [111, 120, 138, 182, 200, 200, 163, 200, 200, 200, 200, 200, 79, 82, 91, 101] ((aI h l5 l7.toNatClampNeg) &&& (15 : Int32)))) (L' := [.ref l0, .float 0, .int l2, .int l3, .ref l4, .ref l5, .int l6, .int l7, .int (((aI h l5 l7.toNatClampNeg) >>> ((4 : Int32) &&& 31)) &&& (15 : Int32)), .int ((aI h l5 l7.toNatClampNeg) >>> ((8 : Int32) &&& 31)), .float 0]) (st' := []) (h2 := h) rfl rfl (fun C Cr hc kk => x_aload C (v := .ref l5) rfl rfl dX6_hear_35 (x_iload C rfl dX6_hear_37 (f_iald C g1 g4 dX6_hear_39 (x_iconst C (4 : Int32) (by decide) dX6_hear_40 (x_ishr C dX6_hear_41 (x_bipush C (15 : Int32) (by decide) dX6_hear_42 (x_iand C dX6_hear_44 (x_istore C (by decide) dX6_hear_45 (x_aload C (v := .ref l5) rfl rfl dX6_hear_47 (x_iload C rfl dX6_hear_49 (f_iald C g1 g5 dX6_hear_51 (x_bipush C (8 : Int32) (by decide) dX6_hear_52 (x_ishr C dX6_hear_54 (x_istore C (by decide) dX6_hear_55 (x_aload C (v := .ref l5) rfl rfl dX6_hear_57 (x_iload C rfl dX6_hear_59 (f_iald C g1 g6 dX6_hear_61 (x_bipush C (15 : Int32) (by decide) dX6_hear_62 (x_iand C dX6_hear_64 (f_table C ⟨⟨by decide, by decide⟩, by decide⟩ dX6_hear_65 (kk))))))))))))))))))))) ?_
      by_cases z7 : ((aI h l5 l7.toNatClampNeg) &&& (15 : Int32)) = 0
      · replace H := H.1 z7
        rw [show (ztt 65 200 0 15 [111, 120, 138, 182, 200, 200, 163, 200, 200, 200, 200, 200, 79, 82, 91, 101] ((aI h l5 l7.toNatClampNeg) &&& (15 : Int32))) = 176 from by rw [z7]; decide]
        exact zX_wk (wkK (wkD (wkK (wkK (wkK (wkK (wkK (wkK (wkD (wkK (wkD wkN))))))))))) H
      · replace H := H.2
        by_cases z8 : ((aI h l5 l7.toNatClampNeg) &&& (15 : Int32)) = 1
        · replace H := H.1 z8
          rw [show (ztt 65 200 0 15 [111, 120, 138, 182, 200, 200, 163, 200, 200, 200, 200, 200, 79, 82, 91, 101] ((aI h l5 l7.toNatClampNeg) &&& (15 : Int32))) = 185 from by rw [z8]; decide]
          exact zX_wk (wkK (wkD (wkK (wkK (wkK (wkK (wkK (wkK (wkK (wkK (wkD wkN))))))))))) H
        · replace H := H.2
          by_cases z9 : ((aI h l5 l7.toNatClampNeg) &&& (15 : Int32)) = 2
          · replace H := H.1 z9
            rw [show (ztt 65 200 0 15 [111, 120, 138, 182, 200, 200, 163, 200, 200, 200, 200, 200, 79, 82, 91, 101] ((aI h l5 l7.toNatClampNeg) &&& (15 : Int32))) = 203 from by rw [z9]; decide]
            exact zX_wk (wkK (wkD (wkK (wkK (wkK (wkK (wkK (wkK (wkK (wkK (wkD wkN))))))))))) H
          · replace H := H.2
            by_cases z10 : ((aI h l5 l7.toNatClampNeg) &&& (15 : Int32)) = 3
            · replace H := H.1 z10
              rw [show (ztt 65 200 0 15 [111, 120, 138, 182, 200, 200, 163, 200, 200, 200, 200, 200, 79, 82, 91, 101] ((aI h l5 l7.toNatClampNeg) &&& (15 : Int32))) = 247 from by rw [z10]; decide]
              exact zX_wk (wkK (wkD (wkK (wkK (wkK (wkK (wkD (wkK (wkD (wkK (wkD wkN))))))))))) H
            · replace H := H.2
              by_cases z11 : ((aI h l5 l7.toNatClampNeg) &&& (15 : Int32)) = 6
              · replace H := H.1 z11
                rw [show (ztt 65 200 0 15 [111, 120, 138, 182, 200, 200, 163, 200, 200, 200, 200, 200, 79, 82, 91, 101] ((aI h l5 l7.toNatClampNeg) &&& (15 : Int32))) = 228 from by rw [z11]; decide]
                exact zX_wk (wkK (wkD (wkK (wkK (wkK (wkK (wkK (wkK (wkD (wkD (wkD wkN))))))))))) H
              · replace H := H.2
                by_cases z12 : ((aI h l5 l7.toNatClampNeg) &&& (15 : Int32)) = 12
                · replace H := H.1 z12
                  rw [show (ztt 65 200 0 15 [111, 120, 138, 182, 200, 200, 163, 200, 200, 200, 200, 200, 79, 82, 91, 101] ((aI h l5 l7.toNatClampNeg) &&& (15 : Int32))) = 144 from by rw [z12]; decide]
                  exact zX_wk (wkD (wkD (wkD (wkD (wkD (wkD (wkD (wkD (wkD (wkK (wkD wkN))))))))))) H
                · replace H := H.2
                  by_cases z13 : ((aI h l5 l7.toNatClampNeg) &&& (15 : Int32)) = 13
                  · replace H := H.1 z13
                    rw [show (ztt 65 200 0 15 [111, 120, 138, 182, 200, 200, 163, 200, 200, 200, 200, 200, 79, 82, 91, 101] ((aI h l5 l7.toNatClampNeg) &&& (15 : Int32))) = 147 from by rw [z13]; decide]
                    exact zX_wk (wkD (wkD (wkD (wkK (wkK (wkD (wkD (wkD (wkD (wkK (wkD wkN))))))))))) H
                  · replace H := H.2
                    by_cases z14 : ((aI h l5 l7.toNatClampNeg) &&& (15 : Int32)) = 14
                    · replace H := H.1 z14
                      rw [show (ztt 65 200 0 15 [111, 120, 138, 182, 200, 200, 163, 200, 200, 200, 200, 200, 79, 82, 91, 101] ((aI h l5 l7.toNatClampNeg) &&& (15 : Int32))) = 156 from by rw [z14]; decide]
                      exact zX_wk (wkD (wkD (wkK (wkK (wkK (wkD (wkD (wkD (wkK (wkD (wkD wkN))))))))))) H
                    · replace H := H.2
                      by_cases z15 : ((aI h l5 l7.toNatClampNeg) &&& (15 : Int32)) = 15
                      · replace H := H.1 z15
                        rw [show (ztt 65 200 0 15 [111, 120, 138, 182, 200, 200, 163, 200, 200, 200, 200, 200, 79, 82, 91, 101] ((aI h l5 l7.toNatClampNeg) &&& (15 : Int32))) = 166 from by rw [z15]; decide]
                        exact zX_wk (wkD (wkD (wkK (wkK (wkK (wkD (wkD (wkD (wkK (wkD (wkD wkN))))))))))) H
                      · replace H := H.2
                        rw [show (ztt 65 200 0 15 [111, 120, 138, 182, 200, 200, 163, 200, 200, 200, 200, 200, 79, 82, 91, 101] ((aI h l5 l7.toNatClampNeg) &&& (15 : Int32))) = 265 from (ztt_d [0, 1, 2, 3, 6, 12, 13, 14, 15] (by decide) (by decide) (List.forall_mem_cons.mpr ⟨z7, (List.forall_mem_cons.mpr ⟨z8, (List.forall_mem_cons.mpr ⟨z9, (List.forall_mem_cons.mpr ⟨z10, (List.forall_mem_cons.mpr ⟨z11, (List.forall_mem_cons.mpr ⟨z12, (List.forall_mem_cons.mpr ⟨z13, (List.forall_mem_cons.mpr ⟨z14, (List.forall_mem_cons.mpr ⟨z15, (fun _ h => absurd h List.not_mem_nil)⟩)⟩)⟩)⟩)⟩)⟩)⟩)⟩)⟩)).trans (by decide)]
                        replace H := H z7 z8 z9 z10 z11 z12 z13 z14 z15
                        exact zX_wk (wkK (wkD (wkK (wkK (wkK (wkK (wkK (wkK (wkD (wkD (wkD wkN))))))))))) H
    · replace H := H.2 q3
      refine zX_seg (pc' := 292) (L' := [.ref l0, .float 0, .int l2, .int l3, .ref l4, .ref l5, .int l6, .int l7, .float 0, .float 0, .float 0]) (st' := []) (h2 := h) rfl rfl (fun C Cr hc kk => x_goto C 292 dX6_hear_32 (by decide) (kk)) ?_
      exact zX_wk (wkK (wkD (wkK (wkK (wkK (wkK (wkK (wkK (wkD (wkD (wkD wkN))))))))))) H
set_option maxHeartbeats 20000000 in
theorem bX6_hear_144 (l9 : Int32) (h : zH) (Q : Option Value → zH → Prop) (H : Q (some (.int l9)) h) : zX mX6_hear 144 [.float 0, .float 0, .float 0, .float 0, .float 0, .float 0, .float 0, .float 0, .float 0, .int l9, .float 0] [] h Q := by
  refine zX_seg (pc' := 146) (L' := [.float 0, .float 0, .float 0, .float 0, .float 0, .float 0, .float 0, .float 0, .float 0, .int l9, .float 0]) (st' := [.int l9]) (h2 := h) rfl rfl (fun C Cr hc kk => x_iload C rfl dX6_hear_144 (kk)) ?_
  exact zX_ret (some (.int l9)) (fun C Cr hc => x_iret C Cr rfl rfl hc dX6_hear_146 ⟨rfl, rfl⟩) H
set_option maxHeartbeats 20000000 in
theorem bX6_hear_147 (l3 : Int32) (l4 : Nat) (l9 : Int32) (h : zH) (Q : Option Value → zH → Prop) (H : oK h l4 10 ∧ (zC mX10_markOf [.ref l4, .int l3, .int l9] h (fun r0 h2 => ∃ x3 : Int32, r0 = some (.int x3) ∧ (Q (some (.int x3)) h2)))) : zX mX6_hear 147 [.float 0, .float 0, .float 0, .int l3, .ref l4, .float 0, .float 0, .float 0, .float 0, .int l9, .float 0] [] h Q := by
  refine zX_seg (pc' := 152) (L' := [.float 0, .float 0, .float 0, .int l3, .ref l4, .float 0, .float 0, .float 0, .float 0, .int l9, .float 0]) (st' := [.int l9, .int l3, .ref l4]) (h2 := h) rfl rfl (fun C Cr hc kk => x_aload C (v := .ref l4) rfl rfl dX6_hear_147 (x_iload_n C rfl dX6_hear_149 (x_iload C rfl dX6_hear_150 (kk)))) ?_
  obtain ⟨g1, H⟩ := H
  refine zX_call (as := [.ref l4, .int l3, .int l9]) (st := []) (fun C hM hc kk => f_callVN C [.int l3, .int l9] hM kX10_markOf vX10_markOf lX6_24 ⟨by decide, by decide⟩ (rfl : vwCl[10]? = some (RX10, TX10, 10)) g1 rfl hc (Nat.le_of_ble_eq_true rfl) rfl dX6_hear_152 kk) (zC.mono H ?_)
  rintro r0 h2 ⟨x3, rfl, H⟩
  show zX mX6_hear 155 [.float 0, .float 0, .float 0, .int l3, .ref l4, .float 0, .float 0, .float 0, .float 0, .int l9, .float 0] [.int x3] h2 Q
  exact zX_ret (some (.int x3)) (fun C Cr hc => x_iret C Cr rfl rfl hc dX6_hear_155 ⟨rfl, rfl⟩) H
set_option maxHeartbeats 20000000 in
theorem bX6_hear_156 (l2 : Int32) (l3 : Int32) (l4 : Nat) (l8 : Int32) (h : zH) (Q : Option Value → zH → Prop) (H : oK h l4 10 ∧ (zC mX10_mostVoted [.ref l4, .int l3, .int l2, .int l8] h (fun r0 h2 => ∃ x3 : Int32, r0 = some (.int x3) ∧ (Q (some (.int x3)) h2)))) : zX mX6_hear 156 [.float 0, .float 0, .int l2, .int l3, .ref l4, .float 0, .float 0, .float 0, .int l8, .float 0, .float 0] [] h Q := by
  refine zX_seg (pc' := 162) (L' := [.float 0, .float 0, .int l2, .int l3, .ref l4, .float 0, .float 0, .float 0, .int l8, .float 0, .float 0]) (st' := [.int l8, .int l2, .int l3, .ref l4]) (h2 := h) rfl rfl (fun C Cr hc kk => x_aload C (v := .ref l4) rfl rfl dX6_hear_156 (x_iload_n C rfl dX6_hear_158 (x_iload_n C rfl dX6_hear_159 (x_iload C rfl dX6_hear_160 (kk))))) ?_
  obtain ⟨g1, H⟩ := H
  refine zX_call (as := [.ref l4, .int l3, .int l2, .int l8]) (st := []) (fun C hM hc kk => f_callVN C [.int l3, .int l2, .int l8] hM kX10_mostVoted vX10_mostVoted lX6_30 ⟨by decide, by decide⟩ (rfl : vwCl[10]? = some (RX10, TX10, 10)) g1 rfl hc (Nat.le_of_ble_eq_true rfl) rfl dX6_hear_162 kk) (zC.mono H ?_)
  rintro r0 h2 ⟨x3, rfl, H⟩
  show zX mX6_hear 165 [.float 0, .float 0, .int l2, .int l3, .ref l4, .float 0, .float 0, .float 0, .int l8, .float 0, .float 0] [.int x3] h2 Q
  exact zX_ret (some (.int x3)) (fun C Cr hc => x_iret C Cr rfl rfl hc dX6_hear_165 ⟨rfl, rfl⟩) H
set_option maxHeartbeats 20000000 in
theorem bX6_hear_166 (l2 : Int32) (l3 : Int32) (l4 : Nat) (l8 : Int32) (h : zH) (Q : Option Value → zH → Prop) (H : oK h l4 10 ∧ (zC mX10_fewestVoted [.ref l4, .int l3, .int l2, .int l8] h (fun r0 h2 => ∃ x3 : Int32, r0 = some (.int x3) ∧ (Q (some (.int x3)) h2)))) : zX mX6_hear 166 [.float 0, .float 0, .int l2, .int l3, .ref l4, .float 0, .float 0, .float 0, .int l8, .float 0, .float 0] [] h Q := by
  refine zX_seg (pc' := 172) (L' := [.float 0, .float 0, .int l2, .int l3, .ref l4, .float 0, .float 0, .float 0, .int l8, .float 0, .float 0]) (st' := [.int l8, .int l2, .int l3, .ref l4]) (h2 := h) rfl rfl (fun C Cr hc kk => x_aload C (v := .ref l4) rfl rfl dX6_hear_166 (x_iload_n C rfl dX6_hear_168 (x_iload_n C rfl dX6_hear_169 (x_iload C rfl dX6_hear_170 (kk))))) ?_
  obtain ⟨g1, H⟩ := H
  refine zX_call (as := [.ref l4, .int l3, .int l2, .int l8]) (st := []) (fun C hM hc kk => f_callVN C [.int l3, .int l2, .int l8] hM kX10_fewestVoted vX10_fewestVoted lX6_34 ⟨by decide, by decide⟩ (rfl : vwCl[10]? = some (RX10, TX10, 10)) g1 rfl hc (Nat.le_of_ble_eq_true rfl) rfl dX6_hear_172 kk) (zC.mono H ?_)
  rintro r0 h2 ⟨x3, rfl, H⟩
  show zX mX6_hear 175 [.float 0, .float 0, .int l2, .int l3, .ref l4, .float 0, .float 0, .float 0, .int l8, .float 0, .float 0] [.int x3] h2 Q
  exact zX_ret (some (.int x3)) (fun C Cr hc => x_iret C Cr rfl rfl hc dX6_hear_175 ⟨rfl, rfl⟩) H
set_option maxHeartbeats 20000000 in
theorem bX6_hear_176 (l0 : Nat) (l2 : Int32) (l3 : Int32) (l4 : Nat) (l5 : Nat) (l6 : Int32) (l7 : Int32) (l9 : Int32) (h : zH) (Q : Option Value → zH → Prop) (H : oK h l0 6 ∧ (zC mX6_push [.ref l0, .int l9] h (fun r0 h2 => r0 = none ∧ (zX mX6_hear 292 [.ref l0, .float 0, .int l2, .int l3, .ref l4, .ref l5, .int l6, .int l7, .float 0, .float 0, .float 0] [] h2 Q)))) : zX mX6_hear 176 [.ref l0, .float 0, .int l2, .int l3, .ref l4, .ref l5, .int l6, .int l7, .float 0, .int l9, .float 0] [] h Q := by
  refine zX_seg (pc' := 179) (L' := [.ref l0, .float 0, .int l2, .int l3, .ref l4, .ref l5, .int l6, .int l7, .float 0, .int l9, .float 0]) (st' := [.int l9, .ref l0]) (h2 := h) rfl rfl (fun C Cr hc kk => x_aload_n C (v := .ref l0) rfl rfl dX6_hear_176 (x_iload C rfl dX6_hear_177 (kk))) ?_
  obtain ⟨g1, H⟩ := H
  refine zX_call (as := [.ref l0, .int l9]) (st := []) (fun C hM hc kk => f_callV C [.int l9] hM kX6_push vX6_push lX6_37 ⟨by decide, by decide⟩ (rfl : vwCl[6]? = some (RX6, TX6, 2)) g1 rfl hc (Nat.le_of_ble_eq_true rfl) rfl dX6_hear_179 kk) (zC.mono H ?_)
  rintro r0 h2 ⟨rfl, H⟩
  show zX mX6_hear 182 [.ref l0, .float 0, .int l2, .int l3, .ref l4, .ref l5, .int l6, .int l7, .float 0, .int l9, .float 0] [] h2 Q
  refine zX_seg (pc' := 292) (L' := [.ref l0, .float 0, .int l2, .int l3, .ref l4, .ref l5, .int l6, .int l7, .float 0, .int l9, .float 0]) (st' := []) (h2 := h2) rfl rfl (fun C Cr hc kk => x_goto C 292 dX6_hear_182 (by decide) (kk)) ?_
  exact zX_wk (wkK (wkD (wkK (wkK (wkK (wkK (wkK (wkK (wkD (wkD (wkD wkN))))))))))) H
set_option maxHeartbeats 20000000 in
theorem bX6_hear_185 (l0 : Nat) (l2 : Int32) (l3 : Int32) (l4 : Nat) (l5 : Nat) (l6 : Int32) (l7 : Int32) (l8 : Int32) (l9 : Int32) (h : zH) (Q : Option Value → zH → Prop) (H : oK h l4 10 ∧ (zC mX10_votes [.ref l4, .int l3, .int l2, .int l8, .int l9] h (fun r0 h2 => ∃ x3 : Int32, r0 = some (.int x3) ∧ (oK h2 l0 6 ∧ (zC mX6_push [.ref l0, .int x3] h2 (fun r0 h5 => r0 = none ∧ (zX mX6_hear 292 [.ref l0, .float 0, .int l2, .int l3, .ref l4, .ref l5, .int l6, .int l7, .float 0, .float 0, .float 0] [] h5 Q))))))) : zX mX6_hear 185 [.ref l0, .float 0, .int l2, .int l3, .ref l4, .ref l5, .int l6, .int l7, .int l8, .int l9, .float 0] [] h Q := by
  refine zX_seg (pc' := 194) (L' := [.ref l0, .float 0, .int l2, .int l3, .ref l4, .ref l5, .int l6, .int l7, .int l8, .int l9, .float 0]) (st' := [.int l9, .int l8, .int l2, .int l3, .ref l4, .ref l0]) (h2 := h) rfl rfl (fun C Cr hc kk => x_aload_n C (v := .ref l0) rfl rfl dX6_hear_185 (x_aload C (v := .ref l4) rfl rfl dX6_hear_186 (x_iload_n C rfl dX6_hear_188 (x_iload_n C rfl dX6_hear_189 (x_iload C rfl dX6_hear_190 (x_iload C rfl dX6_hear_192 (kk))))))) ?_
  obtain ⟨g1, H⟩ := H
  refine zX_call (as := [.ref l4, .int l3, .int l2, .int l8, .int l9]) (st := [.ref l0]) (fun C hM hc kk => f_callVN C [.int l3, .int l2, .int l8, .int l9] hM kX10_votes vX10_votes lX6_41 ⟨by decide, by decide⟩ (rfl : vwCl[10]? = some (RX10, TX10, 10)) g1 rfl hc (Nat.le_of_ble_eq_true rfl) rfl dX6_hear_194 kk) (zC.mono H ?_)
  rintro r0 h2 ⟨x3, rfl, H⟩
  show zX mX6_hear 197 [.ref l0, .float 0, .int l2, .int l3, .ref l4, .ref l5, .int l6, .int l7, .int l8, .int l9, .float 0] [.int x3, .ref l0] h2 Q
  obtain ⟨g4, H⟩ := H
  refine zX_call (as := [.ref l0, .int x3]) (st := []) (fun C hM hc kk => f_callV C [.int x3] hM kX6_push vX6_push lX6_37 ⟨by decide, by decide⟩ (rfl : vwCl[6]? = some (RX6, TX6, 2)) g4 rfl hc (Nat.le_of_ble_eq_true rfl) rfl dX6_hear_197 kk) (zC.mono H ?_)
  rintro r0 h5 ⟨rfl, H⟩
  show zX mX6_hear 200 [.ref l0, .float 0, .int l2, .int l3, .ref l4, .ref l5, .int l6, .int l7, .int l8, .int l9, .float 0] [] h5 Q
  refine zX_seg (pc' := 292) (L' := [.ref l0, .float 0, .int l2, .int l3, .ref l4, .ref l5, .int l6, .int l7, .int l8, .int l9, .float 0]) (st' := []) (h2 := h5) rfl rfl (fun C Cr hc kk => x_goto C 292 dX6_hear_200 (by decide) (kk)) ?_
  exact zX_wk (wkK (wkD (wkK (wkK (wkK (wkK (wkK (wkK (wkD (wkD (wkD wkN))))))))))) H
set_option maxHeartbeats 20000000 in
theorem bX6_hear_203 (l0 : Nat) (l2 : Int32) (l3 : Int32) (l4 : Nat) (l5 : Nat) (l6 : Int32) (l7 : Int32) (l8 : Int32) (l9 : Int32) (h : zH) (Q : Option Value → zH → Prop) (H : oK h l4 10 ∧ (zC mX10_markOf [.ref l4, .int l3, .int l9] h (fun r0 h2 => ∃ x3 : Int32, r0 = some (.int x3) ∧ ((x3 = l8 → (oK h2 l0 6 ∧ (zC mX6_push [.ref l0, .int (1 : Int32)] h2 (fun r0 h6 => r0 = none ∧ (zX mX6_hear 292 [.ref l0, .float 0, .int l2, .int l3, .ref l4, .ref l5, .int l6, .int l7, .float 0, .float 0, .float 0] [] h6 Q))))) ∧ (¬ (x3 = l8) → (oK h2 l0 6 ∧ (zC mX6_push [.ref l0, .int (0 : Int32)] h2 (fun r0 h8 => r0 = none ∧ (zX mX6_hear 292 [.ref l0, .float 0, .int l2, .int l3, .ref l4, .ref l5, .int l6, .int l7, .float 0, .float 0, .float 0] [] h8 Q))))))))) : zX mX6_hear 203 [.ref l0, .float 0, .int l2, .int l3, .ref l4, .ref l5, .int l6, .int l7, .int l8, .int l9, .float 0] [] h Q := by
  refine zX_seg (pc' := 209) (L' := [.ref l0, .float 0, .int l2, .int l3, .ref l4, .ref l5, .int l6, .int l7, .int l8, .int l9, .float 0]) (st' := [.int l9, .int l3, .ref l4, .ref l0]) (h2 := h) rfl rfl (fun C Cr hc kk => x_aload_n C (v := .ref l0) rfl rfl dX6_hear_203 (x_aload C (v := .ref l4) rfl rfl dX6_hear_204 (x_iload_n C rfl dX6_hear_206 (x_iload C rfl dX6_hear_207 (kk))))) ?_
  obtain ⟨g1, H⟩ := H
  refine zX_call (as := [.ref l4, .int l3, .int l9]) (st := [.ref l0]) (fun C hM hc kk => f_callVN C [.int l3, .int l9] hM kX10_markOf vX10_markOf lX6_24 ⟨by decide, by decide⟩ (rfl : vwCl[10]? = some (RX10, TX10, 10)) g1 rfl hc (Nat.le_of_ble_eq_true rfl) rfl dX6_hear_209 kk) (zC.mono H ?_)
  rintro r0 h2 ⟨x3, rfl, H⟩
  show zX mX6_hear 212 [.ref l0, .float 0, .int l2, .int l3, .ref l4, .ref l5, .int l6, .int l7, .int l8, .int l9, .float 0] [.int x3, .ref l0] h2 Q
  refine zX_seg (pc' := 214) (L' := [.ref l0, .float 0, .int l2, .int l3, .ref l4, .ref l5, .int l6, .int l7, .int l8, .int l9, .float 0]) (st' := [.int l8, .int x3, .ref l0]) (h2 := h2) rfl rfl (fun C Cr hc kk => x_iload C rfl dX6_hear_212 (kk)) ?_
  refine zX_br (p1 := 217) (p2 := 221) (st' := [.ref l0]) (x3 = l8) (fun C kt kf => x_icmp_ne C 221 dX6_hear_214 (by decide) kf kt) (fun q4 => ?_) (fun q4 => ?_)
  · replace H := H.1 q4
    refine zX_seg (pc' := 222) (L' := [.ref l0, .float 0, .int l2, .int l3, .ref l4, .ref l5, .int l6, .int l7, .int l8, .int l9, .float 0]) (st' := [.int (1 : Int32), .ref l0]) (h2 := h2) rfl rfl (fun C Cr hc kk => x_iconst C (1 : Int32) (by decide) dX6_hear_217 (x_goto C 222 dX6_hear_218 (by decide) (kk))) ?_
    obtain ⟨g5, H⟩ := H
    refine zX_call (as := [.ref l0, .int (1 : Int32)]) (st := []) (fun C hM hc kk => f_callV C [.int (1 : Int32)] hM kX6_push vX6_push lX6_37 ⟨by decide, by decide⟩ (rfl : vwCl[6]? = some (RX6, TX6, 2)) g5 rfl hc (Nat.le_of_ble_eq_true rfl) rfl dX6_hear_222 kk) (zC.mono H ?_)
    rintro r0 h6 ⟨rfl, H⟩
    show zX mX6_hear 225 [.ref l0, .float 0, .int l2, .int l3, .ref l4, .ref l5, .int l6, .int l7, .int l8, .int l9, .float 0] [] h6 Q
    refine zX_seg (pc' := 292) (L' := [.ref l0, .float 0, .int l2, .int l3, .ref l4, .ref l5, .int l6, .int l7, .int l8, .int l9, .float 0]) (st' := []) (h2 := h6) rfl rfl (fun C Cr hc kk => x_goto C 292 dX6_hear_225 (by decide) (kk)) ?_
    exact zX_wk (wkK (wkD (wkK (wkK (wkK (wkK (wkK (wkK (wkD (wkD (wkD wkN))))))))))) H
  · replace H := H.2 q4
    refine zX_seg (pc' := 222) (L' := [.ref l0, .float 0, .int l2, .int l3, .ref l4, .ref l5, .int l6, .int l7, .int l8, .int l9, .float 0]) (st' := [.int (0 : Int32), .ref l0]) (h2 := h2) rfl rfl (fun C Cr hc kk => x_iconst C (0 : Int32) (by decide) dX6_hear_221 (kk)) ?_
    obtain ⟨g7, H⟩ := H
    refine zX_call (as := [.ref l0, .int (0 : Int32)]) (st := []) (fun C hM hc kk => f_callV C [.int (0 : Int32)] hM kX6_push vX6_push lX6_37 ⟨by decide, by decide⟩ (rfl : vwCl[6]? = some (RX6, TX6, 2)) g7 rfl hc (Nat.le_of_ble_eq_true rfl) rfl dX6_hear_222 kk) (zC.mono H ?_)
    rintro r0 h8 ⟨rfl, H⟩
    show zX mX6_hear 225 [.ref l0, .float 0, .int l2, .int l3, .ref l4, .ref l5, .int l6, .int l7, .int l8, .int l9, .float 0] [] h8 Q
    refine zX_seg (pc' := 292) (L' := [.ref l0, .float 0, .int l2, .int l3, .ref l4, .ref l5, .int l6, .int l7, .int l8, .int l9, .float 0]) (st' := []) (h2 := h8) rfl rfl (fun C Cr hc kk => x_goto C 292 dX6_hear_225 (by decide) (kk)) ?_
    exact zX_wk (wkK (wkD (wkK (wkK (wkK (wkK (wkK (wkK (wkD (wkD (wkD wkN))))))))))) H
set_option maxHeartbeats 20000000 in
theorem bX6_hear_228 (l0 : Nat) (l2 : Int32) (l3 : Int32) (l4 : Nat) (l5 : Nat) (l6 : Int32) (l7 : Int32) (h : zH) (Q : Option Value → zH → Prop) (H : oK h l0 6 ∧ (zC mX6_pop [.ref l0] h (fun r0 h2 => ∃ x3 : Int32, r0 = some (.int x3) ∧ ((x3 = 0 → (oK h2 l0 6 ∧ (zC mX6_push [.ref l0, .int (1 : Int32)] h2 (fun r0 h6 => r0 = none ∧ (zX mX6_hear 292 [.ref l0, .float 0, .int l2, .int l3, .ref l4, .ref l5, .int l6, .int l7, .float 0, .float 0, .float 0] [] h6 Q))))) ∧ (¬ (x3 = 0) → (oK h2 l0 6 ∧ (zC mX6_push [.ref l0, .int (0 : Int32)] h2 (fun r0 h8 => r0 = none ∧ (zX mX6_hear 292 [.ref l0, .float 0, .int l2, .int l3, .ref l4, .ref l5, .int l6, .int l7, .float 0, .float 0, .float 0] [] h8 Q))))))))) : zX mX6_hear 228 [.ref l0, .float 0, .int l2, .int l3, .ref l4, .ref l5, .int l6, .int l7, .float 0, .float 0, .float 0] [] h Q := by
  refine zX_seg (pc' := 230) (L' := [.ref l0, .float 0, .int l2, .int l3, .ref l4, .ref l5, .int l6, .int l7, .float 0, .float 0, .float 0]) (st' := [.ref l0, .ref l0]) (h2 := h) rfl rfl (fun C Cr hc kk => x_aload_n C (v := .ref l0) rfl rfl dX6_hear_228 (x_aload_n C (v := .ref l0) rfl rfl dX6_hear_229 (kk))) ?_
  obtain ⟨g1, H⟩ := H
  refine zX_call (as := [.ref l0]) (st := [.ref l0]) (fun C hM hc kk => f_callV C [] hM kX6_pop vX6_pop lX6_45 ⟨by decide, by decide⟩ (rfl : vwCl[6]? = some (RX6, TX6, 2)) g1 rfl hc (Nat.le_of_ble_eq_true rfl) rfl dX6_hear_230 kk) (zC.mono H ?_)
  rintro r0 h2 ⟨x3, rfl, H⟩
  show zX mX6_hear 233 [.ref l0, .float 0, .int l2, .int l3, .ref l4, .ref l5, .int l6, .int l7, .float 0, .float 0, .float 0] [.int x3, .ref l0] h2 Q
  refine zX_br (p1 := 236) (p2 := 240) (st' := [.ref l0]) (x3 = 0) (fun C kt kf => x_if_ne C 240 dX6_hear_233 (by decide) kf kt) (fun q4 => ?_) (fun q4 => ?_)
  · replace H := H.1 q4
    refine zX_seg (pc' := 241) (L' := [.ref l0, .float 0, .int l2, .int l3, .ref l4, .ref l5, .int l6, .int l7, .float 0, .float 0, .float 0]) (st' := [.int (1 : Int32), .ref l0]) (h2 := h2) rfl rfl (fun C Cr hc kk => x_iconst C (1 : Int32) (by decide) dX6_hear_236 (x_goto C 241 dX6_hear_237 (by decide) (kk))) ?_
    obtain ⟨g5, H⟩ := H
    refine zX_call (as := [.ref l0, .int (1 : Int32)]) (st := []) (fun C hM hc kk => f_callV C [.int (1 : Int32)] hM kX6_push vX6_push lX6_37 ⟨by decide, by decide⟩ (rfl : vwCl[6]? = some (RX6, TX6, 2)) g5 rfl hc (Nat.le_of_ble_eq_true rfl) rfl dX6_hear_241 kk) (zC.mono H ?_)
    rintro r0 h6 ⟨rfl, H⟩
    show zX mX6_hear 244 [.ref l0, .float 0, .int l2, .int l3, .ref l4, .ref l5, .int l6, .int l7, .float 0, .float 0, .float 0] [] h6 Q
    refine zX_seg (pc' := 292) (L' := [.ref l0, .float 0, .int l2, .int l3, .ref l4, .ref l5, .int l6, .int l7, .float 0, .float 0, .float 0]) (st' := []) (h2 := h6) rfl rfl (fun C Cr hc kk => x_goto C 292 dX6_hear_244 (by decide) (kk)) ?_
    exact zX_wk (wkK (wkD (wkK (wkK (wkK (wkK (wkK (wkK (wkD (wkD (wkD wkN))))))))))) H
  · replace H := H.2 q4
    refine zX_seg (pc' := 241) (L' := [.ref l0, .float 0, .int l2, .int l3, .ref l4, .ref l5, .int l6, .int l7, .float 0, .float 0, .float 0]) (st' := [.int (0 : Int32), .ref l0]) (h2 := h2) rfl rfl (fun C Cr hc kk => x_iconst C (0 : Int32) (by decide) dX6_hear_240 (kk)) ?_
    obtain ⟨g7, H⟩ := H
    refine zX_call (as := [.ref l0, .int (0 : Int32)]) (st := []) (fun C hM hc kk => f_callV C [.int (0 : Int32)] hM kX6_push vX6_push lX6_37 ⟨by decide, by decide⟩ (rfl : vwCl[6]? = some (RX6, TX6, 2)) g7 rfl hc (Nat.le_of_ble_eq_true rfl) rfl dX6_hear_241 kk) (zC.mono H ?_)
    rintro r0 h8 ⟨rfl, H⟩
    show zX mX6_hear 244 [.ref l0, .float 0, .int l2, .int l3, .ref l4, .ref l5, .int l6, .int l7, .float 0, .float 0, .float 0] [] h8 Q
    refine zX_seg (pc' := 292) (L' := [.ref l0, .float 0, .int l2, .int l3, .ref l4, .ref l5, .int l6, .int l7, .float 0, .float 0, .float 0]) (st' := []) (h2 := h8) rfl rfl (fun C Cr hc kk => x_goto C 292 dX6_hear_244 (by decide) (kk)) ?_
    exact zX_wk (wkK (wkD (wkK (wkK (wkK (wkK (wkK (wkK (wkD (wkD (wkD wkN))))))))))) H
set_option maxHeartbeats 20000000 in
theorem bX6_hear_247 (l0 : Nat) (l2 : Int32) (l3 : Int32) (l4 : Nat) (l5 : Nat) (l7 : Int32) (l9 : Int32) (h : zH) (Q : Option Value → zH → Prop) (H : oK h l0 6 ∧ (zC mX6_pop [.ref l0] h (fun r0 h2 => ∃ x3 : Int32, r0 = some (.int x3) ∧ ((x3 = 0 → (zX mX6_hear 292 [.ref l0, .float 0, .int l2, .int l3, .ref l4, .ref l5, .int l9, .int l7, .float 0, .float 0, .float 0] [] h2 Q)) ∧ (¬ (x3 = 0) → (zX mX6_hear 292 [.ref l0, .float 0, .int l2, .int l3, .ref l4, .ref l5, .int (0 : Int32), .int l7, .float 0, .float 0, .float 0] [] h2 Q)))))) : zX mX6_hear 247 [.ref l0, .float 0, .int l2, .int l3, .ref l4, .ref l5, .float 0, .int l7, .float 0, .int l9, .float 0] [] h Q := by
  refine zX_seg (pc' := 248) (L' := [.ref l0, .float 0, .int l2, .int l3, .ref l4, .ref l5, .float 0, .int l7, .float 0, .int l9, .float 0]) (st' := [.ref l0]) (h2 := h) rfl rfl (fun C Cr hc kk => x_aload_n C (v := .ref l0) rfl rfl dX6_hear_247 (kk)) ?_
  obtain ⟨g1, H⟩ := H
  refine zX_call (as := [.ref l0]) (st := []) (fun C hM hc kk => f_callV C [] hM kX6_pop vX6_pop lX6_45 ⟨by decide, by decide⟩ (rfl : vwCl[6]? = some (RX6, TX6, 2)) g1 rfl hc (Nat.le_of_ble_eq_true rfl) rfl dX6_hear_248 kk) (zC.mono H ?_)
  rintro r0 h2 ⟨x3, rfl, H⟩
  show zX mX6_hear 251 [.ref l0, .float 0, .int l2, .int l3, .ref l4, .ref l5, .float 0, .int l7, .float 0, .int l9, .float 0] [.int x3] h2 Q
  refine zX_br (p1 := 254) (p2 := 259) (st' := []) (x3 = 0) (fun C kt kf => x_if_ne C 259 dX6_hear_251 (by decide) kf kt) (fun q4 => ?_) (fun q4 => ?_)
  · replace H := H.1 q4
    refine zX_seg (pc' := 292) (L' := [.ref l0, .float 0, .int l2, .int l3, .ref l4, .ref l5, .int l9, .int l7, .float 0, .int l9, .float 0]) (st' := []) (h2 := h2) rfl rfl (fun C Cr hc kk => x_iload C rfl dX6_hear_254 (x_goto C 260 dX6_hear_256 (by decide) (x_istore C (by decide) dX6_hear_260 (x_goto C 292 dX6_hear_262 (by decide) (kk))))) ?_
    exact zX_wk (wkK (wkD (wkK (wkK (wkK (wkK (wkK (wkK (wkD (wkD (wkD wkN))))))))))) H
  · replace H := H.2 q4
    refine zX_seg (pc' := 292) (L' := [.ref l0, .float 0, .int l2, .int l3, .ref l4, .ref l5, .int (0 : Int32), .int l7, .float 0, .int l9, .float 0]) (st' := []) (h2 := h2) rfl rfl (fun C Cr hc kk => x_iconst C (0 : Int32) (by decide) dX6_hear_259 (x_istore C (by decide) dX6_hear_260 (x_goto C 292 dX6_hear_262 (by decide) (kk)))) ?_
    exact zX_wk (wkK (wkD (wkK (wkK (wkK (wkK (wkK (wkK (wkD (wkD (wkD wkN))))))))))) H
set_option maxHeartbeats 20000000 in
theorem bX6_hear_265 (l0 : Nat) (l2 : Int32) (l3 : Int32) (l4 : Nat) (l5 : Nat) (l6 : Int32) (l7 : Int32) (h : zH) (Q : Option Value → zH → Prop) (H : oK h l0 6 ∧ (zC mX6_pop [.ref l0] h (fun r0 h2 => ∃ x3 : Int32, r0 = some (.int x3) ∧ (iK h2 l5 0 ∧ (vp_in l7 (aN h2 l5) ∧ (oK h2 l0 6 ∧ (zC mX6_pop [.ref l0] h2 (fun r0 h7 => ∃ x8 : Int32, r0 = some (.int x8) ∧ (zC mX6_joined [.int ((aI h2 l5 l7.toNatClampNeg) &&& (15 : Int32)), .int x8, .int x3] h7 (fun r0 h9 => ∃ x10 : Int32, r0 = some (.int x10) ∧ (oK h9 l0 6 ∧ (zC mX6_push [.ref l0, .int x10] h9 (fun r0 h12 => r0 = none ∧ (zX mX6_hear 292 [.ref l0, .float 0, .int l2, .int l3, .ref l4, .ref l5, .int l6, .int l7, .float 0, .float 0, .float 0] [] h12 Q)))))))))))))) : zX mX6_hear 265 [.ref l0, .float 0, .int l2, .int l3, .ref l4, .ref l5, .int l6, .int l7, .float 0, .float 0, .float 0] [] h Q := by
  refine zX_seg (pc' := 266) (L' := [.ref l0, .float 0, .int l2, .int l3, .ref l4, .ref l5, .int l6, .int l7, .float 0, .float 0, .float 0]) (st' := [.ref l0]) (h2 := h) rfl rfl (fun C Cr hc kk => x_aload_n C (v := .ref l0) rfl rfl dX6_hear_265 (kk)) ?_
  obtain ⟨g1, H⟩ := H
  refine zX_call (as := [.ref l0]) (st := []) (fun C hM hc kk => f_callV C [] hM kX6_pop vX6_pop lX6_45 ⟨by decide, by decide⟩ (rfl : vwCl[6]? = some (RX6, TX6, 2)) g1 rfl hc (Nat.le_of_ble_eq_true rfl) rfl dX6_hear_266 kk) (zC.mono H ?_)
  rintro r0 h2 ⟨x3, rfl, H⟩
  show zX mX6_hear 269 [.ref l0, .float 0, .int l2, .int l3, .ref l4, .ref l5, .int l6, .int l7, .float 0, .float 0, .float 0] [.int x3] h2 Q
  obtain ⟨g5, H⟩ := H
  obtain ⟨g4, H⟩ := H
  refine zX_seg (pc' := 281) (L' := [.ref l0, .float 0, .int l2, .int l3, .ref l4, .ref l5, .int l6, .int l7, .float 0, .float 0, .int x3]) (st' := [.ref l0, .int ((aI h2 l5 l7.toNatClampNeg) &&& (15 : Int32)), .ref l0]) (h2 := h2) rfl rfl (fun C Cr hc kk => x_istore C (by decide) dX6_hear_269 (x_aload_n C (v := .ref l0) rfl rfl dX6_hear_271 (x_aload C (v := .ref l5) rfl rfl dX6_hear_272 (x_iload C rfl dX6_hear_274 (f_iald C g5 g4 dX6_hear_276 (x_bipush C (15 : Int32) (by decide) dX6_hear_277 (x_iand C dX6_hear_279 (x_aload_n C (v := .ref l0) rfl rfl dX6_hear_280 (kk))))))))) ?_
  obtain ⟨g6, H⟩ := H
  refine zX_call (as := [.ref l0]) (st := [.int ((aI h2 l5 l7.toNatClampNeg) &&& (15 : Int32)), .ref l0]) (fun C hM hc kk => f_callV C [] hM kX6_pop vX6_pop lX6_45 ⟨by decide, by decide⟩ (rfl : vwCl[6]? = some (RX6, TX6, 2)) g6 rfl hc (Nat.le_of_ble_eq_true rfl) rfl dX6_hear_281 kk) (zC.mono H ?_)
  rintro r0 h7 ⟨x8, rfl, H⟩
  show zX mX6_hear 284 [.ref l0, .float 0, .int l2, .int l3, .ref l4, .ref l5, .int l6, .int l7, .float 0, .float 0, .int x3] [.int x8, .int ((aI h2 l5 l7.toNatClampNeg) &&& (15 : Int32)), .ref l0] h7 Q
  refine zX_seg (pc' := 286) (L' := [.ref l0, .float 0, .int l2, .int l3, .ref l4, .ref l5, .int l6, .int l7, .float 0, .float 0, .int x3]) (st' := [.int x3, .int x8, .int ((aI h2 l5 l7.toNatClampNeg) &&& (15 : Int32)), .ref l0]) (h2 := h7) rfl rfl (fun C Cr hc kk => x_iload C rfl dX6_hear_284 (kk)) ?_
  refine zX_call (as := [.int ((aI h2 l5 l7.toNatClampNeg) &&& (15 : Int32)), .int x8, .int x3]) (st := [.ref l0]) (fun C hM hc kk => x_callS C [.int ((aI h2 l5 l7.toNatClampNeg) &&& (15 : Int32)), .int x8, .int x3] hM kX6_joined sX6_joined lX6_49 ⟨by decide, by decide⟩ rfl hc (Nat.le_of_ble_eq_true rfl) rfl dX6_hear_286 kk) (zC.mono H ?_)
  rintro r0 h9 ⟨x10, rfl, H⟩
  show zX mX6_hear 289 [.ref l0, .float 0, .int l2, .int l3, .ref l4, .ref l5, .int l6, .int l7, .float 0, .float 0, .int x3] [.int x10, .ref l0] h9 Q
  obtain ⟨g11, H⟩ := H
  refine zX_call (as := [.ref l0, .int x10]) (st := []) (fun C hM hc kk => f_callV C [.int x10] hM kX6_push vX6_push lX6_37 ⟨by decide, by decide⟩ (rfl : vwCl[6]? = some (RX6, TX6, 2)) g11 rfl hc (Nat.le_of_ble_eq_true rfl) rfl dX6_hear_289 kk) (zC.mono H ?_)
  rintro r0 h12 ⟨rfl, H⟩
  show zX mX6_hear 292 [.ref l0, .float 0, .int l2, .int l3, .ref l4, .ref l5, .int l6, .int l7, .float 0, .float 0, .int x3] [] h12 Q
  exact zX_wk (wkK (wkD (wkK (wkK (wkK (wkK (wkK (wkK (wkD (wkD (wkD wkN))))))))))) H
set_option maxHeartbeats 20000000 in
theorem bX6_hear_292 (l0 : Nat) (l2 : Int32) (l3 : Int32) (l4 : Nat) (l5 : Nat) (l6 : Int32) (l7 : Int32) (h : zH) (Q : Option Value → zH → Prop) (H : zX mX6_hear 17 [.ref l0, .float 0, .int l2, .int l3, .ref l4, .ref l5, .int l6, .int (l7 + 1), .float 0, .float 0, .float 0] [] h Q) : zX mX6_hear 292 [.ref l0, .float 0, .int l2, .int l3, .ref l4, .ref l5, .int l6, .int l7, .float 0, .float 0, .float 0] [] h Q := by
  refine zX_seg (pc' := 17) (L' := [.ref l0, .float 0, .int l2, .int l3, .ref l4, .ref l5, .int l6, .int (l7 + 1), .float 0, .float 0, .float 0]) (st' := []) (h2 := h) rfl rfl (fun C Cr hc kk => x_iinc C (l7 + 1) rfl (congrArg (HAdd.hAdd _) (by decide)) (by decide) dX6_hear_292 (x_goto C 17 dX6_hear_295 (by decide) (kk))) ?_
  exact zX_wk (wkK (wkD (wkK (wkK (wkK (wkK (wkK (wkK (wkD (wkD (wkD wkN))))))))))) H
theorem nX6_hear (t : Nat) (p0 : Nat) (p1 : Int32) (p2 : Int32) (p3 : Nat) (h : zH) (Q : Option Value → zH → Prop) (H : zX mX6_hear 0 [.ref t, .ref p0, .int p1, .int p2, .ref p3, .float 0, .float 0, .float 0, .float 0, .float 0, .float 0] [] h Q) : zC mX6_hear [.ref t, .ref p0, .int p1, .int p2, .ref p3] h Q := zC_of (by decide +kernel) (by simp) (Nat.le_of_ble_eq_true rfl) H
set_option maxHeartbeats 20000000 in
theorem bX6_firstBroken_0 (t : Nat) (p0 : Nat) (p1 : Int32) (p2 : Int32) (p3 : Nat) (h : zH) (Q : Option Value → zH → Prop) (H : zX mX6_firstBroken 3 [.ref t, .ref p0, .int p1, .int p2, .ref p3, .int (0 : Int32)] [] h Q) : zX mX6_firstBroken 0 [.ref t, .ref p0, .int p1, .int p2, .ref p3, .float 0] [] h Q := by
  refine zX_seg (pc' := 3) (L' := [.ref t, .ref p0, .int p1, .int p2, .ref p3, .int (0 : Int32)]) (st' := []) (h2 := h) rfl rfl (fun C Cr hc kk => x_iconst C (0 : Int32) (by decide) dX6_firstBroken_0 (x_istore C (by decide) dX6_firstBroken_1 (kk))) ?_
  exact zX_wk (wkK (wkK (wkK (wkK (wkK (wkK wkN)))))) H
set_option maxHeartbeats 20000000 in
theorem bX6_firstBroken_3 (l0 : Nat) (l1 : Nat) (l2 : Int32) (l3 : Int32) (l4 : Nat) (l5 : Int32) (h : zH) (Q : Option Value → zH → Prop) (H : (l2 ≤ l5 → (Q (some (.int (-1 : Int32))) h)) ∧ (¬ (l2 ≤ l5) → (oK h l1 1 ∧ (zC mX1_ballotOf [.ref l1, .int l5] h (fun r0 h3 => ∃ x4 : Option Nat, r0 = some (zr x4) ∧ (∃ a5 : Nat, x4 = some a5 ∧ (oK h3 l0 6 ∧ (zC mX6_hear [.ref l0, .ref a5, .int l5, .int l3, .ref l4] h3 (fun r0 h7 => ∃ x8 : Int32, r0 = some (.int x8) ∧ (oK h7 l4 10 ∧ (zC mX10_markOf [.ref l4, .int l3, .int l5] h7 (fun r0 h10 => ∃ x11 : Int32, r0 = some (.int x11) ∧ ((x8 = x11 → (zX mX6_firstBroken 3 [.ref l0, .ref l1, .int l2, .int l3, .ref l4, .int (l5 + 1)] [] h10 Q)) ∧ (¬ (x8 = x11) → (Q (some (.int l5)) h10))))))))))))))) : zX mX6_firstBroken 3 [.ref l0, .ref l1, .int l2, .int l3, .ref l4, .int l5] [] h Q := by
  refine zX_seg (pc' := 6) (L' := [.ref l0, .ref l1, .int l2, .int l3, .ref l4, .int l5]) (st' := [.int l2, .int l5]) (h2 := h) rfl rfl (fun C Cr hc kk => x_iload C rfl dX6_firstBroken_3 (x_iload_n C rfl dX6_firstBroken_5 (kk))) ?_
  refine zX_br (p1 := 44) (p2 := 9) (st' := []) (l2 ≤ l5) (fun C kt kf => x_icmp_ge C 44 dX6_firstBroken_6 (by decide) kt kf) (fun q1 => ?_) (fun q1 => ?_)
  · replace H := H.1 q1
    refine zX_seg (pc' := 45) (L' := [.ref l0, .ref l1, .int l2, .int l3, .ref l4, .int l5]) (st' := [.int (-1 : Int32)]) (h2 := h) rfl rfl (fun C Cr hc kk => x_iconst C (-1 : Int32) (by decide) dX6_firstBroken_44 (kk)) ?_
    exact zX_ret (some (.int (-1 : Int32))) (fun C Cr hc => x_iret C Cr rfl rfl hc dX6_firstBroken_45 ⟨rfl, rfl⟩) H
  · replace H := H.2 q1
    refine zX_seg (pc' := 13) (L' := [.ref l0, .ref l1, .int l2, .int l3, .ref l4, .int l5]) (st' := [.int l5, .ref l1, .ref l0]) (h2 := h) rfl rfl (fun C Cr hc kk => x_aload_n C (v := .ref l0) rfl rfl dX6_firstBroken_9 (x_aload_n C (v := .ref l1) rfl rfl dX6_firstBroken_10 (x_iload C rfl dX6_firstBroken_11 (kk)))) ?_
    obtain ⟨g2, H⟩ := H
    refine zX_call (as := [.ref l1, .int l5]) (st := [.ref l0]) (fun C hM hc kk => f_callVN C [.int l5] hM kX1_ballotOf vX1_ballotOf lX6_52 ⟨by decide, by decide⟩ (rfl : vwCl[1]? = some (RX1, TX1, 5)) g2 rfl hc (Nat.le_of_ble_eq_true rfl) rfl dX6_firstBroken_13 kk) (zC.mono H ?_)
    rintro r0 h3 ⟨x4, rfl, H⟩
    show zX mX6_firstBroken 16 [.ref l0, .ref l1, .int l2, .int l3, .ref l4, .int l5] [zr x4, .ref l0] h3 Q
    obtain ⟨a5, rfl, H⟩ := H
    refine zX_seg (pc' := 21) (L' := [.ref l0, .ref l1, .int l2, .int l3, .ref l4, .int l5]) (st' := [.ref l4, .int l3, .int l5, .ref a5, .ref l0]) (h2 := h3) rfl rfl (fun C Cr hc kk => x_iload C rfl dX6_firstBroken_16 (x_iload_n C rfl dX6_firstBroken_18 (x_aload C (v := .ref l4) rfl rfl dX6_firstBroken_19 (kk)))) ?_
    obtain ⟨g6, H⟩ := H
    refine zX_call (as := [.ref l0, .ref a5, .int l5, .int l3, .ref l4]) (st := []) (fun C hM hc kk => f_callV C [.ref a5, .int l5, .int l3, .ref l4] hM kX6_hear vX6_hear lX6_58 ⟨by decide, by decide⟩ (rfl : vwCl[6]? = some (RX6, TX6, 2)) g6 rfl hc (Nat.le_of_ble_eq_true rfl) rfl dX6_firstBroken_21 kk) (zC.mono H ?_)
    rintro r0 h7 ⟨x8, rfl, H⟩
    show zX mX6_firstBroken 24 [.ref l0, .ref l1, .int l2, .int l3, .ref l4, .int l5] [.int x8] h7 Q
    refine zX_seg (pc' := 29) (L' := [.ref l0, .ref l1, .int l2, .int l3, .ref l4, .int l5]) (st' := [.int l5, .int l3, .ref l4, .int x8]) (h2 := h7) rfl rfl (fun C Cr hc kk => x_aload C (v := .ref l4) rfl rfl dX6_firstBroken_24 (x_iload_n C rfl dX6_firstBroken_26 (x_iload C rfl dX6_firstBroken_27 (kk)))) ?_
    obtain ⟨g9, H⟩ := H
    refine zX_call (as := [.ref l4, .int l3, .int l5]) (st := [.int x8]) (fun C hM hc kk => f_callVN C [.int l3, .int l5] hM kX10_markOf vX10_markOf lX6_24 ⟨by decide, by decide⟩ (rfl : vwCl[10]? = some (RX10, TX10, 10)) g9 rfl hc (Nat.le_of_ble_eq_true rfl) rfl dX6_firstBroken_29 kk) (zC.mono H ?_)
    rintro r0 h10 ⟨x11, rfl, H⟩
    show zX mX6_firstBroken 32 [.ref l0, .ref l1, .int l2, .int l3, .ref l4, .int l5] [.int x11, .int x8] h10 Q
    refine zX_br (p1 := 38) (p2 := 35) (st' := []) (x8 = x11) (fun C kt kf => x_icmp_eq C 38 dX6_firstBroken_32 (by decide) kt kf) (fun q12 => ?_) (fun q12 => ?_)
    · replace H := H.1 q12
      refine zX_seg (pc' := 3) (L' := [.ref l0, .ref l1, .int l2, .int l3, .ref l4, .int (l5 + 1)]) (st' := []) (h2 := h10) rfl rfl (fun C Cr hc kk => x_iinc C (l5 + 1) rfl (congrArg (HAdd.hAdd _) (by decide)) (by decide) dX6_firstBroken_38 (x_goto C 3 dX6_firstBroken_41 (by decide) (kk))) ?_
      exact zX_wk (wkK (wkK (wkK (wkK (wkK (wkK wkN)))))) H
    · replace H := H.2 q12
      refine zX_seg (pc' := 37) (L' := [.ref l0, .ref l1, .int l2, .int l3, .ref l4, .int l5]) (st' := [.int l5]) (h2 := h10) rfl rfl (fun C Cr hc kk => x_iload C rfl dX6_firstBroken_35 (kk)) ?_
      exact zX_ret (some (.int l5)) (fun C Cr hc => x_iret C Cr rfl rfl hc dX6_firstBroken_37 ⟨rfl, rfl⟩) H
theorem nX6_firstBroken (t : Nat) (p0 : Nat) (p1 : Int32) (p2 : Int32) (p3 : Nat) (h : zH) (Q : Option Value → zH → Prop) (H : zX mX6_firstBroken 0 [.ref t, .ref p0, .int p1, .int p2, .ref p3, .float 0] [] h Q) : zC mX6_firstBroken [.ref t, .ref p0, .int p1, .int p2, .ref p3] h Q := zC_of (by decide +kernel) (by simp) (Nat.le_of_ble_eq_true rfl) H
set_option maxHeartbeats 20000000 in
theorem bX6_joined_0 (p0 : Int32) (p1 : Int32) (p2 : Int32) (h : zH) (Q : Option Value → zH → Prop) (H : (p0 = 5 → (zX mX6_joined 94 [.float 0, .int p1, .int p2, .float 0] [] h Q)) ∧ ((p0 = 7 → (zX mX6_joined 52 [.float 0, .int p1, .int p2, .float 0] [] h Q)) ∧ ((p0 = 8 → (zX mX6_joined 66 [.float 0, .int p1, .int p2, .float 0] [] h Q)) ∧ ((p0 = 9 → (zX mX6_joined 80 [.float 0, .int p1, .int p2, .float 0] [] h Q)) ∧ ((p0 = 10 → (zX mX6_joined 44 [.float 0, .int p1, .int p2, .float 0] [] h Q)) ∧ ((p0 = 11 → (zX mX6_joined 48 [.float 0, .int p1, .int p2, .float 0] [] h Q)) ∧ (¬ p0 = 5 → ¬ p0 = 7 → ¬ p0 = 8 → ¬ p0 = 9 → ¬ p0 = 10 → ¬ p0 = 11 → (zX mX6_joined 111 [.float 0, .int p1, .int p2, .float 0] [] h Q)))))))) : zX mX6_joined 0 [.int p0, .int p1, .int p2, .float 0] [] h Q := by
  refine zX_seg (pc' := (ztt 1 110 5 11 [93, 110, 51, 65, 79, 43, 47] p0)) (L' := [.int p0, .int p1, .int p2, .float 0]) (st' := []) (h2 := h) rfl rfl (fun C Cr hc kk => x_iload_n C rfl dX6_joined_0 (f_table C ⟨⟨by decide, by decide⟩, by decide⟩ dX6_joined_1 (kk))) ?_
  by_cases z1 : p0 = 5
  · replace H := H.1 z1
    rw [show (ztt 1 110 5 11 [93, 110, 51, 65, 79, 43, 47] p0) = 94 from by rw [z1]; decide]
    exact zX_wk (wkD (wkK (wkK (wkD wkN)))) H
  · replace H := H.2
    by_cases z2 : p0 = 7
    · replace H := H.1 z2
      rw [show (ztt 1 110 5 11 [93, 110, 51, 65, 79, 43, 47] p0) = 52 from by rw [z2]; decide]
      exact zX_wk (wkD (wkK (wkK (wkD wkN)))) H
    · replace H := H.2
      by_cases z3 : p0 = 8
      · replace H := H.1 z3
        rw [show (ztt 1 110 5 11 [93, 110, 51, 65, 79, 43, 47] p0) = 66 from by rw [z3]; decide]
        exact zX_wk (wkD (wkK (wkK (wkD wkN)))) H
      · replace H := H.2
        by_cases z4 : p0 = 9
        · replace H := H.1 z4
          rw [show (ztt 1 110 5 11 [93, 110, 51, 65, 79, 43, 47] p0) = 80 from by rw [z4]; decide]
          exact zX_wk (wkD (wkK (wkK (wkD wkN)))) H
        · replace H := H.2
          by_cases z5 : p0 = 10
          · replace H := H.1 z5
            rw [show (ztt 1 110 5 11 [93, 110, 51, 65, 79, 43, 47] p0) = 44 from by rw [z5]; decide]
            exact zX_wk (wkD (wkK (wkK (wkD wkN)))) H
          · replace H := H.2
            by_cases z6 : p0 = 11
            · replace H := H.1 z6
              rw [show (ztt 1 110 5 11 [93, 110, 51, 65, 79, 43, 47] p0) = 48 from by rw [z6]; decide]
              exact zX_wk (wkD (wkK (wkK (wkD wkN)))) H
            · replace H := H.2
              rw [show (ztt 1 110 5 11 [93, 110, 51, 65, 79, 43, 47] p0) = 111 from (ztt_d [5, 7, 8, 9, 10, 11] (by decide) (by decide) (List.forall_mem_cons.mpr ⟨z1, (List.forall_mem_cons.mpr ⟨z2, (List.forall_mem_cons.mpr ⟨z3, (List.forall_mem_cons.mpr ⟨z4, (List.forall_mem_cons.mpr ⟨z5, (List.forall_mem_cons.mpr ⟨z6, (fun _ h => absurd h List.not_mem_nil)⟩)⟩)⟩)⟩)⟩)⟩)).trans (by decide)]
              replace H := H z1 z2 z3 z4 z5 z6
              exact zX_wk (wkD (wkK (wkK (wkD wkN)))) H
set_option maxHeartbeats 20000000 in
theorem bX6_joined_44 (l1 : Int32) (l2 : Int32) (h : zH) (Q : Option Value → zH → Prop) (H : Q (some (.int (l1 + l2))) h) : zX mX6_joined 44 [.float 0, .int l1, .int l2, .float 0] [] h Q := by
  refine zX_seg (pc' := 47) (L' := [.float 0, .int l1, .int l2, .float 0]) (st' := [.int (l1 + l2)]) (h2 := h) rfl rfl (fun C Cr hc kk => x_iload_n C rfl dX6_joined_44 (x_iload_n C rfl dX6_joined_45 (x_iadd C dX6_joined_46 (kk)))) ?_
  exact zX_ret (some (.int (l1 + l2))) (fun C Cr hc => x_iret C Cr rfl rfl hc dX6_joined_47 ⟨rfl, rfl⟩) H
set_option maxHeartbeats 20000000 in
theorem bX6_joined_48 (l1 : Int32) (l2 : Int32) (h : zH) (Q : Option Value → zH → Prop) (H : Q (some (.int (l1 - l2))) h) : zX mX6_joined 48 [.float 0, .int l1, .int l2, .float 0] [] h Q := by
  refine zX_seg (pc' := 51) (L' := [.float 0, .int l1, .int l2, .float 0]) (st' := [.int (l1 - l2)]) (h2 := h) rfl rfl (fun C Cr hc kk => x_iload_n C rfl dX6_joined_48 (x_iload_n C rfl dX6_joined_49 (x_isub C dX6_joined_50 (kk)))) ?_
  exact zX_ret (some (.int (l1 - l2))) (fun C Cr hc => x_iret C Cr rfl rfl hc dX6_joined_51 ⟨rfl, rfl⟩) H
set_option maxHeartbeats 20000000 in
theorem bX6_joined_52 (l1 : Int32) (l2 : Int32) (h : zH) (Q : Option Value → zH → Prop) (H : (l2 ≤ l1 → (zX mX6_joined 125 [.float 0, .float 0, .float 0, .int (0 : Int32)] [] h Q)) ∧ (¬ (l2 ≤ l1) → (zX mX6_joined 125 [.float 0, .float 0, .float 0, .int (1 : Int32)] [] h Q))) : zX mX6_joined 52 [.float 0, .int l1, .int l2, .float 0] [] h Q := by
  refine zX_seg (pc' := 54) (L' := [.float 0, .int l1, .int l2, .float 0]) (st' := [.int l2, .int l1]) (h2 := h) rfl rfl (fun C Cr hc kk => x_iload_n C rfl dX6_joined_52 (x_iload_n C rfl dX6_joined_53 (kk))) ?_
  refine zX_br (p1 := 61) (p2 := 57) (st' := []) (l2 ≤ l1) (fun C kt kf => x_icmp_ge C 61 dX6_joined_54 (by decide) kt kf) (fun q1 => ?_) (fun q1 => ?_)
  · replace H := H.1 q1
    refine zX_seg (pc' := 125) (L' := [.float 0, .int l1, .int l2, .int (0 : Int32)]) (st' := []) (h2 := h) rfl rfl (fun C Cr hc kk => x_iconst C (0 : Int32) (by decide) dX6_joined_61 (x_istore_n C (by decide) dX6_joined_62 (x_goto C 125 dX6_joined_63 (by decide) (kk)))) ?_
    exact zX_wk (wkD (wkD (wkD (wkK wkN)))) H
  · replace H := H.2 q1
    refine zX_seg (pc' := 125) (L' := [.float 0, .int l1, .int l2, .int (1 : Int32)]) (st' := []) (h2 := h) rfl rfl (fun C Cr hc kk => x_iconst C (1 : Int32) (by decide) dX6_joined_57 (x_goto C 62 dX6_joined_58 (by decide) (x_istore_n C (by decide) dX6_joined_62 (x_goto C 125 dX6_joined_63 (by decide) (kk))))) ?_
    exact zX_wk (wkD (wkD (wkD (wkK wkN)))) H
set_option maxHeartbeats 20000000 in
theorem bX6_joined_66 (l1 : Int32) (l2 : Int32) (h : zH) (Q : Option Value → zH → Prop) (H : (l1 ≤ l2 → (zX mX6_joined 125 [.float 0, .float 0, .float 0, .int (0 : Int32)] [] h Q)) ∧ (¬ (l1 ≤ l2) → (zX mX6_joined 125 [.float 0, .float 0, .float 0, .int (1 : Int32)] [] h Q))) : zX mX6_joined 66 [.float 0, .int l1, .int l2, .float 0] [] h Q := by
  refine zX_seg (pc' := 68) (L' := [.float 0, .int l1, .int l2, .float 0]) (st' := [.int l2, .int l1]) (h2 := h) rfl rfl (fun C Cr hc kk => x_iload_n C rfl dX6_joined_66 (x_iload_n C rfl dX6_joined_67 (kk))) ?_
  refine zX_br (p1 := 75) (p2 := 71) (st' := []) (l1 ≤ l2) (fun C kt kf => x_icmp_le C 75 dX6_joined_68 (by decide) kt kf) (fun q1 => ?_) (fun q1 => ?_)
  · replace H := H.1 q1
    refine zX_seg (pc' := 125) (L' := [.float 0, .int l1, .int l2, .int (0 : Int32)]) (st' := []) (h2 := h) rfl rfl (fun C Cr hc kk => x_iconst C (0 : Int32) (by decide) dX6_joined_75 (x_istore_n C (by decide) dX6_joined_76 (x_goto C 125 dX6_joined_77 (by decide) (kk)))) ?_
    exact zX_wk (wkD (wkD (wkD (wkK wkN)))) H
  · replace H := H.2 q1
    refine zX_seg (pc' := 125) (L' := [.float 0, .int l1, .int l2, .int (1 : Int32)]) (st' := []) (h2 := h) rfl rfl (fun C Cr hc kk => x_iconst C (1 : Int32) (by decide) dX6_joined_71 (x_goto C 76 dX6_joined_72 (by decide) (x_istore_n C (by decide) dX6_joined_76 (x_goto C 125 dX6_joined_77 (by decide) (kk))))) ?_
    exact zX_wk (wkD (wkD (wkD (wkK wkN)))) H
set_option maxHeartbeats 20000000 in
theorem bX6_joined_80 (l1 : Int32) (l2 : Int32) (h : zH) (Q : Option Value → zH → Prop) (H : (l1 = l2 → (zX mX6_joined 125 [.float 0, .float 0, .float 0, .int (1 : Int32)] [] h Q)) ∧ (¬ (l1 = l2) → (zX mX6_joined 125 [.float 0, .float 0, .float 0, .int (0 : Int32)] [] h Q))) : zX mX6_joined 80 [.float 0, .int l1, .int l2, .float 0] [] h Q := by
  refine zX_seg (pc' := 82) (L' := [.float 0, .int l1, .int l2, .float 0]) (st' := [.int l2, .int l1]) (h2 := h) rfl rfl (fun C Cr hc kk => x_iload_n C rfl dX6_joined_80 (x_iload_n C rfl dX6_joined_81 (kk))) ?_
  refine zX_br (p1 := 85) (p2 := 89) (st' := []) (l1 = l2) (fun C kt kf => x_icmp_ne C 89 dX6_joined_82 (by decide) kf kt) (fun q1 => ?_) (fun q1 => ?_)
  · replace H := H.1 q1
    refine zX_seg (pc' := 125) (L' := [.float 0, .int l1, .int l2, .int (1 : Int32)]) (st' := []) (h2 := h) rfl rfl (fun C Cr hc kk => x_iconst C (1 : Int32) (by decide) dX6_joined_85 (x_goto C 90 dX6_joined_86 (by decide) (x_istore_n C (by decide) dX6_joined_90 (x_goto C 125 dX6_joined_91 (by decide) (kk))))) ?_
    exact zX_wk (wkD (wkD (wkD (wkK wkN)))) H
  · replace H := H.2 q1
    refine zX_seg (pc' := 125) (L' := [.float 0, .int l1, .int l2, .int (0 : Int32)]) (st' := []) (h2 := h) rfl rfl (fun C Cr hc kk => x_iconst C (0 : Int32) (by decide) dX6_joined_89 (x_istore_n C (by decide) dX6_joined_90 (x_goto C 125 dX6_joined_91 (by decide) (kk)))) ?_
    exact zX_wk (wkD (wkD (wkD (wkK wkN)))) H
set_option maxHeartbeats 20000000 in
theorem bX6_joined_94 (l1 : Int32) (l2 : Int32) (h : zH) (Q : Option Value → zH → Prop) (H : (l1 = 0 → (zX mX6_joined 107 [.float 0, .float 0, .float 0, .float 0] [.int (0 : Int32)] h Q)) ∧ (¬ (l1 = 0) → ((l2 = 0 → (zX mX6_joined 107 [.float 0, .float 0, .float 0, .float 0] [.int (0 : Int32)] h Q)) ∧ (¬ (l2 = 0) → (zX mX6_joined 107 [.float 0, .float 0, .float 0, .float 0] [.int (1 : Int32)] h Q))))) : zX mX6_joined 94 [.float 0, .int l1, .int l2, .float 0] [] h Q := by
  refine zX_seg (pc' := 95) (L' := [.float 0, .int l1, .int l2, .float 0]) (st' := [.int l1]) (h2 := h) rfl rfl (fun C Cr hc kk => x_iload_n C rfl dX6_joined_94 (kk)) ?_
  refine zX_br (p1 := 106) (p2 := 98) (st' := []) (l1 = 0) (fun C kt kf => x_if_eq C 106 dX6_joined_95 (by decide) kt kf) (fun q1 => ?_) (fun q1 => ?_)
  · replace H := H.1 q1
    refine zX_seg (pc' := 107) (L' := [.float 0, .int l1, .int l2, .float 0]) (st' := [.int (0 : Int32)]) (h2 := h) rfl rfl (fun C Cr hc kk => x_iconst C (0 : Int32) (by decide) dX6_joined_106 (kk)) ?_
    exact zX_wk (wkD (wkD (wkD (wkD wkN)))) H
  · replace H := H.2 q1
    refine zX_seg (pc' := 99) (L' := [.float 0, .int l1, .int l2, .float 0]) (st' := [.int l2]) (h2 := h) rfl rfl (fun C Cr hc kk => x_iload_n C rfl dX6_joined_98 (kk)) ?_
    refine zX_br (p1 := 106) (p2 := 102) (st' := []) (l2 = 0) (fun C kt kf => x_if_eq C 106 dX6_joined_99 (by decide) kt kf) (fun q2 => ?_) (fun q2 => ?_)
    · replace H := H.1 q2
      refine zX_seg (pc' := 107) (L' := [.float 0, .int l1, .int l2, .float 0]) (st' := [.int (0 : Int32)]) (h2 := h) rfl rfl (fun C Cr hc kk => x_iconst C (0 : Int32) (by decide) dX6_joined_106 (kk)) ?_
      exact zX_wk (wkD (wkD (wkD (wkD wkN)))) H
    · replace H := H.2 q2
      refine zX_seg (pc' := 107) (L' := [.float 0, .int l1, .int l2, .float 0]) (st' := [.int (1 : Int32)]) (h2 := h) rfl rfl (fun C Cr hc kk => x_iconst C (1 : Int32) (by decide) dX6_joined_102 (x_goto C 107 dX6_joined_103 (by decide) (kk))) ?_
      exact zX_wk (wkD (wkD (wkD (wkD wkN)))) H
set_option maxHeartbeats 20000000 in
theorem bX6_joined_107 (s0 : Int32) (h : zH) (Q : Option Value → zH → Prop) (H : zX mX6_joined 125 [.float 0, .float 0, .float 0, .int s0] [] h Q) : zX mX6_joined 107 [.float 0, .float 0, .float 0, .float 0] [.int s0] h Q := by
  refine zX_seg (pc' := 125) (L' := [.float 0, .float 0, .float 0, .int s0]) (st' := []) (h2 := h) rfl rfl (fun C Cr hc kk => x_istore_n C (by decide) dX6_joined_107 (x_goto C 125 dX6_joined_108 (by decide) (kk))) ?_
  exact zX_wk (wkD (wkD (wkD (wkK wkN)))) H
set_option maxHeartbeats 20000000 in
theorem bX6_joined_111 (l1 : Int32) (l2 : Int32) (h : zH) (Q : Option Value → zH → Prop) (H : (l1 = 0 → ((l2 = 0 → (zX mX6_joined 124 [.float 0, .float 0, .float 0, .float 0] [.int (0 : Int32)] h Q)) ∧ (¬ (l2 = 0) → (zX mX6_joined 124 [.float 0, .float 0, .float 0, .float 0] [.int (1 : Int32)] h Q)))) ∧ (¬ (l1 = 0) → (zX mX6_joined 124 [.float 0, .float 0, .float 0, .float 0] [.int (1 : Int32)] h Q))) : zX mX6_joined 111 [.float 0, .int l1, .int l2, .float 0] [] h Q := by
  refine zX_seg (pc' := 112) (L' := [.float 0, .int l1, .int l2, .float 0]) (st' := [.int l1]) (h2 := h) rfl rfl (fun C Cr hc kk => x_iload_n C rfl dX6_joined_111 (kk)) ?_
  refine zX_br (p1 := 115) (p2 := 119) (st' := []) (l1 = 0) (fun C kt kf => x_if_ne C 119 dX6_joined_112 (by decide) kf kt) (fun q1 => ?_) (fun q1 => ?_)
  · replace H := H.1 q1
    refine zX_seg (pc' := 116) (L' := [.float 0, .int l1, .int l2, .float 0]) (st' := [.int l2]) (h2 := h) rfl rfl (fun C Cr hc kk => x_iload_n C rfl dX6_joined_115 (kk)) ?_
    refine zX_br (p1 := 123) (p2 := 119) (st' := []) (l2 = 0) (fun C kt kf => x_if_eq C 123 dX6_joined_116 (by decide) kt kf) (fun q2 => ?_) (fun q2 => ?_)
    · replace H := H.1 q2
      refine zX_seg (pc' := 124) (L' := [.float 0, .int l1, .int l2, .float 0]) (st' := [.int (0 : Int32)]) (h2 := h) rfl rfl (fun C Cr hc kk => x_iconst C (0 : Int32) (by decide) dX6_joined_123 (kk)) ?_
      exact zX_wk (wkD (wkD (wkD (wkD wkN)))) H
    · replace H := H.2 q2
      refine zX_seg (pc' := 124) (L' := [.float 0, .int l1, .int l2, .float 0]) (st' := [.int (1 : Int32)]) (h2 := h) rfl rfl (fun C Cr hc kk => x_iconst C (1 : Int32) (by decide) dX6_joined_119 (x_goto C 124 dX6_joined_120 (by decide) (kk))) ?_
      exact zX_wk (wkD (wkD (wkD (wkD wkN)))) H
  · replace H := H.2 q1
    refine zX_seg (pc' := 124) (L' := [.float 0, .int l1, .int l2, .float 0]) (st' := [.int (1 : Int32)]) (h2 := h) rfl rfl (fun C Cr hc kk => x_iconst C (1 : Int32) (by decide) dX6_joined_119 (x_goto C 124 dX6_joined_120 (by decide) (kk))) ?_
    exact zX_wk (wkD (wkD (wkD (wkD wkN)))) H
set_option maxHeartbeats 20000000 in
theorem bX6_joined_124 (s0 : Int32) (h : zH) (Q : Option Value → zH → Prop) (H : zX mX6_joined 125 [.float 0, .float 0, .float 0, .int s0] [] h Q) : zX mX6_joined 124 [.float 0, .float 0, .float 0, .float 0] [.int s0] h Q := by
  refine zX_seg (pc' := 125) (L' := [.float 0, .float 0, .float 0, .int s0]) (st' := []) (h2 := h) rfl rfl (fun C Cr hc kk => x_istore_n C (by decide) dX6_joined_124 (kk)) ?_
  exact zX_wk (wkD (wkD (wkD (wkK wkN)))) H
set_option maxHeartbeats 20000000 in
theorem bX6_joined_125 (l3 : Int32) (h : zH) (Q : Option Value → zH → Prop) (H : (l3 = 0 → (Q (some (.int (0 : Int32))) h)) ∧ (¬ (l3 = 0) → (Q (some (.int (1 : Int32))) h))) : zX mX6_joined 125 [.float 0, .float 0, .float 0, .int l3] [] h Q := by
  refine zX_seg (pc' := 126) (L' := [.float 0, .float 0, .float 0, .int l3]) (st' := [.int l3]) (h2 := h) rfl rfl (fun C Cr hc kk => x_iload_n C rfl dX6_joined_125 (kk)) ?_
  refine zX_br (p1 := 133) (p2 := 129) (st' := []) (l3 = 0) (fun C kt kf => x_if_eq C 133 dX6_joined_126 (by decide) kt kf) (fun q1 => ?_) (fun q1 => ?_)
  · replace H := H.1 q1
    refine zX_seg (pc' := 134) (L' := [.float 0, .float 0, .float 0, .int l3]) (st' := [.int (0 : Int32)]) (h2 := h) rfl rfl (fun C Cr hc kk => x_iconst C (0 : Int32) (by decide) dX6_joined_133 (kk)) ?_
    exact zX_ret (some (.int (0 : Int32))) (fun C Cr hc => x_iret C Cr rfl rfl hc dX6_joined_134 ⟨rfl, rfl⟩) H
  · replace H := H.2 q1
    refine zX_seg (pc' := 134) (L' := [.float 0, .float 0, .float 0, .int l3]) (st' := [.int (1 : Int32)]) (h2 := h) rfl rfl (fun C Cr hc kk => x_iconst C (1 : Int32) (by decide) dX6_joined_129 (x_goto C 134 dX6_joined_130 (by decide) (kk))) ?_
    exact zX_ret (some (.int (1 : Int32))) (fun C Cr hc => x_iret C Cr rfl rfl hc dX6_joined_134 ⟨rfl, rfl⟩) H
theorem nX6_joined (p0 : Int32) (p1 : Int32) (p2 : Int32) (h : zH) (Q : Option Value → zH → Prop) (H : zX mX6_joined 0 [.int p0, .int p1, .int p2, .float 0] [] h Q) : zC mX6_joined [.int p0, .int p1, .int p2] h Q := zC_of (by decide +kernel) (by simp) (Nat.le_of_ble_eq_true rfl) H
set_option maxHeartbeats 20000000 in
theorem bX6_push_0 (t : Nat) (p0 : Int32) (h : zH) (Q : Option Value → zH → Prop) (H : oK h t 6 ∧ (∃ a2 : Nat, gR h t 0 = some a2 ∧ (zC mX11_put [.ref a2, .int (gI h t 1), .int p0] h (fun r0 h3 => r0 = none ∧ (oK h3 t 6 ∧ (∀ h5 : zH, h5 = (pF h3 t 1 (.int ((gI h3 t 1) + (1 : Int32)))) → (Q none h5))))))) : zX mX6_push 0 [.ref t, .int p0] [] h Q := by
  obtain ⟨g1, H⟩ := H
  obtain ⟨a2, ea2, H⟩ := H
  refine zX_seg (pc' := 9) (L' := [.ref t, .int p0]) (st' := [.int p0, .int (gI h t 1), .ref a2]) (h2 := h) rfl rfl (fun C Cr hc kk => x_aload_n C (v := .ref t) rfl rfl dX6_push_0 (f_getR1 C lX6_9 g1 rfl ea2 dX6_push_1 (x_aload_n C (v := .ref t) rfl rfl dX6_push_4 (f_getI C lX6_20 g1 rfl dX6_push_5 (x_iload_n C rfl dX6_push_8 (kk)))))) ?_
  refine zX_call (as := [.ref a2, .int (gI h t 1), .int p0]) (st := []) (fun C hM hc kk => x_callSN C [.ref a2, .int (gI h t 1), .int p0] hM kX11_put sX11_put lX6_62 ⟨by decide, by decide⟩ rfl hc (Nat.le_of_ble_eq_true rfl) rfl dX6_push_9 kk) (zC.mono H ?_)
  rintro r0 h3 ⟨rfl, H⟩
  show zX mX6_push 12 [.ref t, .int p0] [] h3 Q
  obtain ⟨g4, H⟩ := H
  refine zX_seg (pc' := 22) (L' := [.ref t, .int p0]) (st' := []) (h2 := (pF h3 t 1 (.int ((gI h3 t 1) + (1 : Int32))))) rfl rfl (fun C Cr hc kk => x_aload_n C (v := .ref t) rfl rfl dX6_push_12 (x_dup C rfl dX6_push_13 (f_getI C lX6_20 g4 rfl dX6_push_14 (x_iconst C (1 : Int32) (by decide) dX6_push_17 (x_iadd C dX6_push_18 (f_putI C lX6_20 tX6 nX6_1 g4 rfl rfl dX6_push_19 (kk))))))) ?_
  obtain ⟨h5, eh5⟩ : ∃ y : zH, y = (pF h3 t 1 (.int ((gI h3 t 1) + (1 : Int32)))) := ⟨_, rfl⟩
  replace H := H h5 eh5
  rw [← eh5]
  have g6 : oK h5 t 6 := by rw [eh5]; exact oK_pF' g4 rfl rfl g4
  exact zX_ret none (fun C Cr hc => x_ret C Cr rfl hc dX6_push_22 ⟨rfl, rfl⟩) H
theorem nX6_push (t : Nat) (p0 : Int32) (h : zH) (Q : Option Value → zH → Prop) (H : zX mX6_push 0 [.ref t, .int p0] [] h Q) : zC mX6_push [.ref t, .int p0] h Q := zC_of (by decide +kernel) (by simp) (Nat.le_of_ble_eq_true rfl) H
set_option maxHeartbeats 20000000 in
theorem bX6_pop_0 (t : Nat) (h : zH) (Q : Option Value → zH → Prop) (H : oK h t 6 ∧ (∀ h2 : zH, h2 = (pF h t 1 (.int ((gI h t 1) - (1 : Int32)))) → (∃ a4 : Nat, gR h2 t 0 = some a4 ∧ (zC mX11_at [.ref a4, .int (gI h2 t 1)] h2 (fun r0 h5 => ∃ x6 : Int32, r0 = some (.int x6) ∧ (Q (some (.int x6)) h5)))))) : zX mX6_pop 0 [.ref t] [] h Q := by
  obtain ⟨g1, H⟩ := H
  refine zX_seg (pc' := 10) (L' := [.ref t]) (st' := []) (h2 := (pF h t 1 (.int ((gI h t 1) - (1 : Int32))))) rfl rfl (fun C Cr hc kk => x_aload_n C (v := .ref t) rfl rfl dX6_pop_0 (x_dup C rfl dX6_pop_1 (f_getI C lX6_20 g1 rfl dX6_pop_2 (x_iconst C (1 : Int32) (by decide) dX6_pop_5 (x_isub C dX6_pop_6 (f_putI C lX6_20 tX6 nX6_1 g1 rfl rfl dX6_pop_7 (kk))))))) ?_
  obtain ⟨h2, eh2⟩ : ∃ y : zH, y = (pF h t 1 (.int ((gI h t 1) - (1 : Int32)))) := ⟨_, rfl⟩
  replace H := H h2 eh2
  rw [← eh2]
  have g3 : oK h2 t 6 := by rw [eh2]; exact oK_pF' g1 rfl rfl g1
  obtain ⟨a4, ea4, H⟩ := H
  refine zX_seg (pc' := 18) (L' := [.ref t]) (st' := [.int (gI h2 t 1), .ref a4]) (h2 := h2) rfl rfl (fun C Cr hc kk => x_aload_n C (v := .ref t) rfl rfl dX6_pop_10 (f_getR1 C lX6_9 g3 rfl ea4 dX6_pop_11 (x_aload_n C (v := .ref t) rfl rfl dX6_pop_14 (f_getI C lX6_20 g3 rfl dX6_pop_15 (kk))))) ?_
  refine zX_call (as := [.ref a4, .int (gI h2 t 1)]) (st := []) (fun C hM hc kk => x_callSN C [.ref a4, .int (gI h2 t 1)] hM kX11_at sX11_at lX6_66 ⟨by decide, by decide⟩ rfl hc (Nat.le_of_ble_eq_true rfl) rfl dX6_pop_18 kk) (zC.mono H ?_)
  rintro r0 h5 ⟨x6, rfl, H⟩
  show zX mX6_pop 21 [.ref t] [.int x6] h5 Q
  exact zX_ret (some (.int x6)) (fun C Cr hc => x_iret C Cr rfl rfl hc dX6_pop_21 ⟨rfl, rfl⟩) H
theorem nX6_pop (t : Nat) (h : zH) (Q : Option Value → zH → Prop) (H : zX mX6_pop 0 [.ref t] [] h Q) : zC mX6_pop [.ref t] h Q := zC_of (by decide +kernel) (by simp) (Nat.le_of_ble_eq_true rfl) H
set_option maxHeartbeats 20000000 in
theorem bX7_init_0 (t : Nat) (h : zH) (Q : Option Value → zH → Prop) (H : ∀ h1 : zH, h1 = (zn h (zI 0 3 (fun _ => 0))) → (oK h1 t 7 ∧ (∀ h4 : zH, h4 = (pF h1 t 0 (zr (some h.1))) → (∀ h7 : zH, h7 = (zn h4 (zI 0 3 (fun _ => 0))) → (∀ h11 : zH, h11 = (pF h7 t 1 (zr (some h4.1))) → (∀ h15 : zH, h15 = (zn h11 (zI 0 64 (fun _ => 0))) → (∀ h20 : zH, h20 = (pF h15 t 2 (zr (some h11.1))) → (Q none h20)))))))) : zX mX7_init 0 [.ref t] [] h Q := by
  refine zX_seg (pc' := 6) (L' := [.ref t]) (st' := [.int (3 : Int32), .ref t]) (h2 := h) rfl rfl (fun C Cr hc kk => x_aload_n C (v := .ref t) rfl rfl dX7_init_0 (x_objInit C lX7_3 oi_i oi_c ⟨by decide, by decide⟩ (Nat.le_of_ble_eq_true rfl) dX7_init_1 (x_aload_n C (v := .ref t) rfl rfl dX7_init_4 (x_iconst C (3 : Int32) (by decide) dX7_init_5 (kk))))) ?_
  refine zX_new (pc' := 8) (L' := [.ref t]) (st' := [.ref (h.1), .ref t]) (e := (zI 0 3 (fun _ => 0))) (fun C z1 z2 kk => x_newa C (at0 := .int) ac_int (Or.inl ⟨rfl, rfl⟩) (by decide) (by decide) (by decide) z1 z2 dX7_init_6 kk) ?_
  obtain ⟨h1, eh1⟩ : ∃ y : zH, y = (zn h (zI 0 3 (fun _ => 0))) := ⟨_, rfl⟩
  replace H := H h1 eh1
  rw [← eh1]
  have g2 : iK h1 h.1 0 := by rw [eh1]; exact iK_new
  obtain ⟨g3, H⟩ := H
  refine zX_seg (pc' := 11) (L' := [.ref t]) (st' := []) (h2 := (pF h1 t 0 (zr (some h.1)))) rfl rfl (fun C Cr hc kk => f_putFR C Cr rfl (x := (some h.1)) lX7_9 tX7 nX7_0 g3 rfl (Or.inr ⟨_, rfl⟩) dX7_init_8 (kk)) ?_
  obtain ⟨h4, eh4⟩ : ∃ y : zH, y = (pF h1 t 0 (zr (some h.1))) := ⟨_, rfl⟩
  replace H := H h4 eh4
  rw [← eh4]
  have g5 : iK h4 h.1 0 := by rw [eh4]; exact iK_pF g2
  have g6 : oK h4 t 7 := by rw [eh4]; exact oK_pF' g3 rfl (zmr _) g3
  refine zX_seg (pc' := 13) (L' := [.ref t]) (st' := [.int (3 : Int32), .ref t]) (h2 := h4) rfl rfl (fun C Cr hc kk => x_aload_n C (v := .ref t) rfl rfl dX7_init_11 (x_iconst C (3 : Int32) (by decide) dX7_init_12 (kk))) ?_
  refine zX_new (pc' := 15) (L' := [.ref t]) (st' := [.ref (h4.1), .ref t]) (e := (zI 0 3 (fun _ => 0))) (fun C z1 z2 kk => x_newa C (at0 := .int) ac_int (Or.inl ⟨rfl, rfl⟩) (by decide) (by decide) (by decide) z1 z2 dX7_init_13 kk) ?_
  obtain ⟨h7, eh7⟩ : ∃ y : zH, y = (zn h4 (zI 0 3 (fun _ => 0))) := ⟨_, rfl⟩
  replace H := H h7 eh7
  rw [← eh7]
  have g8 : iK h7 h.1 0 := by rw [eh7]; exact iK_zn g5
  have g9 : oK h7 t 7 := by rw [eh7]; exact oK_zn g6
  have g10 : iK h7 h4.1 0 := by rw [eh7]; exact iK_new
  refine zX_seg (pc' := 18) (L' := [.ref t]) (st' := []) (h2 := (pF h7 t 1 (zr (some h4.1)))) rfl rfl (fun C Cr hc kk => f_putFR C Cr rfl (x := (some h4.1)) lX7_15 tX7 nX7_1 g9 rfl (Or.inr ⟨_, rfl⟩) dX7_init_15 (kk)) ?_
  obtain ⟨h11, eh11⟩ : ∃ y : zH, y = (pF h7 t 1 (zr (some h4.1))) := ⟨_, rfl⟩
  replace H := H h11 eh11
  rw [← eh11]
  have g12 : iK h11 h.1 0 := by rw [eh11]; exact iK_pF g8
  have g13 : oK h11 t 7 := by rw [eh11]; exact oK_pF' g9 rfl (zmr _) g9
  have g14 : iK h11 h4.1 0 := by rw [eh11]; exact iK_pF g10
  refine zX_seg (pc' := 21) (L' := [.ref t]) (st' := [.int (64 : Int32), .ref t]) (h2 := h11) rfl rfl (fun C Cr hc kk => x_aload_n C (v := .ref t) rfl rfl dX7_init_18 (x_bipush C (64 : Int32) (by decide) dX7_init_19 (kk))) ?_
  refine zX_new (pc' := 23) (L' := [.ref t]) (st' := [.ref (h11.1), .ref t]) (e := (zI 0 64 (fun _ => 0))) (fun C z1 z2 kk => x_newa C (at0 := .int) ac_int (Or.inl ⟨rfl, rfl⟩) (by decide) (by decide) (by decide) z1 z2 dX7_init_21 kk) ?_
  obtain ⟨h15, eh15⟩ : ∃ y : zH, y = (zn h11 (zI 0 64 (fun _ => 0))) := ⟨_, rfl⟩
  replace H := H h15 eh15
  rw [← eh15]
  have g16 : iK h15 h.1 0 := by rw [eh15]; exact iK_zn g12
  have g17 : oK h15 t 7 := by rw [eh15]; exact oK_zn g13
  have g18 : iK h15 h4.1 0 := by rw [eh15]; exact iK_zn g14
  have g19 : iK h15 h11.1 0 := by rw [eh15]; exact iK_new
  refine zX_seg (pc' := 26) (L' := [.ref t]) (st' := []) (h2 := (pF h15 t 2 (zr (some h11.1)))) rfl rfl (fun C Cr hc kk => f_putFR C Cr rfl (x := (some h11.1)) lX7_18 tX7 nX7_2 g17 rfl (Or.inr ⟨_, rfl⟩) dX7_init_23 (kk)) ?_
  obtain ⟨h20, eh20⟩ : ∃ y : zH, y = (pF h15 t 2 (zr (some h11.1))) := ⟨_, rfl⟩
  replace H := H h20 eh20
  rw [← eh20]
  have g21 : iK h20 h.1 0 := by rw [eh20]; exact iK_pF g16
  have g22 : oK h20 t 7 := by rw [eh20]; exact oK_pF' g17 rfl (zmr _) g17
  have g23 : iK h20 h4.1 0 := by rw [eh20]; exact iK_pF g18
  have g24 : iK h20 h11.1 0 := by rw [eh20]; exact iK_pF g19
  exact zX_ret none (fun C Cr hc => x_ret C Cr rfl hc dX7_init_26 ⟨rfl, rfl⟩) H
theorem nX7_init (t : Nat) (h : zH) (Q : Option Value → zH → Prop) (H : zX mX7_init 0 [.ref t] [] h Q) : zC mX7_init [.ref t] h Q := zC_of (by decide +kernel) (by simp) (Nat.le_of_ble_eq_true rfl) H
set_option maxHeartbeats 20000000 in
theorem bX7_knows_0 (t : Nat) (p0 : Int32) (h : zH) (Q : Option Value → zH → Prop) (H : oK h t 7 ∧ (((((gI h t 3) >>> (p0 &&& 31)) &&& (1 : Int32)) = (1 : Int32) → (Q (some (.int (1 : Int32))) h)) ∧ (¬ ((((gI h t 3) >>> (p0 &&& 31)) &&& (1 : Int32)) = (1 : Int32)) → (Q (some (.int (0 : Int32))) h)))) : zX mX7_knows 0 [.ref t, .int p0] [] h Q := by
  obtain ⟨g1, H⟩ := H
  refine zX_seg (pc' := 9) (L' := [.ref t, .int p0]) (st' := [.int (1 : Int32), .int (((gI h t 3) >>> (p0 &&& 31)) &&& (1 : Int32))]) (h2 := h) rfl rfl (fun C Cr hc kk => x_aload_n C (v := .ref t) rfl rfl dX7_knows_0 (f_getI C lX7_21 g1 rfl dX7_knows_1 (x_iload_n C rfl dX7_knows_4 (x_ishr C dX7_knows_5 (x_iconst C (1 : Int32) (by decide) dX7_knows_6 (x_iand C dX7_knows_7 (x_iconst C (1 : Int32) (by decide) dX7_knows_8 (kk)))))))) ?_
  refine zX_br (p1 := 12) (p2 := 16) (st' := []) ((((gI h t 3) >>> (p0 &&& 31)) &&& (1 : Int32)) = (1 : Int32)) (fun C kt kf => x_icmp_ne C 16 dX7_knows_9 (by decide) kf kt) (fun q2 => ?_) (fun q2 => ?_)
  · replace H := H.1 q2
    refine zX_seg (pc' := 17) (L' := [.ref t, .int p0]) (st' := [.int (1 : Int32)]) (h2 := h) rfl rfl (fun C Cr hc kk => x_iconst C (1 : Int32) (by decide) dX7_knows_12 (x_goto C 17 dX7_knows_13 (by decide) (kk))) ?_
    exact zX_ret (some (.int (1 : Int32))) (fun C Cr hc => x_iret C Cr rfl rfl hc dX7_knows_17 ⟨rfl, rfl⟩) H
  · replace H := H.2 q2
    refine zX_seg (pc' := 17) (L' := [.ref t, .int p0]) (st' := [.int (0 : Int32)]) (h2 := h) rfl rfl (fun C Cr hc kk => x_iconst C (0 : Int32) (by decide) dX7_knows_16 (kk)) ?_
    exact zX_ret (some (.int (0 : Int32))) (fun C Cr hc => x_iret C Cr rfl rfl hc dX7_knows_17 ⟨rfl, rfl⟩) H
theorem nX7_knows (t : Nat) (p0 : Int32) (h : zH) (Q : Option Value → zH → Prop) (H : zX mX7_knows 0 [.ref t, .int p0] [] h Q) : zC mX7_knows [.ref t, .int p0] h Q := zC_of (by decide +kernel) (by simp) (Nat.le_of_ble_eq_true rfl) H
set_option maxHeartbeats 20000000 in
theorem bX7_answer_0 (t : Nat) (p0 : Int32) (p1 : Int32) (h : zH) (Q : Option Value → zH → Prop) (H : oK h t 7 ∧ (∃ a2 : Nat, gR h t 0 = some a2 ∧ (zC mX11_at [.ref a2, .int p0] h (fun r0 h3 => ∃ x4 : Int32, r0 = some (.int x4) ∧ ((x4 = (-1 : Int32) → (Q (some (.int (-1 : Int32))) h3)) ∧ (¬ (x4 = (-1 : Int32)) → ((p1 = 0 → (zX mX7_answer 44 [.float 0, .float 0, .float 0, .int x4] [] h3 Q)) ∧ ((p1 = 1 → (zX mX7_answer 49 [.float 0, .float 0, .float 0, .int x4] [] h3 Q)) ∧ (¬ p1 = 0 → ¬ p1 = 1 → (zX mX7_answer 51 [.ref t, .int p0, .float 0, .float 0] [] h3 Q)))))))))) : zX mX7_answer 0 [.ref t, .int p0, .int p1, .float 0] [] h Q := by
  obtain ⟨g1, H⟩ := H
  obtain ⟨a2, ea2, H⟩ := H
  refine zX_seg (pc' := 5) (L' := [.ref t, .int p0, .int p1, .float 0]) (st' := [.int p0, .ref a2]) (h2 := h) rfl rfl (fun C Cr hc kk => x_aload_n C (v := .ref t) rfl rfl dX7_answer_0 (f_getR1 C lX7_9 g1 rfl ea2 dX7_answer_1 (x_iload_n C rfl dX7_answer_4 (kk)))) ?_
  refine zX_call (as := [.ref a2, .int p0]) (st := []) (fun C hM hc kk => x_callSN C [.ref a2, .int p0] hM kX11_at sX11_at lX7_25 ⟨by decide, by decide⟩ rfl hc (Nat.le_of_ble_eq_true rfl) rfl dX7_answer_5 kk) (zC.mono H ?_)
  rintro r0 h3 ⟨x4, rfl, H⟩
  show zX mX7_answer 8 [.ref t, .int p0, .int p1, .float 0] [.int x4] h3 Q
  refine zX_seg (pc' := 11) (L' := [.ref t, .int p0, .int p1, .int x4]) (st' := [.int (-1 : Int32), .int x4]) (h2 := h3) rfl rfl (fun C Cr hc kk => x_istore_n C (by decide) dX7_answer_8 (x_iload_n C rfl dX7_answer_9 (x_iconst C (-1 : Int32) (by decide) dX7_answer_10 (kk)))) ?_
  refine zX_br (p1 := 14) (p2 := 16) (st' := []) (x4 = (-1 : Int32)) (fun C kt kf => x_icmp_ne C 16 dX7_answer_11 (by decide) kf kt) (fun q5 => ?_) (fun q5 => ?_)
  · replace H := H.1 q5
    refine zX_seg (pc' := 15) (L' := [.ref t, .int p0, .int p1, .int x4]) (st' := [.int (-1 : Int32)]) (h2 := h3) rfl rfl (fun C Cr hc kk => x_iconst C (-1 : Int32) (by decide) dX7_answer_14 (kk)) ?_
    exact zX_ret (some (.int (-1 : Int32))) (fun C Cr hc => x_iret C Cr rfl rfl hc dX7_answer_15 ⟨rfl, rfl⟩) H
  · replace H := H.2 q5
    refine zX_seg (pc' := (zlt 17 34 [(0, 27), (1, 32)] p1)) (L' := [.ref t, .int p0, .int p1, .int x4]) (st' := []) (h2 := h3) rfl rfl (fun C Cr hc kk => x_iload_n C rfl dX7_answer_16 (f_lookup C (by decide) (by decide) dX7_answer_17 (kk))) ?_
    by_cases z6 : p1 = 0
    · replace H := H.1 z6
      rw [show (zlt 17 34 [(0, 27), (1, 32)] p1) = 44 from by rw [z6]; decide]
      exact zX_wk (wkD (wkD (wkD (wkK wkN)))) H
    · replace H := H.2
      by_cases z7 : p1 = 1
      · replace H := H.1 z7
        rw [show (zlt 17 34 [(0, 27), (1, 32)] p1) = 49 from by rw [z7]; decide]
        exact zX_wk (wkD (wkD (wkD (wkK wkN)))) H
      · replace H := H.2
        rw [show (zlt 17 34 [(0, 27), (1, 32)] p1) = 51 from (zlt_d [0, 1] (by decide) (List.forall_mem_cons.mpr ⟨z6, (List.forall_mem_cons.mpr ⟨z7, (fun _ h => absurd h List.not_mem_nil)⟩)⟩)).trans (by decide)]
        replace H := H z6 z7
        exact zX_wk (wkK (wkK (wkD (wkD wkN)))) H
set_option maxHeartbeats 20000000 in
theorem bX7_answer_44 (l3 : Int32) (h : zH) (Q : Option Value → zH → Prop) (H : zC mJ6_bitCount_0f7a4 [.int l3] h (fun r0 h1 => ∃ x2 : Int32, r0 = some (.int x2) ∧ (Q (some (.int x2)) h1))) : zX mX7_answer 44 [.float 0, .float 0, .float 0, .int l3] [] h Q := by
  refine zX_seg (pc' := 45) (L' := [.float 0, .float 0, .float 0, .int l3]) (st' := [.int l3]) (h2 := h) rfl rfl (fun C Cr hc kk => x_iload_n C rfl dX7_answer_44 (kk)) ?_
  refine zX_call (as := [.int l3]) (st := []) (fun C hM hc kk => x_callS C [.int l3] hM kJ6_bitCount_0f7a4 sJ6_bitCount_0f7a4 lX7_29 ⟨by decide, by decide⟩ rfl hc (Nat.le_of_ble_eq_true rfl) rfl dX7_answer_45 kk) (zC.mono H ?_)
  rintro r0 h1 ⟨x2, rfl, H⟩
  show zX mX7_answer 48 [.float 0, .float 0, .float 0, .int l3] [.int x2] h1 Q
  exact zX_ret (some (.int x2)) (fun C Cr hc => x_iret C Cr rfl rfl hc dX7_answer_48 ⟨rfl, rfl⟩) H
set_option maxHeartbeats 20000000 in
theorem bX7_answer_49 (l3 : Int32) (h : zH) (Q : Option Value → zH → Prop) (H : Q (some (.int l3)) h) : zX mX7_answer 49 [.float 0, .float 0, .float 0, .int l3] [] h Q := by
  refine zX_seg (pc' := 50) (L' := [.float 0, .float 0, .float 0, .int l3]) (st' := [.int l3]) (h2 := h) rfl rfl (fun C Cr hc kk => x_iload_n C rfl dX7_answer_49 (kk)) ?_
  exact zX_ret (some (.int l3)) (fun C Cr hc => x_iret C Cr rfl rfl hc dX7_answer_50 ⟨rfl, rfl⟩) H
set_option maxHeartbeats 20000000 in
theorem bX7_answer_51 (l0 : Nat) (l1 : Int32) (h : zH) (Q : Option Value → zH → Prop) (H : oK h l0 7 ∧ (∃ a2 : Nat, gR h l0 1 = some a2 ∧ (zC mX11_at [.ref a2, .int l1] h (fun r0 h3 => ∃ x4 : Int32, r0 = some (.int x4) ∧ (Q (some (.int x4)) h3))))) : zX mX7_answer 51 [.ref l0, .int l1, .float 0, .float 0] [] h Q := by
  obtain ⟨g1, H⟩ := H
  obtain ⟨a2, ea2, H⟩ := H
  refine zX_seg (pc' := 56) (L' := [.ref l0, .int l1, .float 0, .float 0]) (st' := [.int l1, .ref a2]) (h2 := h) rfl rfl (fun C Cr hc kk => x_aload_n C (v := .ref l0) rfl rfl dX7_answer_51 (f_getR1 C lX7_15 g1 rfl ea2 dX7_answer_52 (x_iload_n C rfl dX7_answer_55 (kk)))) ?_
  refine zX_call (as := [.ref a2, .int l1]) (st := []) (fun C hM hc kk => x_callSN C [.ref a2, .int l1] hM kX11_at sX11_at lX7_25 ⟨by decide, by decide⟩ rfl hc (Nat.le_of_ble_eq_true rfl) rfl dX7_answer_56 kk) (zC.mono H ?_)
  rintro r0 h3 ⟨x4, rfl, H⟩
  show zX mX7_answer 59 [.ref l0, .int l1, .float 0, .float 0] [.int x4] h3 Q
  exact zX_ret (some (.int x4)) (fun C Cr hc => x_iret C Cr rfl rfl hc dX7_answer_59 ⟨rfl, rfl⟩) H
theorem nX7_answer (t : Nat) (p0 : Int32) (p1 : Int32) (h : zH) (Q : Option Value → zH → Prop) (H : zX mX7_answer 0 [.ref t, .int p0, .int p1, .float 0] [] h Q) : zC mX7_answer [.ref t, .int p0, .int p1] h Q := zC_of (by decide +kernel) (by simp) (Nat.le_of_ble_eq_true rfl) H
set_option maxHeartbeats 20000000 in
theorem bX7_search_0 (t : Nat) (p0 : Int32) (p1 : Nat) (p2 : Nat) (h : zH) (Q : Option Value → zH → Prop) (H : oK h t 7 ∧ (∀ h2 : zH, h2 = (pF h t 3 (.int ((gI h t 3) ||| ((1 : Int32) <<< (p0 &&& 31))))) → (∃ a4 : Nat, gR h2 t 0 = some a4 ∧ (zC mX11_put [.ref a4, .int p0, .int (-1 : Int32)] h2 (fun r0 h5 => r0 = none ∧ (zX mX7_search 24 [.ref t, .int p0, .ref p1, .ref p2, .int (0 : Int32), .float 0, .float 0] [] h5 Q)))))) : zX mX7_search 0 [.ref t, .int p0, .ref p1, .ref p2, .float 0, .float 0, .float 0] [] h Q := by
  obtain ⟨g1, H⟩ := H
  refine zX_seg (pc' := 12) (L' := [.ref t, .int p0, .ref p1, .ref p2, .float 0, .float 0, .float 0]) (st' := []) (h2 := (pF h t 3 (.int ((gI h t 3) ||| ((1 : Int32) <<< (p0 &&& 31)))))) rfl rfl (fun C Cr hc kk => x_aload_n C (v := .ref t) rfl rfl dX7_search_0 (x_dup C rfl dX7_search_1 (f_getI C lX7_21 g1 rfl dX7_search_2 (x_iconst C (1 : Int32) (by decide) dX7_search_5 (x_iload_n C rfl dX7_search_6 (x_ishl C dX7_search_7 (x_ior C dX7_search_8 (f_putI C lX7_21 tX7 nX7_3 g1 rfl rfl dX7_search_9 (kk))))))))) ?_
  obtain ⟨h2, eh2⟩ : ∃ y : zH, y = (pF h t 3 (.int ((gI h t 3) ||| ((1 : Int32) <<< (p0 &&& 31))))) := ⟨_, rfl⟩
  replace H := H h2 eh2
  rw [← eh2]
  have g3 : oK h2 t 7 := by rw [eh2]; exact oK_pF' g1 rfl rfl g1
  obtain ⟨a4, ea4, H⟩ := H
  refine zX_seg (pc' := 18) (L' := [.ref t, .int p0, .ref p1, .ref p2, .float 0, .float 0, .float 0]) (st' := [.int (-1 : Int32), .int p0, .ref a4]) (h2 := h2) rfl rfl (fun C Cr hc kk => x_aload_n C (v := .ref t) rfl rfl dX7_search_12 (f_getR1 C lX7_9 g3 rfl ea4 dX7_search_13 (x_iload_n C rfl dX7_search_16 (x_iconst C (-1 : Int32) (by decide) dX7_search_17 (kk))))) ?_
  refine zX_call (as := [.ref a4, .int p0, .int (-1 : Int32)]) (st := []) (fun C hM hc kk => x_callSN C [.ref a4, .int p0, .int (-1 : Int32)] hM kX11_put sX11_put lX7_35 ⟨by decide, by decide⟩ rfl hc (Nat.le_of_ble_eq_true rfl) rfl dX7_search_18 kk) (zC.mono H ?_)
  rintro r0 h5 ⟨rfl, H⟩
  show zX mX7_search 21 [.ref t, .int p0, .ref p1, .ref p2, .float 0, .float 0, .float 0] [] h5 Q
  refine zX_seg (pc' := 24) (L' := [.ref t, .int p0, .ref p1, .ref p2, .int (0 : Int32), .float 0, .float 0]) (st' := []) (h2 := h5) rfl rfl (fun C Cr hc kk => x_iconst C (0 : Int32) (by decide) dX7_search_21 (x_istore C (by decide) dX7_search_22 (kk))) ?_
  exact zX_wk (wkK (wkK (wkK (wkK (wkK (wkD (wkD wkN))))))) H
set_option maxHeartbeats 20000000 in
theorem bX7_search_24 (l0 : Nat) (l1 : Int32) (l2 : Nat) (l3 : Nat) (l4 : Int32) (h : zH) (Q : Option Value → zH → Prop) (H : ((3 : Int32) < l4 → (Q none h)) ∧ (¬ ((3 : Int32) < l4) → (zX mX7_search 33 [.ref l0, .int l1, .ref l2, .ref l3, .int l4, .int (0 : Int32), .float 0] [] h Q))) : zX mX7_search 24 [.ref l0, .int l1, .ref l2, .ref l3, .int l4, .float 0, .float 0] [] h Q := by
  refine zX_seg (pc' := 27) (L' := [.ref l0, .int l1, .ref l2, .ref l3, .int l4, .float 0, .float 0]) (st' := [.int (3 : Int32), .int l4]) (h2 := h) rfl rfl (fun C Cr hc kk => x_iload C rfl dX7_search_24 (x_iconst C (3 : Int32) (by decide) dX7_search_26 (kk))) ?_
  refine zX_br (p1 := 112) (p2 := 30) (st' := []) ((3 : Int32) < l4) (fun C kt kf => x_icmp_gt C 112 dX7_search_27 (by decide) kt kf) (fun q1 => ?_) (fun q1 => ?_)
  · replace H := H.1 q1
    exact zX_ret none (fun C Cr hc => x_ret C Cr rfl hc dX7_search_112 ⟨rfl, rfl⟩) H
  · replace H := H.2 q1
    refine zX_seg (pc' := 33) (L' := [.ref l0, .int l1, .ref l2, .ref l3, .int l4, .int (0 : Int32), .float 0]) (st' := []) (h2 := h) rfl rfl (fun C Cr hc kk => x_iconst C (0 : Int32) (by decide) dX7_search_30 (x_istore C (by decide) dX7_search_31 (kk))) ?_
    exact zX_wk (wkK (wkK (wkK (wkK (wkK (wkK (wkD wkN))))))) H
set_option maxHeartbeats 20000000 in
theorem bX7_search_33 (l0 : Nat) (l1 : Int32) (l2 : Nat) (l3 : Nat) (l4 : Int32) (l5 : Int32) (h : zH) (Q : Option Value → zH → Prop) (H : oK h l3 10 ∧ ((((1 : Int32) <<< ((gI h l3 8) &&& 31)) ≤ l5 → (zX mX7_search 24 [.ref l0, .int l1, .ref l2, .ref l3, .int (l4 + 1), .float 0, .float 0] [] h Q)) ∧ (¬ (((1 : Int32) <<< ((gI h l3 8) &&& 31)) ≤ l5) → (zC mJ6_bitCount_0f7a4 [.int l5] h (fun r0 h3 => ∃ x4 : Int32, r0 = some (.int x4) ∧ ((x4 = l4 → (oK h3 l0 7 ∧ (zC mX7_leastMarks [.ref l0, .int l1, .int l5, .ref l2, .ref l3] h3 (fun r0 h7 => ∃ x8 : Int32, r0 = some (.int x8) ∧ ((x8 = (-1 : Int32) → (zX mX7_search 33 [.ref l0, .int l1, .ref l2, .ref l3, .int l4, .int (l5 + 1), .float 0] [] h7 Q)) ∧ (¬ (x8 = (-1 : Int32)) → (oK h7 l0 7 ∧ (∃ a11 : Nat, gR h7 l0 0 = some a11 ∧ (zC mX11_put [.ref a11, .int l1, .int l5] h7 (fun r0 h12 => r0 = none ∧ (oK h12 l0 7 ∧ (∃ a14 : Nat, gR h12 l0 1 = some a14 ∧ (zC mX7_digits [.int x8, .int l4] h12 (fun r0 h15 => ∃ x16 : Int32, r0 = some (.int x16) ∧ (zC mX11_put [.ref a14, .int l1, .int x16] h15 (fun r0 h17 => r0 = none ∧ (Q none h17))))))))))))))))) ∧ (¬ (x4 = l4) → (zX mX7_search 33 [.ref l0, .int l1, .ref l2, .ref l3, .int l4, .int (l5 + 1), .float 0] [] h3 Q)))))))) : zX mX7_search 33 [.ref l0, .int l1, .ref l2, .ref l3, .int l4, .int l5, .float 0] [] h Q := by
  obtain ⟨g1, H⟩ := H
  refine zX_seg (pc' := 41) (L' := [.ref l0, .int l1, .ref l2, .ref l3, .int l4, .int l5, .float 0]) (st' := [.int ((1 : Int32) <<< ((gI h l3 8) &&& 31)), .int l5]) (h2 := h) rfl rfl (fun C Cr hc kk => x_iload C rfl dX7_search_33 (x_iconst C (1 : Int32) (by decide) dX7_search_35 (x_aload_n C (v := .ref l3) rfl rfl dX7_search_36 (f_getIN C lX7_39 g1 rfl dX7_search_37 (x_ishl C dX7_search_40 (kk)))))) ?_
  refine zX_br (p1 := 106) (p2 := 44) (st' := []) (((1 : Int32) <<< ((gI h l3 8) &&& 31)) ≤ l5) (fun C kt kf => x_icmp_ge C 106 dX7_search_41 (by decide) kt kf) (fun q2 => ?_) (fun q2 => ?_)
  · replace H := H.1 q2
    refine zX_seg (pc' := 24) (L' := [.ref l0, .int l1, .ref l2, .ref l3, .int (l4 + 1), .int l5, .float 0]) (st' := []) (h2 := h) rfl rfl (fun C Cr hc kk => x_iinc C (l4 + 1) rfl (congrArg (HAdd.hAdd _) (by decide)) (by decide) dX7_search_106 (x_goto C 24 dX7_search_109 (by decide) (kk))) ?_
    exact zX_wk (wkK (wkK (wkK (wkK (wkK (wkD (wkD wkN))))))) H
  · replace H := H.2 q2
    refine zX_seg (pc' := 46) (L' := [.ref l0, .int l1, .ref l2, .ref l3, .int l4, .int l5, .float 0]) (st' := [.int l5]) (h2 := h) rfl rfl (fun C Cr hc kk => x_iload C rfl dX7_search_44 (kk)) ?_
    refine zX_call (as := [.int l5]) (st := []) (fun C hM hc kk => x_callS C [.int l5] hM kJ6_bitCount_0f7a4 sJ6_bitCount_0f7a4 lX7_29 ⟨by decide, by decide⟩ rfl hc (Nat.le_of_ble_eq_true rfl) rfl dX7_search_46 kk) (zC.mono H ?_)
    rintro r0 h3 ⟨x4, rfl, H⟩
    show zX mX7_search 49 [.ref l0, .int l1, .ref l2, .ref l3, .int l4, .int l5, .float 0] [.int x4] h3 Q
    refine zX_seg (pc' := 51) (L' := [.ref l0, .int l1, .ref l2, .ref l3, .int l4, .int l5, .float 0]) (st' := [.int l4, .int x4]) (h2 := h3) rfl rfl (fun C Cr hc kk => x_iload C rfl dX7_search_49 (kk)) ?_
    refine zX_br (p1 := 57) (p2 := 54) (st' := []) (x4 = l4) (fun C kt kf => x_icmp_eq C 57 dX7_search_51 (by decide) kt kf) (fun q5 => ?_) (fun q5 => ?_)
    · replace H := H.1 q5
      refine zX_seg (pc' := 63) (L' := [.ref l0, .int l1, .ref l2, .ref l3, .int l4, .int l5, .float 0]) (st' := [.ref l3, .ref l2, .int l5, .int l1, .ref l0]) (h2 := h3) rfl rfl (fun C Cr hc kk => x_aload_n C (v := .ref l0) rfl rfl dX7_search_57 (x_iload_n C rfl dX7_search_58 (x_iload C rfl dX7_search_59 (x_aload_n C (v := .ref l2) rfl rfl dX7_search_61 (x_aload_n C (v := .ref l3) rfl rfl dX7_search_62 (kk)))))) ?_
      obtain ⟨g6, H⟩ := H
      refine zX_call (as := [.ref l0, .int l1, .int l5, .ref l2, .ref l3]) (st := []) (fun C hM hc kk => f_callV C [.int l1, .int l5, .ref l2, .ref l3] hM kX7_leastMarks vX7_leastMarks lX7_44 ⟨by decide, by decide⟩ (rfl : vwCl[7]? = some (RX7, TX7, 4)) g6 rfl hc (Nat.le_of_ble_eq_true rfl) rfl dX7_search_63 kk) (zC.mono H ?_)
      rintro r0 h7 ⟨x8, rfl, H⟩
      show zX mX7_search 66 [.ref l0, .int l1, .ref l2, .ref l3, .int l4, .int l5, .float 0] [.int x8] h7 Q
      refine zX_seg (pc' := 71) (L' := [.ref l0, .int l1, .ref l2, .ref l3, .int l4, .int l5, .int x8]) (st' := [.int (-1 : Int32), .int x8]) (h2 := h7) rfl rfl (fun C Cr hc kk => x_istore C (by decide) dX7_search_66 (x_iload C rfl dX7_search_68 (x_iconst C (-1 : Int32) (by decide) dX7_search_70 (kk)))) ?_
      refine zX_br (p1 := 100) (p2 := 74) (st' := []) (x8 = (-1 : Int32)) (fun C kt kf => x_icmp_eq C 100 dX7_search_71 (by decide) kt kf) (fun q9 => ?_) (fun q9 => ?_)
      · replace H := H.1 q9
        refine zX_seg (pc' := 33) (L' := [.ref l0, .int l1, .ref l2, .ref l3, .int l4, .int (l5 + 1), .int x8]) (st' := []) (h2 := h7) rfl rfl (fun C Cr hc kk => x_iinc C (l5 + 1) rfl (congrArg (HAdd.hAdd _) (by decide)) (by decide) dX7_search_100 (x_goto C 33 dX7_search_103 (by decide) (kk))) ?_
        exact zX_wk (wkK (wkK (wkK (wkK (wkK (wkK (wkD wkN))))))) H
      · replace H := H.2 q9
        obtain ⟨g10, H⟩ := H
        obtain ⟨a11, ea11, H⟩ := H
        refine zX_seg (pc' := 81) (L' := [.ref l0, .int l1, .ref l2, .ref l3, .int l4, .int l5, .int x8]) (st' := [.int l5, .int l1, .ref a11]) (h2 := h7) rfl rfl (fun C Cr hc kk => x_aload_n C (v := .ref l0) rfl rfl dX7_search_74 (f_getR1 C lX7_9 g10 rfl ea11 dX7_search_75 (x_iload_n C rfl dX7_search_78 (x_iload C rfl dX7_search_79 (kk))))) ?_
        refine zX_call (as := [.ref a11, .int l1, .int l5]) (st := []) (fun C hM hc kk => x_callSN C [.ref a11, .int l1, .int l5] hM kX11_put sX11_put lX7_35 ⟨by decide, by decide⟩ rfl hc (Nat.le_of_ble_eq_true rfl) rfl dX7_search_81 kk) (zC.mono H ?_)
        rintro r0 h12 ⟨rfl, H⟩
        show zX mX7_search 84 [.ref l0, .int l1, .ref l2, .ref l3, .int l4, .int l5, .int x8] [] h12 Q
        obtain ⟨g13, H⟩ := H
        obtain ⟨a14, ea14, H⟩ := H
        refine zX_seg (pc' := 93) (L' := [.ref l0, .int l1, .ref l2, .ref l3, .int l4, .int l5, .int x8]) (st' := [.int l4, .int x8, .int l1, .ref a14]) (h2 := h12) rfl rfl (fun C Cr hc kk => x_aload_n C (v := .ref l0) rfl rfl dX7_search_84 (f_getR1 C lX7_15 g13 rfl ea14 dX7_search_85 (x_iload_n C rfl dX7_search_88 (x_iload C rfl dX7_search_89 (x_iload C rfl dX7_search_91 (kk)))))) ?_
        refine zX_call (as := [.int x8, .int l4]) (st := [.int l1, .ref a14]) (fun C hM hc kk => x_callS C [.int x8, .int l4] hM kX7_digits sX7_digits lX7_48 ⟨by decide, by decide⟩ rfl hc (Nat.le_of_ble_eq_true rfl) rfl dX7_search_93 kk) (zC.mono H ?_)
        rintro r0 h15 ⟨x16, rfl, H⟩
        show zX mX7_search 96 [.ref l0, .int l1, .ref l2, .ref l3, .int l4, .int l5, .int x8] [.int x16, .int l1, .ref a14] h15 Q
        refine zX_call (as := [.ref a14, .int l1, .int x16]) (st := []) (fun C hM hc kk => x_callSN C [.ref a14, .int l1, .int x16] hM kX11_put sX11_put lX7_35 ⟨by decide, by decide⟩ rfl hc (Nat.le_of_ble_eq_true rfl) rfl dX7_search_96 kk) (zC.mono H ?_)
        rintro r0 h17 ⟨rfl, H⟩
        show zX mX7_search 99 [.ref l0, .int l1, .ref l2, .ref l3, .int l4, .int l5, .int x8] [] h17 Q
        exact zX_ret none (fun C Cr hc => x_ret C Cr rfl hc dX7_search_99 ⟨rfl, rfl⟩) H
    · replace H := H.2 q5
      refine zX_seg (pc' := 33) (L' := [.ref l0, .int l1, .ref l2, .ref l3, .int l4, .int (l5 + 1), .float 0]) (st' := []) (h2 := h3) rfl rfl (fun C Cr hc kk => x_goto C 100 dX7_search_54 (by decide) (x_iinc C (l5 + 1) rfl (congrArg (HAdd.hAdd _) (by decide)) (by decide) dX7_search_100 (x_goto C 33 dX7_search_103 (by decide) (kk)))) ?_
      exact zX_wk (wkK (wkK (wkK (wkK (wkK (wkK (wkD wkN))))))) H
theorem nX7_search (t : Nat) (p0 : Int32) (p1 : Nat) (p2 : Nat) (h : zH) (Q : Option Value → zH → Prop) (H : zX mX7_search 0 [.ref t, .int p0, .ref p1, .ref p2, .float 0, .float 0, .float 0] [] h Q) : zC mX7_search [.ref t, .int p0, .ref p1, .ref p2] h Q := zC_of (by decide +kernel) (by simp) (Nat.le_of_ble_eq_true rfl) H
set_option maxHeartbeats 20000000 in
theorem bX7_leastMarks_0 (t : Nat) (p0 : Int32) (p1 : Int32) (p2 : Nat) (p3 : Nat) (h : zH) (Q : Option Value → zH → Prop) (H : oK h p3 10 ∧ (zC mX10_bitsInRows [.ref p3, .int p1] h (fun r0 h2 => ∃ x3 : Int32, r0 = some (.int x3) ∧ (oK h2 t 7 ∧ (∃ a5 : Nat, gR h2 t 2 = some a5 ∧ (zC mJ7_fill_53178 [.ref a5, .int (0 : Int32)] h2 (fun r0 h6 => r0 = none ∧ (zX mX7_leastMarks 19 [.ref t, .int p0, .int p1, .ref p2, .ref p3, .int x3, .int (0 : Int32), .float 0, .float 0, .float 0] [] h6 Q)))))))) : zX mX7_leastMarks 0 [.ref t, .int p0, .int p1, .ref p2, .ref p3, .float 0, .float 0, .float 0, .float 0, .float 0] [] h Q := by
  refine zX_seg (pc' := 3) (L' := [.ref t, .int p0, .int p1, .ref p2, .ref p3, .float 0, .float 0, .float 0, .float 0, .float 0]) (st' := [.int p1, .ref p3]) (h2 := h) rfl rfl (fun C Cr hc kk => x_aload C (v := .ref p3) rfl rfl dX7_leastMarks_0 (x_iload_n C rfl dX7_leastMarks_2 (kk))) ?_
  obtain ⟨g1, H⟩ := H
  refine zX_call (as := [.ref p3, .int p1]) (st := []) (fun C hM hc kk => f_callVN C [.int p1] hM kX10_bitsInRows vX10_bitsInRows lX7_52 ⟨by decide, by decide⟩ (rfl : vwCl[10]? = some (RX10, TX10, 10)) g1 rfl hc (Nat.le_of_ble_eq_true rfl) rfl dX7_leastMarks_3 kk) (zC.mono H ?_)
  rintro r0 h2 ⟨x3, rfl, H⟩
  show zX mX7_leastMarks 6 [.ref t, .int p0, .int p1, .ref p2, .ref p3, .float 0, .float 0, .float 0, .float 0, .float 0] [.int x3] h2 Q
  obtain ⟨g4, H⟩ := H
  obtain ⟨a5, ea5, H⟩ := H
  refine zX_seg (pc' := 13) (L' := [.ref t, .int p0, .int p1, .ref p2, .ref p3, .int x3, .float 0, .float 0, .float 0, .float 0]) (st' := [.int (0 : Int32), .ref a5]) (h2 := h2) rfl rfl (fun C Cr hc kk => x_istore C (by decide) dX7_leastMarks_6 (x_aload_n C (v := .ref t) rfl rfl dX7_leastMarks_8 (f_getR1 C lX7_18 g4 rfl ea5 dX7_leastMarks_9 (x_iconst C (0 : Int32) (by decide) dX7_leastMarks_12 (kk))))) ?_
  refine zX_call (as := [.ref a5, .int (0 : Int32)]) (st := []) (fun C hM hc kk => x_callS C [.ref a5, .int (0 : Int32)] hM kJ7_fill_53178 sJ7_fill_53178 lX7_55 ⟨by decide, by decide⟩ rfl hc (Nat.le_of_ble_eq_true rfl) rfl dX7_leastMarks_13 kk) (zC.mono H ?_)
  rintro r0 h6 ⟨rfl, H⟩
  show zX mX7_leastMarks 16 [.ref t, .int p0, .int p1, .ref p2, .ref p3, .int x3, .float 0, .float 0, .float 0, .float 0] [] h6 Q
  refine zX_seg (pc' := 19) (L' := [.ref t, .int p0, .int p1, .ref p2, .ref p3, .int x3, .int (0 : Int32), .float 0, .float 0, .float 0]) (st' := []) (h2 := h6) rfl rfl (fun C Cr hc kk => x_iconst C (0 : Int32) (by decide) dX7_leastMarks_16 (x_istore C (by decide) dX7_leastMarks_17 (kk))) ?_
  exact zX_wk (wkK (wkK (wkK (wkK (wkK (wkK (wkK (wkD (wkD (wkD wkN)))))))))) H
set_option maxHeartbeats 20000000 in
theorem bX7_leastMarks_19 (l0 : Nat) (l1 : Int32) (l2 : Int32) (l3 : Nat) (l4 : Nat) (l5 : Int32) (l6 : Int32) (h : zH) (Q : Option Value → zH → Prop) (H : oK h l3 5 ∧ (((gI h l3 6) ≤ l6 → (zX mX7_leastMarks 127 [.ref l0, .float 0, .float 0, .float 0, .float 0, .float 0, .int (0 : Int32), .float 0, .float 0, .float 0] [] h Q)) ∧ (¬ ((gI h l3 6) ≤ l6) → (∃ a3 : Nat, gR h l3 4 = some a3 ∧ (zC mX11_at [.ref a3, .int l6] h (fun r0 h4 => ∃ x5 : Int32, r0 = some (.int x5) ∧ (oK h4 l3 5 ∧ (∃ a7 : Nat, gR h4 l3 4 = some a7 ∧ (zC mX11_at [.ref a7, .int l6] h4 (fun r0 h8 => ∃ x9 : Int32, r0 = some (.int x9) ∧ (oK h8 l3 5 ∧ (∃ a11 : Nat, gR h8 l3 2 = some a11 ∧ (zC mX11_at [.ref a11, .int (x5 &&& (65535 : Int32))] h8 (fun r0 h12 => ∃ x13 : Int32, r0 = some (.int x13) ∧ (((((x5 &&& (65535 : Int32)) ^^^ x13) &&& (l5 ^^^ (-1 : Int32))) = 0 → (zC mX7_marksOf [.int l2, .int (x5 &&& (65535 : Int32)), .ref l4] h12 (fun r0 h15 => ∃ x16 : Int32, r0 = some (.int x16) ∧ (oK h15 l0 7 ∧ (∃ a18 : Nat, gR h15 l0 2 = some a18 ∧ (zC mX11_at [.ref a18, .int x16] h15 (fun r0 h19 => ∃ x20 : Int32, r0 = some (.int x20) ∧ (((x9 >>> ((16 : Int32) &&& 31)) = (l1 + (1 : Int32)) → (zC mX11_put [.ref a18, .int x16, .int (x20 ||| (1 : Int32))] h19 (fun r0 h22 => r0 = none ∧ (zX mX7_leastMarks 19 [.ref l0, .int l1, .int l2, .ref l3, .ref l4, .int l5, .int (l6 + 1), .float 0, .float 0, .float 0] [] h22 Q)))) ∧ (¬ ((x9 >>> ((16 : Int32) &&& 31)) = (l1 + (1 : Int32))) → (zC mX11_put [.ref a18, .int x16, .int (x20 ||| (2 : Int32))] h19 (fun r0 h23 => r0 = none ∧ (zX mX7_leastMarks 19 [.ref l0, .int l1, .int l2, .ref l3, .ref l4, .int l5, .int (l6 + 1), .float 0, .float 0, .float 0] [] h23 Q)))))))))))) ∧ (¬ ((((x5 &&& (65535 : Int32)) ^^^ x13) &&& (l5 ^^^ (-1 : Int32))) = 0) → (zX mX7_leastMarks 19 [.ref l0, .int l1, .int l2, .ref l3, .ref l4, .int l5, .int (l6 + 1), .float 0, .float 0, .float 0] [] h12 Q))))))))))))))))) : zX mX7_leastMarks 19 [.ref l0, .int l1, .int l2, .ref l3, .ref l4, .int l5, .int l6, .float 0, .float 0, .float 0] [] h Q := by
  obtain ⟨g1, H⟩ := H
  refine zX_seg (pc' := 25) (L' := [.ref l0, .int l1, .int l2, .ref l3, .ref l4, .int l5, .int l6, .float 0, .float 0, .float 0]) (st' := [.int (gI h l3 6), .int l6]) (h2 := h) rfl rfl (fun C Cr hc kk => x_iload C rfl dX7_leastMarks_19 (x_aload_n C (v := .ref l3) rfl rfl dX7_leastMarks_21 (f_getIN C lX7_61 g1 rfl dX7_leastMarks_22 (kk)))) ?_
  refine zX_br (p1 := 124) (p2 := 28) (st' := []) ((gI h l3 6) ≤ l6) (fun C kt kf => x_icmp_ge C 124 dX7_leastMarks_25 (by decide) kt kf) (fun q2 => ?_) (fun q2 => ?_)
  · replace H := H.1 q2
    refine zX_seg (pc' := 127) (L' := [.ref l0, .int l1, .int l2, .ref l3, .ref l4, .int l5, .int (0 : Int32), .float 0, .float 0, .float 0]) (st' := []) (h2 := h) rfl rfl (fun C Cr hc kk => x_iconst C (0 : Int32) (by decide) dX7_leastMarks_124 (x_istore C (by decide) dX7_leastMarks_125 (kk))) ?_
    exact zX_wk (wkK (wkD (wkD (wkD (wkD (wkD (wkK (wkD (wkD (wkD wkN)))))))))) H
  · replace H := H.2 q2
    obtain ⟨a3, ea3, H⟩ := H
    refine zX_seg (pc' := 34) (L' := [.ref l0, .int l1, .int l2, .ref l3, .ref l4, .int l5, .int l6, .float 0, .float 0, .float 0]) (st' := [.int l6, .ref a3]) (h2 := h) rfl rfl (fun C Cr hc kk => x_aload_n C (v := .ref l3) rfl rfl dX7_leastMarks_28 (f_getR1N C lX7_66 g1 rfl ea3 dX7_leastMarks_29 (x_iload C rfl dX7_leastMarks_32 (kk)))) ?_
    refine zX_call (as := [.ref a3, .int l6]) (st := []) (fun C hM hc kk => x_callSN C [.ref a3, .int l6] hM kX11_at sX11_at lX7_25 ⟨by decide, by decide⟩ rfl hc (Nat.le_of_ble_eq_true rfl) rfl dX7_leastMarks_34 kk) (zC.mono H ?_)
    rintro r0 h4 ⟨x5, rfl, H⟩
    show zX mX7_leastMarks 37 [.ref l0, .int l1, .int l2, .ref l3, .ref l4, .int l5, .int l6, .float 0, .float 0, .float 0] [.int x5] h4 Q
    obtain ⟨g6, H⟩ := H
    obtain ⟨a7, ea7, H⟩ := H
    refine zX_seg (pc' := 48) (L' := [.ref l0, .int l1, .int l2, .ref l3, .ref l4, .int l5, .int l6, .int (x5 &&& (65535 : Int32)), .float 0, .float 0]) (st' := [.int l6, .ref a7]) (h2 := h4) rfl rfl (fun C Cr hc kk => x_ldc C lX7_69 dX7_leastMarks_37 (x_iand C dX7_leastMarks_39 (x_istore C (by decide) dX7_leastMarks_40 (x_aload_n C (v := .ref l3) rfl rfl dX7_leastMarks_42 (f_getR1N C lX7_66 g6 rfl ea7 dX7_leastMarks_43 (x_iload C rfl dX7_leastMarks_46 (kk))))))) ?_
    refine zX_call (as := [.ref a7, .int l6]) (st := []) (fun C hM hc kk => x_callSN C [.ref a7, .int l6] hM kX11_at sX11_at lX7_25 ⟨by decide, by decide⟩ rfl hc (Nat.le_of_ble_eq_true rfl) rfl dX7_leastMarks_48 kk) (zC.mono H ?_)
    rintro r0 h8 ⟨x9, rfl, H⟩
    show zX mX7_leastMarks 51 [.ref l0, .int l1, .int l2, .ref l3, .ref l4, .int l5, .int l6, .int (x5 &&& (65535 : Int32)), .float 0, .float 0] [.int x9] h8 Q
    obtain ⟨g10, H⟩ := H
    obtain ⟨a11, ea11, H⟩ := H
    refine zX_seg (pc' := 64) (L' := [.ref l0, .int l1, .int l2, .ref l3, .ref l4, .int l5, .int l6, .int (x5 &&& (65535 : Int32)), .int (x9 >>> ((16 : Int32) &&& 31)), .float 0]) (st' := [.int (x5 &&& (65535 : Int32)), .ref a11, .int (x5 &&& (65535 : Int32))]) (h2 := h8) rfl rfl (fun C Cr hc kk => x_bipush C (16 : Int32) (by decide) dX7_leastMarks_51 (x_ishr C dX7_leastMarks_53 (x_istore C (by decide) dX7_leastMarks_54 (x_iload C rfl dX7_leastMarks_56 (x_aload_n C (v := .ref l3) rfl rfl dX7_leastMarks_58 (f_getR1N C lX7_70 g10 rfl ea11 dX7_leastMarks_59 (x_iload C rfl dX7_leastMarks_62 (kk)))))))) ?_
    refine zX_call (as := [.ref a11, .int (x5 &&& (65535 : Int32))]) (st := [.int (x5 &&& (65535 : Int32))]) (fun C hM hc kk => x_callSN C [.ref a11, .int (x5 &&& (65535 : Int32))] hM kX11_at sX11_at lX7_25 ⟨by decide, by decide⟩ rfl hc (Nat.le_of_ble_eq_true rfl) rfl dX7_leastMarks_64 kk) (zC.mono H ?_)
    rintro r0 h12 ⟨x13, rfl, H⟩
    show zX mX7_leastMarks 67 [.ref l0, .int l1, .int l2, .ref l3, .ref l4, .int l5, .int l6, .int (x5 &&& (65535 : Int32)), .int (x9 >>> ((16 : Int32) &&& 31)), .float 0] [.int x13, .int (x5 &&& (65535 : Int32))] h12 Q
    refine zX_seg (pc' := 73) (L' := [.ref l0, .int l1, .int l2, .ref l3, .ref l4, .int l5, .int l6, .int (x5 &&& (65535 : Int32)), .int (x9 >>> ((16 : Int32) &&& 31)), .float 0]) (st' := [.int (((x5 &&& (65535 : Int32)) ^^^ x13) &&& (l5 ^^^ (-1 : Int32)))]) (h2 := h12) rfl rfl (fun C Cr hc kk => x_ixor C dX7_leastMarks_67 (x_iload C rfl dX7_leastMarks_68 (x_iconst C (-1 : Int32) (by decide) dX7_leastMarks_70 (x_ixor C dX7_leastMarks_71 (x_iand C dX7_leastMarks_72 (kk)))))) ?_
    refine zX_br (p1 := 76) (p2 := 118) (st' := []) ((((x5 &&& (65535 : Int32)) ^^^ x13) &&& (l5 ^^^ (-1 : Int32))) = 0) (fun C kt kf => x_if_ne C 118 dX7_leastMarks_73 (by decide) kf kt) (fun q14 => ?_) (fun q14 => ?_)
    · replace H := H.1 q14
      refine zX_seg (pc' := 81) (L' := [.ref l0, .int l1, .int l2, .ref l3, .ref l4, .int l5, .int l6, .int (x5 &&& (65535 : Int32)), .int (x9 >>> ((16 : Int32) &&& 31)), .float 0]) (st' := [.ref l4, .int (x5 &&& (65535 : Int32)), .int l2]) (h2 := h12) rfl rfl (fun C Cr hc kk => x_iload_n C rfl dX7_leastMarks_76 (x_iload C rfl dX7_leastMarks_77 (x_aload C (v := .ref l4) rfl rfl dX7_leastMarks_79 (kk)))) ?_
      refine zX_call (as := [.int l2, .int (x5 &&& (65535 : Int32)), .ref l4]) (st := []) (fun C hM hc kk => x_callS C [.int l2, .int (x5 &&& (65535 : Int32)), .ref l4] hM kX7_marksOf sX7_marksOf lX7_73 ⟨by decide, by decide⟩ rfl hc (Nat.le_of_ble_eq_true rfl) rfl dX7_leastMarks_81 kk) (zC.mono H ?_)
      rintro r0 h15 ⟨x16, rfl, H⟩
      show zX mX7_leastMarks 84 [.ref l0, .int l1, .int l2, .ref l3, .ref l4, .int l5, .int l6, .int (x5 &&& (65535 : Int32)), .int (x9 >>> ((16 : Int32) &&& 31)), .float 0] [.int x16] h15 Q
      obtain ⟨g17, H⟩ := H
      obtain ⟨a18, ea18, H⟩ := H
      refine zX_seg (pc' := 98) (L' := [.ref l0, .int l1, .int l2, .ref l3, .ref l4, .int l5, .int l6, .int (x5 &&& (65535 : Int32)), .int (x9 >>> ((16 : Int32) &&& 31)), .int x16]) (st' := [.int x16, .ref a18, .int x16, .ref a18]) (h2 := h15) rfl rfl (fun C Cr hc kk => x_istore C (by decide) dX7_leastMarks_84 (x_aload_n C (v := .ref l0) rfl rfl dX7_leastMarks_86 (f_getR1 C lX7_18 g17 rfl ea18 dX7_leastMarks_87 (x_iload C rfl dX7_leastMarks_90 (x_aload_n C (v := .ref l0) rfl rfl dX7_leastMarks_92 (f_getR1 C lX7_18 g17 rfl ea18 dX7_leastMarks_93 (x_iload C rfl dX7_leastMarks_96 (kk)))))))) ?_
      refine zX_call (as := [.ref a18, .int x16]) (st := [.int x16, .ref a18]) (fun C hM hc kk => x_callSN C [.ref a18, .int x16] hM kX11_at sX11_at lX7_25 ⟨by decide, by decide⟩ rfl hc (Nat.le_of_ble_eq_true rfl) rfl dX7_leastMarks_98 kk) (zC.mono H ?_)
      rintro r0 h19 ⟨x20, rfl, H⟩
      show zX mX7_leastMarks 101 [.ref l0, .int l1, .int l2, .ref l3, .ref l4, .int l5, .int l6, .int (x5 &&& (65535 : Int32)), .int (x9 >>> ((16 : Int32) &&& 31)), .int x16] [.int x20, .int x16, .ref a18] h19 Q
      refine zX_seg (pc' := 106) (L' := [.ref l0, .int l1, .int l2, .ref l3, .ref l4, .int l5, .int l6, .int (x5 &&& (65535 : Int32)), .int (x9 >>> ((16 : Int32) &&& 31)), .int x16]) (st' := [.int (l1 + (1 : Int32)), .int (x9 >>> ((16 : Int32) &&& 31)), .int x20, .int x16, .ref a18]) (h2 := h19) rfl rfl (fun C Cr hc kk => x_iload C rfl dX7_leastMarks_101 (x_iload_n C rfl dX7_leastMarks_103 (x_iconst C (1 : Int32) (by decide) dX7_leastMarks_104 (x_iadd C dX7_leastMarks_105 (kk))))) ?_
      refine zX_br (p1 := 109) (p2 := 113) (st' := [.int x20, .int x16, .ref a18]) ((x9 >>> ((16 : Int32) &&& 31)) = (l1 + (1 : Int32))) (fun C kt kf => x_icmp_ne C 113 dX7_leastMarks_106 (by decide) kf kt) (fun q21 => ?_) (fun q21 => ?_)
      · replace H := H.1 q21
        refine zX_seg (pc' := 115) (L' := [.ref l0, .int l1, .int l2, .ref l3, .ref l4, .int l5, .int l6, .int (x5 &&& (65535 : Int32)), .int (x9 >>> ((16 : Int32) &&& 31)), .int x16]) (st' := [.int (x20 ||| (1 : Int32)), .int x16, .ref a18]) (h2 := h19) rfl rfl (fun C Cr hc kk => x_iconst C (1 : Int32) (by decide) dX7_leastMarks_109 (x_goto C 114 dX7_leastMarks_110 (by decide) (x_ior C dX7_leastMarks_114 (kk)))) ?_
        refine zX_call (as := [.ref a18, .int x16, .int (x20 ||| (1 : Int32))]) (st := []) (fun C hM hc kk => x_callSN C [.ref a18, .int x16, .int (x20 ||| (1 : Int32))] hM kX11_put sX11_put lX7_35 ⟨by decide, by decide⟩ rfl hc (Nat.le_of_ble_eq_true rfl) rfl dX7_leastMarks_115 kk) (zC.mono H ?_)
        rintro r0 h22 ⟨rfl, H⟩
        show zX mX7_leastMarks 118 [.ref l0, .int l1, .int l2, .ref l3, .ref l4, .int l5, .int l6, .int (x5 &&& (65535 : Int32)), .int (x9 >>> ((16 : Int32) &&& 31)), .int x16] [] h22 Q
        refine zX_seg (pc' := 19) (L' := [.ref l0, .int l1, .int l2, .ref l3, .ref l4, .int l5, .int (l6 + 1), .int (x5 &&& (65535 : Int32)), .int (x9 >>> ((16 : Int32) &&& 31)), .int x16]) (st' := []) (h2 := h22) rfl rfl (fun C Cr hc kk => x_iinc C (l6 + 1) rfl (congrArg (HAdd.hAdd _) (by decide)) (by decide) dX7_leastMarks_118 (x_goto C 19 dX7_leastMarks_121 (by decide) (kk))) ?_
        exact zX_wk (wkK (wkK (wkK (wkK (wkK (wkK (wkK (wkD (wkD (wkD wkN)))))))))) H
      · replace H := H.2 q21
        refine zX_seg (pc' := 115) (L' := [.ref l0, .int l1, .int l2, .ref l3, .ref l4, .int l5, .int l6, .int (x5 &&& (65535 : Int32)), .int (x9 >>> ((16 : Int32) &&& 31)), .int x16]) (st' := [.int (x20 ||| (2 : Int32)), .int x16, .ref a18]) (h2 := h19) rfl rfl (fun C Cr hc kk => x_iconst C (2 : Int32) (by decide) dX7_leastMarks_113 (x_ior C dX7_leastMarks_114 (kk))) ?_
        refine zX_call (as := [.ref a18, .int x16, .int (x20 ||| (2 : Int32))]) (st := []) (fun C hM hc kk => x_callSN C [.ref a18, .int x16, .int (x20 ||| (2 : Int32))] hM kX11_put sX11_put lX7_35 ⟨by decide, by decide⟩ rfl hc (Nat.le_of_ble_eq_true rfl) rfl dX7_leastMarks_115 kk) (zC.mono H ?_)
        rintro r0 h23 ⟨rfl, H⟩
        show zX mX7_leastMarks 118 [.ref l0, .int l1, .int l2, .ref l3, .ref l4, .int l5, .int l6, .int (x5 &&& (65535 : Int32)), .int (x9 >>> ((16 : Int32) &&& 31)), .int x16] [] h23 Q
        refine zX_seg (pc' := 19) (L' := [.ref l0, .int l1, .int l2, .ref l3, .ref l4, .int l5, .int (l6 + 1), .int (x5 &&& (65535 : Int32)), .int (x9 >>> ((16 : Int32) &&& 31)), .int x16]) (st' := []) (h2 := h23) rfl rfl (fun C Cr hc kk => x_iinc C (l6 + 1) rfl (congrArg (HAdd.hAdd _) (by decide)) (by decide) dX7_leastMarks_118 (x_goto C 19 dX7_leastMarks_121 (by decide) (kk))) ?_
        exact zX_wk (wkK (wkK (wkK (wkK (wkK (wkK (wkK (wkD (wkD (wkD wkN)))))))))) H
    · replace H := H.2 q14
      refine zX_seg (pc' := 19) (L' := [.ref l0, .int l1, .int l2, .ref l3, .ref l4, .int l5, .int (l6 + 1), .int (x5 &&& (65535 : Int32)), .int (x9 >>> ((16 : Int32) &&& 31)), .float 0]) (st' := []) (h2 := h12) rfl rfl (fun C Cr hc kk => x_iinc C (l6 + 1) rfl (congrArg (HAdd.hAdd _) (by decide)) (by decide) dX7_leastMarks_118 (x_goto C 19 dX7_leastMarks_121 (by decide) (kk))) ?_
      exact zX_wk (wkK (wkK (wkK (wkK (wkK (wkK (wkK (wkD (wkD (wkD wkN)))))))))) H
set_option maxHeartbeats 20000000 in
theorem bX7_leastMarks_127 (l0 : Nat) (l6 : Int32) (h : zH) (Q : Option Value → zH → Prop) (H : oK h l0 7 ∧ (∃ a2 : Nat, gR h l0 2 = some a2 ∧ (iK h a2 0 ∧ (((nI (aN h a2)) ≤ l6 → (Q (some (.int (-1 : Int32))) h)) ∧ (¬ ((nI (aN h a2)) ≤ l6) → (vp_in l6 (aN h a2) ∧ (((aI h a2 l6.toNatClampNeg) = (1 : Int32) → (Q (some (.int l6)) h)) ∧ (¬ ((aI h a2 l6.toNatClampNeg) = (1 : Int32)) → (zX mX7_leastMarks 127 [.ref l0, .float 0, .float 0, .float 0, .float 0, .float 0, .int (l6 + 1), .float 0, .float 0, .float 0] [] h Q))))))))) : zX mX7_leastMarks 127 [.ref l0, .float 0, .float 0, .float 0, .float 0, .float 0, .int l6, .float 0, .float 0, .float 0] [] h Q := by
  obtain ⟨g1, H⟩ := H
  obtain ⟨a2, ea2, H⟩ := H
  obtain ⟨g3, H⟩ := H
  refine zX_seg (pc' := 134) (L' := [.ref l0, .float 0, .float 0, .float 0, .float 0, .float 0, .int l6, .float 0, .float 0, .float 0]) (st' := [.int (nI (aN h a2)), .int l6]) (h2 := h) rfl rfl (fun C Cr hc kk => x_iload C rfl dX7_leastMarks_127 (x_aload_n C (v := .ref l0) rfl rfl dX7_leastMarks_129 (f_getR1 C lX7_18 g1 rfl ea2 dX7_leastMarks_130 (f_alenI C (by decide) g3 dX7_leastMarks_133 (kk))))) ?_
  refine zX_br (p1 := 157) (p2 := 137) (st' := []) ((nI (aN h a2)) ≤ l6) (fun C kt kf => x_icmp_ge C 157 dX7_leastMarks_134 (by decide) kt kf) (fun q4 => ?_) (fun q4 => ?_)
  · replace H := H.1 q4
    refine zX_seg (pc' := 158) (L' := [.ref l0, .float 0, .float 0, .float 0, .float 0, .float 0, .int l6, .float 0, .float 0, .float 0]) (st' := [.int (-1 : Int32)]) (h2 := h) rfl rfl (fun C Cr hc kk => x_iconst C (-1 : Int32) (by decide) dX7_leastMarks_157 (kk)) ?_
    exact zX_ret (some (.int (-1 : Int32))) (fun C Cr hc => x_iret C Cr rfl rfl hc dX7_leastMarks_158 ⟨rfl, rfl⟩) H
  · replace H := H.2 q4
    obtain ⟨g5, H⟩ := H
    refine zX_seg (pc' := 145) (L' := [.ref l0, .float 0, .float 0, .float 0, .float 0, .float 0, .int l6, .float 0, .float 0, .float 0]) (st' := [.int (1 : Int32), .int (aI h a2 l6.toNatClampNeg)]) (h2 := h) rfl rfl (fun C Cr hc kk => x_aload_n C (v := .ref l0) rfl rfl dX7_leastMarks_137 (f_getR1 C lX7_18 g1 rfl ea2 dX7_leastMarks_138 (x_iload C rfl dX7_leastMarks_141 (f_iald C g3 g5 dX7_leastMarks_143 (x_iconst C (1 : Int32) (by decide) dX7_leastMarks_144 (kk)))))) ?_
    refine zX_br (p1 := 148) (p2 := 151) (st' := []) ((aI h a2 l6.toNatClampNeg) = (1 : Int32)) (fun C kt kf => x_icmp_ne C 151 dX7_leastMarks_145 (by decide) kf kt) (fun q6 => ?_) (fun q6 => ?_)
    · replace H := H.1 q6
      refine zX_seg (pc' := 150) (L' := [.ref l0, .float 0, .float 0, .float 0, .float 0, .float 0, .int l6, .float 0, .float 0, .float 0]) (st' := [.int l6]) (h2 := h) rfl rfl (fun C Cr hc kk => x_iload C rfl dX7_leastMarks_148 (kk)) ?_
      exact zX_ret (some (.int l6)) (fun C Cr hc => x_iret C Cr rfl rfl hc dX7_leastMarks_150 ⟨rfl, rfl⟩) H
    · replace H := H.2 q6
      refine zX_seg (pc' := 127) (L' := [.ref l0, .float 0, .float 0, .float 0, .float 0, .float 0, .int (l6 + 1), .float 0, .float 0, .float 0]) (st' := []) (h2 := h) rfl rfl (fun C Cr hc kk => x_iinc C (l6 + 1) rfl (congrArg (HAdd.hAdd _) (by decide)) (by decide) dX7_leastMarks_151 (x_goto C 127 dX7_leastMarks_154 (by decide) (kk))) ?_
      exact zX_wk (wkK (wkD (wkD (wkD (wkD (wkD (wkK (wkD (wkD (wkD wkN)))))))))) H
theorem nX7_leastMarks (t : Nat) (p0 : Int32) (p1 : Int32) (p2 : Nat) (p3 : Nat) (h : zH) (Q : Option Value → zH → Prop) (H : zX mX7_leastMarks 0 [.ref t, .int p0, .int p1, .ref p2, .ref p3, .float 0, .float 0, .float 0, .float 0, .float 0] [] h Q) : zC mX7_leastMarks [.ref t, .int p0, .int p1, .ref p2, .ref p3] h Q := zC_of (by decide +kernel) (by simp) (Nat.le_of_ble_eq_true rfl) H
set_option maxHeartbeats 20000000 in
theorem bX7_marksOf_0 (p0 : Int32) (p1 : Int32) (p2 : Nat) (h : zH) (Q : Option Value → zH → Prop) (H : zX mX7_marksOf 5 [.int p0, .int p1, .ref p2, .int (0 : Int32), .int (0 : Int32)] [] h Q) : zX mX7_marksOf 0 [.int p0, .int p1, .ref p2, .float 0, .float 0] [] h Q := by
  refine zX_seg (pc' := 5) (L' := [.int p0, .int p1, .ref p2, .int (0 : Int32), .int (0 : Int32)]) (st' := []) (h2 := h) rfl rfl (fun C Cr hc kk => x_iconst C (0 : Int32) (by decide) dX7_marksOf_0 (x_istore_n C (by decide) dX7_marksOf_1 (x_iconst C (0 : Int32) (by decide) dX7_marksOf_2 (x_istore C (by decide) dX7_marksOf_3 (kk))))) ?_
  exact zX_wk (wkK (wkK (wkK (wkK (wkK wkN))))) H
set_option maxHeartbeats 20000000 in
theorem bX7_marksOf_5 (l0 : Int32) (l1 : Int32) (l2 : Nat) (l3 : Int32) (l4 : Int32) (h : zH) (Q : Option Value → zH → Prop) (H : oK h l2 10 ∧ (((gI h l2 8) ≤ l4 → (Q (some (.int l3)) h)) ∧ (¬ ((gI h l2 8) ≤ l4) → ((((l0 >>> (l4 &&& 31)) &&& (1 : Int32)) = (1 : Int32) → (zC mX10_markOf [.ref l2, .int l1, .int l4] h (fun r0 h4 => ∃ x5 : Int32, r0 = some (.int x5) ∧ (zX mX7_marksOf 5 [.int l0, .int l1, .ref l2, .int ((l3 <<< ((2 : Int32) &&& 31)) ||| x5), .int (l4 + 1)] [] h4 Q)))) ∧ (¬ (((l0 >>> (l4 &&& 31)) &&& (1 : Int32)) = (1 : Int32)) → (zX mX7_marksOf 5 [.int l0, .int l1, .ref l2, .int l3, .int (l4 + 1)] [] h Q)))))) : zX mX7_marksOf 5 [.int l0, .int l1, .ref l2, .int l3, .int l4] [] h Q := by
  obtain ⟨g1, H⟩ := H
  refine zX_seg (pc' := 11) (L' := [.int l0, .int l1, .ref l2, .int l3, .int l4]) (st' := [.int (gI h l2 8), .int l4]) (h2 := h) rfl rfl (fun C Cr hc kk => x_iload C rfl dX7_marksOf_5 (x_aload_n C (v := .ref l2) rfl rfl dX7_marksOf_7 (f_getIN C lX7_39 g1 rfl dX7_marksOf_8 (kk)))) ?_
  refine zX_br (p1 := 42) (p2 := 14) (st' := []) ((gI h l2 8) ≤ l4) (fun C kt kf => x_icmp_ge C 42 dX7_marksOf_11 (by decide) kt kf) (fun q2 => ?_) (fun q2 => ?_)
  · replace H := H.1 q2
    refine zX_seg (pc' := 43) (L' := [.int l0, .int l1, .ref l2, .int l3, .int l4]) (st' := [.int l3]) (h2 := h) rfl rfl (fun C Cr hc kk => x_iload_n C rfl dX7_marksOf_42 (kk)) ?_
    exact zX_ret (some (.int l3)) (fun C Cr hc => x_iret C Cr rfl rfl hc dX7_marksOf_43 ⟨rfl, rfl⟩) H
  · replace H := H.2 q2
    refine zX_seg (pc' := 21) (L' := [.int l0, .int l1, .ref l2, .int l3, .int l4]) (st' := [.int (1 : Int32), .int ((l0 >>> (l4 &&& 31)) &&& (1 : Int32))]) (h2 := h) rfl rfl (fun C Cr hc kk => x_iload_n C rfl dX7_marksOf_14 (x_iload C rfl dX7_marksOf_15 (x_ishr C dX7_marksOf_17 (x_iconst C (1 : Int32) (by decide) dX7_marksOf_18 (x_iand C dX7_marksOf_19 (x_iconst C (1 : Int32) (by decide) dX7_marksOf_20 (kk))))))) ?_
    refine zX_br (p1 := 24) (p2 := 36) (st' := []) (((l0 >>> (l4 &&& 31)) &&& (1 : Int32)) = (1 : Int32)) (fun C kt kf => x_icmp_ne C 36 dX7_marksOf_21 (by decide) kf kt) (fun q3 => ?_) (fun q3 => ?_)
    · replace H := H.1 q3
      refine zX_seg (pc' := 31) (L' := [.int l0, .int l1, .ref l2, .int l3, .int l4]) (st' := [.int l4, .int l1, .ref l2, .int (l3 <<< ((2 : Int32) &&& 31))]) (h2 := h) rfl rfl (fun C Cr hc kk => x_iload_n C rfl dX7_marksOf_24 (x_iconst C (2 : Int32) (by decide) dX7_marksOf_25 (x_ishl C dX7_marksOf_26 (x_aload_n C (v := .ref l2) rfl rfl dX7_marksOf_27 (x_iload_n C rfl dX7_marksOf_28 (x_iload C rfl dX7_marksOf_29 (kk))))))) ?_
      refine zX_call (as := [.ref l2, .int l1, .int l4]) (st := [.int (l3 <<< ((2 : Int32) &&& 31))]) (fun C hM hc kk => f_callVN C [.int l1, .int l4] hM kX10_markOf vX10_markOf lX7_77 ⟨by decide, by decide⟩ (rfl : vwCl[10]? = some (RX10, TX10, 10)) g1 rfl hc (Nat.le_of_ble_eq_true rfl) rfl dX7_marksOf_31 kk) (zC.mono H ?_)
      rintro r0 h4 ⟨x5, rfl, H⟩
      show zX mX7_marksOf 34 [.int l0, .int l1, .ref l2, .int l3, .int l4] [.int x5, .int (l3 <<< ((2 : Int32) &&& 31))] h4 Q
      refine zX_seg (pc' := 5) (L' := [.int l0, .int l1, .ref l2, .int ((l3 <<< ((2 : Int32) &&& 31)) ||| x5), .int (l4 + 1)]) (st' := []) (h2 := h4) rfl rfl (fun C Cr hc kk => x_ior C dX7_marksOf_34 (x_istore_n C (by decide) dX7_marksOf_35 (x_iinc C (l4 + 1) rfl (congrArg (HAdd.hAdd _) (by decide)) (by decide) dX7_marksOf_36 (x_goto C 5 dX7_marksOf_39 (by decide) (kk))))) ?_
      exact zX_wk (wkK (wkK (wkK (wkK (wkK wkN))))) H
    · replace H := H.2 q3
      refine zX_seg (pc' := 5) (L' := [.int l0, .int l1, .ref l2, .int l3, .int (l4 + 1)]) (st' := []) (h2 := h) rfl rfl (fun C Cr hc kk => x_iinc C (l4 + 1) rfl (congrArg (HAdd.hAdd _) (by decide)) (by decide) dX7_marksOf_36 (x_goto C 5 dX7_marksOf_39 (by decide) (kk))) ?_
      exact zX_wk (wkK (wkK (wkK (wkK (wkK wkN))))) H
theorem nX7_marksOf (p0 : Int32) (p1 : Int32) (p2 : Nat) (h : zH) (Q : Option Value → zH → Prop) (H : zX mX7_marksOf 0 [.int p0, .int p1, .ref p2, .float 0, .float 0] [] h Q) : zC mX7_marksOf [.int p0, .int p1, .ref p2] h Q := zC_of (by decide +kernel) (by simp) (Nat.le_of_ble_eq_true rfl) H
set_option maxHeartbeats 20000000 in
theorem bX7_digits_0 (p0 : Int32) (p1 : Int32) (h : zH) (Q : Option Value → zH → Prop) (H : zX mX7_digits 6 [.int p0, .float 0, .int (0 : Int32), .int (p1 - (1 : Int32))] [] h Q) : zX mX7_digits 0 [.int p0, .int p1, .float 0, .float 0] [] h Q := by
  refine zX_seg (pc' := 6) (L' := [.int p0, .int p1, .int (0 : Int32), .int (p1 - (1 : Int32))]) (st' := []) (h2 := h) rfl rfl (fun C Cr hc kk => x_iconst C (0 : Int32) (by decide) dX7_digits_0 (x_istore_n C (by decide) dX7_digits_1 (x_iload_n C rfl dX7_digits_2 (x_iconst C (1 : Int32) (by decide) dX7_digits_3 (x_isub C dX7_digits_4 (x_istore_n C (by decide) dX7_digits_5 (kk))))))) ?_
  exact zX_wk (wkK (wkD (wkK (wkK wkN)))) H
set_option maxHeartbeats 20000000 in
theorem bX7_digits_6 (l0 : Int32) (l2 : Int32) (l3 : Int32) (h : zH) (Q : Option Value → zH → Prop) (H : (l3 < 0 → (Q (some (.int l2)) h)) ∧ (¬ (l3 < 0) → (zX mX7_digits 6 [.int l0, .float 0, .int ((l2 * (10 : Int32)) + ((l0 >>> (((2 : Int32) * l3) &&& 31)) &&& (3 : Int32))), .int (l3 + (-1))] [] h Q))) : zX mX7_digits 6 [.int l0, .float 0, .int l2, .int l3] [] h Q := by
  refine zX_seg (pc' := 7) (L' := [.int l0, .float 0, .int l2, .int l3]) (st' := [.int l3]) (h2 := h) rfl rfl (fun C Cr hc kk => x_iload_n C rfl dX7_digits_6 (kk)) ?_
  refine zX_br (p1 := 29) (p2 := 10) (st' := []) (l3 < 0) (fun C kt kf => x_if_lt C 29 dX7_digits_7 (by decide) kt kf) (fun q1 => ?_) (fun q1 => ?_)
  · replace H := H.1 q1
    refine zX_seg (pc' := 30) (L' := [.int l0, .float 0, .int l2, .int l3]) (st' := [.int l2]) (h2 := h) rfl rfl (fun C Cr hc kk => x_iload_n C rfl dX7_digits_29 (kk)) ?_
    exact zX_ret (some (.int l2)) (fun C Cr hc => x_iret C Cr rfl rfl hc dX7_digits_30 ⟨rfl, rfl⟩) H
  · replace H := H.2 q1
    refine zX_seg (pc' := 6) (L' := [.int l0, .float 0, .int ((l2 * (10 : Int32)) + ((l0 >>> (((2 : Int32) * l3) &&& 31)) &&& (3 : Int32))), .int (l3 + (-1))]) (st' := []) (h2 := h) rfl rfl (fun C Cr hc kk => x_iload_n C rfl dX7_digits_10 (x_bipush C (10 : Int32) (by decide) dX7_digits_11 (x_imul C dX7_digits_13 (x_iload_n C rfl dX7_digits_14 (x_iconst C (2 : Int32) (by decide) dX7_digits_15 (x_iload_n C rfl dX7_digits_16 (x_imul C dX7_digits_17 (x_ishr C dX7_digits_18 (x_iconst C (3 : Int32) (by decide) dX7_digits_19 (x_iand C dX7_digits_20 (x_iadd C dX7_digits_21 (x_istore_n C (by decide) dX7_digits_22 (x_iinc C (l3 + (-1)) rfl (congrArg (HAdd.hAdd _) (by decide)) (by decide) dX7_digits_23 (x_goto C 6 dX7_digits_26 (by decide) (kk))))))))))))))) ?_
    exact zX_wk (wkK (wkD (wkK (wkK wkN)))) H
theorem nX7_digits (p0 : Int32) (p1 : Int32) (h : zH) (Q : Option Value → zH → Prop) (H : zX mX7_digits 0 [.int p0, .int p1, .float 0, .float 0] [] h Q) : zC mX7_digits [.int p0, .int p1] h Q := zC_of (by decide +kernel) (by simp) (Nat.le_of_ble_eq_true rfl) H
set_option maxHeartbeats 20000000 in
theorem bX9_init_0 (t : Nat) (h : zH) (Q : Option Value → zH → Prop) (H : Q none h) : zX mX9_init 0 [.ref t] [] h Q := by
  refine zX_seg (pc' := 4) (L' := [.ref t]) (st' := []) (h2 := h) rfl rfl (fun C Cr hc kk => x_aload_n C (v := .ref t) rfl rfl dX9_init_0 (x_objInit C lX9_3 oi_i oi_c ⟨by decide, by decide⟩ (Nat.le_of_ble_eq_true rfl) dX9_init_1 (kk))) ?_
  exact zX_ret none (fun C Cr hc => x_ret C Cr rfl hc dX9_init_4 ⟨rfl, rfl⟩) H
theorem nX9_init (t : Nat) (h : zH) (Q : Option Value → zH → Prop) (H : zX mX9_init 0 [.ref t] [] h Q) : zC mX9_init [.ref t] h Q := zC_of (by decide +kernel) (by simp) (Nat.le_of_ble_eq_true rfl) H
set_option maxHeartbeats 20000000 in
theorem bX9_show_0 (t : Nat) (p0 : Int32) (p1 : Int32) (h : zH) (Q : Option Value → zH → Prop) (H : oK h t 9 ∧ (∀ h2 : zH, h2 = (pF h t 0 (.int p0)) → (∀ h4 : zH, h4 = (pF h2 t 1 (.int ((1 : Int32) <<< ((p0 - (1 : Int32)) &&& 31)))) → (∀ h6 : zH, h6 = (pF h4 t 2 (.int (0 : Int32))) → (∀ h8 : zH, h8 = (pF h6 t 3 (.int (0 : Int32))) → (∀ h10 : zH, h10 = (pF h8 t 4 (.int (-1 : Int32))) → (∀ h12 : zH, h12 = (pF h10 t 5 (.int (0 : Int32))) → (zX mX9_show 46 [.ref t, .float 0, .int p1, .int ((1 : Int32) <<< ((p0 * (gI h12 t 1)) &&& 31)), .int (0 : Int32)] [] h12 Q)))))))) : zX mX9_show 0 [.ref t, .int p0, .int p1, .float 0, .float 0] [] h Q := by
  obtain ⟨g1, H⟩ := H
  refine zX_seg (pc' := 5) (L' := [.ref t, .int p0, .int p1, .float 0, .float 0]) (st' := []) (h2 := (pF h t 0 (.int p0))) rfl rfl (fun C Cr hc kk => x_aload_n C (v := .ref t) rfl rfl dX9_show_0 (x_iload_n C rfl dX9_show_1 (f_putI C lX9_9 tX9 nX9_0 g1 rfl rfl dX9_show_2 (kk)))) ?_
  obtain ⟨h2, eh2⟩ : ∃ y : zH, y = (pF h t 0 (.int p0)) := ⟨_, rfl⟩
  replace H := H h2 eh2
  rw [← eh2]
  have g3 : oK h2 t 9 := by rw [eh2]; exact oK_pF' g1 rfl rfl g1
  refine zX_seg (pc' := 14) (L' := [.ref t, .int p0, .int p1, .float 0, .float 0]) (st' := []) (h2 := (pF h2 t 1 (.int ((1 : Int32) <<< ((p0 - (1 : Int32)) &&& 31))))) rfl rfl (fun C Cr hc kk => x_aload_n C (v := .ref t) rfl rfl dX9_show_5 (x_iconst C (1 : Int32) (by decide) dX9_show_6 (x_iload_n C rfl dX9_show_7 (x_iconst C (1 : Int32) (by decide) dX9_show_8 (x_isub C dX9_show_9 (x_ishl C dX9_show_10 (f_putI C lX9_15 tX9 nX9_1 g3 rfl rfl dX9_show_11 (kk)))))))) ?_
  obtain ⟨h4, eh4⟩ : ∃ y : zH, y = (pF h2 t 1 (.int ((1 : Int32) <<< ((p0 - (1 : Int32)) &&& 31)))) := ⟨_, rfl⟩
  replace H := H h4 eh4
  rw [← eh4]
  have g5 : oK h4 t 9 := by rw [eh4]; exact oK_pF' g3 rfl rfl g3
  refine zX_seg (pc' := 19) (L' := [.ref t, .int p0, .int p1, .float 0, .float 0]) (st' := []) (h2 := (pF h4 t 2 (.int (0 : Int32)))) rfl rfl (fun C Cr hc kk => x_aload_n C (v := .ref t) rfl rfl dX9_show_14 (x_iconst C (0 : Int32) (by decide) dX9_show_15 (f_putI C lX9_18 tX9 nX9_2 g5 rfl rfl dX9_show_16 (kk)))) ?_
  obtain ⟨h6, eh6⟩ : ∃ y : zH, y = (pF h4 t 2 (.int (0 : Int32))) := ⟨_, rfl⟩
  replace H := H h6 eh6
  rw [← eh6]
  have g7 : oK h6 t 9 := by rw [eh6]; exact oK_pF' g5 rfl rfl g5
  refine zX_seg (pc' := 24) (L' := [.ref t, .int p0, .int p1, .float 0, .float 0]) (st' := []) (h2 := (pF h6 t 3 (.int (0 : Int32)))) rfl rfl (fun C Cr hc kk => x_aload_n C (v := .ref t) rfl rfl dX9_show_19 (x_iconst C (0 : Int32) (by decide) dX9_show_20 (f_putI C lX9_21 tX9 nX9_3 g7 rfl rfl dX9_show_21 (kk)))) ?_
  obtain ⟨h8, eh8⟩ : ∃ y : zH, y = (pF h6 t 3 (.int (0 : Int32))) := ⟨_, rfl⟩
  replace H := H h8 eh8
  rw [← eh8]
  have g9 : oK h8 t 9 := by rw [eh8]; exact oK_pF' g7 rfl rfl g7
  refine zX_seg (pc' := 29) (L' := [.ref t, .int p0, .int p1, .float 0, .float 0]) (st' := []) (h2 := (pF h8 t 4 (.int (-1 : Int32)))) rfl rfl (fun C Cr hc kk => x_aload_n C (v := .ref t) rfl rfl dX9_show_24 (x_iconst C (-1 : Int32) (by decide) dX9_show_25 (f_putI C lX9_24 tX9 nX9_4 g9 rfl rfl dX9_show_26 (kk)))) ?_
  obtain ⟨h10, eh10⟩ : ∃ y : zH, y = (pF h8 t 4 (.int (-1 : Int32))) := ⟨_, rfl⟩
  replace H := H h10 eh10
  rw [← eh10]
  have g11 : oK h10 t 9 := by rw [eh10]; exact oK_pF' g9 rfl rfl g9
  refine zX_seg (pc' := 34) (L' := [.ref t, .int p0, .int p1, .float 0, .float 0]) (st' := []) (h2 := (pF h10 t 5 (.int (0 : Int32)))) rfl rfl (fun C Cr hc kk => x_aload_n C (v := .ref t) rfl rfl dX9_show_29 (x_iconst C (0 : Int32) (by decide) dX9_show_30 (f_putI C lX9_27 tX9 nX9_5 g11 rfl rfl dX9_show_31 (kk)))) ?_
  obtain ⟨h12, eh12⟩ : ∃ y : zH, y = (pF h10 t 5 (.int (0 : Int32))) := ⟨_, rfl⟩
  replace H := H h12 eh12
  rw [← eh12]
  have g13 : oK h12 t 9 := by rw [eh12]; exact oK_pF' g11 rfl rfl g11
  refine zX_seg (pc' := 46) (L' := [.ref t, .int p0, .int p1, .int ((1 : Int32) <<< ((p0 * (gI h12 t 1)) &&& 31)), .int (0 : Int32)]) (st' := []) (h2 := h12) rfl rfl (fun C Cr hc kk => x_iconst C (1 : Int32) (by decide) dX9_show_34 (x_iload_n C rfl dX9_show_35 (x_aload_n C (v := .ref t) rfl rfl dX9_show_36 (f_getI C lX9_15 g13 rfl dX9_show_37 (x_imul C dX9_show_40 (x_ishl C dX9_show_41 (x_istore_n C (by decide) dX9_show_42 (x_iconst C (0 : Int32) (by decide) dX9_show_43 (x_istore C (by decide) dX9_show_44 (kk)))))))))) ?_
  exact zX_wk (wkK (wkD (wkK (wkK (wkK wkN))))) H
set_option maxHeartbeats 20000000 in
theorem bX9_show_46 (l0 : Nat) (l2 : Int32) (l3 : Int32) (l4 : Int32) (h : zH) (Q : Option Value → zH → Prop) (H : (l3 ≤ l4 → (Q none h)) ∧ (¬ (l3 ≤ l4) → (oK h l0 9 ∧ (zC mX9_holdsTo [.ref l0, .int l2, .int l4] h (fun r0 h3 => ∃ x4 : Int32, r0 = some (.int x4) ∧ ((x4 = 0 → (zX mX9_show 46 [.ref l0, .float 0, .int l2, .int l3, .int (l4 + 1)] [] h3 Q)) ∧ (¬ (x4 = 0) → (oK h3 l0 9 ∧ (zC mX9_tally [.ref l0, .int l4] h3 (fun r0 h7 => r0 = none ∧ (zX mX9_show 46 [.ref l0, .float 0, .int l2, .int l3, .int (l4 + 1)] [] h7 Q))))))))))) : zX mX9_show 46 [.ref l0, .float 0, .int l2, .int l3, .int l4] [] h Q := by
  refine zX_seg (pc' := 49) (L' := [.ref l0, .float 0, .int l2, .int l3, .int l4]) (st' := [.int l3, .int l4]) (h2 := h) rfl rfl (fun C Cr hc kk => x_iload C rfl dX9_show_46 (x_iload_n C rfl dX9_show_48 (kk))) ?_
  refine zX_br (p1 := 74) (p2 := 52) (st' := []) (l3 ≤ l4) (fun C kt kf => x_icmp_ge C 74 dX9_show_49 (by decide) kt kf) (fun q1 => ?_) (fun q1 => ?_)
  · replace H := H.1 q1
    exact zX_ret none (fun C Cr hc => x_ret C Cr rfl hc dX9_show_74 ⟨rfl, rfl⟩) H
  · replace H := H.2 q1
    refine zX_seg (pc' := 56) (L' := [.ref l0, .float 0, .int l2, .int l3, .int l4]) (st' := [.int l4, .int l2, .ref l0]) (h2 := h) rfl rfl (fun C Cr hc kk => x_aload_n C (v := .ref l0) rfl rfl dX9_show_52 (x_iload_n C rfl dX9_show_53 (x_iload C rfl dX9_show_54 (kk)))) ?_
    obtain ⟨g2, H⟩ := H
    refine zX_call (as := [.ref l0, .int l2, .int l4]) (st := []) (fun C hM hc kk => f_callV C [.int l2, .int l4] hM kX9_holdsTo vX9_holdsTo lX9_30 ⟨by decide, by decide⟩ (rfl : vwCl[9]? = some (RX9, TX9, 6)) g2 rfl hc (Nat.le_of_ble_eq_true rfl) rfl dX9_show_56 kk) (zC.mono H ?_)
    rintro r0 h3 ⟨x4, rfl, H⟩
    show zX mX9_show 59 [.ref l0, .float 0, .int l2, .int l3, .int l4] [.int x4] h3 Q
    refine zX_br (p1 := 68) (p2 := 62) (st' := []) (x4 = 0) (fun C kt kf => x_if_eq C 68 dX9_show_59 (by decide) kt kf) (fun q5 => ?_) (fun q5 => ?_)
    · replace H := H.1 q5
      refine zX_seg (pc' := 46) (L' := [.ref l0, .float 0, .int l2, .int l3, .int (l4 + 1)]) (st' := []) (h2 := h3) rfl rfl (fun C Cr hc kk => x_iinc C (l4 + 1) rfl (congrArg (HAdd.hAdd _) (by decide)) (by decide) dX9_show_68 (x_goto C 46 dX9_show_71 (by decide) (kk))) ?_
      exact zX_wk (wkK (wkD (wkK (wkK (wkK wkN))))) H
    · replace H := H.2 q5
      refine zX_seg (pc' := 65) (L' := [.ref l0, .float 0, .int l2, .int l3, .int l4]) (st' := [.int l4, .ref l0]) (h2 := h3) rfl rfl (fun C Cr hc kk => x_aload_n C (v := .ref l0) rfl rfl dX9_show_62 (x_iload C rfl dX9_show_63 (kk))) ?_
      obtain ⟨g6, H⟩ := H
      refine zX_call (as := [.ref l0, .int l4]) (st := []) (fun C hM hc kk => f_callV C [.int l4] hM kX9_tally vX9_tally lX9_34 ⟨by decide, by decide⟩ (rfl : vwCl[9]? = some (RX9, TX9, 6)) g6 rfl hc (Nat.le_of_ble_eq_true rfl) rfl dX9_show_65 kk) (zC.mono H ?_)
      rintro r0 h7 ⟨rfl, H⟩
      show zX mX9_show 68 [.ref l0, .float 0, .int l2, .int l3, .int l4] [] h7 Q
      refine zX_seg (pc' := 46) (L' := [.ref l0, .float 0, .int l2, .int l3, .int (l4 + 1)]) (st' := []) (h2 := h7) rfl rfl (fun C Cr hc kk => x_iinc C (l4 + 1) rfl (congrArg (HAdd.hAdd _) (by decide)) (by decide) dX9_show_68 (x_goto C 46 dX9_show_71 (by decide) (kk))) ?_
      exact zX_wk (wkK (wkD (wkK (wkK (wkK wkN))))) H
theorem nX9_show (t : Nat) (p0 : Int32) (p1 : Int32) (h : zH) (Q : Option Value → zH → Prop) (H : zX mX9_show 0 [.ref t, .int p0, .int p1, .float 0, .float 0] [] h Q) : zC mX9_show [.ref t, .int p0, .int p1] h Q := zC_of (by decide +kernel) (by simp) (Nat.le_of_ble_eq_true rfl) H
set_option maxHeartbeats 20000000 in
theorem bX9_tally_0 (t : Nat) (p0 : Int32) (h : zH) (Q : Option Value → zH → Prop) (H : zX mX9_tally 4 [.ref t, .int p0, .int (0 : Int32), .int (0 : Int32)] [] h Q) : zX mX9_tally 0 [.ref t, .int p0, .float 0, .float 0] [] h Q := by
  refine zX_seg (pc' := 4) (L' := [.ref t, .int p0, .int (0 : Int32), .int (0 : Int32)]) (st' := []) (h2 := h) rfl rfl (fun C Cr hc kk => x_iconst C (0 : Int32) (by decide) dX9_tally_0 (x_istore_n C (by decide) dX9_tally_1 (x_iconst C (0 : Int32) (by decide) dX9_tally_2 (x_istore_n C (by decide) dX9_tally_3 (kk))))) ?_
  exact zX_wk (wkK (wkK (wkK (wkK wkN)))) H
set_option maxHeartbeats 20000000 in
theorem bX9_tally_4 (l0 : Nat) (l1 : Int32) (l2 : Int32) (l3 : Int32) (h : zH) (Q : Option Value → zH → Prop) (H : oK h l0 9 ∧ ((((1 : Int32) <<< ((gI h l0 0) &&& 31)) ≤ l3 → ((l2 = 0 → (((gI h l0 4) = (-1 : Int32) → (∀ h5 : zH, h5 = (pF h l0 4 (.int l1)) → (zX mX9_tally 54 [.ref l0, .float 0, .int l2, .float 0] [] h5 Q))) ∧ (¬ ((gI h l0 4) = (-1 : Int32)) → (zX mX9_tally 54 [.ref l0, .float 0, .int l2, .float 0] [] h Q)))) ∧ (¬ (l2 = 0) → (zX mX9_tally 54 [.ref l0, .float 0, .int l2, .float 0] [] h Q)))) ∧ (¬ (((1 : Int32) <<< ((gI h l0 0) &&& 31)) ≤ l3) → (zC mX9_agrees [.ref l0, .int l1, .int l3] h (fun r0 h7 => ∃ x8 : Int32, r0 = some (.int x8) ∧ ((x8 = 0 → (zX mX9_tally 4 [.ref l0, .int l1, .int (l2 + (0 : Int32)), .int (l3 + 1)] [] h7 Q)) ∧ (¬ (x8 = 0) → (zX mX9_tally 4 [.ref l0, .int l1, .int (l2 + (1 : Int32)), .int (l3 + 1)] [] h7 Q)))))))) : zX mX9_tally 4 [.ref l0, .int l1, .int l2, .int l3] [] h Q := by
  obtain ⟨g1, H⟩ := H
  refine zX_seg (pc' := 11) (L' := [.ref l0, .int l1, .int l2, .int l3]) (st' := [.int ((1 : Int32) <<< ((gI h l0 0) &&& 31)), .int l3]) (h2 := h) rfl rfl (fun C Cr hc kk => x_iload_n C rfl dX9_tally_4 (x_iconst C (1 : Int32) (by decide) dX9_tally_5 (x_aload_n C (v := .ref l0) rfl rfl dX9_tally_6 (f_getI C lX9_9 g1 rfl dX9_tally_7 (x_ishl C dX9_tally_10 (kk)))))) ?_
  refine zX_br (p1 := 37) (p2 := 14) (st' := []) (((1 : Int32) <<< ((gI h l0 0) &&& 31)) ≤ l3) (fun C kt kf => x_icmp_ge C 37 dX9_tally_11 (by decide) kt kf) (fun q2 => ?_) (fun q2 => ?_)
  · replace H := H.1 q2
    refine zX_seg (pc' := 38) (L' := [.ref l0, .int l1, .int l2, .int l3]) (st' := [.int l2]) (h2 := h) rfl rfl (fun C Cr hc kk => x_iload_n C rfl dX9_tally_37 (kk)) ?_
    refine zX_br (p1 := 41) (p2 := 54) (st' := []) (l2 = 0) (fun C kt kf => x_if_ne C 54 dX9_tally_38 (by decide) kf kt) (fun q3 => ?_) (fun q3 => ?_)
    · replace H := H.1 q3
      refine zX_seg (pc' := 46) (L' := [.ref l0, .int l1, .int l2, .int l3]) (st' := [.int (-1 : Int32), .int (gI h l0 4)]) (h2 := h) rfl rfl (fun C Cr hc kk => x_aload_n C (v := .ref l0) rfl rfl dX9_tally_41 (f_getI C lX9_24 g1 rfl dX9_tally_42 (x_iconst C (-1 : Int32) (by decide) dX9_tally_45 (kk)))) ?_
      refine zX_br (p1 := 49) (p2 := 54) (st' := []) ((gI h l0 4) = (-1 : Int32)) (fun C kt kf => x_icmp_ne C 54 dX9_tally_46 (by decide) kf kt) (fun q4 => ?_) (fun q4 => ?_)
      · replace H := H.1 q4
        refine zX_seg (pc' := 54) (L' := [.ref l0, .int l1, .int l2, .int l3]) (st' := []) (h2 := (pF h l0 4 (.int l1))) rfl rfl (fun C Cr hc kk => x_aload_n C (v := .ref l0) rfl rfl dX9_tally_49 (x_iload_n C rfl dX9_tally_50 (f_putI C lX9_24 tX9 nX9_4 g1 rfl rfl dX9_tally_51 (kk)))) ?_
        obtain ⟨h5, eh5⟩ : ∃ y : zH, y = (pF h l0 4 (.int l1)) := ⟨_, rfl⟩
        replace H := H h5 eh5
        rw [← eh5]
        have g6 : oK h5 l0 9 := by rw [eh5]; exact oK_pF' g1 rfl rfl g1
        exact zX_wk (wkK (wkD (wkK (wkD wkN)))) H
      · replace H := H.2 q4
        exact zX_wk (wkK (wkD (wkK (wkD wkN)))) H
    · replace H := H.2 q3
      exact zX_wk (wkK (wkD (wkK (wkD wkN)))) H
  · replace H := H.2 q2
    refine zX_seg (pc' := 18) (L' := [.ref l0, .int l1, .int l2, .int l3]) (st' := [.int l3, .int l1, .ref l0, .int l2]) (h2 := h) rfl rfl (fun C Cr hc kk => x_iload_n C rfl dX9_tally_14 (x_aload_n C (v := .ref l0) rfl rfl dX9_tally_15 (x_iload_n C rfl dX9_tally_16 (x_iload_n C rfl dX9_tally_17 (kk))))) ?_
    refine zX_call (as := [.ref l0, .int l1, .int l3]) (st := [.int l2]) (fun C hM hc kk => f_callV C [.int l1, .int l3] hM kX9_agrees vX9_agrees lX9_38 ⟨by decide, by decide⟩ (rfl : vwCl[9]? = some (RX9, TX9, 6)) g1 rfl hc (Nat.le_of_ble_eq_true rfl) rfl dX9_tally_18 kk) (zC.mono H ?_)
    rintro r0 h7 ⟨x8, rfl, H⟩
    show zX mX9_tally 21 [.ref l0, .int l1, .int l2, .int l3] [.int x8, .int l2] h7 Q
    refine zX_br (p1 := 28) (p2 := 24) (st' := [.int l2]) (x8 = 0) (fun C kt kf => x_if_eq C 28 dX9_tally_21 (by decide) kt kf) (fun q9 => ?_) (fun q9 => ?_)
    · replace H := H.1 q9
      refine zX_seg (pc' := 4) (L' := [.ref l0, .int l1, .int (l2 + (0 : Int32)), .int (l3 + 1)]) (st' := []) (h2 := h7) rfl rfl (fun C Cr hc kk => x_iconst C (0 : Int32) (by decide) dX9_tally_28 (x_iadd C dX9_tally_29 (x_istore_n C (by decide) dX9_tally_30 (x_iinc C (l3 + 1) rfl (congrArg (HAdd.hAdd _) (by decide)) (by decide) dX9_tally_31 (x_goto C 4 dX9_tally_34 (by decide) (kk)))))) ?_
      exact zX_wk (wkK (wkK (wkK (wkK wkN)))) H
    · replace H := H.2 q9
      refine zX_seg (pc' := 4) (L' := [.ref l0, .int l1, .int (l2 + (1 : Int32)), .int (l3 + 1)]) (st' := []) (h2 := h7) rfl rfl (fun C Cr hc kk => x_iconst C (1 : Int32) (by decide) dX9_tally_24 (x_goto C 29 dX9_tally_25 (by decide) (x_iadd C dX9_tally_29 (x_istore_n C (by decide) dX9_tally_30 (x_iinc C (l3 + 1) rfl (congrArg (HAdd.hAdd _) (by decide)) (by decide) dX9_tally_31 (x_goto C 4 dX9_tally_34 (by decide) (kk))))))) ?_
      exact zX_wk (wkK (wkK (wkK (wkK wkN)))) H
set_option maxHeartbeats 20000000 in
theorem bX9_tally_54 (l0 : Nat) (l2 : Int32) (h : zH) (Q : Option Value → zH → Prop) (H : oK h l0 9 ∧ (∀ h2 : zH, h2 = (pF h l0 2 (.int ((gI h l0 2) + (1 : Int32)))) → ((l2 = 0 → (∀ h5 : zH, h5 = (pF h2 l0 3 (.int ((gI h2 l0 3) + (1 : Int32)))) → (∀ h7 : zH, h7 = (pF h5 l0 5 (.int (if (gI h5 l0 5) < l2 then l2 else (gI h5 l0 5)))) → (Q none h7)))) ∧ (¬ (l2 = 0) → (∀ h9 : zH, h9 = (pF h2 l0 3 (.int ((gI h2 l0 3) + (0 : Int32)))) → (∀ h11 : zH, h11 = (pF h9 l0 5 (.int (if (gI h9 l0 5) < l2 then l2 else (gI h9 l0 5)))) → (Q none h11))))))) : zX mX9_tally 54 [.ref l0, .float 0, .int l2, .float 0] [] h Q := by
  obtain ⟨g1, H⟩ := H
  refine zX_seg (pc' := 64) (L' := [.ref l0, .float 0, .int l2, .float 0]) (st' := []) (h2 := (pF h l0 2 (.int ((gI h l0 2) + (1 : Int32))))) rfl rfl (fun C Cr hc kk => x_aload_n C (v := .ref l0) rfl rfl dX9_tally_54 (x_dup C rfl dX9_tally_55 (f_getI C lX9_18 g1 rfl dX9_tally_56 (x_iconst C (1 : Int32) (by decide) dX9_tally_59 (x_iadd C dX9_tally_60 (f_putI C lX9_18 tX9 nX9_2 g1 rfl rfl dX9_tally_61 (kk))))))) ?_
  obtain ⟨h2, eh2⟩ : ∃ y : zH, y = (pF h l0 2 (.int ((gI h l0 2) + (1 : Int32)))) := ⟨_, rfl⟩
  replace H := H h2 eh2
  rw [← eh2]
  have g3 : oK h2 l0 9 := by rw [eh2]; exact oK_pF' g1 rfl rfl g1
  refine zX_seg (pc' := 70) (L' := [.ref l0, .float 0, .int l2, .float 0]) (st' := [.int l2, .int (gI h2 l0 3), .ref l0]) (h2 := h2) rfl rfl (fun C Cr hc kk => x_aload_n C (v := .ref l0) rfl rfl dX9_tally_64 (x_dup C rfl dX9_tally_65 (f_getI C lX9_21 g3 rfl dX9_tally_66 (x_iload_n C rfl dX9_tally_69 (kk))))) ?_
  refine zX_br (p1 := 73) (p2 := 77) (st' := [.int (gI h2 l0 3), .ref l0]) (l2 = 0) (fun C kt kf => x_if_ne C 77 dX9_tally_70 (by decide) kf kt) (fun q4 => ?_) (fun q4 => ?_)
  · replace H := H.1 q4
    refine zX_seg (pc' := 82) (L' := [.ref l0, .float 0, .int l2, .float 0]) (st' := []) (h2 := (pF h2 l0 3 (.int ((gI h2 l0 3) + (1 : Int32))))) rfl rfl (fun C Cr hc kk => x_iconst C (1 : Int32) (by decide) dX9_tally_73 (x_goto C 78 dX9_tally_74 (by decide) (x_iadd C dX9_tally_78 (f_putI C lX9_21 tX9 nX9_3 g3 rfl rfl dX9_tally_79 (kk))))) ?_
    obtain ⟨h5, eh5⟩ : ∃ y : zH, y = (pF h2 l0 3 (.int ((gI h2 l0 3) + (1 : Int32)))) := ⟨_, rfl⟩
    replace H := H h5 eh5
    rw [← eh5]
    have g6 : oK h5 l0 9 := by rw [eh5]; exact oK_pF' g3 rfl rfl g3
    refine zX_seg (pc' := 94) (L' := [.ref l0, .float 0, .int l2, .float 0]) (st' := []) (h2 := (pF h5 l0 5 (.int (if (gI h5 l0 5) < l2 then l2 else (gI h5 l0 5))))) rfl rfl (fun C Cr hc kk => x_aload_n C (v := .ref l0) rfl rfl dX9_tally_82 (x_aload_n C (v := .ref l0) rfl rfl dX9_tally_83 (f_getI C lX9_27 g6 rfl dX9_tally_84 (x_iload_n C rfl dX9_tally_87 (f_mmax C lX9_41 mm_max_s mm_i mm_max_c ⟨by decide, by decide⟩ hc (Nat.le_of_ble_eq_true rfl) dX9_tally_88 (f_putI C lX9_27 tX9 nX9_5 g6 rfl rfl dX9_tally_91 (kk))))))) ?_
    obtain ⟨h7, eh7⟩ : ∃ y : zH, y = (pF h5 l0 5 (.int (if (gI h5 l0 5) < l2 then l2 else (gI h5 l0 5)))) := ⟨_, rfl⟩
    replace H := H h7 eh7
    rw [← eh7]
    have g8 : oK h7 l0 9 := by rw [eh7]; exact oK_pF' g6 rfl rfl g6
    exact zX_ret none (fun C Cr hc => x_ret C Cr rfl hc dX9_tally_94 ⟨rfl, rfl⟩) H
  · replace H := H.2 q4
    refine zX_seg (pc' := 82) (L' := [.ref l0, .float 0, .int l2, .float 0]) (st' := []) (h2 := (pF h2 l0 3 (.int ((gI h2 l0 3) + (0 : Int32))))) rfl rfl (fun C Cr hc kk => x_iconst C (0 : Int32) (by decide) dX9_tally_77 (x_iadd C dX9_tally_78 (f_putI C lX9_21 tX9 nX9_3 g3 rfl rfl dX9_tally_79 (kk)))) ?_
    obtain ⟨h9, eh9⟩ : ∃ y : zH, y = (pF h2 l0 3 (.int ((gI h2 l0 3) + (0 : Int32)))) := ⟨_, rfl⟩
    replace H := H h9 eh9
    rw [← eh9]
    have g10 : oK h9 l0 9 := by rw [eh9]; exact oK_pF' g3 rfl rfl g3
    refine zX_seg (pc' := 94) (L' := [.ref l0, .float 0, .int l2, .float 0]) (st' := []) (h2 := (pF h9 l0 5 (.int (if (gI h9 l0 5) < l2 then l2 else (gI h9 l0 5))))) rfl rfl (fun C Cr hc kk => x_aload_n C (v := .ref l0) rfl rfl dX9_tally_82 (x_aload_n C (v := .ref l0) rfl rfl dX9_tally_83 (f_getI C lX9_27 g10 rfl dX9_tally_84 (x_iload_n C rfl dX9_tally_87 (f_mmax C lX9_41 mm_max_s mm_i mm_max_c ⟨by decide, by decide⟩ hc (Nat.le_of_ble_eq_true rfl) dX9_tally_88 (f_putI C lX9_27 tX9 nX9_5 g10 rfl rfl dX9_tally_91 (kk))))))) ?_
    obtain ⟨h11, eh11⟩ : ∃ y : zH, y = (pF h9 l0 5 (.int (if (gI h9 l0 5) < l2 then l2 else (gI h9 l0 5)))) := ⟨_, rfl⟩
    replace H := H h11 eh11
    rw [← eh11]
    have g12 : oK h11 l0 9 := by rw [eh11]; exact oK_pF' g10 rfl rfl g10
    exact zX_ret none (fun C Cr hc => x_ret C Cr rfl hc dX9_tally_94 ⟨rfl, rfl⟩) H
theorem nX9_tally (t : Nat) (p0 : Int32) (h : zH) (Q : Option Value → zH → Prop) (H : zX mX9_tally 0 [.ref t, .int p0, .float 0, .float 0] [] h Q) : zC mX9_tally [.ref t, .int p0] h Q := zC_of (by decide +kernel) (by simp) (Nat.le_of_ble_eq_true rfl) H
set_option maxHeartbeats 20000000 in
theorem bX9_rowOf_0 (t : Nat) (p0 : Int32) (p1 : Int32) (h : zH) (Q : Option Value → zH → Prop) (H : oK h t 9 ∧ (Q (some (.int ((p0 >>> (((gI h t 1) * (((gI h t 0) - (1 : Int32)) - p1)) &&& 31)) &&& (((1 : Int32) <<< ((gI h t 1) &&& 31)) - (1 : Int32))))) h)) : zX mX9_rowOf 0 [.ref t, .int p0, .int p1] [] h Q := by
  obtain ⟨g1, H⟩ := H
  refine zX_seg (pc' := 24) (L' := [.ref t, .int p0, .int p1]) (st' := [.int ((p0 >>> (((gI h t 1) * (((gI h t 0) - (1 : Int32)) - p1)) &&& 31)) &&& (((1 : Int32) <<< ((gI h t 1) &&& 31)) - (1 : Int32)))]) (h2 := h) rfl rfl (fun C Cr hc kk => x_iload_n C rfl dX9_rowOf_0 (x_aload_n C (v := .ref t) rfl rfl dX9_rowOf_1 (f_getI C lX9_15 g1 rfl dX9_rowOf_2 (x_aload_n C (v := .ref t) rfl rfl dX9_rowOf_5 (f_getI C lX9_9 g1 rfl dX9_rowOf_6 (x_iconst C (1 : Int32) (by decide) dX9_rowOf_9 (x_isub C dX9_rowOf_10 (x_iload_n C rfl dX9_rowOf_11 (x_isub C dX9_rowOf_12 (x_imul C dX9_rowOf_13 (x_ishr C dX9_rowOf_14 (x_iconst C (1 : Int32) (by decide) dX9_rowOf_15 (x_aload_n C (v := .ref t) rfl rfl dX9_rowOf_16 (f_getI C lX9_15 g1 rfl dX9_rowOf_17 (x_ishl C dX9_rowOf_20 (x_iconst C (1 : Int32) (by decide) dX9_rowOf_21 (x_isub C dX9_rowOf_22 (x_iand C dX9_rowOf_23 (kk))))))))))))))))))) ?_
  exact zX_ret (some (.int ((p0 >>> (((gI h t 1) * (((gI h t 0) - (1 : Int32)) - p1)) &&& 31)) &&& (((1 : Int32) <<< ((gI h t 1) &&& 31)) - (1 : Int32))))) (fun C Cr hc => x_iret C Cr rfl rfl hc dX9_rowOf_24 ⟨rfl, rfl⟩) H
theorem nX9_rowOf (t : Nat) (p0 : Int32) (p1 : Int32) (h : zH) (Q : Option Value → zH → Prop) (H : zX mX9_rowOf 0 [.ref t, .int p0, .int p1] [] h Q) : zC mX9_rowOf [.ref t, .int p0, .int p1] h Q := zC_of (by decide +kernel) (by simp) (Nat.le_of_ble_eq_true rfl) H
set_option maxHeartbeats 20000000 in
theorem bX9_agrees_0 (t : Nat) (p0 : Int32) (p1 : Int32) (h : zH) (Q : Option Value → zH → Prop) (H : zX mX9_agrees 2 [.ref t, .int p0, .int p1, .int (0 : Int32), .float 0, .float 0] [] h Q) : zX mX9_agrees 0 [.ref t, .int p0, .int p1, .float 0, .float 0, .float 0] [] h Q := by
  refine zX_seg (pc' := 2) (L' := [.ref t, .int p0, .int p1, .int (0 : Int32), .float 0, .float 0]) (st' := []) (h2 := h) rfl rfl (fun C Cr hc kk => x_iconst C (0 : Int32) (by decide) dX9_agrees_0 (x_istore_n C (by decide) dX9_agrees_1 (kk))) ?_
  exact zX_wk (wkK (wkK (wkK (wkK (wkD (wkD wkN)))))) H
set_option maxHeartbeats 20000000 in
theorem bX9_agrees_2 (l0 : Nat) (l1 : Int32) (l2 : Int32) (l3 : Int32) (h : zH) (Q : Option Value → zH → Prop) (H : oK h l0 9 ∧ (((gI h l0 0) ≤ l3 → (Q (some (.int (1 : Int32))) h)) ∧ (¬ ((gI h l0 0) ≤ l3) → (zC mX9_rowOf [.ref l0, .int l1, .int l3] h (fun r0 h3 => ∃ x4 : Int32, r0 = some (.int x4) ∧ ((((x4 >>> (((l2 &&& (((1 : Int32) <<< (l3 &&& 31)) - (1 : Int32))) ||| ((l2 >>> ((l3 + (1 : Int32)) &&& 31)) <<< (l3 &&& 31))) &&& 31)) &&& (1 : Int32)) = ((l2 >>> (l3 &&& 31)) &&& (1 : Int32)) → (zX mX9_agrees 2 [.ref l0, .int l1, .int l2, .int (l3 + 1), .float 0, .float 0] [] h3 Q)) ∧ (¬ (((x4 >>> (((l2 &&& (((1 : Int32) <<< (l3 &&& 31)) - (1 : Int32))) ||| ((l2 >>> ((l3 + (1 : Int32)) &&& 31)) <<< (l3 &&& 31))) &&& 31)) &&& (1 : Int32)) = ((l2 >>> (l3 &&& 31)) &&& (1 : Int32))) → (Q (some (.int (0 : Int32))) h3)))))))) : zX mX9_agrees 2 [.ref l0, .int l1, .int l2, .int l3, .float 0, .float 0] [] h Q := by
  obtain ⟨g1, H⟩ := H
  refine zX_seg (pc' := 7) (L' := [.ref l0, .int l1, .int l2, .int l3, .float 0, .float 0]) (st' := [.int (gI h l0 0), .int l3]) (h2 := h) rfl rfl (fun C Cr hc kk => x_iload_n C rfl dX9_agrees_2 (x_aload_n C (v := .ref l0) rfl rfl dX9_agrees_3 (f_getI C lX9_9 g1 rfl dX9_agrees_4 (kk)))) ?_
  refine zX_br (p1 := 58) (p2 := 10) (st' := []) ((gI h l0 0) ≤ l3) (fun C kt kf => x_icmp_ge C 58 dX9_agrees_7 (by decide) kt kf) (fun q2 => ?_) (fun q2 => ?_)
  · replace H := H.1 q2
    refine zX_seg (pc' := 59) (L' := [.ref l0, .int l1, .int l2, .int l3, .float 0, .float 0]) (st' := [.int (1 : Int32)]) (h2 := h) rfl rfl (fun C Cr hc kk => x_iconst C (1 : Int32) (by decide) dX9_agrees_58 (kk)) ?_
    exact zX_ret (some (.int (1 : Int32))) (fun C Cr hc => x_iret C Cr rfl rfl hc dX9_agrees_59 ⟨rfl, rfl⟩) H
  · replace H := H.2 q2
    refine zX_seg (pc' := 31) (L' := [.ref l0, .int l1, .int l2, .int l3, .int (l2 &&& (((1 : Int32) <<< (l3 &&& 31)) - (1 : Int32))), .int ((l2 >>> ((l3 + (1 : Int32)) &&& 31)) <<< (l3 &&& 31))]) (st' := [.int l3, .int l1, .ref l0]) (h2 := h) rfl rfl (fun C Cr hc kk => x_iload_n C rfl dX9_agrees_10 (x_iconst C (1 : Int32) (by decide) dX9_agrees_11 (x_iload_n C rfl dX9_agrees_12 (x_ishl C dX9_agrees_13 (x_iconst C (1 : Int32) (by decide) dX9_agrees_14 (x_isub C dX9_agrees_15 (x_iand C dX9_agrees_16 (x_istore C (by decide) dX9_agrees_17 (x_iload_n C rfl dX9_agrees_19 (x_iload_n C rfl dX9_agrees_20 (x_iconst C (1 : Int32) (by decide) dX9_agrees_21 (x_iadd C dX9_agrees_22 (x_ishr C dX9_agrees_23 (x_iload_n C rfl dX9_agrees_24 (x_ishl C dX9_agrees_25 (x_istore C (by decide) dX9_agrees_26 (x_aload_n C (v := .ref l0) rfl rfl dX9_agrees_28 (x_iload_n C rfl dX9_agrees_29 (x_iload_n C rfl dX9_agrees_30 (kk)))))))))))))))))))) ?_
    refine zX_call (as := [.ref l0, .int l1, .int l3]) (st := []) (fun C hM hc kk => f_callV C [.int l1, .int l3] hM kX9_rowOf vX9_rowOf lX9_47 ⟨by decide, by decide⟩ (rfl : vwCl[9]? = some (RX9, TX9, 6)) g1 rfl hc (Nat.le_of_ble_eq_true rfl) rfl dX9_agrees_31 kk) (zC.mono H ?_)
    rintro r0 h3 ⟨x4, rfl, H⟩
    show zX mX9_agrees 34 [.ref l0, .int l1, .int l2, .int l3, .int (l2 &&& (((1 : Int32) <<< (l3 &&& 31)) - (1 : Int32))), .int ((l2 >>> ((l3 + (1 : Int32)) &&& 31)) <<< (l3 &&& 31))] [.int x4] h3 Q
    refine zX_seg (pc' := 47) (L' := [.ref l0, .int l1, .int l2, .int l3, .int (l2 &&& (((1 : Int32) <<< (l3 &&& 31)) - (1 : Int32))), .int ((l2 >>> ((l3 + (1 : Int32)) &&& 31)) <<< (l3 &&& 31))]) (st' := [.int ((l2 >>> (l3 &&& 31)) &&& (1 : Int32)), .int ((x4 >>> (((l2 &&& (((1 : Int32) <<< (l3 &&& 31)) - (1 : Int32))) ||| ((l2 >>> ((l3 + (1 : Int32)) &&& 31)) <<< (l3 &&& 31))) &&& 31)) &&& (1 : Int32))]) (h2 := h3) rfl rfl (fun C Cr hc kk => x_iload C rfl dX9_agrees_34 (x_iload C rfl dX9_agrees_36 (x_ior C dX9_agrees_38 (x_ishr C dX9_agrees_39 (x_iconst C (1 : Int32) (by decide) dX9_agrees_40 (x_iand C dX9_agrees_41 (x_iload_n C rfl dX9_agrees_42 (x_iload_n C rfl dX9_agrees_43 (x_ishr C dX9_agrees_44 (x_iconst C (1 : Int32) (by decide) dX9_agrees_45 (x_iand C dX9_agrees_46 (kk)))))))))))) ?_
    refine zX_br (p1 := 52) (p2 := 50) (st' := []) (((x4 >>> (((l2 &&& (((1 : Int32) <<< (l3 &&& 31)) - (1 : Int32))) ||| ((l2 >>> ((l3 + (1 : Int32)) &&& 31)) <<< (l3 &&& 31))) &&& 31)) &&& (1 : Int32)) = ((l2 >>> (l3 &&& 31)) &&& (1 : Int32))) (fun C kt kf => x_icmp_eq C 52 dX9_agrees_47 (by decide) kt kf) (fun q5 => ?_) (fun q5 => ?_)
    · replace H := H.1 q5
      refine zX_seg (pc' := 2) (L' := [.ref l0, .int l1, .int l2, .int (l3 + 1), .int (l2 &&& (((1 : Int32) <<< (l3 &&& 31)) - (1 : Int32))), .int ((l2 >>> ((l3 + (1 : Int32)) &&& 31)) <<< (l3 &&& 31))]) (st' := []) (h2 := h3) rfl rfl (fun C Cr hc kk => x_iinc C (l3 + 1) rfl (congrArg (HAdd.hAdd _) (by decide)) (by decide) dX9_agrees_52 (x_goto C 2 dX9_agrees_55 (by decide) (kk))) ?_
      exact zX_wk (wkK (wkK (wkK (wkK (wkD (wkD wkN)))))) H
    · replace H := H.2 q5
      refine zX_seg (pc' := 51) (L' := [.ref l0, .int l1, .int l2, .int l3, .int (l2 &&& (((1 : Int32) <<< (l3 &&& 31)) - (1 : Int32))), .int ((l2 >>> ((l3 + (1 : Int32)) &&& 31)) <<< (l3 &&& 31))]) (st' := [.int (0 : Int32)]) (h2 := h3) rfl rfl (fun C Cr hc kk => x_iconst C (0 : Int32) (by decide) dX9_agrees_50 (kk)) ?_
      exact zX_ret (some (.int (0 : Int32))) (fun C Cr hc => x_iret C Cr rfl rfl hc dX9_agrees_51 ⟨rfl, rfl⟩) H
theorem nX9_agrees (t : Nat) (p0 : Int32) (p1 : Int32) (h : zH) (Q : Option Value → zH → Prop) (H : zX mX9_agrees 0 [.ref t, .int p0, .int p1, .float 0, .float 0, .float 0] [] h Q) : zC mX9_agrees [.ref t, .int p0, .int p1] h Q := zC_of (by decide +kernel) (by simp) (Nat.le_of_ble_eq_true rfl) H
set_option maxHeartbeats 20000000 in
theorem bX9_holdsTo_0 (t : Nat) (p0 : Int32) (p1 : Int32) (h : zH) (Q : Option Value → zH → Prop) (H : zX mX9_holdsTo 2 [.ref t, .int p0, .int p1, .int (0 : Int32), .float 0] [] h Q) : zX mX9_holdsTo 0 [.ref t, .int p0, .int p1, .float 0, .float 0] [] h Q := by
  refine zX_seg (pc' := 2) (L' := [.ref t, .int p0, .int p1, .int (0 : Int32), .float 0]) (st' := []) (h2 := h) rfl rfl (fun C Cr hc kk => x_iconst C (0 : Int32) (by decide) dX9_holdsTo_0 (x_istore_n C (by decide) dX9_holdsTo_1 (kk))) ?_
  exact zX_wk (wkK (wkK (wkK (wkK (wkD wkN))))) H
set_option maxHeartbeats 20000000 in
theorem bX9_holdsTo_2 (l0 : Nat) (l1 : Int32) (l2 : Int32) (l3 : Int32) (h : zH) (Q : Option Value → zH → Prop) (H : oK h l0 9 ∧ (((gI h l0 0) ≤ l3 → (Q (some (.int (1 : Int32))) h)) ∧ (¬ ((gI h l0 0) ≤ l3) → (zC mX9_rowOf [.ref l0, .int l2, .int l3] h (fun r0 h3 => ∃ x4 : Int32, r0 = some (.int x4) ∧ ((l1 = (1 : Int32) → (oK h3 l0 9 ∧ (zC mX9_goesByElders [.ref l0, .int x4, .int l3] h3 (fun r0 h7 => ∃ x8 : Int32, r0 = some (.int x8) ∧ ((x8 = 0 → (Q (some (.int (0 : Int32))) h7)) ∧ (¬ (x8 = 0) → (zX mX9_holdsTo 33 [.ref l0, .int l1, .int l2, .int l3, .int x4] [] h7 Q))))))) ∧ (¬ (l1 = (1 : Int32)) → (zX mX9_holdsTo 33 [.ref l0, .int l1, .int l2, .int l3, .int x4] [] h3 Q)))))))) : zX mX9_holdsTo 2 [.ref l0, .int l1, .int l2, .int l3, .float 0] [] h Q := by
  obtain ⟨g1, H⟩ := H
  refine zX_seg (pc' := 7) (L' := [.ref l0, .int l1, .int l2, .int l3, .float 0]) (st' := [.int (gI h l0 0), .int l3]) (h2 := h) rfl rfl (fun C Cr hc kk => x_iload_n C rfl dX9_holdsTo_2 (x_aload_n C (v := .ref l0) rfl rfl dX9_holdsTo_3 (f_getI C lX9_9 g1 rfl dX9_holdsTo_4 (kk)))) ?_
  refine zX_br (p1 := 55) (p2 := 10) (st' := []) ((gI h l0 0) ≤ l3) (fun C kt kf => x_icmp_ge C 55 dX9_holdsTo_7 (by decide) kt kf) (fun q2 => ?_) (fun q2 => ?_)
  · replace H := H.1 q2
    refine zX_seg (pc' := 56) (L' := [.ref l0, .int l1, .int l2, .int l3, .float 0]) (st' := [.int (1 : Int32)]) (h2 := h) rfl rfl (fun C Cr hc kk => x_iconst C (1 : Int32) (by decide) dX9_holdsTo_55 (kk)) ?_
    exact zX_ret (some (.int (1 : Int32))) (fun C Cr hc => x_iret C Cr rfl rfl hc dX9_holdsTo_56 ⟨rfl, rfl⟩) H
  · replace H := H.2 q2
    refine zX_seg (pc' := 13) (L' := [.ref l0, .int l1, .int l2, .int l3, .float 0]) (st' := [.int l3, .int l2, .ref l0]) (h2 := h) rfl rfl (fun C Cr hc kk => x_aload_n C (v := .ref l0) rfl rfl dX9_holdsTo_10 (x_iload_n C rfl dX9_holdsTo_11 (x_iload_n C rfl dX9_holdsTo_12 (kk)))) ?_
    refine zX_call (as := [.ref l0, .int l2, .int l3]) (st := []) (fun C hM hc kk => f_callV C [.int l2, .int l3] hM kX9_rowOf vX9_rowOf lX9_47 ⟨by decide, by decide⟩ (rfl : vwCl[9]? = some (RX9, TX9, 6)) g1 rfl hc (Nat.le_of_ble_eq_true rfl) rfl dX9_holdsTo_13 kk) (zC.mono H ?_)
    rintro r0 h3 ⟨x4, rfl, H⟩
    show zX mX9_holdsTo 16 [.ref l0, .int l1, .int l2, .int l3, .float 0] [.int x4] h3 Q
    refine zX_seg (pc' := 20) (L' := [.ref l0, .int l1, .int l2, .int l3, .int x4]) (st' := [.int (1 : Int32), .int l1]) (h2 := h3) rfl rfl (fun C Cr hc kk => x_istore C (by decide) dX9_holdsTo_16 (x_iload_n C rfl dX9_holdsTo_18 (x_iconst C (1 : Int32) (by decide) dX9_holdsTo_19 (kk)))) ?_
    refine zX_br (p1 := 23) (p2 := 33) (st' := []) (l1 = (1 : Int32)) (fun C kt kf => x_icmp_ne C 33 dX9_holdsTo_20 (by decide) kf kt) (fun q5 => ?_) (fun q5 => ?_)
    · replace H := H.1 q5
      refine zX_seg (pc' := 27) (L' := [.ref l0, .int l1, .int l2, .int l3, .int x4]) (st' := [.int l3, .int x4, .ref l0]) (h2 := h3) rfl rfl (fun C Cr hc kk => x_aload_n C (v := .ref l0) rfl rfl dX9_holdsTo_23 (x_iload C rfl dX9_holdsTo_24 (x_iload_n C rfl dX9_holdsTo_26 (kk)))) ?_
      obtain ⟨g6, H⟩ := H
      refine zX_call (as := [.ref l0, .int x4, .int l3]) (st := []) (fun C hM hc kk => f_callV C [.int x4, .int l3] hM kX9_goesByElders vX9_goesByElders lX9_50 ⟨by decide, by decide⟩ (rfl : vwCl[9]? = some (RX9, TX9, 6)) g6 rfl hc (Nat.le_of_ble_eq_true rfl) rfl dX9_holdsTo_27 kk) (zC.mono H ?_)
      rintro r0 h7 ⟨x8, rfl, H⟩
      show zX mX9_holdsTo 30 [.ref l0, .int l1, .int l2, .int l3, .int x4] [.int x8] h7 Q
      refine zX_br (p1 := 47) (p2 := 33) (st' := []) (x8 = 0) (fun C kt kf => x_if_eq C 47 dX9_holdsTo_30 (by decide) kt kf) (fun q9 => ?_) (fun q9 => ?_)
      · replace H := H.1 q9
        refine zX_seg (pc' := 48) (L' := [.ref l0, .int l1, .int l2, .int l3, .int x4]) (st' := [.int (0 : Int32)]) (h2 := h7) rfl rfl (fun C Cr hc kk => x_iconst C (0 : Int32) (by decide) dX9_holdsTo_47 (kk)) ?_
        exact zX_ret (some (.int (0 : Int32))) (fun C Cr hc => x_iret C Cr rfl rfl hc dX9_holdsTo_48 ⟨rfl, rfl⟩) H
      · replace H := H.2 q9
        exact zX_wk (wkK (wkK (wkK (wkK (wkK wkN))))) H
    · replace H := H.2 q5
      exact zX_wk (wkK (wkK (wkK (wkK (wkK wkN))))) H
set_option maxHeartbeats 20000000 in
theorem bX9_holdsTo_33 (l0 : Nat) (l1 : Int32) (l2 : Int32) (l3 : Int32) (l4 : Int32) (h : zH) (Q : Option Value → zH → Prop) (H : (l1 = (2 : Int32) → (oK h l0 9 ∧ (zC mX9_grows [.ref l0, .int l4] h (fun r0 h3 => ∃ x4 : Int32, r0 = some (.int x4) ∧ ((x4 = 0 → (Q (some (.int (0 : Int32))) h3)) ∧ (¬ (x4 = 0) → (zX mX9_holdsTo 2 [.ref l0, .int l1, .int l2, .int (l3 + 1), .float 0] [] h3 Q))))))) ∧ (¬ (l1 = (2 : Int32)) → (zX mX9_holdsTo 2 [.ref l0, .int l1, .int l2, .int (l3 + 1), .float 0] [] h Q))) : zX mX9_holdsTo 33 [.ref l0, .int l1, .int l2, .int l3, .int l4] [] h Q := by
  refine zX_seg (pc' := 35) (L' := [.ref l0, .int l1, .int l2, .int l3, .int l4]) (st' := [.int (2 : Int32), .int l1]) (h2 := h) rfl rfl (fun C Cr hc kk => x_iload_n C rfl dX9_holdsTo_33 (x_iconst C (2 : Int32) (by decide) dX9_holdsTo_34 (kk))) ?_
  refine zX_br (p1 := 38) (p2 := 49) (st' := []) (l1 = (2 : Int32)) (fun C kt kf => x_icmp_ne C 49 dX9_holdsTo_35 (by decide) kf kt) (fun q1 => ?_) (fun q1 => ?_)
  · replace H := H.1 q1
    refine zX_seg (pc' := 41) (L' := [.ref l0, .int l1, .int l2, .int l3, .int l4]) (st' := [.int l4, .ref l0]) (h2 := h) rfl rfl (fun C Cr hc kk => x_aload_n C (v := .ref l0) rfl rfl dX9_holdsTo_38 (x_iload C rfl dX9_holdsTo_39 (kk))) ?_
    obtain ⟨g2, H⟩ := H
    refine zX_call (as := [.ref l0, .int l4]) (st := []) (fun C hM hc kk => f_callV C [.int l4] hM kX9_grows vX9_grows lX9_53 ⟨by decide, by decide⟩ (rfl : vwCl[9]? = some (RX9, TX9, 6)) g2 rfl hc (Nat.le_of_ble_eq_true rfl) rfl dX9_holdsTo_41 kk) (zC.mono H ?_)
    rintro r0 h3 ⟨x4, rfl, H⟩
    show zX mX9_holdsTo 44 [.ref l0, .int l1, .int l2, .int l3, .int l4] [.int x4] h3 Q
    refine zX_br (p1 := 47) (p2 := 49) (st' := []) (x4 = 0) (fun C kt kf => x_if_ne C 49 dX9_holdsTo_44 (by decide) kf kt) (fun q5 => ?_) (fun q5 => ?_)
    · replace H := H.1 q5
      refine zX_seg (pc' := 48) (L' := [.ref l0, .int l1, .int l2, .int l3, .int l4]) (st' := [.int (0 : Int32)]) (h2 := h3) rfl rfl (fun C Cr hc kk => x_iconst C (0 : Int32) (by decide) dX9_holdsTo_47 (kk)) ?_
      exact zX_ret (some (.int (0 : Int32))) (fun C Cr hc => x_iret C Cr rfl rfl hc dX9_holdsTo_48 ⟨rfl, rfl⟩) H
    · replace H := H.2 q5
      refine zX_seg (pc' := 2) (L' := [.ref l0, .int l1, .int l2, .int (l3 + 1), .int l4]) (st' := []) (h2 := h3) rfl rfl (fun C Cr hc kk => x_iinc C (l3 + 1) rfl (congrArg (HAdd.hAdd _) (by decide)) (by decide) dX9_holdsTo_49 (x_goto C 2 dX9_holdsTo_52 (by decide) (kk))) ?_
      exact zX_wk (wkK (wkK (wkK (wkK (wkD wkN))))) H
  · replace H := H.2 q1
    refine zX_seg (pc' := 2) (L' := [.ref l0, .int l1, .int l2, .int (l3 + 1), .int l4]) (st' := []) (h2 := h) rfl rfl (fun C Cr hc kk => x_iinc C (l3 + 1) rfl (congrArg (HAdd.hAdd _) (by decide)) (by decide) dX9_holdsTo_49 (x_goto C 2 dX9_holdsTo_52 (by decide) (kk))) ?_
    exact zX_wk (wkK (wkK (wkK (wkK (wkD wkN))))) H
theorem nX9_holdsTo (t : Nat) (p0 : Int32) (p1 : Int32) (h : zH) (Q : Option Value → zH → Prop) (H : zX mX9_holdsTo 0 [.ref t, .int p0, .int p1, .float 0, .float 0] [] h Q) : zC mX9_holdsTo [.ref t, .int p0, .int p1] h Q := zC_of (by decide +kernel) (by simp) (Nat.le_of_ble_eq_true rfl) H
set_option maxHeartbeats 20000000 in
theorem bX9_goesByElders_0 (t : Nat) (p0 : Int32) (p1 : Int32) (h : zH) (Q : Option Value → zH → Prop) (H : zX mX9_goesByElders 2 [.ref t, .int p0, .int p1, .int (0 : Int32), .float 0] [] h Q) : zX mX9_goesByElders 0 [.ref t, .int p0, .int p1, .float 0, .float 0] [] h Q := by
  refine zX_seg (pc' := 2) (L' := [.ref t, .int p0, .int p1, .int (0 : Int32), .float 0]) (st' := []) (h2 := h) rfl rfl (fun C Cr hc kk => x_iconst C (0 : Int32) (by decide) dX9_goesByElders_0 (x_istore_n C (by decide) dX9_goesByElders_1 (kk))) ?_
  exact zX_wk (wkK (wkK (wkK (wkK (wkD wkN))))) H
set_option maxHeartbeats 20000000 in
theorem bX9_goesByElders_2 (l0 : Nat) (l1 : Int32) (l2 : Int32) (l3 : Int32) (h : zH) (Q : Option Value → zH → Prop) (H : oK h l0 9 ∧ (((gI h l0 1) ≤ l3 → (Q (some (.int (1 : Int32))) h)) ∧ (¬ ((gI h l0 1) ≤ l3) → ((((l1 >>> (l3 &&& 31)) &&& (1 : Int32)) = ((l1 >>> ((l3 &&& (((1 : Int32) <<< (l2 &&& 31)) - (1 : Int32))) &&& 31)) &&& (1 : Int32)) → (zX mX9_goesByElders 2 [.ref l0, .int l1, .int l2, .int (l3 + 1), .float 0] [] h Q)) ∧ (¬ (((l1 >>> (l3 &&& 31)) &&& (1 : Int32)) = ((l1 >>> ((l3 &&& (((1 : Int32) <<< (l2 &&& 31)) - (1 : Int32))) &&& 31)) &&& (1 : Int32))) → (Q (some (.int (0 : Int32))) h)))))) : zX mX9_goesByElders 2 [.ref l0, .int l1, .int l2, .int l3, .float 0] [] h Q := by
  obtain ⟨g1, H⟩ := H
  refine zX_seg (pc' := 7) (L' := [.ref l0, .int l1, .int l2, .int l3, .float 0]) (st' := [.int (gI h l0 1), .int l3]) (h2 := h) rfl rfl (fun C Cr hc kk => x_iload_n C rfl dX9_goesByElders_2 (x_aload_n C (v := .ref l0) rfl rfl dX9_goesByElders_3 (f_getI C lX9_15 g1 rfl dX9_goesByElders_4 (kk)))) ?_
  refine zX_br (p1 := 41) (p2 := 10) (st' := []) ((gI h l0 1) ≤ l3) (fun C kt kf => x_icmp_ge C 41 dX9_goesByElders_7 (by decide) kt kf) (fun q2 => ?_) (fun q2 => ?_)
  · replace H := H.1 q2
    refine zX_seg (pc' := 42) (L' := [.ref l0, .int l1, .int l2, .int l3, .float 0]) (st' := [.int (1 : Int32)]) (h2 := h) rfl rfl (fun C Cr hc kk => x_iconst C (1 : Int32) (by decide) dX9_goesByElders_41 (kk)) ?_
    exact zX_ret (some (.int (1 : Int32))) (fun C Cr hc => x_iret C Cr rfl rfl hc dX9_goesByElders_42 ⟨rfl, rfl⟩) H
  · replace H := H.2 q2
    refine zX_seg (pc' := 30) (L' := [.ref l0, .int l1, .int l2, .int l3, .int (l3 &&& (((1 : Int32) <<< (l2 &&& 31)) - (1 : Int32)))]) (st' := [.int ((l1 >>> ((l3 &&& (((1 : Int32) <<< (l2 &&& 31)) - (1 : Int32))) &&& 31)) &&& (1 : Int32)), .int ((l1 >>> (l3 &&& 31)) &&& (1 : Int32))]) (h2 := h) rfl rfl (fun C Cr hc kk => x_iload_n C rfl dX9_goesByElders_10 (x_iconst C (1 : Int32) (by decide) dX9_goesByElders_11 (x_iload_n C rfl dX9_goesByElders_12 (x_ishl C dX9_goesByElders_13 (x_iconst C (1 : Int32) (by decide) dX9_goesByElders_14 (x_isub C dX9_goesByElders_15 (x_iand C dX9_goesByElders_16 (x_istore C (by decide) dX9_goesByElders_17 (x_iload_n C rfl dX9_goesByElders_19 (x_iload_n C rfl dX9_goesByElders_20 (x_ishr C dX9_goesByElders_21 (x_iconst C (1 : Int32) (by decide) dX9_goesByElders_22 (x_iand C dX9_goesByElders_23 (x_iload_n C rfl dX9_goesByElders_24 (x_iload C rfl dX9_goesByElders_25 (x_ishr C dX9_goesByElders_27 (x_iconst C (1 : Int32) (by decide) dX9_goesByElders_28 (x_iand C dX9_goesByElders_29 (kk))))))))))))))))))) ?_
    refine zX_br (p1 := 35) (p2 := 33) (st' := []) (((l1 >>> (l3 &&& 31)) &&& (1 : Int32)) = ((l1 >>> ((l3 &&& (((1 : Int32) <<< (l2 &&& 31)) - (1 : Int32))) &&& 31)) &&& (1 : Int32))) (fun C kt kf => x_icmp_eq C 35 dX9_goesByElders_30 (by decide) kt kf) (fun q3 => ?_) (fun q3 => ?_)
    · replace H := H.1 q3
      refine zX_seg (pc' := 2) (L' := [.ref l0, .int l1, .int l2, .int (l3 + 1), .int (l3 &&& (((1 : Int32) <<< (l2 &&& 31)) - (1 : Int32)))]) (st' := []) (h2 := h) rfl rfl (fun C Cr hc kk => x_iinc C (l3 + 1) rfl (congrArg (HAdd.hAdd _) (by decide)) (by decide) dX9_goesByElders_35 (x_goto C 2 dX9_goesByElders_38 (by decide) (kk))) ?_
      exact zX_wk (wkK (wkK (wkK (wkK (wkD wkN))))) H
    · replace H := H.2 q3
      refine zX_seg (pc' := 34) (L' := [.ref l0, .int l1, .int l2, .int l3, .int (l3 &&& (((1 : Int32) <<< (l2 &&& 31)) - (1 : Int32)))]) (st' := [.int (0 : Int32)]) (h2 := h) rfl rfl (fun C Cr hc kk => x_iconst C (0 : Int32) (by decide) dX9_goesByElders_33 (kk)) ?_
      exact zX_ret (some (.int (0 : Int32))) (fun C Cr hc => x_iret C Cr rfl rfl hc dX9_goesByElders_34 ⟨rfl, rfl⟩) H
theorem nX9_goesByElders (t : Nat) (p0 : Int32) (p1 : Int32) (h : zH) (Q : Option Value → zH → Prop) (H : zX mX9_goesByElders 0 [.ref t, .int p0, .int p1, .float 0, .float 0] [] h Q) : zC mX9_goesByElders [.ref t, .int p0, .int p1] h Q := zC_of (by decide +kernel) (by simp) (Nat.le_of_ble_eq_true rfl) H
set_option maxHeartbeats 20000000 in
theorem bX9_grows_0 (t : Nat) (p0 : Int32) (h : zH) (Q : Option Value → zH → Prop) (H : zX mX9_grows 2 [.ref t, .int p0, .int (0 : Int32), .float 0] [] h Q) : zX mX9_grows 0 [.ref t, .int p0, .float 0, .float 0] [] h Q := by
  refine zX_seg (pc' := 2) (L' := [.ref t, .int p0, .int (0 : Int32), .float 0]) (st' := []) (h2 := h) rfl rfl (fun C Cr hc kk => x_iconst C (0 : Int32) (by decide) dX9_grows_0 (x_istore_n C (by decide) dX9_grows_1 (kk))) ?_
  exact zX_wk (wkK (wkK (wkK (wkD wkN)))) H
set_option maxHeartbeats 20000000 in
theorem bX9_grows_2 (l0 : Nat) (l1 : Int32) (l2 : Int32) (h : zH) (Q : Option Value → zH → Prop) (H : oK h l0 9 ∧ (((gI h l0 1) ≤ l2 → (Q (some (.int (1 : Int32))) h)) ∧ (¬ ((gI h l0 1) ≤ l2) → (zX mX9_grows 12 [.ref l0, .int l1, .int l2, .int (1 : Int32)] [] h Q)))) : zX mX9_grows 2 [.ref l0, .int l1, .int l2, .float 0] [] h Q := by
  obtain ⟨g1, H⟩ := H
  refine zX_seg (pc' := 7) (L' := [.ref l0, .int l1, .int l2, .float 0]) (st' := [.int (gI h l0 1), .int l2]) (h2 := h) rfl rfl (fun C Cr hc kk => x_iload_n C rfl dX9_grows_2 (x_aload_n C (v := .ref l0) rfl rfl dX9_grows_3 (f_getI C lX9_15 g1 rfl dX9_grows_4 (kk)))) ?_
  refine zX_br (p1 := 50) (p2 := 10) (st' := []) ((gI h l0 1) ≤ l2) (fun C kt kf => x_icmp_ge C 50 dX9_grows_7 (by decide) kt kf) (fun q2 => ?_) (fun q2 => ?_)
  · replace H := H.1 q2
    refine zX_seg (pc' := 51) (L' := [.ref l0, .int l1, .int l2, .float 0]) (st' := [.int (1 : Int32)]) (h2 := h) rfl rfl (fun C Cr hc kk => x_iconst C (1 : Int32) (by decide) dX9_grows_50 (kk)) ?_
    exact zX_ret (some (.int (1 : Int32))) (fun C Cr hc => x_iret C Cr rfl rfl hc dX9_grows_51 ⟨rfl, rfl⟩) H
  · replace H := H.2 q2
    refine zX_seg (pc' := 12) (L' := [.ref l0, .int l1, .int l2, .int (1 : Int32)]) (st' := []) (h2 := h) rfl rfl (fun C Cr hc kk => x_iconst C (1 : Int32) (by decide) dX9_grows_10 (x_istore_n C (by decide) dX9_grows_11 (kk))) ?_
    exact zX_wk (wkK (wkK (wkK (wkK wkN)))) H
set_option maxHeartbeats 20000000 in
theorem bX9_grows_12 (l0 : Nat) (l1 : Int32) (l2 : Int32) (l3 : Int32) (h : zH) (Q : Option Value → zH → Prop) (H : oK h l0 9 ∧ (((gI h l0 1) ≤ l3 → (zX mX9_grows 2 [.ref l0, .int l1, .int (l2 + 1), .float 0] [] h Q)) ∧ (¬ ((gI h l0 1) ≤ l3) → ((((l1 >>> (l2 &&& 31)) &&& (1 : Int32)) ≤ ((l1 >>> ((l2 ||| l3) &&& 31)) &&& (1 : Int32)) → (zX mX9_grows 12 [.ref l0, .int l1, .int l2, .int (l3 <<< ((1 : Int32) &&& 31))] [] h Q)) ∧ (¬ (((l1 >>> (l2 &&& 31)) &&& (1 : Int32)) ≤ ((l1 >>> ((l2 ||| l3) &&& 31)) &&& (1 : Int32))) → (Q (some (.int (0 : Int32))) h)))))) : zX mX9_grows 12 [.ref l0, .int l1, .int l2, .int l3] [] h Q := by
  obtain ⟨g1, H⟩ := H
  refine zX_seg (pc' := 17) (L' := [.ref l0, .int l1, .int l2, .int l3]) (st' := [.int (gI h l0 1), .int l3]) (h2 := h) rfl rfl (fun C Cr hc kk => x_iload_n C rfl dX9_grows_12 (x_aload_n C (v := .ref l0) rfl rfl dX9_grows_13 (f_getI C lX9_15 g1 rfl dX9_grows_14 (kk)))) ?_
  refine zX_br (p1 := 44) (p2 := 20) (st' := []) ((gI h l0 1) ≤ l3) (fun C kt kf => x_icmp_ge C 44 dX9_grows_17 (by decide) kt kf) (fun q2 => ?_) (fun q2 => ?_)
  · replace H := H.1 q2
    refine zX_seg (pc' := 2) (L' := [.ref l0, .int l1, .int (l2 + 1), .int l3]) (st' := []) (h2 := h) rfl rfl (fun C Cr hc kk => x_iinc C (l2 + 1) rfl (congrArg (HAdd.hAdd _) (by decide)) (by decide) dX9_grows_44 (x_goto C 2 dX9_grows_47 (by decide) (kk))) ?_
    exact zX_wk (wkK (wkK (wkK (wkD wkN)))) H
  · replace H := H.2 q2
    refine zX_seg (pc' := 32) (L' := [.ref l0, .int l1, .int l2, .int l3]) (st' := [.int ((l1 >>> ((l2 ||| l3) &&& 31)) &&& (1 : Int32)), .int ((l1 >>> (l2 &&& 31)) &&& (1 : Int32))]) (h2 := h) rfl rfl (fun C Cr hc kk => x_iload_n C rfl dX9_grows_20 (x_iload_n C rfl dX9_grows_21 (x_ishr C dX9_grows_22 (x_iconst C (1 : Int32) (by decide) dX9_grows_23 (x_iand C dX9_grows_24 (x_iload_n C rfl dX9_grows_25 (x_iload_n C rfl dX9_grows_26 (x_iload_n C rfl dX9_grows_27 (x_ior C dX9_grows_28 (x_ishr C dX9_grows_29 (x_iconst C (1 : Int32) (by decide) dX9_grows_30 (x_iand C dX9_grows_31 (kk))))))))))))) ?_
    refine zX_br (p1 := 37) (p2 := 35) (st' := []) (((l1 >>> (l2 &&& 31)) &&& (1 : Int32)) ≤ ((l1 >>> ((l2 ||| l3) &&& 31)) &&& (1 : Int32))) (fun C kt kf => x_icmp_le C 37 dX9_grows_32 (by decide) kt kf) (fun q3 => ?_) (fun q3 => ?_)
    · replace H := H.1 q3
      refine zX_seg (pc' := 12) (L' := [.ref l0, .int l1, .int l2, .int (l3 <<< ((1 : Int32) &&& 31))]) (st' := []) (h2 := h) rfl rfl (fun C Cr hc kk => x_iload_n C rfl dX9_grows_37 (x_iconst C (1 : Int32) (by decide) dX9_grows_38 (x_ishl C dX9_grows_39 (x_istore_n C (by decide) dX9_grows_40 (x_goto C 12 dX9_grows_41 (by decide) (kk)))))) ?_
      exact zX_wk (wkK (wkK (wkK (wkK wkN)))) H
    · replace H := H.2 q3
      refine zX_seg (pc' := 36) (L' := [.ref l0, .int l1, .int l2, .int l3]) (st' := [.int (0 : Int32)]) (h2 := h) rfl rfl (fun C Cr hc kk => x_iconst C (0 : Int32) (by decide) dX9_grows_35 (kk)) ?_
      exact zX_ret (some (.int (0 : Int32))) (fun C Cr hc => x_iret C Cr rfl rfl hc dX9_grows_36 ⟨rfl, rfl⟩) H
theorem nX9_grows (t : Nat) (p0 : Int32) (h : zH) (Q : Option Value → zH → Prop) (H : zX mX9_grows 0 [.ref t, .int p0, .float 0, .float 0] [] h Q) : zC mX9_grows [.ref t, .int p0] h Q := zC_of (by decide +kernel) (by simp) (Nat.le_of_ble_eq_true rfl) H
set_option maxHeartbeats 20000000 in
theorem bX10_init_0 (t : Nat) (h : zH) (Q : Option Value → zH → Prop) (H : ∀ h1 : zH, h1 = (zn h (zL 3 (fun _ => 0))) → (oK h1 t 10 ∧ (∀ h4 : zH, h4 = (pF h1 t 0 (zr (some h.1))) → (∀ h7 : zH, h7 = (zn h4 (zL 4 (fun _ => 0))) → (∀ h11 : zH, h11 = (pF h7 t 1 (zr (some h4.1))) → (∀ h15 : zH, h15 = (zn h11 (zL 8 (fun _ => 0))) → (∀ h20 : zH, h20 = (pF h15 t 2 (zr (some h11.1))) → (∀ h25 : zH, h25 = (zn h20 (zI 0 8 (fun _ => 0))) → (∀ h31 : zH, h31 = (pF h25 t 3 (zr (some h20.1))) → (∀ h37 : zH, h37 = (zn h31 (zI 0 8 (fun _ => 0))) → (∀ h44 : zH, h44 = (pF h37 t 4 (zr (some h31.1))) → (∀ h51 : zH, h51 = (zn h44 (zR 0 8 (fun _ => none))) → (∀ h59 : zH, h59 = (pF h51 t 5 (zr (some h44.1))) → (Q none h59)))))))))))))) : zX mX10_init 0 [.ref t] [] h Q := by
  refine zX_seg (pc' := 6) (L' := [.ref t]) (st' := [.int (3 : Int32), .ref t]) (h2 := h) rfl rfl (fun C Cr hc kk => x_aload_n C (v := .ref t) rfl rfl dX10_init_0 (x_objInit C lX10_3 oi_i oi_c ⟨by decide, by decide⟩ (Nat.le_of_ble_eq_true rfl) dX10_init_1 (x_aload_n C (v := .ref t) rfl rfl dX10_init_4 (x_iconst C (3 : Int32) (by decide) dX10_init_5 (kk))))) ?_
  refine zX_new (pc' := 8) (L' := [.ref t]) (st' := [.ref (h.1), .ref t]) (e := (zL 3 (fun _ => 0))) (fun C z1 z2 kk => x_newa C (at0 := .long) ac_long (Or.inr (Or.inr (Or.inr ⟨rfl, rfl⟩))) (by decide) (by decide) (by decide) z1 z2 dX10_init_6 kk) ?_
  obtain ⟨h1, eh1⟩ : ∃ y : zH, y = (zn h (zL 3 (fun _ => 0))) := ⟨_, rfl⟩
  replace H := H h1 eh1
  rw [← eh1]
  have g2 : lK h1 h.1 := by rw [eh1]; exact lK_new
  obtain ⟨g3, H⟩ := H
  refine zX_seg (pc' := 11) (L' := [.ref t]) (st' := []) (h2 := (pF h1 t 0 (zr (some h.1)))) rfl rfl (fun C Cr hc kk => f_putFR C Cr rfl (x := (some h.1)) lX10_9 tX10 nX10_0 g3 rfl (Or.inr ⟨_, rfl⟩) dX10_init_8 (kk)) ?_
  obtain ⟨h4, eh4⟩ : ∃ y : zH, y = (pF h1 t 0 (zr (some h.1))) := ⟨_, rfl⟩
  replace H := H h4 eh4
  rw [← eh4]
  have g5 : lK h4 h.1 := by rw [eh4]; exact lK_pF g2
  have g6 : oK h4 t 10 := by rw [eh4]; exact oK_pF' g3 rfl (zmr _) g3
  refine zX_seg (pc' := 13) (L' := [.ref t]) (st' := [.int (4 : Int32), .ref t]) (h2 := h4) rfl rfl (fun C Cr hc kk => x_aload_n C (v := .ref t) rfl rfl dX10_init_11 (x_iconst C (4 : Int32) (by decide) dX10_init_12 (kk))) ?_
  refine zX_new (pc' := 15) (L' := [.ref t]) (st' := [.ref (h4.1), .ref t]) (e := (zL 4 (fun _ => 0))) (fun C z1 z2 kk => x_newa C (at0 := .long) ac_long (Or.inr (Or.inr (Or.inr ⟨rfl, rfl⟩))) (by decide) (by decide) (by decide) z1 z2 dX10_init_13 kk) ?_
  obtain ⟨h7, eh7⟩ : ∃ y : zH, y = (zn h4 (zL 4 (fun _ => 0))) := ⟨_, rfl⟩
  replace H := H h7 eh7
  rw [← eh7]
  have g8 : lK h7 h.1 := by rw [eh7]; exact lK_zn g5
  have g9 : oK h7 t 10 := by rw [eh7]; exact oK_zn g6
  have g10 : lK h7 h4.1 := by rw [eh7]; exact lK_new
  refine zX_seg (pc' := 18) (L' := [.ref t]) (st' := []) (h2 := (pF h7 t 1 (zr (some h4.1)))) rfl rfl (fun C Cr hc kk => f_putFR C Cr rfl (x := (some h4.1)) lX10_15 tX10 nX10_1 g9 rfl (Or.inr ⟨_, rfl⟩) dX10_init_15 (kk)) ?_
  obtain ⟨h11, eh11⟩ : ∃ y : zH, y = (pF h7 t 1 (zr (some h4.1))) := ⟨_, rfl⟩
  replace H := H h11 eh11
  rw [← eh11]
  have g12 : lK h11 h.1 := by rw [eh11]; exact lK_pF g8
  have g13 : oK h11 t 10 := by rw [eh11]; exact oK_pF' g9 rfl (zmr _) g9
  have g14 : lK h11 h4.1 := by rw [eh11]; exact lK_pF g10
  refine zX_seg (pc' := 21) (L' := [.ref t]) (st' := [.int (8 : Int32), .ref t]) (h2 := h11) rfl rfl (fun C Cr hc kk => x_aload_n C (v := .ref t) rfl rfl dX10_init_18 (x_bipush C (8 : Int32) (by decide) dX10_init_19 (kk))) ?_
  refine zX_new (pc' := 23) (L' := [.ref t]) (st' := [.ref (h11.1), .ref t]) (e := (zL 8 (fun _ => 0))) (fun C z1 z2 kk => x_newa C (at0 := .long) ac_long (Or.inr (Or.inr (Or.inr ⟨rfl, rfl⟩))) (by decide) (by decide) (by decide) z1 z2 dX10_init_21 kk) ?_
  obtain ⟨h15, eh15⟩ : ∃ y : zH, y = (zn h11 (zL 8 (fun _ => 0))) := ⟨_, rfl⟩
  replace H := H h15 eh15
  rw [← eh15]
  have g16 : lK h15 h.1 := by rw [eh15]; exact lK_zn g12
  have g17 : oK h15 t 10 := by rw [eh15]; exact oK_zn g13
  have g18 : lK h15 h4.1 := by rw [eh15]; exact lK_zn g14
  have g19 : lK h15 h11.1 := by rw [eh15]; exact lK_new
  refine zX_seg (pc' := 26) (L' := [.ref t]) (st' := []) (h2 := (pF h15 t 2 (zr (some h11.1)))) rfl rfl (fun C Cr hc kk => f_putFR C Cr rfl (x := (some h11.1)) lX10_18 tX10 nX10_2 g17 rfl (Or.inr ⟨_, rfl⟩) dX10_init_23 (kk)) ?_
  obtain ⟨h20, eh20⟩ : ∃ y : zH, y = (pF h15 t 2 (zr (some h11.1))) := ⟨_, rfl⟩
  replace H := H h20 eh20
  rw [← eh20]
  have g21 : lK h20 h.1 := by rw [eh20]; exact lK_pF g16
  have g22 : oK h20 t 10 := by rw [eh20]; exact oK_pF' g17 rfl (zmr _) g17
  have g23 : lK h20 h4.1 := by rw [eh20]; exact lK_pF g18
  have g24 : lK h20 h11.1 := by rw [eh20]; exact lK_pF g19
  refine zX_seg (pc' := 29) (L' := [.ref t]) (st' := [.int (8 : Int32), .ref t]) (h2 := h20) rfl rfl (fun C Cr hc kk => x_aload_n C (v := .ref t) rfl rfl dX10_init_26 (x_bipush C (8 : Int32) (by decide) dX10_init_27 (kk))) ?_
  refine zX_new (pc' := 31) (L' := [.ref t]) (st' := [.ref (h20.1), .ref t]) (e := (zI 0 8 (fun _ => 0))) (fun C z1 z2 kk => x_newa C (at0 := .int) ac_int (Or.inl ⟨rfl, rfl⟩) (by decide) (by decide) (by decide) z1 z2 dX10_init_29 kk) ?_
  obtain ⟨h25, eh25⟩ : ∃ y : zH, y = (zn h20 (zI 0 8 (fun _ => 0))) := ⟨_, rfl⟩
  replace H := H h25 eh25
  rw [← eh25]
  have g26 : lK h25 h.1 := by rw [eh25]; exact lK_zn g21
  have g27 : oK h25 t 10 := by rw [eh25]; exact oK_zn g22
  have g28 : lK h25 h4.1 := by rw [eh25]; exact lK_zn g23
  have g29 : lK h25 h11.1 := by rw [eh25]; exact lK_zn g24
  have g30 : iK h25 h20.1 0 := by rw [eh25]; exact iK_new
  refine zX_seg (pc' := 34) (L' := [.ref t]) (st' := []) (h2 := (pF h25 t 3 (zr (some h20.1)))) rfl rfl (fun C Cr hc kk => f_putFR C Cr rfl (x := (some h20.1)) lX10_21 tX10 nX10_3 g27 rfl (Or.inr ⟨_, rfl⟩) dX10_init_31 (kk)) ?_
  obtain ⟨h31, eh31⟩ : ∃ y : zH, y = (pF h25 t 3 (zr (some h20.1))) := ⟨_, rfl⟩
  replace H := H h31 eh31
  rw [← eh31]
  have g32 : lK h31 h.1 := by rw [eh31]; exact lK_pF g26
  have g33 : oK h31 t 10 := by rw [eh31]; exact oK_pF' g27 rfl (zmr _) g27
  have g34 : lK h31 h4.1 := by rw [eh31]; exact lK_pF g28
  have g35 : lK h31 h11.1 := by rw [eh31]; exact lK_pF g29
  have g36 : iK h31 h20.1 0 := by rw [eh31]; exact iK_pF g30
  refine zX_seg (pc' := 37) (L' := [.ref t]) (st' := [.int (8 : Int32), .ref t]) (h2 := h31) rfl rfl (fun C Cr hc kk => x_aload_n C (v := .ref t) rfl rfl dX10_init_34 (x_bipush C (8 : Int32) (by decide) dX10_init_35 (kk))) ?_
  refine zX_new (pc' := 39) (L' := [.ref t]) (st' := [.ref (h31.1), .ref t]) (e := (zI 0 8 (fun _ => 0))) (fun C z1 z2 kk => x_newa C (at0 := .int) ac_int (Or.inl ⟨rfl, rfl⟩) (by decide) (by decide) (by decide) z1 z2 dX10_init_37 kk) ?_
  obtain ⟨h37, eh37⟩ : ∃ y : zH, y = (zn h31 (zI 0 8 (fun _ => 0))) := ⟨_, rfl⟩
  replace H := H h37 eh37
  rw [← eh37]
  have g38 : lK h37 h.1 := by rw [eh37]; exact lK_zn g32
  have g39 : oK h37 t 10 := by rw [eh37]; exact oK_zn g33
  have g40 : lK h37 h4.1 := by rw [eh37]; exact lK_zn g34
  have g41 : lK h37 h11.1 := by rw [eh37]; exact lK_zn g35
  have g42 : iK h37 h20.1 0 := by rw [eh37]; exact iK_zn g36
  have g43 : iK h37 h31.1 0 := by rw [eh37]; exact iK_new
  refine zX_seg (pc' := 42) (L' := [.ref t]) (st' := []) (h2 := (pF h37 t 4 (zr (some h31.1)))) rfl rfl (fun C Cr hc kk => f_putFR C Cr rfl (x := (some h31.1)) lX10_25 tX10 nX10_4 g39 rfl (Or.inr ⟨_, rfl⟩) dX10_init_39 (kk)) ?_
  obtain ⟨h44, eh44⟩ : ∃ y : zH, y = (pF h37 t 4 (zr (some h31.1))) := ⟨_, rfl⟩
  replace H := H h44 eh44
  rw [← eh44]
  have g45 : lK h44 h.1 := by rw [eh44]; exact lK_pF g38
  have g46 : oK h44 t 10 := by rw [eh44]; exact oK_pF' g39 rfl (zmr _) g39
  have g47 : lK h44 h4.1 := by rw [eh44]; exact lK_pF g40
  have g48 : lK h44 h11.1 := by rw [eh44]; exact lK_pF g41
  have g49 : iK h44 h20.1 0 := by rw [eh44]; exact iK_pF g42
  have g50 : iK h44 h31.1 0 := by rw [eh44]; exact iK_pF g43
  refine zX_seg (pc' := 45) (L' := [.ref t]) (st' := [.int (8 : Int32), .ref t]) (h2 := h44) rfl rfl (fun C Cr hc kk => x_aload_n C (v := .ref t) rfl rfl dX10_init_42 (x_bipush C (8 : Int32) (by decide) dX10_init_43 (kk))) ?_
  refine zX_new (pc' := 48) (L' := [.ref t]) (st' := [.ref (h44.1), .ref t]) (e := (zR 0 8 (fun _ => none))) (fun C z1 z2 kk => x_anew C (Or.inl ⟨rfl, rfl⟩) lX10_28 (by decide) (by decide) (by decide) z1 z2 dX10_init_45 kk) ?_
  obtain ⟨h51, eh51⟩ : ∃ y : zH, y = (zn h44 (zR 0 8 (fun _ => none))) := ⟨_, rfl⟩
  replace H := H h51 eh51
  rw [← eh51]
  have g52 : lK h51 h.1 := by rw [eh51]; exact lK_zn g45
  have g53 : oK h51 t 10 := by rw [eh51]; exact oK_zn g46
  have g54 : lK h51 h4.1 := by rw [eh51]; exact lK_zn g47
  have g55 : lK h51 h11.1 := by rw [eh51]; exact lK_zn g48
  have g56 : iK h51 h20.1 0 := by rw [eh51]; exact iK_zn g49
  have g57 : iK h51 h31.1 0 := by rw [eh51]; exact iK_zn g50
  have g58 : rK h51 h44.1 0 := by rw [eh51]; exact rK_new
  refine zX_seg (pc' := 51) (L' := [.ref t]) (st' := []) (h2 := (pF h51 t 5 (zr (some h44.1)))) rfl rfl (fun C Cr hc kk => f_putFR C Cr rfl (x := (some h44.1)) lX10_30 tX10 nX10_5 g53 rfl (Or.inr ⟨_, rfl⟩) dX10_init_48 (kk)) ?_
  obtain ⟨h59, eh59⟩ : ∃ y : zH, y = (pF h51 t 5 (zr (some h44.1))) := ⟨_, rfl⟩
  replace H := H h59 eh59
  rw [← eh59]
  have g60 : lK h59 h.1 := by rw [eh59]; exact lK_pF g52
  have g61 : oK h59 t 10 := by rw [eh59]; exact oK_pF' g53 rfl (zmr _) g53
  have g62 : lK h59 h4.1 := by rw [eh59]; exact lK_pF g54
  have g63 : lK h59 h11.1 := by rw [eh59]; exact lK_pF g55
  have g64 : iK h59 h20.1 0 := by rw [eh59]; exact iK_pF g56
  have g65 : iK h59 h31.1 0 := by rw [eh59]; exact iK_pF g57
  have g66 : rK h59 h44.1 0 := by rw [eh59]; exact rK_pF g58
  exact zX_ret none (fun C Cr hc => x_ret C Cr rfl hc dX10_init_51 ⟨rfl, rfl⟩) H
theorem nX10_init (t : Nat) (h : zH) (Q : Option Value → zH → Prop) (H : zX mX10_init 0 [.ref t] [] h Q) : zC mX10_init [.ref t] h Q := zC_of (by decide +kernel) (by simp) (Nat.le_of_ble_eq_true rfl) H
set_option maxHeartbeats 20000000 in
theorem bX10_clear_0 (t : Nat) (h : zH) (Q : Option Value → zH → Prop) (H : oK h t 10 ∧ (∀ h2 : zH, h2 = (pF h t 6 (.int (0 : Int32))) → (∀ h4 : zH, h4 = (pF h2 t 7 (.int (0 : Int32))) → (∀ h6 : zH, h6 = (pF h4 t 8 (.int (0 : Int32))) → (∀ h8 : zH, h8 = (pF h6 t 9 (.int (0 : Int32))) → (zX mX10_clear 22 [.ref t, .int (0 : Int32)] [] h8 Q)))))) : zX mX10_clear 0 [.ref t, .float 0] [] h Q := by
  obtain ⟨g1, H⟩ := H
  refine zX_seg (pc' := 5) (L' := [.ref t, .float 0]) (st' := []) (h2 := (pF h t 6 (.int (0 : Int32)))) rfl rfl (fun C Cr hc kk => x_aload_n C (v := .ref t) rfl rfl dX10_clear_0 (x_iconst C (0 : Int32) (by decide) dX10_clear_1 (f_putI C lX10_34 tX10 nX10_6 g1 rfl rfl dX10_clear_2 (kk)))) ?_
  obtain ⟨h2, eh2⟩ : ∃ y : zH, y = (pF h t 6 (.int (0 : Int32))) := ⟨_, rfl⟩
  replace H := H h2 eh2
  rw [← eh2]
  have g3 : oK h2 t 10 := by rw [eh2]; exact oK_pF' g1 rfl rfl g1
  refine zX_seg (pc' := 10) (L' := [.ref t, .float 0]) (st' := []) (h2 := (pF h2 t 7 (.int (0 : Int32)))) rfl rfl (fun C Cr hc kk => x_aload_n C (v := .ref t) rfl rfl dX10_clear_5 (x_iconst C (0 : Int32) (by decide) dX10_clear_6 (f_putI C lX10_38 tX10 nX10_7 g3 rfl rfl dX10_clear_7 (kk)))) ?_
  obtain ⟨h4, eh4⟩ : ∃ y : zH, y = (pF h2 t 7 (.int (0 : Int32))) := ⟨_, rfl⟩
  replace H := H h4 eh4
  rw [← eh4]
  have g5 : oK h4 t 10 := by rw [eh4]; exact oK_pF' g3 rfl rfl g3
  refine zX_seg (pc' := 15) (L' := [.ref t, .float 0]) (st' := []) (h2 := (pF h4 t 8 (.int (0 : Int32)))) rfl rfl (fun C Cr hc kk => x_aload_n C (v := .ref t) rfl rfl dX10_clear_10 (x_iconst C (0 : Int32) (by decide) dX10_clear_11 (f_putI C lX10_41 tX10 nX10_8 g5 rfl rfl dX10_clear_12 (kk)))) ?_
  obtain ⟨h6, eh6⟩ : ∃ y : zH, y = (pF h4 t 8 (.int (0 : Int32))) := ⟨_, rfl⟩
  replace H := H h6 eh6
  rw [← eh6]
  have g7 : oK h6 t 10 := by rw [eh6]; exact oK_pF' g5 rfl rfl g5
  refine zX_seg (pc' := 20) (L' := [.ref t, .float 0]) (st' := []) (h2 := (pF h6 t 9 (.int (0 : Int32)))) rfl rfl (fun C Cr hc kk => x_aload_n C (v := .ref t) rfl rfl dX10_clear_15 (x_iconst C (0 : Int32) (by decide) dX10_clear_16 (f_putI C lX10_44 tX10 nX10_9 g7 rfl rfl dX10_clear_17 (kk)))) ?_
  obtain ⟨h8, eh8⟩ : ∃ y : zH, y = (pF h6 t 9 (.int (0 : Int32))) := ⟨_, rfl⟩
  replace H := H h8 eh8
  rw [← eh8]
  have g9 : oK h8 t 10 := by rw [eh8]; exact oK_pF' g7 rfl rfl g7
  refine zX_seg (pc' := 22) (L' := [.ref t, .int (0 : Int32)]) (st' := []) (h2 := h8) rfl rfl (fun C Cr hc kk => x_iconst C (0 : Int32) (by decide) dX10_clear_20 (x_istore_n C (by decide) dX10_clear_21 (kk))) ?_
  exact zX_wk (wkK (wkK wkN)) H
set_option maxHeartbeats 20000000 in
theorem bX10_clear_22 (l0 : Nat) (l1 : Int32) (h : zH) (Q : Option Value → zH → Prop) (H : oK h l0 10 ∧ (∃ a2 : Nat, gR h l0 5 = some a2 ∧ (rK h a2 0 ∧ (((nI (aN h a2)) ≤ l1 → (Q none h)) ∧ (¬ ((nI (aN h a2)) ≤ l1) → (vp_in l1 (aN h a2) ∧ (∀ h6 : zH, h6 = (pR h a2 l1.toNatClampNeg none) → (zX mX10_clear 22 [.ref l0, .int (l1 + 1)] [] h6 Q)))))))) : zX mX10_clear 22 [.ref l0, .int l1] [] h Q := by
  obtain ⟨g1, H⟩ := H
  obtain ⟨a2, ea2, H⟩ := H
  obtain ⟨g3, H⟩ := H
  refine zX_seg (pc' := 28) (L' := [.ref l0, .int l1]) (st' := [.int (nI (aN h a2)), .int l1]) (h2 := h) rfl rfl (fun C Cr hc kk => x_iload_n C rfl dX10_clear_22 (x_aload_n C (v := .ref l0) rfl rfl dX10_clear_23 (f_getR1 C lX10_30 g1 rfl ea2 dX10_clear_24 (f_alenR C (by decide) g3 dX10_clear_27 (kk))))) ?_
  refine zX_br (p1 := 44) (p2 := 31) (st' := []) ((nI (aN h a2)) ≤ l1) (fun C kt kf => x_icmp_ge C 44 dX10_clear_28 (by decide) kt kf) (fun q4 => ?_) (fun q4 => ?_)
  · replace H := H.1 q4
    exact zX_ret none (fun C Cr hc => x_ret C Cr rfl hc dX10_clear_44 ⟨rfl, rfl⟩) H
  · replace H := H.2 q4
    obtain ⟨g5, H⟩ := H
    refine zX_seg (pc' := 38) (L' := [.ref l0, .int l1]) (st' := []) (h2 := (pR h a2 l1.toNatClampNeg none)) rfl rfl (fun C Cr hc kk => x_aload_n C (v := .ref l0) rfl rfl dX10_clear_31 (f_getR1 C lX10_30 g1 rfl ea2 dX10_clear_32 (x_iload_n C rfl dX10_clear_35 (x_null C dX10_clear_36 (f_aast C (x := none) (by decide) g3 (fun v z => by cases z) g5 dX10_clear_37 (kk)))))) ?_
    obtain ⟨h6, eh6⟩ : ∃ y : zH, y = (pR h a2 l1.toNatClampNeg none) := ⟨_, rfl⟩
    replace H := H h6 eh6
    rw [← eh6]
    have g7 : oK h6 l0 10 := by rw [eh6]; exact oK_pR g1
    have g8 : rK h6 a2 0 := by rw [eh6]; exact rK_pR g3
    refine zX_seg (pc' := 22) (L' := [.ref l0, .int (l1 + 1)]) (st' := []) (h2 := h6) rfl rfl (fun C Cr hc kk => x_iinc C (l1 + 1) rfl (congrArg (HAdd.hAdd _) (by decide)) (by decide) dX10_clear_38 (x_goto C 22 dX10_clear_41 (by decide) (kk))) ?_
    exact zX_wk (wkK (wkK wkN)) H
theorem nX10_clear (t : Nat) (h : zH) (Q : Option Value → zH → Prop) (H : zX mX10_clear 0 [.ref t, .float 0] [] h Q) : zC mX10_clear [.ref t] h Q := zC_of (by decide +kernel) (by simp) (Nat.le_of_ble_eq_true rfl) H
set_option maxHeartbeats 20000000 in
theorem bX10_becomeWider_0 (t : Nat) (p0 : Nat) (p1 : Int32) (h : zH) (Q : Option Value → zH → Prop) (H : oK h p0 10 ∧ (oK h t 10 ∧ (∀ h3 : zH, h3 = (pF h t 6 (.int (gI h p0 6))) → (∀ h6 : zH, h6 = (pF h3 t 8 (.int (gI h3 p0 8))) → (zX mX10_becomeWider 18 [.ref t, .ref p0, .int p1, .int (0 : Int32)] [] h6 Q))))) : zX mX10_becomeWider 0 [.ref t, .ref p0, .int p1, .float 0] [] h Q := by
  obtain ⟨g1, H⟩ := H
  obtain ⟨g2, H⟩ := H
  refine zX_seg (pc' := 8) (L' := [.ref t, .ref p0, .int p1, .float 0]) (st' := []) (h2 := (pF h t 6 (.int (gI h p0 6)))) rfl rfl (fun C Cr hc kk => x_aload_n C (v := .ref t) rfl rfl dX10_becomeWider_0 (x_aload_n C (v := .ref p0) rfl rfl dX10_becomeWider_1 (f_getI C lX10_34 g1 rfl dX10_becomeWider_2 (f_putI C lX10_34 tX10 nX10_6 g2 rfl rfl dX10_becomeWider_5 (kk))))) ?_
  obtain ⟨h3, eh3⟩ : ∃ y : zH, y = (pF h t 6 (.int (gI h p0 6))) := ⟨_, rfl⟩
  replace H := H h3 eh3
  rw [← eh3]
  have g4 : oK h3 p0 10 := by rw [eh3]; exact oK_pF' g2 rfl rfl g1
  have g5 : oK h3 t 10 := by rw [eh3]; exact oK_pF' g2 rfl rfl g2
  refine zX_seg (pc' := 16) (L' := [.ref t, .ref p0, .int p1, .float 0]) (st' := []) (h2 := (pF h3 t 8 (.int (gI h3 p0 8)))) rfl rfl (fun C Cr hc kk => x_aload_n C (v := .ref t) rfl rfl dX10_becomeWider_8 (x_aload_n C (v := .ref p0) rfl rfl dX10_becomeWider_9 (f_getI C lX10_41 g4 rfl dX10_becomeWider_10 (f_putI C lX10_41 tX10 nX10_8 g5 rfl rfl dX10_becomeWider_13 (kk))))) ?_
  obtain ⟨h6, eh6⟩ : ∃ y : zH, y = (pF h3 t 8 (.int (gI h3 p0 8))) := ⟨_, rfl⟩
  replace H := H h6 eh6
  rw [← eh6]
  have g7 : oK h6 p0 10 := by rw [eh6]; exact oK_pF' g5 rfl rfl g4
  have g8 : oK h6 t 10 := by rw [eh6]; exact oK_pF' g5 rfl rfl g5
  refine zX_seg (pc' := 18) (L' := [.ref t, .ref p0, .int p1, .int (0 : Int32)]) (st' := []) (h2 := h6) rfl rfl (fun C Cr hc kk => x_iconst C (0 : Int32) (by decide) dX10_becomeWider_16 (x_istore_n C (by decide) dX10_becomeWider_17 (kk))) ?_
  exact zX_wk (wkK (wkK (wkK (wkK wkN)))) H
set_option maxHeartbeats 20000000 in
theorem bX10_becomeWider_18 (l0 : Nat) (l1 : Nat) (l2 : Int32) (l3 : Int32) (h : zH) (Q : Option Value → zH → Prop) (H : oK h l0 10 ∧ (((gI h l0 8) ≤ l3 → (zC mX10_addVoter [.ref l0, .int l2, .int (1 : Int32)] h (fun r0 h3 => r0 = none ∧ (Q none h3)))) ∧ (¬ ((gI h l0 8) ≤ l3) → (∃ a4 : Nat, gR h l0 3 = some a4 ∧ (oK h l1 10 ∧ (∃ a6 : Nat, gR h l1 3 = some a6 ∧ (zC mX11_at [.ref a6, .int l3] h (fun r0 h7 => ∃ x8 : Int32, r0 = some (.int x8) ∧ (zC mX11_put [.ref a4, .int l3, .int x8] h7 (fun r0 h9 => r0 = none ∧ (oK h9 l0 10 ∧ (∃ a11 : Nat, gR h9 l0 4 = some a11 ∧ (oK h9 l1 10 ∧ (∃ a13 : Nat, gR h9 l1 4 = some a13 ∧ (zC mX11_at [.ref a13, .int l3] h9 (fun r0 h14 => ∃ x15 : Int32, r0 = some (.int x15) ∧ (zC mX11_put [.ref a11, .int l3, .int x15] h14 (fun r0 h16 => r0 = none ∧ (zX mX10_becomeWider 18 [.ref l0, .ref l1, .int l2, .int (l3 + 1)] [] h16 Q))))))))))))))))))) : zX mX10_becomeWider 18 [.ref l0, .ref l1, .int l2, .int l3] [] h Q := by
  obtain ⟨g1, H⟩ := H
  refine zX_seg (pc' := 23) (L' := [.ref l0, .ref l1, .int l2, .int l3]) (st' := [.int (gI h l0 8), .int l3]) (h2 := h) rfl rfl (fun C Cr hc kk => x_iload_n C rfl dX10_becomeWider_18 (x_aload_n C (v := .ref l0) rfl rfl dX10_becomeWider_19 (f_getI C lX10_41 g1 rfl dX10_becomeWider_20 (kk)))) ?_
  refine zX_br (p1 := 64) (p2 := 26) (st' := []) ((gI h l0 8) ≤ l3) (fun C kt kf => x_icmp_ge C 64 dX10_becomeWider_23 (by decide) kt kf) (fun q2 => ?_) (fun q2 => ?_)
  · replace H := H.1 q2
    refine zX_seg (pc' := 67) (L' := [.ref l0, .ref l1, .int l2, .int l3]) (st' := [.int (1 : Int32), .int l2, .ref l0]) (h2 := h) rfl rfl (fun C Cr hc kk => x_aload_n C (v := .ref l0) rfl rfl dX10_becomeWider_64 (x_iload_n C rfl dX10_becomeWider_65 (x_iconst C (1 : Int32) (by decide) dX10_becomeWider_66 (kk)))) ?_
    refine zX_call (as := [.ref l0, .int l2, .int (1 : Int32)]) (st := []) (fun C hM hc kk => f_callV C [.int l2, .int (1 : Int32)] hM kX10_addVoter vX10_addVoter lX10_55 ⟨by decide, by decide⟩ (rfl : vwCl[10]? = some (RX10, TX10, 10)) g1 rfl hc (Nat.le_of_ble_eq_true rfl) rfl dX10_becomeWider_67 kk) (zC.mono H ?_)
    rintro r0 h3 ⟨rfl, H⟩
    show zX mX10_becomeWider 70 [.ref l0, .ref l1, .int l2, .int l3] [] h3 Q
    exact zX_ret none (fun C Cr hc => x_ret C Cr rfl hc dX10_becomeWider_70 ⟨rfl, rfl⟩) H
  · replace H := H.2 q2
    obtain ⟨a4, ea4, H⟩ := H
    obtain ⟨g5, H⟩ := H
    obtain ⟨a6, ea6, H⟩ := H
    refine zX_seg (pc' := 36) (L' := [.ref l0, .ref l1, .int l2, .int l3]) (st' := [.int l3, .ref a6, .int l3, .ref a4]) (h2 := h) rfl rfl (fun C Cr hc kk => x_aload_n C (v := .ref l0) rfl rfl dX10_becomeWider_26 (f_getR1 C lX10_21 g1 rfl ea4 dX10_becomeWider_27 (x_iload_n C rfl dX10_becomeWider_30 (x_aload_n C (v := .ref l1) rfl rfl dX10_becomeWider_31 (f_getR1 C lX10_21 g5 rfl ea6 dX10_becomeWider_32 (x_iload_n C rfl dX10_becomeWider_35 (kk))))))) ?_
    refine zX_call (as := [.ref a6, .int l3]) (st := [.int l3, .ref a4]) (fun C hM hc kk => x_callSN C [.ref a6, .int l3] hM kX11_at sX11_at lX10_47 ⟨by decide, by decide⟩ rfl hc (Nat.le_of_ble_eq_true rfl) rfl dX10_becomeWider_36 kk) (zC.mono H ?_)
    rintro r0 h7 ⟨x8, rfl, H⟩
    show zX mX10_becomeWider 39 [.ref l0, .ref l1, .int l2, .int l3] [.int x8, .int l3, .ref a4] h7 Q
    refine zX_call (as := [.ref a4, .int l3, .int x8]) (st := []) (fun C hM hc kk => x_callSN C [.ref a4, .int l3, .int x8] hM kX11_put sX11_put lX10_51 ⟨by decide, by decide⟩ rfl hc (Nat.le_of_ble_eq_true rfl) rfl dX10_becomeWider_39 kk) (zC.mono H ?_)
    rintro r0 h9 ⟨rfl, H⟩
    show zX mX10_becomeWider 42 [.ref l0, .ref l1, .int l2, .int l3] [] h9 Q
    obtain ⟨g10, H⟩ := H
    obtain ⟨a11, ea11, H⟩ := H
    obtain ⟨g12, H⟩ := H
    obtain ⟨a13, ea13, H⟩ := H
    refine zX_seg (pc' := 52) (L' := [.ref l0, .ref l1, .int l2, .int l3]) (st' := [.int l3, .ref a13, .int l3, .ref a11]) (h2 := h9) rfl rfl (fun C Cr hc kk => x_aload_n C (v := .ref l0) rfl rfl dX10_becomeWider_42 (f_getR1 C lX10_25 g10 rfl ea11 dX10_becomeWider_43 (x_iload_n C rfl dX10_becomeWider_46 (x_aload_n C (v := .ref l1) rfl rfl dX10_becomeWider_47 (f_getR1 C lX10_25 g12 rfl ea13 dX10_becomeWider_48 (x_iload_n C rfl dX10_becomeWider_51 (kk))))))) ?_
    refine zX_call (as := [.ref a13, .int l3]) (st := [.int l3, .ref a11]) (fun C hM hc kk => x_callSN C [.ref a13, .int l3] hM kX11_at sX11_at lX10_47 ⟨by decide, by decide⟩ rfl hc (Nat.le_of_ble_eq_true rfl) rfl dX10_becomeWider_52 kk) (zC.mono H ?_)
    rintro r0 h14 ⟨x15, rfl, H⟩
    show zX mX10_becomeWider 55 [.ref l0, .ref l1, .int l2, .int l3] [.int x15, .int l3, .ref a11] h14 Q
    refine zX_call (as := [.ref a11, .int l3, .int x15]) (st := []) (fun C hM hc kk => x_callSN C [.ref a11, .int l3, .int x15] hM kX11_put sX11_put lX10_51 ⟨by decide, by decide⟩ rfl hc (Nat.le_of_ble_eq_true rfl) rfl dX10_becomeWider_55 kk) (zC.mono H ?_)
    rintro r0 h16 ⟨rfl, H⟩
    show zX mX10_becomeWider 58 [.ref l0, .ref l1, .int l2, .int l3] [] h16 Q
    refine zX_seg (pc' := 18) (L' := [.ref l0, .ref l1, .int l2, .int (l3 + 1)]) (st' := []) (h2 := h16) rfl rfl (fun C Cr hc kk => x_iinc C (l3 + 1) rfl (congrArg (HAdd.hAdd _) (by decide)) (by decide) dX10_becomeWider_58 (x_goto C 18 dX10_becomeWider_61 (by decide) (kk))) ?_
    exact zX_wk (wkK (wkK (wkK (wkK wkN)))) H
theorem nX10_becomeWider (t : Nat) (p0 : Nat) (p1 : Int32) (h : zH) (Q : Option Value → zH → Prop) (H : zX mX10_becomeWider 0 [.ref t, .ref p0, .int p1, .float 0] [] h Q) : zC mX10_becomeWider [.ref t, .ref p0, .int p1] h Q := zC_of (by decide +kernel) (by simp) (Nat.le_of_ble_eq_true rfl) H
set_option maxHeartbeats 20000000 in
theorem bX10_addVoter_0 (t : Nat) (p0 : Int32) (p1 : Int32) (h : zH) (Q : Option Value → zH → Prop) (H : oK h t 10 ∧ (∃ a2 : Nat, gR h t 3 = some a2 ∧ (zC mX11_put [.ref a2, .int (gI h t 8), .int p0] h (fun r0 h3 => r0 = none ∧ (oK h3 t 10 ∧ (∃ a5 : Nat, gR h3 t 4 = some a5 ∧ (zC mX11_put [.ref a5, .int (gI h3 t 8), .int p1] h3 (fun r0 h6 => r0 = none ∧ (oK h6 t 10 ∧ (∀ h8 : zH, h8 = (pF h6 t 8 (.int ((gI h6 t 8) + (1 : Int32)))) → (Q none h8))))))))))) : zX mX10_addVoter 0 [.ref t, .int p0, .int p1] [] h Q := by
  obtain ⟨g1, H⟩ := H
  obtain ⟨a2, ea2, H⟩ := H
  refine zX_seg (pc' := 9) (L' := [.ref t, .int p0, .int p1]) (st' := [.int p0, .int (gI h t 8), .ref a2]) (h2 := h) rfl rfl (fun C Cr hc kk => x_aload_n C (v := .ref t) rfl rfl dX10_addVoter_0 (f_getR1 C lX10_21 g1 rfl ea2 dX10_addVoter_1 (x_aload_n C (v := .ref t) rfl rfl dX10_addVoter_4 (f_getI C lX10_41 g1 rfl dX10_addVoter_5 (x_iload_n C rfl dX10_addVoter_8 (kk)))))) ?_
  refine zX_call (as := [.ref a2, .int (gI h t 8), .int p0]) (st := []) (fun C hM hc kk => x_callSN C [.ref a2, .int (gI h t 8), .int p0] hM kX11_put sX11_put lX10_51 ⟨by decide, by decide⟩ rfl hc (Nat.le_of_ble_eq_true rfl) rfl dX10_addVoter_9 kk) (zC.mono H ?_)
  rintro r0 h3 ⟨rfl, H⟩
  show zX mX10_addVoter 12 [.ref t, .int p0, .int p1] [] h3 Q
  obtain ⟨g4, H⟩ := H
  obtain ⟨a5, ea5, H⟩ := H
  refine zX_seg (pc' := 21) (L' := [.ref t, .int p0, .int p1]) (st' := [.int p1, .int (gI h3 t 8), .ref a5]) (h2 := h3) rfl rfl (fun C Cr hc kk => x_aload_n C (v := .ref t) rfl rfl dX10_addVoter_12 (f_getR1 C lX10_25 g4 rfl ea5 dX10_addVoter_13 (x_aload_n C (v := .ref t) rfl rfl dX10_addVoter_16 (f_getI C lX10_41 g4 rfl dX10_addVoter_17 (x_iload_n C rfl dX10_addVoter_20 (kk)))))) ?_
  refine zX_call (as := [.ref a5, .int (gI h3 t 8), .int p1]) (st := []) (fun C hM hc kk => x_callSN C [.ref a5, .int (gI h3 t 8), .int p1] hM kX11_put sX11_put lX10_51 ⟨by decide, by decide⟩ rfl hc (Nat.le_of_ble_eq_true rfl) rfl dX10_addVoter_21 kk) (zC.mono H ?_)
  rintro r0 h6 ⟨rfl, H⟩
  show zX mX10_addVoter 24 [.ref t, .int p0, .int p1] [] h6 Q
  obtain ⟨g7, H⟩ := H
  refine zX_seg (pc' := 34) (L' := [.ref t, .int p0, .int p1]) (st' := []) (h2 := (pF h6 t 8 (.int ((gI h6 t 8) + (1 : Int32))))) rfl rfl (fun C Cr hc kk => x_aload_n C (v := .ref t) rfl rfl dX10_addVoter_24 (x_dup C rfl dX10_addVoter_25 (f_getI C lX10_41 g7 rfl dX10_addVoter_26 (x_iconst C (1 : Int32) (by decide) dX10_addVoter_29 (x_iadd C dX10_addVoter_30 (f_putI C lX10_41 tX10 nX10_8 g7 rfl rfl dX10_addVoter_31 (kk))))))) ?_
  obtain ⟨h8, eh8⟩ : ∃ y : zH, y = (pF h6 t 8 (.int ((gI h6 t 8) + (1 : Int32)))) := ⟨_, rfl⟩
  replace H := H h8 eh8
  rw [← eh8]
  have g9 : oK h8 t 10 := by rw [eh8]; exact oK_pF' g7 rfl rfl g7
  exact zX_ret none (fun C Cr hc => x_ret C Cr rfl hc dX10_addVoter_34 ⟨rfl, rfl⟩) H
theorem nX10_addVoter (t : Nat) (p0 : Int32) (p1 : Int32) (h : zH) (Q : Option Value → zH → Prop) (H : zX mX10_addVoter 0 [.ref t, .int p0, .int p1] [] h Q) : zC mX10_addVoter [.ref t, .int p0, .int p1] h Q := zC_of (by decide +kernel) (by simp) (Nat.le_of_ble_eq_true rfl) H
set_option maxHeartbeats 20000000 in
theorem bX10_tellBallot_0 (t : Nat) (p0 : Int32) (p1 : Nat) (h : zH) (Q : Option Value → zH → Prop) (H : (p0 < 0 → (Q none h)) ∧ (¬ (p0 < 0) → (oK h t 10 ∧ (∃ a3 : Nat, gR h t 5 = some a3 ∧ (rK h a3 0 ∧ (((nI (aN h a3)) ≤ p0 → (Q none h)) ∧ (¬ ((nI (aN h a3)) ≤ p0) → (oK h p1 0 ∧ (vp_in p0 (aN h a3) ∧ (∀ h8 : zH, h8 = (pR h a3 p0.toNatClampNeg (some p1)) → (∀ h12 : zH, h12 = (pF h8 t 9 (.int ((gI h8 t 9) ||| ((1 : Int32) <<< (p0 &&& 31))))) → (Q none h12)))))))))))) : zX mX10_tellBallot 0 [.ref t, .int p0, .ref p1] [] h Q := by
  refine zX_seg (pc' := 1) (L' := [.ref t, .int p0, .ref p1]) (st' := [.int p0]) (h2 := h) rfl rfl (fun C Cr hc kk => x_iload_n C rfl dX10_tellBallot_0 (kk)) ?_
  refine zX_br (p1 := 32) (p2 := 4) (st' := []) (p0 < 0) (fun C kt kf => x_if_lt C 32 dX10_tellBallot_1 (by decide) kt kf) (fun q1 => ?_) (fun q1 => ?_)
  · replace H := H.1 q1
    exact zX_ret none (fun C Cr hc => x_ret C Cr rfl hc dX10_tellBallot_32 ⟨rfl, rfl⟩) H
  · replace H := H.2 q1
    obtain ⟨g2, H⟩ := H
    obtain ⟨a3, ea3, H⟩ := H
    obtain ⟨g4, H⟩ := H
    refine zX_seg (pc' := 10) (L' := [.ref t, .int p0, .ref p1]) (st' := [.int (nI (aN h a3)), .int p0]) (h2 := h) rfl rfl (fun C Cr hc kk => x_iload_n C rfl dX10_tellBallot_4 (x_aload_n C (v := .ref t) rfl rfl dX10_tellBallot_5 (f_getR1 C lX10_30 g2 rfl ea3 dX10_tellBallot_6 (f_alenR C (by decide) g4 dX10_tellBallot_9 (kk))))) ?_
    refine zX_br (p1 := 32) (p2 := 13) (st' := []) ((nI (aN h a3)) ≤ p0) (fun C kt kf => x_icmp_ge C 32 dX10_tellBallot_10 (by decide) kt kf) (fun q5 => ?_) (fun q5 => ?_)
    · replace H := H.1 q5
      exact zX_ret none (fun C Cr hc => x_ret C Cr rfl hc dX10_tellBallot_32 ⟨rfl, rfl⟩) H
    · replace H := H.2 q5
      obtain ⟨g7, H⟩ := H
      obtain ⟨g6, H⟩ := H
      refine zX_seg (pc' := 20) (L' := [.ref t, .int p0, .ref p1]) (st' := []) (h2 := (pR h a3 p0.toNatClampNeg (some p1))) rfl rfl (fun C Cr hc kk => x_aload_n C (v := .ref t) rfl rfl dX10_tellBallot_13 (f_getR1 C lX10_30 g2 rfl ea3 dX10_tellBallot_14 (x_iload_n C rfl dX10_tellBallot_17 (x_aload_n C (v := .ref p1) rfl rfl dX10_tellBallot_18 (f_aast C (x := (some p1)) (by decide) g4 (fun v z => by cases z; exact g7) g6 dX10_tellBallot_19 (kk)))))) ?_
      obtain ⟨h8, eh8⟩ : ∃ y : zH, y = (pR h a3 p0.toNatClampNeg (some p1)) := ⟨_, rfl⟩
      replace H := H h8 eh8
      rw [← eh8]
      have g9 : oK h8 t 10 := by rw [eh8]; exact oK_pR g2
      have g10 : rK h8 a3 0 := by rw [eh8]; exact rK_pR g4
      have g11 : oK h8 p1 0 := by rw [eh8]; exact oK_pR g7
      refine zX_seg (pc' := 32) (L' := [.ref t, .int p0, .ref p1]) (st' := []) (h2 := (pF h8 t 9 (.int ((gI h8 t 9) ||| ((1 : Int32) <<< (p0 &&& 31)))))) rfl rfl (fun C Cr hc kk => x_aload_n C (v := .ref t) rfl rfl dX10_tellBallot_20 (x_dup C rfl dX10_tellBallot_21 (f_getI C lX10_44 g9 rfl dX10_tellBallot_22 (x_iconst C (1 : Int32) (by decide) dX10_tellBallot_25 (x_iload_n C rfl dX10_tellBallot_26 (x_ishl C dX10_tellBallot_27 (x_ior C dX10_tellBallot_28 (f_putI C lX10_44 tX10 nX10_9 g9 rfl rfl dX10_tellBallot_29 (kk))))))))) ?_
      obtain ⟨h12, eh12⟩ : ∃ y : zH, y = (pF h8 t 9 (.int ((gI h8 t 9) ||| ((1 : Int32) <<< (p0 &&& 31))))) := ⟨_, rfl⟩
      replace H := H h12 eh12
      rw [← eh12]
      have g13 : oK h12 t 10 := by rw [eh12]; exact oK_pF' g9 rfl rfl g9
      have g14 : rK h12 a3 0 := by rw [eh12]; exact rK_pF g10
      have g15 : oK h12 p1 0 := by rw [eh12]; exact oK_pF' g9 rfl rfl g11
      exact zX_ret none (fun C Cr hc => x_ret C Cr rfl hc dX10_tellBallot_32 ⟨rfl, rfl⟩) H
theorem nX10_tellBallot (t : Nat) (p0 : Int32) (p1 : Nat) (h : zH) (Q : Option Value → zH → Prop) (H : zX mX10_tellBallot 0 [.ref t, .int p0, .ref p1] [] h Q) : zC mX10_tellBallot [.ref t, .int p0, .ref p1] h Q := zC_of (by decide +kernel) (by simp) (Nat.le_of_ble_eq_true rfl) H
set_option maxHeartbeats 20000000 in
theorem bX10_hasName_0 (t : Nat) (p0 : Int32) (h : zH) (Q : Option Value → zH → Prop) (H : (p0 < 0 → (Q (some (.int (0 : Int32))) h)) ∧ (¬ (p0 < 0) → (oK h t 10 ∧ (((gI h t 6) ≤ p0 → (Q (some (.int (0 : Int32))) h)) ∧ (¬ ((gI h t 6) ≤ p0) → (Q (some (.int (1 : Int32))) h)))))) : zX mX10_hasName 0 [.ref t, .int p0] [] h Q := by
  refine zX_seg (pc' := 1) (L' := [.ref t, .int p0]) (st' := [.int p0]) (h2 := h) rfl rfl (fun C Cr hc kk => x_iload_n C rfl dX10_hasName_0 (kk)) ?_
  refine zX_br (p1 := 16) (p2 := 4) (st' := []) (p0 < 0) (fun C kt kf => x_if_lt C 16 dX10_hasName_1 (by decide) kt kf) (fun q1 => ?_) (fun q1 => ?_)
  · replace H := H.1 q1
    refine zX_seg (pc' := 17) (L' := [.ref t, .int p0]) (st' := [.int (0 : Int32)]) (h2 := h) rfl rfl (fun C Cr hc kk => x_iconst C (0 : Int32) (by decide) dX10_hasName_16 (kk)) ?_
    exact zX_ret (some (.int (0 : Int32))) (fun C Cr hc => x_iret C Cr rfl rfl hc dX10_hasName_17 ⟨rfl, rfl⟩) H
  · replace H := H.2 q1
    obtain ⟨g2, H⟩ := H
    refine zX_seg (pc' := 9) (L' := [.ref t, .int p0]) (st' := [.int (gI h t 6), .int p0]) (h2 := h) rfl rfl (fun C Cr hc kk => x_iload_n C rfl dX10_hasName_4 (x_aload_n C (v := .ref t) rfl rfl dX10_hasName_5 (f_getI C lX10_34 g2 rfl dX10_hasName_6 (kk)))) ?_
    refine zX_br (p1 := 16) (p2 := 12) (st' := []) ((gI h t 6) ≤ p0) (fun C kt kf => x_icmp_ge C 16 dX10_hasName_9 (by decide) kt kf) (fun q3 => ?_) (fun q3 => ?_)
    · replace H := H.1 q3
      refine zX_seg (pc' := 17) (L' := [.ref t, .int p0]) (st' := [.int (0 : Int32)]) (h2 := h) rfl rfl (fun C Cr hc kk => x_iconst C (0 : Int32) (by decide) dX10_hasName_16 (kk)) ?_
      exact zX_ret (some (.int (0 : Int32))) (fun C Cr hc => x_iret C Cr rfl rfl hc dX10_hasName_17 ⟨rfl, rfl⟩) H
    · replace H := H.2 q3
      refine zX_seg (pc' := 17) (L' := [.ref t, .int p0]) (st' := [.int (1 : Int32)]) (h2 := h) rfl rfl (fun C Cr hc kk => x_iconst C (1 : Int32) (by decide) dX10_hasName_12 (x_goto C 17 dX10_hasName_13 (by decide) (kk))) ?_
      exact zX_ret (some (.int (1 : Int32))) (fun C Cr hc => x_iret C Cr rfl rfl hc dX10_hasName_17 ⟨rfl, rfl⟩) H
theorem nX10_hasName (t : Nat) (p0 : Int32) (h : zH) (Q : Option Value → zH → Prop) (H : zX mX10_hasName 0 [.ref t, .int p0] [] h Q) : zC mX10_hasName [.ref t, .int p0] h Q := zC_of (by decide +kernel) (by simp) (Nat.le_of_ble_eq_true rfl) H
set_option maxHeartbeats 20000000 in
theorem bX10_hasVoter_0 (t : Nat) (p0 : Int32) (h : zH) (Q : Option Value → zH → Prop) (H : (p0 < 0 → (Q (some (.int (0 : Int32))) h)) ∧ (¬ (p0 < 0) → (oK h t 10 ∧ (((gI h t 8) ≤ p0 → (Q (some (.int (0 : Int32))) h)) ∧ (¬ ((gI h t 8) ≤ p0) → (Q (some (.int (1 : Int32))) h)))))) : zX mX10_hasVoter 0 [.ref t, .int p0] [] h Q := by
  refine zX_seg (pc' := 1) (L' := [.ref t, .int p0]) (st' := [.int p0]) (h2 := h) rfl rfl (fun C Cr hc kk => x_iload_n C rfl dX10_hasVoter_0 (kk)) ?_
  refine zX_br (p1 := 16) (p2 := 4) (st' := []) (p0 < 0) (fun C kt kf => x_if_lt C 16 dX10_hasVoter_1 (by decide) kt kf) (fun q1 => ?_) (fun q1 => ?_)
  · replace H := H.1 q1
    refine zX_seg (pc' := 17) (L' := [.ref t, .int p0]) (st' := [.int (0 : Int32)]) (h2 := h) rfl rfl (fun C Cr hc kk => x_iconst C (0 : Int32) (by decide) dX10_hasVoter_16 (kk)) ?_
    exact zX_ret (some (.int (0 : Int32))) (fun C Cr hc => x_iret C Cr rfl rfl hc dX10_hasVoter_17 ⟨rfl, rfl⟩) H
  · replace H := H.2 q1
    obtain ⟨g2, H⟩ := H
    refine zX_seg (pc' := 9) (L' := [.ref t, .int p0]) (st' := [.int (gI h t 8), .int p0]) (h2 := h) rfl rfl (fun C Cr hc kk => x_iload_n C rfl dX10_hasVoter_4 (x_aload_n C (v := .ref t) rfl rfl dX10_hasVoter_5 (f_getI C lX10_41 g2 rfl dX10_hasVoter_6 (kk)))) ?_
    refine zX_br (p1 := 16) (p2 := 12) (st' := []) ((gI h t 8) ≤ p0) (fun C kt kf => x_icmp_ge C 16 dX10_hasVoter_9 (by decide) kt kf) (fun q3 => ?_) (fun q3 => ?_)
    · replace H := H.1 q3
      refine zX_seg (pc' := 17) (L' := [.ref t, .int p0]) (st' := [.int (0 : Int32)]) (h2 := h) rfl rfl (fun C Cr hc kk => x_iconst C (0 : Int32) (by decide) dX10_hasVoter_16 (kk)) ?_
      exact zX_ret (some (.int (0 : Int32))) (fun C Cr hc => x_iret C Cr rfl rfl hc dX10_hasVoter_17 ⟨rfl, rfl⟩) H
    · replace H := H.2 q3
      refine zX_seg (pc' := 17) (L' := [.ref t, .int p0]) (st' := [.int (1 : Int32)]) (h2 := h) rfl rfl (fun C Cr hc kk => x_iconst C (1 : Int32) (by decide) dX10_hasVoter_12 (x_goto C 17 dX10_hasVoter_13 (by decide) (kk))) ?_
      exact zX_ret (some (.int (1 : Int32))) (fun C Cr hc => x_iret C Cr rfl rfl hc dX10_hasVoter_17 ⟨rfl, rfl⟩) H
theorem nX10_hasVoter (t : Nat) (p0 : Int32) (h : zH) (Q : Option Value → zH → Prop) (H : zX mX10_hasVoter 0 [.ref t, .int p0] [] h Q) : zC mX10_hasVoter [.ref t, .int p0] h Q := zC_of (by decide +kernel) (by simp) (Nat.le_of_ble_eq_true rfl) H
set_option maxHeartbeats 20000000 in
theorem bX10_hasMark_0 (t : Nat) (p0 : Int32) (h : zH) (Q : Option Value → zH → Prop) (H : (p0 < 0 → (Q (some (.int (0 : Int32))) h)) ∧ (¬ (p0 < 0) → (oK h t 10 ∧ (((gI h t 6) < p0 → (Q (some (.int (0 : Int32))) h)) ∧ (¬ ((gI h t 6) < p0) → (Q (some (.int (1 : Int32))) h)))))) : zX mX10_hasMark 0 [.ref t, .int p0] [] h Q := by
  refine zX_seg (pc' := 1) (L' := [.ref t, .int p0]) (st' := [.int p0]) (h2 := h) rfl rfl (fun C Cr hc kk => x_iload_n C rfl dX10_hasMark_0 (kk)) ?_
  refine zX_br (p1 := 16) (p2 := 4) (st' := []) (p0 < 0) (fun C kt kf => x_if_lt C 16 dX10_hasMark_1 (by decide) kt kf) (fun q1 => ?_) (fun q1 => ?_)
  · replace H := H.1 q1
    refine zX_seg (pc' := 17) (L' := [.ref t, .int p0]) (st' := [.int (0 : Int32)]) (h2 := h) rfl rfl (fun C Cr hc kk => x_iconst C (0 : Int32) (by decide) dX10_hasMark_16 (kk)) ?_
    exact zX_ret (some (.int (0 : Int32))) (fun C Cr hc => x_iret C Cr rfl rfl hc dX10_hasMark_17 ⟨rfl, rfl⟩) H
  · replace H := H.2 q1
    obtain ⟨g2, H⟩ := H
    refine zX_seg (pc' := 9) (L' := [.ref t, .int p0]) (st' := [.int (gI h t 6), .int p0]) (h2 := h) rfl rfl (fun C Cr hc kk => x_iload_n C rfl dX10_hasMark_4 (x_aload_n C (v := .ref t) rfl rfl dX10_hasMark_5 (f_getI C lX10_34 g2 rfl dX10_hasMark_6 (kk)))) ?_
    refine zX_br (p1 := 16) (p2 := 12) (st' := []) ((gI h t 6) < p0) (fun C kt kf => x_icmp_gt C 16 dX10_hasMark_9 (by decide) kt kf) (fun q3 => ?_) (fun q3 => ?_)
    · replace H := H.1 q3
      refine zX_seg (pc' := 17) (L' := [.ref t, .int p0]) (st' := [.int (0 : Int32)]) (h2 := h) rfl rfl (fun C Cr hc kk => x_iconst C (0 : Int32) (by decide) dX10_hasMark_16 (kk)) ?_
      exact zX_ret (some (.int (0 : Int32))) (fun C Cr hc => x_iret C Cr rfl rfl hc dX10_hasMark_17 ⟨rfl, rfl⟩) H
    · replace H := H.2 q3
      refine zX_seg (pc' := 17) (L' := [.ref t, .int p0]) (st' := [.int (1 : Int32)]) (h2 := h) rfl rfl (fun C Cr hc kk => x_iconst C (1 : Int32) (by decide) dX10_hasMark_12 (x_goto C 17 dX10_hasMark_13 (by decide) (kk))) ?_
      exact zX_ret (some (.int (1 : Int32))) (fun C Cr hc => x_iret C Cr rfl rfl hc dX10_hasMark_17 ⟨rfl, rfl⟩) H
theorem nX10_hasMark (t : Nat) (p0 : Int32) (h : zH) (Q : Option Value → zH → Prop) (H : zX mX10_hasMark 0 [.ref t, .int p0] [] h Q) : zC mX10_hasMark [.ref t, .int p0] h Q := zC_of (by decide +kernel) (by simp) (Nat.le_of_ble_eq_true rfl) H
set_option maxHeartbeats 20000000 in
theorem bX10_shiftOf_0 (t : Nat) (p0 : Int32) (h : zH) (Q : Option Value → zH → Prop) (H : oK h t 10 ∧ (Q (some (.int ((2 : Int32) * (((gI h t 8) - (1 : Int32)) - p0)))) h)) : zX mX10_shiftOf 0 [.ref t, .int p0] [] h Q := by
  obtain ⟨g1, H⟩ := H
  refine zX_seg (pc' := 10) (L' := [.ref t, .int p0]) (st' := [.int ((2 : Int32) * (((gI h t 8) - (1 : Int32)) - p0))]) (h2 := h) rfl rfl (fun C Cr hc kk => x_iconst C (2 : Int32) (by decide) dX10_shiftOf_0 (x_aload_n C (v := .ref t) rfl rfl dX10_shiftOf_1 (f_getI C lX10_41 g1 rfl dX10_shiftOf_2 (x_iconst C (1 : Int32) (by decide) dX10_shiftOf_5 (x_isub C dX10_shiftOf_6 (x_iload_n C rfl dX10_shiftOf_7 (x_isub C dX10_shiftOf_8 (x_imul C dX10_shiftOf_9 (kk))))))))) ?_
  exact zX_ret (some (.int ((2 : Int32) * (((gI h t 8) - (1 : Int32)) - p0)))) (fun C Cr hc => x_iret C Cr rfl rfl hc dX10_shiftOf_10 ⟨rfl, rfl⟩) H
theorem nX10_shiftOf (t : Nat) (p0 : Int32) (h : zH) (Q : Option Value → zH → Prop) (H : zX mX10_shiftOf 0 [.ref t, .int p0] [] h Q) : zC mX10_shiftOf [.ref t, .int p0] h Q := zC_of (by decide +kernel) (by simp) (Nat.le_of_ble_eq_true rfl) H
set_option maxHeartbeats 20000000 in
theorem bX10_markOf_0 (t : Nat) (p0 : Int32) (p1 : Int32) (h : zH) (Q : Option Value → zH → Prop) (H : oK h t 10 ∧ (zC mX10_shiftOf [.ref t, .int p1] h (fun r0 h2 => ∃ x3 : Int32, r0 = some (.int x3) ∧ (Q (some (.int ((p0 >>> (x3 &&& 31)) &&& (3 : Int32)))) h2)))) : zX mX10_markOf 0 [.ref t, .int p0, .int p1] [] h Q := by
  refine zX_seg (pc' := 3) (L' := [.ref t, .int p0, .int p1]) (st' := [.int p1, .ref t, .int p0]) (h2 := h) rfl rfl (fun C Cr hc kk => x_iload_n C rfl dX10_markOf_0 (x_aload_n C (v := .ref t) rfl rfl dX10_markOf_1 (x_iload_n C rfl dX10_markOf_2 (kk)))) ?_
  obtain ⟨g1, H⟩ := H
  refine zX_call (as := [.ref t, .int p1]) (st := [.int p0]) (fun C hM hc kk => f_callV C [.int p1] hM kX10_shiftOf vX10_shiftOf lX10_59 ⟨by decide, by decide⟩ (rfl : vwCl[10]? = some (RX10, TX10, 10)) g1 rfl hc (Nat.le_of_ble_eq_true rfl) rfl dX10_markOf_3 kk) (zC.mono H ?_)
  rintro r0 h2 ⟨x3, rfl, H⟩
  show zX mX10_markOf 6 [.ref t, .int p0, .int p1] [.int x3, .int p0] h2 Q
  refine zX_seg (pc' := 9) (L' := [.ref t, .int p0, .int p1]) (st' := [.int ((p0 >>> (x3 &&& 31)) &&& (3 : Int32))]) (h2 := h2) rfl rfl (fun C Cr hc kk => x_ishr C dX10_markOf_6 (x_iconst C (3 : Int32) (by decide) dX10_markOf_7 (x_iand C dX10_markOf_8 (kk)))) ?_
  exact zX_ret (some (.int ((p0 >>> (x3 &&& 31)) &&& (3 : Int32)))) (fun C Cr hc => x_iret C Cr rfl rfl hc dX10_markOf_9 ⟨rfl, rfl⟩) H
theorem nX10_markOf (t : Nat) (p0 : Int32) (p1 : Int32) (h : zH) (Q : Option Value → zH → Prop) (H : zX mX10_markOf 0 [.ref t, .int p0, .int p1] [] h Q) : zC mX10_markOf [.ref t, .int p0, .int p1] h Q := zC_of (by decide +kernel) (by simp) (Nat.le_of_ble_eq_true rfl) H
set_option maxHeartbeats 20000000 in
theorem bX10_withMark_0 (t : Nat) (p0 : Int32) (p1 : Int32) (p2 : Int32) (h : zH) (Q : Option Value → zH → Prop) (H : oK h t 10 ∧ (zC mX10_shiftOf [.ref t, .int p1] h (fun r0 h2 => ∃ x3 : Int32, r0 = some (.int x3) ∧ (oK h2 t 10 ∧ (zC mX10_shiftOf [.ref t, .int p1] h2 (fun r0 h5 => ∃ x6 : Int32, r0 = some (.int x6) ∧ (Q (some (.int ((p0 &&& (((3 : Int32) <<< (x3 &&& 31)) ^^^ (-1 : Int32))) ||| (p2 <<< (x6 &&& 31))))) h5))))))) : zX mX10_withMark 0 [.ref t, .int p0, .int p1, .int p2] [] h Q := by
  refine zX_seg (pc' := 4) (L' := [.ref t, .int p0, .int p1, .int p2]) (st' := [.int p1, .ref t, .int (3 : Int32), .int p0]) (h2 := h) rfl rfl (fun C Cr hc kk => x_iload_n C rfl dX10_withMark_0 (x_iconst C (3 : Int32) (by decide) dX10_withMark_1 (x_aload_n C (v := .ref t) rfl rfl dX10_withMark_2 (x_iload_n C rfl dX10_withMark_3 (kk))))) ?_
  obtain ⟨g1, H⟩ := H
  refine zX_call (as := [.ref t, .int p1]) (st := [.int (3 : Int32), .int p0]) (fun C hM hc kk => f_callV C [.int p1] hM kX10_shiftOf vX10_shiftOf lX10_59 ⟨by decide, by decide⟩ (rfl : vwCl[10]? = some (RX10, TX10, 10)) g1 rfl hc (Nat.le_of_ble_eq_true rfl) rfl dX10_withMark_4 kk) (zC.mono H ?_)
  rintro r0 h2 ⟨x3, rfl, H⟩
  show zX mX10_withMark 7 [.ref t, .int p0, .int p1, .int p2] [.int x3, .int (3 : Int32), .int p0] h2 Q
  refine zX_seg (pc' := 14) (L' := [.ref t, .int p0, .int p1, .int p2]) (st' := [.int p1, .ref t, .int p2, .int (p0 &&& (((3 : Int32) <<< (x3 &&& 31)) ^^^ (-1 : Int32)))]) (h2 := h2) rfl rfl (fun C Cr hc kk => x_ishl C dX10_withMark_7 (x_iconst C (-1 : Int32) (by decide) dX10_withMark_8 (x_ixor C dX10_withMark_9 (x_iand C dX10_withMark_10 (x_iload_n C rfl dX10_withMark_11 (x_aload_n C (v := .ref t) rfl rfl dX10_withMark_12 (x_iload_n C rfl dX10_withMark_13 (kk)))))))) ?_
  obtain ⟨g4, H⟩ := H
  refine zX_call (as := [.ref t, .int p1]) (st := [.int p2, .int (p0 &&& (((3 : Int32) <<< (x3 &&& 31)) ^^^ (-1 : Int32)))]) (fun C hM hc kk => f_callV C [.int p1] hM kX10_shiftOf vX10_shiftOf lX10_59 ⟨by decide, by decide⟩ (rfl : vwCl[10]? = some (RX10, TX10, 10)) g4 rfl hc (Nat.le_of_ble_eq_true rfl) rfl dX10_withMark_14 kk) (zC.mono H ?_)
  rintro r0 h5 ⟨x6, rfl, H⟩
  show zX mX10_withMark 17 [.ref t, .int p0, .int p1, .int p2] [.int x6, .int p2, .int (p0 &&& (((3 : Int32) <<< (x3 &&& 31)) ^^^ (-1 : Int32)))] h5 Q
  refine zX_seg (pc' := 19) (L' := [.ref t, .int p0, .int p1, .int p2]) (st' := [.int ((p0 &&& (((3 : Int32) <<< (x3 &&& 31)) ^^^ (-1 : Int32))) ||| (p2 <<< (x6 &&& 31)))]) (h2 := h5) rfl rfl (fun C Cr hc kk => x_ishl C dX10_withMark_17 (x_ior C dX10_withMark_18 (kk))) ?_
  exact zX_ret (some (.int ((p0 &&& (((3 : Int32) <<< (x3 &&& 31)) ^^^ (-1 : Int32))) ||| (p2 <<< (x6 &&& 31))))) (fun C Cr hc => x_iret C Cr rfl rfl hc dX10_withMark_19 ⟨rfl, rfl⟩) H
theorem nX10_withMark (t : Nat) (p0 : Int32) (p1 : Int32) (p2 : Int32) (h : zH) (Q : Option Value → zH → Prop) (H : zX mX10_withMark 0 [.ref t, .int p0, .int p1, .int p2] [] h Q) : zC mX10_withMark [.ref t, .int p0, .int p1, .int p2] h Q := zC_of (by decide +kernel) (by simp) (Nat.le_of_ble_eq_true rfl) H
set_option maxHeartbeats 20000000 in
theorem bX10_canBe_0 (t : Nat) (p0 : Int32) (h : zH) (Q : Option Value → zH → Prop) (H : oK h t 10 ∧ (((gI h t 6) = 0 → (zX mX10_canBe 32 [.float 0, .int p0] [] h Q)) ∧ (((gI h t 6) = 1 → (zX mX10_canBe 42 [.float 0, .int p0] [] h Q)) ∧ (((gI h t 6) = 2 → (zX mX10_canBe 55 [.float 0, .int p0] [] h Q)) ∧ (¬ (gI h t 6) = 0 → ¬ (gI h t 6) = 1 → ¬ (gI h t 6) = 2 → (zX mX10_canBe 73 [.float 0, .float 0] [] h Q)))))) : zX mX10_canBe 0 [.ref t, .int p0] [] h Q := by
  obtain ⟨g1, H⟩ := H
  refine zX_seg (pc' := (ztt 4 69 0 2 [28, 38, 51] (gI h t 6))) (L' := [.ref t, .int p0]) (st' := []) (h2 := h) rfl rfl (fun C Cr hc kk => x_aload_n C (v := .ref t) rfl rfl dX10_canBe_0 (f_getI C lX10_34 g1 rfl dX10_canBe_1 (f_table C ⟨⟨by decide, by decide⟩, by decide⟩ dX10_canBe_4 (kk)))) ?_
  by_cases z2 : (gI h t 6) = 0
  · replace H := H.1 z2
    rw [show (ztt 4 69 0 2 [28, 38, 51] (gI h t 6)) = 32 from by rw [z2]; decide]
    exact zX_wk (wkD (wkK wkN)) H
  · replace H := H.2
    by_cases z3 : (gI h t 6) = 1
    · replace H := H.1 z3
      rw [show (ztt 4 69 0 2 [28, 38, 51] (gI h t 6)) = 42 from by rw [z3]; decide]
      exact zX_wk (wkD (wkK wkN)) H
    · replace H := H.2
      by_cases z4 : (gI h t 6) = 2
      · replace H := H.1 z4
        rw [show (ztt 4 69 0 2 [28, 38, 51] (gI h t 6)) = 55 from by rw [z4]; decide]
        exact zX_wk (wkD (wkK wkN)) H
      · replace H := H.2
        rw [show (ztt 4 69 0 2 [28, 38, 51] (gI h t 6)) = 73 from (ztt_d [0, 1, 2] (by decide) (by decide) (List.forall_mem_cons.mpr ⟨z2, (List.forall_mem_cons.mpr ⟨z3, (List.forall_mem_cons.mpr ⟨z4, (fun _ h => absurd h List.not_mem_nil)⟩)⟩)⟩)).trans (by decide)]
        replace H := H z2 z3 z4
        exact zX_wk (wkD (wkD wkN)) H
set_option maxHeartbeats 20000000 in
theorem bX10_canBe_32 (l1 : Int32) (h : zH) (Q : Option Value → zH → Prop) (H : (l1 = 0 → (Q (some (.int (1 : Int32))) h)) ∧ (¬ (l1 = 0) → (Q (some (.int (0 : Int32))) h))) : zX mX10_canBe 32 [.float 0, .int l1] [] h Q := by
  refine zX_seg (pc' := 33) (L' := [.float 0, .int l1]) (st' := [.int l1]) (h2 := h) rfl rfl (fun C Cr hc kk => x_iload_n C rfl dX10_canBe_32 (kk)) ?_
  refine zX_br (p1 := 36) (p2 := 40) (st' := []) (l1 = 0) (fun C kt kf => x_if_ne C 40 dX10_canBe_33 (by decide) kf kt) (fun q1 => ?_) (fun q1 => ?_)
  · replace H := H.1 q1
    refine zX_seg (pc' := 41) (L' := [.float 0, .int l1]) (st' := [.int (1 : Int32)]) (h2 := h) rfl rfl (fun C Cr hc kk => x_iconst C (1 : Int32) (by decide) dX10_canBe_36 (x_goto C 41 dX10_canBe_37 (by decide) (kk))) ?_
    exact zX_ret (some (.int (1 : Int32))) (fun C Cr hc => x_iret C Cr rfl rfl hc dX10_canBe_41 ⟨rfl, rfl⟩) H
  · replace H := H.2 q1
    refine zX_seg (pc' := 41) (L' := [.float 0, .int l1]) (st' := [.int (0 : Int32)]) (h2 := h) rfl rfl (fun C Cr hc kk => x_iconst C (0 : Int32) (by decide) dX10_canBe_40 (kk)) ?_
    exact zX_ret (some (.int (0 : Int32))) (fun C Cr hc => x_iret C Cr rfl rfl hc dX10_canBe_41 ⟨rfl, rfl⟩) H
set_option maxHeartbeats 20000000 in
theorem bX10_canBe_42 (l1 : Int32) (h : zH) (Q : Option Value → zH → Prop) (H : ((l1 &&& (43690 : Int32)) = 0 → (Q (some (.int (1 : Int32))) h)) ∧ (¬ ((l1 &&& (43690 : Int32)) = 0) → (Q (some (.int (0 : Int32))) h))) : zX mX10_canBe 42 [.float 0, .int l1] [] h Q := by
  refine zX_seg (pc' := 46) (L' := [.float 0, .int l1]) (st' := [.int (l1 &&& (43690 : Int32))]) (h2 := h) rfl rfl (fun C Cr hc kk => x_iload_n C rfl dX10_canBe_42 (x_ldc C lX10_63 dX10_canBe_43 (x_iand C dX10_canBe_45 (kk)))) ?_
  refine zX_br (p1 := 49) (p2 := 53) (st' := []) ((l1 &&& (43690 : Int32)) = 0) (fun C kt kf => x_if_ne C 53 dX10_canBe_46 (by decide) kf kt) (fun q1 => ?_) (fun q1 => ?_)
  · replace H := H.1 q1
    refine zX_seg (pc' := 54) (L' := [.float 0, .int l1]) (st' := [.int (1 : Int32)]) (h2 := h) rfl rfl (fun C Cr hc kk => x_iconst C (1 : Int32) (by decide) dX10_canBe_49 (x_goto C 54 dX10_canBe_50 (by decide) (kk))) ?_
    exact zX_ret (some (.int (1 : Int32))) (fun C Cr hc => x_iret C Cr rfl rfl hc dX10_canBe_54 ⟨rfl, rfl⟩) H
  · replace H := H.2 q1
    refine zX_seg (pc' := 54) (L' := [.float 0, .int l1]) (st' := [.int (0 : Int32)]) (h2 := h) rfl rfl (fun C Cr hc kk => x_iconst C (0 : Int32) (by decide) dX10_canBe_53 (kk)) ?_
    exact zX_ret (some (.int (0 : Int32))) (fun C Cr hc => x_iret C Cr rfl rfl hc dX10_canBe_54 ⟨rfl, rfl⟩) H
set_option maxHeartbeats 20000000 in
theorem bX10_canBe_55 (l1 : Int32) (h : zH) (Q : Option Value → zH → Prop) (H : (((l1 &&& (l1 >>> ((1 : Int32) &&& 31))) &&& (21845 : Int32)) = 0 → (Q (some (.int (1 : Int32))) h)) ∧ (¬ (((l1 &&& (l1 >>> ((1 : Int32) &&& 31))) &&& (21845 : Int32)) = 0) → (Q (some (.int (0 : Int32))) h))) : zX mX10_canBe 55 [.float 0, .int l1] [] h Q := by
  refine zX_seg (pc' := 64) (L' := [.float 0, .int l1]) (st' := [.int ((l1 &&& (l1 >>> ((1 : Int32) &&& 31))) &&& (21845 : Int32))]) (h2 := h) rfl rfl (fun C Cr hc kk => x_iload_n C rfl dX10_canBe_55 (x_iload_n C rfl dX10_canBe_56 (x_iconst C (1 : Int32) (by decide) dX10_canBe_57 (x_ishr C dX10_canBe_58 (x_iand C dX10_canBe_59 (x_sipush C (21845 : Int32) (by decide) dX10_canBe_60 (x_iand C dX10_canBe_63 (kk)))))))) ?_
  refine zX_br (p1 := 67) (p2 := 71) (st' := []) (((l1 &&& (l1 >>> ((1 : Int32) &&& 31))) &&& (21845 : Int32)) = 0) (fun C kt kf => x_if_ne C 71 dX10_canBe_64 (by decide) kf kt) (fun q1 => ?_) (fun q1 => ?_)
  · replace H := H.1 q1
    refine zX_seg (pc' := 72) (L' := [.float 0, .int l1]) (st' := [.int (1 : Int32)]) (h2 := h) rfl rfl (fun C Cr hc kk => x_iconst C (1 : Int32) (by decide) dX10_canBe_67 (x_goto C 72 dX10_canBe_68 (by decide) (kk))) ?_
    exact zX_ret (some (.int (1 : Int32))) (fun C Cr hc => x_iret C Cr rfl rfl hc dX10_canBe_72 ⟨rfl, rfl⟩) H
  · replace H := H.2 q1
    refine zX_seg (pc' := 72) (L' := [.float 0, .int l1]) (st' := [.int (0 : Int32)]) (h2 := h) rfl rfl (fun C Cr hc kk => x_iconst C (0 : Int32) (by decide) dX10_canBe_71 (kk)) ?_
    exact zX_ret (some (.int (0 : Int32))) (fun C Cr hc => x_iret C Cr rfl rfl hc dX10_canBe_72 ⟨rfl, rfl⟩) H
set_option maxHeartbeats 20000000 in
theorem bX10_canBe_73  (h : zH) (Q : Option Value → zH → Prop) (H : Q (some (.int (1 : Int32))) h) : zX mX10_canBe 73 [.float 0, .float 0] [] h Q := by
  refine zX_seg (pc' := 74) (L' := [.float 0, .float 0]) (st' := [.int (1 : Int32)]) (h2 := h) rfl rfl (fun C Cr hc kk => x_iconst C (1 : Int32) (by decide) dX10_canBe_73 (kk)) ?_
  exact zX_ret (some (.int (1 : Int32))) (fun C Cr hc => x_iret C Cr rfl rfl hc dX10_canBe_74 ⟨rfl, rfl⟩) H
theorem nX10_canBe (t : Nat) (p0 : Int32) (h : zH) (Q : Option Value → zH → Prop) (H : zX mX10_canBe 0 [.ref t, .int p0] [] h Q) : zC mX10_canBe [.ref t, .int p0] h Q := zC_of (by decide +kernel) (by simp) (Nat.le_of_ble_eq_true rfl) H
set_option maxHeartbeats 20000000 in
theorem bX10_bitsInRows_0 (t : Nat) (p0 : Int32) (h : zH) (Q : Option Value → zH → Prop) (H : zX mX10_bitsInRows 4 [.ref t, .int p0, .int (0 : Int32), .int (0 : Int32)] [] h Q) : zX mX10_bitsInRows 0 [.ref t, .int p0, .float 0, .float 0] [] h Q := by
  refine zX_seg (pc' := 4) (L' := [.ref t, .int p0, .int (0 : Int32), .int (0 : Int32)]) (st' := []) (h2 := h) rfl rfl (fun C Cr hc kk => x_iconst C (0 : Int32) (by decide) dX10_bitsInRows_0 (x_istore_n C (by decide) dX10_bitsInRows_1 (x_iconst C (0 : Int32) (by decide) dX10_bitsInRows_2 (x_istore_n C (by decide) dX10_bitsInRows_3 (kk))))) ?_
  exact zX_wk (wkK (wkK (wkK (wkK wkN)))) H
set_option maxHeartbeats 20000000 in
theorem bX10_bitsInRows_4 (l0 : Nat) (l1 : Int32) (l2 : Int32) (l3 : Int32) (h : zH) (Q : Option Value → zH → Prop) (H : oK h l0 10 ∧ (((gI h l0 8) ≤ l3 → (Q (some (.int l2)) h)) ∧ (¬ ((gI h l0 8) ≤ l3) → ((((l1 >>> (l3 &&& 31)) &&& (1 : Int32)) = (1 : Int32) → (zC mX10_shiftOf [.ref l0, .int l3] h (fun r0 h4 => ∃ x5 : Int32, r0 = some (.int x5) ∧ (zX mX10_bitsInRows 4 [.ref l0, .int l1, .int (l2 ||| ((3 : Int32) <<< (x5 &&& 31))), .int (l3 + 1)] [] h4 Q)))) ∧ (¬ (((l1 >>> (l3 &&& 31)) &&& (1 : Int32)) = (1 : Int32)) → (zX mX10_bitsInRows 4 [.ref l0, .int l1, .int l2, .int (l3 + 1)] [] h Q)))))) : zX mX10_bitsInRows 4 [.ref l0, .int l1, .int l2, .int l3] [] h Q := by
  obtain ⟨g1, H⟩ := H
  refine zX_seg (pc' := 9) (L' := [.ref l0, .int l1, .int l2, .int l3]) (st' := [.int (gI h l0 8), .int l3]) (h2 := h) rfl rfl (fun C Cr hc kk => x_iload_n C rfl dX10_bitsInRows_4 (x_aload_n C (v := .ref l0) rfl rfl dX10_bitsInRows_5 (f_getI C lX10_41 g1 rfl dX10_bitsInRows_6 (kk)))) ?_
  refine zX_br (p1 := 37) (p2 := 12) (st' := []) ((gI h l0 8) ≤ l3) (fun C kt kf => x_icmp_ge C 37 dX10_bitsInRows_9 (by decide) kt kf) (fun q2 => ?_) (fun q2 => ?_)
  · replace H := H.1 q2
    refine zX_seg (pc' := 38) (L' := [.ref l0, .int l1, .int l2, .int l3]) (st' := [.int l2]) (h2 := h) rfl rfl (fun C Cr hc kk => x_iload_n C rfl dX10_bitsInRows_37 (kk)) ?_
    exact zX_ret (some (.int l2)) (fun C Cr hc => x_iret C Cr rfl rfl hc dX10_bitsInRows_38 ⟨rfl, rfl⟩) H
  · replace H := H.2 q2
    refine zX_seg (pc' := 18) (L' := [.ref l0, .int l1, .int l2, .int l3]) (st' := [.int (1 : Int32), .int ((l1 >>> (l3 &&& 31)) &&& (1 : Int32))]) (h2 := h) rfl rfl (fun C Cr hc kk => x_iload_n C rfl dX10_bitsInRows_12 (x_iload_n C rfl dX10_bitsInRows_13 (x_ishr C dX10_bitsInRows_14 (x_iconst C (1 : Int32) (by decide) dX10_bitsInRows_15 (x_iand C dX10_bitsInRows_16 (x_iconst C (1 : Int32) (by decide) dX10_bitsInRows_17 (kk))))))) ?_
    refine zX_br (p1 := 21) (p2 := 31) (st' := []) (((l1 >>> (l3 &&& 31)) &&& (1 : Int32)) = (1 : Int32)) (fun C kt kf => x_icmp_ne C 31 dX10_bitsInRows_18 (by decide) kf kt) (fun q3 => ?_) (fun q3 => ?_)
    · replace H := H.1 q3
      refine zX_seg (pc' := 25) (L' := [.ref l0, .int l1, .int l2, .int l3]) (st' := [.int l3, .ref l0, .int (3 : Int32), .int l2]) (h2 := h) rfl rfl (fun C Cr hc kk => x_iload_n C rfl dX10_bitsInRows_21 (x_iconst C (3 : Int32) (by decide) dX10_bitsInRows_22 (x_aload_n C (v := .ref l0) rfl rfl dX10_bitsInRows_23 (x_iload_n C rfl dX10_bitsInRows_24 (kk))))) ?_
      refine zX_call (as := [.ref l0, .int l3]) (st := [.int (3 : Int32), .int l2]) (fun C hM hc kk => f_callV C [.int l3] hM kX10_shiftOf vX10_shiftOf lX10_59 ⟨by decide, by decide⟩ (rfl : vwCl[10]? = some (RX10, TX10, 10)) g1 rfl hc (Nat.le_of_ble_eq_true rfl) rfl dX10_bitsInRows_25 kk) (zC.mono H ?_)
      rintro r0 h4 ⟨x5, rfl, H⟩
      show zX mX10_bitsInRows 28 [.ref l0, .int l1, .int l2, .int l3] [.int x5, .int (3 : Int32), .int l2] h4 Q
      refine zX_seg (pc' := 4) (L' := [.ref l0, .int l1, .int (l2 ||| ((3 : Int32) <<< (x5 &&& 31))), .int (l3 + 1)]) (st' := []) (h2 := h4) rfl rfl (fun C Cr hc kk => x_ishl C dX10_bitsInRows_28 (x_ior C dX10_bitsInRows_29 (x_istore_n C (by decide) dX10_bitsInRows_30 (x_iinc C (l3 + 1) rfl (congrArg (HAdd.hAdd _) (by decide)) (by decide) dX10_bitsInRows_31 (x_goto C 4 dX10_bitsInRows_34 (by decide) (kk)))))) ?_
      exact zX_wk (wkK (wkK (wkK (wkK wkN)))) H
    · replace H := H.2 q3
      refine zX_seg (pc' := 4) (L' := [.ref l0, .int l1, .int l2, .int (l3 + 1)]) (st' := []) (h2 := h) rfl rfl (fun C Cr hc kk => x_iinc C (l3 + 1) rfl (congrArg (HAdd.hAdd _) (by decide)) (by decide) dX10_bitsInRows_31 (x_goto C 4 dX10_bitsInRows_34 (by decide) (kk))) ?_
      exact zX_wk (wkK (wkK (wkK (wkK wkN)))) H
theorem nX10_bitsInRows (t : Nat) (p0 : Int32) (h : zH) (Q : Option Value → zH → Prop) (H : zX mX10_bitsInRows 0 [.ref t, .int p0, .float 0, .float 0] [] h Q) : zC mX10_bitsInRows [.ref t, .int p0] h Q := zC_of (by decide +kernel) (by simp) (Nat.le_of_ble_eq_true rfl) H
set_option maxHeartbeats 20000000 in
theorem bX10_looksOf_0 (t : Nat) (p0 : Int32) (p1 : Nat) (h : zH) (Q : Option Value → zH → Prop) (H : oK h p1 0 ∧ (zX mX10_looksOf 8 [.ref t, .int p0, .ref p1, .int (gI h p1 2), .int (0 : Int32), .float 0] [] h Q)) : zX mX10_looksOf 0 [.ref t, .int p0, .ref p1, .float 0, .float 0, .float 0] [] h Q := by
  obtain ⟨g1, H⟩ := H
  refine zX_seg (pc' := 8) (L' := [.ref t, .int p0, .ref p1, .int (gI h p1 2), .int (0 : Int32), .float 0]) (st' := []) (h2 := h) rfl rfl (fun C Cr hc kk => x_aload_n C (v := .ref p1) rfl rfl dX10_looksOf_0 (f_getIN C lX10_64 g1 rfl dX10_looksOf_1 (x_istore_n C (by decide) dX10_looksOf_4 (x_iconst C (0 : Int32) (by decide) dX10_looksOf_5 (x_istore C (by decide) dX10_looksOf_6 (kk)))))) ?_
  exact zX_wk (wkK (wkK (wkK (wkK (wkK (wkD wkN)))))) H
set_option maxHeartbeats 20000000 in
theorem bX10_looksOf_8 (l0 : Nat) (l1 : Int32) (l2 : Nat) (l3 : Int32) (l4 : Int32) (h : zH) (Q : Option Value → zH → Prop) (H : oK h l0 10 ∧ (((gI h l0 8) ≤ l4 → (Q (some (.int (l3 &&& (((1 : Int32) <<< (l1 &&& 31)) ^^^ (-1 : Int32))))) h)) ∧ (¬ ((gI h l0 8) ≤ l4) → (∃ a3 : Nat, gR h l0 3 = some a3 ∧ (zC mX11_at [.ref a3, .int l4] h (fun r0 h4 => ∃ x5 : Int32, r0 = some (.int x5) ∧ (oK h4 l2 0 ∧ ((((gI h4 l2 3) &&& ((1 : Int32) ||| ((1 : Int32) <<< ((x5 + (1 : Int32)) &&& 31)))) = 0 → (zX mX10_looksOf 8 [.ref l0, .int l1, .ref l2, .int l3, .int (l4 + 1), .float 0] [] h4 Q)) ∧ (¬ (((gI h4 l2 3) &&& ((1 : Int32) ||| ((1 : Int32) <<< ((x5 + (1 : Int32)) &&& 31)))) = 0) → (zX mX10_looksOf 8 [.ref l0, .int l1, .ref l2, .int (l3 ||| ((1 : Int32) <<< (l4 &&& 31))), .int (l4 + 1), .float 0] [] h4 Q)))))))))) : zX mX10_looksOf 8 [.ref l0, .int l1, .ref l2, .int l3, .int l4, .float 0] [] h Q := by
  obtain ⟨g1, H⟩ := H
  refine zX_seg (pc' := 14) (L' := [.ref l0, .int l1, .ref l2, .int l3, .int l4, .float 0]) (st' := [.int (gI h l0 8), .int l4]) (h2 := h) rfl rfl (fun C Cr hc kk => x_iload C rfl dX10_looksOf_8 (x_aload_n C (v := .ref l0) rfl rfl dX10_looksOf_10 (f_getI C lX10_41 g1 rfl dX10_looksOf_11 (kk)))) ?_
  refine zX_br (p1 := 57) (p2 := 17) (st' := []) ((gI h l0 8) ≤ l4) (fun C kt kf => x_icmp_ge C 57 dX10_looksOf_14 (by decide) kt kf) (fun q2 => ?_) (fun q2 => ?_)
  · replace H := H.1 q2
    refine zX_seg (pc' := 64) (L' := [.ref l0, .int l1, .ref l2, .int l3, .int l4, .float 0]) (st' := [.int (l3 &&& (((1 : Int32) <<< (l1 &&& 31)) ^^^ (-1 : Int32)))]) (h2 := h) rfl rfl (fun C Cr hc kk => x_iload_n C rfl dX10_looksOf_57 (x_iconst C (1 : Int32) (by decide) dX10_looksOf_58 (x_iload_n C rfl dX10_looksOf_59 (x_ishl C dX10_looksOf_60 (x_iconst C (-1 : Int32) (by decide) dX10_looksOf_61 (x_ixor C dX10_looksOf_62 (x_iand C dX10_looksOf_63 (kk)))))))) ?_
    exact zX_ret (some (.int (l3 &&& (((1 : Int32) <<< (l1 &&& 31)) ^^^ (-1 : Int32))))) (fun C Cr hc => x_iret C Cr rfl rfl hc dX10_looksOf_64 ⟨rfl, rfl⟩) H
  · replace H := H.2 q2
    obtain ⟨a3, ea3, H⟩ := H
    refine zX_seg (pc' := 25) (L' := [.ref l0, .int l1, .ref l2, .int l3, .int l4, .float 0]) (st' := [.int l4, .ref a3, .int (1 : Int32), .int (1 : Int32)]) (h2 := h) rfl rfl (fun C Cr hc kk => x_iconst C (1 : Int32) (by decide) dX10_looksOf_17 (x_iconst C (1 : Int32) (by decide) dX10_looksOf_18 (x_aload_n C (v := .ref l0) rfl rfl dX10_looksOf_19 (f_getR1 C lX10_21 g1 rfl ea3 dX10_looksOf_20 (x_iload C rfl dX10_looksOf_23 (kk)))))) ?_
    refine zX_call (as := [.ref a3, .int l4]) (st := [.int (1 : Int32), .int (1 : Int32)]) (fun C hM hc kk => x_callSN C [.ref a3, .int l4] hM kX11_at sX11_at lX10_47 ⟨by decide, by decide⟩ rfl hc (Nat.le_of_ble_eq_true rfl) rfl dX10_looksOf_25 kk) (zC.mono H ?_)
    rintro r0 h4 ⟨x5, rfl, H⟩
    show zX mX10_looksOf 28 [.ref l0, .int l1, .ref l2, .int l3, .int l4, .float 0] [.int x5, .int (1 : Int32), .int (1 : Int32)] h4 Q
    obtain ⟨g6, H⟩ := H
    refine zX_seg (pc' := 41) (L' := [.ref l0, .int l1, .ref l2, .int l3, .int l4, .int ((1 : Int32) ||| ((1 : Int32) <<< ((x5 + (1 : Int32)) &&& 31)))]) (st' := [.int ((gI h4 l2 3) &&& ((1 : Int32) ||| ((1 : Int32) <<< ((x5 + (1 : Int32)) &&& 31))))]) (h2 := h4) rfl rfl (fun C Cr hc kk => x_iconst C (1 : Int32) (by decide) dX10_looksOf_28 (x_iadd C dX10_looksOf_29 (x_ishl C dX10_looksOf_30 (x_ior C dX10_looksOf_31 (x_istore C (by decide) dX10_looksOf_32 (x_aload_n C (v := .ref l2) rfl rfl dX10_looksOf_34 (f_getIN C lX10_65 g6 rfl dX10_looksOf_35 (x_iload C rfl dX10_looksOf_38 (x_iand C dX10_looksOf_40 (kk)))))))))) ?_
    refine zX_br (p1 := 51) (p2 := 44) (st' := []) (((gI h4 l2 3) &&& ((1 : Int32) ||| ((1 : Int32) <<< ((x5 + (1 : Int32)) &&& 31)))) = 0) (fun C kt kf => x_if_eq C 51 dX10_looksOf_41 (by decide) kt kf) (fun q7 => ?_) (fun q7 => ?_)
    · replace H := H.1 q7
      refine zX_seg (pc' := 8) (L' := [.ref l0, .int l1, .ref l2, .int l3, .int (l4 + 1), .int ((1 : Int32) ||| ((1 : Int32) <<< ((x5 + (1 : Int32)) &&& 31)))]) (st' := []) (h2 := h4) rfl rfl (fun C Cr hc kk => x_iinc C (l4 + 1) rfl (congrArg (HAdd.hAdd _) (by decide)) (by decide) dX10_looksOf_51 (x_goto C 8 dX10_looksOf_54 (by decide) (kk))) ?_
      exact zX_wk (wkK (wkK (wkK (wkK (wkK (wkD wkN)))))) H
    · replace H := H.2 q7
      refine zX_seg (pc' := 8) (L' := [.ref l0, .int l1, .ref l2, .int (l3 ||| ((1 : Int32) <<< (l4 &&& 31))), .int (l4 + 1), .int ((1 : Int32) ||| ((1 : Int32) <<< ((x5 + (1 : Int32)) &&& 31)))]) (st' := []) (h2 := h4) rfl rfl (fun C Cr hc kk => x_iload_n C rfl dX10_looksOf_44 (x_iconst C (1 : Int32) (by decide) dX10_looksOf_45 (x_iload C rfl dX10_looksOf_46 (x_ishl C dX10_looksOf_48 (x_ior C dX10_looksOf_49 (x_istore_n C (by decide) dX10_looksOf_50 (x_iinc C (l4 + 1) rfl (congrArg (HAdd.hAdd _) (by decide)) (by decide) dX10_looksOf_51 (x_goto C 8 dX10_looksOf_54 (by decide) (kk))))))))) ?_
      exact zX_wk (wkK (wkK (wkK (wkK (wkK (wkD wkN)))))) H
theorem nX10_looksOf (t : Nat) (p0 : Int32) (p1 : Nat) (h : zH) (Q : Option Value → zH → Prop) (H : zX mX10_looksOf 0 [.ref t, .int p0, .ref p1, .float 0, .float 0, .float 0] [] h Q) : zC mX10_looksOf [.ref t, .int p0, .ref p1] h Q := zC_of (by decide +kernel) (by simp) (Nat.le_of_ble_eq_true rfl) H
set_option maxHeartbeats 20000000 in
theorem bX10_votes_0 (t : Nat) (p0 : Int32) (p1 : Int32) (p2 : Int32) (p3 : Int32) (h : zH) (Q : Option Value → zH → Prop) (H : oK h t 10 ∧ (zX mX10_votes 14 [.ref t, .float 0, .int p1, .int p2, .int p3, .int (0 : Int32), .int p0, .int ((gI h t 8) - (1 : Int32)), .float 0] [] h Q)) : zX mX10_votes 0 [.ref t, .int p0, .int p1, .int p2, .int p3, .float 0, .float 0, .float 0, .float 0] [] h Q := by
  obtain ⟨g1, H⟩ := H
  refine zX_seg (pc' := 14) (L' := [.ref t, .int p0, .int p1, .int p2, .int p3, .int (0 : Int32), .int p0, .int ((gI h t 8) - (1 : Int32)), .float 0]) (st' := []) (h2 := h) rfl rfl (fun C Cr hc kk => x_iconst C (0 : Int32) (by decide) dX10_votes_0 (x_istore C (by decide) dX10_votes_1 (x_iload_n C rfl dX10_votes_3 (x_istore C (by decide) dX10_votes_4 (x_aload_n C (v := .ref t) rfl rfl dX10_votes_6 (f_getI C lX10_41 g1 rfl dX10_votes_7 (x_iconst C (1 : Int32) (by decide) dX10_votes_10 (x_isub C dX10_votes_11 (x_istore C (by decide) dX10_votes_12 (kk)))))))))) ?_
  exact zX_wk (wkK (wkD (wkK (wkK (wkK (wkK (wkK (wkK (wkD wkN))))))))) H
set_option maxHeartbeats 20000000 in
theorem bX10_votes_14 (l0 : Nat) (l2 : Int32) (l3 : Int32) (l4 : Int32) (l5 : Int32) (l6 : Int32) (l7 : Int32) (h : zH) (Q : Option Value → zH → Prop) (H : (l7 < 0 → (Q (some (.int l5)) h)) ∧ (¬ (l7 < 0) → (((l6 &&& (3 : Int32)) = l4 → ((l7 = l2 → (zX mX10_votes 83 [.ref l0, .float 0, .int l2, .int l3, .int l4, .int l5, .int l6, .int l7, .float 0] [] h Q)) ∧ (¬ (l7 = l2) → ((l3 = 0 → (zX mX10_votes 53 [.ref l0, .float 0, .int l2, .int l3, .int l4, .int l5, .int l6, .int l7, .float 0] [] h Q)) ∧ (¬ (l3 = 0) → (oK h l0 10 ∧ (∃ a6 : Nat, gR h l0 3 = some a6 ∧ (zC mX11_at [.ref a6, .int l7] h (fun r0 h7 => ∃ x8 : Int32, r0 = some (.int x8) ∧ ((l3 = (x8 + (1 : Int32)) → (zX mX10_votes 53 [.ref l0, .float 0, .int l2, .int l3, .int l4, .int l5, .int l6, .int l7, .float 0] [] h7 Q)) ∧ (¬ (l3 = (x8 + (1 : Int32))) → (zX mX10_votes 58 [.ref l0, .float 0, .int l2, .int l3, .int l4, .int l5, .int l6, .int l7, .float 0] [.int (0 : Int32)] h7 Q)))))))))))) ∧ (¬ ((l6 &&& (3 : Int32)) = l4) → (zX mX10_votes 83 [.ref l0, .float 0, .int l2, .int l3, .int l4, .int l5, .int l6, .int l7, .float 0] [] h Q))))) : zX mX10_votes 14 [.ref l0, .float 0, .int l2, .int l3, .int l4, .int l5, .int l6, .int l7, .float 0] [] h Q := by
  refine zX_seg (pc' := 16) (L' := [.ref l0, .float 0, .int l2, .int l3, .int l4, .int l5, .int l6, .int l7, .float 0]) (st' := [.int l7]) (h2 := h) rfl rfl (fun C Cr hc kk => x_iload C rfl dX10_votes_14 (kk)) ?_
  refine zX_br (p1 := 95) (p2 := 19) (st' := []) (l7 < 0) (fun C kt kf => x_if_lt C 95 dX10_votes_16 (by decide) kt kf) (fun q1 => ?_) (fun q1 => ?_)
  · replace H := H.1 q1
    refine zX_seg (pc' := 97) (L' := [.ref l0, .float 0, .int l2, .int l3, .int l4, .int l5, .int l6, .int l7, .float 0]) (st' := [.int l5]) (h2 := h) rfl rfl (fun C Cr hc kk => x_iload C rfl dX10_votes_95 (kk)) ?_
    exact zX_ret (some (.int l5)) (fun C Cr hc => x_iret C Cr rfl rfl hc dX10_votes_97 ⟨rfl, rfl⟩) H
  · replace H := H.2 q1
    refine zX_seg (pc' := 25) (L' := [.ref l0, .float 0, .int l2, .int l3, .int l4, .int l5, .int l6, .int l7, .float 0]) (st' := [.int l4, .int (l6 &&& (3 : Int32))]) (h2 := h) rfl rfl (fun C Cr hc kk => x_iload C rfl dX10_votes_19 (x_iconst C (3 : Int32) (by decide) dX10_votes_21 (x_iand C dX10_votes_22 (x_iload C rfl dX10_votes_23 (kk))))) ?_
    refine zX_br (p1 := 28) (p2 := 83) (st' := []) ((l6 &&& (3 : Int32)) = l4) (fun C kt kf => x_icmp_ne C 83 dX10_votes_25 (by decide) kf kt) (fun q2 => ?_) (fun q2 => ?_)
    · replace H := H.1 q2
      refine zX_seg (pc' := 31) (L' := [.ref l0, .float 0, .int l2, .int l3, .int l4, .int l5, .int l6, .int l7, .float 0]) (st' := [.int l2, .int l7]) (h2 := h) rfl rfl (fun C Cr hc kk => x_iload C rfl dX10_votes_28 (x_iload_n C rfl dX10_votes_30 (kk))) ?_
      refine zX_br (p1 := 83) (p2 := 34) (st' := []) (l7 = l2) (fun C kt kf => x_icmp_eq C 83 dX10_votes_31 (by decide) kt kf) (fun q3 => ?_) (fun q3 => ?_)
      · replace H := H.1 q3
        exact zX_wk (wkK (wkD (wkK (wkK (wkK (wkK (wkK (wkK (wkD wkN))))))))) H
      · replace H := H.2 q3
        refine zX_seg (pc' := 35) (L' := [.ref l0, .float 0, .int l2, .int l3, .int l4, .int l5, .int l6, .int l7, .float 0]) (st' := [.int l3]) (h2 := h) rfl rfl (fun C Cr hc kk => x_iload_n C rfl dX10_votes_34 (kk)) ?_
        refine zX_br (p1 := 53) (p2 := 38) (st' := []) (l3 = 0) (fun C kt kf => x_if_eq C 53 dX10_votes_35 (by decide) kt kf) (fun q4 => ?_) (fun q4 => ?_)
        · replace H := H.1 q4
          exact zX_wk (wkK (wkD (wkK (wkK (wkK (wkK (wkK (wkK (wkD wkN))))))))) H
        · replace H := H.2 q4
          obtain ⟨g5, H⟩ := H
          obtain ⟨a6, ea6, H⟩ := H
          refine zX_seg (pc' := 45) (L' := [.ref l0, .float 0, .int l2, .int l3, .int l4, .int l5, .int l6, .int l7, .float 0]) (st' := [.int l7, .ref a6, .int l3]) (h2 := h) rfl rfl (fun C Cr hc kk => x_iload_n C rfl dX10_votes_38 (x_aload_n C (v := .ref l0) rfl rfl dX10_votes_39 (f_getR1 C lX10_21 g5 rfl ea6 dX10_votes_40 (x_iload C rfl dX10_votes_43 (kk))))) ?_
          refine zX_call (as := [.ref a6, .int l7]) (st := [.int l3]) (fun C hM hc kk => x_callSN C [.ref a6, .int l7] hM kX11_at sX11_at lX10_47 ⟨by decide, by decide⟩ rfl hc (Nat.le_of_ble_eq_true rfl) rfl dX10_votes_45 kk) (zC.mono H ?_)
          rintro r0 h7 ⟨x8, rfl, H⟩
          show zX mX10_votes 48 [.ref l0, .float 0, .int l2, .int l3, .int l4, .int l5, .int l6, .int l7, .float 0] [.int x8, .int l3] h7 Q
          refine zX_seg (pc' := 50) (L' := [.ref l0, .float 0, .int l2, .int l3, .int l4, .int l5, .int l6, .int l7, .float 0]) (st' := [.int (x8 + (1 : Int32)), .int l3]) (h2 := h7) rfl rfl (fun C Cr hc kk => x_iconst C (1 : Int32) (by decide) dX10_votes_48 (x_iadd C dX10_votes_49 (kk))) ?_
          refine zX_br (p1 := 53) (p2 := 57) (st' := []) (l3 = (x8 + (1 : Int32))) (fun C kt kf => x_icmp_ne C 57 dX10_votes_50 (by decide) kf kt) (fun q9 => ?_) (fun q9 => ?_)
          · replace H := H.1 q9
            exact zX_wk (wkK (wkD (wkK (wkK (wkK (wkK (wkK (wkK (wkD wkN))))))))) H
          · replace H := H.2 q9
            refine zX_seg (pc' := 58) (L' := [.ref l0, .float 0, .int l2, .int l3, .int l4, .int l5, .int l6, .int l7, .float 0]) (st' := [.int (0 : Int32)]) (h2 := h7) rfl rfl (fun C Cr hc kk => x_iconst C (0 : Int32) (by decide) dX10_votes_57 (kk)) ?_
            exact zX_wk (wkK (wkD (wkK (wkK (wkK (wkK (wkK (wkK (wkD wkN))))))))) H
    · replace H := H.2 q2
      exact zX_wk (wkK (wkD (wkK (wkK (wkK (wkK (wkK (wkK (wkD wkN))))))))) H
set_option maxHeartbeats 20000000 in
theorem bX10_votes_53 (l0 : Nat) (l2 : Int32) (l3 : Int32) (l4 : Int32) (l5 : Int32) (l6 : Int32) (l7 : Int32) (h : zH) (Q : Option Value → zH → Prop) (H : zX mX10_votes 58 [.ref l0, .float 0, .int l2, .int l3, .int l4, .int l5, .int l6, .int l7, .float 0] [.int (1 : Int32)] h Q) : zX mX10_votes 53 [.ref l0, .float 0, .int l2, .int l3, .int l4, .int l5, .int l6, .int l7, .float 0] [] h Q := by
  refine zX_seg (pc' := 58) (L' := [.ref l0, .float 0, .int l2, .int l3, .int l4, .int l5, .int l6, .int l7, .float 0]) (st' := [.int (1 : Int32)]) (h2 := h) rfl rfl (fun C Cr hc kk => x_iconst C (1 : Int32) (by decide) dX10_votes_53 (x_goto C 58 dX10_votes_54 (by decide) (kk))) ?_
  exact zX_wk (wkK (wkD (wkK (wkK (wkK (wkK (wkK (wkK (wkD wkN))))))))) H
set_option maxHeartbeats 20000000 in
theorem bX10_votes_58 (l0 : Nat) (l2 : Int32) (l3 : Int32) (l4 : Int32) (l5 : Int32) (l6 : Int32) (l7 : Int32) (s0 : Int32) (h : zH) (Q : Option Value → zH → Prop) (H : (s0 = 0 → (zX mX10_votes 83 [.ref l0, .float 0, .int l2, .int l3, .int l4, .int (l5 + (0 : Int32)), .int l6, .int l7, .float 0] [] h Q)) ∧ (¬ (s0 = 0) → (oK h l0 10 ∧ (∃ a3 : Nat, gR h l0 4 = some a3 ∧ (zC mX11_at [.ref a3, .int l7] h (fun r0 h4 => ∃ x5 : Int32, r0 = some (.int x5) ∧ (zX mX10_votes 83 [.ref l0, .float 0, .int l2, .int l3, .int l4, .int (l5 + x5), .int l6, .int l7, .float 0] [] h4 Q))))))) : zX mX10_votes 58 [.ref l0, .float 0, .int l2, .int l3, .int l4, .int l5, .int l6, .int l7, .float 0] [.int s0] h Q := by
  refine zX_seg (pc' := 64) (L' := [.ref l0, .float 0, .int l2, .int l3, .int l4, .int l5, .int l6, .int l7, .int s0]) (st' := [.int s0, .int l5]) (h2 := h) rfl rfl (fun C Cr hc kk => x_istore C (by decide) dX10_votes_58 (x_iload C rfl dX10_votes_60 (x_iload C rfl dX10_votes_62 (kk)))) ?_
  refine zX_br (p1 := 79) (p2 := 67) (st' := [.int l5]) (s0 = 0) (fun C kt kf => x_if_eq C 79 dX10_votes_64 (by decide) kt kf) (fun q1 => ?_) (fun q1 => ?_)
  · replace H := H.1 q1
    refine zX_seg (pc' := 83) (L' := [.ref l0, .float 0, .int l2, .int l3, .int l4, .int (l5 + (0 : Int32)), .int l6, .int l7, .int s0]) (st' := []) (h2 := h) rfl rfl (fun C Cr hc kk => x_iconst C (0 : Int32) (by decide) dX10_votes_79 (x_iadd C dX10_votes_80 (x_istore C (by decide) dX10_votes_81 (kk)))) ?_
    exact zX_wk (wkK (wkD (wkK (wkK (wkK (wkK (wkK (wkK (wkD wkN))))))))) H
  · replace H := H.2 q1
    obtain ⟨g2, H⟩ := H
    obtain ⟨a3, ea3, H⟩ := H
    refine zX_seg (pc' := 73) (L' := [.ref l0, .float 0, .int l2, .int l3, .int l4, .int l5, .int l6, .int l7, .int s0]) (st' := [.int l7, .ref a3, .int l5]) (h2 := h) rfl rfl (fun C Cr hc kk => x_aload_n C (v := .ref l0) rfl rfl dX10_votes_67 (f_getR1 C lX10_25 g2 rfl ea3 dX10_votes_68 (x_iload C rfl dX10_votes_71 (kk)))) ?_
    refine zX_call (as := [.ref a3, .int l7]) (st := [.int l5]) (fun C hM hc kk => x_callSN C [.ref a3, .int l7] hM kX11_at sX11_at lX10_47 ⟨by decide, by decide⟩ rfl hc (Nat.le_of_ble_eq_true rfl) rfl dX10_votes_73 kk) (zC.mono H ?_)
    rintro r0 h4 ⟨x5, rfl, H⟩
    show zX mX10_votes 76 [.ref l0, .float 0, .int l2, .int l3, .int l4, .int l5, .int l6, .int l7, .int s0] [.int x5, .int l5] h4 Q
    refine zX_seg (pc' := 83) (L' := [.ref l0, .float 0, .int l2, .int l3, .int l4, .int (l5 + x5), .int l6, .int l7, .int s0]) (st' := []) (h2 := h4) rfl rfl (fun C Cr hc kk => x_goto C 80 dX10_votes_76 (by decide) (x_iadd C dX10_votes_80 (x_istore C (by decide) dX10_votes_81 (kk)))) ?_
    exact zX_wk (wkK (wkD (wkK (wkK (wkK (wkK (wkK (wkK (wkD wkN))))))))) H
set_option maxHeartbeats 20000000 in
theorem bX10_votes_83 (l0 : Nat) (l2 : Int32) (l3 : Int32) (l4 : Int32) (l5 : Int32) (l6 : Int32) (l7 : Int32) (h : zH) (Q : Option Value → zH → Prop) (H : zX mX10_votes 14 [.ref l0, .float 0, .int l2, .int l3, .int l4, .int l5, .int (l6 >>> ((2 : Int32) &&& 31)), .int (l7 + (-1)), .float 0] [] h Q) : zX mX10_votes 83 [.ref l0, .float 0, .int l2, .int l3, .int l4, .int l5, .int l6, .int l7, .float 0] [] h Q := by
  refine zX_seg (pc' := 14) (L' := [.ref l0, .float 0, .int l2, .int l3, .int l4, .int l5, .int (l6 >>> ((2 : Int32) &&& 31)), .int (l7 + (-1)), .float 0]) (st' := []) (h2 := h) rfl rfl (fun C Cr hc kk => x_iload C rfl dX10_votes_83 (x_iconst C (2 : Int32) (by decide) dX10_votes_85 (x_ishr C dX10_votes_86 (x_istore C (by decide) dX10_votes_87 (x_iinc C (l7 + (-1)) rfl (congrArg (HAdd.hAdd _) (by decide)) (by decide) dX10_votes_89 (x_goto C 14 dX10_votes_92 (by decide) (kk))))))) ?_
  exact zX_wk (wkK (wkD (wkK (wkK (wkK (wkK (wkK (wkK (wkD wkN))))))))) H
theorem nX10_votes (t : Nat) (p0 : Int32) (p1 : Int32) (p2 : Int32) (p3 : Int32) (h : zH) (Q : Option Value → zH → Prop) (H : zX mX10_votes 0 [.ref t, .int p0, .int p1, .int p2, .int p3, .float 0, .float 0, .float 0, .float 0] [] h Q) : zC mX10_votes [.ref t, .int p0, .int p1, .int p2, .int p3] h Q := zC_of (by decide +kernel) (by simp) (Nat.le_of_ble_eq_true rfl) H
set_option maxHeartbeats 20000000 in
theorem bX10_mostVoted_0 (t : Nat) (p0 : Int32) (p1 : Int32) (p2 : Int32) (h : zH) (Q : Option Value → zH → Prop) (H : zX mX10_mostVoted 9 [.ref t, .int p0, .int p1, .int p2, .int (0 : Int32), .int (0 : Int32), .int (1 : Int32), .float 0] [] h Q) : zX mX10_mostVoted 0 [.ref t, .int p0, .int p1, .int p2, .float 0, .float 0, .float 0, .float 0] [] h Q := by
  refine zX_seg (pc' := 9) (L' := [.ref t, .int p0, .int p1, .int p2, .int (0 : Int32), .int (0 : Int32), .int (1 : Int32), .float 0]) (st' := []) (h2 := h) rfl rfl (fun C Cr hc kk => x_iconst C (0 : Int32) (by decide) dX10_mostVoted_0 (x_istore C (by decide) dX10_mostVoted_1 (x_iconst C (0 : Int32) (by decide) dX10_mostVoted_3 (x_istore C (by decide) dX10_mostVoted_4 (x_iconst C (1 : Int32) (by decide) dX10_mostVoted_6 (x_istore C (by decide) dX10_mostVoted_7 (kk))))))) ?_
  exact zX_wk (wkK (wkK (wkK (wkK (wkK (wkK (wkK (wkD wkN)))))))) H
set_option maxHeartbeats 20000000 in
theorem bX10_mostVoted_9 (l0 : Nat) (l1 : Int32) (l2 : Int32) (l3 : Int32) (l4 : Int32) (l5 : Int32) (l6 : Int32) (h : zH) (Q : Option Value → zH → Prop) (H : oK h l0 10 ∧ (((gI h l0 6) < l6 → (Q (some (.int l4)) h)) ∧ (¬ ((gI h l0 6) < l6) → (zC mX10_votes [.ref l0, .int l1, .int l2, .int l3, .int l6] h (fun r0 h3 => ∃ x4 : Int32, r0 = some (.int x4) ∧ ((x4 ≤ l5 → (zX mX10_mostVoted 9 [.ref l0, .int l1, .int l2, .int l3, .int l4, .int l5, .int (l6 + 1), .float 0] [] h3 Q)) ∧ (¬ (x4 ≤ l5) → (zX mX10_mostVoted 9 [.ref l0, .int l1, .int l2, .int l3, .int l6, .int x4, .int (l6 + 1), .float 0] [] h3 Q)))))))) : zX mX10_mostVoted 9 [.ref l0, .int l1, .int l2, .int l3, .int l4, .int l5, .int l6, .float 0] [] h Q := by
  obtain ⟨g1, H⟩ := H
  refine zX_seg (pc' := 15) (L' := [.ref l0, .int l1, .int l2, .int l3, .int l4, .int l5, .int l6, .float 0]) (st' := [.int (gI h l0 6), .int l6]) (h2 := h) rfl rfl (fun C Cr hc kk => x_iload C rfl dX10_mostVoted_9 (x_aload_n C (v := .ref l0) rfl rfl dX10_mostVoted_11 (f_getI C lX10_34 g1 rfl dX10_mostVoted_12 (kk)))) ?_
  refine zX_br (p1 := 50) (p2 := 18) (st' := []) ((gI h l0 6) < l6) (fun C kt kf => x_icmp_gt C 50 dX10_mostVoted_15 (by decide) kt kf) (fun q2 => ?_) (fun q2 => ?_)
  · replace H := H.1 q2
    refine zX_seg (pc' := 52) (L' := [.ref l0, .int l1, .int l2, .int l3, .int l4, .int l5, .int l6, .float 0]) (st' := [.int l4]) (h2 := h) rfl rfl (fun C Cr hc kk => x_iload C rfl dX10_mostVoted_50 (kk)) ?_
    exact zX_ret (some (.int l4)) (fun C Cr hc => x_iret C Cr rfl rfl hc dX10_mostVoted_52 ⟨rfl, rfl⟩) H
  · replace H := H.2 q2
    refine zX_seg (pc' := 24) (L' := [.ref l0, .int l1, .int l2, .int l3, .int l4, .int l5, .int l6, .float 0]) (st' := [.int l6, .int l3, .int l2, .int l1, .ref l0]) (h2 := h) rfl rfl (fun C Cr hc kk => x_aload_n C (v := .ref l0) rfl rfl dX10_mostVoted_18 (x_iload_n C rfl dX10_mostVoted_19 (x_iload_n C rfl dX10_mostVoted_20 (x_iload_n C rfl dX10_mostVoted_21 (x_iload C rfl dX10_mostVoted_22 (kk)))))) ?_
    refine zX_call (as := [.ref l0, .int l1, .int l2, .int l3, .int l6]) (st := []) (fun C hM hc kk => f_callV C [.int l1, .int l2, .int l3, .int l6] hM kX10_votes vX10_votes lX10_66 ⟨by decide, by decide⟩ (rfl : vwCl[10]? = some (RX10, TX10, 10)) g1 rfl hc (Nat.le_of_ble_eq_true rfl) rfl dX10_mostVoted_24 kk) (zC.mono H ?_)
    rintro r0 h3 ⟨x4, rfl, H⟩
    show zX mX10_mostVoted 27 [.ref l0, .int l1, .int l2, .int l3, .int l4, .int l5, .int l6, .float 0] [.int x4] h3 Q
    refine zX_seg (pc' := 33) (L' := [.ref l0, .int l1, .int l2, .int l3, .int l4, .int l5, .int l6, .int x4]) (st' := [.int l5, .int x4]) (h2 := h3) rfl rfl (fun C Cr hc kk => x_istore C (by decide) dX10_mostVoted_27 (x_iload C rfl dX10_mostVoted_29 (x_iload C rfl dX10_mostVoted_31 (kk)))) ?_
    refine zX_br (p1 := 44) (p2 := 36) (st' := []) (x4 ≤ l5) (fun C kt kf => x_icmp_le C 44 dX10_mostVoted_33 (by decide) kt kf) (fun q5 => ?_) (fun q5 => ?_)
    · replace H := H.1 q5
      refine zX_seg (pc' := 9) (L' := [.ref l0, .int l1, .int l2, .int l3, .int l4, .int l5, .int (l6 + 1), .int x4]) (st' := []) (h2 := h3) rfl rfl (fun C Cr hc kk => x_iinc C (l6 + 1) rfl (congrArg (HAdd.hAdd _) (by decide)) (by decide) dX10_mostVoted_44 (x_goto C 9 dX10_mostVoted_47 (by decide) (kk))) ?_
      exact zX_wk (wkK (wkK (wkK (wkK (wkK (wkK (wkK (wkD wkN)))))))) H
    · replace H := H.2 q5
      refine zX_seg (pc' := 9) (L' := [.ref l0, .int l1, .int l2, .int l3, .int l6, .int x4, .int (l6 + 1), .int x4]) (st' := []) (h2 := h3) rfl rfl (fun C Cr hc kk => x_iload C rfl dX10_mostVoted_36 (x_istore C (by decide) dX10_mostVoted_38 (x_iload C rfl dX10_mostVoted_40 (x_istore C (by decide) dX10_mostVoted_42 (x_iinc C (l6 + 1) rfl (congrArg (HAdd.hAdd _) (by decide)) (by decide) dX10_mostVoted_44 (x_goto C 9 dX10_mostVoted_47 (by decide) (kk))))))) ?_
      exact zX_wk (wkK (wkK (wkK (wkK (wkK (wkK (wkK (wkD wkN)))))))) H
theorem nX10_mostVoted (t : Nat) (p0 : Int32) (p1 : Int32) (p2 : Int32) (h : zH) (Q : Option Value → zH → Prop) (H : zX mX10_mostVoted 0 [.ref t, .int p0, .int p1, .int p2, .float 0, .float 0, .float 0, .float 0] [] h Q) : zC mX10_mostVoted [.ref t, .int p0, .int p1, .int p2] h Q := zC_of (by decide +kernel) (by simp) (Nat.le_of_ble_eq_true rfl) H
set_option maxHeartbeats 20000000 in
theorem bX10_fewestVoted_0 (t : Nat) (p0 : Int32) (p1 : Int32) (p2 : Int32) (h : zH) (Q : Option Value → zH → Prop) (H : zX mX10_fewestVoted 9 [.ref t, .int p0, .int p1, .int p2, .int (0 : Int32), .int (0 : Int32), .int (1 : Int32), .float 0] [] h Q) : zX mX10_fewestVoted 0 [.ref t, .int p0, .int p1, .int p2, .float 0, .float 0, .float 0, .float 0] [] h Q := by
  refine zX_seg (pc' := 9) (L' := [.ref t, .int p0, .int p1, .int p2, .int (0 : Int32), .int (0 : Int32), .int (1 : Int32), .float 0]) (st' := []) (h2 := h) rfl rfl (fun C Cr hc kk => x_iconst C (0 : Int32) (by decide) dX10_fewestVoted_0 (x_istore C (by decide) dX10_fewestVoted_1 (x_iconst C (0 : Int32) (by decide) dX10_fewestVoted_3 (x_istore C (by decide) dX10_fewestVoted_4 (x_iconst C (1 : Int32) (by decide) dX10_fewestVoted_6 (x_istore C (by decide) dX10_fewestVoted_7 (kk))))))) ?_
  exact zX_wk (wkK (wkK (wkK (wkK (wkK (wkK (wkK (wkD wkN)))))))) H
set_option maxHeartbeats 20000000 in
theorem bX10_fewestVoted_9 (l0 : Nat) (l1 : Int32) (l2 : Int32) (l3 : Int32) (l4 : Int32) (l5 : Int32) (l6 : Int32) (h : zH) (Q : Option Value → zH → Prop) (H : oK h l0 10 ∧ (((gI h l0 6) < l6 → (Q (some (.int l4)) h)) ∧ (¬ ((gI h l0 6) < l6) → (zC mX10_votes [.ref l0, .int l1, .int l2, .int l3, .int l6] h (fun r0 h3 => ∃ x4 : Int32, r0 = some (.int x4) ∧ ((l4 = 0 → (zX mX10_fewestVoted 9 [.ref l0, .int l1, .int l2, .int l3, .int l6, .int x4, .int (l6 + 1), .float 0] [] h3 Q)) ∧ (¬ (l4 = 0) → ((l5 ≤ x4 → (zX mX10_fewestVoted 9 [.ref l0, .int l1, .int l2, .int l3, .int l4, .int l5, .int (l6 + 1), .float 0] [] h3 Q)) ∧ (¬ (l5 ≤ x4) → (zX mX10_fewestVoted 9 [.ref l0, .int l1, .int l2, .int l3, .int l6, .int x4, .int (l6 + 1), .float 0] [] h3 Q)))))))))) : zX mX10_fewestVoted 9 [.ref l0, .int l1, .int l2, .int l3, .int l4, .int l5, .int l6, .float 0] [] h Q := by
  obtain ⟨g1, H⟩ := H
  refine zX_seg (pc' := 15) (L' := [.ref l0, .int l1, .int l2, .int l3, .int l4, .int l5, .int l6, .float 0]) (st' := [.int (gI h l0 6), .int l6]) (h2 := h) rfl rfl (fun C Cr hc kk => x_iload C rfl dX10_fewestVoted_9 (x_aload_n C (v := .ref l0) rfl rfl dX10_fewestVoted_11 (f_getI C lX10_34 g1 rfl dX10_fewestVoted_12 (kk)))) ?_
  refine zX_br (p1 := 55) (p2 := 18) (st' := []) ((gI h l0 6) < l6) (fun C kt kf => x_icmp_gt C 55 dX10_fewestVoted_15 (by decide) kt kf) (fun q2 => ?_) (fun q2 => ?_)
  · replace H := H.1 q2
    refine zX_seg (pc' := 57) (L' := [.ref l0, .int l1, .int l2, .int l3, .int l4, .int l5, .int l6, .float 0]) (st' := [.int l4]) (h2 := h) rfl rfl (fun C Cr hc kk => x_iload C rfl dX10_fewestVoted_55 (kk)) ?_
    exact zX_ret (some (.int l4)) (fun C Cr hc => x_iret C Cr rfl rfl hc dX10_fewestVoted_57 ⟨rfl, rfl⟩) H
  · replace H := H.2 q2
    refine zX_seg (pc' := 24) (L' := [.ref l0, .int l1, .int l2, .int l3, .int l4, .int l5, .int l6, .float 0]) (st' := [.int l6, .int l3, .int l2, .int l1, .ref l0]) (h2 := h) rfl rfl (fun C Cr hc kk => x_aload_n C (v := .ref l0) rfl rfl dX10_fewestVoted_18 (x_iload_n C rfl dX10_fewestVoted_19 (x_iload_n C rfl dX10_fewestVoted_20 (x_iload_n C rfl dX10_fewestVoted_21 (x_iload C rfl dX10_fewestVoted_22 (kk)))))) ?_
    refine zX_call (as := [.ref l0, .int l1, .int l2, .int l3, .int l6]) (st := []) (fun C hM hc kk => f_callV C [.int l1, .int l2, .int l3, .int l6] hM kX10_votes vX10_votes lX10_66 ⟨by decide, by decide⟩ (rfl : vwCl[10]? = some (RX10, TX10, 10)) g1 rfl hc (Nat.le_of_ble_eq_true rfl) rfl dX10_fewestVoted_24 kk) (zC.mono H ?_)
    rintro r0 h3 ⟨x4, rfl, H⟩
    show zX mX10_fewestVoted 27 [.ref l0, .int l1, .int l2, .int l3, .int l4, .int l5, .int l6, .float 0] [.int x4] h3 Q
    refine zX_seg (pc' := 31) (L' := [.ref l0, .int l1, .int l2, .int l3, .int l4, .int l5, .int l6, .int x4]) (st' := [.int l4]) (h2 := h3) rfl rfl (fun C Cr hc kk => x_istore C (by decide) dX10_fewestVoted_27 (x_iload C rfl dX10_fewestVoted_29 (kk))) ?_
    refine zX_br (p1 := 41) (p2 := 34) (st' := []) (l4 = 0) (fun C kt kf => x_if_eq C 41 dX10_fewestVoted_31 (by decide) kt kf) (fun q5 => ?_) (fun q5 => ?_)
    · replace H := H.1 q5
      refine zX_seg (pc' := 9) (L' := [.ref l0, .int l1, .int l2, .int l3, .int l6, .int x4, .int (l6 + 1), .int x4]) (st' := []) (h2 := h3) rfl rfl (fun C Cr hc kk => x_iload C rfl dX10_fewestVoted_41 (x_istore C (by decide) dX10_fewestVoted_43 (x_iload C rfl dX10_fewestVoted_45 (x_istore C (by decide) dX10_fewestVoted_47 (x_iinc C (l6 + 1) rfl (congrArg (HAdd.hAdd _) (by decide)) (by decide) dX10_fewestVoted_49 (x_goto C 9 dX10_fewestVoted_52 (by decide) (kk))))))) ?_
      exact zX_wk (wkK (wkK (wkK (wkK (wkK (wkK (wkK (wkD wkN)))))))) H
    · replace H := H.2 q5
      refine zX_seg (pc' := 38) (L' := [.ref l0, .int l1, .int l2, .int l3, .int l4, .int l5, .int l6, .int x4]) (st' := [.int l5, .int x4]) (h2 := h3) rfl rfl (fun C Cr hc kk => x_iload C rfl dX10_fewestVoted_34 (x_iload C rfl dX10_fewestVoted_36 (kk))) ?_
      refine zX_br (p1 := 49) (p2 := 41) (st' := []) (l5 ≤ x4) (fun C kt kf => x_icmp_ge C 49 dX10_fewestVoted_38 (by decide) kt kf) (fun q6 => ?_) (fun q6 => ?_)
      · replace H := H.1 q6
        refine zX_seg (pc' := 9) (L' := [.ref l0, .int l1, .int l2, .int l3, .int l4, .int l5, .int (l6 + 1), .int x4]) (st' := []) (h2 := h3) rfl rfl (fun C Cr hc kk => x_iinc C (l6 + 1) rfl (congrArg (HAdd.hAdd _) (by decide)) (by decide) dX10_fewestVoted_49 (x_goto C 9 dX10_fewestVoted_52 (by decide) (kk))) ?_
        exact zX_wk (wkK (wkK (wkK (wkK (wkK (wkK (wkK (wkD wkN)))))))) H
      · replace H := H.2 q6
        refine zX_seg (pc' := 9) (L' := [.ref l0, .int l1, .int l2, .int l3, .int l6, .int x4, .int (l6 + 1), .int x4]) (st' := []) (h2 := h3) rfl rfl (fun C Cr hc kk => x_iload C rfl dX10_fewestVoted_41 (x_istore C (by decide) dX10_fewestVoted_43 (x_iload C rfl dX10_fewestVoted_45 (x_istore C (by decide) dX10_fewestVoted_47 (x_iinc C (l6 + 1) rfl (congrArg (HAdd.hAdd _) (by decide)) (by decide) dX10_fewestVoted_49 (x_goto C 9 dX10_fewestVoted_52 (by decide) (kk))))))) ?_
        exact zX_wk (wkK (wkK (wkK (wkK (wkK (wkK (wkK (wkD wkN)))))))) H
theorem nX10_fewestVoted (t : Nat) (p0 : Int32) (p1 : Int32) (p2 : Int32) (h : zH) (Q : Option Value → zH → Prop) (H : zX mX10_fewestVoted 0 [.ref t, .int p0, .int p1, .int p2, .float 0, .float 0, .float 0, .float 0] [] h Q) : zC mX10_fewestVoted [.ref t, .int p0, .int p1, .int p2] h Q := zC_of (by decide +kernel) (by simp) (Nat.le_of_ble_eq_true rfl) H
set_option maxHeartbeats 20000000 in
theorem bX10_chosenIn_0 (t : Nat) (p0 : Int32) (h : zH) (Q : Option Value → zH → Prop) (H : zX mX10_chosenIn 7 [.ref t, .int p0, .int (0 : Int32), .int (0 : Int32), .int (1 : Int32), .float 0] [] h Q) : zX mX10_chosenIn 0 [.ref t, .int p0, .float 0, .float 0, .float 0, .float 0] [] h Q := by
  refine zX_seg (pc' := 7) (L' := [.ref t, .int p0, .int (0 : Int32), .int (0 : Int32), .int (1 : Int32), .float 0]) (st' := []) (h2 := h) rfl rfl (fun C Cr hc kk => x_iconst C (0 : Int32) (by decide) dX10_chosenIn_0 (x_istore_n C (by decide) dX10_chosenIn_1 (x_iconst C (0 : Int32) (by decide) dX10_chosenIn_2 (x_istore_n C (by decide) dX10_chosenIn_3 (x_iconst C (1 : Int32) (by decide) dX10_chosenIn_4 (x_istore C (by decide) dX10_chosenIn_5 (kk))))))) ?_
  exact zX_wk (wkK (wkK (wkK (wkK (wkK (wkD wkN)))))) H
set_option maxHeartbeats 20000000 in
theorem bX10_chosenIn_7 (l0 : Nat) (l1 : Int32) (l2 : Int32) (l3 : Int32) (l4 : Int32) (h : zH) (Q : Option Value → zH → Prop) (H : oK h l0 10 ∧ (((gI h l0 6) < l4 → (Q (some (.int l2)) h)) ∧ (¬ ((gI h l0 6) < l4) → (zC mX10_votes [.ref l0, .int l1, .int (-1 : Int32), .int (0 : Int32), .int l4] h (fun r0 h3 => ∃ x4 : Int32, r0 = some (.int x4) ∧ ((x4 ≤ l3 → ((x4 = l3 → (zX mX10_chosenIn 7 [.ref l0, .int l1, .int (0 : Int32), .int l3, .int (l4 + 1), .float 0] [] h3 Q)) ∧ (¬ (x4 = l3) → (zX mX10_chosenIn 7 [.ref l0, .int l1, .int l2, .int l3, .int (l4 + 1), .float 0] [] h3 Q)))) ∧ (¬ (x4 ≤ l3) → (zX mX10_chosenIn 7 [.ref l0, .int l1, .int l4, .int x4, .int (l4 + 1), .float 0] [] h3 Q)))))))) : zX mX10_chosenIn 7 [.ref l0, .int l1, .int l2, .int l3, .int l4, .float 0] [] h Q := by
  obtain ⟨g1, H⟩ := H
  refine zX_seg (pc' := 13) (L' := [.ref l0, .int l1, .int l2, .int l3, .int l4, .float 0]) (st' := [.int (gI h l0 6), .int l4]) (h2 := h) rfl rfl (fun C Cr hc kk => x_iload C rfl dX10_chosenIn_7 (x_aload_n C (v := .ref l0) rfl rfl dX10_chosenIn_9 (f_getI C lX10_34 g1 rfl dX10_chosenIn_10 (kk)))) ?_
  refine zX_br (p1 := 56) (p2 := 16) (st' := []) ((gI h l0 6) < l4) (fun C kt kf => x_icmp_gt C 56 dX10_chosenIn_13 (by decide) kt kf) (fun q2 => ?_) (fun q2 => ?_)
  · replace H := H.1 q2
    refine zX_seg (pc' := 57) (L' := [.ref l0, .int l1, .int l2, .int l3, .int l4, .float 0]) (st' := [.int l2]) (h2 := h) rfl rfl (fun C Cr hc kk => x_iload_n C rfl dX10_chosenIn_56 (kk)) ?_
    exact zX_ret (some (.int l2)) (fun C Cr hc => x_iret C Cr rfl rfl hc dX10_chosenIn_57 ⟨rfl, rfl⟩) H
  · replace H := H.2 q2
    refine zX_seg (pc' := 22) (L' := [.ref l0, .int l1, .int l2, .int l3, .int l4, .float 0]) (st' := [.int l4, .int (0 : Int32), .int (-1 : Int32), .int l1, .ref l0]) (h2 := h) rfl rfl (fun C Cr hc kk => x_aload_n C (v := .ref l0) rfl rfl dX10_chosenIn_16 (x_iload_n C rfl dX10_chosenIn_17 (x_iconst C (-1 : Int32) (by decide) dX10_chosenIn_18 (x_iconst C (0 : Int32) (by decide) dX10_chosenIn_19 (x_iload C rfl dX10_chosenIn_20 (kk)))))) ?_
    refine zX_call (as := [.ref l0, .int l1, .int (-1 : Int32), .int (0 : Int32), .int l4]) (st := []) (fun C hM hc kk => f_callV C [.int l1, .int (-1 : Int32), .int (0 : Int32), .int l4] hM kX10_votes vX10_votes lX10_66 ⟨by decide, by decide⟩ (rfl : vwCl[10]? = some (RX10, TX10, 10)) g1 rfl hc (Nat.le_of_ble_eq_true rfl) rfl dX10_chosenIn_22 kk) (zC.mono H ?_)
    rintro r0 h3 ⟨x4, rfl, H⟩
    show zX mX10_chosenIn 25 [.ref l0, .int l1, .int l2, .int l3, .int l4, .float 0] [.int x4] h3 Q
    refine zX_seg (pc' := 30) (L' := [.ref l0, .int l1, .int l2, .int l3, .int l4, .int x4]) (st' := [.int l3, .int x4]) (h2 := h3) rfl rfl (fun C Cr hc kk => x_istore C (by decide) dX10_chosenIn_25 (x_iload C rfl dX10_chosenIn_27 (x_iload_n C rfl dX10_chosenIn_29 (kk)))) ?_
    refine zX_br (p1 := 42) (p2 := 33) (st' := []) (x4 ≤ l3) (fun C kt kf => x_icmp_le C 42 dX10_chosenIn_30 (by decide) kt kf) (fun q5 => ?_) (fun q5 => ?_)
    · replace H := H.1 q5
      refine zX_seg (pc' := 45) (L' := [.ref l0, .int l1, .int l2, .int l3, .int l4, .int x4]) (st' := [.int l3, .int x4]) (h2 := h3) rfl rfl (fun C Cr hc kk => x_iload C rfl dX10_chosenIn_42 (x_iload_n C rfl dX10_chosenIn_44 (kk))) ?_
      refine zX_br (p1 := 48) (p2 := 50) (st' := []) (x4 = l3) (fun C kt kf => x_icmp_ne C 50 dX10_chosenIn_45 (by decide) kf kt) (fun q6 => ?_) (fun q6 => ?_)
      · replace H := H.1 q6
        refine zX_seg (pc' := 7) (L' := [.ref l0, .int l1, .int (0 : Int32), .int l3, .int (l4 + 1), .int x4]) (st' := []) (h2 := h3) rfl rfl (fun C Cr hc kk => x_iconst C (0 : Int32) (by decide) dX10_chosenIn_48 (x_istore_n C (by decide) dX10_chosenIn_49 (x_iinc C (l4 + 1) rfl (congrArg (HAdd.hAdd _) (by decide)) (by decide) dX10_chosenIn_50 (x_goto C 7 dX10_chosenIn_53 (by decide) (kk))))) ?_
        exact zX_wk (wkK (wkK (wkK (wkK (wkK (wkD wkN)))))) H
      · replace H := H.2 q6
        refine zX_seg (pc' := 7) (L' := [.ref l0, .int l1, .int l2, .int l3, .int (l4 + 1), .int x4]) (st' := []) (h2 := h3) rfl rfl (fun C Cr hc kk => x_iinc C (l4 + 1) rfl (congrArg (HAdd.hAdd _) (by decide)) (by decide) dX10_chosenIn_50 (x_goto C 7 dX10_chosenIn_53 (by decide) (kk))) ?_
        exact zX_wk (wkK (wkK (wkK (wkK (wkK (wkD wkN)))))) H
    · replace H := H.2 q5
      refine zX_seg (pc' := 7) (L' := [.ref l0, .int l1, .int l4, .int x4, .int (l4 + 1), .int x4]) (st' := []) (h2 := h3) rfl rfl (fun C Cr hc kk => x_iload C rfl dX10_chosenIn_33 (x_istore_n C (by decide) dX10_chosenIn_35 (x_iload C rfl dX10_chosenIn_36 (x_istore_n C (by decide) dX10_chosenIn_38 (x_goto C 50 dX10_chosenIn_39 (by decide) (x_iinc C (l4 + 1) rfl (congrArg (HAdd.hAdd _) (by decide)) (by decide) dX10_chosenIn_50 (x_goto C 7 dX10_chosenIn_53 (by decide) (kk)))))))) ?_
      exact zX_wk (wkK (wkK (wkK (wkK (wkK (wkD wkN)))))) H
theorem nX10_chosenIn (t : Nat) (p0 : Int32) (h : zH) (Q : Option Value → zH → Prop) (H : zX mX10_chosenIn 0 [.ref t, .int p0, .float 0, .float 0, .float 0, .float 0] [] h Q) : zC mX10_chosenIn [.ref t, .int p0] h Q := zC_of (by decide +kernel) (by simp) (Nat.le_of_ble_eq_true rfl) H

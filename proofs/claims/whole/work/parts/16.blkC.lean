set_option maxHeartbeats 20000000 in
theorem bX11_init_0 (t : Nat) (h : zH) (Q : Option Value → zH → Prop) (H : ∀ h1 : zH, h1 = (zn h (zO 4 [.null, .null, .null, .null, .int 0, .int 0, .int 0, .int 0, .int 0, .int 0, .int 0, .int 0, .int 0, .int 0])) → (zC mX4_init [.ref (h.1)] h1 (fun r0 h3 => r0 = none ∧ (oK h3 t 11 ∧ (∀ h5 : zH, h5 = (pF h3 t 0 (zr (some h.1))) → (∃ a7 : Nat, gR h5 t 0 = some a7 ∧ (oK h5 a7 4 ∧ (∃ a9 : Nat, gR h5 a7 0 = some a9 ∧ (∀ h10 : zH, h10 = (pF h5 t 1 (zr (some a9))) → (∀ h13 : zH, h13 = (zn h10 (zO 6 [.null, .int 0])) → (zC mX6_init [.ref (h10.1)] h13 (fun r0 h17 => r0 = none ∧ (oK h17 t 11 ∧ (∀ h19 : zH, h19 = (pF h17 t 2 (zr (some h10.1))) → (∀ h21 : zH, h21 = (zn h19 (zO 5 [.null, .null, .null, .null, .null, .int 0, .int 0, .int 0, .int 0])) → (zC mX5_init [.ref (h19.1)] h21 (fun r0 h24 => r0 = none ∧ (oK h24 t 11 ∧ (∀ h26 : zH, h26 = (pF h24 t 3 (zr (some h19.1))) → (∀ h28 : zH, h28 = (zn h26 (zO 3 [.null, .int 0, .int 0, .int 0, .int 0])) → (zC mX3_init [.ref (h26.1)] h28 (fun r0 h31 => r0 = none ∧ (oK h31 t 11 ∧ (∀ h33 : zH, h33 = (pF h31 t 4 (zr (some h26.1))) → (∀ h35 : zH, h35 = (zn h33 (zO 7 [.null, .null, .null, .int 0])) → (zC mX7_init [.ref (h33.1)] h35 (fun r0 h38 => r0 = none ∧ (oK h38 t 11 ∧ (∀ h40 : zH, h40 = (pF h38 t 5 (zr (some h33.1))) → (∀ h42 : zH, h42 = (zn h40 (zO 9 [.int 0, .int 0, .int 0, .int 0, .int 0, .int 0])) → (zC mX9_init [.ref (h40.1)] h42 (fun r0 h45 => r0 = none ∧ (oK h45 t 11 ∧ (∀ h47 : zH, h47 = (pF h45 t 6 (zr (some h40.1))) → (∀ h49 : zH, h49 = (zn h47 (zO 10 [.null, .null, .null, .null, .null, .null, .int 0, .int 0, .int 0, .int 0])) → (zC mX10_init [.ref (h47.1)] h49 (fun r0 h52 => r0 = none ∧ (oK h52 t 11 ∧ (∀ h54 : zH, h54 = (pF h52 t 7 (zr (some h47.1))) → (∀ h56 : zH, h56 = (zn h54 (zO 1 [.null, .null, .null, .int 0, .int 0])) → (zC mX1_init [.ref (h54.1)] h56 (fun r0 h59 => r0 = none ∧ (oK h59 t 11 ∧ (∀ h61 : zH, h61 = (pF h59 t 8 (zr (some h54.1))) → (∀ h63 : zH, h63 = (zn h61 (zR 1 3 (fun _ => none))) → (∀ h66 : zH, h66 = (pF h63 t 9 (zr (some h61.1))) → (zX mX11_init 113 [.ref t, .int (0 : Int32)] [] h66 Q))))))))))))))))))))))))))))))))))))))))))))))) : zX mX11_init 0 [.ref t, .float 0] [] h Q := by
  refine zX_seg (pc' := 5) (L' := [.ref t, .float 0]) (st' := [.ref t]) (h2 := h) rfl rfl (fun C Cr hc kk => x_aload_n C (v := .ref t) rfl rfl dX11_init_0 (x_objInit C lX11_1 oi_i oi_c ⟨by decide, by decide⟩ (Nat.le_of_ble_eq_true rfl) dX11_init_1 (x_aload_n C (v := .ref t) rfl rfl dX11_init_4 (kk)))) ?_
  refine zX_new (pc' := 8) (L' := [.ref t, .float 0]) (st' := [.ref (h.1), .ref t]) (e := (zO 4 [.null, .null, .null, .null, .int 0, .int 0, .int 0, .int 0, .int 0, .int 0, .int 0, .int 0, .int 0, .int 0])) (fun C z1 z2 kk => x_new C [.null, .null, .null, .null, .int 0, .int 0, .int 0, .int 0, .int 0, .int 0, .int 0, .int 0, .int 0, .int 0] (hcl := (rfl : vwCl[4]? = some (RX4, TX4, 14))) tX4 wX4 ⟨lX11_7, qX4⟩ rfl z1 z2 dX11_init_5 kk) ?_
  obtain ⟨h1, eh1⟩ : ∃ y : zH, y = (zn h (zO 4 [.null, .null, .null, .null, .int 0, .int 0, .int 0, .int 0, .int 0, .int 0, .int 0, .int 0, .int 0, .int 0])) := ⟨_, rfl⟩
  replace H := H h1 eh1
  rw [← eh1]
  have g2 : oK h1 h.1 4 := by rw [eh1]; exact oK_new rfl
  refine zX_seg (pc' := 9) (L' := [.ref t, .float 0]) (st' := [.ref (h.1), .ref (h.1), .ref t]) (h2 := h1) rfl rfl (fun C Cr hc kk => x_dup C rfl dX11_init_8 (kk)) ?_
  refine zX_call (as := [.ref (h.1)]) (st := [.ref (h.1), .ref t]) (fun C hM hc kk => x_callIN C [] hM kX4_init iX4_init ⟨rfl, rfl⟩ lX11_9 ⟨by decide, by decide⟩ rfl hc (Nat.le_of_ble_eq_true rfl) rfl dX11_init_9 kk) (zC.mono H ?_)
  rintro r0 h3 ⟨rfl, H⟩
  show zX mX11_init 12 [.ref t, .float 0] [.ref (h.1), .ref t] h3 Q
  obtain ⟨g4, H⟩ := H
  refine zX_seg (pc' := 15) (L' := [.ref t, .float 0]) (st' := []) (h2 := (pF h3 t 0 (zr (some h.1)))) rfl rfl (fun C Cr hc kk => f_putFR C Cr rfl (x := (some h.1)) lX11_10 tX11 nX11_0 g4 rfl (Or.inl ⟨_, rfl⟩) dX11_init_12 (kk)) ?_
  obtain ⟨h5, eh5⟩ : ∃ y : zH, y = (pF h3 t 0 (zr (some h.1))) := ⟨_, rfl⟩
  replace H := H h5 eh5
  rw [← eh5]
  have g6 : oK h5 t 11 := by rw [eh5]; exact oK_pF' g4 rfl (zmr _) g4
  obtain ⟨a7, ea7, H⟩ := H
  obtain ⟨g8, H⟩ := H
  obtain ⟨a9, ea9, H⟩ := H
  refine zX_seg (pc' := 26) (L' := [.ref t, .float 0]) (st' := []) (h2 := (pF h5 t 1 (zr (some a9)))) rfl rfl (fun C Cr hc kk => x_aload_n C (v := .ref t) rfl rfl dX11_init_15 (x_aload_n C (v := .ref t) rfl rfl dX11_init_16 (f_getR1 C lX11_10 g6 rfl ea7 dX11_init_17 (f_getR1N C lX11_16 g8 rfl ea9 dX11_init_20 (f_putFR C Cr rfl (x := (some a9)) lX11_20 tX11 nX11_1 g6 rfl (Or.inl ⟨_, rfl⟩) dX11_init_23 (kk)))))) ?_
  obtain ⟨h10, eh10⟩ : ∃ y : zH, y = (pF h5 t 1 (zr (some a9))) := ⟨_, rfl⟩
  replace H := H h10 eh10
  rw [← eh10]
  have g11 : oK h10 t 11 := by rw [eh10]; exact oK_pF' g6 rfl (zmr _) g6
  have g12 : oK h10 a7 4 := by rw [eh10]; exact oK_pF' g6 rfl (zmr _) g8
  refine zX_seg (pc' := 27) (L' := [.ref t, .float 0]) (st' := [.ref t]) (h2 := h10) rfl rfl (fun C Cr hc kk => x_aload_n C (v := .ref t) rfl rfl dX11_init_26 (kk)) ?_
  refine zX_new (pc' := 30) (L' := [.ref t, .float 0]) (st' := [.ref (h10.1), .ref t]) (e := (zO 6 [.null, .int 0])) (fun C z1 z2 kk => x_new C [.null, .int 0] (hcl := (rfl : vwCl[6]? = some (RX6, TX6, 2))) tX6 wX6 ⟨lX11_21, qX6⟩ rfl z1 z2 dX11_init_27 kk) ?_
  obtain ⟨h13, eh13⟩ : ∃ y : zH, y = (zn h10 (zO 6 [.null, .int 0])) := ⟨_, rfl⟩
  replace H := H h13 eh13
  rw [← eh13]
  have g14 : oK h13 t 11 := by rw [eh13]; exact oK_zn g11
  have g15 : oK h13 a7 4 := by rw [eh13]; exact oK_zn g12
  have g16 : oK h13 h10.1 6 := by rw [eh13]; exact oK_new rfl
  refine zX_seg (pc' := 31) (L' := [.ref t, .float 0]) (st' := [.ref (h10.1), .ref (h10.1), .ref t]) (h2 := h13) rfl rfl (fun C Cr hc kk => x_dup C rfl dX11_init_30 (kk)) ?_
  refine zX_call (as := [.ref (h10.1)]) (st := [.ref (h10.1), .ref t]) (fun C hM hc kk => x_callIN C [] hM kX6_init iX6_init ⟨rfl, rfl⟩ lX11_23 ⟨by decide, by decide⟩ rfl hc (Nat.le_of_ble_eq_true rfl) rfl dX11_init_31 kk) (zC.mono H ?_)
  rintro r0 h17 ⟨rfl, H⟩
  show zX mX11_init 34 [.ref t, .float 0] [.ref (h10.1), .ref t] h17 Q
  obtain ⟨g18, H⟩ := H
  refine zX_seg (pc' := 37) (L' := [.ref t, .float 0]) (st' := []) (h2 := (pF h17 t 2 (zr (some h10.1)))) rfl rfl (fun C Cr hc kk => f_putFR C Cr rfl (x := (some h10.1)) lX11_24 tX11 nX11_2 g18 rfl (Or.inl ⟨_, rfl⟩) dX11_init_34 (kk)) ?_
  obtain ⟨h19, eh19⟩ : ∃ y : zH, y = (pF h17 t 2 (zr (some h10.1))) := ⟨_, rfl⟩
  replace H := H h19 eh19
  rw [← eh19]
  have g20 : oK h19 t 11 := by rw [eh19]; exact oK_pF' g18 rfl (zmr _) g18
  refine zX_seg (pc' := 38) (L' := [.ref t, .float 0]) (st' := [.ref t]) (h2 := h19) rfl rfl (fun C Cr hc kk => x_aload_n C (v := .ref t) rfl rfl dX11_init_37 (kk)) ?_
  refine zX_new (pc' := 41) (L' := [.ref t, .float 0]) (st' := [.ref (h19.1), .ref t]) (e := (zO 5 [.null, .null, .null, .null, .null, .int 0, .int 0, .int 0, .int 0])) (fun C z1 z2 kk => x_new C [.null, .null, .null, .null, .null, .int 0, .int 0, .int 0, .int 0] (hcl := (rfl : vwCl[5]? = some (RX5, TX5, 9))) tX5 wX5 ⟨lX11_28, qX5⟩ rfl z1 z2 dX11_init_38 kk) ?_
  obtain ⟨h21, eh21⟩ : ∃ y : zH, y = (zn h19 (zO 5 [.null, .null, .null, .null, .null, .int 0, .int 0, .int 0, .int 0])) := ⟨_, rfl⟩
  replace H := H h21 eh21
  rw [← eh21]
  have g22 : oK h21 t 11 := by rw [eh21]; exact oK_zn g20
  have g23 : oK h21 h19.1 5 := by rw [eh21]; exact oK_new rfl
  refine zX_seg (pc' := 42) (L' := [.ref t, .float 0]) (st' := [.ref (h19.1), .ref (h19.1), .ref t]) (h2 := h21) rfl rfl (fun C Cr hc kk => x_dup C rfl dX11_init_41 (kk)) ?_
  refine zX_call (as := [.ref (h19.1)]) (st := [.ref (h19.1), .ref t]) (fun C hM hc kk => x_callIN C [] hM kX5_init iX5_init ⟨rfl, rfl⟩ lX11_30 ⟨by decide, by decide⟩ rfl hc (Nat.le_of_ble_eq_true rfl) rfl dX11_init_42 kk) (zC.mono H ?_)
  rintro r0 h24 ⟨rfl, H⟩
  show zX mX11_init 45 [.ref t, .float 0] [.ref (h19.1), .ref t] h24 Q
  obtain ⟨g25, H⟩ := H
  refine zX_seg (pc' := 48) (L' := [.ref t, .float 0]) (st' := []) (h2 := (pF h24 t 3 (zr (some h19.1)))) rfl rfl (fun C Cr hc kk => f_putFR C Cr rfl (x := (some h19.1)) lX11_31 tX11 nX11_3 g25 rfl (Or.inl ⟨_, rfl⟩) dX11_init_45 (kk)) ?_
  obtain ⟨h26, eh26⟩ : ∃ y : zH, y = (pF h24 t 3 (zr (some h19.1))) := ⟨_, rfl⟩
  replace H := H h26 eh26
  rw [← eh26]
  have g27 : oK h26 t 11 := by rw [eh26]; exact oK_pF' g25 rfl (zmr _) g25
  refine zX_seg (pc' := 49) (L' := [.ref t, .float 0]) (st' := [.ref t]) (h2 := h26) rfl rfl (fun C Cr hc kk => x_aload_n C (v := .ref t) rfl rfl dX11_init_48 (kk)) ?_
  refine zX_new (pc' := 52) (L' := [.ref t, .float 0]) (st' := [.ref (h26.1), .ref t]) (e := (zO 3 [.null, .int 0, .int 0, .int 0, .int 0])) (fun C z1 z2 kk => x_new C [.null, .int 0, .int 0, .int 0, .int 0] (hcl := (rfl : vwCl[3]? = some (RX3, TX3, 5))) tX3 wX3 ⟨lX11_35, qX3⟩ rfl z1 z2 dX11_init_49 kk) ?_
  obtain ⟨h28, eh28⟩ : ∃ y : zH, y = (zn h26 (zO 3 [.null, .int 0, .int 0, .int 0, .int 0])) := ⟨_, rfl⟩
  replace H := H h28 eh28
  rw [← eh28]
  have g29 : oK h28 t 11 := by rw [eh28]; exact oK_zn g27
  have g30 : oK h28 h26.1 3 := by rw [eh28]; exact oK_new rfl
  refine zX_seg (pc' := 53) (L' := [.ref t, .float 0]) (st' := [.ref (h26.1), .ref (h26.1), .ref t]) (h2 := h28) rfl rfl (fun C Cr hc kk => x_dup C rfl dX11_init_52 (kk)) ?_
  refine zX_call (as := [.ref (h26.1)]) (st := [.ref (h26.1), .ref t]) (fun C hM hc kk => x_callIN C [] hM kX3_init iX3_init ⟨rfl, rfl⟩ lX11_37 ⟨by decide, by decide⟩ rfl hc (Nat.le_of_ble_eq_true rfl) rfl dX11_init_53 kk) (zC.mono H ?_)
  rintro r0 h31 ⟨rfl, H⟩
  show zX mX11_init 56 [.ref t, .float 0] [.ref (h26.1), .ref t] h31 Q
  obtain ⟨g32, H⟩ := H
  refine zX_seg (pc' := 59) (L' := [.ref t, .float 0]) (st' := []) (h2 := (pF h31 t 4 (zr (some h26.1)))) rfl rfl (fun C Cr hc kk => f_putFR C Cr rfl (x := (some h26.1)) lX11_38 tX11 nX11_4 g32 rfl (Or.inl ⟨_, rfl⟩) dX11_init_56 (kk)) ?_
  obtain ⟨h33, eh33⟩ : ∃ y : zH, y = (pF h31 t 4 (zr (some h26.1))) := ⟨_, rfl⟩
  replace H := H h33 eh33
  rw [← eh33]
  have g34 : oK h33 t 11 := by rw [eh33]; exact oK_pF' g32 rfl (zmr _) g32
  refine zX_seg (pc' := 60) (L' := [.ref t, .float 0]) (st' := [.ref t]) (h2 := h33) rfl rfl (fun C Cr hc kk => x_aload_n C (v := .ref t) rfl rfl dX11_init_59 (kk)) ?_
  refine zX_new (pc' := 63) (L' := [.ref t, .float 0]) (st' := [.ref (h33.1), .ref t]) (e := (zO 7 [.null, .null, .null, .int 0])) (fun C z1 z2 kk => x_new C [.null, .null, .null, .int 0] (hcl := (rfl : vwCl[7]? = some (RX7, TX7, 4))) tX7 wX7 ⟨lX11_42, qX7⟩ rfl z1 z2 dX11_init_60 kk) ?_
  obtain ⟨h35, eh35⟩ : ∃ y : zH, y = (zn h33 (zO 7 [.null, .null, .null, .int 0])) := ⟨_, rfl⟩
  replace H := H h35 eh35
  rw [← eh35]
  have g36 : oK h35 t 11 := by rw [eh35]; exact oK_zn g34
  have g37 : oK h35 h33.1 7 := by rw [eh35]; exact oK_new rfl
  refine zX_seg (pc' := 64) (L' := [.ref t, .float 0]) (st' := [.ref (h33.1), .ref (h33.1), .ref t]) (h2 := h35) rfl rfl (fun C Cr hc kk => x_dup C rfl dX11_init_63 (kk)) ?_
  refine zX_call (as := [.ref (h33.1)]) (st := [.ref (h33.1), .ref t]) (fun C hM hc kk => x_callIN C [] hM kX7_init iX7_init ⟨rfl, rfl⟩ lX11_44 ⟨by decide, by decide⟩ rfl hc (Nat.le_of_ble_eq_true rfl) rfl dX11_init_64 kk) (zC.mono H ?_)
  rintro r0 h38 ⟨rfl, H⟩
  show zX mX11_init 67 [.ref t, .float 0] [.ref (h33.1), .ref t] h38 Q
  obtain ⟨g39, H⟩ := H
  refine zX_seg (pc' := 70) (L' := [.ref t, .float 0]) (st' := []) (h2 := (pF h38 t 5 (zr (some h33.1)))) rfl rfl (fun C Cr hc kk => f_putFR C Cr rfl (x := (some h33.1)) lX11_45 tX11 nX11_5 g39 rfl (Or.inl ⟨_, rfl⟩) dX11_init_67 (kk)) ?_
  obtain ⟨h40, eh40⟩ : ∃ y : zH, y = (pF h38 t 5 (zr (some h33.1))) := ⟨_, rfl⟩
  replace H := H h40 eh40
  rw [← eh40]
  have g41 : oK h40 t 11 := by rw [eh40]; exact oK_pF' g39 rfl (zmr _) g39
  refine zX_seg (pc' := 71) (L' := [.ref t, .float 0]) (st' := [.ref t]) (h2 := h40) rfl rfl (fun C Cr hc kk => x_aload_n C (v := .ref t) rfl rfl dX11_init_70 (kk)) ?_
  refine zX_new (pc' := 74) (L' := [.ref t, .float 0]) (st' := [.ref (h40.1), .ref t]) (e := (zO 9 [.int 0, .int 0, .int 0, .int 0, .int 0, .int 0])) (fun C z1 z2 kk => x_new C [.int 0, .int 0, .int 0, .int 0, .int 0, .int 0] (hcl := (rfl : vwCl[9]? = some (RX9, TX9, 6))) tX9 wX9 ⟨lX11_49, qX9⟩ rfl z1 z2 dX11_init_71 kk) ?_
  obtain ⟨h42, eh42⟩ : ∃ y : zH, y = (zn h40 (zO 9 [.int 0, .int 0, .int 0, .int 0, .int 0, .int 0])) := ⟨_, rfl⟩
  replace H := H h42 eh42
  rw [← eh42]
  have g43 : oK h42 t 11 := by rw [eh42]; exact oK_zn g41
  have g44 : oK h42 h40.1 9 := by rw [eh42]; exact oK_new rfl
  refine zX_seg (pc' := 75) (L' := [.ref t, .float 0]) (st' := [.ref (h40.1), .ref (h40.1), .ref t]) (h2 := h42) rfl rfl (fun C Cr hc kk => x_dup C rfl dX11_init_74 (kk)) ?_
  refine zX_call (as := [.ref (h40.1)]) (st := [.ref (h40.1), .ref t]) (fun C hM hc kk => x_callIN C [] hM kX9_init iX9_init ⟨rfl, rfl⟩ lX11_51 ⟨by decide, by decide⟩ rfl hc (Nat.le_of_ble_eq_true rfl) rfl dX11_init_75 kk) (zC.mono H ?_)
  rintro r0 h45 ⟨rfl, H⟩
  show zX mX11_init 78 [.ref t, .float 0] [.ref (h40.1), .ref t] h45 Q
  obtain ⟨g46, H⟩ := H
  refine zX_seg (pc' := 81) (L' := [.ref t, .float 0]) (st' := []) (h2 := (pF h45 t 6 (zr (some h40.1)))) rfl rfl (fun C Cr hc kk => f_putFR C Cr rfl (x := (some h40.1)) lX11_52 tX11 nX11_6 g46 rfl (Or.inl ⟨_, rfl⟩) dX11_init_78 (kk)) ?_
  obtain ⟨h47, eh47⟩ : ∃ y : zH, y = (pF h45 t 6 (zr (some h40.1))) := ⟨_, rfl⟩
  replace H := H h47 eh47
  rw [← eh47]
  have g48 : oK h47 t 11 := by rw [eh47]; exact oK_pF' g46 rfl (zmr _) g46
  refine zX_seg (pc' := 82) (L' := [.ref t, .float 0]) (st' := [.ref t]) (h2 := h47) rfl rfl (fun C Cr hc kk => x_aload_n C (v := .ref t) rfl rfl dX11_init_81 (kk)) ?_
  refine zX_new (pc' := 85) (L' := [.ref t, .float 0]) (st' := [.ref (h47.1), .ref t]) (e := (zO 10 [.null, .null, .null, .null, .null, .null, .int 0, .int 0, .int 0, .int 0])) (fun C z1 z2 kk => x_new C [.null, .null, .null, .null, .null, .null, .int 0, .int 0, .int 0, .int 0] (hcl := (rfl : vwCl[10]? = some (RX10, TX10, 10))) tX10 wX10 ⟨lX11_56, qX10⟩ rfl z1 z2 dX11_init_82 kk) ?_
  obtain ⟨h49, eh49⟩ : ∃ y : zH, y = (zn h47 (zO 10 [.null, .null, .null, .null, .null, .null, .int 0, .int 0, .int 0, .int 0])) := ⟨_, rfl⟩
  replace H := H h49 eh49
  rw [← eh49]
  have g50 : oK h49 t 11 := by rw [eh49]; exact oK_zn g48
  have g51 : oK h49 h47.1 10 := by rw [eh49]; exact oK_new rfl
  refine zX_seg (pc' := 86) (L' := [.ref t, .float 0]) (st' := [.ref (h47.1), .ref (h47.1), .ref t]) (h2 := h49) rfl rfl (fun C Cr hc kk => x_dup C rfl dX11_init_85 (kk)) ?_
  refine zX_call (as := [.ref (h47.1)]) (st := [.ref (h47.1), .ref t]) (fun C hM hc kk => x_callIN C [] hM kX10_init iX10_init ⟨rfl, rfl⟩ lX11_58 ⟨by decide, by decide⟩ rfl hc (Nat.le_of_ble_eq_true rfl) rfl dX11_init_86 kk) (zC.mono H ?_)
  rintro r0 h52 ⟨rfl, H⟩
  show zX mX11_init 89 [.ref t, .float 0] [.ref (h47.1), .ref t] h52 Q
  obtain ⟨g53, H⟩ := H
  refine zX_seg (pc' := 92) (L' := [.ref t, .float 0]) (st' := []) (h2 := (pF h52 t 7 (zr (some h47.1)))) rfl rfl (fun C Cr hc kk => f_putFR C Cr rfl (x := (some h47.1)) lX11_59 tX11 nX11_7 g53 rfl (Or.inl ⟨_, rfl⟩) dX11_init_89 (kk)) ?_
  obtain ⟨h54, eh54⟩ : ∃ y : zH, y = (pF h52 t 7 (zr (some h47.1))) := ⟨_, rfl⟩
  replace H := H h54 eh54
  rw [← eh54]
  have g55 : oK h54 t 11 := by rw [eh54]; exact oK_pF' g53 rfl (zmr _) g53
  refine zX_seg (pc' := 93) (L' := [.ref t, .float 0]) (st' := [.ref t]) (h2 := h54) rfl rfl (fun C Cr hc kk => x_aload_n C (v := .ref t) rfl rfl dX11_init_92 (kk)) ?_
  refine zX_new (pc' := 96) (L' := [.ref t, .float 0]) (st' := [.ref (h54.1), .ref t]) (e := (zO 1 [.null, .null, .null, .int 0, .int 0])) (fun C z1 z2 kk => x_new C [.null, .null, .null, .int 0, .int 0] (hcl := (rfl : vwCl[1]? = some (RX1, TX1, 5))) tX1 wX1 ⟨lX11_63, qX1⟩ rfl z1 z2 dX11_init_93 kk) ?_
  obtain ⟨h56, eh56⟩ : ∃ y : zH, y = (zn h54 (zO 1 [.null, .null, .null, .int 0, .int 0])) := ⟨_, rfl⟩
  replace H := H h56 eh56
  rw [← eh56]
  have g57 : oK h56 t 11 := by rw [eh56]; exact oK_zn g55
  have g58 : oK h56 h54.1 1 := by rw [eh56]; exact oK_new rfl
  refine zX_seg (pc' := 97) (L' := [.ref t, .float 0]) (st' := [.ref (h54.1), .ref (h54.1), .ref t]) (h2 := h56) rfl rfl (fun C Cr hc kk => x_dup C rfl dX11_init_96 (kk)) ?_
  refine zX_call (as := [.ref (h54.1)]) (st := [.ref (h54.1), .ref t]) (fun C hM hc kk => x_callIN C [] hM kX1_init iX1_init ⟨rfl, rfl⟩ lX11_65 ⟨by decide, by decide⟩ rfl hc (Nat.le_of_ble_eq_true rfl) rfl dX11_init_97 kk) (zC.mono H ?_)
  rintro r0 h59 ⟨rfl, H⟩
  show zX mX11_init 100 [.ref t, .float 0] [.ref (h54.1), .ref t] h59 Q
  obtain ⟨g60, H⟩ := H
  refine zX_seg (pc' := 103) (L' := [.ref t, .float 0]) (st' := []) (h2 := (pF h59 t 8 (zr (some h54.1)))) rfl rfl (fun C Cr hc kk => f_putFR C Cr rfl (x := (some h54.1)) lX11_66 tX11 nX11_8 g60 rfl (Or.inl ⟨_, rfl⟩) dX11_init_100 (kk)) ?_
  obtain ⟨h61, eh61⟩ : ∃ y : zH, y = (pF h59 t 8 (zr (some h54.1))) := ⟨_, rfl⟩
  replace H := H h61 eh61
  rw [← eh61]
  have g62 : oK h61 t 11 := by rw [eh61]; exact oK_pF' g60 rfl (zmr _) g60
  refine zX_seg (pc' := 105) (L' := [.ref t, .float 0]) (st' := [.int (3 : Int32), .ref t]) (h2 := h61) rfl rfl (fun C Cr hc kk => x_aload_n C (v := .ref t) rfl rfl dX11_init_103 (x_iconst C (3 : Int32) (by decide) dX11_init_104 (kk))) ?_
  refine zX_new (pc' := 108) (L' := [.ref t, .float 0]) (st' := [.ref (h61.1), .ref t]) (e := (zR 1 3 (fun _ => none))) (fun C z1 z2 kk => x_anew C (Or.inr ⟨rfl, rfl⟩) lX11_63 (by decide) (by decide) (by decide) z1 z2 dX11_init_105 kk) ?_
  obtain ⟨h63, eh63⟩ : ∃ y : zH, y = (zn h61 (zR 1 3 (fun _ => none))) := ⟨_, rfl⟩
  replace H := H h63 eh63
  rw [← eh63]
  have g64 : oK h63 t 11 := by rw [eh63]; exact oK_zn g62
  have g65 : rK h63 h61.1 1 := by rw [eh63]; exact rK_new
  refine zX_seg (pc' := 111) (L' := [.ref t, .float 0]) (st' := []) (h2 := (pF h63 t 9 (zr (some h61.1)))) rfl rfl (fun C Cr hc kk => f_putFR C Cr rfl (x := (some h61.1)) lX11_70 tX11 nX11_9 g64 rfl (Or.inr ⟨_, rfl⟩) dX11_init_108 (kk)) ?_
  obtain ⟨h66, eh66⟩ : ∃ y : zH, y = (pF h63 t 9 (zr (some h61.1))) := ⟨_, rfl⟩
  replace H := H h66 eh66
  rw [← eh66]
  have g67 : oK h66 t 11 := by rw [eh66]; exact oK_pF' g64 rfl (zmr _) g64
  have g68 : rK h66 h61.1 1 := by rw [eh66]; exact rK_pF g65
  refine zX_seg (pc' := 113) (L' := [.ref t, .int (0 : Int32)]) (st' := []) (h2 := h66) rfl rfl (fun C Cr hc kk => x_iconst C (0 : Int32) (by decide) dX11_init_111 (x_istore_n C (by decide) dX11_init_112 (kk))) ?_
  exact zX_wk (wkK (wkK wkN)) H
set_option maxHeartbeats 20000000 in
theorem bX11_init_113 (l0 : Nat) (l1 : Int32) (h : zH) (Q : Option Value → zH → Prop) (H : oK h l0 11 ∧ (∃ a2 : Nat, gR h l0 9 = some a2 ∧ (rK h a2 1 ∧ (((nI (aN h a2)) ≤ l1 → (∀ h5 : zH, h5 = (zn h (zO 10 [.null, .null, .null, .null, .null, .null, .int 0, .int 0, .int 0, .int 0])) → (zC mX10_init [.ref (h.1)] h5 (fun r0 h9 => r0 = none ∧ (oK h9 l0 11 ∧ (∀ h11 : zH, h11 = (pF h9 l0 10 (zr (some h.1))) → (∀ h13 : zH, h13 = (zn h11 (zO 10 [.null, .null, .null, .null, .null, .null, .int 0, .int 0, .int 0, .int 0])) → (zC mX10_init [.ref (h11.1)] h13 (fun r0 h16 => r0 = none ∧ (oK h16 l0 11 ∧ (∀ h18 : zH, h18 = (pF h16 l0 11 (zr (some h11.1))) → (∀ h20 : zH, h20 = (pF h18 l0 14 (.int (-1 : Int32))) → (Q none h20))))))))))))) ∧ (¬ ((nI (aN h a2)) ≤ l1) → (∀ h22 : zH, h22 = (zn h (zO 1 [.null, .null, .null, .int 0, .int 0])) → (zC mX1_init [.ref (h.1)] h22 (fun r0 h26 => r0 = none ∧ (rK h26 a2 1 ∧ (oK h26 h.1 1 ∧ (vp_in l1 (aN h26 a2) ∧ (∀ h30 : zH, h30 = (pR h26 a2 l1.toNatClampNeg (some h.1)) → (zX mX11_init 113 [.ref l0, .int (l1 + 1)] [] h30 Q))))))))))))) : zX mX11_init 113 [.ref l0, .int l1] [] h Q := by
  obtain ⟨g1, H⟩ := H
  obtain ⟨a2, ea2, H⟩ := H
  obtain ⟨g3, H⟩ := H
  refine zX_seg (pc' := 119) (L' := [.ref l0, .int l1]) (st' := [.int (nI (aN h a2)), .int l1]) (h2 := h) rfl rfl (fun C Cr hc kk => x_iload_n C rfl dX11_init_113 (x_aload_n C (v := .ref l0) rfl rfl dX11_init_114 (f_getR1 C lX11_70 g1 rfl ea2 dX11_init_115 (f_alenR C (by decide) g3 dX11_init_118 (kk))))) ?_
  refine zX_br (p1 := 141) (p2 := 122) (st' := []) ((nI (aN h a2)) ≤ l1) (fun C kt kf => x_icmp_ge C 141 dX11_init_119 (by decide) kt kf) (fun q4 => ?_) (fun q4 => ?_)
  · replace H := H.1 q4
    refine zX_seg (pc' := 142) (L' := [.ref l0, .int l1]) (st' := [.ref l0]) (h2 := h) rfl rfl (fun C Cr hc kk => x_aload_n C (v := .ref l0) rfl rfl dX11_init_141 (kk)) ?_
    refine zX_new (pc' := 145) (L' := [.ref l0, .int l1]) (st' := [.ref (h.1), .ref l0]) (e := (zO 10 [.null, .null, .null, .null, .null, .null, .int 0, .int 0, .int 0, .int 0])) (fun C z1 z2 kk => x_new C [.null, .null, .null, .null, .null, .null, .int 0, .int 0, .int 0, .int 0] (hcl := (rfl : vwCl[10]? = some (RX10, TX10, 10))) tX10 wX10 ⟨lX11_56, qX10⟩ rfl z1 z2 dX11_init_142 kk) ?_
    obtain ⟨h5, eh5⟩ : ∃ y : zH, y = (zn h (zO 10 [.null, .null, .null, .null, .null, .null, .int 0, .int 0, .int 0, .int 0])) := ⟨_, rfl⟩
    replace H := H h5 eh5
    rw [← eh5]
    have g6 : oK h5 l0 11 := by rw [eh5]; exact oK_zn g1
    have g7 : rK h5 a2 1 := by rw [eh5]; exact rK_zn g3
    have g8 : oK h5 h.1 10 := by rw [eh5]; exact oK_new rfl
    refine zX_seg (pc' := 146) (L' := [.ref l0, .int l1]) (st' := [.ref (h.1), .ref (h.1), .ref l0]) (h2 := h5) rfl rfl (fun C Cr hc kk => x_dup C rfl dX11_init_145 (kk)) ?_
    refine zX_call (as := [.ref (h.1)]) (st := [.ref (h.1), .ref l0]) (fun C hM hc kk => x_callIN C [] hM kX10_init iX10_init ⟨rfl, rfl⟩ lX11_58 ⟨by decide, by decide⟩ rfl hc (Nat.le_of_ble_eq_true rfl) rfl dX11_init_146 kk) (zC.mono H ?_)
    rintro r0 h9 ⟨rfl, H⟩
    show zX mX11_init 149 [.ref l0, .int l1] [.ref (h.1), .ref l0] h9 Q
    obtain ⟨g10, H⟩ := H
    refine zX_seg (pc' := 152) (L' := [.ref l0, .int l1]) (st' := []) (h2 := (pF h9 l0 10 (zr (some h.1)))) rfl rfl (fun C Cr hc kk => f_putR C (x := (some h.1)) lX11_74 tX11 nX11_10 g10 rfl (Or.inl ⟨_, rfl⟩) dX11_init_149 (kk)) ?_
    obtain ⟨h11, eh11⟩ : ∃ y : zH, y = (pF h9 l0 10 (zr (some h.1))) := ⟨_, rfl⟩
    replace H := H h11 eh11
    rw [← eh11]
    have g12 : oK h11 l0 11 := by rw [eh11]; exact oK_pF' g10 rfl (zmr _) g10
    refine zX_seg (pc' := 153) (L' := [.ref l0, .int l1]) (st' := [.ref l0]) (h2 := h11) rfl rfl (fun C Cr hc kk => x_aload_n C (v := .ref l0) rfl rfl dX11_init_152 (kk)) ?_
    refine zX_new (pc' := 156) (L' := [.ref l0, .int l1]) (st' := [.ref (h11.1), .ref l0]) (e := (zO 10 [.null, .null, .null, .null, .null, .null, .int 0, .int 0, .int 0, .int 0])) (fun C z1 z2 kk => x_new C [.null, .null, .null, .null, .null, .null, .int 0, .int 0, .int 0, .int 0] (hcl := (rfl : vwCl[10]? = some (RX10, TX10, 10))) tX10 wX10 ⟨lX11_56, qX10⟩ rfl z1 z2 dX11_init_153 kk) ?_
    obtain ⟨h13, eh13⟩ : ∃ y : zH, y = (zn h11 (zO 10 [.null, .null, .null, .null, .null, .null, .int 0, .int 0, .int 0, .int 0])) := ⟨_, rfl⟩
    replace H := H h13 eh13
    rw [← eh13]
    have g14 : oK h13 l0 11 := by rw [eh13]; exact oK_zn g12
    have g15 : oK h13 h11.1 10 := by rw [eh13]; exact oK_new rfl
    refine zX_seg (pc' := 157) (L' := [.ref l0, .int l1]) (st' := [.ref (h11.1), .ref (h11.1), .ref l0]) (h2 := h13) rfl rfl (fun C Cr hc kk => x_dup C rfl dX11_init_156 (kk)) ?_
    refine zX_call (as := [.ref (h11.1)]) (st := [.ref (h11.1), .ref l0]) (fun C hM hc kk => x_callIN C [] hM kX10_init iX10_init ⟨rfl, rfl⟩ lX11_58 ⟨by decide, by decide⟩ rfl hc (Nat.le_of_ble_eq_true rfl) rfl dX11_init_157 kk) (zC.mono H ?_)
    rintro r0 h16 ⟨rfl, H⟩
    show zX mX11_init 160 [.ref l0, .int l1] [.ref (h11.1), .ref l0] h16 Q
    obtain ⟨g17, H⟩ := H
    refine zX_seg (pc' := 163) (L' := [.ref l0, .int l1]) (st' := []) (h2 := (pF h16 l0 11 (zr (some h11.1)))) rfl rfl (fun C Cr hc kk => f_putR C (x := (some h11.1)) lX11_77 tX11 nX11_11 g17 rfl (Or.inl ⟨_, rfl⟩) dX11_init_160 (kk)) ?_
    obtain ⟨h18, eh18⟩ : ∃ y : zH, y = (pF h16 l0 11 (zr (some h11.1))) := ⟨_, rfl⟩
    replace H := H h18 eh18
    rw [← eh18]
    have g19 : oK h18 l0 11 := by rw [eh18]; exact oK_pF' g17 rfl (zmr _) g17
    refine zX_seg (pc' := 168) (L' := [.ref l0, .int l1]) (st' := []) (h2 := (pF h18 l0 14 (.int (-1 : Int32)))) rfl rfl (fun C Cr hc kk => x_aload_n C (v := .ref l0) rfl rfl dX11_init_163 (x_iconst C (-1 : Int32) (by decide) dX11_init_164 (f_putI C lX11_80 tX11 nX11_14 g19 rfl rfl dX11_init_165 (kk)))) ?_
    obtain ⟨h20, eh20⟩ : ∃ y : zH, y = (pF h18 l0 14 (.int (-1 : Int32))) := ⟨_, rfl⟩
    replace H := H h20 eh20
    rw [← eh20]
    have g21 : oK h20 l0 11 := by rw [eh20]; exact oK_pF' g19 rfl rfl g19
    exact zX_ret none (fun C Cr hc => x_ret C Cr rfl hc dX11_init_168 ⟨rfl, rfl⟩) H
  · replace H := H.2 q4
    refine zX_seg (pc' := 127) (L' := [.ref l0, .int l1]) (st' := [.int l1, .ref a2]) (h2 := h) rfl rfl (fun C Cr hc kk => x_aload_n C (v := .ref l0) rfl rfl dX11_init_122 (f_getR1 C lX11_70 g1 rfl ea2 dX11_init_123 (x_iload_n C rfl dX11_init_126 (kk)))) ?_
    refine zX_new (pc' := 130) (L' := [.ref l0, .int l1]) (st' := [.ref (h.1), .int l1, .ref a2]) (e := (zO 1 [.null, .null, .null, .int 0, .int 0])) (fun C z1 z2 kk => x_new C [.null, .null, .null, .int 0, .int 0] (hcl := (rfl : vwCl[1]? = some (RX1, TX1, 5))) tX1 wX1 ⟨lX11_63, qX1⟩ rfl z1 z2 dX11_init_127 kk) ?_
    obtain ⟨h22, eh22⟩ : ∃ y : zH, y = (zn h (zO 1 [.null, .null, .null, .int 0, .int 0])) := ⟨_, rfl⟩
    replace H := H h22 eh22
    rw [← eh22]
    have g23 : oK h22 l0 11 := by rw [eh22]; exact oK_zn g1
    have g24 : rK h22 a2 1 := by rw [eh22]; exact rK_zn g3
    have g25 : oK h22 h.1 1 := by rw [eh22]; exact oK_new rfl
    refine zX_seg (pc' := 131) (L' := [.ref l0, .int l1]) (st' := [.ref (h.1), .ref (h.1), .int l1, .ref a2]) (h2 := h22) rfl rfl (fun C Cr hc kk => x_dup C rfl dX11_init_130 (kk)) ?_
    refine zX_call (as := [.ref (h.1)]) (st := [.ref (h.1), .int l1, .ref a2]) (fun C hM hc kk => x_callIN C [] hM kX1_init iX1_init ⟨rfl, rfl⟩ lX11_65 ⟨by decide, by decide⟩ rfl hc (Nat.le_of_ble_eq_true rfl) rfl dX11_init_131 kk) (zC.mono H ?_)
    rintro r0 h26 ⟨rfl, H⟩
    show zX mX11_init 134 [.ref l0, .int l1] [.ref (h.1), .int l1, .ref a2] h26 Q
    obtain ⟨g28, H⟩ := H
    obtain ⟨g29, H⟩ := H
    obtain ⟨g27, H⟩ := H
    refine zX_seg (pc' := 135) (L' := [.ref l0, .int l1]) (st' := []) (h2 := (pR h26 a2 l1.toNatClampNeg (some h.1))) rfl rfl (fun C Cr hc kk => f_aast C (x := (some h.1)) (by decide) g28 (fun v z => by cases z; exact g29) g27 dX11_init_134 (kk)) ?_
    obtain ⟨h30, eh30⟩ : ∃ y : zH, y = (pR h26 a2 l1.toNatClampNeg (some h.1)) := ⟨_, rfl⟩
    replace H := H h30 eh30
    rw [← eh30]
    have g31 : rK h30 a2 1 := by rw [eh30]; exact rK_pR g28
    have g32 : oK h30 h.1 1 := by rw [eh30]; exact oK_pR g29
    refine zX_seg (pc' := 113) (L' := [.ref l0, .int (l1 + 1)]) (st' := []) (h2 := h30) rfl rfl (fun C Cr hc kk => x_iinc C (l1 + 1) rfl (congrArg (HAdd.hAdd _) (by decide)) (by decide) dX11_init_135 (x_goto C 113 dX11_init_138 (by decide) (kk))) ?_
    exact zX_wk (wkK (wkK wkN)) H
theorem nX11_init (t : Nat) (h : zH) (Q : Option Value → zH → Prop) (H : zX mX11_init 0 [.ref t, .float 0] [] h Q) : zC mX11_init [.ref t] h Q := zC_of (by decide +kernel) (by simp) (Nat.le_of_ble_eq_true rfl) H
set_option maxHeartbeats 20000000 in
theorem bX11_feed_0 (t : Nat) (p0 : Int32) (p1 : Int32) (p2 : Int32) (p3 : Int32) (p4 : Int32) (h : zH) (Q : Option Value → zH → Prop) (H : oK h t 11 ∧ (∃ a2 : Nat, gR h t 1 = some a2 ∧ (oK h a2 8 ∧ ((((gI h a2 5) + (20 : Int32)) ≤ (1600 : Int32) → (zC mX8_add [.ref a2, .int p0] h (fun r0 h5 => r0 = none ∧ (oK h5 t 11 ∧ (∃ a7 : Nat, gR h5 t 1 = some a7 ∧ (oK h5 a7 8 ∧ (zC mX8_add [.ref a7, .int p1] h5 (fun r0 h9 => r0 = none ∧ (oK h9 t 11 ∧ (∃ a11 : Nat, gR h9 t 1 = some a11 ∧ (oK h9 a11 8 ∧ (zC mX8_add [.ref a11, .int p2] h9 (fun r0 h13 => r0 = none ∧ (oK h13 t 11 ∧ (∃ a15 : Nat, gR h13 t 1 = some a15 ∧ (oK h13 a15 8 ∧ (zC mX8_add [.ref a15, .int p3] h13 (fun r0 h17 => r0 = none ∧ (oK h17 t 11 ∧ (∃ a19 : Nat, gR h17 t 1 = some a19 ∧ (oK h17 a19 8 ∧ (zC mX8_add [.ref a19, .int p4] h17 (fun r0 h21 => r0 = none ∧ (oK h21 t 11 ∧ (∃ a23 : Nat, gR h21 t 1 = some a23 ∧ (oK h21 a23 8 ∧ (Q (some (.int (gI h21 a23 5))) h21))))))))))))))))))))))))))) ∧ (¬ (((gI h a2 5) + (20 : Int32)) ≤ (1600 : Int32)) → (Q (some (.int (-1 : Int32))) h)))))) : zX mX11_feed 0 [.ref t, .int p0, .int p1, .int p2, .int p3, .int p4] [] h Q := by
  obtain ⟨g1, H⟩ := H
  obtain ⟨a2, ea2, H⟩ := H
  obtain ⟨g3, H⟩ := H
  refine zX_seg (pc' := 13) (L' := [.ref t, .int p0, .int p1, .int p2, .int p3, .int p4]) (st' := [.int (1600 : Int32), .int ((gI h a2 5) + (20 : Int32))]) (h2 := h) rfl rfl (fun C Cr hc kk => x_aload_n C (v := .ref t) rfl rfl dX11_feed_0 (f_getR1 C lX11_20 g1 rfl ea2 dX11_feed_1 (f_getIN C lX11_84 g3 rfl dX11_feed_4 (x_bipush C (20 : Int32) (by decide) dX11_feed_7 (x_iadd C dX11_feed_9 (x_sipush C (1600 : Int32) (by decide) dX11_feed_10 (kk))))))) ?_
  refine zX_br (p1 := 18) (p2 := 16) (st' := []) (((gI h a2 5) + (20 : Int32)) ≤ (1600 : Int32)) (fun C kt kf => x_icmp_le C 18 dX11_feed_13 (by decide) kt kf) (fun q4 => ?_) (fun q4 => ?_)
  · replace H := H.1 q4
    refine zX_seg (pc' := 23) (L' := [.ref t, .int p0, .int p1, .int p2, .int p3, .int p4]) (st' := [.int p0, .ref a2]) (h2 := h) rfl rfl (fun C Cr hc kk => x_aload_n C (v := .ref t) rfl rfl dX11_feed_18 (f_getR1 C lX11_20 g1 rfl ea2 dX11_feed_19 (x_iload_n C rfl dX11_feed_22 (kk)))) ?_
    refine zX_call (as := [.ref a2, .int p0]) (st := []) (fun C hM hc kk => f_callVN C [.int p0] hM kX8_add vX8_add lX11_89 ⟨by decide, by decide⟩ (rfl : vwCl[8]? = some (RX8, TX8, 11)) g3 rfl hc (Nat.le_of_ble_eq_true rfl) rfl dX11_feed_23 kk) (zC.mono H ?_)
    rintro r0 h5 ⟨rfl, H⟩
    show zX mX11_feed 26 [.ref t, .int p0, .int p1, .int p2, .int p3, .int p4] [] h5 Q
    obtain ⟨g6, H⟩ := H
    obtain ⟨a7, ea7, H⟩ := H
    refine zX_seg (pc' := 31) (L' := [.ref t, .int p0, .int p1, .int p2, .int p3, .int p4]) (st' := [.int p1, .ref a7]) (h2 := h5) rfl rfl (fun C Cr hc kk => x_aload_n C (v := .ref t) rfl rfl dX11_feed_26 (f_getR1 C lX11_20 g6 rfl ea7 dX11_feed_27 (x_iload_n C rfl dX11_feed_30 (kk)))) ?_
    obtain ⟨g8, H⟩ := H
    refine zX_call (as := [.ref a7, .int p1]) (st := []) (fun C hM hc kk => f_callVN C [.int p1] hM kX8_add vX8_add lX11_89 ⟨by decide, by decide⟩ (rfl : vwCl[8]? = some (RX8, TX8, 11)) g8 rfl hc (Nat.le_of_ble_eq_true rfl) rfl dX11_feed_31 kk) (zC.mono H ?_)
    rintro r0 h9 ⟨rfl, H⟩
    show zX mX11_feed 34 [.ref t, .int p0, .int p1, .int p2, .int p3, .int p4] [] h9 Q
    obtain ⟨g10, H⟩ := H
    obtain ⟨a11, ea11, H⟩ := H
    refine zX_seg (pc' := 39) (L' := [.ref t, .int p0, .int p1, .int p2, .int p3, .int p4]) (st' := [.int p2, .ref a11]) (h2 := h9) rfl rfl (fun C Cr hc kk => x_aload_n C (v := .ref t) rfl rfl dX11_feed_34 (f_getR1 C lX11_20 g10 rfl ea11 dX11_feed_35 (x_iload_n C rfl dX11_feed_38 (kk)))) ?_
    obtain ⟨g12, H⟩ := H
    refine zX_call (as := [.ref a11, .int p2]) (st := []) (fun C hM hc kk => f_callVN C [.int p2] hM kX8_add vX8_add lX11_89 ⟨by decide, by decide⟩ (rfl : vwCl[8]? = some (RX8, TX8, 11)) g12 rfl hc (Nat.le_of_ble_eq_true rfl) rfl dX11_feed_39 kk) (zC.mono H ?_)
    rintro r0 h13 ⟨rfl, H⟩
    show zX mX11_feed 42 [.ref t, .int p0, .int p1, .int p2, .int p3, .int p4] [] h13 Q
    obtain ⟨g14, H⟩ := H
    obtain ⟨a15, ea15, H⟩ := H
    refine zX_seg (pc' := 48) (L' := [.ref t, .int p0, .int p1, .int p2, .int p3, .int p4]) (st' := [.int p3, .ref a15]) (h2 := h13) rfl rfl (fun C Cr hc kk => x_aload_n C (v := .ref t) rfl rfl dX11_feed_42 (f_getR1 C lX11_20 g14 rfl ea15 dX11_feed_43 (x_iload C rfl dX11_feed_46 (kk)))) ?_
    obtain ⟨g16, H⟩ := H
    refine zX_call (as := [.ref a15, .int p3]) (st := []) (fun C hM hc kk => f_callVN C [.int p3] hM kX8_add vX8_add lX11_89 ⟨by decide, by decide⟩ (rfl : vwCl[8]? = some (RX8, TX8, 11)) g16 rfl hc (Nat.le_of_ble_eq_true rfl) rfl dX11_feed_48 kk) (zC.mono H ?_)
    rintro r0 h17 ⟨rfl, H⟩
    show zX mX11_feed 51 [.ref t, .int p0, .int p1, .int p2, .int p3, .int p4] [] h17 Q
    obtain ⟨g18, H⟩ := H
    obtain ⟨a19, ea19, H⟩ := H
    refine zX_seg (pc' := 57) (L' := [.ref t, .int p0, .int p1, .int p2, .int p3, .int p4]) (st' := [.int p4, .ref a19]) (h2 := h17) rfl rfl (fun C Cr hc kk => x_aload_n C (v := .ref t) rfl rfl dX11_feed_51 (f_getR1 C lX11_20 g18 rfl ea19 dX11_feed_52 (x_iload C rfl dX11_feed_55 (kk)))) ?_
    obtain ⟨g20, H⟩ := H
    refine zX_call (as := [.ref a19, .int p4]) (st := []) (fun C hM hc kk => f_callVN C [.int p4] hM kX8_add vX8_add lX11_89 ⟨by decide, by decide⟩ (rfl : vwCl[8]? = some (RX8, TX8, 11)) g20 rfl hc (Nat.le_of_ble_eq_true rfl) rfl dX11_feed_57 kk) (zC.mono H ?_)
    rintro r0 h21 ⟨rfl, H⟩
    show zX mX11_feed 60 [.ref t, .int p0, .int p1, .int p2, .int p3, .int p4] [] h21 Q
    obtain ⟨g22, H⟩ := H
    obtain ⟨a23, ea23, H⟩ := H
    obtain ⟨g24, H⟩ := H
    refine zX_seg (pc' := 67) (L' := [.ref t, .int p0, .int p1, .int p2, .int p3, .int p4]) (st' := [.int (gI h21 a23 5)]) (h2 := h21) rfl rfl (fun C Cr hc kk => x_aload_n C (v := .ref t) rfl rfl dX11_feed_60 (f_getR1 C lX11_20 g22 rfl ea23 dX11_feed_61 (f_getIN C lX11_84 g24 rfl dX11_feed_64 (kk)))) ?_
    exact zX_ret (some (.int (gI h21 a23 5))) (fun C Cr hc => x_iret C Cr rfl rfl hc dX11_feed_67 ⟨rfl, rfl⟩) H
  · replace H := H.2 q4
    refine zX_seg (pc' := 17) (L' := [.ref t, .int p0, .int p1, .int p2, .int p3, .int p4]) (st' := [.int (-1 : Int32)]) (h2 := h) rfl rfl (fun C Cr hc kk => x_iconst C (-1 : Int32) (by decide) dX11_feed_16 (kk)) ?_
    exact zX_ret (some (.int (-1 : Int32))) (fun C Cr hc => x_iret C Cr rfl rfl hc dX11_feed_17 ⟨rfl, rfl⟩) H
theorem nX11_feed (t : Nat) (p0 : Int32) (p1 : Int32) (p2 : Int32) (p3 : Int32) (p4 : Int32) (h : zH) (Q : Option Value → zH → Prop) (H : zX mX11_feed 0 [.ref t, .int p0, .int p1, .int p2, .int p3, .int p4] [] h Q) : zC mX11_feed [.ref t, .int p0, .int p1, .int p2, .int p3, .int p4] h Q := zC_of (by decide +kernel) (by simp) (Nat.le_of_ble_eq_true rfl) H
set_option maxHeartbeats 20000000 in
theorem bX11_end_0 (t : Nat) (p0 : Int32) (h : zH) (Q : Option Value → zH → Prop) (H : (p0 < 0 → (Q (some (.int (-1 : Int32))) h)) ∧ (¬ (p0 < 0) → (oK h t 11 ∧ (∃ a3 : Nat, gR h t 1 = some a3 ∧ (oK h a3 8 ∧ ((p0 ≤ (gI h a3 5) → (∀ h6 : zH, h6 = (pF h a3 5 (.int p0)) → (Q (some (.int p0)) h6))) ∧ (¬ (p0 ≤ (gI h a3 5)) → (Q (some (.int (-1 : Int32))) h)))))))) : zX mX11_end 0 [.ref t, .int p0] [] h Q := by
  refine zX_seg (pc' := 1) (L' := [.ref t, .int p0]) (st' := [.int p0]) (h2 := h) rfl rfl (fun C Cr hc kk => x_iload_n C rfl dX11_end_0 (kk)) ?_
  refine zX_br (p1 := 15) (p2 := 4) (st' := []) (p0 < 0) (fun C kt kf => x_if_lt C 15 dX11_end_1 (by decide) kt kf) (fun q1 => ?_) (fun q1 => ?_)
  · replace H := H.1 q1
    refine zX_seg (pc' := 16) (L' := [.ref t, .int p0]) (st' := [.int (-1 : Int32)]) (h2 := h) rfl rfl (fun C Cr hc kk => x_iconst C (-1 : Int32) (by decide) dX11_end_15 (kk)) ?_
    exact zX_ret (some (.int (-1 : Int32))) (fun C Cr hc => x_iret C Cr rfl rfl hc dX11_end_16 ⟨rfl, rfl⟩) H
  · replace H := H.2 q1
    obtain ⟨g2, H⟩ := H
    obtain ⟨a3, ea3, H⟩ := H
    obtain ⟨g4, H⟩ := H
    refine zX_seg (pc' := 12) (L' := [.ref t, .int p0]) (st' := [.int (gI h a3 5), .int p0]) (h2 := h) rfl rfl (fun C Cr hc kk => x_iload_n C rfl dX11_end_4 (x_aload_n C (v := .ref t) rfl rfl dX11_end_5 (f_getR1 C lX11_20 g2 rfl ea3 dX11_end_6 (f_getIN C lX11_84 g4 rfl dX11_end_9 (kk))))) ?_
    refine zX_br (p1 := 17) (p2 := 15) (st' := []) (p0 ≤ (gI h a3 5)) (fun C kt kf => x_icmp_le C 17 dX11_end_12 (by decide) kt kf) (fun q5 => ?_) (fun q5 => ?_)
    · replace H := H.1 q5
      refine zX_seg (pc' := 25) (L' := [.ref t, .int p0]) (st' := []) (h2 := (pF h a3 5 (.int p0))) rfl rfl (fun C Cr hc kk => x_aload_n C (v := .ref t) rfl rfl dX11_end_17 (f_getR1 C lX11_20 g2 rfl ea3 dX11_end_18 (x_iload_n C rfl dX11_end_21 (f_putIN C lX11_84 tX8 nX8_5 g4 rfl rfl dX11_end_22 (kk))))) ?_
      obtain ⟨h6, eh6⟩ : ∃ y : zH, y = (pF h a3 5 (.int p0)) := ⟨_, rfl⟩
      replace H := H h6 eh6
      rw [← eh6]
      have g7 : oK h6 t 11 := by rw [eh6]; exact oK_pF' g4 rfl rfl g2
      have g8 : oK h6 a3 8 := by rw [eh6]; exact oK_pF' g4 rfl rfl g4
      refine zX_seg (pc' := 26) (L' := [.ref t, .int p0]) (st' := [.int p0]) (h2 := h6) rfl rfl (fun C Cr hc kk => x_iload_n C rfl dX11_end_25 (kk)) ?_
      exact zX_ret (some (.int p0)) (fun C Cr hc => x_iret C Cr rfl rfl hc dX11_end_26 ⟨rfl, rfl⟩) H
    · replace H := H.2 q5
      refine zX_seg (pc' := 16) (L' := [.ref t, .int p0]) (st' := [.int (-1 : Int32)]) (h2 := h) rfl rfl (fun C Cr hc kk => x_iconst C (-1 : Int32) (by decide) dX11_end_15 (kk)) ?_
      exact zX_ret (some (.int (-1 : Int32))) (fun C Cr hc => x_iret C Cr rfl rfl hc dX11_end_16 ⟨rfl, rfl⟩) H
theorem nX11_end (t : Nat) (p0 : Int32) (h : zH) (Q : Option Value → zH → Prop) (H : zX mX11_end 0 [.ref t, .int p0] [] h Q) : zC mX11_end [.ref t, .int p0] h Q := zC_of (by decide +kernel) (by simp) (Nat.le_of_ble_eq_true rfl) H
set_option maxHeartbeats 20000000 in
theorem bX11_roll_0 (t : Nat) (h : zH) (Q : Option Value → zH → Prop) (H : oK h t 11 ∧ (∃ a2 : Nat, gR h t 0 = some a2 ∧ (∃ a3 : Nat, gR h t 11 = some a3 ∧ (oK h a2 4 ∧ (zC mX4_readRoll [.ref a2, .ref a3] h (fun r0 h5 => ∃ x6 : Int32, r0 = some (.int x6) ∧ (oK h5 t 11 ∧ (zC mX11_endReading [.ref t] h5 (fun r0 h8 => r0 = none ∧ ((x6 = 0 → (Q (some (.int (-1 : Int32))) h8)) ∧ (¬ (x6 = 0) → (oK h8 t 11 ∧ (∃ a11 : Nat, gR h8 t 10 = some a11 ∧ (∃ a12 : Nat, gR h8 t 11 = some a12 ∧ (∀ h13 : zH, h13 = (pF h8 t 10 (zr (some a12))) → (∀ h15 : zH, h15 = (pF h13 t 11 (zr (some a11))) → (∃ a17 : Nat, gR h15 t 8 = some a17 ∧ (∃ a18 : Nat, gR h15 t 10 = some a18 ∧ (oK h15 a17 1 ∧ (zC mX1_beginWith [.ref a17, .ref a18] h15 (fun r0 h20 => r0 = none ∧ (zX mX11_roll 53 [.ref t, .float 0, .float 0, .int (0 : Int32)] [] h20 Q)))))))))))))))))))))) : zX mX11_roll 0 [.ref t, .float 0, .float 0, .float 0] [] h Q := by
  obtain ⟨g1, H⟩ := H
  obtain ⟨a2, ea2, H⟩ := H
  obtain ⟨a3, ea3, H⟩ := H
  refine zX_seg (pc' := 8) (L' := [.ref t, .float 0, .float 0, .float 0]) (st' := [.ref a3, .ref a2]) (h2 := h) rfl rfl (fun C Cr hc kk => x_aload_n C (v := .ref t) rfl rfl dX11_roll_0 (f_getR1 C lX11_10 g1 rfl ea2 dX11_roll_1 (x_aload_n C (v := .ref t) rfl rfl dX11_roll_4 (f_getR1 C lX11_77 g1 rfl ea3 dX11_roll_5 (kk))))) ?_
  obtain ⟨g4, H⟩ := H
  refine zX_call (as := [.ref a2, .ref a3]) (st := []) (fun C hM hc kk => f_callVN C [.ref a3] hM kX4_readRoll vX4_readRoll lX11_93 ⟨by decide, by decide⟩ (rfl : vwCl[4]? = some (RX4, TX4, 14)) g4 rfl hc (Nat.le_of_ble_eq_true rfl) rfl dX11_roll_8 kk) (zC.mono H ?_)
  rintro r0 h5 ⟨x6, rfl, H⟩
  show zX mX11_roll 11 [.ref t, .float 0, .float 0, .float 0] [.int x6] h5 Q
  refine zX_seg (pc' := 13) (L' := [.ref t, .int x6, .float 0, .float 0]) (st' := [.ref t]) (h2 := h5) rfl rfl (fun C Cr hc kk => x_istore_n C (by decide) dX11_roll_11 (x_aload_n C (v := .ref t) rfl rfl dX11_roll_12 (kk))) ?_
  obtain ⟨g7, H⟩ := H
  refine zX_call (as := [.ref t]) (st := []) (fun C hM hc kk => f_callV C [] hM kX11_endReading vX11_endReading lX11_97 ⟨by decide, by decide⟩ (rfl : vwCl[11]? = some (RX11, TX11, 15)) g7 rfl hc (Nat.le_of_ble_eq_true rfl) rfl dX11_roll_13 kk) (zC.mono H ?_)
  rintro r0 h8 ⟨rfl, H⟩
  show zX mX11_roll 16 [.ref t, .int x6, .float 0, .float 0] [] h8 Q
  refine zX_seg (pc' := 17) (L' := [.ref t, .int x6, .float 0, .float 0]) (st' := [.int x6]) (h2 := h8) rfl rfl (fun C Cr hc kk => x_iload_n C rfl dX11_roll_16 (kk)) ?_
  refine zX_br (p1 := 20) (p2 := 22) (st' := []) (x6 = 0) (fun C kt kf => x_if_ne C 22 dX11_roll_17 (by decide) kf kt) (fun q9 => ?_) (fun q9 => ?_)
  · replace H := H.1 q9
    refine zX_seg (pc' := 21) (L' := [.ref t, .int x6, .float 0, .float 0]) (st' := [.int (-1 : Int32)]) (h2 := h8) rfl rfl (fun C Cr hc kk => x_iconst C (-1 : Int32) (by decide) dX11_roll_20 (kk)) ?_
    exact zX_ret (some (.int (-1 : Int32))) (fun C Cr hc => x_iret C Cr rfl rfl hc dX11_roll_21 ⟨rfl, rfl⟩) H
  · replace H := H.2 q9
    obtain ⟨g10, H⟩ := H
    obtain ⟨a11, ea11, H⟩ := H
    obtain ⟨a12, ea12, H⟩ := H
    refine zX_seg (pc' := 35) (L' := [.ref t, .int x6, .ref a11, .float 0]) (st' := []) (h2 := (pF h8 t 10 (zr (some a12)))) rfl rfl (fun C Cr hc kk => x_aload_n C (v := .ref t) rfl rfl dX11_roll_22 (f_getR1 C lX11_74 g10 rfl ea11 dX11_roll_23 (x_astore_n C rfl (by decide) dX11_roll_26 (x_aload_n C (v := .ref t) rfl rfl dX11_roll_27 (x_aload_n C (v := .ref t) rfl rfl dX11_roll_28 (f_getR1 C lX11_77 g10 rfl ea12 dX11_roll_29 (f_putR C (x := (some a12)) lX11_74 tX11 nX11_10 g10 rfl (Or.inl ⟨_, rfl⟩) dX11_roll_32 (kk)))))))) ?_
    obtain ⟨h13, eh13⟩ : ∃ y : zH, y = (pF h8 t 10 (zr (some a12))) := ⟨_, rfl⟩
    replace H := H h13 eh13
    rw [← eh13]
    have g14 : oK h13 t 11 := by rw [eh13]; exact oK_pF' g10 rfl (zmr _) g10
    refine zX_seg (pc' := 40) (L' := [.ref t, .int x6, .ref a11, .float 0]) (st' := []) (h2 := (pF h13 t 11 (zr (some a11)))) rfl rfl (fun C Cr hc kk => x_aload_n C (v := .ref t) rfl rfl dX11_roll_35 (x_aload_n C (v := .ref a11) rfl rfl dX11_roll_36 (f_putR C (x := (some a11)) lX11_77 tX11 nX11_11 g14 rfl (Or.inl ⟨_, rfl⟩) dX11_roll_37 (kk)))) ?_
    obtain ⟨h15, eh15⟩ : ∃ y : zH, y = (pF h13 t 11 (zr (some a11))) := ⟨_, rfl⟩
    replace H := H h15 eh15
    rw [← eh15]
    have g16 : oK h15 t 11 := by rw [eh15]; exact oK_pF' g14 rfl (zmr _) g14
    obtain ⟨a17, ea17, H⟩ := H
    obtain ⟨a18, ea18, H⟩ := H
    refine zX_seg (pc' := 48) (L' := [.ref t, .int x6, .ref a11, .float 0]) (st' := [.ref a18, .ref a17]) (h2 := h15) rfl rfl (fun C Cr hc kk => x_aload_n C (v := .ref t) rfl rfl dX11_roll_40 (f_getR1 C lX11_66 g16 rfl ea17 dX11_roll_41 (x_aload_n C (v := .ref t) rfl rfl dX11_roll_44 (f_getR1 C lX11_74 g16 rfl ea18 dX11_roll_45 (kk))))) ?_
    obtain ⟨g19, H⟩ := H
    refine zX_call (as := [.ref a17, .ref a18]) (st := []) (fun C hM hc kk => f_callVN C [.ref a18] hM kX1_beginWith vX1_beginWith lX11_100 ⟨by decide, by decide⟩ (rfl : vwCl[1]? = some (RX1, TX1, 5)) g19 rfl hc (Nat.le_of_ble_eq_true rfl) rfl dX11_roll_48 kk) (zC.mono H ?_)
    rintro r0 h20 ⟨rfl, H⟩
    show zX mX11_roll 51 [.ref t, .int x6, .ref a11, .float 0] [] h20 Q
    refine zX_seg (pc' := 53) (L' := [.ref t, .int x6, .ref a11, .int (0 : Int32)]) (st' := []) (h2 := h20) rfl rfl (fun C Cr hc kk => x_iconst C (0 : Int32) (by decide) dX11_roll_51 (x_istore_n C (by decide) dX11_roll_52 (kk))) ?_
    exact zX_wk (wkK (wkD (wkD (wkK wkN)))) H
set_option maxHeartbeats 20000000 in
theorem bX11_roll_53 (l0 : Nat) (l3 : Int32) (h : zH) (Q : Option Value → zH → Prop) (H : ((3 : Int32) ≤ l3 → (oK h l0 11 ∧ (zC mX11_forget [.ref l0, .int (255 : Int32)] h (fun r0 h3 => r0 = none ∧ (oK h3 l0 11 ∧ (∃ a5 : Nat, gR h3 l0 10 = some a5 ∧ (oK h3 a5 10 ∧ (Q (some (.int (gI h3 a5 8))) h3)))))))) ∧ (¬ ((3 : Int32) ≤ l3) → (oK h l0 11 ∧ (zC mX11_boxAt [.ref l0, .int l3] h (fun r0 h8 => ∃ x9 : Option Nat, r0 = some (zr x9) ∧ (∃ a10 : Nat, x9 = some a10 ∧ (zC mX11_empty [.ref a10] h8 (fun r0 h11 => r0 = none ∧ (zX mX11_roll 53 [.ref l0, .float 0, .float 0, .int (l3 + 1)] [] h11 Q))))))))) : zX mX11_roll 53 [.ref l0, .float 0, .float 0, .int l3] [] h Q := by
  refine zX_seg (pc' := 55) (L' := [.ref l0, .float 0, .float 0, .int l3]) (st' := [.int (3 : Int32), .int l3]) (h2 := h) rfl rfl (fun C Cr hc kk => x_iload_n C rfl dX11_roll_53 (x_iconst C (3 : Int32) (by decide) dX11_roll_54 (kk))) ?_
  refine zX_br (p1 := 72) (p2 := 58) (st' := []) ((3 : Int32) ≤ l3) (fun C kt kf => x_icmp_ge C 72 dX11_roll_55 (by decide) kt kf) (fun q1 => ?_) (fun q1 => ?_)
  · replace H := H.1 q1
    refine zX_seg (pc' := 76) (L' := [.ref l0, .float 0, .float 0, .int l3]) (st' := [.int (255 : Int32), .ref l0]) (h2 := h) rfl rfl (fun C Cr hc kk => x_aload_n C (v := .ref l0) rfl rfl dX11_roll_72 (x_sipush C (255 : Int32) (by decide) dX11_roll_73 (kk))) ?_
    obtain ⟨g2, H⟩ := H
    refine zX_call (as := [.ref l0, .int (255 : Int32)]) (st := []) (fun C hM hc kk => f_callV C [.int (255 : Int32)] hM kX11_forget vX11_forget lX11_112 ⟨by decide, by decide⟩ (rfl : vwCl[11]? = some (RX11, TX11, 15)) g2 rfl hc (Nat.le_of_ble_eq_true rfl) rfl dX11_roll_76 kk) (zC.mono H ?_)
    rintro r0 h3 ⟨rfl, H⟩
    show zX mX11_roll 79 [.ref l0, .float 0, .float 0, .int l3] [] h3 Q
    obtain ⟨g4, H⟩ := H
    obtain ⟨a5, ea5, H⟩ := H
    obtain ⟨g6, H⟩ := H
    refine zX_seg (pc' := 86) (L' := [.ref l0, .float 0, .float 0, .int l3]) (st' := [.int (gI h3 a5 8)]) (h2 := h3) rfl rfl (fun C Cr hc kk => x_aload_n C (v := .ref l0) rfl rfl dX11_roll_79 (f_getR1 C lX11_74 g4 rfl ea5 dX11_roll_80 (f_getIN C lX11_115 g6 rfl dX11_roll_83 (kk)))) ?_
    exact zX_ret (some (.int (gI h3 a5 8))) (fun C Cr hc => x_iret C Cr rfl rfl hc dX11_roll_86 ⟨rfl, rfl⟩) H
  · replace H := H.2 q1
    refine zX_seg (pc' := 60) (L' := [.ref l0, .float 0, .float 0, .int l3]) (st' := [.int l3, .ref l0]) (h2 := h) rfl rfl (fun C Cr hc kk => x_aload_n C (v := .ref l0) rfl rfl dX11_roll_58 (x_iload_n C rfl dX11_roll_59 (kk))) ?_
    obtain ⟨g7, H⟩ := H
    refine zX_call (as := [.ref l0, .int l3]) (st := []) (fun C hM hc kk => f_callV C [.int l3] hM kX11_boxAt vX11_boxAt lX11_104 ⟨by decide, by decide⟩ (rfl : vwCl[11]? = some (RX11, TX11, 15)) g7 rfl hc (Nat.le_of_ble_eq_true rfl) rfl dX11_roll_60 kk) (zC.mono H ?_)
    rintro r0 h8 ⟨x9, rfl, H⟩
    show zX mX11_roll 63 [.ref l0, .float 0, .float 0, .int l3] [zr x9] h8 Q
    obtain ⟨a10, rfl, H⟩ := H
    refine zX_call (as := [.ref a10]) (st := []) (fun C hM hc kk => x_callS C [.ref a10] hM kX11_empty sX11_empty lX11_108 ⟨by decide, by decide⟩ rfl hc (Nat.le_of_ble_eq_true rfl) rfl dX11_roll_63 kk) (zC.mono H ?_)
    rintro r0 h11 ⟨rfl, H⟩
    show zX mX11_roll 66 [.ref l0, .float 0, .float 0, .int l3] [] h11 Q
    refine zX_seg (pc' := 53) (L' := [.ref l0, .float 0, .float 0, .int (l3 + 1)]) (st' := []) (h2 := h11) rfl rfl (fun C Cr hc kk => x_iinc C (l3 + 1) rfl (congrArg (HAdd.hAdd _) (by decide)) (by decide) dX11_roll_66 (x_goto C 53 dX11_roll_69 (by decide) (kk))) ?_
    exact zX_wk (wkK (wkD (wkD (wkK wkN)))) H
theorem nX11_roll (t : Nat) (h : zH) (Q : Option Value → zH → Prop) (H : zX mX11_roll 0 [.ref t, .float 0, .float 0, .float 0] [] h Q) : zC mX11_roll [.ref t] h Q := zC_of (by decide +kernel) (by simp) (Nat.le_of_ble_eq_true rfl) H
set_option maxHeartbeats 20000000 in
theorem bX11_reword_0 (t : Nat) (p0 : Int32) (h : zH) (Q : Option Value → zH → Prop) (H : oK h t 11 ∧ (∃ a2 : Nat, gR h t 10 = some a2 ∧ (oK h a2 10 ∧ (zC mX10_hasVoter [.ref a2, .int p0] h (fun r0 h4 => ∃ x5 : Int32, r0 = some (.int x5) ∧ ((x5 = 0 → (Q (some (.int (-2 : Int32))) h4)) ∧ (¬ (x5 = 0) → (oK h4 t 11 ∧ (∃ a8 : Nat, gR h4 t 8 = some a8 ∧ (oK h4 a8 1 ∧ (zC mX1_units [.ref a8] h4 (fun r0 h10 => ∃ x11 : Int32, r0 = some (.int x11) ∧ (oK h10 t 11 ∧ (∃ a13 : Nat, gR h10 t 8 = some a13 ∧ (oK h10 a13 1 ∧ (zC mX1_ballotOf [.ref a13, .int p0] h10 (fun r0 h15 => ∃ x16 : Option Nat, r0 = some (zr x16) ∧ (∃ a17 : Nat, x16 = some a17 ∧ (oK h15 a17 0 ∧ (oK h15 t 11 ∧ (∃ a20 : Nat, gR h15 t 0 = some a20 ∧ (∃ a21 : Nat, gR h15 t 10 = some a21 ∧ (oK h15 a20 4 ∧ (zC mX4_readOne [.ref a20, .ref a21, .int p0, .int (x11 - (gI h15 a17 1))] h15 (fun r0 h23 => ∃ x24 : Int32, r0 = some (.int x24) ∧ (oK h23 t 11 ∧ (zC mX11_endReading [.ref t] h23 (fun r0 h26 => r0 = none ∧ ((x24 = 0 → (Q (some (.int (-1 : Int32))) h26)) ∧ (¬ (x24 = 0) → (oK h26 t 11 ∧ (∃ a29 : Nat, gR h26 t 8 = some a29 ∧ (∃ a30 : Nat, gR h26 t 0 = some a30 ∧ (oK h26 a30 4 ∧ (zC mX4_ballot [.ref a30] h26 (fun r0 h32 => ∃ x33 : Option Nat, r0 = some (zr x33) ∧ (∃ a34 : Nat, x33 = some a34 ∧ (oK h32 a29 1 ∧ (zC mX1_putBallot [.ref a29, .int p0, .ref a34] h32 (fun r0 h36 => r0 = none ∧ (oK h36 t 11 ∧ (zC mX11_forget [.ref t, .int ((1 : Int32) <<< (p0 &&& 31))] h36 (fun r0 h38 => r0 = none ∧ (oK h38 t 11 ∧ (∃ a40 : Nat, gR h38 t 8 = some a40 ∧ (oK h38 a40 1 ∧ (zC mX1_units [.ref a40] h38 (fun r0 h42 => ∃ x43 : Int32, r0 = some (.int x43) ∧ (Q (some (.int x43)) h42))))))))))))))))))))))))))))))))))))))))))))))))) : zX mX11_reword 0 [.ref t, .int p0, .float 0, .float 0] [] h Q := by
  obtain ⟨g1, H⟩ := H
  obtain ⟨a2, ea2, H⟩ := H
  refine zX_seg (pc' := 5) (L' := [.ref t, .int p0, .float 0, .float 0]) (st' := [.int p0, .ref a2]) (h2 := h) rfl rfl (fun C Cr hc kk => x_aload_n C (v := .ref t) rfl rfl dX11_reword_0 (f_getR1 C lX11_74 g1 rfl ea2 dX11_reword_1 (x_iload_n C rfl dX11_reword_4 (kk)))) ?_
  obtain ⟨g3, H⟩ := H
  refine zX_call (as := [.ref a2, .int p0]) (st := []) (fun C hM hc kk => f_callVN C [.int p0] hM kX10_hasVoter vX10_hasVoter lX11_118 ⟨by decide, by decide⟩ (rfl : vwCl[10]? = some (RX10, TX10, 10)) g3 rfl hc (Nat.le_of_ble_eq_true rfl) rfl dX11_reword_5 kk) (zC.mono H ?_)
  rintro r0 h4 ⟨x5, rfl, H⟩
  show zX mX11_reword 8 [.ref t, .int p0, .float 0, .float 0] [.int x5] h4 Q
  refine zX_br (p1 := 11) (p2 := 14) (st' := []) (x5 = 0) (fun C kt kf => x_if_ne C 14 dX11_reword_8 (by decide) kf kt) (fun q6 => ?_) (fun q6 => ?_)
  · replace H := H.1 q6
    refine zX_seg (pc' := 13) (L' := [.ref t, .int p0, .float 0, .float 0]) (st' := [.int (-2 : Int32)]) (h2 := h4) rfl rfl (fun C Cr hc kk => x_bipush C (-2 : Int32) (by decide) dX11_reword_11 (kk)) ?_
    exact zX_ret (some (.int (-2 : Int32))) (fun C Cr hc => x_iret C Cr rfl rfl hc dX11_reword_13 ⟨rfl, rfl⟩) H
  · replace H := H.2 q6
    obtain ⟨g7, H⟩ := H
    obtain ⟨a8, ea8, H⟩ := H
    refine zX_seg (pc' := 18) (L' := [.ref t, .int p0, .float 0, .float 0]) (st' := [.ref a8]) (h2 := h4) rfl rfl (fun C Cr hc kk => x_aload_n C (v := .ref t) rfl rfl dX11_reword_14 (f_getR1 C lX11_66 g7 rfl ea8 dX11_reword_15 (kk))) ?_
    obtain ⟨g9, H⟩ := H
    refine zX_call (as := [.ref a8]) (st := []) (fun C hM hc kk => f_callVN C [] hM kX1_units vX1_units lX11_122 ⟨by decide, by decide⟩ (rfl : vwCl[1]? = some (RX1, TX1, 5)) g9 rfl hc (Nat.le_of_ble_eq_true rfl) rfl dX11_reword_18 kk) (zC.mono H ?_)
    rintro r0 h10 ⟨x11, rfl, H⟩
    show zX mX11_reword 21 [.ref t, .int p0, .float 0, .float 0] [.int x11] h10 Q
    obtain ⟨g12, H⟩ := H
    obtain ⟨a13, ea13, H⟩ := H
    refine zX_seg (pc' := 26) (L' := [.ref t, .int p0, .float 0, .float 0]) (st' := [.int p0, .ref a13, .int x11]) (h2 := h10) rfl rfl (fun C Cr hc kk => x_aload_n C (v := .ref t) rfl rfl dX11_reword_21 (f_getR1 C lX11_66 g12 rfl ea13 dX11_reword_22 (x_iload_n C rfl dX11_reword_25 (kk)))) ?_
    obtain ⟨g14, H⟩ := H
    refine zX_call (as := [.ref a13, .int p0]) (st := [.int x11]) (fun C hM hc kk => f_callVN C [.int p0] hM kX1_ballotOf vX1_ballotOf lX11_126 ⟨by decide, by decide⟩ (rfl : vwCl[1]? = some (RX1, TX1, 5)) g14 rfl hc (Nat.le_of_ble_eq_true rfl) rfl dX11_reword_26 kk) (zC.mono H ?_)
    rintro r0 h15 ⟨x16, rfl, H⟩
    show zX mX11_reword 29 [.ref t, .int p0, .float 0, .float 0] [zr x16, .int x11] h15 Q
    obtain ⟨a17, rfl, H⟩ := H
    obtain ⟨g18, H⟩ := H
    obtain ⟨g19, H⟩ := H
    obtain ⟨a20, ea20, H⟩ := H
    obtain ⟨a21, ea21, H⟩ := H
    refine zX_seg (pc' := 44) (L' := [.ref t, .int p0, .int (x11 - (gI h15 a17 1)), .float 0]) (st' := [.int (x11 - (gI h15 a17 1)), .int p0, .ref a21, .ref a20]) (h2 := h15) rfl rfl (fun C Cr hc kk => f_getIN C lX11_130 g18 rfl dX11_reword_29 (x_isub C dX11_reword_32 (x_istore_n C (by decide) dX11_reword_33 (x_aload_n C (v := .ref t) rfl rfl dX11_reword_34 (f_getR1 C lX11_10 g19 rfl ea20 dX11_reword_35 (x_aload_n C (v := .ref t) rfl rfl dX11_reword_38 (f_getR1 C lX11_74 g19 rfl ea21 dX11_reword_39 (x_iload_n C rfl dX11_reword_42 (x_iload_n C rfl dX11_reword_43 (kk)))))))))) ?_
    obtain ⟨g22, H⟩ := H
    refine zX_call (as := [.ref a20, .ref a21, .int p0, .int (x11 - (gI h15 a17 1))]) (st := []) (fun C hM hc kk => f_callVN C [.ref a21, .int p0, .int (x11 - (gI h15 a17 1))] hM kX4_readOne vX4_readOne lX11_134 ⟨by decide, by decide⟩ (rfl : vwCl[4]? = some (RX4, TX4, 14)) g22 rfl hc (Nat.le_of_ble_eq_true rfl) rfl dX11_reword_44 kk) (zC.mono H ?_)
    rintro r0 h23 ⟨x24, rfl, H⟩
    show zX mX11_reword 47 [.ref t, .int p0, .int (x11 - (gI h15 a17 1)), .float 0] [.int x24] h23 Q
    refine zX_seg (pc' := 49) (L' := [.ref t, .int p0, .int (x11 - (gI h15 a17 1)), .int x24]) (st' := [.ref t]) (h2 := h23) rfl rfl (fun C Cr hc kk => x_istore_n C (by decide) dX11_reword_47 (x_aload_n C (v := .ref t) rfl rfl dX11_reword_48 (kk))) ?_
    obtain ⟨g25, H⟩ := H
    refine zX_call (as := [.ref t]) (st := []) (fun C hM hc kk => f_callV C [] hM kX11_endReading vX11_endReading lX11_97 ⟨by decide, by decide⟩ (rfl : vwCl[11]? = some (RX11, TX11, 15)) g25 rfl hc (Nat.le_of_ble_eq_true rfl) rfl dX11_reword_49 kk) (zC.mono H ?_)
    rintro r0 h26 ⟨rfl, H⟩
    show zX mX11_reword 52 [.ref t, .int p0, .int (x11 - (gI h15 a17 1)), .int x24] [] h26 Q
    refine zX_seg (pc' := 53) (L' := [.ref t, .int p0, .int (x11 - (gI h15 a17 1)), .int x24]) (st' := [.int x24]) (h2 := h26) rfl rfl (fun C Cr hc kk => x_iload_n C rfl dX11_reword_52 (kk)) ?_
    refine zX_br (p1 := 56) (p2 := 58) (st' := []) (x24 = 0) (fun C kt kf => x_if_ne C 58 dX11_reword_53 (by decide) kf kt) (fun q27 => ?_) (fun q27 => ?_)
    · replace H := H.1 q27
      refine zX_seg (pc' := 57) (L' := [.ref t, .int p0, .int (x11 - (gI h15 a17 1)), .int x24]) (st' := [.int (-1 : Int32)]) (h2 := h26) rfl rfl (fun C Cr hc kk => x_iconst C (-1 : Int32) (by decide) dX11_reword_56 (kk)) ?_
      exact zX_ret (some (.int (-1 : Int32))) (fun C Cr hc => x_iret C Cr rfl rfl hc dX11_reword_57 ⟨rfl, rfl⟩) H
    · replace H := H.2 q27
      obtain ⟨g28, H⟩ := H
      obtain ⟨a29, ea29, H⟩ := H
      obtain ⟨a30, ea30, H⟩ := H
      refine zX_seg (pc' := 67) (L' := [.ref t, .int p0, .int (x11 - (gI h15 a17 1)), .int x24]) (st' := [.ref a30, .int p0, .ref a29]) (h2 := h26) rfl rfl (fun C Cr hc kk => x_aload_n C (v := .ref t) rfl rfl dX11_reword_58 (f_getR1 C lX11_66 g28 rfl ea29 dX11_reword_59 (x_iload_n C rfl dX11_reword_62 (x_aload_n C (v := .ref t) rfl rfl dX11_reword_63 (f_getR1 C lX11_10 g28 rfl ea30 dX11_reword_64 (kk)))))) ?_
      obtain ⟨g31, H⟩ := H
      refine zX_call (as := [.ref a30]) (st := [.int p0, .ref a29]) (fun C hM hc kk => f_callVN C [] hM kX4_ballot vX4_ballot lX11_138 ⟨by decide, by decide⟩ (rfl : vwCl[4]? = some (RX4, TX4, 14)) g31 rfl hc (Nat.le_of_ble_eq_true rfl) rfl dX11_reword_67 kk) (zC.mono H ?_)
      rintro r0 h32 ⟨x33, rfl, H⟩
      show zX mX11_reword 70 [.ref t, .int p0, .int (x11 - (gI h15 a17 1)), .int x24] [zr x33, .int p0, .ref a29] h32 Q
      obtain ⟨a34, rfl, H⟩ := H
      obtain ⟨g35, H⟩ := H
      refine zX_call (as := [.ref a29, .int p0, .ref a34]) (st := []) (fun C hM hc kk => f_callVN C [.int p0, .ref a34] hM kX1_putBallot vX1_putBallot lX11_142 ⟨by decide, by decide⟩ (rfl : vwCl[1]? = some (RX1, TX1, 5)) g35 rfl hc (Nat.le_of_ble_eq_true rfl) rfl dX11_reword_70 kk) (zC.mono H ?_)
      rintro r0 h36 ⟨rfl, H⟩
      show zX mX11_reword 73 [.ref t, .int p0, .int (x11 - (gI h15 a17 1)), .int x24] [] h36 Q
      refine zX_seg (pc' := 77) (L' := [.ref t, .int p0, .int (x11 - (gI h15 a17 1)), .int x24]) (st' := [.int ((1 : Int32) <<< (p0 &&& 31)), .ref t]) (h2 := h36) rfl rfl (fun C Cr hc kk => x_aload_n C (v := .ref t) rfl rfl dX11_reword_73 (x_iconst C (1 : Int32) (by decide) dX11_reword_74 (x_iload_n C rfl dX11_reword_75 (x_ishl C dX11_reword_76 (kk))))) ?_
      obtain ⟨g37, H⟩ := H
      refine zX_call (as := [.ref t, .int ((1 : Int32) <<< (p0 &&& 31))]) (st := []) (fun C hM hc kk => f_callV C [.int ((1 : Int32) <<< (p0 &&& 31))] hM kX11_forget vX11_forget lX11_112 ⟨by decide, by decide⟩ (rfl : vwCl[11]? = some (RX11, TX11, 15)) g37 rfl hc (Nat.le_of_ble_eq_true rfl) rfl dX11_reword_77 kk) (zC.mono H ?_)
      rintro r0 h38 ⟨rfl, H⟩
      show zX mX11_reword 80 [.ref t, .int p0, .int (x11 - (gI h15 a17 1)), .int x24] [] h38 Q
      obtain ⟨g39, H⟩ := H
      obtain ⟨a40, ea40, H⟩ := H
      refine zX_seg (pc' := 84) (L' := [.ref t, .int p0, .int (x11 - (gI h15 a17 1)), .int x24]) (st' := [.ref a40]) (h2 := h38) rfl rfl (fun C Cr hc kk => x_aload_n C (v := .ref t) rfl rfl dX11_reword_80 (f_getR1 C lX11_66 g39 rfl ea40 dX11_reword_81 (kk))) ?_
      obtain ⟨g41, H⟩ := H
      refine zX_call (as := [.ref a40]) (st := []) (fun C hM hc kk => f_callVN C [] hM kX1_units vX1_units lX11_122 ⟨by decide, by decide⟩ (rfl : vwCl[1]? = some (RX1, TX1, 5)) g41 rfl hc (Nat.le_of_ble_eq_true rfl) rfl dX11_reword_84 kk) (zC.mono H ?_)
      rintro r0 h42 ⟨x43, rfl, H⟩
      show zX mX11_reword 87 [.ref t, .int p0, .int (x11 - (gI h15 a17 1)), .int x24] [.int x43] h42 Q
      exact zX_ret (some (.int x43)) (fun C Cr hc => x_iret C Cr rfl rfl hc dX11_reword_87 ⟨rfl, rfl⟩) H
theorem nX11_reword (t : Nat) (p0 : Int32) (h : zH) (Q : Option Value → zH → Prop) (H : zX mX11_reword 0 [.ref t, .int p0, .float 0, .float 0] [] h Q) : zC mX11_reword [.ref t, .int p0] h Q := zC_of (by decide +kernel) (by simp) (Nat.le_of_ble_eq_true rfl) H
set_option maxHeartbeats 20000000 in
theorem bX11_fault_0 (t : Nat) (p0 : Int32) (h : zH) (Q : Option Value → zH → Prop) (H : (p0 = 0 → (oK h t 11 ∧ (Q (some (.int (gI h t 13))) h))) ∧ (¬ (p0 = 0) → ((p0 = (1 : Int32) → (oK h t 11 ∧ (Q (some (.int (gI h t 14))) h))) ∧ (¬ (p0 = (1 : Int32)) → (Q (some (.int (-1 : Int32))) h))))) : zX mX11_fault 0 [.ref t, .int p0] [] h Q := by
  refine zX_seg (pc' := 1) (L' := [.ref t, .int p0]) (st' := [.int p0]) (h2 := h) rfl rfl (fun C Cr hc kk => x_iload_n C rfl dX11_fault_0 (kk)) ?_
  refine zX_br (p1 := 4) (p2 := 9) (st' := []) (p0 = 0) (fun C kt kf => x_if_ne C 9 dX11_fault_1 (by decide) kf kt) (fun q1 => ?_) (fun q1 => ?_)
  · replace H := H.1 q1
    obtain ⟨g2, H⟩ := H
    refine zX_seg (pc' := 8) (L' := [.ref t, .int p0]) (st' := [.int (gI h t 13)]) (h2 := h) rfl rfl (fun C Cr hc kk => x_aload_n C (v := .ref t) rfl rfl dX11_fault_4 (f_getI C lX11_146 g2 rfl dX11_fault_5 (kk))) ?_
    exact zX_ret (some (.int (gI h t 13))) (fun C Cr hc => x_iret C Cr rfl rfl hc dX11_fault_8 ⟨rfl, rfl⟩) H
  · replace H := H.2 q1
    refine zX_seg (pc' := 11) (L' := [.ref t, .int p0]) (st' := [.int (1 : Int32), .int p0]) (h2 := h) rfl rfl (fun C Cr hc kk => x_iload_n C rfl dX11_fault_9 (x_iconst C (1 : Int32) (by decide) dX11_fault_10 (kk))) ?_
    refine zX_br (p1 := 14) (p2 := 21) (st' := []) (p0 = (1 : Int32)) (fun C kt kf => x_icmp_ne C 21 dX11_fault_11 (by decide) kf kt) (fun q3 => ?_) (fun q3 => ?_)
    · replace H := H.1 q3
      obtain ⟨g4, H⟩ := H
      refine zX_seg (pc' := 22) (L' := [.ref t, .int p0]) (st' := [.int (gI h t 14)]) (h2 := h) rfl rfl (fun C Cr hc kk => x_aload_n C (v := .ref t) rfl rfl dX11_fault_14 (f_getI C lX11_80 g4 rfl dX11_fault_15 (x_goto C 22 dX11_fault_18 (by decide) (kk)))) ?_
      exact zX_ret (some (.int (gI h t 14))) (fun C Cr hc => x_iret C Cr rfl rfl hc dX11_fault_22 ⟨rfl, rfl⟩) H
    · replace H := H.2 q3
      refine zX_seg (pc' := 22) (L' := [.ref t, .int p0]) (st' := [.int (-1 : Int32)]) (h2 := h) rfl rfl (fun C Cr hc kk => x_iconst C (-1 : Int32) (by decide) dX11_fault_21 (kk)) ?_
      exact zX_ret (some (.int (-1 : Int32))) (fun C Cr hc => x_iret C Cr rfl rfl hc dX11_fault_22 ⟨rfl, rfl⟩) H
theorem nX11_fault (t : Nat) (p0 : Int32) (h : zH) (Q : Option Value → zH → Prop) (H : zX mX11_fault 0 [.ref t, .int p0] [] h Q) : zC mX11_fault [.ref t, .int p0] h Q := zC_of (by decide +kernel) (by simp) (Nat.le_of_ble_eq_true rfl) H
set_option maxHeartbeats 20000000 in
theorem bX11_countings_0 (t : Nat) (h : zH) (Q : Option Value → zH → Prop) (H : oK h t 11 ∧ (∃ a2 : Nat, gR h t 3 = some a2 ∧ (∃ a3 : Nat, gR h t 10 = some a3 ∧ (∃ a4 : Nat, gR h t 8 = some a4 ∧ (oK h a2 5 ∧ (zC mX5_refresh [.ref a2, .ref a3, .ref a4] h (fun r0 h6 => r0 = none ∧ (oK h6 t 11 ∧ (∃ a8 : Nat, gR h6 t 3 = some a8 ∧ (oK h6 a8 5 ∧ (Q (some (.int (gI h6 a8 5))) h6))))))))))) : zX mX11_countings 0 [.ref t] [] h Q := by
  obtain ⟨g1, H⟩ := H
  obtain ⟨a2, ea2, H⟩ := H
  obtain ⟨a3, ea3, H⟩ := H
  obtain ⟨a4, ea4, H⟩ := H
  refine zX_seg (pc' := 12) (L' := [.ref t]) (st' := [.ref a4, .ref a3, .ref a2]) (h2 := h) rfl rfl (fun C Cr hc kk => x_aload_n C (v := .ref t) rfl rfl dX11_countings_0 (f_getR1 C lX11_31 g1 rfl ea2 dX11_countings_1 (x_aload_n C (v := .ref t) rfl rfl dX11_countings_4 (f_getR1 C lX11_74 g1 rfl ea3 dX11_countings_5 (x_aload_n C (v := .ref t) rfl rfl dX11_countings_8 (f_getR1 C lX11_66 g1 rfl ea4 dX11_countings_9 (kk))))))) ?_
  obtain ⟨g5, H⟩ := H
  refine zX_call (as := [.ref a2, .ref a3, .ref a4]) (st := []) (fun C hM hc kk => f_callVN C [.ref a3, .ref a4] hM kX5_refresh vX5_refresh lX11_149 ⟨by decide, by decide⟩ (rfl : vwCl[5]? = some (RX5, TX5, 9)) g5 rfl hc (Nat.le_of_ble_eq_true rfl) rfl dX11_countings_12 kk) (zC.mono H ?_)
  rintro r0 h6 ⟨rfl, H⟩
  show zX mX11_countings 15 [.ref t] [] h6 Q
  obtain ⟨g7, H⟩ := H
  obtain ⟨a8, ea8, H⟩ := H
  obtain ⟨g9, H⟩ := H
  refine zX_seg (pc' := 22) (L' := [.ref t]) (st' := [.int (gI h6 a8 5)]) (h2 := h6) rfl rfl (fun C Cr hc kk => x_aload_n C (v := .ref t) rfl rfl dX11_countings_15 (f_getR1 C lX11_31 g7 rfl ea8 dX11_countings_16 (f_getIN C lX11_153 g9 rfl dX11_countings_19 (kk)))) ?_
  exact zX_ret (some (.int (gI h6 a8 5))) (fun C Cr hc => x_iret C Cr rfl rfl hc dX11_countings_22 ⟨rfl, rfl⟩) H
theorem nX11_countings (t : Nat) (h : zH) (Q : Option Value → zH → Prop) (H : zX mX11_countings 0 [.ref t] [] h Q) : zC mX11_countings [.ref t] h Q := zC_of (by decide +kernel) (by simp) (Nat.le_of_ble_eq_true rfl) H
set_option maxHeartbeats 20000000 in
theorem bX11_counting_0 (t : Nat) (p0 : Int32) (p1 : Int32) (h : zH) (Q : Option Value → zH → Prop) (H : oK h t 11 ∧ (∃ a2 : Nat, gR h t 3 = some a2 ∧ (∃ a3 : Nat, gR h t 10 = some a3 ∧ (∃ a4 : Nat, gR h t 8 = some a4 ∧ (oK h a2 5 ∧ (zC mX5_refresh [.ref a2, .ref a3, .ref a4] h (fun r0 h6 => r0 = none ∧ (oK h6 t 11 ∧ (∃ a8 : Nat, gR h6 t 3 = some a8 ∧ (oK h6 a8 5 ∧ (zC mX5_hasStanding [.ref a8, .int p0] h6 (fun r0 h10 => ∃ x11 : Int32, r0 = some (.int x11) ∧ ((x11 = 0 → (Q (some (.int (-1 : Int32))) h10)) ∧ (¬ (x11 = 0) → (oK h10 t 11 ∧ (∃ a14 : Nat, gR h10 t 10 = some a14 ∧ (oK h10 a14 10 ∧ (zC mX10_hasVoter [.ref a14, .int p1] h10 (fun r0 h16 => ∃ x17 : Int32, r0 = some (.int x17) ∧ ((x17 = 0 → (Q (some (.int (-1 : Int32))) h16)) ∧ (¬ (x17 = 0) → (oK h16 t 11 ∧ (∃ a20 : Nat, gR h16 t 10 = some a20 ∧ (∃ a21 : Nat, gR h16 t 3 = some a21 ∧ (oK h16 a21 5 ∧ (∃ a23 : Nat, gR h16 a21 3 = some a23 ∧ (zC mX11_at [.ref a23, .int p0] h16 (fun r0 h24 => ∃ x25 : Int32, r0 = some (.int x25) ∧ (oK h24 a20 10 ∧ (zC mX10_markOf [.ref a20, .int x25, .int p1] h24 (fun r0 h27 => ∃ x28 : Int32, r0 = some (.int x28) ∧ (Q (some (.int x28)) h27)))))))))))))))))))))))))))))))) : zX mX11_counting 0 [.ref t, .int p0, .int p1] [] h Q := by
  obtain ⟨g1, H⟩ := H
  obtain ⟨a2, ea2, H⟩ := H
  obtain ⟨a3, ea3, H⟩ := H
  obtain ⟨a4, ea4, H⟩ := H
  refine zX_seg (pc' := 12) (L' := [.ref t, .int p0, .int p1]) (st' := [.ref a4, .ref a3, .ref a2]) (h2 := h) rfl rfl (fun C Cr hc kk => x_aload_n C (v := .ref t) rfl rfl dX11_counting_0 (f_getR1 C lX11_31 g1 rfl ea2 dX11_counting_1 (x_aload_n C (v := .ref t) rfl rfl dX11_counting_4 (f_getR1 C lX11_74 g1 rfl ea3 dX11_counting_5 (x_aload_n C (v := .ref t) rfl rfl dX11_counting_8 (f_getR1 C lX11_66 g1 rfl ea4 dX11_counting_9 (kk))))))) ?_
  obtain ⟨g5, H⟩ := H
  refine zX_call (as := [.ref a2, .ref a3, .ref a4]) (st := []) (fun C hM hc kk => f_callVN C [.ref a3, .ref a4] hM kX5_refresh vX5_refresh lX11_149 ⟨by decide, by decide⟩ (rfl : vwCl[5]? = some (RX5, TX5, 9)) g5 rfl hc (Nat.le_of_ble_eq_true rfl) rfl dX11_counting_12 kk) (zC.mono H ?_)
  rintro r0 h6 ⟨rfl, H⟩
  show zX mX11_counting 15 [.ref t, .int p0, .int p1] [] h6 Q
  obtain ⟨g7, H⟩ := H
  obtain ⟨a8, ea8, H⟩ := H
  refine zX_seg (pc' := 20) (L' := [.ref t, .int p0, .int p1]) (st' := [.int p0, .ref a8]) (h2 := h6) rfl rfl (fun C Cr hc kk => x_aload_n C (v := .ref t) rfl rfl dX11_counting_15 (f_getR1 C lX11_31 g7 rfl ea8 dX11_counting_16 (x_iload_n C rfl dX11_counting_19 (kk)))) ?_
  obtain ⟨g9, H⟩ := H
  refine zX_call (as := [.ref a8, .int p0]) (st := []) (fun C hM hc kk => f_callVN C [.int p0] hM kX5_hasStanding vX5_hasStanding lX11_156 ⟨by decide, by decide⟩ (rfl : vwCl[5]? = some (RX5, TX5, 9)) g9 rfl hc (Nat.le_of_ble_eq_true rfl) rfl dX11_counting_20 kk) (zC.mono H ?_)
  rintro r0 h10 ⟨x11, rfl, H⟩
  show zX mX11_counting 23 [.ref t, .int p0, .int p1] [.int x11] h10 Q
  refine zX_br (p1 := 37) (p2 := 26) (st' := []) (x11 = 0) (fun C kt kf => x_if_eq C 37 dX11_counting_23 (by decide) kt kf) (fun q12 => ?_) (fun q12 => ?_)
  · replace H := H.1 q12
    refine zX_seg (pc' := 38) (L' := [.ref t, .int p0, .int p1]) (st' := [.int (-1 : Int32)]) (h2 := h10) rfl rfl (fun C Cr hc kk => x_iconst C (-1 : Int32) (by decide) dX11_counting_37 (kk)) ?_
    exact zX_ret (some (.int (-1 : Int32))) (fun C Cr hc => x_iret C Cr rfl rfl hc dX11_counting_38 ⟨rfl, rfl⟩) H
  · replace H := H.2 q12
    obtain ⟨g13, H⟩ := H
    obtain ⟨a14, ea14, H⟩ := H
    refine zX_seg (pc' := 31) (L' := [.ref t, .int p0, .int p1]) (st' := [.int p1, .ref a14]) (h2 := h10) rfl rfl (fun C Cr hc kk => x_aload_n C (v := .ref t) rfl rfl dX11_counting_26 (f_getR1 C lX11_74 g13 rfl ea14 dX11_counting_27 (x_iload_n C rfl dX11_counting_30 (kk)))) ?_
    obtain ⟨g15, H⟩ := H
    refine zX_call (as := [.ref a14, .int p1]) (st := []) (fun C hM hc kk => f_callVN C [.int p1] hM kX10_hasVoter vX10_hasVoter lX11_118 ⟨by decide, by decide⟩ (rfl : vwCl[10]? = some (RX10, TX10, 10)) g15 rfl hc (Nat.le_of_ble_eq_true rfl) rfl dX11_counting_31 kk) (zC.mono H ?_)
    rintro r0 h16 ⟨x17, rfl, H⟩
    show zX mX11_counting 34 [.ref t, .int p0, .int p1] [.int x17] h16 Q
    refine zX_br (p1 := 37) (p2 := 39) (st' := []) (x17 = 0) (fun C kt kf => x_if_ne C 39 dX11_counting_34 (by decide) kf kt) (fun q18 => ?_) (fun q18 => ?_)
    · replace H := H.1 q18
      refine zX_seg (pc' := 38) (L' := [.ref t, .int p0, .int p1]) (st' := [.int (-1 : Int32)]) (h2 := h16) rfl rfl (fun C Cr hc kk => x_iconst C (-1 : Int32) (by decide) dX11_counting_37 (kk)) ?_
      exact zX_ret (some (.int (-1 : Int32))) (fun C Cr hc => x_iret C Cr rfl rfl hc dX11_counting_38 ⟨rfl, rfl⟩) H
    · replace H := H.2 q18
      obtain ⟨g19, H⟩ := H
      obtain ⟨a20, ea20, H⟩ := H
      obtain ⟨a21, ea21, H⟩ := H
      obtain ⟨g22, H⟩ := H
      obtain ⟨a23, ea23, H⟩ := H
      refine zX_seg (pc' := 51) (L' := [.ref t, .int p0, .int p1]) (st' := [.int p0, .ref a23, .ref a20]) (h2 := h16) rfl rfl (fun C Cr hc kk => x_aload_n C (v := .ref t) rfl rfl dX11_counting_39 (f_getR1 C lX11_74 g19 rfl ea20 dX11_counting_40 (x_aload_n C (v := .ref t) rfl rfl dX11_counting_43 (f_getR1 C lX11_31 g19 rfl ea21 dX11_counting_44 (f_getR1N C lX11_159 g22 rfl ea23 dX11_counting_47 (x_iload_n C rfl dX11_counting_50 (kk))))))) ?_
      refine zX_call (as := [.ref a23, .int p0]) (st := [.ref a20]) (fun C hM hc kk => x_callS C [.ref a23, .int p0] hM kX11_at sX11_at lX11_163 ⟨by decide, by decide⟩ rfl hc (Nat.le_of_ble_eq_true rfl) rfl dX11_counting_51 kk) (zC.mono H ?_)
      rintro r0 h24 ⟨x25, rfl, H⟩
      show zX mX11_counting 54 [.ref t, .int p0, .int p1] [.int x25, .ref a20] h24 Q
      refine zX_seg (pc' := 55) (L' := [.ref t, .int p0, .int p1]) (st' := [.int p1, .int x25, .ref a20]) (h2 := h24) rfl rfl (fun C Cr hc kk => x_iload_n C rfl dX11_counting_54 (kk)) ?_
      obtain ⟨g26, H⟩ := H
      refine zX_call (as := [.ref a20, .int x25, .int p1]) (st := []) (fun C hM hc kk => f_callVN C [.int x25, .int p1] hM kX10_markOf vX10_markOf lX11_167 ⟨by decide, by decide⟩ (rfl : vwCl[10]? = some (RX10, TX10, 10)) g26 rfl hc (Nat.le_of_ble_eq_true rfl) rfl dX11_counting_55 kk) (zC.mono H ?_)
      rintro r0 h27 ⟨x28, rfl, H⟩
      show zX mX11_counting 58 [.ref t, .int p0, .int p1] [.int x28] h27 Q
      exact zX_ret (some (.int x28)) (fun C Cr hc => x_iret C Cr rfl rfl hc dX11_counting_58 ⟨rfl, rfl⟩) H
theorem nX11_counting (t : Nat) (p0 : Int32) (p1 : Int32) (h : zH) (Q : Option Value → zH → Prop) (H : zX mX11_counting 0 [.ref t, .int p0, .int p1] [] h Q) : zC mX11_counting [.ref t, .int p0, .int p1] h Q := zC_of (by decide +kernel) (by simp) (Nat.le_of_ble_eq_true rfl) H
set_option maxHeartbeats 20000000 in
theorem bX11_chosen_0 (t : Nat) (p0 : Int32) (h : zH) (Q : Option Value → zH → Prop) (H : oK h t 11 ∧ (∃ a2 : Nat, gR h t 3 = some a2 ∧ (∃ a3 : Nat, gR h t 10 = some a3 ∧ (∃ a4 : Nat, gR h t 8 = some a4 ∧ (oK h a2 5 ∧ (zC mX5_refresh [.ref a2, .ref a3, .ref a4] h (fun r0 h6 => r0 = none ∧ (oK h6 t 11 ∧ (∃ a8 : Nat, gR h6 t 3 = some a8 ∧ (oK h6 a8 5 ∧ (zC mX5_hasStanding [.ref a8, .int p0] h6 (fun r0 h10 => ∃ x11 : Int32, r0 = some (.int x11) ∧ ((x11 = 0 → (Q (some (.int (-2 : Int32))) h10)) ∧ (¬ (x11 = 0) → (oK h10 t 11 ∧ (∃ a14 : Nat, gR h10 t 10 = some a14 ∧ (∃ a15 : Nat, gR h10 t 3 = some a15 ∧ (oK h10 a15 5 ∧ (∃ a17 : Nat, gR h10 a15 3 = some a17 ∧ (zC mX11_at [.ref a17, .int p0] h10 (fun r0 h18 => ∃ x19 : Int32, r0 = some (.int x19) ∧ (oK h18 a14 10 ∧ (zC mX10_chosenIn [.ref a14, .int x19] h18 (fun r0 h21 => ∃ x22 : Int32, r0 = some (.int x22) ∧ (Q (some (.int (x22 - (1 : Int32)))) h21))))))))))))))))))))))))) : zX mX11_chosen 0 [.ref t, .int p0] [] h Q := by
  obtain ⟨g1, H⟩ := H
  obtain ⟨a2, ea2, H⟩ := H
  obtain ⟨a3, ea3, H⟩ := H
  obtain ⟨a4, ea4, H⟩ := H
  refine zX_seg (pc' := 12) (L' := [.ref t, .int p0]) (st' := [.ref a4, .ref a3, .ref a2]) (h2 := h) rfl rfl (fun C Cr hc kk => x_aload_n C (v := .ref t) rfl rfl dX11_chosen_0 (f_getR1 C lX11_31 g1 rfl ea2 dX11_chosen_1 (x_aload_n C (v := .ref t) rfl rfl dX11_chosen_4 (f_getR1 C lX11_74 g1 rfl ea3 dX11_chosen_5 (x_aload_n C (v := .ref t) rfl rfl dX11_chosen_8 (f_getR1 C lX11_66 g1 rfl ea4 dX11_chosen_9 (kk))))))) ?_
  obtain ⟨g5, H⟩ := H
  refine zX_call (as := [.ref a2, .ref a3, .ref a4]) (st := []) (fun C hM hc kk => f_callVN C [.ref a3, .ref a4] hM kX5_refresh vX5_refresh lX11_149 ⟨by decide, by decide⟩ (rfl : vwCl[5]? = some (RX5, TX5, 9)) g5 rfl hc (Nat.le_of_ble_eq_true rfl) rfl dX11_chosen_12 kk) (zC.mono H ?_)
  rintro r0 h6 ⟨rfl, H⟩
  show zX mX11_chosen 15 [.ref t, .int p0] [] h6 Q
  obtain ⟨g7, H⟩ := H
  obtain ⟨a8, ea8, H⟩ := H
  refine zX_seg (pc' := 20) (L' := [.ref t, .int p0]) (st' := [.int p0, .ref a8]) (h2 := h6) rfl rfl (fun C Cr hc kk => x_aload_n C (v := .ref t) rfl rfl dX11_chosen_15 (f_getR1 C lX11_31 g7 rfl ea8 dX11_chosen_16 (x_iload_n C rfl dX11_chosen_19 (kk)))) ?_
  obtain ⟨g9, H⟩ := H
  refine zX_call (as := [.ref a8, .int p0]) (st := []) (fun C hM hc kk => f_callVN C [.int p0] hM kX5_hasStanding vX5_hasStanding lX11_156 ⟨by decide, by decide⟩ (rfl : vwCl[5]? = some (RX5, TX5, 9)) g9 rfl hc (Nat.le_of_ble_eq_true rfl) rfl dX11_chosen_20 kk) (zC.mono H ?_)
  rintro r0 h10 ⟨x11, rfl, H⟩
  show zX mX11_chosen 23 [.ref t, .int p0] [.int x11] h10 Q
  refine zX_br (p1 := 26) (p2 := 29) (st' := []) (x11 = 0) (fun C kt kf => x_if_ne C 29 dX11_chosen_23 (by decide) kf kt) (fun q12 => ?_) (fun q12 => ?_)
  · replace H := H.1 q12
    refine zX_seg (pc' := 28) (L' := [.ref t, .int p0]) (st' := [.int (-2 : Int32)]) (h2 := h10) rfl rfl (fun C Cr hc kk => x_bipush C (-2 : Int32) (by decide) dX11_chosen_26 (kk)) ?_
    exact zX_ret (some (.int (-2 : Int32))) (fun C Cr hc => x_iret C Cr rfl rfl hc dX11_chosen_28 ⟨rfl, rfl⟩) H
  · replace H := H.2 q12
    obtain ⟨g13, H⟩ := H
    obtain ⟨a14, ea14, H⟩ := H
    obtain ⟨a15, ea15, H⟩ := H
    obtain ⟨g16, H⟩ := H
    obtain ⟨a17, ea17, H⟩ := H
    refine zX_seg (pc' := 41) (L' := [.ref t, .int p0]) (st' := [.int p0, .ref a17, .ref a14]) (h2 := h10) rfl rfl (fun C Cr hc kk => x_aload_n C (v := .ref t) rfl rfl dX11_chosen_29 (f_getR1 C lX11_74 g13 rfl ea14 dX11_chosen_30 (x_aload_n C (v := .ref t) rfl rfl dX11_chosen_33 (f_getR1 C lX11_31 g13 rfl ea15 dX11_chosen_34 (f_getR1N C lX11_159 g16 rfl ea17 dX11_chosen_37 (x_iload_n C rfl dX11_chosen_40 (kk))))))) ?_
    refine zX_call (as := [.ref a17, .int p0]) (st := [.ref a14]) (fun C hM hc kk => x_callS C [.ref a17, .int p0] hM kX11_at sX11_at lX11_163 ⟨by decide, by decide⟩ rfl hc (Nat.le_of_ble_eq_true rfl) rfl dX11_chosen_41 kk) (zC.mono H ?_)
    rintro r0 h18 ⟨x19, rfl, H⟩
    show zX mX11_chosen 44 [.ref t, .int p0] [.int x19, .ref a14] h18 Q
    obtain ⟨g20, H⟩ := H
    refine zX_call (as := [.ref a14, .int x19]) (st := []) (fun C hM hc kk => f_callVN C [.int x19] hM kX10_chosenIn vX10_chosenIn lX11_171 ⟨by decide, by decide⟩ (rfl : vwCl[10]? = some (RX10, TX10, 10)) g20 rfl hc (Nat.le_of_ble_eq_true rfl) rfl dX11_chosen_44 kk) (zC.mono H ?_)
    rintro r0 h21 ⟨x22, rfl, H⟩
    show zX mX11_chosen 47 [.ref t, .int p0] [.int x22] h21 Q
    refine zX_seg (pc' := 49) (L' := [.ref t, .int p0]) (st' := [.int (x22 - (1 : Int32))]) (h2 := h21) rfl rfl (fun C Cr hc kk => x_iconst C (1 : Int32) (by decide) dX11_chosen_47 (x_isub C dX11_chosen_48 (kk))) ?_
    exact zX_ret (some (.int (x22 - (1 : Int32)))) (fun C Cr hc => x_iret C Cr rfl rfl hc dX11_chosen_49 ⟨rfl, rfl⟩) H
theorem nX11_chosen (t : Nat) (p0 : Int32) (h : zH) (Q : Option Value → zH → Prop) (H : zX mX11_chosen 0 [.ref t, .int p0] [] h Q) : zC mX11_chosen [.ref t, .int p0] h Q := zC_of (by decide +kernel) (by simp) (Nat.le_of_ble_eq_true rfl) H
set_option maxHeartbeats 20000000 in
theorem bX11_wins_0 (t : Nat) (p0 : Int32) (h : zH) (Q : Option Value → zH → Prop) (H : oK h t 11 ∧ (∃ a2 : Nat, gR h t 3 = some a2 ∧ (∃ a3 : Nat, gR h t 10 = some a3 ∧ (∃ a4 : Nat, gR h t 8 = some a4 ∧ (oK h a2 5 ∧ (zC mX5_refresh [.ref a2, .ref a3, .ref a4] h (fun r0 h6 => r0 = none ∧ (oK h6 t 11 ∧ (∃ a8 : Nat, gR h6 t 10 = some a8 ∧ (oK h6 a8 10 ∧ (zC mX10_hasName [.ref a8, .int p0] h6 (fun r0 h10 => ∃ x11 : Int32, r0 = some (.int x11) ∧ ((x11 = 0 → (Q (some (.int (-1 : Int32))) h10)) ∧ (¬ (x11 = 0) → (oK h10 t 11 ∧ (∃ a14 : Nat, gR h10 t 3 = some a14 ∧ (oK h10 a14 5 ∧ (((gI h10 a14 5) = 0 → (Q (some (.int (-1 : Int32))) h10)) ∧ (¬ ((gI h10 a14 5) = 0) → (zX mX11_wins 42 [.ref t, .int p0, .int (0 : Int32), .int (0 : Int32)] [] h10 Q)))))))))))))))))))) : zX mX11_wins 0 [.ref t, .int p0, .float 0, .float 0] [] h Q := by
  obtain ⟨g1, H⟩ := H
  obtain ⟨a2, ea2, H⟩ := H
  obtain ⟨a3, ea3, H⟩ := H
  obtain ⟨a4, ea4, H⟩ := H
  refine zX_seg (pc' := 12) (L' := [.ref t, .int p0, .float 0, .float 0]) (st' := [.ref a4, .ref a3, .ref a2]) (h2 := h) rfl rfl (fun C Cr hc kk => x_aload_n C (v := .ref t) rfl rfl dX11_wins_0 (f_getR1 C lX11_31 g1 rfl ea2 dX11_wins_1 (x_aload_n C (v := .ref t) rfl rfl dX11_wins_4 (f_getR1 C lX11_74 g1 rfl ea3 dX11_wins_5 (x_aload_n C (v := .ref t) rfl rfl dX11_wins_8 (f_getR1 C lX11_66 g1 rfl ea4 dX11_wins_9 (kk))))))) ?_
  obtain ⟨g5, H⟩ := H
  refine zX_call (as := [.ref a2, .ref a3, .ref a4]) (st := []) (fun C hM hc kk => f_callVN C [.ref a3, .ref a4] hM kX5_refresh vX5_refresh lX11_149 ⟨by decide, by decide⟩ (rfl : vwCl[5]? = some (RX5, TX5, 9)) g5 rfl hc (Nat.le_of_ble_eq_true rfl) rfl dX11_wins_12 kk) (zC.mono H ?_)
  rintro r0 h6 ⟨rfl, H⟩
  show zX mX11_wins 15 [.ref t, .int p0, .float 0, .float 0] [] h6 Q
  obtain ⟨g7, H⟩ := H
  obtain ⟨a8, ea8, H⟩ := H
  refine zX_seg (pc' := 20) (L' := [.ref t, .int p0, .float 0, .float 0]) (st' := [.int p0, .ref a8]) (h2 := h6) rfl rfl (fun C Cr hc kk => x_aload_n C (v := .ref t) rfl rfl dX11_wins_15 (f_getR1 C lX11_74 g7 rfl ea8 dX11_wins_16 (x_iload_n C rfl dX11_wins_19 (kk)))) ?_
  obtain ⟨g9, H⟩ := H
  refine zX_call (as := [.ref a8, .int p0]) (st := []) (fun C hM hc kk => f_callVN C [.int p0] hM kX10_hasName vX10_hasName lX11_175 ⟨by decide, by decide⟩ (rfl : vwCl[10]? = some (RX10, TX10, 10)) g9 rfl hc (Nat.le_of_ble_eq_true rfl) rfl dX11_wins_20 kk) (zC.mono H ?_)
  rintro r0 h10 ⟨x11, rfl, H⟩
  show zX mX11_wins 23 [.ref t, .int p0, .float 0, .float 0] [.int x11] h10 Q
  refine zX_br (p1 := 36) (p2 := 26) (st' := []) (x11 = 0) (fun C kt kf => x_if_eq C 36 dX11_wins_23 (by decide) kt kf) (fun q12 => ?_) (fun q12 => ?_)
  · replace H := H.1 q12
    refine zX_seg (pc' := 37) (L' := [.ref t, .int p0, .float 0, .float 0]) (st' := [.int (-1 : Int32)]) (h2 := h10) rfl rfl (fun C Cr hc kk => x_iconst C (-1 : Int32) (by decide) dX11_wins_36 (kk)) ?_
    exact zX_ret (some (.int (-1 : Int32))) (fun C Cr hc => x_iret C Cr rfl rfl hc dX11_wins_37 ⟨rfl, rfl⟩) H
  · replace H := H.2 q12
    obtain ⟨g13, H⟩ := H
    obtain ⟨a14, ea14, H⟩ := H
    obtain ⟨g15, H⟩ := H
    refine zX_seg (pc' := 33) (L' := [.ref t, .int p0, .float 0, .float 0]) (st' := [.int (gI h10 a14 5)]) (h2 := h10) rfl rfl (fun C Cr hc kk => x_aload_n C (v := .ref t) rfl rfl dX11_wins_26 (f_getR1 C lX11_31 g13 rfl ea14 dX11_wins_27 (f_getIN C lX11_153 g15 rfl dX11_wins_30 (kk)))) ?_
    refine zX_br (p1 := 36) (p2 := 38) (st' := []) ((gI h10 a14 5) = 0) (fun C kt kf => x_if_ne C 38 dX11_wins_33 (by decide) kf kt) (fun q16 => ?_) (fun q16 => ?_)
    · replace H := H.1 q16
      refine zX_seg (pc' := 37) (L' := [.ref t, .int p0, .float 0, .float 0]) (st' := [.int (-1 : Int32)]) (h2 := h10) rfl rfl (fun C Cr hc kk => x_iconst C (-1 : Int32) (by decide) dX11_wins_36 (kk)) ?_
      exact zX_ret (some (.int (-1 : Int32))) (fun C Cr hc => x_iret C Cr rfl rfl hc dX11_wins_37 ⟨rfl, rfl⟩) H
    · replace H := H.2 q16
      refine zX_seg (pc' := 42) (L' := [.ref t, .int p0, .int (0 : Int32), .int (0 : Int32)]) (st' := []) (h2 := h10) rfl rfl (fun C Cr hc kk => x_iconst C (0 : Int32) (by decide) dX11_wins_38 (x_istore_n C (by decide) dX11_wins_39 (x_iconst C (0 : Int32) (by decide) dX11_wins_40 (x_istore_n C (by decide) dX11_wins_41 (kk))))) ?_
      exact zX_wk (wkK (wkK (wkK (wkK wkN)))) H
set_option maxHeartbeats 20000000 in
theorem bX11_wins_42 (l0 : Nat) (l1 : Int32) (l2 : Int32) (l3 : Int32) (h : zH) (Q : Option Value → zH → Prop) (H : oK h l0 11 ∧ (∃ a2 : Nat, gR h l0 3 = some a2 ∧ (oK h a2 5 ∧ (((gI h a2 5) ≤ l3 → ((l2 = (gI h a2 5) → (Q (some (.int (2 : Int32))) h)) ∧ (¬ (l2 = (gI h a2 5)) → ((l2 ≤ 0 → (Q (some (.int (0 : Int32))) h)) ∧ (¬ (l2 ≤ 0) → (Q (some (.int (1 : Int32))) h)))))) ∧ (¬ ((gI h a2 5) ≤ l3) → (∃ a7 : Nat, gR h l0 10 = some a7 ∧ (∃ a8 : Nat, gR h a2 3 = some a8 ∧ (zC mX11_at [.ref a8, .int l3] h (fun r0 h9 => ∃ x10 : Int32, r0 = some (.int x10) ∧ (oK h9 a7 10 ∧ (zC mX10_chosenIn [.ref a7, .int x10] h9 (fun r0 h12 => ∃ x13 : Int32, r0 = some (.int x13) ∧ ((x13 = (l1 + (1 : Int32)) → (zX mX11_wins 42 [.ref l0, .int l1, .int (l2 + 1), .int (l3 + 1)] [] h12 Q)) ∧ (¬ (x13 = (l1 + (1 : Int32))) → (zX mX11_wins 42 [.ref l0, .int l1, .int l2, .int (l3 + 1)] [] h12 Q))))))))))))))) : zX mX11_wins 42 [.ref l0, .int l1, .int l2, .int l3] [] h Q := by
  obtain ⟨g1, H⟩ := H
  obtain ⟨a2, ea2, H⟩ := H
  obtain ⟨g3, H⟩ := H
  refine zX_seg (pc' := 50) (L' := [.ref l0, .int l1, .int l2, .int l3]) (st' := [.int (gI h a2 5), .int l3]) (h2 := h) rfl rfl (fun C Cr hc kk => x_iload_n C rfl dX11_wins_42 (x_aload_n C (v := .ref l0) rfl rfl dX11_wins_43 (f_getR1 C lX11_31 g1 rfl ea2 dX11_wins_44 (f_getIN C lX11_153 g3 rfl dX11_wins_47 (kk))))) ?_
  refine zX_br (p1 := 86) (p2 := 53) (st' := []) ((gI h a2 5) ≤ l3) (fun C kt kf => x_icmp_ge C 86 dX11_wins_50 (by decide) kt kf) (fun q4 => ?_) (fun q4 => ?_)
  · replace H := H.1 q4
    refine zX_seg (pc' := 94) (L' := [.ref l0, .int l1, .int l2, .int l3]) (st' := [.int (gI h a2 5), .int l2]) (h2 := h) rfl rfl (fun C Cr hc kk => x_iload_n C rfl dX11_wins_86 (x_aload_n C (v := .ref l0) rfl rfl dX11_wins_87 (f_getR1 C lX11_31 g1 rfl ea2 dX11_wins_88 (f_getIN C lX11_153 g3 rfl dX11_wins_91 (kk))))) ?_
    refine zX_br (p1 := 97) (p2 := 99) (st' := []) (l2 = (gI h a2 5)) (fun C kt kf => x_icmp_ne C 99 dX11_wins_94 (by decide) kf kt) (fun q5 => ?_) (fun q5 => ?_)
    · replace H := H.1 q5
      refine zX_seg (pc' := 98) (L' := [.ref l0, .int l1, .int l2, .int l3]) (st' := [.int (2 : Int32)]) (h2 := h) rfl rfl (fun C Cr hc kk => x_iconst C (2 : Int32) (by decide) dX11_wins_97 (kk)) ?_
      exact zX_ret (some (.int (2 : Int32))) (fun C Cr hc => x_iret C Cr rfl rfl hc dX11_wins_98 ⟨rfl, rfl⟩) H
    · replace H := H.2 q5
      refine zX_seg (pc' := 100) (L' := [.ref l0, .int l1, .int l2, .int l3]) (st' := [.int l2]) (h2 := h) rfl rfl (fun C Cr hc kk => x_iload_n C rfl dX11_wins_99 (kk)) ?_
      refine zX_br (p1 := 107) (p2 := 103) (st' := []) (l2 ≤ 0) (fun C kt kf => x_if_le C 107 dX11_wins_100 (by decide) kt kf) (fun q6 => ?_) (fun q6 => ?_)
      · replace H := H.1 q6
        refine zX_seg (pc' := 108) (L' := [.ref l0, .int l1, .int l2, .int l3]) (st' := [.int (0 : Int32)]) (h2 := h) rfl rfl (fun C Cr hc kk => x_iconst C (0 : Int32) (by decide) dX11_wins_107 (kk)) ?_
        exact zX_ret (some (.int (0 : Int32))) (fun C Cr hc => x_iret C Cr rfl rfl hc dX11_wins_108 ⟨rfl, rfl⟩) H
      · replace H := H.2 q6
        refine zX_seg (pc' := 108) (L' := [.ref l0, .int l1, .int l2, .int l3]) (st' := [.int (1 : Int32)]) (h2 := h) rfl rfl (fun C Cr hc kk => x_iconst C (1 : Int32) (by decide) dX11_wins_103 (x_goto C 108 dX11_wins_104 (by decide) (kk))) ?_
        exact zX_ret (some (.int (1 : Int32))) (fun C Cr hc => x_iret C Cr rfl rfl hc dX11_wins_108 ⟨rfl, rfl⟩) H
  · replace H := H.2 q4
    obtain ⟨a7, ea7, H⟩ := H
    obtain ⟨a8, ea8, H⟩ := H
    refine zX_seg (pc' := 65) (L' := [.ref l0, .int l1, .int l2, .int l3]) (st' := [.int l3, .ref a8, .ref a7]) (h2 := h) rfl rfl (fun C Cr hc kk => x_aload_n C (v := .ref l0) rfl rfl dX11_wins_53 (f_getR1 C lX11_74 g1 rfl ea7 dX11_wins_54 (x_aload_n C (v := .ref l0) rfl rfl dX11_wins_57 (f_getR1 C lX11_31 g1 rfl ea2 dX11_wins_58 (f_getR1N C lX11_159 g3 rfl ea8 dX11_wins_61 (x_iload_n C rfl dX11_wins_64 (kk))))))) ?_
    refine zX_call (as := [.ref a8, .int l3]) (st := [.ref a7]) (fun C hM hc kk => x_callS C [.ref a8, .int l3] hM kX11_at sX11_at lX11_163 ⟨by decide, by decide⟩ rfl hc (Nat.le_of_ble_eq_true rfl) rfl dX11_wins_65 kk) (zC.mono H ?_)
    rintro r0 h9 ⟨x10, rfl, H⟩
    show zX mX11_wins 68 [.ref l0, .int l1, .int l2, .int l3] [.int x10, .ref a7] h9 Q
    obtain ⟨g11, H⟩ := H
    refine zX_call (as := [.ref a7, .int x10]) (st := []) (fun C hM hc kk => f_callVN C [.int x10] hM kX10_chosenIn vX10_chosenIn lX11_171 ⟨by decide, by decide⟩ (rfl : vwCl[10]? = some (RX10, TX10, 10)) g11 rfl hc (Nat.le_of_ble_eq_true rfl) rfl dX11_wins_68 kk) (zC.mono H ?_)
    rintro r0 h12 ⟨x13, rfl, H⟩
    show zX mX11_wins 71 [.ref l0, .int l1, .int l2, .int l3] [.int x13] h12 Q
    refine zX_seg (pc' := 74) (L' := [.ref l0, .int l1, .int l2, .int l3]) (st' := [.int (l1 + (1 : Int32)), .int x13]) (h2 := h12) rfl rfl (fun C Cr hc kk => x_iload_n C rfl dX11_wins_71 (x_iconst C (1 : Int32) (by decide) dX11_wins_72 (x_iadd C dX11_wins_73 (kk)))) ?_
    refine zX_br (p1 := 77) (p2 := 80) (st' := []) (x13 = (l1 + (1 : Int32))) (fun C kt kf => x_icmp_ne C 80 dX11_wins_74 (by decide) kf kt) (fun q14 => ?_) (fun q14 => ?_)
    · replace H := H.1 q14
      refine zX_seg (pc' := 42) (L' := [.ref l0, .int l1, .int (l2 + 1), .int (l3 + 1)]) (st' := []) (h2 := h12) rfl rfl (fun C Cr hc kk => x_iinc C (l2 + 1) rfl (congrArg (HAdd.hAdd _) (by decide)) (by decide) dX11_wins_77 (x_iinc C (l3 + 1) rfl (congrArg (HAdd.hAdd _) (by decide)) (by decide) dX11_wins_80 (x_goto C 42 dX11_wins_83 (by decide) (kk)))) ?_
      exact zX_wk (wkK (wkK (wkK (wkK wkN)))) H
    · replace H := H.2 q14
      refine zX_seg (pc' := 42) (L' := [.ref l0, .int l1, .int l2, .int (l3 + 1)]) (st' := []) (h2 := h12) rfl rfl (fun C Cr hc kk => x_iinc C (l3 + 1) rfl (congrArg (HAdd.hAdd _) (by decide)) (by decide) dX11_wins_80 (x_goto C 42 dX11_wins_83 (by decide) (kk))) ?_
      exact zX_wk (wkK (wkK (wkK (wkK wkN)))) H
theorem nX11_wins (t : Nat) (p0 : Int32) (h : zH) (Q : Option Value → zH → Prop) (H : zX mX11_wins 0 [.ref t, .int p0, .float 0, .float 0] [] h Q) : zC mX11_wins [.ref t, .int p0] h Q := zC_of (by decide +kernel) (by simp) (Nat.le_of_ble_eq_true rfl) H
set_option maxHeartbeats 20000000 in
theorem bX11_says_0 (t : Nat) (p0 : Int32) (h : zH) (Q : Option Value → zH → Prop) (H : oK h t 11 ∧ (∃ a2 : Nat, gR h t 10 = some a2 ∧ (oK h a2 10 ∧ (zC mX10_hasVoter [.ref a2, .int p0] h (fun r0 h4 => ∃ x5 : Int32, r0 = some (.int x5) ∧ ((x5 = 0 → (Q (some (.int (-1 : Int32))) h4)) ∧ (¬ (x5 = 0) → (oK h4 t 11 ∧ (∃ a8 : Nat, gR h4 t 2 = some a8 ∧ (∃ a9 : Nat, gR h4 t 8 = some a9 ∧ (oK h4 a9 1 ∧ (zC mX1_ballotOf [.ref a9, .int p0] h4 (fun r0 h11 => ∃ x12 : Option Nat, r0 = some (zr x12) ∧ (∃ a13 : Nat, x12 = some a13 ∧ (oK h11 t 11 ∧ (∃ a15 : Nat, gR h11 t 8 = some a15 ∧ (oK h11 a15 1 ∧ (∃ a17 : Nat, gR h11 t 10 = some a17 ∧ (oK h11 a8 6 ∧ (zC mX6_hear [.ref a8, .ref a13, .int p0, .int (gI h11 a15 3), .ref a17] h11 (fun r0 h19 => ∃ x20 : Int32, r0 = some (.int x20) ∧ (Q (some (.int x20)) h19)))))))))))))))))))))) : zX mX11_says 0 [.ref t, .int p0] [] h Q := by
  obtain ⟨g1, H⟩ := H
  obtain ⟨a2, ea2, H⟩ := H
  refine zX_seg (pc' := 5) (L' := [.ref t, .int p0]) (st' := [.int p0, .ref a2]) (h2 := h) rfl rfl (fun C Cr hc kk => x_aload_n C (v := .ref t) rfl rfl dX11_says_0 (f_getR1 C lX11_74 g1 rfl ea2 dX11_says_1 (x_iload_n C rfl dX11_says_4 (kk)))) ?_
  obtain ⟨g3, H⟩ := H
  refine zX_call (as := [.ref a2, .int p0]) (st := []) (fun C hM hc kk => f_callVN C [.int p0] hM kX10_hasVoter vX10_hasVoter lX11_118 ⟨by decide, by decide⟩ (rfl : vwCl[10]? = some (RX10, TX10, 10)) g3 rfl hc (Nat.le_of_ble_eq_true rfl) rfl dX11_says_5 kk) (zC.mono H ?_)
  rintro r0 h4 ⟨x5, rfl, H⟩
  show zX mX11_says 8 [.ref t, .int p0] [.int x5] h4 Q
  refine zX_br (p1 := 11) (p2 := 13) (st' := []) (x5 = 0) (fun C kt kf => x_if_ne C 13 dX11_says_8 (by decide) kf kt) (fun q6 => ?_) (fun q6 => ?_)
  · replace H := H.1 q6
    refine zX_seg (pc' := 12) (L' := [.ref t, .int p0]) (st' := [.int (-1 : Int32)]) (h2 := h4) rfl rfl (fun C Cr hc kk => x_iconst C (-1 : Int32) (by decide) dX11_says_11 (kk)) ?_
    exact zX_ret (some (.int (-1 : Int32))) (fun C Cr hc => x_iret C Cr rfl rfl hc dX11_says_12 ⟨rfl, rfl⟩) H
  · replace H := H.2 q6
    obtain ⟨g7, H⟩ := H
    obtain ⟨a8, ea8, H⟩ := H
    obtain ⟨a9, ea9, H⟩ := H
    refine zX_seg (pc' := 22) (L' := [.ref t, .int p0]) (st' := [.int p0, .ref a9, .ref a8]) (h2 := h4) rfl rfl (fun C Cr hc kk => x_aload_n C (v := .ref t) rfl rfl dX11_says_13 (f_getR1 C lX11_24 g7 rfl ea8 dX11_says_14 (x_aload_n C (v := .ref t) rfl rfl dX11_says_17 (f_getR1 C lX11_66 g7 rfl ea9 dX11_says_18 (x_iload_n C rfl dX11_says_21 (kk)))))) ?_
    obtain ⟨g10, H⟩ := H
    refine zX_call (as := [.ref a9, .int p0]) (st := [.ref a8]) (fun C hM hc kk => f_callVN C [.int p0] hM kX1_ballotOf vX1_ballotOf lX11_126 ⟨by decide, by decide⟩ (rfl : vwCl[1]? = some (RX1, TX1, 5)) g10 rfl hc (Nat.le_of_ble_eq_true rfl) rfl dX11_says_22 kk) (zC.mono H ?_)
    rintro r0 h11 ⟨x12, rfl, H⟩
    show zX mX11_says 25 [.ref t, .int p0] [zr x12, .ref a8] h11 Q
    obtain ⟨a13, rfl, H⟩ := H
    obtain ⟨g14, H⟩ := H
    obtain ⟨a15, ea15, H⟩ := H
    obtain ⟨g16, H⟩ := H
    obtain ⟨a17, ea17, H⟩ := H
    refine zX_seg (pc' := 37) (L' := [.ref t, .int p0]) (st' := [.ref a17, .int (gI h11 a15 3), .int p0, .ref a13, .ref a8]) (h2 := h11) rfl rfl (fun C Cr hc kk => x_iload_n C rfl dX11_says_25 (x_aload_n C (v := .ref t) rfl rfl dX11_says_26 (f_getR1 C lX11_66 g14 rfl ea15 dX11_says_27 (f_getIN C lX11_178 g16 rfl dX11_says_30 (x_aload_n C (v := .ref t) rfl rfl dX11_says_33 (f_getR1 C lX11_74 g14 rfl ea17 dX11_says_34 (kk))))))) ?_
    obtain ⟨g18, H⟩ := H
    refine zX_call (as := [.ref a8, .ref a13, .int p0, .int (gI h11 a15 3), .ref a17]) (st := []) (fun C hM hc kk => f_callVN C [.ref a13, .int p0, .int (gI h11 a15 3), .ref a17] hM kX6_hear vX6_hear lX11_181 ⟨by decide, by decide⟩ (rfl : vwCl[6]? = some (RX6, TX6, 2)) g18 rfl hc (Nat.le_of_ble_eq_true rfl) rfl dX11_says_37 kk) (zC.mono H ?_)
    rintro r0 h19 ⟨x20, rfl, H⟩
    show zX mX11_says 40 [.ref t, .int p0] [.int x20] h19 Q
    exact zX_ret (some (.int x20)) (fun C Cr hc => x_iret C Cr rfl rfl hc dX11_says_40 ⟨rfl, rfl⟩) H
theorem nX11_says (t : Nat) (p0 : Int32) (h : zH) (Q : Option Value → zH → Prop) (H : zX mX11_says 0 [.ref t, .int p0] [] h Q) : zC mX11_says [.ref t, .int p0] h Q := zC_of (by decide +kernel) (by simp) (Nat.le_of_ble_eq_true rfl) H
set_option maxHeartbeats 20000000 in
theorem bX11_looks_0 (t : Nat) (p0 : Int32) (h : zH) (Q : Option Value → zH → Prop) (H : oK h t 11 ∧ (∃ a2 : Nat, gR h t 10 = some a2 ∧ (oK h a2 10 ∧ (zC mX10_hasVoter [.ref a2, .int p0] h (fun r0 h4 => ∃ x5 : Int32, r0 = some (.int x5) ∧ ((x5 = 0 → (Q (some (.int (-1 : Int32))) h4)) ∧ (¬ (x5 = 0) → (oK h4 t 11 ∧ (∃ a8 : Nat, gR h4 t 10 = some a8 ∧ (∃ a9 : Nat, gR h4 t 8 = some a9 ∧ (oK h4 a9 1 ∧ (zC mX1_ballotOf [.ref a9, .int p0] h4 (fun r0 h11 => ∃ x12 : Option Nat, r0 = some (zr x12) ∧ (∃ a13 : Nat, x12 = some a13 ∧ (oK h11 a8 10 ∧ (zC mX10_looksOf [.ref a8, .int p0, .ref a13] h11 (fun r0 h15 => ∃ x16 : Int32, r0 = some (.int x16) ∧ (Q (some (.int x16)) h15)))))))))))))))))) : zX mX11_looks 0 [.ref t, .int p0] [] h Q := by
  obtain ⟨g1, H⟩ := H
  obtain ⟨a2, ea2, H⟩ := H
  refine zX_seg (pc' := 5) (L' := [.ref t, .int p0]) (st' := [.int p0, .ref a2]) (h2 := h) rfl rfl (fun C Cr hc kk => x_aload_n C (v := .ref t) rfl rfl dX11_looks_0 (f_getR1 C lX11_74 g1 rfl ea2 dX11_looks_1 (x_iload_n C rfl dX11_looks_4 (kk)))) ?_
  obtain ⟨g3, H⟩ := H
  refine zX_call (as := [.ref a2, .int p0]) (st := []) (fun C hM hc kk => f_callVN C [.int p0] hM kX10_hasVoter vX10_hasVoter lX11_118 ⟨by decide, by decide⟩ (rfl : vwCl[10]? = some (RX10, TX10, 10)) g3 rfl hc (Nat.le_of_ble_eq_true rfl) rfl dX11_looks_5 kk) (zC.mono H ?_)
  rintro r0 h4 ⟨x5, rfl, H⟩
  show zX mX11_looks 8 [.ref t, .int p0] [.int x5] h4 Q
  refine zX_br (p1 := 11) (p2 := 13) (st' := []) (x5 = 0) (fun C kt kf => x_if_ne C 13 dX11_looks_8 (by decide) kf kt) (fun q6 => ?_) (fun q6 => ?_)
  · replace H := H.1 q6
    refine zX_seg (pc' := 12) (L' := [.ref t, .int p0]) (st' := [.int (-1 : Int32)]) (h2 := h4) rfl rfl (fun C Cr hc kk => x_iconst C (-1 : Int32) (by decide) dX11_looks_11 (kk)) ?_
    exact zX_ret (some (.int (-1 : Int32))) (fun C Cr hc => x_iret C Cr rfl rfl hc dX11_looks_12 ⟨rfl, rfl⟩) H
  · replace H := H.2 q6
    obtain ⟨g7, H⟩ := H
    obtain ⟨a8, ea8, H⟩ := H
    obtain ⟨a9, ea9, H⟩ := H
    refine zX_seg (pc' := 23) (L' := [.ref t, .int p0]) (st' := [.int p0, .ref a9, .int p0, .ref a8]) (h2 := h4) rfl rfl (fun C Cr hc kk => x_aload_n C (v := .ref t) rfl rfl dX11_looks_13 (f_getR1 C lX11_74 g7 rfl ea8 dX11_looks_14 (x_iload_n C rfl dX11_looks_17 (x_aload_n C (v := .ref t) rfl rfl dX11_looks_18 (f_getR1 C lX11_66 g7 rfl ea9 dX11_looks_19 (x_iload_n C rfl dX11_looks_22 (kk))))))) ?_
    obtain ⟨g10, H⟩ := H
    refine zX_call (as := [.ref a9, .int p0]) (st := [.int p0, .ref a8]) (fun C hM hc kk => f_callVN C [.int p0] hM kX1_ballotOf vX1_ballotOf lX11_126 ⟨by decide, by decide⟩ (rfl : vwCl[1]? = some (RX1, TX1, 5)) g10 rfl hc (Nat.le_of_ble_eq_true rfl) rfl dX11_looks_23 kk) (zC.mono H ?_)
    rintro r0 h11 ⟨x12, rfl, H⟩
    show zX mX11_looks 26 [.ref t, .int p0] [zr x12, .int p0, .ref a8] h11 Q
    obtain ⟨a13, rfl, H⟩ := H
    obtain ⟨g14, H⟩ := H
    refine zX_call (as := [.ref a8, .int p0, .ref a13]) (st := []) (fun C hM hc kk => f_callVN C [.int p0, .ref a13] hM kX10_looksOf vX10_looksOf lX11_185 ⟨by decide, by decide⟩ (rfl : vwCl[10]? = some (RX10, TX10, 10)) g14 rfl hc (Nat.le_of_ble_eq_true rfl) rfl dX11_looks_26 kk) (zC.mono H ?_)
    rintro r0 h15 ⟨x16, rfl, H⟩
    show zX mX11_looks 29 [.ref t, .int p0] [.int x16] h15 Q
    exact zX_ret (some (.int x16)) (fun C Cr hc => x_iret C Cr rfl rfl hc dX11_looks_29 ⟨rfl, rfl⟩) H
theorem nX11_looks (t : Nat) (p0 : Int32) (h : zH) (Q : Option Value → zH → Prop) (H : zX mX11_looks 0 [.ref t, .int p0] [] h Q) : zC mX11_looks [.ref t, .int p0] h Q := zC_of (by decide +kernel) (by simp) (Nat.le_of_ble_eq_true rfl) H
set_option maxHeartbeats 20000000 in
theorem bX11_part_0 (t : Nat) (p0 : Int32) (h : zH) (Q : Option Value → zH → Prop) (H : oK h t 11 ∧ (∃ a2 : Nat, gR h t 10 = some a2 ∧ (oK h a2 10 ∧ (zC mX10_hasVoter [.ref a2, .int p0] h (fun r0 h4 => ∃ x5 : Int32, r0 = some (.int x5) ∧ ((x5 = 0 → (Q (some (.int (-1 : Int32))) h4)) ∧ (¬ (x5 = 0) → (oK h4 t 11 ∧ (zC mX11_reachedFrom [.ref t, .int p0] h4 (fun r0 h8 => ∃ x9 : Int32, r0 = some (.int x9) ∧ (zX mX11_part 24 [.ref t, .int p0, .int x9, .int (0 : Int32), .int (0 : Int32), .float 0] [] h8 Q))))))))))) : zX mX11_part 0 [.ref t, .int p0, .float 0, .float 0, .float 0, .float 0] [] h Q := by
  obtain ⟨g1, H⟩ := H
  obtain ⟨a2, ea2, H⟩ := H
  refine zX_seg (pc' := 5) (L' := [.ref t, .int p0, .float 0, .float 0, .float 0, .float 0]) (st' := [.int p0, .ref a2]) (h2 := h) rfl rfl (fun C Cr hc kk => x_aload_n C (v := .ref t) rfl rfl dX11_part_0 (f_getR1 C lX11_74 g1 rfl ea2 dX11_part_1 (x_iload_n C rfl dX11_part_4 (kk)))) ?_
  obtain ⟨g3, H⟩ := H
  refine zX_call (as := [.ref a2, .int p0]) (st := []) (fun C hM hc kk => f_callVN C [.int p0] hM kX10_hasVoter vX10_hasVoter lX11_118 ⟨by decide, by decide⟩ (rfl : vwCl[10]? = some (RX10, TX10, 10)) g3 rfl hc (Nat.le_of_ble_eq_true rfl) rfl dX11_part_5 kk) (zC.mono H ?_)
  rintro r0 h4 ⟨x5, rfl, H⟩
  show zX mX11_part 8 [.ref t, .int p0, .float 0, .float 0, .float 0, .float 0] [.int x5] h4 Q
  refine zX_br (p1 := 11) (p2 := 13) (st' := []) (x5 = 0) (fun C kt kf => x_if_ne C 13 dX11_part_8 (by decide) kf kt) (fun q6 => ?_) (fun q6 => ?_)
  · replace H := H.1 q6
    refine zX_seg (pc' := 12) (L' := [.ref t, .int p0, .float 0, .float 0, .float 0, .float 0]) (st' := [.int (-1 : Int32)]) (h2 := h4) rfl rfl (fun C Cr hc kk => x_iconst C (-1 : Int32) (by decide) dX11_part_11 (kk)) ?_
    exact zX_ret (some (.int (-1 : Int32))) (fun C Cr hc => x_iret C Cr rfl rfl hc dX11_part_12 ⟨rfl, rfl⟩) H
  · replace H := H.2 q6
    refine zX_seg (pc' := 15) (L' := [.ref t, .int p0, .float 0, .float 0, .float 0, .float 0]) (st' := [.int p0, .ref t]) (h2 := h4) rfl rfl (fun C Cr hc kk => x_aload_n C (v := .ref t) rfl rfl dX11_part_13 (x_iload_n C rfl dX11_part_14 (kk))) ?_
    obtain ⟨g7, H⟩ := H
    refine zX_call (as := [.ref t, .int p0]) (st := []) (fun C hM hc kk => f_callV C [.int p0] hM kX11_reachedFrom vX11_reachedFrom lX11_189 ⟨by decide, by decide⟩ (rfl : vwCl[11]? = some (RX11, TX11, 15)) g7 rfl hc (Nat.le_of_ble_eq_true rfl) rfl dX11_part_15 kk) (zC.mono H ?_)
    rintro r0 h8 ⟨x9, rfl, H⟩
    show zX mX11_part 18 [.ref t, .int p0, .float 0, .float 0, .float 0, .float 0] [.int x9] h8 Q
    refine zX_seg (pc' := 24) (L' := [.ref t, .int p0, .int x9, .int (0 : Int32), .int (0 : Int32), .float 0]) (st' := []) (h2 := h8) rfl rfl (fun C Cr hc kk => x_istore_n C (by decide) dX11_part_18 (x_iconst C (0 : Int32) (by decide) dX11_part_19 (x_istore_n C (by decide) dX11_part_20 (x_iconst C (0 : Int32) (by decide) dX11_part_21 (x_istore C (by decide) dX11_part_22 (kk)))))) ?_
    exact zX_wk (wkK (wkK (wkK (wkK (wkK (wkD wkN)))))) H
set_option maxHeartbeats 20000000 in
theorem bX11_part_24 (l0 : Nat) (l1 : Int32) (l2 : Int32) (l3 : Int32) (l4 : Int32) (h : zH) (Q : Option Value → zH → Prop) (H : oK h l0 11 ∧ (∃ a2 : Nat, gR h l0 10 = some a2 ∧ (oK h a2 10 ∧ (((gI h a2 8) ≤ l4 → (Q (some (.int l3)) h)) ∧ (¬ ((gI h a2 8) ≤ l4) → ((((l2 >>> (l4 &&& 31)) &&& (1 : Int32)) = (1 : Int32) → (zX mX11_part 51 [.ref l0, .int l1, .int l2, .int l3, .int l4, .float 0] [.int (1 : Int32)] h Q)) ∧ (¬ (((l2 >>> (l4 &&& 31)) &&& (1 : Int32)) = (1 : Int32)) → (zX mX11_part 51 [.ref l0, .int l1, .int l2, .int l3, .int l4, .float 0] [.int (0 : Int32)] h Q)))))))) : zX mX11_part 24 [.ref l0, .int l1, .int l2, .int l3, .int l4, .float 0] [] h Q := by
  obtain ⟨g1, H⟩ := H
  obtain ⟨a2, ea2, H⟩ := H
  obtain ⟨g3, H⟩ := H
  refine zX_seg (pc' := 33) (L' := [.ref l0, .int l1, .int l2, .int l3, .int l4, .float 0]) (st' := [.int (gI h a2 8), .int l4]) (h2 := h) rfl rfl (fun C Cr hc kk => x_iload C rfl dX11_part_24 (x_aload_n C (v := .ref l0) rfl rfl dX11_part_26 (f_getR1 C lX11_74 g1 rfl ea2 dX11_part_27 (f_getIN C lX11_115 g3 rfl dX11_part_30 (kk))))) ?_
  refine zX_br (p1 := 85) (p2 := 36) (st' := []) ((gI h a2 8) ≤ l4) (fun C kt kf => x_icmp_ge C 85 dX11_part_33 (by decide) kt kf) (fun q4 => ?_) (fun q4 => ?_)
  · replace H := H.1 q4
    refine zX_seg (pc' := 86) (L' := [.ref l0, .int l1, .int l2, .int l3, .int l4, .float 0]) (st' := [.int l3]) (h2 := h) rfl rfl (fun C Cr hc kk => x_iload_n C rfl dX11_part_85 (kk)) ?_
    exact zX_ret (some (.int l3)) (fun C Cr hc => x_iret C Cr rfl rfl hc dX11_part_86 ⟨rfl, rfl⟩) H
  · replace H := H.2 q4
    refine zX_seg (pc' := 43) (L' := [.ref l0, .int l1, .int l2, .int l3, .int l4, .float 0]) (st' := [.int (1 : Int32), .int ((l2 >>> (l4 &&& 31)) &&& (1 : Int32))]) (h2 := h) rfl rfl (fun C Cr hc kk => x_iload_n C rfl dX11_part_36 (x_iload C rfl dX11_part_37 (x_ishr C dX11_part_39 (x_iconst C (1 : Int32) (by decide) dX11_part_40 (x_iand C dX11_part_41 (x_iconst C (1 : Int32) (by decide) dX11_part_42 (kk))))))) ?_
    refine zX_br (p1 := 46) (p2 := 50) (st' := []) (((l2 >>> (l4 &&& 31)) &&& (1 : Int32)) = (1 : Int32)) (fun C kt kf => x_icmp_ne C 50 dX11_part_43 (by decide) kf kt) (fun q5 => ?_) (fun q5 => ?_)
    · replace H := H.1 q5
      refine zX_seg (pc' := 51) (L' := [.ref l0, .int l1, .int l2, .int l3, .int l4, .float 0]) (st' := [.int (1 : Int32)]) (h2 := h) rfl rfl (fun C Cr hc kk => x_iconst C (1 : Int32) (by decide) dX11_part_46 (x_goto C 51 dX11_part_47 (by decide) (kk))) ?_
      exact zX_wk (wkK (wkK (wkK (wkK (wkK (wkD wkN)))))) H
    · replace H := H.2 q5
      refine zX_seg (pc' := 51) (L' := [.ref l0, .int l1, .int l2, .int l3, .int l4, .float 0]) (st' := [.int (0 : Int32)]) (h2 := h) rfl rfl (fun C Cr hc kk => x_iconst C (0 : Int32) (by decide) dX11_part_50 (kk)) ?_
      exact zX_wk (wkK (wkK (wkK (wkK (wkK (wkD wkN)))))) H
set_option maxHeartbeats 20000000 in
theorem bX11_part_51 (l0 : Nat) (l1 : Int32) (l2 : Int32) (l3 : Int32) (l4 : Int32) (s0 : Int32) (h : zH) (Q : Option Value → zH → Prop) (H : (s0 = 0 → (zX mX11_part 24 [.ref l0, .int l1, .int l2, .int l3, .int (l4 + 1), .float 0] [] h Q)) ∧ (¬ (s0 = 0) → (oK h l0 11 ∧ (zC mX11_reachedFrom [.ref l0, .int l4] h (fun r0 h3 => ∃ x4 : Int32, r0 = some (.int x4) ∧ ((((x4 >>> (l1 &&& 31)) &&& (1 : Int32)) = (1 : Int32) → (zX mX11_part 24 [.ref l0, .int l1, .int l2, .int (l3 ||| ((1 : Int32) <<< (l4 &&& 31))), .int (l4 + 1), .float 0] [] h3 Q)) ∧ (¬ (((x4 >>> (l1 &&& 31)) &&& (1 : Int32)) = (1 : Int32)) → (zX mX11_part 24 [.ref l0, .int l1, .int l2, .int l3, .int (l4 + 1), .float 0] [] h3 Q)))))))) : zX mX11_part 51 [.ref l0, .int l1, .int l2, .int l3, .int l4, .float 0] [.int s0] h Q := by
  refine zX_seg (pc' := 55) (L' := [.ref l0, .int l1, .int l2, .int l3, .int l4, .int s0]) (st' := [.int s0]) (h2 := h) rfl rfl (fun C Cr hc kk => x_istore C (by decide) dX11_part_51 (x_iload C rfl dX11_part_53 (kk))) ?_
  refine zX_br (p1 := 79) (p2 := 58) (st' := []) (s0 = 0) (fun C kt kf => x_if_eq C 79 dX11_part_55 (by decide) kt kf) (fun q1 => ?_) (fun q1 => ?_)
  · replace H := H.1 q1
    refine zX_seg (pc' := 24) (L' := [.ref l0, .int l1, .int l2, .int l3, .int (l4 + 1), .int s0]) (st' := []) (h2 := h) rfl rfl (fun C Cr hc kk => x_iinc C (l4 + 1) rfl (congrArg (HAdd.hAdd _) (by decide)) (by decide) dX11_part_79 (x_goto C 24 dX11_part_82 (by decide) (kk))) ?_
    exact zX_wk (wkK (wkK (wkK (wkK (wkK (wkD wkN)))))) H
  · replace H := H.2 q1
    refine zX_seg (pc' := 61) (L' := [.ref l0, .int l1, .int l2, .int l3, .int l4, .int s0]) (st' := [.int l4, .ref l0]) (h2 := h) rfl rfl (fun C Cr hc kk => x_aload_n C (v := .ref l0) rfl rfl dX11_part_58 (x_iload C rfl dX11_part_59 (kk))) ?_
    obtain ⟨g2, H⟩ := H
    refine zX_call (as := [.ref l0, .int l4]) (st := []) (fun C hM hc kk => f_callV C [.int l4] hM kX11_reachedFrom vX11_reachedFrom lX11_189 ⟨by decide, by decide⟩ (rfl : vwCl[11]? = some (RX11, TX11, 15)) g2 rfl hc (Nat.le_of_ble_eq_true rfl) rfl dX11_part_61 kk) (zC.mono H ?_)
    rintro r0 h3 ⟨x4, rfl, H⟩
    show zX mX11_part 64 [.ref l0, .int l1, .int l2, .int l3, .int l4, .int s0] [.int x4] h3 Q
    refine zX_seg (pc' := 69) (L' := [.ref l0, .int l1, .int l2, .int l3, .int l4, .int s0]) (st' := [.int (1 : Int32), .int ((x4 >>> (l1 &&& 31)) &&& (1 : Int32))]) (h2 := h3) rfl rfl (fun C Cr hc kk => x_iload_n C rfl dX11_part_64 (x_ishr C dX11_part_65 (x_iconst C (1 : Int32) (by decide) dX11_part_66 (x_iand C dX11_part_67 (x_iconst C (1 : Int32) (by decide) dX11_part_68 (kk)))))) ?_
    refine zX_br (p1 := 72) (p2 := 79) (st' := []) (((x4 >>> (l1 &&& 31)) &&& (1 : Int32)) = (1 : Int32)) (fun C kt kf => x_icmp_ne C 79 dX11_part_69 (by decide) kf kt) (fun q5 => ?_) (fun q5 => ?_)
    · replace H := H.1 q5
      refine zX_seg (pc' := 24) (L' := [.ref l0, .int l1, .int l2, .int (l3 ||| ((1 : Int32) <<< (l4 &&& 31))), .int (l4 + 1), .int s0]) (st' := []) (h2 := h3) rfl rfl (fun C Cr hc kk => x_iload_n C rfl dX11_part_72 (x_iconst C (1 : Int32) (by decide) dX11_part_73 (x_iload C rfl dX11_part_74 (x_ishl C dX11_part_76 (x_ior C dX11_part_77 (x_istore_n C (by decide) dX11_part_78 (x_iinc C (l4 + 1) rfl (congrArg (HAdd.hAdd _) (by decide)) (by decide) dX11_part_79 (x_goto C 24 dX11_part_82 (by decide) (kk))))))))) ?_
      exact zX_wk (wkK (wkK (wkK (wkK (wkK (wkD wkN)))))) H
    · replace H := H.2 q5
      refine zX_seg (pc' := 24) (L' := [.ref l0, .int l1, .int l2, .int l3, .int (l4 + 1), .int s0]) (st' := []) (h2 := h3) rfl rfl (fun C Cr hc kk => x_iinc C (l4 + 1) rfl (congrArg (HAdd.hAdd _) (by decide)) (by decide) dX11_part_79 (x_goto C 24 dX11_part_82 (by decide) (kk))) ?_
      exact zX_wk (wkK (wkK (wkK (wkK (wkK (wkD wkN)))))) H
theorem nX11_part (t : Nat) (p0 : Int32) (h : zH) (Q : Option Value → zH → Prop) (H : zX mX11_part 0 [.ref t, .int p0, .float 0, .float 0, .float 0, .float 0] [] h Q) : zC mX11_part [.ref t, .int p0] h Q := zC_of (by decide +kernel) (by simp) (Nat.le_of_ble_eq_true rfl) H
set_option maxHeartbeats 20000000 in
theorem bX11_telling_0 (t : Nat) (h : zH) (Q : Option Value → zH → Prop) (H : oK h t 11 ∧ (∃ a2 : Nat, gR h t 3 = some a2 ∧ (∃ a3 : Nat, gR h t 10 = some a3 ∧ (∃ a4 : Nat, gR h t 8 = some a4 ∧ (oK h a2 5 ∧ (zC mX5_refresh [.ref a2, .ref a3, .ref a4] h (fun r0 h6 => r0 = none ∧ (oK h6 t 11 ∧ (∃ a8 : Nat, gR h6 t 3 = some a8 ∧ (∃ a9 : Nat, gR h6 t 10 = some a9 ∧ (oK h6 a8 5 ∧ (zC mX5_leastUnkept [.ref a8, .ref a9] h6 (fun r0 h11 => ∃ x12 : Int32, r0 = some (.int x12) ∧ (Q (some (.int x12)) h11)))))))))))))) : zX mX11_telling 0 [.ref t] [] h Q := by
  obtain ⟨g1, H⟩ := H
  obtain ⟨a2, ea2, H⟩ := H
  obtain ⟨a3, ea3, H⟩ := H
  obtain ⟨a4, ea4, H⟩ := H
  refine zX_seg (pc' := 12) (L' := [.ref t]) (st' := [.ref a4, .ref a3, .ref a2]) (h2 := h) rfl rfl (fun C Cr hc kk => x_aload_n C (v := .ref t) rfl rfl dX11_telling_0 (f_getR1 C lX11_31 g1 rfl ea2 dX11_telling_1 (x_aload_n C (v := .ref t) rfl rfl dX11_telling_4 (f_getR1 C lX11_74 g1 rfl ea3 dX11_telling_5 (x_aload_n C (v := .ref t) rfl rfl dX11_telling_8 (f_getR1 C lX11_66 g1 rfl ea4 dX11_telling_9 (kk))))))) ?_
  obtain ⟨g5, H⟩ := H
  refine zX_call (as := [.ref a2, .ref a3, .ref a4]) (st := []) (fun C hM hc kk => f_callVN C [.ref a3, .ref a4] hM kX5_refresh vX5_refresh lX11_149 ⟨by decide, by decide⟩ (rfl : vwCl[5]? = some (RX5, TX5, 9)) g5 rfl hc (Nat.le_of_ble_eq_true rfl) rfl dX11_telling_12 kk) (zC.mono H ?_)
  rintro r0 h6 ⟨rfl, H⟩
  show zX mX11_telling 15 [.ref t] [] h6 Q
  obtain ⟨g7, H⟩ := H
  obtain ⟨a8, ea8, H⟩ := H
  obtain ⟨a9, ea9, H⟩ := H
  refine zX_seg (pc' := 23) (L' := [.ref t]) (st' := [.ref a9, .ref a8]) (h2 := h6) rfl rfl (fun C Cr hc kk => x_aload_n C (v := .ref t) rfl rfl dX11_telling_15 (f_getR1 C lX11_31 g7 rfl ea8 dX11_telling_16 (x_aload_n C (v := .ref t) rfl rfl dX11_telling_19 (f_getR1 C lX11_74 g7 rfl ea9 dX11_telling_20 (kk))))) ?_
  obtain ⟨g10, H⟩ := H
  refine zX_call (as := [.ref a8, .ref a9]) (st := []) (fun C hM hc kk => f_callVN C [.ref a9] hM kX5_leastUnkept vX5_leastUnkept lX11_192 ⟨by decide, by decide⟩ (rfl : vwCl[5]? = some (RX5, TX5, 9)) g10 rfl hc (Nat.le_of_ble_eq_true rfl) rfl dX11_telling_23 kk) (zC.mono H ?_)
  rintro r0 h11 ⟨x12, rfl, H⟩
  show zX mX11_telling 26 [.ref t] [.int x12] h11 Q
  exact zX_ret (some (.int x12)) (fun C Cr hc => x_iret C Cr rfl rfl hc dX11_telling_26 ⟨rfl, rfl⟩) H
theorem nX11_telling (t : Nat) (h : zH) (Q : Option Value → zH → Prop) (H : zX mX11_telling 0 [.ref t] [] h Q) : zC mX11_telling [.ref t] h Q := zC_of (by decide +kernel) (by simp) (Nat.le_of_ble_eq_true rfl) H
set_option maxHeartbeats 20000000 in
theorem bX11_mark_0 (t : Nat) (p0 : Int32) (p1 : Int32) (h : zH) (Q : Option Value → zH → Prop) (H : oK h t 11 ∧ (∃ a2 : Nat, gR h t 10 = some a2 ∧ (oK h a2 10 ∧ (zC mX10_hasVoter [.ref a2, .int p0] h (fun r0 h4 => ∃ x5 : Int32, r0 = some (.int x5) ∧ ((x5 = 0 → (Q (some (.int (0 : Int32))) h4)) ∧ (¬ (x5 = 0) → (oK h4 t 11 ∧ (∃ a8 : Nat, gR h4 t 10 = some a8 ∧ (oK h4 a8 10 ∧ (zC mX10_hasMark [.ref a8, .int p1] h4 (fun r0 h10 => ∃ x11 : Int32, r0 = some (.int x11) ∧ ((x11 = 0 → (Q (some (.int (0 : Int32))) h10)) ∧ (¬ (x11 = 0) → (oK h10 t 11 ∧ (∃ a14 : Nat, gR h10 t 8 = some a14 ∧ (∃ a15 : Nat, gR h10 t 10 = some a15 ∧ (oK h10 a14 1 ∧ (oK h10 a15 10 ∧ (zC mX10_withMark [.ref a15, .int (gI h10 a14 3), .int p0, .int p1] h10 (fun r0 h18 => ∃ x19 : Int32, r0 = some (.int x19) ∧ (oK h18 a14 1 ∧ (∀ h21 : zH, h21 = (pF h18 a14 3 (.int x19)) → (Q (some (.int (1 : Int32))) h21)))))))))))))))))))))))) : zX mX11_mark 0 [.ref t, .int p0, .int p1] [] h Q := by
  obtain ⟨g1, H⟩ := H
  obtain ⟨a2, ea2, H⟩ := H
  refine zX_seg (pc' := 5) (L' := [.ref t, .int p0, .int p1]) (st' := [.int p0, .ref a2]) (h2 := h) rfl rfl (fun C Cr hc kk => x_aload_n C (v := .ref t) rfl rfl dX11_mark_0 (f_getR1 C lX11_74 g1 rfl ea2 dX11_mark_1 (x_iload_n C rfl dX11_mark_4 (kk)))) ?_
  obtain ⟨g3, H⟩ := H
  refine zX_call (as := [.ref a2, .int p0]) (st := []) (fun C hM hc kk => f_callVN C [.int p0] hM kX10_hasVoter vX10_hasVoter lX11_118 ⟨by decide, by decide⟩ (rfl : vwCl[10]? = some (RX10, TX10, 10)) g3 rfl hc (Nat.le_of_ble_eq_true rfl) rfl dX11_mark_5 kk) (zC.mono H ?_)
  rintro r0 h4 ⟨x5, rfl, H⟩
  show zX mX11_mark 8 [.ref t, .int p0, .int p1] [.int x5] h4 Q
  refine zX_br (p1 := 22) (p2 := 11) (st' := []) (x5 = 0) (fun C kt kf => x_if_eq C 22 dX11_mark_8 (by decide) kt kf) (fun q6 => ?_) (fun q6 => ?_)
  · replace H := H.1 q6
    refine zX_seg (pc' := 23) (L' := [.ref t, .int p0, .int p1]) (st' := [.int (0 : Int32)]) (h2 := h4) rfl rfl (fun C Cr hc kk => x_iconst C (0 : Int32) (by decide) dX11_mark_22 (kk)) ?_
    exact zX_ret (some (.int (0 : Int32))) (fun C Cr hc => x_iret C Cr rfl rfl hc dX11_mark_23 ⟨rfl, rfl⟩) H
  · replace H := H.2 q6
    obtain ⟨g7, H⟩ := H
    obtain ⟨a8, ea8, H⟩ := H
    refine zX_seg (pc' := 16) (L' := [.ref t, .int p0, .int p1]) (st' := [.int p1, .ref a8]) (h2 := h4) rfl rfl (fun C Cr hc kk => x_aload_n C (v := .ref t) rfl rfl dX11_mark_11 (f_getR1 C lX11_74 g7 rfl ea8 dX11_mark_12 (x_iload_n C rfl dX11_mark_15 (kk)))) ?_
    obtain ⟨g9, H⟩ := H
    refine zX_call (as := [.ref a8, .int p1]) (st := []) (fun C hM hc kk => f_callVN C [.int p1] hM kX10_hasMark vX10_hasMark lX11_196 ⟨by decide, by decide⟩ (rfl : vwCl[10]? = some (RX10, TX10, 10)) g9 rfl hc (Nat.le_of_ble_eq_true rfl) rfl dX11_mark_16 kk) (zC.mono H ?_)
    rintro r0 h10 ⟨x11, rfl, H⟩
    show zX mX11_mark 19 [.ref t, .int p0, .int p1] [.int x11] h10 Q
    refine zX_br (p1 := 22) (p2 := 24) (st' := []) (x11 = 0) (fun C kt kf => x_if_ne C 24 dX11_mark_19 (by decide) kf kt) (fun q12 => ?_) (fun q12 => ?_)
    · replace H := H.1 q12
      refine zX_seg (pc' := 23) (L' := [.ref t, .int p0, .int p1]) (st' := [.int (0 : Int32)]) (h2 := h10) rfl rfl (fun C Cr hc kk => x_iconst C (0 : Int32) (by decide) dX11_mark_22 (kk)) ?_
      exact zX_ret (some (.int (0 : Int32))) (fun C Cr hc => x_iret C Cr rfl rfl hc dX11_mark_23 ⟨rfl, rfl⟩) H
    · replace H := H.2 q12
      obtain ⟨g13, H⟩ := H
      obtain ⟨a14, ea14, H⟩ := H
      obtain ⟨a15, ea15, H⟩ := H
      obtain ⟨g16, H⟩ := H
      refine zX_seg (pc' := 41) (L' := [.ref t, .int p0, .int p1]) (st' := [.int p1, .int p0, .int (gI h10 a14 3), .ref a15, .ref a14]) (h2 := h10) rfl rfl (fun C Cr hc kk => x_aload_n C (v := .ref t) rfl rfl dX11_mark_24 (f_getR1 C lX11_66 g13 rfl ea14 dX11_mark_25 (x_aload_n C (v := .ref t) rfl rfl dX11_mark_28 (f_getR1 C lX11_74 g13 rfl ea15 dX11_mark_29 (x_aload_n C (v := .ref t) rfl rfl dX11_mark_32 (f_getR1 C lX11_66 g13 rfl ea14 dX11_mark_33 (f_getIN C lX11_178 g16 rfl dX11_mark_36 (x_iload_n C rfl dX11_mark_39 (x_iload_n C rfl dX11_mark_40 (kk)))))))))) ?_
      obtain ⟨g17, H⟩ := H
      refine zX_call (as := [.ref a15, .int (gI h10 a14 3), .int p0, .int p1]) (st := [.ref a14]) (fun C hM hc kk => f_callVN C [.int (gI h10 a14 3), .int p0, .int p1] hM kX10_withMark vX10_withMark lX11_199 ⟨by decide, by decide⟩ (rfl : vwCl[10]? = some (RX10, TX10, 10)) g17 rfl hc (Nat.le_of_ble_eq_true rfl) rfl dX11_mark_41 kk) (zC.mono H ?_)
      rintro r0 h18 ⟨x19, rfl, H⟩
      show zX mX11_mark 44 [.ref t, .int p0, .int p1] [.int x19, .ref a14] h18 Q
      obtain ⟨g20, H⟩ := H
      refine zX_seg (pc' := 47) (L' := [.ref t, .int p0, .int p1]) (st' := []) (h2 := (pF h18 a14 3 (.int x19))) rfl rfl (fun C Cr hc kk => f_putIN C lX11_178 tX1 nX1_3 g20 rfl rfl dX11_mark_44 (kk)) ?_
      obtain ⟨h21, eh21⟩ : ∃ y : zH, y = (pF h18 a14 3 (.int x19)) := ⟨_, rfl⟩
      replace H := H h21 eh21
      rw [← eh21]
      have g22 : oK h21 a14 1 := by rw [eh21]; exact oK_pF' g20 rfl rfl g20
      refine zX_seg (pc' := 48) (L' := [.ref t, .int p0, .int p1]) (st' := [.int (1 : Int32)]) (h2 := h21) rfl rfl (fun C Cr hc kk => x_iconst C (1 : Int32) (by decide) dX11_mark_47 (kk)) ?_
      exact zX_ret (some (.int (1 : Int32))) (fun C Cr hc => x_iret C Cr rfl rfl hc dX11_mark_48 ⟨rfl, rfl⟩) H
theorem nX11_mark (t : Nat) (p0 : Int32) (p1 : Int32) (h : zH) (Q : Option Value → zH → Prop) (H : zX mX11_mark 0 [.ref t, .int p0, .int p1] [] h Q) : zC mX11_mark [.ref t, .int p0, .int p1] h Q := zC_of (by decide +kernel) (by simp) (Nat.le_of_ble_eq_true rfl) H
set_option maxHeartbeats 20000000 in
theorem bX11_open_0 (t : Nat) (p0 : Int32) (h : zH) (Q : Option Value → zH → Prop) (H : oK h t 11 ∧ (∃ a2 : Nat, gR h t 10 = some a2 ∧ (oK h a2 10 ∧ (zC mX10_hasVoter [.ref a2, .int p0] h (fun r0 h4 => ∃ x5 : Int32, r0 = some (.int x5) ∧ ((x5 = 0 → (Q (some (.int (-1 : Int32))) h4)) ∧ (¬ (x5 = 0) → (oK h4 t 11 ∧ (∃ a8 : Nat, gR h4 t 2 = some a8 ∧ (∃ a9 : Nat, gR h4 t 8 = some a9 ∧ (oK h4 a9 1 ∧ (zC mX1_ballotOf [.ref a9, .int p0] h4 (fun r0 h11 => ∃ x12 : Option Nat, r0 = some (zr x12) ∧ (∃ a13 : Nat, x12 = some a13 ∧ (oK h11 t 11 ∧ (∃ a15 : Nat, gR h11 t 8 = some a15 ∧ (oK h11 a15 1 ∧ (∃ a17 : Nat, gR h11 t 10 = some a17 ∧ (oK h11 a8 6 ∧ (zC mX6_hear [.ref a8, .ref a13, .int p0, .int (gI h11 a15 3), .ref a17] h11 (fun r0 h19 => ∃ x20 : Int32, r0 = some (.int x20) ∧ (oK h19 t 11 ∧ (∃ a22 : Nat, gR h19 t 8 = some a22 ∧ (∃ a23 : Nat, gR h19 t 10 = some a23 ∧ (oK h19 a22 1 ∧ (oK h19 a23 10 ∧ (zC mX10_withMark [.ref a23, .int (gI h19 a22 3), .int p0, .int x20] h19 (fun r0 h26 => ∃ x27 : Int32, r0 = some (.int x27) ∧ (oK h26 a22 1 ∧ (∀ h29 : zH, h29 = (pF h26 a22 3 (.int x27)) → (Q (some (.int x20)) h29))))))))))))))))))))))))))))))) : zX mX11_open 0 [.ref t, .int p0, .float 0] [] h Q := by
  obtain ⟨g1, H⟩ := H
  obtain ⟨a2, ea2, H⟩ := H
  refine zX_seg (pc' := 5) (L' := [.ref t, .int p0, .float 0]) (st' := [.int p0, .ref a2]) (h2 := h) rfl rfl (fun C Cr hc kk => x_aload_n C (v := .ref t) rfl rfl dX11_open_0 (f_getR1 C lX11_74 g1 rfl ea2 dX11_open_1 (x_iload_n C rfl dX11_open_4 (kk)))) ?_
  obtain ⟨g3, H⟩ := H
  refine zX_call (as := [.ref a2, .int p0]) (st := []) (fun C hM hc kk => f_callVN C [.int p0] hM kX10_hasVoter vX10_hasVoter lX11_118 ⟨by decide, by decide⟩ (rfl : vwCl[10]? = some (RX10, TX10, 10)) g3 rfl hc (Nat.le_of_ble_eq_true rfl) rfl dX11_open_5 kk) (zC.mono H ?_)
  rintro r0 h4 ⟨x5, rfl, H⟩
  show zX mX11_open 8 [.ref t, .int p0, .float 0] [.int x5] h4 Q
  refine zX_br (p1 := 11) (p2 := 13) (st' := []) (x5 = 0) (fun C kt kf => x_if_ne C 13 dX11_open_8 (by decide) kf kt) (fun q6 => ?_) (fun q6 => ?_)
  · replace H := H.1 q6
    refine zX_seg (pc' := 12) (L' := [.ref t, .int p0, .float 0]) (st' := [.int (-1 : Int32)]) (h2 := h4) rfl rfl (fun C Cr hc kk => x_iconst C (-1 : Int32) (by decide) dX11_open_11 (kk)) ?_
    exact zX_ret (some (.int (-1 : Int32))) (fun C Cr hc => x_iret C Cr rfl rfl hc dX11_open_12 ⟨rfl, rfl⟩) H
  · replace H := H.2 q6
    obtain ⟨g7, H⟩ := H
    obtain ⟨a8, ea8, H⟩ := H
    obtain ⟨a9, ea9, H⟩ := H
    refine zX_seg (pc' := 22) (L' := [.ref t, .int p0, .float 0]) (st' := [.int p0, .ref a9, .ref a8]) (h2 := h4) rfl rfl (fun C Cr hc kk => x_aload_n C (v := .ref t) rfl rfl dX11_open_13 (f_getR1 C lX11_24 g7 rfl ea8 dX11_open_14 (x_aload_n C (v := .ref t) rfl rfl dX11_open_17 (f_getR1 C lX11_66 g7 rfl ea9 dX11_open_18 (x_iload_n C rfl dX11_open_21 (kk)))))) ?_
    obtain ⟨g10, H⟩ := H
    refine zX_call (as := [.ref a9, .int p0]) (st := [.ref a8]) (fun C hM hc kk => f_callVN C [.int p0] hM kX1_ballotOf vX1_ballotOf lX11_126 ⟨by decide, by decide⟩ (rfl : vwCl[1]? = some (RX1, TX1, 5)) g10 rfl hc (Nat.le_of_ble_eq_true rfl) rfl dX11_open_22 kk) (zC.mono H ?_)
    rintro r0 h11 ⟨x12, rfl, H⟩
    show zX mX11_open 25 [.ref t, .int p0, .float 0] [zr x12, .ref a8] h11 Q
    obtain ⟨a13, rfl, H⟩ := H
    obtain ⟨g14, H⟩ := H
    obtain ⟨a15, ea15, H⟩ := H
    obtain ⟨g16, H⟩ := H
    obtain ⟨a17, ea17, H⟩ := H
    refine zX_seg (pc' := 37) (L' := [.ref t, .int p0, .float 0]) (st' := [.ref a17, .int (gI h11 a15 3), .int p0, .ref a13, .ref a8]) (h2 := h11) rfl rfl (fun C Cr hc kk => x_iload_n C rfl dX11_open_25 (x_aload_n C (v := .ref t) rfl rfl dX11_open_26 (f_getR1 C lX11_66 g14 rfl ea15 dX11_open_27 (f_getIN C lX11_178 g16 rfl dX11_open_30 (x_aload_n C (v := .ref t) rfl rfl dX11_open_33 (f_getR1 C lX11_74 g14 rfl ea17 dX11_open_34 (kk))))))) ?_
    obtain ⟨g18, H⟩ := H
    refine zX_call (as := [.ref a8, .ref a13, .int p0, .int (gI h11 a15 3), .ref a17]) (st := []) (fun C hM hc kk => f_callVN C [.ref a13, .int p0, .int (gI h11 a15 3), .ref a17] hM kX6_hear vX6_hear lX11_181 ⟨by decide, by decide⟩ (rfl : vwCl[6]? = some (RX6, TX6, 2)) g18 rfl hc (Nat.le_of_ble_eq_true rfl) rfl dX11_open_37 kk) (zC.mono H ?_)
    rintro r0 h19 ⟨x20, rfl, H⟩
    show zX mX11_open 40 [.ref t, .int p0, .float 0] [.int x20] h19 Q
    obtain ⟨g21, H⟩ := H
    obtain ⟨a22, ea22, H⟩ := H
    obtain ⟨a23, ea23, H⟩ := H
    obtain ⟨g24, H⟩ := H
    refine zX_seg (pc' := 58) (L' := [.ref t, .int p0, .int x20]) (st' := [.int x20, .int p0, .int (gI h19 a22 3), .ref a23, .ref a22]) (h2 := h19) rfl rfl (fun C Cr hc kk => x_istore_n C (by decide) dX11_open_40 (x_aload_n C (v := .ref t) rfl rfl dX11_open_41 (f_getR1 C lX11_66 g21 rfl ea22 dX11_open_42 (x_aload_n C (v := .ref t) rfl rfl dX11_open_45 (f_getR1 C lX11_74 g21 rfl ea23 dX11_open_46 (x_aload_n C (v := .ref t) rfl rfl dX11_open_49 (f_getR1 C lX11_66 g21 rfl ea22 dX11_open_50 (f_getIN C lX11_178 g24 rfl dX11_open_53 (x_iload_n C rfl dX11_open_56 (x_iload_n C rfl dX11_open_57 (kk))))))))))) ?_
    obtain ⟨g25, H⟩ := H
    refine zX_call (as := [.ref a23, .int (gI h19 a22 3), .int p0, .int x20]) (st := [.ref a22]) (fun C hM hc kk => f_callVN C [.int (gI h19 a22 3), .int p0, .int x20] hM kX10_withMark vX10_withMark lX11_199 ⟨by decide, by decide⟩ (rfl : vwCl[10]? = some (RX10, TX10, 10)) g25 rfl hc (Nat.le_of_ble_eq_true rfl) rfl dX11_open_58 kk) (zC.mono H ?_)
    rintro r0 h26 ⟨x27, rfl, H⟩
    show zX mX11_open 61 [.ref t, .int p0, .int x20] [.int x27, .ref a22] h26 Q
    obtain ⟨g28, H⟩ := H
    refine zX_seg (pc' := 64) (L' := [.ref t, .int p0, .int x20]) (st' := []) (h2 := (pF h26 a22 3 (.int x27))) rfl rfl (fun C Cr hc kk => f_putIN C lX11_178 tX1 nX1_3 g28 rfl rfl dX11_open_61 (kk)) ?_
    obtain ⟨h29, eh29⟩ : ∃ y : zH, y = (pF h26 a22 3 (.int x27)) := ⟨_, rfl⟩
    replace H := H h29 eh29
    rw [← eh29]
    have g30 : oK h29 a22 1 := by rw [eh29]; exact oK_pF' g28 rfl rfl g28
    refine zX_seg (pc' := 65) (L' := [.ref t, .int p0, .int x20]) (st' := [.int x20]) (h2 := h29) rfl rfl (fun C Cr hc kk => x_iload_n C rfl dX11_open_64 (kk)) ?_
    exact zX_ret (some (.int x20)) (fun C Cr hc => x_iret C Cr rfl rfl hc dX11_open_65 ⟨rfl, rfl⟩) H
theorem nX11_open (t : Nat) (p0 : Int32) (h : zH) (Q : Option Value → zH → Prop) (H : zX mX11_open 0 [.ref t, .int p0, .float 0] [] h Q) : zC mX11_open [.ref t, .int p0] h Q := zC_of (by decide +kernel) (by simp) (Nat.le_of_ble_eq_true rfl) H
set_option maxHeartbeats 20000000 in
theorem bX11_has_0 (t : Nat) (p0 : Int32) (h : zH) (Q : Option Value → zH → Prop) (H : oK h t 11 ∧ (∃ a2 : Nat, gR h t 10 = some a2 ∧ (oK h a2 10 ∧ (zC mX10_hasVoter [.ref a2, .int p0] h (fun r0 h4 => ∃ x5 : Int32, r0 = some (.int x5) ∧ ((x5 = 0 → (Q (some (.int (-1 : Int32))) h4)) ∧ (¬ (x5 = 0) → (oK h4 t 11 ∧ (∃ a8 : Nat, gR h4 t 10 = some a8 ∧ (∃ a9 : Nat, gR h4 t 8 = some a9 ∧ (oK h4 a9 1 ∧ (oK h4 a8 10 ∧ (zC mX10_markOf [.ref a8, .int (gI h4 a9 3), .int p0] h4 (fun r0 h12 => ∃ x13 : Int32, r0 = some (.int x13) ∧ (Q (some (.int x13)) h12))))))))))))))) : zX mX11_has 0 [.ref t, .int p0] [] h Q := by
  obtain ⟨g1, H⟩ := H
  obtain ⟨a2, ea2, H⟩ := H
  refine zX_seg (pc' := 5) (L' := [.ref t, .int p0]) (st' := [.int p0, .ref a2]) (h2 := h) rfl rfl (fun C Cr hc kk => x_aload_n C (v := .ref t) rfl rfl dX11_has_0 (f_getR1 C lX11_74 g1 rfl ea2 dX11_has_1 (x_iload_n C rfl dX11_has_4 (kk)))) ?_
  obtain ⟨g3, H⟩ := H
  refine zX_call (as := [.ref a2, .int p0]) (st := []) (fun C hM hc kk => f_callVN C [.int p0] hM kX10_hasVoter vX10_hasVoter lX11_118 ⟨by decide, by decide⟩ (rfl : vwCl[10]? = some (RX10, TX10, 10)) g3 rfl hc (Nat.le_of_ble_eq_true rfl) rfl dX11_has_5 kk) (zC.mono H ?_)
  rintro r0 h4 ⟨x5, rfl, H⟩
  show zX mX11_has 8 [.ref t, .int p0] [.int x5] h4 Q
  refine zX_br (p1 := 29) (p2 := 11) (st' := []) (x5 = 0) (fun C kt kf => x_if_eq C 29 dX11_has_8 (by decide) kt kf) (fun q6 => ?_) (fun q6 => ?_)
  · replace H := H.1 q6
    refine zX_seg (pc' := 30) (L' := [.ref t, .int p0]) (st' := [.int (-1 : Int32)]) (h2 := h4) rfl rfl (fun C Cr hc kk => x_iconst C (-1 : Int32) (by decide) dX11_has_29 (kk)) ?_
    exact zX_ret (some (.int (-1 : Int32))) (fun C Cr hc => x_iret C Cr rfl rfl hc dX11_has_30 ⟨rfl, rfl⟩) H
  · replace H := H.2 q6
    obtain ⟨g7, H⟩ := H
    obtain ⟨a8, ea8, H⟩ := H
    obtain ⟨a9, ea9, H⟩ := H
    obtain ⟨g10, H⟩ := H
    refine zX_seg (pc' := 23) (L' := [.ref t, .int p0]) (st' := [.int p0, .int (gI h4 a9 3), .ref a8]) (h2 := h4) rfl rfl (fun C Cr hc kk => x_aload_n C (v := .ref t) rfl rfl dX11_has_11 (f_getR1 C lX11_74 g7 rfl ea8 dX11_has_12 (x_aload_n C (v := .ref t) rfl rfl dX11_has_15 (f_getR1 C lX11_66 g7 rfl ea9 dX11_has_16 (f_getIN C lX11_178 g10 rfl dX11_has_19 (x_iload_n C rfl dX11_has_22 (kk))))))) ?_
    obtain ⟨g11, H⟩ := H
    refine zX_call (as := [.ref a8, .int (gI h4 a9 3), .int p0]) (st := []) (fun C hM hc kk => f_callVN C [.int (gI h4 a9 3), .int p0] hM kX10_markOf vX10_markOf lX11_167 ⟨by decide, by decide⟩ (rfl : vwCl[10]? = some (RX10, TX10, 10)) g11 rfl hc (Nat.le_of_ble_eq_true rfl) rfl dX11_has_23 kk) (zC.mono H ?_)
    rintro r0 h12 ⟨x13, rfl, H⟩
    show zX mX11_has 26 [.ref t, .int p0] [.int x13] h12 Q
    refine zX_seg (pc' := 30) (L' := [.ref t, .int p0]) (st' := [.int x13]) (h2 := h12) rfl rfl (fun C Cr hc kk => x_goto C 30 dX11_has_26 (by decide) (kk)) ?_
    exact zX_ret (some (.int x13)) (fun C Cr hc => x_iret C Cr rfl rfl hc dX11_has_30 ⟨rfl, rfl⟩) H
theorem nX11_has (t : Nat) (p0 : Int32) (h : zH) (Q : Option Value → zH → Prop) (H : zX mX11_has 0 [.ref t, .int p0] [] h Q) : zC mX11_has [.ref t, .int p0] h Q := zC_of (by decide +kernel) (by simp) (Nat.le_of_ble_eq_true rfl) H
set_option maxHeartbeats 20000000 in
theorem bX11_judge_0 (t : Nat) (h : zH) (Q : Option Value → zH → Prop) (H : oK h t 11 ∧ (∃ a2 : Nat, gR h t 2 = some a2 ∧ (∃ a3 : Nat, gR h t 8 = some a3 ∧ (∃ a4 : Nat, gR h t 10 = some a4 ∧ (oK h a4 10 ∧ (oK h a3 1 ∧ (oK h a2 6 ∧ (zC mX6_firstBroken [.ref a2, .ref a3, .int (gI h a4 8), .int (gI h a3 3), .ref a4] h (fun r0 h8 => ∃ x9 : Int32, r0 = some (.int x9) ∧ (Q (some (.int x9)) h8)))))))))) : zX mX11_judge 0 [.ref t] [] h Q := by
  obtain ⟨g1, H⟩ := H
  obtain ⟨a2, ea2, H⟩ := H
  obtain ⟨a3, ea3, H⟩ := H
  obtain ⟨a4, ea4, H⟩ := H
  obtain ⟨g5, H⟩ := H
  obtain ⟨g6, H⟩ := H
  refine zX_seg (pc' := 26) (L' := [.ref t]) (st' := [.ref a4, .int (gI h a3 3), .int (gI h a4 8), .ref a3, .ref a2]) (h2 := h) rfl rfl (fun C Cr hc kk => x_aload_n C (v := .ref t) rfl rfl dX11_judge_0 (f_getR1 C lX11_24 g1 rfl ea2 dX11_judge_1 (x_aload_n C (v := .ref t) rfl rfl dX11_judge_4 (f_getR1 C lX11_66 g1 rfl ea3 dX11_judge_5 (x_aload_n C (v := .ref t) rfl rfl dX11_judge_8 (f_getR1 C lX11_74 g1 rfl ea4 dX11_judge_9 (f_getIN C lX11_115 g5 rfl dX11_judge_12 (x_aload_n C (v := .ref t) rfl rfl dX11_judge_15 (f_getR1 C lX11_66 g1 rfl ea3 dX11_judge_16 (f_getIN C lX11_178 g6 rfl dX11_judge_19 (x_aload_n C (v := .ref t) rfl rfl dX11_judge_22 (f_getR1 C lX11_74 g1 rfl ea4 dX11_judge_23 (kk))))))))))))) ?_
  obtain ⟨g7, H⟩ := H
  refine zX_call (as := [.ref a2, .ref a3, .int (gI h a4 8), .int (gI h a3 3), .ref a4]) (st := []) (fun C hM hc kk => f_callVN C [.ref a3, .int (gI h a4 8), .int (gI h a3 3), .ref a4] hM kX6_firstBroken vX6_firstBroken lX11_203 ⟨by decide, by decide⟩ (rfl : vwCl[6]? = some (RX6, TX6, 2)) g7 rfl hc (Nat.le_of_ble_eq_true rfl) rfl dX11_judge_26 kk) (zC.mono H ?_)
  rintro r0 h8 ⟨x9, rfl, H⟩
  show zX mX11_judge 29 [.ref t] [.int x9] h8 Q
  exact zX_ret (some (.int x9)) (fun C Cr hc => x_iret C Cr rfl rfl hc dX11_judge_29 ⟨rfl, rfl⟩) H
theorem nX11_judge (t : Nat) (h : zH) (Q : Option Value → zH → Prop) (H : zX mX11_judge 0 [.ref t] [] h Q) : zC mX11_judge [.ref t] h Q := zC_of (by decide +kernel) (by simp) (Nat.le_of_ble_eq_true rfl) H
set_option maxHeartbeats 20000000 in
theorem bX11_rest_0 (t : Nat) (p0 : Int32) (h : zH) (Q : Option Value → zH → Prop) (H : oK h t 11 ∧ (∃ a2 : Nat, gR h t 4 = some a2 ∧ (∃ a3 : Nat, gR h t 10 = some a3 ∧ (oK h a3 10 ∧ (oK h a2 3 ∧ (zC mX3_take [.ref a2, .int p0, .int (gI h a3 8)] h (fun r0 h6 => ∃ x7 : Int32, r0 = some (.int x7) ∧ ((x7 = 0 → (Q (some (.int (-2 : Int32))) h6)) ∧ (¬ (x7 = 0) → (oK h6 t 11 ∧ (∃ a10 : Nat, gR h6 t 3 = some a10 ∧ (∃ a11 : Nat, gR h6 t 10 = some a11 ∧ (∃ a12 : Nat, gR h6 t 8 = some a12 ∧ (oK h6 a10 5 ∧ (zC mX5_refresh [.ref a10, .ref a11, .ref a12] h6 (fun r0 h14 => r0 = none ∧ (oK h14 t 11 ∧ (∃ a16 : Nat, gR h14 t 4 = some a16 ∧ (∃ a17 : Nat, gR h14 t 3 = some a17 ∧ (oK h14 a17 5 ∧ (∃ a19 : Nat, gR h14 a17 2 = some a19 ∧ (oK h14 a16 3 ∧ (zC mX3_roundsToRest [.ref a16, .ref a19, .int (40 : Int32)] h14 (fun r0 h21 => ∃ x22 : Int32, r0 = some (.int x22) ∧ (Q (some (.int x22)) h21))))))))))))))))))))))))) : zX mX11_rest 0 [.ref t, .int p0] [] h Q := by
  obtain ⟨g1, H⟩ := H
  obtain ⟨a2, ea2, H⟩ := H
  obtain ⟨a3, ea3, H⟩ := H
  obtain ⟨g4, H⟩ := H
  refine zX_seg (pc' := 12) (L' := [.ref t, .int p0]) (st' := [.int (gI h a3 8), .int p0, .ref a2]) (h2 := h) rfl rfl (fun C Cr hc kk => x_aload_n C (v := .ref t) rfl rfl dX11_rest_0 (f_getR1 C lX11_38 g1 rfl ea2 dX11_rest_1 (x_iload_n C rfl dX11_rest_4 (x_aload_n C (v := .ref t) rfl rfl dX11_rest_5 (f_getR1 C lX11_74 g1 rfl ea3 dX11_rest_6 (f_getIN C lX11_115 g4 rfl dX11_rest_9 (kk))))))) ?_
  obtain ⟨g5, H⟩ := H
  refine zX_call (as := [.ref a2, .int p0, .int (gI h a3 8)]) (st := []) (fun C hM hc kk => f_callVN C [.int p0, .int (gI h a3 8)] hM kX3_take vX3_take lX11_207 ⟨by decide, by decide⟩ (rfl : vwCl[3]? = some (RX3, TX3, 5)) g5 rfl hc (Nat.le_of_ble_eq_true rfl) rfl dX11_rest_12 kk) (zC.mono H ?_)
  rintro r0 h6 ⟨x7, rfl, H⟩
  show zX mX11_rest 15 [.ref t, .int p0] [.int x7] h6 Q
  refine zX_br (p1 := 18) (p2 := 21) (st' := []) (x7 = 0) (fun C kt kf => x_if_ne C 21 dX11_rest_15 (by decide) kf kt) (fun q8 => ?_) (fun q8 => ?_)
  · replace H := H.1 q8
    refine zX_seg (pc' := 20) (L' := [.ref t, .int p0]) (st' := [.int (-2 : Int32)]) (h2 := h6) rfl rfl (fun C Cr hc kk => x_bipush C (-2 : Int32) (by decide) dX11_rest_18 (kk)) ?_
    exact zX_ret (some (.int (-2 : Int32))) (fun C Cr hc => x_iret C Cr rfl rfl hc dX11_rest_20 ⟨rfl, rfl⟩) H
  · replace H := H.2 q8
    obtain ⟨g9, H⟩ := H
    obtain ⟨a10, ea10, H⟩ := H
    obtain ⟨a11, ea11, H⟩ := H
    obtain ⟨a12, ea12, H⟩ := H
    refine zX_seg (pc' := 33) (L' := [.ref t, .int p0]) (st' := [.ref a12, .ref a11, .ref a10]) (h2 := h6) rfl rfl (fun C Cr hc kk => x_aload_n C (v := .ref t) rfl rfl dX11_rest_21 (f_getR1 C lX11_31 g9 rfl ea10 dX11_rest_22 (x_aload_n C (v := .ref t) rfl rfl dX11_rest_25 (f_getR1 C lX11_74 g9 rfl ea11 dX11_rest_26 (x_aload_n C (v := .ref t) rfl rfl dX11_rest_29 (f_getR1 C lX11_66 g9 rfl ea12 dX11_rest_30 (kk))))))) ?_
    obtain ⟨g13, H⟩ := H
    refine zX_call (as := [.ref a10, .ref a11, .ref a12]) (st := []) (fun C hM hc kk => f_callVN C [.ref a11, .ref a12] hM kX5_refresh vX5_refresh lX11_149 ⟨by decide, by decide⟩ (rfl : vwCl[5]? = some (RX5, TX5, 9)) g13 rfl hc (Nat.le_of_ble_eq_true rfl) rfl dX11_rest_33 kk) (zC.mono H ?_)
    rintro r0 h14 ⟨rfl, H⟩
    show zX mX11_rest 36 [.ref t, .int p0] [] h14 Q
    obtain ⟨g15, H⟩ := H
    obtain ⟨a16, ea16, H⟩ := H
    obtain ⟨a17, ea17, H⟩ := H
    obtain ⟨g18, H⟩ := H
    obtain ⟨a19, ea19, H⟩ := H
    refine zX_seg (pc' := 49) (L' := [.ref t, .int p0]) (st' := [.int (40 : Int32), .ref a19, .ref a16]) (h2 := h14) rfl rfl (fun C Cr hc kk => x_aload_n C (v := .ref t) rfl rfl dX11_rest_36 (f_getR1 C lX11_38 g15 rfl ea16 dX11_rest_37 (x_aload_n C (v := .ref t) rfl rfl dX11_rest_40 (f_getR1 C lX11_31 g15 rfl ea17 dX11_rest_41 (f_getR1N C lX11_211 g18 rfl ea19 dX11_rest_44 (x_bipush C (40 : Int32) (by decide) dX11_rest_47 (kk))))))) ?_
    obtain ⟨g20, H⟩ := H
    refine zX_call (as := [.ref a16, .ref a19, .int (40 : Int32)]) (st := []) (fun C hM hc kk => f_callVN C [.ref a19, .int (40 : Int32)] hM kX3_roundsToRest vX3_roundsToRest lX11_214 ⟨by decide, by decide⟩ (rfl : vwCl[3]? = some (RX3, TX3, 5)) g20 rfl hc (Nat.le_of_ble_eq_true rfl) rfl dX11_rest_49 kk) (zC.mono H ?_)
    rintro r0 h21 ⟨x22, rfl, H⟩
    show zX mX11_rest 52 [.ref t, .int p0] [.int x22] h21 Q
    exact zX_ret (some (.int x22)) (fun C Cr hc => x_iret C Cr rfl rfl hc dX11_rest_52 ⟨rfl, rfl⟩) H
theorem nX11_rest (t : Nat) (p0 : Int32) (h : zH) (Q : Option Value → zH → Prop) (H : zX mX11_rest 0 [.ref t, .int p0] [] h Q) : zC mX11_rest [.ref t, .int p0] h Q := zC_of (by decide +kernel) (by simp) (Nat.le_of_ble_eq_true rfl) H
set_option maxHeartbeats 20000000 in
theorem bX11_soonest_0 (t : Nat) (p0 : Int32) (h : zH) (Q : Option Value → zH → Prop) (H : (p0 = 0 → (zX mX11_soonest 11 [.ref t, .int p0] [] h Q)) ∧ (¬ (p0 = 0) → ((p0 = (1 : Int32) → (zX mX11_soonest 11 [.ref t, .int p0] [] h Q)) ∧ (¬ (p0 = (1 : Int32)) → (Q (some (.int (-1 : Int32))) h))))) : zX mX11_soonest 0 [.ref t, .int p0] [] h Q := by
  refine zX_seg (pc' := 1) (L' := [.ref t, .int p0]) (st' := [.int p0]) (h2 := h) rfl rfl (fun C Cr hc kk => x_iload_n C rfl dX11_soonest_0 (kk)) ?_
  refine zX_br (p1 := 11) (p2 := 4) (st' := []) (p0 = 0) (fun C kt kf => x_if_eq C 11 dX11_soonest_1 (by decide) kt kf) (fun q1 => ?_) (fun q1 => ?_)
  · replace H := H.1 q1
    exact zX_wk (wkK (wkK wkN)) H
  · replace H := H.2 q1
    refine zX_seg (pc' := 6) (L' := [.ref t, .int p0]) (st' := [.int (1 : Int32), .int p0]) (h2 := h) rfl rfl (fun C Cr hc kk => x_iload_n C rfl dX11_soonest_4 (x_iconst C (1 : Int32) (by decide) dX11_soonest_5 (kk))) ?_
    refine zX_br (p1 := 11) (p2 := 9) (st' := []) (p0 = (1 : Int32)) (fun C kt kf => x_icmp_eq C 11 dX11_soonest_6 (by decide) kt kf) (fun q2 => ?_) (fun q2 => ?_)
    · replace H := H.1 q2
      exact zX_wk (wkK (wkK wkN)) H
    · replace H := H.2 q2
      refine zX_seg (pc' := 10) (L' := [.ref t, .int p0]) (st' := [.int (-1 : Int32)]) (h2 := h) rfl rfl (fun C Cr hc kk => x_iconst C (-1 : Int32) (by decide) dX11_soonest_9 (kk)) ?_
      exact zX_ret (some (.int (-1 : Int32))) (fun C Cr hc => x_iret C Cr rfl rfl hc dX11_soonest_10 ⟨rfl, rfl⟩) H
set_option maxHeartbeats 20000000 in
theorem bX11_soonest_11 (l0 : Nat) (l1 : Int32) (h : zH) (Q : Option Value → zH → Prop) (H : oK h l0 11 ∧ (∃ a2 : Nat, gR h l0 4 = some a2 ∧ (oK h a2 3 ∧ (((gI h a2 4) = 0 → (∃ a5 : Nat, gR h l0 3 = some a5 ∧ (∃ a6 : Nat, gR h l0 10 = some a6 ∧ (∃ a7 : Nat, gR h l0 8 = some a7 ∧ (oK h a5 5 ∧ (zC mX5_refresh [.ref a5, .ref a6, .ref a7] h (fun r0 h9 => r0 = none ∧ (oK h9 l0 11 ∧ (∃ a11 : Nat, gR h9 l0 4 = some a11 ∧ (∃ a12 : Nat, gR h9 l0 3 = some a12 ∧ (oK h9 a12 5 ∧ (∃ a14 : Nat, gR h9 a12 2 = some a14 ∧ (∃ a15 : Nat, gR h9 l0 10 = some a15 ∧ (oK h9 a15 10 ∧ (oK h9 a11 3 ∧ (zC mX3_search [.ref a11, .ref a14, .int (gI h9 a15 8)] h9 (fun r0 h18 => r0 = none ∧ ((l1 = 0 → (oK h18 l0 11 ∧ (∃ a21 : Nat, gR h18 l0 4 = some a21 ∧ (oK h18 a21 3 ∧ (Q (some (.int (gI h18 a21 2))) h18))))) ∧ (¬ (l1 = 0) → (oK h18 l0 11 ∧ (∃ a24 : Nat, gR h18 l0 4 = some a24 ∧ (oK h18 a24 3 ∧ (Q (some (.int (gI h18 a24 3))) h18))))))))))))))))))))))) ∧ (¬ ((gI h a2 4) = 0) → ((l1 = 0 → (Q (some (.int (gI h a2 2))) h)) ∧ (¬ (l1 = 0) → (Q (some (.int (gI h a2 3))) h)))))))) : zX mX11_soonest 11 [.ref l0, .int l1] [] h Q := by
  obtain ⟨g1, H⟩ := H
  obtain ⟨a2, ea2, H⟩ := H
  obtain ⟨g3, H⟩ := H
  refine zX_seg (pc' := 18) (L' := [.ref l0, .int l1]) (st' := [.int (gI h a2 4)]) (h2 := h) rfl rfl (fun C Cr hc kk => x_aload_n C (v := .ref l0) rfl rfl dX11_soonest_11 (f_getR1 C lX11_38 g1 rfl ea2 dX11_soonest_12 (f_getIN C lX11_217 g3 rfl dX11_soonest_15 (kk)))) ?_
  refine zX_br (p1 := 21) (p2 := 57) (st' := []) ((gI h a2 4) = 0) (fun C kt kf => x_if_ne C 57 dX11_soonest_18 (by decide) kf kt) (fun q4 => ?_) (fun q4 => ?_)
  · replace H := H.1 q4
    obtain ⟨a5, ea5, H⟩ := H
    obtain ⟨a6, ea6, H⟩ := H
    obtain ⟨a7, ea7, H⟩ := H
    refine zX_seg (pc' := 33) (L' := [.ref l0, .int l1]) (st' := [.ref a7, .ref a6, .ref a5]) (h2 := h) rfl rfl (fun C Cr hc kk => x_aload_n C (v := .ref l0) rfl rfl dX11_soonest_21 (f_getR1 C lX11_31 g1 rfl ea5 dX11_soonest_22 (x_aload_n C (v := .ref l0) rfl rfl dX11_soonest_25 (f_getR1 C lX11_74 g1 rfl ea6 dX11_soonest_26 (x_aload_n C (v := .ref l0) rfl rfl dX11_soonest_29 (f_getR1 C lX11_66 g1 rfl ea7 dX11_soonest_30 (kk))))))) ?_
    obtain ⟨g8, H⟩ := H
    refine zX_call (as := [.ref a5, .ref a6, .ref a7]) (st := []) (fun C hM hc kk => f_callVN C [.ref a6, .ref a7] hM kX5_refresh vX5_refresh lX11_149 ⟨by decide, by decide⟩ (rfl : vwCl[5]? = some (RX5, TX5, 9)) g8 rfl hc (Nat.le_of_ble_eq_true rfl) rfl dX11_soonest_33 kk) (zC.mono H ?_)
    rintro r0 h9 ⟨rfl, H⟩
    show zX mX11_soonest 36 [.ref l0, .int l1] [] h9 Q
    obtain ⟨g10, H⟩ := H
    obtain ⟨a11, ea11, H⟩ := H
    obtain ⟨a12, ea12, H⟩ := H
    obtain ⟨g13, H⟩ := H
    obtain ⟨a14, ea14, H⟩ := H
    obtain ⟨a15, ea15, H⟩ := H
    obtain ⟨g16, H⟩ := H
    refine zX_seg (pc' := 54) (L' := [.ref l0, .int l1]) (st' := [.int (gI h9 a15 8), .ref a14, .ref a11]) (h2 := h9) rfl rfl (fun C Cr hc kk => x_aload_n C (v := .ref l0) rfl rfl dX11_soonest_36 (f_getR1 C lX11_38 g10 rfl ea11 dX11_soonest_37 (x_aload_n C (v := .ref l0) rfl rfl dX11_soonest_40 (f_getR1 C lX11_31 g10 rfl ea12 dX11_soonest_41 (f_getR1N C lX11_211 g13 rfl ea14 dX11_soonest_44 (x_aload_n C (v := .ref l0) rfl rfl dX11_soonest_47 (f_getR1 C lX11_74 g10 rfl ea15 dX11_soonest_48 (f_getIN C lX11_115 g16 rfl dX11_soonest_51 (kk))))))))) ?_
    obtain ⟨g17, H⟩ := H
    refine zX_call (as := [.ref a11, .ref a14, .int (gI h9 a15 8)]) (st := []) (fun C hM hc kk => f_callVN C [.ref a14, .int (gI h9 a15 8)] hM kX3_search vX3_search lX11_221 ⟨by decide, by decide⟩ (rfl : vwCl[3]? = some (RX3, TX3, 5)) g17 rfl hc (Nat.le_of_ble_eq_true rfl) rfl dX11_soonest_54 kk) (zC.mono H ?_)
    rintro r0 h18 ⟨rfl, H⟩
    show zX mX11_soonest 57 [.ref l0, .int l1] [] h18 Q
    refine zX_seg (pc' := 58) (L' := [.ref l0, .int l1]) (st' := [.int l1]) (h2 := h18) rfl rfl (fun C Cr hc kk => x_iload_n C rfl dX11_soonest_57 (kk)) ?_
    refine zX_br (p1 := 61) (p2 := 71) (st' := []) (l1 = 0) (fun C kt kf => x_if_ne C 71 dX11_soonest_58 (by decide) kf kt) (fun q19 => ?_) (fun q19 => ?_)
    · replace H := H.1 q19
      obtain ⟨g20, H⟩ := H
      obtain ⟨a21, ea21, H⟩ := H
      obtain ⟨g22, H⟩ := H
      refine zX_seg (pc' := 78) (L' := [.ref l0, .int l1]) (st' := [.int (gI h18 a21 2)]) (h2 := h18) rfl rfl (fun C Cr hc kk => x_aload_n C (v := .ref l0) rfl rfl dX11_soonest_61 (f_getR1 C lX11_38 g20 rfl ea21 dX11_soonest_62 (f_getIN C lX11_225 g22 rfl dX11_soonest_65 (x_goto C 78 dX11_soonest_68 (by decide) (kk))))) ?_
      exact zX_ret (some (.int (gI h18 a21 2))) (fun C Cr hc => x_iret C Cr rfl rfl hc dX11_soonest_78 ⟨rfl, rfl⟩) H
    · replace H := H.2 q19
      obtain ⟨g23, H⟩ := H
      obtain ⟨a24, ea24, H⟩ := H
      obtain ⟨g25, H⟩ := H
      refine zX_seg (pc' := 78) (L' := [.ref l0, .int l1]) (st' := [.int (gI h18 a24 3)]) (h2 := h18) rfl rfl (fun C Cr hc kk => x_aload_n C (v := .ref l0) rfl rfl dX11_soonest_71 (f_getR1 C lX11_38 g23 rfl ea24 dX11_soonest_72 (f_getIN C lX11_228 g25 rfl dX11_soonest_75 (kk)))) ?_
      exact zX_ret (some (.int (gI h18 a24 3))) (fun C Cr hc => x_iret C Cr rfl rfl hc dX11_soonest_78 ⟨rfl, rfl⟩) H
  · replace H := H.2 q4
    refine zX_seg (pc' := 58) (L' := [.ref l0, .int l1]) (st' := [.int l1]) (h2 := h) rfl rfl (fun C Cr hc kk => x_iload_n C rfl dX11_soonest_57 (kk)) ?_
    refine zX_br (p1 := 61) (p2 := 71) (st' := []) (l1 = 0) (fun C kt kf => x_if_ne C 71 dX11_soonest_58 (by decide) kf kt) (fun q26 => ?_) (fun q26 => ?_)
    · replace H := H.1 q26
      refine zX_seg (pc' := 78) (L' := [.ref l0, .int l1]) (st' := [.int (gI h a2 2)]) (h2 := h) rfl rfl (fun C Cr hc kk => x_aload_n C (v := .ref l0) rfl rfl dX11_soonest_61 (f_getR1 C lX11_38 g1 rfl ea2 dX11_soonest_62 (f_getIN C lX11_225 g3 rfl dX11_soonest_65 (x_goto C 78 dX11_soonest_68 (by decide) (kk))))) ?_
      exact zX_ret (some (.int (gI h a2 2))) (fun C Cr hc => x_iret C Cr rfl rfl hc dX11_soonest_78 ⟨rfl, rfl⟩) H
    · replace H := H.2 q26
      refine zX_seg (pc' := 78) (L' := [.ref l0, .int l1]) (st' := [.int (gI h a2 3)]) (h2 := h) rfl rfl (fun C Cr hc kk => x_aload_n C (v := .ref l0) rfl rfl dX11_soonest_71 (f_getR1 C lX11_38 g1 rfl ea2 dX11_soonest_72 (f_getIN C lX11_228 g3 rfl dX11_soonest_75 (kk)))) ?_
      exact zX_ret (some (.int (gI h a2 3))) (fun C Cr hc => x_iret C Cr rfl rfl hc dX11_soonest_78 ⟨rfl, rfl⟩) H
theorem nX11_soonest (t : Nat) (p0 : Int32) (h : zH) (Q : Option Value → zH → Prop) (H : zX mX11_soonest 0 [.ref t, .int p0] [] h Q) : zC mX11_soonest [.ref t, .int p0] h Q := zC_of (by decide +kernel) (by simp) (Nat.le_of_ble_eq_true rfl) H
set_option maxHeartbeats 20000000 in
theorem bX11_sway_0 (t : Nat) (p0 : Int32) (p1 : Int32) (h : zH) (Q : Option Value → zH → Prop) (H : oK h t 11 ∧ (∃ a2 : Nat, gR h t 10 = some a2 ∧ (oK h a2 10 ∧ (zC mX10_hasName [.ref a2, .int p0] h (fun r0 h4 => ∃ x5 : Int32, r0 = some (.int x5) ∧ ((x5 = 0 → (Q (some (.int (-1 : Int32))) h4)) ∧ (¬ (x5 = 0) → ((p1 < 0 → (Q (some (.int (-1 : Int32))) h4)) ∧ (¬ (p1 < 0) → ((p1 ≤ (2 : Int32) → (oK h4 t 11 ∧ (∃ a10 : Nat, gR h4 t 5 = some a10 ∧ (oK h4 a10 7 ∧ (zC mX7_knows [.ref a10, .int p0] h4 (fun r0 h12 => ∃ x13 : Int32, r0 = some (.int x13) ∧ ((x13 = 0 → (oK h12 t 11 ∧ (∃ a16 : Nat, gR h12 t 3 = some a16 ∧ (∃ a17 : Nat, gR h12 t 10 = some a17 ∧ (∃ a18 : Nat, gR h12 t 8 = some a18 ∧ (oK h12 a16 5 ∧ (zC mX5_refresh [.ref a16, .ref a17, .ref a18] h12 (fun r0 h20 => r0 = none ∧ (oK h20 t 11 ∧ (∃ a22 : Nat, gR h20 t 5 = some a22 ∧ (∃ a23 : Nat, gR h20 t 3 = some a23 ∧ (∃ a24 : Nat, gR h20 t 10 = some a24 ∧ (oK h20 a22 7 ∧ (zC mX7_search [.ref a22, .int p0, .ref a23, .ref a24] h20 (fun r0 h26 => r0 = none ∧ (oK h26 t 11 ∧ (∃ a28 : Nat, gR h26 t 5 = some a28 ∧ (oK h26 a28 7 ∧ (zC mX7_answer [.ref a28, .int p0, .int p1] h26 (fun r0 h30 => ∃ x31 : Int32, r0 = some (.int x31) ∧ (Q (some (.int x31)) h30))))))))))))))))))))) ∧ (¬ (x13 = 0) → (oK h12 t 11 ∧ (∃ a33 : Nat, gR h12 t 5 = some a33 ∧ (oK h12 a33 7 ∧ (zC mX7_answer [.ref a33, .int p0, .int p1] h12 (fun r0 h35 => ∃ x36 : Int32, r0 = some (.int x36) ∧ (Q (some (.int x36)) h35)))))))))))))) ∧ (¬ (p1 ≤ (2 : Int32)) → (Q (some (.int (-1 : Int32))) h4)))))))))))) : zX mX11_sway 0 [.ref t, .int p0, .int p1] [] h Q := by
  obtain ⟨g1, H⟩ := H
  obtain ⟨a2, ea2, H⟩ := H
  refine zX_seg (pc' := 5) (L' := [.ref t, .int p0, .int p1]) (st' := [.int p0, .ref a2]) (h2 := h) rfl rfl (fun C Cr hc kk => x_aload_n C (v := .ref t) rfl rfl dX11_sway_0 (f_getR1 C lX11_74 g1 rfl ea2 dX11_sway_1 (x_iload_n C rfl dX11_sway_4 (kk)))) ?_
  obtain ⟨g3, H⟩ := H
  refine zX_call (as := [.ref a2, .int p0]) (st := []) (fun C hM hc kk => f_callVN C [.int p0] hM kX10_hasName vX10_hasName lX11_175 ⟨by decide, by decide⟩ (rfl : vwCl[10]? = some (RX10, TX10, 10)) g3 rfl hc (Nat.le_of_ble_eq_true rfl) rfl dX11_sway_5 kk) (zC.mono H ?_)
  rintro r0 h4 ⟨x5, rfl, H⟩
  show zX mX11_sway 8 [.ref t, .int p0, .int p1] [.int x5] h4 Q
  refine zX_br (p1 := 20) (p2 := 11) (st' := []) (x5 = 0) (fun C kt kf => x_if_eq C 20 dX11_sway_8 (by decide) kt kf) (fun q6 => ?_) (fun q6 => ?_)
  · replace H := H.1 q6
    refine zX_seg (pc' := 21) (L' := [.ref t, .int p0, .int p1]) (st' := [.int (-1 : Int32)]) (h2 := h4) rfl rfl (fun C Cr hc kk => x_iconst C (-1 : Int32) (by decide) dX11_sway_20 (kk)) ?_
    exact zX_ret (some (.int (-1 : Int32))) (fun C Cr hc => x_iret C Cr rfl rfl hc dX11_sway_21 ⟨rfl, rfl⟩) H
  · replace H := H.2 q6
    refine zX_seg (pc' := 12) (L' := [.ref t, .int p0, .int p1]) (st' := [.int p1]) (h2 := h4) rfl rfl (fun C Cr hc kk => x_iload_n C rfl dX11_sway_11 (kk)) ?_
    refine zX_br (p1 := 20) (p2 := 15) (st' := []) (p1 < 0) (fun C kt kf => x_if_lt C 20 dX11_sway_12 (by decide) kt kf) (fun q7 => ?_) (fun q7 => ?_)
    · replace H := H.1 q7
      refine zX_seg (pc' := 21) (L' := [.ref t, .int p0, .int p1]) (st' := [.int (-1 : Int32)]) (h2 := h4) rfl rfl (fun C Cr hc kk => x_iconst C (-1 : Int32) (by decide) dX11_sway_20 (kk)) ?_
      exact zX_ret (some (.int (-1 : Int32))) (fun C Cr hc => x_iret C Cr rfl rfl hc dX11_sway_21 ⟨rfl, rfl⟩) H
    · replace H := H.2 q7
      refine zX_seg (pc' := 17) (L' := [.ref t, .int p0, .int p1]) (st' := [.int (2 : Int32), .int p1]) (h2 := h4) rfl rfl (fun C Cr hc kk => x_iload_n C rfl dX11_sway_15 (x_iconst C (2 : Int32) (by decide) dX11_sway_16 (kk))) ?_
      refine zX_br (p1 := 22) (p2 := 20) (st' := []) (p1 ≤ (2 : Int32)) (fun C kt kf => x_icmp_le C 22 dX11_sway_17 (by decide) kt kf) (fun q8 => ?_) (fun q8 => ?_)
      · replace H := H.1 q8
        obtain ⟨g9, H⟩ := H
        obtain ⟨a10, ea10, H⟩ := H
        refine zX_seg (pc' := 27) (L' := [.ref t, .int p0, .int p1]) (st' := [.int p0, .ref a10]) (h2 := h4) rfl rfl (fun C Cr hc kk => x_aload_n C (v := .ref t) rfl rfl dX11_sway_22 (f_getR1 C lX11_45 g9 rfl ea10 dX11_sway_23 (x_iload_n C rfl dX11_sway_26 (kk)))) ?_
        obtain ⟨g11, H⟩ := H
        refine zX_call (as := [.ref a10, .int p0]) (st := []) (fun C hM hc kk => f_callVN C [.int p0] hM kX7_knows vX7_knows lX11_231 ⟨by decide, by decide⟩ (rfl : vwCl[7]? = some (RX7, TX7, 4)) g11 rfl hc (Nat.le_of_ble_eq_true rfl) rfl dX11_sway_27 kk) (zC.mono H ?_)
        rintro r0 h12 ⟨x13, rfl, H⟩
        show zX mX11_sway 30 [.ref t, .int p0, .int p1] [.int x13] h12 Q
        refine zX_br (p1 := 33) (p2 := 64) (st' := []) (x13 = 0) (fun C kt kf => x_if_ne C 64 dX11_sway_30 (by decide) kf kt) (fun q14 => ?_) (fun q14 => ?_)
        · replace H := H.1 q14
          obtain ⟨g15, H⟩ := H
          obtain ⟨a16, ea16, H⟩ := H
          obtain ⟨a17, ea17, H⟩ := H
          obtain ⟨a18, ea18, H⟩ := H
          refine zX_seg (pc' := 45) (L' := [.ref t, .int p0, .int p1]) (st' := [.ref a18, .ref a17, .ref a16]) (h2 := h12) rfl rfl (fun C Cr hc kk => x_aload_n C (v := .ref t) rfl rfl dX11_sway_33 (f_getR1 C lX11_31 g15 rfl ea16 dX11_sway_34 (x_aload_n C (v := .ref t) rfl rfl dX11_sway_37 (f_getR1 C lX11_74 g15 rfl ea17 dX11_sway_38 (x_aload_n C (v := .ref t) rfl rfl dX11_sway_41 (f_getR1 C lX11_66 g15 rfl ea18 dX11_sway_42 (kk))))))) ?_
          obtain ⟨g19, H⟩ := H
          refine zX_call (as := [.ref a16, .ref a17, .ref a18]) (st := []) (fun C hM hc kk => f_callVN C [.ref a17, .ref a18] hM kX5_refresh vX5_refresh lX11_149 ⟨by decide, by decide⟩ (rfl : vwCl[5]? = some (RX5, TX5, 9)) g19 rfl hc (Nat.le_of_ble_eq_true rfl) rfl dX11_sway_45 kk) (zC.mono H ?_)
          rintro r0 h20 ⟨rfl, H⟩
          show zX mX11_sway 48 [.ref t, .int p0, .int p1] [] h20 Q
          obtain ⟨g21, H⟩ := H
          obtain ⟨a22, ea22, H⟩ := H
          obtain ⟨a23, ea23, H⟩ := H
          obtain ⟨a24, ea24, H⟩ := H
          refine zX_seg (pc' := 61) (L' := [.ref t, .int p0, .int p1]) (st' := [.ref a24, .ref a23, .int p0, .ref a22]) (h2 := h20) rfl rfl (fun C Cr hc kk => x_aload_n C (v := .ref t) rfl rfl dX11_sway_48 (f_getR1 C lX11_45 g21 rfl ea22 dX11_sway_49 (x_iload_n C rfl dX11_sway_52 (x_aload_n C (v := .ref t) rfl rfl dX11_sway_53 (f_getR1 C lX11_31 g21 rfl ea23 dX11_sway_54 (x_aload_n C (v := .ref t) rfl rfl dX11_sway_57 (f_getR1 C lX11_74 g21 rfl ea24 dX11_sway_58 (kk)))))))) ?_
          obtain ⟨g25, H⟩ := H
          refine zX_call (as := [.ref a22, .int p0, .ref a23, .ref a24]) (st := []) (fun C hM hc kk => f_callVN C [.int p0, .ref a23, .ref a24] hM kX7_search vX7_search lX11_234 ⟨by decide, by decide⟩ (rfl : vwCl[7]? = some (RX7, TX7, 4)) g25 rfl hc (Nat.le_of_ble_eq_true rfl) rfl dX11_sway_61 kk) (zC.mono H ?_)
          rintro r0 h26 ⟨rfl, H⟩
          show zX mX11_sway 64 [.ref t, .int p0, .int p1] [] h26 Q
          obtain ⟨g27, H⟩ := H
          obtain ⟨a28, ea28, H⟩ := H
          refine zX_seg (pc' := 70) (L' := [.ref t, .int p0, .int p1]) (st' := [.int p1, .int p0, .ref a28]) (h2 := h26) rfl rfl (fun C Cr hc kk => x_aload_n C (v := .ref t) rfl rfl dX11_sway_64 (f_getR1 C lX11_45 g27 rfl ea28 dX11_sway_65 (x_iload_n C rfl dX11_sway_68 (x_iload_n C rfl dX11_sway_69 (kk))))) ?_
          obtain ⟨g29, H⟩ := H
          refine zX_call (as := [.ref a28, .int p0, .int p1]) (st := []) (fun C hM hc kk => f_callVN C [.int p0, .int p1] hM kX7_answer vX7_answer lX11_237 ⟨by decide, by decide⟩ (rfl : vwCl[7]? = some (RX7, TX7, 4)) g29 rfl hc (Nat.le_of_ble_eq_true rfl) rfl dX11_sway_70 kk) (zC.mono H ?_)
          rintro r0 h30 ⟨x31, rfl, H⟩
          show zX mX11_sway 73 [.ref t, .int p0, .int p1] [.int x31] h30 Q
          exact zX_ret (some (.int x31)) (fun C Cr hc => x_iret C Cr rfl rfl hc dX11_sway_73 ⟨rfl, rfl⟩) H
        · replace H := H.2 q14
          obtain ⟨g32, H⟩ := H
          obtain ⟨a33, ea33, H⟩ := H
          refine zX_seg (pc' := 70) (L' := [.ref t, .int p0, .int p1]) (st' := [.int p1, .int p0, .ref a33]) (h2 := h12) rfl rfl (fun C Cr hc kk => x_aload_n C (v := .ref t) rfl rfl dX11_sway_64 (f_getR1 C lX11_45 g32 rfl ea33 dX11_sway_65 (x_iload_n C rfl dX11_sway_68 (x_iload_n C rfl dX11_sway_69 (kk))))) ?_
          obtain ⟨g34, H⟩ := H
          refine zX_call (as := [.ref a33, .int p0, .int p1]) (st := []) (fun C hM hc kk => f_callVN C [.int p0, .int p1] hM kX7_answer vX7_answer lX11_237 ⟨by decide, by decide⟩ (rfl : vwCl[7]? = some (RX7, TX7, 4)) g34 rfl hc (Nat.le_of_ble_eq_true rfl) rfl dX11_sway_70 kk) (zC.mono H ?_)
          rintro r0 h35 ⟨x36, rfl, H⟩
          show zX mX11_sway 73 [.ref t, .int p0, .int p1] [.int x36] h35 Q
          exact zX_ret (some (.int x36)) (fun C Cr hc => x_iret C Cr rfl rfl hc dX11_sway_73 ⟨rfl, rfl⟩) H
      · replace H := H.2 q8
        refine zX_seg (pc' := 21) (L' := [.ref t, .int p0, .int p1]) (st' := [.int (-1 : Int32)]) (h2 := h4) rfl rfl (fun C Cr hc kk => x_iconst C (-1 : Int32) (by decide) dX11_sway_20 (kk)) ?_
        exact zX_ret (some (.int (-1 : Int32))) (fun C Cr hc => x_iret C Cr rfl rfl hc dX11_sway_21 ⟨rfl, rfl⟩) H
theorem nX11_sway (t : Nat) (p0 : Int32) (p1 : Int32) (h : zH) (Q : Option Value → zH → Prop) (H : zX mX11_sway 0 [.ref t, .int p0, .int p1] [] h Q) : zC mX11_sway [.ref t, .int p0, .int p1] h Q := zC_of (by decide +kernel) (by simp) (Nat.le_of_ble_eq_true rfl) H
set_option maxHeartbeats 20000000 in
theorem bX11_more_0 (t : Nat) (p0 : Int32) (p1 : Int32) (h : zH) (Q : Option Value → zH → Prop) (H : (p0 < 0 → (zX mX11_more 30 [.ref t, .int p0, .int p1, .float 0, .float 0, .float 0, .float 0] [] h Q)) ∧ (¬ (p0 < 0) → (oK h t 11 ∧ (∃ a3 : Nat, gR h t 10 = some a3 ∧ (oK h a3 10 ∧ (((gI h a3 7) ≤ p0 → (zX mX11_more 30 [.ref t, .int p0, .int p1, .float 0, .float 0, .float 0, .float 0] [] h Q)) ∧ (¬ ((gI h a3 7) ≤ p0) → (zC mX10_hasMark [.ref a3, .int p1] h (fun r0 h6 => ∃ x7 : Int32, r0 = some (.int x7) ∧ ((x7 = 0 → (zX mX11_more 30 [.ref t, .int p0, .int p1, .float 0, .float 0, .float 0, .float 0] [] h6 Q)) ∧ (¬ (x7 = 0) → (zX mX11_more 31 [.ref t, .int p0, .int p1, .float 0, .float 0, .float 0, .float 0] [.int (1 : Int32)] h6 Q)))))))))))) : zX mX11_more 0 [.ref t, .int p0, .int p1, .float 0, .float 0, .float 0, .float 0] [] h Q := by
  refine zX_seg (pc' := 1) (L' := [.ref t, .int p0, .int p1, .float 0, .float 0, .float 0, .float 0]) (st' := [.int p0]) (h2 := h) rfl rfl (fun C Cr hc kk => x_iload_n C rfl dX11_more_0 (kk)) ?_
  refine zX_br (p1 := 30) (p2 := 4) (st' := []) (p0 < 0) (fun C kt kf => x_if_lt C 30 dX11_more_1 (by decide) kt kf) (fun q1 => ?_) (fun q1 => ?_)
  · replace H := H.1 q1
    exact zX_wk (wkK (wkK (wkK (wkD (wkD (wkD (wkD wkN))))))) H
  · replace H := H.2 q1
    obtain ⟨g2, H⟩ := H
    obtain ⟨a3, ea3, H⟩ := H
    obtain ⟨g4, H⟩ := H
    refine zX_seg (pc' := 12) (L' := [.ref t, .int p0, .int p1, .float 0, .float 0, .float 0, .float 0]) (st' := [.int (gI h a3 7), .int p0]) (h2 := h) rfl rfl (fun C Cr hc kk => x_iload_n C rfl dX11_more_4 (x_aload_n C (v := .ref t) rfl rfl dX11_more_5 (f_getR1 C lX11_74 g2 rfl ea3 dX11_more_6 (f_getIN C lX11_240 g4 rfl dX11_more_9 (kk))))) ?_
    refine zX_br (p1 := 30) (p2 := 15) (st' := []) ((gI h a3 7) ≤ p0) (fun C kt kf => x_icmp_ge C 30 dX11_more_12 (by decide) kt kf) (fun q5 => ?_) (fun q5 => ?_)
    · replace H := H.1 q5
      exact zX_wk (wkK (wkK (wkK (wkD (wkD (wkD (wkD wkN))))))) H
    · replace H := H.2 q5
      refine zX_seg (pc' := 20) (L' := [.ref t, .int p0, .int p1, .float 0, .float 0, .float 0, .float 0]) (st' := [.int p1, .ref a3]) (h2 := h) rfl rfl (fun C Cr hc kk => x_aload_n C (v := .ref t) rfl rfl dX11_more_15 (f_getR1 C lX11_74 g2 rfl ea3 dX11_more_16 (x_iload_n C rfl dX11_more_19 (kk)))) ?_
      refine zX_call (as := [.ref a3, .int p1]) (st := []) (fun C hM hc kk => f_callVN C [.int p1] hM kX10_hasMark vX10_hasMark lX11_196 ⟨by decide, by decide⟩ (rfl : vwCl[10]? = some (RX10, TX10, 10)) g4 rfl hc (Nat.le_of_ble_eq_true rfl) rfl dX11_more_20 kk) (zC.mono H ?_)
      rintro r0 h6 ⟨x7, rfl, H⟩
      show zX mX11_more 23 [.ref t, .int p0, .int p1, .float 0, .float 0, .float 0, .float 0] [.int x7] h6 Q
      refine zX_br (p1 := 30) (p2 := 26) (st' := []) (x7 = 0) (fun C kt kf => x_if_eq C 30 dX11_more_23 (by decide) kt kf) (fun q8 => ?_) (fun q8 => ?_)
      · replace H := H.1 q8
        exact zX_wk (wkK (wkK (wkK (wkD (wkD (wkD (wkD wkN))))))) H
      · replace H := H.2 q8
        refine zX_seg (pc' := 31) (L' := [.ref t, .int p0, .int p1, .float 0, .float 0, .float 0, .float 0]) (st' := [.int (1 : Int32)]) (h2 := h6) rfl rfl (fun C Cr hc kk => x_iconst C (1 : Int32) (by decide) dX11_more_26 (x_goto C 31 dX11_more_27 (by decide) (kk))) ?_
        exact zX_wk (wkK (wkK (wkK (wkD (wkD (wkD (wkD wkN))))))) H
set_option maxHeartbeats 20000000 in
theorem bX11_more_30 (l0 : Nat) (l1 : Int32) (l2 : Int32) (h : zH) (Q : Option Value → zH → Prop) (H : zX mX11_more 31 [.ref l0, .int l1, .int l2, .float 0, .float 0, .float 0, .float 0] [.int (0 : Int32)] h Q) : zX mX11_more 30 [.ref l0, .int l1, .int l2, .float 0, .float 0, .float 0, .float 0] [] h Q := by
  refine zX_seg (pc' := 31) (L' := [.ref l0, .int l1, .int l2, .float 0, .float 0, .float 0, .float 0]) (st' := [.int (0 : Int32)]) (h2 := h) rfl rfl (fun C Cr hc kk => x_iconst C (0 : Int32) (by decide) dX11_more_30 (kk)) ?_
  exact zX_wk (wkK (wkK (wkK (wkD (wkD (wkD (wkD wkN))))))) H
set_option maxHeartbeats 20000000 in
theorem bX11_more_31 (l0 : Nat) (l1 : Int32) (l2 : Int32) (s0 : Int32) (h : zH) (Q : Option Value → zH → Prop) (H : (s0 = 0 → (Q (some (.int (-1 : Int32))) h)) ∧ (¬ (s0 = 0) → (oK h l0 11 ∧ (∃ a3 : Nat, gR h l0 10 = some a3 ∧ (oK h a3 10 ∧ (((gI h a3 8) < (8 : Int32) → (∃ a6 : Nat, gR h l0 7 = some a6 ∧ (oK h a6 10 ∧ (zC mX10_becomeWider [.ref a6, .ref a3, .int l1] h (fun r0 h8 => r0 = none ∧ (oK h8 l0 11 ∧ (∃ a10 : Nat, gR h8 l0 10 = some a10 ∧ (oK h8 a10 10 ∧ (zX mX11_more 81 [.ref l0, .float 0, .int l2, .float 0, .int (0 : Int32), .int ((1 : Int32) <<< (((2 : Int32) * (gI h8 a10 8)) &&& 31)), .int (0 : Int32)] [] h8 Q))))))))) ∧ (¬ ((gI h a3 8) < (8 : Int32)) → (Q (some (.int (-1 : Int32))) h)))))))) : zX mX11_more 31 [.ref l0, .int l1, .int l2, .float 0, .float 0, .float 0, .float 0] [.int s0] h Q := by
  refine zX_seg (pc' := 33) (L' := [.ref l0, .int l1, .int l2, .int s0, .float 0, .float 0, .float 0]) (st' := [.int s0]) (h2 := h) rfl rfl (fun C Cr hc kk => x_istore_n C (by decide) dX11_more_31 (x_iload_n C rfl dX11_more_32 (kk))) ?_
  refine zX_br (p1 := 48) (p2 := 36) (st' := []) (s0 = 0) (fun C kt kf => x_if_eq C 48 dX11_more_33 (by decide) kt kf) (fun q1 => ?_) (fun q1 => ?_)
  · replace H := H.1 q1
    refine zX_seg (pc' := 49) (L' := [.ref l0, .int l1, .int l2, .int s0, .float 0, .float 0, .float 0]) (st' := [.int (-1 : Int32)]) (h2 := h) rfl rfl (fun C Cr hc kk => x_iconst C (-1 : Int32) (by decide) dX11_more_48 (kk)) ?_
    exact zX_ret (some (.int (-1 : Int32))) (fun C Cr hc => x_iret C Cr rfl rfl hc dX11_more_49 ⟨rfl, rfl⟩) H
  · replace H := H.2 q1
    obtain ⟨g2, H⟩ := H
    obtain ⟨a3, ea3, H⟩ := H
    obtain ⟨g4, H⟩ := H
    refine zX_seg (pc' := 45) (L' := [.ref l0, .int l1, .int l2, .int s0, .float 0, .float 0, .float 0]) (st' := [.int (8 : Int32), .int (gI h a3 8)]) (h2 := h) rfl rfl (fun C Cr hc kk => x_aload_n C (v := .ref l0) rfl rfl dX11_more_36 (f_getR1 C lX11_74 g2 rfl ea3 dX11_more_37 (f_getIN C lX11_115 g4 rfl dX11_more_40 (x_bipush C (8 : Int32) (by decide) dX11_more_43 (kk))))) ?_
    refine zX_br (p1 := 50) (p2 := 48) (st' := []) ((gI h a3 8) < (8 : Int32)) (fun C kt kf => x_icmp_lt C 50 dX11_more_45 (by decide) kt kf) (fun q5 => ?_) (fun q5 => ?_)
    · replace H := H.1 q5
      obtain ⟨a6, ea6, H⟩ := H
      refine zX_seg (pc' := 59) (L' := [.ref l0, .int l1, .int l2, .int s0, .float 0, .float 0, .float 0]) (st' := [.int l1, .ref a3, .ref a6]) (h2 := h) rfl rfl (fun C Cr hc kk => x_aload_n C (v := .ref l0) rfl rfl dX11_more_50 (f_getR1 C lX11_59 g2 rfl ea6 dX11_more_51 (x_aload_n C (v := .ref l0) rfl rfl dX11_more_54 (f_getR1 C lX11_74 g2 rfl ea3 dX11_more_55 (x_iload_n C rfl dX11_more_58 (kk)))))) ?_
      obtain ⟨g7, H⟩ := H
      refine zX_call (as := [.ref a6, .ref a3, .int l1]) (st := []) (fun C hM hc kk => f_callVN C [.ref a3, .int l1] hM kX10_becomeWider vX10_becomeWider lX11_243 ⟨by decide, by decide⟩ (rfl : vwCl[10]? = some (RX10, TX10, 10)) g7 rfl hc (Nat.le_of_ble_eq_true rfl) rfl dX11_more_59 kk) (zC.mono H ?_)
      rintro r0 h8 ⟨rfl, H⟩
      show zX mX11_more 62 [.ref l0, .int l1, .int l2, .int s0, .float 0, .float 0, .float 0] [] h8 Q
      obtain ⟨g9, H⟩ := H
      obtain ⟨a10, ea10, H⟩ := H
      obtain ⟨g11, H⟩ := H
      refine zX_seg (pc' := 81) (L' := [.ref l0, .int l1, .int l2, .int s0, .int (0 : Int32), .int ((1 : Int32) <<< (((2 : Int32) * (gI h8 a10 8)) &&& 31)), .int (0 : Int32)]) (st' := []) (h2 := h8) rfl rfl (fun C Cr hc kk => x_iconst C (0 : Int32) (by decide) dX11_more_62 (x_istore C (by decide) dX11_more_63 (x_iconst C (1 : Int32) (by decide) dX11_more_65 (x_iconst C (2 : Int32) (by decide) dX11_more_66 (x_aload_n C (v := .ref l0) rfl rfl dX11_more_67 (f_getR1 C lX11_74 g9 rfl ea10 dX11_more_68 (f_getIN C lX11_115 g11 rfl dX11_more_71 (x_imul C dX11_more_74 (x_ishl C dX11_more_75 (x_istore C (by decide) dX11_more_76 (x_iconst C (0 : Int32) (by decide) dX11_more_78 (x_istore C (by decide) dX11_more_79 (kk))))))))))))) ?_
      exact zX_wk (wkK (wkD (wkK (wkD (wkK (wkK (wkK wkN))))))) H
    · replace H := H.2 q5
      refine zX_seg (pc' := 49) (L' := [.ref l0, .int l1, .int l2, .int s0, .float 0, .float 0, .float 0]) (st' := [.int (-1 : Int32)]) (h2 := h) rfl rfl (fun C Cr hc kk => x_iconst C (-1 : Int32) (by decide) dX11_more_48 (kk)) ?_
      exact zX_ret (some (.int (-1 : Int32))) (fun C Cr hc => x_iret C Cr rfl rfl hc dX11_more_49 ⟨rfl, rfl⟩) H
set_option maxHeartbeats 20000000 in
theorem bX11_more_81 (l0 : Nat) (l2 : Int32) (l4 : Int32) (l5 : Int32) (l6 : Int32) (h : zH) (Q : Option Value → zH → Prop) (H : (l5 ≤ l6 → (Q (some (.int l4)) h)) ∧ (¬ (l5 ≤ l6) → (oK h l0 11 ∧ (∃ a3 : Nat, gR h l0 10 = some a3 ∧ (oK h a3 10 ∧ (zC mX10_canBe [.ref a3, .int l6] h (fun r0 h5 => ∃ x6 : Int32, r0 = some (.int x6) ∧ ((x6 = 0 → (zX mX11_more 81 [.ref l0, .float 0, .int l2, .float 0, .int l4, .int l5, .int (l6 + 1)] [] h5 Q)) ∧ (¬ (x6 = 0) → (oK h5 l0 11 ∧ (∃ a9 : Nat, gR h5 l0 2 = some a9 ∧ (∃ a10 : Nat, gR h5 l0 8 = some a10 ∧ (∃ a11 : Nat, gR h5 l0 10 = some a11 ∧ (oK h5 a11 10 ∧ (∃ a13 : Nat, gR h5 l0 7 = some a13 ∧ (oK h5 a9 6 ∧ (zC mX6_firstBroken [.ref a9, .ref a10, .int (gI h5 a11 8), .int ((l6 <<< ((2 : Int32) &&& 31)) ||| l2), .ref a13] h5 (fun r0 h15 => ∃ x16 : Int32, r0 = some (.int x16) ∧ ((x16 = (-1 : Int32) → (zX mX11_more 81 [.ref l0, .float 0, .int l2, .float 0, .int (l4 + 1), .int l5, .int (l6 + 1)] [] h15 Q)) ∧ (¬ (x16 = (-1 : Int32)) → (zX mX11_more 81 [.ref l0, .float 0, .int l2, .float 0, .int l4, .int l5, .int (l6 + 1)] [] h15 Q))))))))))))))))))))) : zX mX11_more 81 [.ref l0, .float 0, .int l2, .float 0, .int l4, .int l5, .int l6] [] h Q := by
  refine zX_seg (pc' := 85) (L' := [.ref l0, .float 0, .int l2, .float 0, .int l4, .int l5, .int l6]) (st' := [.int l5, .int l6]) (h2 := h) rfl rfl (fun C Cr hc kk => x_iload C rfl dX11_more_81 (x_iload C rfl dX11_more_83 (kk))) ?_
  refine zX_br (p1 := 141) (p2 := 88) (st' := []) (l5 ≤ l6) (fun C kt kf => x_icmp_ge C 141 dX11_more_85 (by decide) kt kf) (fun q1 => ?_) (fun q1 => ?_)
  · replace H := H.1 q1
    refine zX_seg (pc' := 143) (L' := [.ref l0, .float 0, .int l2, .float 0, .int l4, .int l5, .int l6]) (st' := [.int l4]) (h2 := h) rfl rfl (fun C Cr hc kk => x_iload C rfl dX11_more_141 (kk)) ?_
    exact zX_ret (some (.int l4)) (fun C Cr hc => x_iret C Cr rfl rfl hc dX11_more_143 ⟨rfl, rfl⟩) H
  · replace H := H.2 q1
    obtain ⟨g2, H⟩ := H
    obtain ⟨a3, ea3, H⟩ := H
    refine zX_seg (pc' := 94) (L' := [.ref l0, .float 0, .int l2, .float 0, .int l4, .int l5, .int l6]) (st' := [.int l6, .ref a3]) (h2 := h) rfl rfl (fun C Cr hc kk => x_aload_n C (v := .ref l0) rfl rfl dX11_more_88 (f_getR1 C lX11_74 g2 rfl ea3 dX11_more_89 (x_iload C rfl dX11_more_92 (kk)))) ?_
    obtain ⟨g4, H⟩ := H
    refine zX_call (as := [.ref a3, .int l6]) (st := []) (fun C hM hc kk => f_callVN C [.int l6] hM kX10_canBe vX10_canBe lX11_247 ⟨by decide, by decide⟩ (rfl : vwCl[10]? = some (RX10, TX10, 10)) g4 rfl hc (Nat.le_of_ble_eq_true rfl) rfl dX11_more_94 kk) (zC.mono H ?_)
    rintro r0 h5 ⟨x6, rfl, H⟩
    show zX mX11_more 97 [.ref l0, .float 0, .int l2, .float 0, .int l4, .int l5, .int l6] [.int x6] h5 Q
    refine zX_br (p1 := 135) (p2 := 100) (st' := []) (x6 = 0) (fun C kt kf => x_if_eq C 135 dX11_more_97 (by decide) kt kf) (fun q7 => ?_) (fun q7 => ?_)
    · replace H := H.1 q7
      refine zX_seg (pc' := 81) (L' := [.ref l0, .float 0, .int l2, .float 0, .int l4, .int l5, .int (l6 + 1)]) (st' := []) (h2 := h5) rfl rfl (fun C Cr hc kk => x_iinc C (l6 + 1) rfl (congrArg (HAdd.hAdd _) (by decide)) (by decide) dX11_more_135 (x_goto C 81 dX11_more_138 (by decide) (kk))) ?_
      exact zX_wk (wkK (wkD (wkK (wkD (wkK (wkK (wkK wkN))))))) H
    · replace H := H.2 q7
      obtain ⟨g8, H⟩ := H
      obtain ⟨a9, ea9, H⟩ := H
      obtain ⟨a10, ea10, H⟩ := H
      obtain ⟨a11, ea11, H⟩ := H
      obtain ⟨g12, H⟩ := H
      obtain ⟨a13, ea13, H⟩ := H
      refine zX_seg (pc' := 125) (L' := [.ref l0, .float 0, .int l2, .float 0, .int l4, .int l5, .int l6]) (st' := [.ref a13, .int ((l6 <<< ((2 : Int32) &&& 31)) ||| l2), .int (gI h5 a11 8), .ref a10, .ref a9]) (h2 := h5) rfl rfl (fun C Cr hc kk => x_aload_n C (v := .ref l0) rfl rfl dX11_more_100 (f_getR1 C lX11_24 g8 rfl ea9 dX11_more_101 (x_aload_n C (v := .ref l0) rfl rfl dX11_more_104 (f_getR1 C lX11_66 g8 rfl ea10 dX11_more_105 (x_aload_n C (v := .ref l0) rfl rfl dX11_more_108 (f_getR1 C lX11_74 g8 rfl ea11 dX11_more_109 (f_getIN C lX11_115 g12 rfl dX11_more_112 (x_iload C rfl dX11_more_115 (x_iconst C (2 : Int32) (by decide) dX11_more_117 (x_ishl C dX11_more_118 (x_iload_n C rfl dX11_more_119 (x_ior C dX11_more_120 (x_aload_n C (v := .ref l0) rfl rfl dX11_more_121 (f_getR1 C lX11_59 g8 rfl ea13 dX11_more_122 (kk))))))))))))))) ?_
      obtain ⟨g14, H⟩ := H
      refine zX_call (as := [.ref a9, .ref a10, .int (gI h5 a11 8), .int ((l6 <<< ((2 : Int32) &&& 31)) ||| l2), .ref a13]) (st := []) (fun C hM hc kk => f_callVN C [.ref a10, .int (gI h5 a11 8), .int ((l6 <<< ((2 : Int32) &&& 31)) ||| l2), .ref a13] hM kX6_firstBroken vX6_firstBroken lX11_203 ⟨by decide, by decide⟩ (rfl : vwCl[6]? = some (RX6, TX6, 2)) g14 rfl hc (Nat.le_of_ble_eq_true rfl) rfl dX11_more_125 kk) (zC.mono H ?_)
      rintro r0 h15 ⟨x16, rfl, H⟩
      show zX mX11_more 128 [.ref l0, .float 0, .int l2, .float 0, .int l4, .int l5, .int l6] [.int x16] h15 Q
      refine zX_seg (pc' := 129) (L' := [.ref l0, .float 0, .int l2, .float 0, .int l4, .int l5, .int l6]) (st' := [.int (-1 : Int32), .int x16]) (h2 := h15) rfl rfl (fun C Cr hc kk => x_iconst C (-1 : Int32) (by decide) dX11_more_128 (kk)) ?_
      refine zX_br (p1 := 132) (p2 := 135) (st' := []) (x16 = (-1 : Int32)) (fun C kt kf => x_icmp_ne C 135 dX11_more_129 (by decide) kf kt) (fun q17 => ?_) (fun q17 => ?_)
      · replace H := H.1 q17
        refine zX_seg (pc' := 81) (L' := [.ref l0, .float 0, .int l2, .float 0, .int (l4 + 1), .int l5, .int (l6 + 1)]) (st' := []) (h2 := h15) rfl rfl (fun C Cr hc kk => x_iinc C (l4 + 1) rfl (congrArg (HAdd.hAdd _) (by decide)) (by decide) dX11_more_132 (x_iinc C (l6 + 1) rfl (congrArg (HAdd.hAdd _) (by decide)) (by decide) dX11_more_135 (x_goto C 81 dX11_more_138 (by decide) (kk)))) ?_
        exact zX_wk (wkK (wkD (wkK (wkD (wkK (wkK (wkK wkN))))))) H
      · replace H := H.2 q17
        refine zX_seg (pc' := 81) (L' := [.ref l0, .float 0, .int l2, .float 0, .int l4, .int l5, .int (l6 + 1)]) (st' := []) (h2 := h15) rfl rfl (fun C Cr hc kk => x_iinc C (l6 + 1) rfl (congrArg (HAdd.hAdd _) (by decide)) (by decide) dX11_more_135 (x_goto C 81 dX11_more_138 (by decide) (kk))) ?_
        exact zX_wk (wkK (wkD (wkK (wkD (wkK (wkK (wkK wkN))))))) H
theorem nX11_more (t : Nat) (p0 : Int32) (p1 : Int32) (h : zH) (Q : Option Value → zH → Prop) (H : zX mX11_more 0 [.ref t, .int p0, .int p1, .float 0, .float 0, .float 0, .float 0] [] h Q) : zC mX11_more [.ref t, .int p0, .int p1] h Q := zC_of (by decide +kernel) (by simp) (Nat.le_of_ble_eq_true rfl) H
set_option maxHeartbeats 20000000 in
theorem bX11_shown_0 (t : Nat) (p0 : Int32) (p1 : Int32) (p2 : Int32) (h : zH) (Q : Option Value → zH → Prop) (H : (p0 < (2 : Int32) → (Q (some (.int (-1 : Int32))) h)) ∧ (¬ (p0 < (2 : Int32)) → (((3 : Int32) < p0 → (Q (some (.int (-1 : Int32))) h)) ∧ (¬ ((3 : Int32) < p0) → ((p1 < 0 → (Q (some (.int (-1 : Int32))) h)) ∧ (¬ (p1 < 0) → ((p1 ≤ (2 : Int32) → (oK h t 11 ∧ (∃ a6 : Nat, gR h t 6 = some a6 ∧ (oK h a6 9 ∧ (zC mX9_show [.ref a6, .int p0, .int p1] h (fun r0 h8 => r0 = none ∧ ((p2 = 0 → (zX mX11_shown 60 [.ref t, .float 0, .float 0, .float 0] [] h8 Q)) ∧ ((p2 = 1 → (zX mX11_shown 68 [.ref t, .float 0, .float 0, .float 0] [] h8 Q)) ∧ ((p2 = 2 → (zX mX11_shown 76 [.ref t, .float 0, .float 0, .float 0] [] h8 Q)) ∧ ((p2 = 3 → (zX mX11_shown 84 [.ref t, .float 0, .float 0, .float 0] [] h8 Q)) ∧ (¬ p2 = 0 → ¬ p2 = 1 → ¬ p2 = 2 → ¬ p2 = 3 → (zX mX11_shown 92 [.float 0, .float 0, .float 0, .float 0] [] h8 Q)))))))))))) ∧ (¬ (p1 ≤ (2 : Int32)) → (Q (some (.int (-1 : Int32))) h))))))))) : zX mX11_shown 0 [.ref t, .int p0, .int p1, .int p2] [] h Q := by
  refine zX_seg (pc' := 2) (L' := [.ref t, .int p0, .int p1, .int p2]) (st' := [.int (2 : Int32), .int p0]) (h2 := h) rfl rfl (fun C Cr hc kk => x_iload_n C rfl dX11_shown_0 (x_iconst C (2 : Int32) (by decide) dX11_shown_1 (kk))) ?_
  refine zX_br (p1 := 19) (p2 := 5) (st' := []) (p0 < (2 : Int32)) (fun C kt kf => x_icmp_lt C 19 dX11_shown_2 (by decide) kt kf) (fun q1 => ?_) (fun q1 => ?_)
  · replace H := H.1 q1
    refine zX_seg (pc' := 20) (L' := [.ref t, .int p0, .int p1, .int p2]) (st' := [.int (-1 : Int32)]) (h2 := h) rfl rfl (fun C Cr hc kk => x_iconst C (-1 : Int32) (by decide) dX11_shown_19 (kk)) ?_
    exact zX_ret (some (.int (-1 : Int32))) (fun C Cr hc => x_iret C Cr rfl rfl hc dX11_shown_20 ⟨rfl, rfl⟩) H
  · replace H := H.2 q1
    refine zX_seg (pc' := 7) (L' := [.ref t, .int p0, .int p1, .int p2]) (st' := [.int (3 : Int32), .int p0]) (h2 := h) rfl rfl (fun C Cr hc kk => x_iload_n C rfl dX11_shown_5 (x_iconst C (3 : Int32) (by decide) dX11_shown_6 (kk))) ?_
    refine zX_br (p1 := 19) (p2 := 10) (st' := []) ((3 : Int32) < p0) (fun C kt kf => x_icmp_gt C 19 dX11_shown_7 (by decide) kt kf) (fun q2 => ?_) (fun q2 => ?_)
    · replace H := H.1 q2
      refine zX_seg (pc' := 20) (L' := [.ref t, .int p0, .int p1, .int p2]) (st' := [.int (-1 : Int32)]) (h2 := h) rfl rfl (fun C Cr hc kk => x_iconst C (-1 : Int32) (by decide) dX11_shown_19 (kk)) ?_
      exact zX_ret (some (.int (-1 : Int32))) (fun C Cr hc => x_iret C Cr rfl rfl hc dX11_shown_20 ⟨rfl, rfl⟩) H
    · replace H := H.2 q2
      refine zX_seg (pc' := 11) (L' := [.ref t, .int p0, .int p1, .int p2]) (st' := [.int p1]) (h2 := h) rfl rfl (fun C Cr hc kk => x_iload_n C rfl dX11_shown_10 (kk)) ?_
      refine zX_br (p1 := 19) (p2 := 14) (st' := []) (p1 < 0) (fun C kt kf => x_if_lt C 19 dX11_shown_11 (by decide) kt kf) (fun q3 => ?_) (fun q3 => ?_)
      · replace H := H.1 q3
        refine zX_seg (pc' := 20) (L' := [.ref t, .int p0, .int p1, .int p2]) (st' := [.int (-1 : Int32)]) (h2 := h) rfl rfl (fun C Cr hc kk => x_iconst C (-1 : Int32) (by decide) dX11_shown_19 (kk)) ?_
        exact zX_ret (some (.int (-1 : Int32))) (fun C Cr hc => x_iret C Cr rfl rfl hc dX11_shown_20 ⟨rfl, rfl⟩) H
      · replace H := H.2 q3
        refine zX_seg (pc' := 16) (L' := [.ref t, .int p0, .int p1, .int p2]) (st' := [.int (2 : Int32), .int p1]) (h2 := h) rfl rfl (fun C Cr hc kk => x_iload_n C rfl dX11_shown_14 (x_iconst C (2 : Int32) (by decide) dX11_shown_15 (kk))) ?_
        refine zX_br (p1 := 21) (p2 := 19) (st' := []) (p1 ≤ (2 : Int32)) (fun C kt kf => x_icmp_le C 21 dX11_shown_16 (by decide) kt kf) (fun q4 => ?_) (fun q4 => ?_)
        · replace H := H.1 q4
          obtain ⟨g5, H⟩ := H
          obtain ⟨a6, ea6, H⟩ := H
          refine zX_seg (pc' := 27) (L' := [.ref t, .int p0, .int p1, .int p2]) (st' := [.int p1, .int p0, .ref a6]) (h2 := h) rfl rfl (fun C Cr hc kk => x_aload_n C (v := .ref t) rfl rfl dX11_shown_21 (f_getR1 C lX11_52 g5 rfl ea6 dX11_shown_22 (x_iload_n C rfl dX11_shown_25 (x_iload_n C rfl dX11_shown_26 (kk))))) ?_
          obtain ⟨g7, H⟩ := H
          refine zX_call (as := [.ref a6, .int p0, .int p1]) (st := []) (fun C hM hc kk => f_callVN C [.int p0, .int p1] hM kX9_show vX9_show lX11_250 ⟨by decide, by decide⟩ (rfl : vwCl[9]? = some (RX9, TX9, 6)) g7 rfl hc (Nat.le_of_ble_eq_true rfl) rfl dX11_shown_27 kk) (zC.mono H ?_)
          rintro r0 h8 ⟨rfl, H⟩
          show zX mX11_shown 30 [.ref t, .int p0, .int p1, .int p2] [] h8 Q
          refine zX_seg (pc' := (ztt 31 61 0 3 [29, 37, 45, 53] p2)) (L' := [.ref t, .int p0, .int p1, .int p2]) (st' := []) (h2 := h8) rfl rfl (fun C Cr hc kk => x_iload_n C rfl dX11_shown_30 (f_table C ⟨⟨by decide, by decide⟩, by decide⟩ dX11_shown_31 (kk))) ?_
          by_cases z9 : p2 = 0
          · replace H := H.1 z9
            rw [show (ztt 31 61 0 3 [29, 37, 45, 53] p2) = 60 from by rw [z9]; decide]
            exact zX_wk (wkK (wkD (wkD (wkD wkN)))) H
          · replace H := H.2
            by_cases z10 : p2 = 1
            · replace H := H.1 z10
              rw [show (ztt 31 61 0 3 [29, 37, 45, 53] p2) = 68 from by rw [z10]; decide]
              exact zX_wk (wkK (wkD (wkD (wkD wkN)))) H
            · replace H := H.2
              by_cases z11 : p2 = 2
              · replace H := H.1 z11
                rw [show (ztt 31 61 0 3 [29, 37, 45, 53] p2) = 76 from by rw [z11]; decide]
                exact zX_wk (wkK (wkD (wkD (wkD wkN)))) H
              · replace H := H.2
                by_cases z12 : p2 = 3
                · replace H := H.1 z12
                  rw [show (ztt 31 61 0 3 [29, 37, 45, 53] p2) = 84 from by rw [z12]; decide]
                  exact zX_wk (wkK (wkD (wkD (wkD wkN)))) H
                · replace H := H.2
                  rw [show (ztt 31 61 0 3 [29, 37, 45, 53] p2) = 92 from (ztt_d [0, 1, 2, 3] (by decide) (by decide) (List.forall_mem_cons.mpr ⟨z9, (List.forall_mem_cons.mpr ⟨z10, (List.forall_mem_cons.mpr ⟨z11, (List.forall_mem_cons.mpr ⟨z12, (fun _ h => absurd h List.not_mem_nil)⟩)⟩)⟩)⟩)).trans (by decide)]
                  replace H := H z9 z10 z11 z12
                  exact zX_wk (wkD (wkD (wkD (wkD wkN)))) H
        · replace H := H.2 q4
          refine zX_seg (pc' := 20) (L' := [.ref t, .int p0, .int p1, .int p2]) (st' := [.int (-1 : Int32)]) (h2 := h) rfl rfl (fun C Cr hc kk => x_iconst C (-1 : Int32) (by decide) dX11_shown_19 (kk)) ?_
          exact zX_ret (some (.int (-1 : Int32))) (fun C Cr hc => x_iret C Cr rfl rfl hc dX11_shown_20 ⟨rfl, rfl⟩) H
set_option maxHeartbeats 20000000 in
theorem bX11_shown_60 (l0 : Nat) (h : zH) (Q : Option Value → zH → Prop) (H : oK h l0 11 ∧ (∃ a2 : Nat, gR h l0 6 = some a2 ∧ (oK h a2 9 ∧ (Q (some (.int (gI h a2 2))) h)))) : zX mX11_shown 60 [.ref l0, .float 0, .float 0, .float 0] [] h Q := by
  obtain ⟨g1, H⟩ := H
  obtain ⟨a2, ea2, H⟩ := H
  obtain ⟨g3, H⟩ := H
  refine zX_seg (pc' := 67) (L' := [.ref l0, .float 0, .float 0, .float 0]) (st' := [.int (gI h a2 2)]) (h2 := h) rfl rfl (fun C Cr hc kk => x_aload_n C (v := .ref l0) rfl rfl dX11_shown_60 (f_getR1 C lX11_52 g1 rfl ea2 dX11_shown_61 (f_getIN C lX11_254 g3 rfl dX11_shown_64 (kk)))) ?_
  exact zX_ret (some (.int (gI h a2 2))) (fun C Cr hc => x_iret C Cr rfl rfl hc dX11_shown_67 ⟨rfl, rfl⟩) H
set_option maxHeartbeats 20000000 in
theorem bX11_shown_68 (l0 : Nat) (h : zH) (Q : Option Value → zH → Prop) (H : oK h l0 11 ∧ (∃ a2 : Nat, gR h l0 6 = some a2 ∧ (oK h a2 9 ∧ (Q (some (.int (gI h a2 3))) h)))) : zX mX11_shown 68 [.ref l0, .float 0, .float 0, .float 0] [] h Q := by
  obtain ⟨g1, H⟩ := H
  obtain ⟨a2, ea2, H⟩ := H
  obtain ⟨g3, H⟩ := H
  refine zX_seg (pc' := 75) (L' := [.ref l0, .float 0, .float 0, .float 0]) (st' := [.int (gI h a2 3)]) (h2 := h) rfl rfl (fun C Cr hc kk => x_aload_n C (v := .ref l0) rfl rfl dX11_shown_68 (f_getR1 C lX11_52 g1 rfl ea2 dX11_shown_69 (f_getIN C lX11_257 g3 rfl dX11_shown_72 (kk)))) ?_
  exact zX_ret (some (.int (gI h a2 3))) (fun C Cr hc => x_iret C Cr rfl rfl hc dX11_shown_75 ⟨rfl, rfl⟩) H
set_option maxHeartbeats 20000000 in
theorem bX11_shown_76 (l0 : Nat) (h : zH) (Q : Option Value → zH → Prop) (H : oK h l0 11 ∧ (∃ a2 : Nat, gR h l0 6 = some a2 ∧ (oK h a2 9 ∧ (Q (some (.int (gI h a2 4))) h)))) : zX mX11_shown 76 [.ref l0, .float 0, .float 0, .float 0] [] h Q := by
  obtain ⟨g1, H⟩ := H
  obtain ⟨a2, ea2, H⟩ := H
  obtain ⟨g3, H⟩ := H
  refine zX_seg (pc' := 83) (L' := [.ref l0, .float 0, .float 0, .float 0]) (st' := [.int (gI h a2 4)]) (h2 := h) rfl rfl (fun C Cr hc kk => x_aload_n C (v := .ref l0) rfl rfl dX11_shown_76 (f_getR1 C lX11_52 g1 rfl ea2 dX11_shown_77 (f_getIN C lX11_260 g3 rfl dX11_shown_80 (kk)))) ?_
  exact zX_ret (some (.int (gI h a2 4))) (fun C Cr hc => x_iret C Cr rfl rfl hc dX11_shown_83 ⟨rfl, rfl⟩) H
set_option maxHeartbeats 20000000 in
theorem bX11_shown_84 (l0 : Nat) (h : zH) (Q : Option Value → zH → Prop) (H : oK h l0 11 ∧ (∃ a2 : Nat, gR h l0 6 = some a2 ∧ (oK h a2 9 ∧ (Q (some (.int (gI h a2 5))) h)))) : zX mX11_shown 84 [.ref l0, .float 0, .float 0, .float 0] [] h Q := by
  obtain ⟨g1, H⟩ := H
  obtain ⟨a2, ea2, H⟩ := H
  obtain ⟨g3, H⟩ := H
  refine zX_seg (pc' := 91) (L' := [.ref l0, .float 0, .float 0, .float 0]) (st' := [.int (gI h a2 5)]) (h2 := h) rfl rfl (fun C Cr hc kk => x_aload_n C (v := .ref l0) rfl rfl dX11_shown_84 (f_getR1 C lX11_52 g1 rfl ea2 dX11_shown_85 (f_getIN C lX11_263 g3 rfl dX11_shown_88 (kk)))) ?_
  exact zX_ret (some (.int (gI h a2 5))) (fun C Cr hc => x_iret C Cr rfl rfl hc dX11_shown_91 ⟨rfl, rfl⟩) H
set_option maxHeartbeats 20000000 in
theorem bX11_shown_92  (h : zH) (Q : Option Value → zH → Prop) (H : Q (some (.int (-1 : Int32))) h) : zX mX11_shown 92 [.float 0, .float 0, .float 0, .float 0] [] h Q := by
  refine zX_seg (pc' := 93) (L' := [.float 0, .float 0, .float 0, .float 0]) (st' := [.int (-1 : Int32)]) (h2 := h) rfl rfl (fun C Cr hc kk => x_iconst C (-1 : Int32) (by decide) dX11_shown_92 (kk)) ?_
  exact zX_ret (some (.int (-1 : Int32))) (fun C Cr hc => x_iret C Cr rfl rfl hc dX11_shown_93 ⟨rfl, rfl⟩) H
theorem nX11_shown (t : Nat) (p0 : Int32) (p1 : Int32) (p2 : Int32) (h : zH) (Q : Option Value → zH → Prop) (H : zX mX11_shown 0 [.ref t, .int p0, .int p1, .int p2] [] h Q) : zC mX11_shown [.ref t, .int p0, .int p1, .int p2] h Q := zC_of (by decide +kernel) (by simp) (Nat.le_of_ble_eq_true rfl) H
set_option maxHeartbeats 20000000 in
theorem bX11_hand_0 (t : Nat) (p0 : Int32) (p1 : Int32) (h : zH) (Q : Option Value → zH → Prop) (H : oK h t 11 ∧ (∃ a2 : Nat, gR h t 10 = some a2 ∧ (oK h a2 10 ∧ (zC mX10_hasVoter [.ref a2, .int p0] h (fun r0 h4 => ∃ x5 : Int32, r0 = some (.int x5) ∧ ((x5 = 0 → (Q (some (.int (-1 : Int32))) h4)) ∧ (¬ (x5 = 0) → (oK h4 t 11 ∧ (∃ a8 : Nat, gR h4 t 10 = some a8 ∧ (oK h4 a8 10 ∧ (zC mX10_hasMark [.ref a8, .int p1] h4 (fun r0 h10 => ∃ x11 : Int32, r0 = some (.int x11) ∧ ((x11 = 0 → (Q (some (.int (-1 : Int32))) h10)) ∧ (¬ (x11 = 0) → (oK h10 t 11 ∧ (∃ a14 : Nat, gR h10 t 8 = some a14 ∧ (oK h10 a14 1 ∧ (∃ a16 : Nat, gR h10 a14 2 = some a16 ∧ (oK h10 a16 2 ∧ (zC mX2_tell [.ref a16, .int p0, .int p1, .int (gI h10 t 12)] h10 (fun r0 h18 => ∃ x19 : Int32, r0 = some (.int x19) ∧ (Q (some (.int x19)) h18)))))))))))))))))))))) : zX mX11_hand 0 [.ref t, .int p0, .int p1] [] h Q := by
  obtain ⟨g1, H⟩ := H
  obtain ⟨a2, ea2, H⟩ := H
  refine zX_seg (pc' := 5) (L' := [.ref t, .int p0, .int p1]) (st' := [.int p0, .ref a2]) (h2 := h) rfl rfl (fun C Cr hc kk => x_aload_n C (v := .ref t) rfl rfl dX11_hand_0 (f_getR1 C lX11_74 g1 rfl ea2 dX11_hand_1 (x_iload_n C rfl dX11_hand_4 (kk)))) ?_
  obtain ⟨g3, H⟩ := H
  refine zX_call (as := [.ref a2, .int p0]) (st := []) (fun C hM hc kk => f_callVN C [.int p0] hM kX10_hasVoter vX10_hasVoter lX11_118 ⟨by decide, by decide⟩ (rfl : vwCl[10]? = some (RX10, TX10, 10)) g3 rfl hc (Nat.le_of_ble_eq_true rfl) rfl dX11_hand_5 kk) (zC.mono H ?_)
  rintro r0 h4 ⟨x5, rfl, H⟩
  show zX mX11_hand 8 [.ref t, .int p0, .int p1] [.int x5] h4 Q
  refine zX_br (p1 := 22) (p2 := 11) (st' := []) (x5 = 0) (fun C kt kf => x_if_eq C 22 dX11_hand_8 (by decide) kt kf) (fun q6 => ?_) (fun q6 => ?_)
  · replace H := H.1 q6
    refine zX_seg (pc' := 23) (L' := [.ref t, .int p0, .int p1]) (st' := [.int (-1 : Int32)]) (h2 := h4) rfl rfl (fun C Cr hc kk => x_iconst C (-1 : Int32) (by decide) dX11_hand_22 (kk)) ?_
    exact zX_ret (some (.int (-1 : Int32))) (fun C Cr hc => x_iret C Cr rfl rfl hc dX11_hand_23 ⟨rfl, rfl⟩) H
  · replace H := H.2 q6
    obtain ⟨g7, H⟩ := H
    obtain ⟨a8, ea8, H⟩ := H
    refine zX_seg (pc' := 16) (L' := [.ref t, .int p0, .int p1]) (st' := [.int p1, .ref a8]) (h2 := h4) rfl rfl (fun C Cr hc kk => x_aload_n C (v := .ref t) rfl rfl dX11_hand_11 (f_getR1 C lX11_74 g7 rfl ea8 dX11_hand_12 (x_iload_n C rfl dX11_hand_15 (kk)))) ?_
    obtain ⟨g9, H⟩ := H
    refine zX_call (as := [.ref a8, .int p1]) (st := []) (fun C hM hc kk => f_callVN C [.int p1] hM kX10_hasMark vX10_hasMark lX11_196 ⟨by decide, by decide⟩ (rfl : vwCl[10]? = some (RX10, TX10, 10)) g9 rfl hc (Nat.le_of_ble_eq_true rfl) rfl dX11_hand_16 kk) (zC.mono H ?_)
    rintro r0 h10 ⟨x11, rfl, H⟩
    show zX mX11_hand 19 [.ref t, .int p0, .int p1] [.int x11] h10 Q
    refine zX_br (p1 := 22) (p2 := 24) (st' := []) (x11 = 0) (fun C kt kf => x_if_ne C 24 dX11_hand_19 (by decide) kf kt) (fun q12 => ?_) (fun q12 => ?_)
    · replace H := H.1 q12
      refine zX_seg (pc' := 23) (L' := [.ref t, .int p0, .int p1]) (st' := [.int (-1 : Int32)]) (h2 := h10) rfl rfl (fun C Cr hc kk => x_iconst C (-1 : Int32) (by decide) dX11_hand_22 (kk)) ?_
      exact zX_ret (some (.int (-1 : Int32))) (fun C Cr hc => x_iret C Cr rfl rfl hc dX11_hand_23 ⟨rfl, rfl⟩) H
    · replace H := H.2 q12
      obtain ⟨g13, H⟩ := H
      obtain ⟨a14, ea14, H⟩ := H
      obtain ⟨g15, H⟩ := H
      obtain ⟨a16, ea16, H⟩ := H
      refine zX_seg (pc' := 37) (L' := [.ref t, .int p0, .int p1]) (st' := [.int (gI h10 t 12), .int p1, .int p0, .ref a16]) (h2 := h10) rfl rfl (fun C Cr hc kk => x_aload_n C (v := .ref t) rfl rfl dX11_hand_24 (f_getR1 C lX11_66 g13 rfl ea14 dX11_hand_25 (f_getR1N C lX11_266 g15 rfl ea16 dX11_hand_28 (x_iload_n C rfl dX11_hand_31 (x_iload_n C rfl dX11_hand_32 (x_aload_n C (v := .ref t) rfl rfl dX11_hand_33 (f_getI C lX11_270 g13 rfl dX11_hand_34 (kk)))))))) ?_
      obtain ⟨g17, H⟩ := H
      refine zX_call (as := [.ref a16, .int p0, .int p1, .int (gI h10 t 12)]) (st := []) (fun C hM hc kk => f_callVN C [.int p0, .int p1, .int (gI h10 t 12)] hM kX2_tell vX2_tell lX11_273 ⟨by decide, by decide⟩ (rfl : vwCl[2]? = some (RX2, TX2, 7)) g17 rfl hc (Nat.le_of_ble_eq_true rfl) rfl dX11_hand_37 kk) (zC.mono H ?_)
      rintro r0 h18 ⟨x19, rfl, H⟩
      show zX mX11_hand 40 [.ref t, .int p0, .int p1] [.int x19] h18 Q
      exact zX_ret (some (.int x19)) (fun C Cr hc => x_iret C Cr rfl rfl hc dX11_hand_40 ⟨rfl, rfl⟩) H
theorem nX11_hand (t : Nat) (p0 : Int32) (p1 : Int32) (h : zH) (Q : Option Value → zH → Prop) (H : zX mX11_hand 0 [.ref t, .int p0, .int p1] [] h Q) : zC mX11_hand [.ref t, .int p0, .int p1] h Q := zC_of (by decide +kernel) (by simp) (Nat.le_of_ble_eq_true rfl) H
set_option maxHeartbeats 20000000 in
theorem bX11_untell_0 (t : Nat) (p0 : Int32) (h : zH) (Q : Option Value → zH → Prop) (H : oK h t 11 ∧ (∃ a2 : Nat, gR h t 8 = some a2 ∧ (oK h a2 1 ∧ (∃ a4 : Nat, gR h a2 2 = some a4 ∧ (oK h a4 2 ∧ (zC mX2_takeBack [.ref a4, .int p0, .int (gI h t 12)] h (fun r0 h6 => ∃ x7 : Int32, r0 = some (.int x7) ∧ ((x7 = 0 ∨ x7 = 1) ∧ (Q (some (.int x7)) h6))))))))) : zX mX11_untell 0 [.ref t, .int p0] [] h Q := by
  obtain ⟨g1, H⟩ := H
  obtain ⟨a2, ea2, H⟩ := H
  obtain ⟨g3, H⟩ := H
  obtain ⟨a4, ea4, H⟩ := H
  refine zX_seg (pc' := 12) (L' := [.ref t, .int p0]) (st' := [.int (gI h t 12), .int p0, .ref a4]) (h2 := h) rfl rfl (fun C Cr hc kk => x_aload_n C (v := .ref t) rfl rfl dX11_untell_0 (f_getR1 C lX11_66 g1 rfl ea2 dX11_untell_1 (f_getR1N C lX11_266 g3 rfl ea4 dX11_untell_4 (x_iload_n C rfl dX11_untell_7 (x_aload_n C (v := .ref t) rfl rfl dX11_untell_8 (f_getI C lX11_270 g1 rfl dX11_untell_9 (kk))))))) ?_
  obtain ⟨g5, H⟩ := H
  refine zX_call (as := [.ref a4, .int p0, .int (gI h t 12)]) (st := []) (fun C hM hc kk => f_callVN C [.int p0, .int (gI h t 12)] hM kX2_takeBack vX2_takeBack lX11_278 ⟨by decide, by decide⟩ (rfl : vwCl[2]? = some (RX2, TX2, 7)) g5 rfl hc (Nat.le_of_ble_eq_true rfl) rfl dX11_untell_12 kk) (zC.mono H ?_)
  rintro r0 h6 ⟨x7, rfl, H⟩
  show zX mX11_untell 15 [.ref t, .int p0] [.int x7] h6 Q
  obtain ⟨g8, H⟩ := H
  exact zX_ret (some (.int x7)) (fun C Cr hc => x_iret C Cr rfl (by rcases g8 with z | z <;> rw [z] <;> rfl) hc dX11_untell_15 ⟨rfl, rfl⟩) H
theorem nX11_untell (t : Nat) (p0 : Int32) (h : zH) (Q : Option Value → zH → Prop) (H : zX mX11_untell 0 [.ref t, .int p0] [] h Q) : zC mX11_untell [.ref t, .int p0] h Q := zC_of (by decide +kernel) (by simp) (Nat.le_of_ble_eq_true rfl) H
set_option maxHeartbeats 20000000 in
theorem bX11_later_0 (t : Nat) (p0 : Int32) (h : zH) (Q : Option Value → zH → Prop) (H : (p0 < 0 → (Q (some (.int (-1 : Int32))) h)) ∧ (¬ (p0 < 0) → (((1000 : Int32) < p0 → (Q (some (.int (-1 : Int32))) h)) ∧ (¬ ((1000 : Int32) < p0) → (oK h t 11 ∧ ((((gI h t 12) + p0) ≤ (100000 : Int32) → (∀ h5 : zH, h5 = (pF h t 12 (.int ((gI h t 12) + p0))) → (Q (some (.int (gI h5 t 12))) h5))) ∧ (¬ (((gI h t 12) + p0) ≤ (100000 : Int32)) → (Q (some (.int (-1 : Int32))) h)))))))) : zX mX11_later 0 [.ref t, .int p0] [] h Q := by
  refine zX_seg (pc' := 1) (L' := [.ref t, .int p0]) (st' := [.int p0]) (h2 := h) rfl rfl (fun C Cr hc kk => x_iload_n C rfl dX11_later_0 (kk)) ?_
  refine zX_br (p1 := 23) (p2 := 4) (st' := []) (p0 < 0) (fun C kt kf => x_if_lt C 23 dX11_later_1 (by decide) kt kf) (fun q1 => ?_) (fun q1 => ?_)
  · replace H := H.1 q1
    refine zX_seg (pc' := 24) (L' := [.ref t, .int p0]) (st' := [.int (-1 : Int32)]) (h2 := h) rfl rfl (fun C Cr hc kk => x_iconst C (-1 : Int32) (by decide) dX11_later_23 (kk)) ?_
    exact zX_ret (some (.int (-1 : Int32))) (fun C Cr hc => x_iret C Cr rfl rfl hc dX11_later_24 ⟨rfl, rfl⟩) H
  · replace H := H.2 q1
    refine zX_seg (pc' := 8) (L' := [.ref t, .int p0]) (st' := [.int (1000 : Int32), .int p0]) (h2 := h) rfl rfl (fun C Cr hc kk => x_iload_n C rfl dX11_later_4 (x_sipush C (1000 : Int32) (by decide) dX11_later_5 (kk))) ?_
    refine zX_br (p1 := 23) (p2 := 11) (st' := []) ((1000 : Int32) < p0) (fun C kt kf => x_icmp_gt C 23 dX11_later_8 (by decide) kt kf) (fun q2 => ?_) (fun q2 => ?_)
    · replace H := H.1 q2
      refine zX_seg (pc' := 24) (L' := [.ref t, .int p0]) (st' := [.int (-1 : Int32)]) (h2 := h) rfl rfl (fun C Cr hc kk => x_iconst C (-1 : Int32) (by decide) dX11_later_23 (kk)) ?_
      exact zX_ret (some (.int (-1 : Int32))) (fun C Cr hc => x_iret C Cr rfl rfl hc dX11_later_24 ⟨rfl, rfl⟩) H
    · replace H := H.2 q2
      obtain ⟨g3, H⟩ := H
      refine zX_seg (pc' := 20) (L' := [.ref t, .int p0]) (st' := [.int (100000 : Int32), .int ((gI h t 12) + p0)]) (h2 := h) rfl rfl (fun C Cr hc kk => x_aload_n C (v := .ref t) rfl rfl dX11_later_11 (f_getI C lX11_270 g3 rfl dX11_later_12 (x_iload_n C rfl dX11_later_15 (x_iadd C dX11_later_16 (x_ldcw C lX11_281 dX11_later_17 (kk)))))) ?_
      refine zX_br (p1 := 25) (p2 := 23) (st' := []) (((gI h t 12) + p0) ≤ (100000 : Int32)) (fun C kt kf => x_icmp_le C 25 dX11_later_20 (by decide) kt kf) (fun q4 => ?_) (fun q4 => ?_)
      · replace H := H.1 q4
        refine zX_seg (pc' := 35) (L' := [.ref t, .int p0]) (st' := []) (h2 := (pF h t 12 (.int ((gI h t 12) + p0)))) rfl rfl (fun C Cr hc kk => x_aload_n C (v := .ref t) rfl rfl dX11_later_25 (x_dup C rfl dX11_later_26 (f_getI C lX11_270 g3 rfl dX11_later_27 (x_iload_n C rfl dX11_later_30 (x_iadd C dX11_later_31 (f_putI C lX11_270 tX11 nX11_12 g3 rfl rfl dX11_later_32 (kk))))))) ?_
        obtain ⟨h5, eh5⟩ : ∃ y : zH, y = (pF h t 12 (.int ((gI h t 12) + p0))) := ⟨_, rfl⟩
        replace H := H h5 eh5
        rw [← eh5]
        have g6 : oK h5 t 11 := by rw [eh5]; exact oK_pF' g3 rfl rfl g3
        refine zX_seg (pc' := 39) (L' := [.ref t, .int p0]) (st' := [.int (gI h5 t 12)]) (h2 := h5) rfl rfl (fun C Cr hc kk => x_aload_n C (v := .ref t) rfl rfl dX11_later_35 (f_getI C lX11_270 g6 rfl dX11_later_36 (kk))) ?_
        exact zX_ret (some (.int (gI h5 t 12))) (fun C Cr hc => x_iret C Cr rfl rfl hc dX11_later_39 ⟨rfl, rfl⟩) H
      · replace H := H.2 q4
        refine zX_seg (pc' := 24) (L' := [.ref t, .int p0]) (st' := [.int (-1 : Int32)]) (h2 := h) rfl rfl (fun C Cr hc kk => x_iconst C (-1 : Int32) (by decide) dX11_later_23 (kk)) ?_
        exact zX_ret (some (.int (-1 : Int32))) (fun C Cr hc => x_iret C Cr rfl rfl hc dX11_later_24 ⟨rfl, rfl⟩) H
theorem nX11_later (t : Nat) (p0 : Int32) (h : zH) (Q : Option Value → zH → Prop) (H : zX mX11_later 0 [.ref t, .int p0] [] h Q) : zC mX11_later [.ref t, .int p0] h Q := zC_of (by decide +kernel) (by simp) (Nat.le_of_ble_eq_true rfl) H
set_option maxHeartbeats 20000000 in
theorem bX11_left_0 (t : Nat) (p0 : Int32) (h : zH) (Q : Option Value → zH → Prop) (H : oK h t 11 ∧ (∃ a2 : Nat, gR h t 3 = some a2 ∧ (∃ a3 : Nat, gR h t 10 = some a3 ∧ (∃ a4 : Nat, gR h t 8 = some a4 ∧ (oK h a2 5 ∧ (zC mX5_refresh [.ref a2, .ref a3, .ref a4] h (fun r0 h6 => r0 = none ∧ (oK h6 t 11 ∧ (∃ a8 : Nat, gR h6 t 8 = some a8 ∧ (oK h6 a8 1 ∧ (∃ a10 : Nat, gR h6 a8 2 = some a10 ∧ (∃ a11 : Nat, gR h6 t 10 = some a11 ∧ (oK h6 a10 2 ∧ (zC mX2_gather [.ref a10, .int p0, .ref a11] h6 (fun r0 h13 => ∃ x14 : Int32, r0 = some (.int x14) ∧ ((x14 = 0 → (Q (some (.int (0 : Int32))) h13)) ∧ (¬ (x14 = 0) → (zX mX11_left 39 [.ref t, .float 0, .int (0 : Int32), .int (0 : Int32)] [] h13 Q)))))))))))))))))) : zX mX11_left 0 [.ref t, .int p0, .float 0, .float 0] [] h Q := by
  obtain ⟨g1, H⟩ := H
  obtain ⟨a2, ea2, H⟩ := H
  obtain ⟨a3, ea3, H⟩ := H
  obtain ⟨a4, ea4, H⟩ := H
  refine zX_seg (pc' := 12) (L' := [.ref t, .int p0, .float 0, .float 0]) (st' := [.ref a4, .ref a3, .ref a2]) (h2 := h) rfl rfl (fun C Cr hc kk => x_aload_n C (v := .ref t) rfl rfl dX11_left_0 (f_getR1 C lX11_31 g1 rfl ea2 dX11_left_1 (x_aload_n C (v := .ref t) rfl rfl dX11_left_4 (f_getR1 C lX11_74 g1 rfl ea3 dX11_left_5 (x_aload_n C (v := .ref t) rfl rfl dX11_left_8 (f_getR1 C lX11_66 g1 rfl ea4 dX11_left_9 (kk))))))) ?_
  obtain ⟨g5, H⟩ := H
  refine zX_call (as := [.ref a2, .ref a3, .ref a4]) (st := []) (fun C hM hc kk => f_callVN C [.ref a3, .ref a4] hM kX5_refresh vX5_refresh lX11_149 ⟨by decide, by decide⟩ (rfl : vwCl[5]? = some (RX5, TX5, 9)) g5 rfl hc (Nat.le_of_ble_eq_true rfl) rfl dX11_left_12 kk) (zC.mono H ?_)
  rintro r0 h6 ⟨rfl, H⟩
  show zX mX11_left 15 [.ref t, .int p0, .float 0, .float 0] [] h6 Q
  obtain ⟨g7, H⟩ := H
  obtain ⟨a8, ea8, H⟩ := H
  obtain ⟨g9, H⟩ := H
  obtain ⟨a10, ea10, H⟩ := H
  obtain ⟨a11, ea11, H⟩ := H
  refine zX_seg (pc' := 27) (L' := [.ref t, .int p0, .float 0, .float 0]) (st' := [.ref a11, .int p0, .ref a10]) (h2 := h6) rfl rfl (fun C Cr hc kk => x_aload_n C (v := .ref t) rfl rfl dX11_left_15 (f_getR1 C lX11_66 g7 rfl ea8 dX11_left_16 (f_getR1N C lX11_266 g9 rfl ea10 dX11_left_19 (x_iload_n C rfl dX11_left_22 (x_aload_n C (v := .ref t) rfl rfl dX11_left_23 (f_getR1 C lX11_74 g7 rfl ea11 dX11_left_24 (kk))))))) ?_
  obtain ⟨g12, H⟩ := H
  refine zX_call (as := [.ref a10, .int p0, .ref a11]) (st := []) (fun C hM hc kk => f_callVN C [.int p0, .ref a11] hM kX2_gather vX2_gather lX11_282 ⟨by decide, by decide⟩ (rfl : vwCl[2]? = some (RX2, TX2, 7)) g12 rfl hc (Nat.le_of_ble_eq_true rfl) rfl dX11_left_27 kk) (zC.mono H ?_)
  rintro r0 h13 ⟨x14, rfl, H⟩
  show zX mX11_left 30 [.ref t, .int p0, .float 0, .float 0] [.int x14] h13 Q
  refine zX_br (p1 := 33) (p2 := 35) (st' := []) (x14 = 0) (fun C kt kf => x_if_ne C 35 dX11_left_30 (by decide) kf kt) (fun q15 => ?_) (fun q15 => ?_)
  · replace H := H.1 q15
    refine zX_seg (pc' := 34) (L' := [.ref t, .int p0, .float 0, .float 0]) (st' := [.int (0 : Int32)]) (h2 := h13) rfl rfl (fun C Cr hc kk => x_iconst C (0 : Int32) (by decide) dX11_left_33 (kk)) ?_
    exact zX_ret (some (.int (0 : Int32))) (fun C Cr hc => x_iret C Cr rfl rfl hc dX11_left_34 ⟨rfl, rfl⟩) H
  · replace H := H.2 q15
    refine zX_seg (pc' := 39) (L' := [.ref t, .int p0, .int (0 : Int32), .int (0 : Int32)]) (st' := []) (h2 := h13) rfl rfl (fun C Cr hc kk => x_iconst C (0 : Int32) (by decide) dX11_left_35 (x_istore_n C (by decide) dX11_left_36 (x_iconst C (0 : Int32) (by decide) dX11_left_37 (x_istore_n C (by decide) dX11_left_38 (kk))))) ?_
    exact zX_wk (wkK (wkD (wkK (wkK wkN)))) H
set_option maxHeartbeats 20000000 in
theorem bX11_left_39 (l0 : Nat) (l2 : Int32) (l3 : Int32) (h : zH) (Q : Option Value → zH → Prop) (H : oK h l0 11 ∧ (∃ a2 : Nat, gR h l0 3 = some a2 ∧ (oK h a2 5 ∧ (((gI h a2 5) ≤ l3 → (Q (some (.int l2)) h)) ∧ (¬ ((gI h a2 5) ≤ l3) → (∃ a5 : Nat, gR h l0 8 = some a5 ∧ (oK h a5 1 ∧ (∃ a7 : Nat, gR h a5 2 = some a7 ∧ (∃ a8 : Nat, gR h a2 3 = some a8 ∧ (zC mX11_at [.ref a8, .int l3] h (fun r0 h9 => ∃ x10 : Int32, r0 = some (.int x10) ∧ (oK h9 a7 2 ∧ (zC mX2_agreeWith [.ref a7, .int x10] h9 (fun r0 h12 => ∃ x13 : Int32, r0 = some (.int x13) ∧ ((x13 = 0 → (zX mX11_left 39 [.ref l0, .float 0, .int l2, .int (l3 + 1)] [] h12 Q)) ∧ (¬ (x13 = 0) → (zX mX11_left 39 [.ref l0, .float 0, .int (l2 + 1), .int (l3 + 1)] [] h12 Q))))))))))))))))) : zX mX11_left 39 [.ref l0, .float 0, .int l2, .int l3] [] h Q := by
  obtain ⟨g1, H⟩ := H
  obtain ⟨a2, ea2, H⟩ := H
  obtain ⟨g3, H⟩ := H
  refine zX_seg (pc' := 47) (L' := [.ref l0, .float 0, .int l2, .int l3]) (st' := [.int (gI h a2 5), .int l3]) (h2 := h) rfl rfl (fun C Cr hc kk => x_iload_n C rfl dX11_left_39 (x_aload_n C (v := .ref l0) rfl rfl dX11_left_40 (f_getR1 C lX11_31 g1 rfl ea2 dX11_left_41 (f_getIN C lX11_153 g3 rfl dX11_left_44 (kk))))) ?_
  refine zX_br (p1 := 83) (p2 := 50) (st' := []) ((gI h a2 5) ≤ l3) (fun C kt kf => x_icmp_ge C 83 dX11_left_47 (by decide) kt kf) (fun q4 => ?_) (fun q4 => ?_)
  · replace H := H.1 q4
    refine zX_seg (pc' := 84) (L' := [.ref l0, .float 0, .int l2, .int l3]) (st' := [.int l2]) (h2 := h) rfl rfl (fun C Cr hc kk => x_iload_n C rfl dX11_left_83 (kk)) ?_
    exact zX_ret (some (.int l2)) (fun C Cr hc => x_iret C Cr rfl rfl hc dX11_left_84 ⟨rfl, rfl⟩) H
  · replace H := H.2 q4
    obtain ⟨a5, ea5, H⟩ := H
    obtain ⟨g6, H⟩ := H
    obtain ⟨a7, ea7, H⟩ := H
    obtain ⟨a8, ea8, H⟩ := H
    refine zX_seg (pc' := 65) (L' := [.ref l0, .float 0, .int l2, .int l3]) (st' := [.int l3, .ref a8, .ref a7]) (h2 := h) rfl rfl (fun C Cr hc kk => x_aload_n C (v := .ref l0) rfl rfl dX11_left_50 (f_getR1 C lX11_66 g1 rfl ea5 dX11_left_51 (f_getR1N C lX11_266 g6 rfl ea7 dX11_left_54 (x_aload_n C (v := .ref l0) rfl rfl dX11_left_57 (f_getR1 C lX11_31 g1 rfl ea2 dX11_left_58 (f_getR1N C lX11_159 g3 rfl ea8 dX11_left_61 (x_iload_n C rfl dX11_left_64 (kk)))))))) ?_
    refine zX_call (as := [.ref a8, .int l3]) (st := [.ref a7]) (fun C hM hc kk => x_callS C [.ref a8, .int l3] hM kX11_at sX11_at lX11_163 ⟨by decide, by decide⟩ rfl hc (Nat.le_of_ble_eq_true rfl) rfl dX11_left_65 kk) (zC.mono H ?_)
    rintro r0 h9 ⟨x10, rfl, H⟩
    show zX mX11_left 68 [.ref l0, .float 0, .int l2, .int l3] [.int x10, .ref a7] h9 Q
    obtain ⟨g11, H⟩ := H
    refine zX_call (as := [.ref a7, .int x10]) (st := []) (fun C hM hc kk => f_callVN C [.int x10] hM kX2_agreeWith vX2_agreeWith lX11_286 ⟨by decide, by decide⟩ (rfl : vwCl[2]? = some (RX2, TX2, 7)) g11 rfl hc (Nat.le_of_ble_eq_true rfl) rfl dX11_left_68 kk) (zC.mono H ?_)
    rintro r0 h12 ⟨x13, rfl, H⟩
    show zX mX11_left 71 [.ref l0, .float 0, .int l2, .int l3] [.int x13] h12 Q
    refine zX_br (p1 := 77) (p2 := 74) (st' := []) (x13 = 0) (fun C kt kf => x_if_eq C 77 dX11_left_71 (by decide) kt kf) (fun q14 => ?_) (fun q14 => ?_)
    · replace H := H.1 q14
      refine zX_seg (pc' := 39) (L' := [.ref l0, .float 0, .int l2, .int (l3 + 1)]) (st' := []) (h2 := h12) rfl rfl (fun C Cr hc kk => x_iinc C (l3 + 1) rfl (congrArg (HAdd.hAdd _) (by decide)) (by decide) dX11_left_77 (x_goto C 39 dX11_left_80 (by decide) (kk))) ?_
      exact zX_wk (wkK (wkD (wkK (wkK wkN)))) H
    · replace H := H.2 q14
      refine zX_seg (pc' := 39) (L' := [.ref l0, .float 0, .int (l2 + 1), .int (l3 + 1)]) (st' := []) (h2 := h12) rfl rfl (fun C Cr hc kk => x_iinc C (l2 + 1) rfl (congrArg (HAdd.hAdd _) (by decide)) (by decide) dX11_left_74 (x_iinc C (l3 + 1) rfl (congrArg (HAdd.hAdd _) (by decide)) (by decide) dX11_left_77 (x_goto C 39 dX11_left_80 (by decide) (kk)))) ?_
      exact zX_wk (wkK (wkD (wkK (wkK wkN)))) H
theorem nX11_left (t : Nat) (p0 : Int32) (h : zH) (Q : Option Value → zH → Prop) (H : zX mX11_left 0 [.ref t, .int p0, .float 0, .float 0] [] h Q) : zC mX11_left [.ref t, .int p0] h Q := zC_of (by decide +kernel) (by simp) (Nat.le_of_ble_eq_true rfl) H
set_option maxHeartbeats 20000000 in
theorem bX11_sure_0 (t : Nat) (p0 : Int32) (p1 : Int32) (h : zH) (Q : Option Value → zH → Prop) (H : oK h t 11 ∧ (∃ a2 : Nat, gR h t 3 = some a2 ∧ (∃ a3 : Nat, gR h t 10 = some a3 ∧ (∃ a4 : Nat, gR h t 8 = some a4 ∧ (oK h a2 5 ∧ (zC mX5_refresh [.ref a2, .ref a3, .ref a4] h (fun r0 h6 => r0 = none ∧ (oK h6 t 11 ∧ (∃ a8 : Nat, gR h6 t 10 = some a8 ∧ (oK h6 a8 10 ∧ (zC mX10_hasVoter [.ref a8, .int p0] h6 (fun r0 h10 => ∃ x11 : Int32, r0 = some (.int x11) ∧ ((x11 = 0 → (Q (some (.int (-1 : Int32))) h10)) ∧ (¬ (x11 = 0) → (oK h10 t 11 ∧ (∃ a14 : Nat, gR h10 t 8 = some a14 ∧ (oK h10 a14 1 ∧ (∃ a16 : Nat, gR h10 a14 2 = some a16 ∧ (∃ a17 : Nat, gR h10 t 10 = some a17 ∧ (oK h10 a16 2 ∧ (zC mX2_gather [.ref a16, .int p1, .ref a17] h10 (fun r0 h19 => ∃ x20 : Int32, r0 = some (.int x20) ∧ ((x20 = 0 → (Q (some (.int (-1 : Int32))) h19)) ∧ (¬ (x20 = 0) → (zX mX11_sure 51 [.ref t, .int p0, .float 0, .int (-1 : Int32), .int (0 : Int32), .float 0, .float 0] [] h19 Q))))))))))))))))))))))))) : zX mX11_sure 0 [.ref t, .int p0, .int p1, .float 0, .float 0, .float 0, .float 0] [] h Q := by
  obtain ⟨g1, H⟩ := H
  obtain ⟨a2, ea2, H⟩ := H
  obtain ⟨a3, ea3, H⟩ := H
  obtain ⟨a4, ea4, H⟩ := H
  refine zX_seg (pc' := 12) (L' := [.ref t, .int p0, .int p1, .float 0, .float 0, .float 0, .float 0]) (st' := [.ref a4, .ref a3, .ref a2]) (h2 := h) rfl rfl (fun C Cr hc kk => x_aload_n C (v := .ref t) rfl rfl dX11_sure_0 (f_getR1 C lX11_31 g1 rfl ea2 dX11_sure_1 (x_aload_n C (v := .ref t) rfl rfl dX11_sure_4 (f_getR1 C lX11_74 g1 rfl ea3 dX11_sure_5 (x_aload_n C (v := .ref t) rfl rfl dX11_sure_8 (f_getR1 C lX11_66 g1 rfl ea4 dX11_sure_9 (kk))))))) ?_
  obtain ⟨g5, H⟩ := H
  refine zX_call (as := [.ref a2, .ref a3, .ref a4]) (st := []) (fun C hM hc kk => f_callVN C [.ref a3, .ref a4] hM kX5_refresh vX5_refresh lX11_149 ⟨by decide, by decide⟩ (rfl : vwCl[5]? = some (RX5, TX5, 9)) g5 rfl hc (Nat.le_of_ble_eq_true rfl) rfl dX11_sure_12 kk) (zC.mono H ?_)
  rintro r0 h6 ⟨rfl, H⟩
  show zX mX11_sure 15 [.ref t, .int p0, .int p1, .float 0, .float 0, .float 0, .float 0] [] h6 Q
  obtain ⟨g7, H⟩ := H
  obtain ⟨a8, ea8, H⟩ := H
  refine zX_seg (pc' := 20) (L' := [.ref t, .int p0, .int p1, .float 0, .float 0, .float 0, .float 0]) (st' := [.int p0, .ref a8]) (h2 := h6) rfl rfl (fun C Cr hc kk => x_aload_n C (v := .ref t) rfl rfl dX11_sure_15 (f_getR1 C lX11_74 g7 rfl ea8 dX11_sure_16 (x_iload_n C rfl dX11_sure_19 (kk)))) ?_
  obtain ⟨g9, H⟩ := H
  refine zX_call (as := [.ref a8, .int p0]) (st := []) (fun C hM hc kk => f_callVN C [.int p0] hM kX10_hasVoter vX10_hasVoter lX11_118 ⟨by decide, by decide⟩ (rfl : vwCl[10]? = some (RX10, TX10, 10)) g9 rfl hc (Nat.le_of_ble_eq_true rfl) rfl dX11_sure_20 kk) (zC.mono H ?_)
  rintro r0 h10 ⟨x11, rfl, H⟩
  show zX mX11_sure 23 [.ref t, .int p0, .int p1, .float 0, .float 0, .float 0, .float 0] [.int x11] h10 Q
  refine zX_br (p1 := 44) (p2 := 26) (st' := []) (x11 = 0) (fun C kt kf => x_if_eq C 44 dX11_sure_23 (by decide) kt kf) (fun q12 => ?_) (fun q12 => ?_)
  · replace H := H.1 q12
    refine zX_seg (pc' := 45) (L' := [.ref t, .int p0, .int p1, .float 0, .float 0, .float 0, .float 0]) (st' := [.int (-1 : Int32)]) (h2 := h10) rfl rfl (fun C Cr hc kk => x_iconst C (-1 : Int32) (by decide) dX11_sure_44 (kk)) ?_
    exact zX_ret (some (.int (-1 : Int32))) (fun C Cr hc => x_iret C Cr rfl rfl hc dX11_sure_45 ⟨rfl, rfl⟩) H
  · replace H := H.2 q12
    obtain ⟨g13, H⟩ := H
    obtain ⟨a14, ea14, H⟩ := H
    obtain ⟨g15, H⟩ := H
    obtain ⟨a16, ea16, H⟩ := H
    obtain ⟨a17, ea17, H⟩ := H
    refine zX_seg (pc' := 38) (L' := [.ref t, .int p0, .int p1, .float 0, .float 0, .float 0, .float 0]) (st' := [.ref a17, .int p1, .ref a16]) (h2 := h10) rfl rfl (fun C Cr hc kk => x_aload_n C (v := .ref t) rfl rfl dX11_sure_26 (f_getR1 C lX11_66 g13 rfl ea14 dX11_sure_27 (f_getR1N C lX11_266 g15 rfl ea16 dX11_sure_30 (x_iload_n C rfl dX11_sure_33 (x_aload_n C (v := .ref t) rfl rfl dX11_sure_34 (f_getR1 C lX11_74 g13 rfl ea17 dX11_sure_35 (kk))))))) ?_
    obtain ⟨g18, H⟩ := H
    refine zX_call (as := [.ref a16, .int p1, .ref a17]) (st := []) (fun C hM hc kk => f_callVN C [.int p1, .ref a17] hM kX2_gather vX2_gather lX11_282 ⟨by decide, by decide⟩ (rfl : vwCl[2]? = some (RX2, TX2, 7)) g18 rfl hc (Nat.le_of_ble_eq_true rfl) rfl dX11_sure_38 kk) (zC.mono H ?_)
    rintro r0 h19 ⟨x20, rfl, H⟩
    show zX mX11_sure 41 [.ref t, .int p0, .int p1, .float 0, .float 0, .float 0, .float 0] [.int x20] h19 Q
    refine zX_br (p1 := 44) (p2 := 46) (st' := []) (x20 = 0) (fun C kt kf => x_if_ne C 46 dX11_sure_41 (by decide) kf kt) (fun q21 => ?_) (fun q21 => ?_)
    · replace H := H.1 q21
      refine zX_seg (pc' := 45) (L' := [.ref t, .int p0, .int p1, .float 0, .float 0, .float 0, .float 0]) (st' := [.int (-1 : Int32)]) (h2 := h19) rfl rfl (fun C Cr hc kk => x_iconst C (-1 : Int32) (by decide) dX11_sure_44 (kk)) ?_
      exact zX_ret (some (.int (-1 : Int32))) (fun C Cr hc => x_iret C Cr rfl rfl hc dX11_sure_45 ⟨rfl, rfl⟩) H
    · replace H := H.2 q21
      refine zX_seg (pc' := 51) (L' := [.ref t, .int p0, .int p1, .int (-1 : Int32), .int (0 : Int32), .float 0, .float 0]) (st' := []) (h2 := h19) rfl rfl (fun C Cr hc kk => x_iconst C (-1 : Int32) (by decide) dX11_sure_46 (x_istore_n C (by decide) dX11_sure_47 (x_iconst C (0 : Int32) (by decide) dX11_sure_48 (x_istore C (by decide) dX11_sure_49 (kk))))) ?_
      exact zX_wk (wkK (wkK (wkD (wkK (wkK (wkD (wkD wkN))))))) H
set_option maxHeartbeats 20000000 in
theorem bX11_sure_51 (l0 : Nat) (l1 : Int32) (l3 : Int32) (l4 : Int32) (h : zH) (Q : Option Value → zH → Prop) (H : oK h l0 11 ∧ (∃ a2 : Nat, gR h l0 3 = some a2 ∧ (oK h a2 5 ∧ (((gI h a2 5) ≤ l4 → (Q (some (.int l3)) h)) ∧ (¬ ((gI h a2 5) ≤ l4) → (∃ a5 : Nat, gR h a2 3 = some a5 ∧ (zC mX11_at [.ref a5, .int l4] h (fun r0 h6 => ∃ x7 : Int32, r0 = some (.int x7) ∧ (oK h6 l0 11 ∧ (∃ a9 : Nat, gR h6 l0 8 = some a9 ∧ (oK h6 a9 1 ∧ (∃ a11 : Nat, gR h6 a9 2 = some a11 ∧ (oK h6 a11 2 ∧ (zC mX2_agreeWith [.ref a11, .int x7] h6 (fun r0 h13 => ∃ x14 : Int32, r0 = some (.int x14) ∧ ((x14 = 0 → (zX mX11_sure 51 [.ref l0, .int l1, .float 0, .int l3, .int (l4 + 1), .float 0, .float 0] [] h13 Q)) ∧ (¬ (x14 = 0) → (oK h13 l0 11 ∧ (∃ a17 : Nat, gR h13 l0 10 = some a17 ∧ (oK h13 a17 10 ∧ (zC mX10_markOf [.ref a17, .int x7, .int l1] h13 (fun r0 h19 => ∃ x20 : Int32, r0 = some (.int x20) ∧ ((l3 = (-1 : Int32) → (zX mX11_sure 51 [.ref l0, .int l1, .float 0, .int x20, .int (l4 + 1), .float 0, .float 0] [] h19 Q)) ∧ (¬ (l3 = (-1 : Int32)) → ((l3 = x20 → (zX mX11_sure 51 [.ref l0, .int l1, .float 0, .int x20, .int (l4 + 1), .float 0, .float 0] [] h19 Q)) ∧ (¬ (l3 = x20) → (Q (some (.int (-2 : Int32))) h19))))))))))))))))))))))))))) : zX mX11_sure 51 [.ref l0, .int l1, .float 0, .int l3, .int l4, .float 0, .float 0] [] h Q := by
  obtain ⟨g1, H⟩ := H
  obtain ⟨a2, ea2, H⟩ := H
  obtain ⟨g3, H⟩ := H
  refine zX_seg (pc' := 60) (L' := [.ref l0, .int l1, .float 0, .int l3, .int l4, .float 0, .float 0]) (st' := [.int (gI h a2 5), .int l4]) (h2 := h) rfl rfl (fun C Cr hc kk => x_iload C rfl dX11_sure_51 (x_aload_n C (v := .ref l0) rfl rfl dX11_sure_53 (f_getR1 C lX11_31 g1 rfl ea2 dX11_sure_54 (f_getIN C lX11_153 g3 rfl dX11_sure_57 (kk))))) ?_
  refine zX_br (p1 := 130) (p2 := 63) (st' := []) ((gI h a2 5) ≤ l4) (fun C kt kf => x_icmp_ge C 130 dX11_sure_60 (by decide) kt kf) (fun q4 => ?_) (fun q4 => ?_)
  · replace H := H.1 q4
    refine zX_seg (pc' := 131) (L' := [.ref l0, .int l1, .float 0, .int l3, .int l4, .float 0, .float 0]) (st' := [.int l3]) (h2 := h) rfl rfl (fun C Cr hc kk => x_iload_n C rfl dX11_sure_130 (kk)) ?_
    exact zX_ret (some (.int l3)) (fun C Cr hc => x_iret C Cr rfl rfl hc dX11_sure_131 ⟨rfl, rfl⟩) H
  · replace H := H.2 q4
    obtain ⟨a5, ea5, H⟩ := H
    refine zX_seg (pc' := 72) (L' := [.ref l0, .int l1, .float 0, .int l3, .int l4, .float 0, .float 0]) (st' := [.int l4, .ref a5]) (h2 := h) rfl rfl (fun C Cr hc kk => x_aload_n C (v := .ref l0) rfl rfl dX11_sure_63 (f_getR1 C lX11_31 g1 rfl ea2 dX11_sure_64 (f_getR1N C lX11_159 g3 rfl ea5 dX11_sure_67 (x_iload C rfl dX11_sure_70 (kk))))) ?_
    refine zX_call (as := [.ref a5, .int l4]) (st := []) (fun C hM hc kk => x_callS C [.ref a5, .int l4] hM kX11_at sX11_at lX11_163 ⟨by decide, by decide⟩ rfl hc (Nat.le_of_ble_eq_true rfl) rfl dX11_sure_72 kk) (zC.mono H ?_)
    rintro r0 h6 ⟨x7, rfl, H⟩
    show zX mX11_sure 75 [.ref l0, .int l1, .float 0, .int l3, .int l4, .float 0, .float 0] [.int x7] h6 Q
    obtain ⟨g8, H⟩ := H
    obtain ⟨a9, ea9, H⟩ := H
    obtain ⟨g10, H⟩ := H
    obtain ⟨a11, ea11, H⟩ := H
    refine zX_seg (pc' := 86) (L' := [.ref l0, .int l1, .float 0, .int l3, .int l4, .int x7, .float 0]) (st' := [.int x7, .ref a11]) (h2 := h6) rfl rfl (fun C Cr hc kk => x_istore C (by decide) dX11_sure_75 (x_aload_n C (v := .ref l0) rfl rfl dX11_sure_77 (f_getR1 C lX11_66 g8 rfl ea9 dX11_sure_78 (f_getR1N C lX11_266 g10 rfl ea11 dX11_sure_81 (x_iload C rfl dX11_sure_84 (kk)))))) ?_
    obtain ⟨g12, H⟩ := H
    refine zX_call (as := [.ref a11, .int x7]) (st := []) (fun C hM hc kk => f_callVN C [.int x7] hM kX2_agreeWith vX2_agreeWith lX11_286 ⟨by decide, by decide⟩ (rfl : vwCl[2]? = some (RX2, TX2, 7)) g12 rfl hc (Nat.le_of_ble_eq_true rfl) rfl dX11_sure_86 kk) (zC.mono H ?_)
    rintro r0 h13 ⟨x14, rfl, H⟩
    show zX mX11_sure 89 [.ref l0, .int l1, .float 0, .int l3, .int l4, .int x7, .float 0] [.int x14] h13 Q
    refine zX_br (p1 := 92) (p2 := 95) (st' := []) (x14 = 0) (fun C kt kf => x_if_ne C 95 dX11_sure_89 (by decide) kf kt) (fun q15 => ?_) (fun q15 => ?_)
    · replace H := H.1 q15
      refine zX_seg (pc' := 51) (L' := [.ref l0, .int l1, .float 0, .int l3, .int (l4 + 1), .int x7, .float 0]) (st' := []) (h2 := h13) rfl rfl (fun C Cr hc kk => x_goto C 124 dX11_sure_92 (by decide) (x_iinc C (l4 + 1) rfl (congrArg (HAdd.hAdd _) (by decide)) (by decide) dX11_sure_124 (x_goto C 51 dX11_sure_127 (by decide) (kk)))) ?_
      exact zX_wk (wkK (wkK (wkD (wkK (wkK (wkD (wkD wkN))))))) H
    · replace H := H.2 q15
      obtain ⟨g16, H⟩ := H
      obtain ⟨a17, ea17, H⟩ := H
      refine zX_seg (pc' := 102) (L' := [.ref l0, .int l1, .float 0, .int l3, .int l4, .int x7, .float 0]) (st' := [.int l1, .int x7, .ref a17]) (h2 := h13) rfl rfl (fun C Cr hc kk => x_aload_n C (v := .ref l0) rfl rfl dX11_sure_95 (f_getR1 C lX11_74 g16 rfl ea17 dX11_sure_96 (x_iload C rfl dX11_sure_99 (x_iload_n C rfl dX11_sure_101 (kk))))) ?_
      obtain ⟨g18, H⟩ := H
      refine zX_call (as := [.ref a17, .int x7, .int l1]) (st := []) (fun C hM hc kk => f_callVN C [.int x7, .int l1] hM kX10_markOf vX10_markOf lX11_167 ⟨by decide, by decide⟩ (rfl : vwCl[10]? = some (RX10, TX10, 10)) g18 rfl hc (Nat.le_of_ble_eq_true rfl) rfl dX11_sure_102 kk) (zC.mono H ?_)
      rintro r0 h19 ⟨x20, rfl, H⟩
      show zX mX11_sure 105 [.ref l0, .int l1, .float 0, .int l3, .int l4, .int x7, .float 0] [.int x20] h19 Q
      refine zX_seg (pc' := 109) (L' := [.ref l0, .int l1, .float 0, .int l3, .int l4, .int x7, .int x20]) (st' := [.int (-1 : Int32), .int l3]) (h2 := h19) rfl rfl (fun C Cr hc kk => x_istore C (by decide) dX11_sure_105 (x_iload_n C rfl dX11_sure_107 (x_iconst C (-1 : Int32) (by decide) dX11_sure_108 (kk)))) ?_
      refine zX_br (p1 := 121) (p2 := 112) (st' := []) (l3 = (-1 : Int32)) (fun C kt kf => x_icmp_eq C 121 dX11_sure_109 (by decide) kt kf) (fun q21 => ?_) (fun q21 => ?_)
      · replace H := H.1 q21
        refine zX_seg (pc' := 51) (L' := [.ref l0, .int l1, .float 0, .int x20, .int (l4 + 1), .int x7, .int x20]) (st' := []) (h2 := h19) rfl rfl (fun C Cr hc kk => x_iload C rfl dX11_sure_121 (x_istore_n C (by decide) dX11_sure_123 (x_iinc C (l4 + 1) rfl (congrArg (HAdd.hAdd _) (by decide)) (by decide) dX11_sure_124 (x_goto C 51 dX11_sure_127 (by decide) (kk))))) ?_
        exact zX_wk (wkK (wkK (wkD (wkK (wkK (wkD (wkD wkN))))))) H
      · replace H := H.2 q21
        refine zX_seg (pc' := 115) (L' := [.ref l0, .int l1, .float 0, .int l3, .int l4, .int x7, .int x20]) (st' := [.int x20, .int l3]) (h2 := h19) rfl rfl (fun C Cr hc kk => x_iload_n C rfl dX11_sure_112 (x_iload C rfl dX11_sure_113 (kk))) ?_
        refine zX_br (p1 := 121) (p2 := 118) (st' := []) (l3 = x20) (fun C kt kf => x_icmp_eq C 121 dX11_sure_115 (by decide) kt kf) (fun q22 => ?_) (fun q22 => ?_)
        · replace H := H.1 q22
          refine zX_seg (pc' := 51) (L' := [.ref l0, .int l1, .float 0, .int x20, .int (l4 + 1), .int x7, .int x20]) (st' := []) (h2 := h19) rfl rfl (fun C Cr hc kk => x_iload C rfl dX11_sure_121 (x_istore_n C (by decide) dX11_sure_123 (x_iinc C (l4 + 1) rfl (congrArg (HAdd.hAdd _) (by decide)) (by decide) dX11_sure_124 (x_goto C 51 dX11_sure_127 (by decide) (kk))))) ?_
          exact zX_wk (wkK (wkK (wkD (wkK (wkK (wkD (wkD wkN))))))) H
        · replace H := H.2 q22
          refine zX_seg (pc' := 120) (L' := [.ref l0, .int l1, .float 0, .int l3, .int l4, .int x7, .int x20]) (st' := [.int (-2 : Int32)]) (h2 := h19) rfl rfl (fun C Cr hc kk => x_bipush C (-2 : Int32) (by decide) dX11_sure_118 (kk)) ?_
          exact zX_ret (some (.int (-2 : Int32))) (fun C Cr hc => x_iret C Cr rfl rfl hc dX11_sure_120 ⟨rfl, rfl⟩) H
theorem nX11_sure (t : Nat) (p0 : Int32) (p1 : Int32) (h : zH) (Q : Option Value → zH → Prop) (H : zX mX11_sure 0 [.ref t, .int p0, .int p1, .float 0, .float 0, .float 0, .float 0] [] h Q) : zC mX11_sure [.ref t, .int p0, .int p1] h Q := zC_of (by decide +kernel) (by simp) (Nat.le_of_ble_eq_true rfl) H
set_option maxHeartbeats 20000000 in
theorem bX11_image_0 (t : Nat) (p0 : Int32) (h : zH) (Q : Option Value → zH → Prop) (H : oK h t 11 ∧ (zC mX11_boxAt [.ref t, .int p0] h (fun r0 h2 => ∃ x3 : Option Nat, r0 = some (zr x3) ∧ ((x3 = none → (Q (some (.int (-1 : Int32))) h2)) ∧ (¬ (x3 = none) → (∃ a5 : Nat, x3 = some a5 ∧ (oK h2 t 11 ∧ (∃ a7 : Nat, gR h2 t 8 = some a7 ∧ (oK h2 a5 1 ∧ (zC mX1_become [.ref a5, .ref a7] h2 (fun r0 h9 => r0 = none ∧ (oK h9 a5 1 ∧ (∀ h11 : zH, h11 = (pF h9 a5 4 (.int (1 : Int32))) → (oK h11 t 11 ∧ (∃ a14 : Nat, gR h11 t 8 = some a14 ∧ (oK h11 a14 1 ∧ (∃ a16 : Nat, gR h11 a14 2 = some a16 ∧ (oK h11 a16 2 ∧ (Q (some (.int (gI h11 a16 4))) h11))))))))))))))))))) : zX mX11_image 0 [.ref t, .int p0, .float 0] [] h Q := by
  refine zX_seg (pc' := 2) (L' := [.ref t, .int p0, .float 0]) (st' := [.int p0, .ref t]) (h2 := h) rfl rfl (fun C Cr hc kk => x_aload_n C (v := .ref t) rfl rfl dX11_image_0 (x_iload_n C rfl dX11_image_1 (kk))) ?_
  obtain ⟨g1, H⟩ := H
  refine zX_call (as := [.ref t, .int p0]) (st := []) (fun C hM hc kk => f_callV C [.int p0] hM kX11_boxAt vX11_boxAt lX11_104 ⟨by decide, by decide⟩ (rfl : vwCl[11]? = some (RX11, TX11, 15)) g1 rfl hc (Nat.le_of_ble_eq_true rfl) rfl dX11_image_2 kk) (zC.mono H ?_)
  rintro r0 h2 ⟨x3, rfl, H⟩
  show zX mX11_image 5 [.ref t, .int p0, .float 0] [zr x3] h2 Q
  refine zX_seg (pc' := 7) (L' := [.ref t, .int p0, zr x3]) (st' := [zr x3]) (h2 := h2) rfl rfl (fun C Cr hc kk => x_astore_n C (zr_rf _) (by decide) dX11_image_5 (x_aload_n C (v := zr x3) (zr_rf _) rfl dX11_image_6 (kk))) ?_
  refine zX_br (p1 := 10) (p2 := 12) (st' := []) (x3 = none) (fun C kt kf => f_ifnonnull C 12 dX11_image_7 (by decide) kt kf) (fun q4 => ?_) (fun q4 => ?_)
  · replace H := H.1 q4
    refine zX_seg (pc' := 11) (L' := [.ref t, .int p0, zr x3]) (st' := [.int (-1 : Int32)]) (h2 := h2) rfl rfl (fun C Cr hc kk => x_iconst C (-1 : Int32) (by decide) dX11_image_10 (kk)) ?_
    exact zX_ret (some (.int (-1 : Int32))) (fun C Cr hc => x_iret C Cr rfl rfl hc dX11_image_11 ⟨rfl, rfl⟩) H
  · replace H := H.2 q4
    obtain ⟨a5, rfl, H⟩ := H
    obtain ⟨g6, H⟩ := H
    obtain ⟨a7, ea7, H⟩ := H
    refine zX_seg (pc' := 17) (L' := [.ref t, .int p0, .ref a5]) (st' := [.ref a7, .ref a5]) (h2 := h2) rfl rfl (fun C Cr hc kk => x_aload_n C (v := .ref a5) rfl rfl dX11_image_12 (x_aload_n C (v := .ref t) rfl rfl dX11_image_13 (f_getR1 C lX11_66 g6 rfl ea7 dX11_image_14 (kk)))) ?_
    obtain ⟨g8, H⟩ := H
    refine zX_call (as := [.ref a5, .ref a7]) (st := []) (fun C hM hc kk => f_callVN C [.ref a7] hM kX1_become vX1_become lX11_289 ⟨by decide, by decide⟩ (rfl : vwCl[1]? = some (RX1, TX1, 5)) g8 rfl hc (Nat.le_of_ble_eq_true rfl) rfl dX11_image_17 kk) (zC.mono H ?_)
    rintro r0 h9 ⟨rfl, H⟩
    show zX mX11_image 20 [.ref t, .int p0, .ref a5] [] h9 Q
    obtain ⟨g10, H⟩ := H
    refine zX_seg (pc' := 25) (L' := [.ref t, .int p0, .ref a5]) (st' := []) (h2 := (pF h9 a5 4 (.int (1 : Int32)))) rfl rfl (fun C Cr hc kk => x_aload_n C (v := .ref a5) rfl rfl dX11_image_20 (x_iconst C (1 : Int32) (by decide) dX11_image_21 (f_putZN C lX11_292 tX1 nX1_4 g10 rfl rfl (Or.inr rfl) dX11_image_22 (kk)))) ?_
    obtain ⟨h11, eh11⟩ : ∃ y : zH, y = (pF h9 a5 4 (.int (1 : Int32))) := ⟨_, rfl⟩
    replace H := H h11 eh11
    rw [← eh11]
    have g12 : oK h11 a5 1 := by rw [eh11]; exact oK_pF' g10 rfl rfl g10
    obtain ⟨g13, H⟩ := H
    obtain ⟨a14, ea14, H⟩ := H
    obtain ⟨g15, H⟩ := H
    obtain ⟨a16, ea16, H⟩ := H
    obtain ⟨g17, H⟩ := H
    refine zX_seg (pc' := 35) (L' := [.ref t, .int p0, .ref a5]) (st' := [.int (gI h11 a16 4)]) (h2 := h11) rfl rfl (fun C Cr hc kk => x_aload_n C (v := .ref t) rfl rfl dX11_image_25 (f_getR1 C lX11_66 g13 rfl ea14 dX11_image_26 (f_getR1N C lX11_266 g15 rfl ea16 dX11_image_29 (f_getIN C lX11_295 g17 rfl dX11_image_32 (kk))))) ?_
    exact zX_ret (some (.int (gI h11 a16 4))) (fun C Cr hc => x_iret C Cr rfl rfl hc dX11_image_35 ⟨rfl, rfl⟩) H
theorem nX11_image (t : Nat) (p0 : Int32) (h : zH) (Q : Option Value → zH → Prop) (H : zX mX11_image 0 [.ref t, .int p0, .float 0] [] h Q) : zC mX11_image [.ref t, .int p0] h Q := zC_of (by decide +kernel) (by simp) (Nat.le_of_ble_eq_true rfl) H
set_option maxHeartbeats 20000000 in
theorem bX11_back_0 (t : Nat) (p0 : Int32) (h : zH) (Q : Option Value → zH → Prop) (H : oK h t 11 ∧ (zC mX11_boxAt [.ref t, .int p0] h (fun r0 h2 => ∃ x3 : Option Nat, r0 = some (zr x3) ∧ ((x3 = none → (Q (some (.int (-1 : Int32))) h2)) ∧ (¬ (x3 = none) → (∃ a5 : Nat, x3 = some a5 ∧ (oK h2 a5 1 ∧ (((gI h2 a5 4) = 0 → (Q (some (.int (-1 : Int32))) h2)) ∧ (¬ ((gI h2 a5 4) = 0) → (oK h2 t 11 ∧ (∃ a9 : Nat, gR h2 t 8 = some a9 ∧ (oK h2 a9 1 ∧ (zC mX1_otherBallots [.ref a9, .ref a5] h2 (fun r0 h11 => ∃ x12 : Int32, r0 = some (.int x12) ∧ (oK h11 t 11 ∧ (∃ a14 : Nat, gR h11 t 8 = some a14 ∧ (oK h11 a14 1 ∧ (zC mX1_become [.ref a14, .ref a5] h11 (fun r0 h16 => r0 = none ∧ (oK h16 t 11 ∧ (zC mX11_forget [.ref t, .int x12] h16 (fun r0 h18 => r0 = none ∧ (oK h18 t 11 ∧ (∃ a20 : Nat, gR h18 t 8 = some a20 ∧ (oK h18 a20 1 ∧ (∃ a22 : Nat, gR h18 a20 2 = some a22 ∧ (oK h18 a22 2 ∧ (Q (some (.int (gI h18 a22 4))) h18)))))))))))))))))))))))))))) : zX mX11_back 0 [.ref t, .int p0, .float 0, .float 0] [] h Q := by
  refine zX_seg (pc' := 2) (L' := [.ref t, .int p0, .float 0, .float 0]) (st' := [.int p0, .ref t]) (h2 := h) rfl rfl (fun C Cr hc kk => x_aload_n C (v := .ref t) rfl rfl dX11_back_0 (x_iload_n C rfl dX11_back_1 (kk))) ?_
  obtain ⟨g1, H⟩ := H
  refine zX_call (as := [.ref t, .int p0]) (st := []) (fun C hM hc kk => f_callV C [.int p0] hM kX11_boxAt vX11_boxAt lX11_104 ⟨by decide, by decide⟩ (rfl : vwCl[11]? = some (RX11, TX11, 15)) g1 rfl hc (Nat.le_of_ble_eq_true rfl) rfl dX11_back_2 kk) (zC.mono H ?_)
  rintro r0 h2 ⟨x3, rfl, H⟩
  show zX mX11_back 5 [.ref t, .int p0, .float 0, .float 0] [zr x3] h2 Q
  refine zX_seg (pc' := 7) (L' := [.ref t, .int p0, zr x3, .float 0]) (st' := [zr x3]) (h2 := h2) rfl rfl (fun C Cr hc kk => x_astore_n C (zr_rf _) (by decide) dX11_back_5 (x_aload_n C (v := zr x3) (zr_rf _) rfl dX11_back_6 (kk))) ?_
  refine zX_br (p1 := 17) (p2 := 10) (st' := []) (x3 = none) (fun C kt kf => f_ifnull C 17 dX11_back_7 (by decide) kt kf) (fun q4 => ?_) (fun q4 => ?_)
  · replace H := H.1 q4
    refine zX_seg (pc' := 18) (L' := [.ref t, .int p0, zr x3, .float 0]) (st' := [.int (-1 : Int32)]) (h2 := h2) rfl rfl (fun C Cr hc kk => x_iconst C (-1 : Int32) (by decide) dX11_back_17 (kk)) ?_
    exact zX_ret (some (.int (-1 : Int32))) (fun C Cr hc => x_iret C Cr rfl rfl hc dX11_back_18 ⟨rfl, rfl⟩) H
  · replace H := H.2 q4
    obtain ⟨a5, rfl, H⟩ := H
    obtain ⟨g6, H⟩ := H
    refine zX_seg (pc' := 14) (L' := [.ref t, .int p0, .ref a5, .float 0]) (st' := [.int (gI h2 a5 4)]) (h2 := h2) rfl rfl (fun C Cr hc kk => x_aload_n C (v := .ref a5) rfl rfl dX11_back_10 (f_getIN C lX11_292 g6 rfl dX11_back_11 (kk))) ?_
    refine zX_br (p1 := 17) (p2 := 19) (st' := []) ((gI h2 a5 4) = 0) (fun C kt kf => x_if_ne C 19 dX11_back_14 (by decide) kf kt) (fun q7 => ?_) (fun q7 => ?_)
    · replace H := H.1 q7
      refine zX_seg (pc' := 18) (L' := [.ref t, .int p0, .ref a5, .float 0]) (st' := [.int (-1 : Int32)]) (h2 := h2) rfl rfl (fun C Cr hc kk => x_iconst C (-1 : Int32) (by decide) dX11_back_17 (kk)) ?_
      exact zX_ret (some (.int (-1 : Int32))) (fun C Cr hc => x_iret C Cr rfl rfl hc dX11_back_18 ⟨rfl, rfl⟩) H
    · replace H := H.2 q7
      obtain ⟨g8, H⟩ := H
      obtain ⟨a9, ea9, H⟩ := H
      refine zX_seg (pc' := 24) (L' := [.ref t, .int p0, .ref a5, .float 0]) (st' := [.ref a5, .ref a9]) (h2 := h2) rfl rfl (fun C Cr hc kk => x_aload_n C (v := .ref t) rfl rfl dX11_back_19 (f_getR1 C lX11_66 g8 rfl ea9 dX11_back_20 (x_aload_n C (v := .ref a5) rfl rfl dX11_back_23 (kk)))) ?_
      obtain ⟨g10, H⟩ := H
      refine zX_call (as := [.ref a9, .ref a5]) (st := []) (fun C hM hc kk => f_callVN C [.ref a5] hM kX1_otherBallots vX1_otherBallots lX11_296 ⟨by decide, by decide⟩ (rfl : vwCl[1]? = some (RX1, TX1, 5)) g10 rfl hc (Nat.le_of_ble_eq_true rfl) rfl dX11_back_24 kk) (zC.mono H ?_)
      rintro r0 h11 ⟨x12, rfl, H⟩
      show zX mX11_back 27 [.ref t, .int p0, .ref a5, .float 0] [.int x12] h11 Q
      obtain ⟨g13, H⟩ := H
      obtain ⟨a14, ea14, H⟩ := H
      refine zX_seg (pc' := 33) (L' := [.ref t, .int p0, .ref a5, .int x12]) (st' := [.ref a5, .ref a14]) (h2 := h11) rfl rfl (fun C Cr hc kk => x_istore_n C (by decide) dX11_back_27 (x_aload_n C (v := .ref t) rfl rfl dX11_back_28 (f_getR1 C lX11_66 g13 rfl ea14 dX11_back_29 (x_aload_n C (v := .ref a5) rfl rfl dX11_back_32 (kk))))) ?_
      obtain ⟨g15, H⟩ := H
      refine zX_call (as := [.ref a14, .ref a5]) (st := []) (fun C hM hc kk => f_callVN C [.ref a5] hM kX1_become vX1_become lX11_289 ⟨by decide, by decide⟩ (rfl : vwCl[1]? = some (RX1, TX1, 5)) g15 rfl hc (Nat.le_of_ble_eq_true rfl) rfl dX11_back_33 kk) (zC.mono H ?_)
      rintro r0 h16 ⟨rfl, H⟩
      show zX mX11_back 36 [.ref t, .int p0, .ref a5, .int x12] [] h16 Q
      refine zX_seg (pc' := 38) (L' := [.ref t, .int p0, .ref a5, .int x12]) (st' := [.int x12, .ref t]) (h2 := h16) rfl rfl (fun C Cr hc kk => x_aload_n C (v := .ref t) rfl rfl dX11_back_36 (x_iload_n C rfl dX11_back_37 (kk))) ?_
      obtain ⟨g17, H⟩ := H
      refine zX_call (as := [.ref t, .int x12]) (st := []) (fun C hM hc kk => f_callV C [.int x12] hM kX11_forget vX11_forget lX11_112 ⟨by decide, by decide⟩ (rfl : vwCl[11]? = some (RX11, TX11, 15)) g17 rfl hc (Nat.le_of_ble_eq_true rfl) rfl dX11_back_38 kk) (zC.mono H ?_)
      rintro r0 h18 ⟨rfl, H⟩
      show zX mX11_back 41 [.ref t, .int p0, .ref a5, .int x12] [] h18 Q
      obtain ⟨g19, H⟩ := H
      obtain ⟨a20, ea20, H⟩ := H
      obtain ⟨g21, H⟩ := H
      obtain ⟨a22, ea22, H⟩ := H
      obtain ⟨g23, H⟩ := H
      refine zX_seg (pc' := 51) (L' := [.ref t, .int p0, .ref a5, .int x12]) (st' := [.int (gI h18 a22 4)]) (h2 := h18) rfl rfl (fun C Cr hc kk => x_aload_n C (v := .ref t) rfl rfl dX11_back_41 (f_getR1 C lX11_66 g19 rfl ea20 dX11_back_42 (f_getR1N C lX11_266 g21 rfl ea22 dX11_back_45 (f_getIN C lX11_295 g23 rfl dX11_back_48 (kk))))) ?_
      exact zX_ret (some (.int (gI h18 a22 4))) (fun C Cr hc => x_iret C Cr rfl rfl hc dX11_back_51 ⟨rfl, rfl⟩) H
theorem nX11_back (t : Nat) (p0 : Int32) (h : zH) (Q : Option Value → zH → Prop) (H : zX mX11_back 0 [.ref t, .int p0, .float 0, .float 0] [] h Q) : zC mX11_back [.ref t, .int p0] h Q := zC_of (by decide +kernel) (by simp) (Nat.le_of_ble_eq_true rfl) H
set_option maxHeartbeats 20000000 in
theorem bX11_about_0 (t : Nat) (p0 : Int32) (h : zH) (Q : Option Value → zH → Prop) (H : (p0 = 0 → (zX mX11_about 48 [.ref t, .float 0] [] h Q)) ∧ ((p0 = 1 → (zX mX11_about 56 [.ref t, .float 0] [] h Q)) ∧ ((p0 = 2 → (zX mX11_about 64 [.ref t, .float 0] [] h Q)) ∧ ((p0 = 3 → (zX mX11_about 72 [.ref t, .float 0] [] h Q)) ∧ ((p0 = 4 → (zX mX11_about 83 [.ref t, .float 0] [] h Q)) ∧ ((p0 = 5 → (zX mX11_about 94 [.ref t, .float 0] [] h Q)) ∧ ((p0 = 6 → (zX mX11_about 99 [.ref t, .float 0] [] h Q)) ∧ ((p0 = 7 → (zX mX11_about 107 [.ref t, .float 0] [] h Q)) ∧ (¬ p0 = 0 → ¬ p0 = 1 → ¬ p0 = 2 → ¬ p0 = 3 → ¬ p0 = 4 → ¬ p0 = 5 → ¬ p0 = 6 → ¬ p0 = 7 → (zX mX11_about 115 [.float 0, .float 0] [] h Q)))))))))) : zX mX11_about 0 [.ref t, .int p0] [] h Q := by
  refine zX_seg (pc' := (ztt 1 114 0 7 [47, 55, 63, 71, 82, 93, 98, 106] p0)) (L' := [.ref t, .int p0]) (st' := []) (h2 := h) rfl rfl (fun C Cr hc kk => x_iload_n C rfl dX11_about_0 (f_table C ⟨⟨by decide, by decide⟩, by decide⟩ dX11_about_1 (kk))) ?_
  by_cases z1 : p0 = 0
  · replace H := H.1 z1
    rw [show (ztt 1 114 0 7 [47, 55, 63, 71, 82, 93, 98, 106] p0) = 48 from by rw [z1]; decide]
    exact zX_wk (wkK (wkD wkN)) H
  · replace H := H.2
    by_cases z2 : p0 = 1
    · replace H := H.1 z2
      rw [show (ztt 1 114 0 7 [47, 55, 63, 71, 82, 93, 98, 106] p0) = 56 from by rw [z2]; decide]
      exact zX_wk (wkK (wkD wkN)) H
    · replace H := H.2
      by_cases z3 : p0 = 2
      · replace H := H.1 z3
        rw [show (ztt 1 114 0 7 [47, 55, 63, 71, 82, 93, 98, 106] p0) = 64 from by rw [z3]; decide]
        exact zX_wk (wkK (wkD wkN)) H
      · replace H := H.2
        by_cases z4 : p0 = 3
        · replace H := H.1 z4
          rw [show (ztt 1 114 0 7 [47, 55, 63, 71, 82, 93, 98, 106] p0) = 72 from by rw [z4]; decide]
          exact zX_wk (wkK (wkD wkN)) H
        · replace H := H.2
          by_cases z5 : p0 = 4
          · replace H := H.1 z5
            rw [show (ztt 1 114 0 7 [47, 55, 63, 71, 82, 93, 98, 106] p0) = 83 from by rw [z5]; decide]
            exact zX_wk (wkK (wkD wkN)) H
          · replace H := H.2
            by_cases z6 : p0 = 5
            · replace H := H.1 z6
              rw [show (ztt 1 114 0 7 [47, 55, 63, 71, 82, 93, 98, 106] p0) = 94 from by rw [z6]; decide]
              exact zX_wk (wkK (wkD wkN)) H
            · replace H := H.2
              by_cases z7 : p0 = 6
              · replace H := H.1 z7
                rw [show (ztt 1 114 0 7 [47, 55, 63, 71, 82, 93, 98, 106] p0) = 99 from by rw [z7]; decide]
                exact zX_wk (wkK (wkD wkN)) H
              · replace H := H.2
                by_cases z8 : p0 = 7
                · replace H := H.1 z8
                  rw [show (ztt 1 114 0 7 [47, 55, 63, 71, 82, 93, 98, 106] p0) = 107 from by rw [z8]; decide]
                  exact zX_wk (wkK (wkD wkN)) H
                · replace H := H.2
                  rw [show (ztt 1 114 0 7 [47, 55, 63, 71, 82, 93, 98, 106] p0) = 115 from (ztt_d [0, 1, 2, 3, 4, 5, 6, 7] (by decide) (by decide) (List.forall_mem_cons.mpr ⟨z1, (List.forall_mem_cons.mpr ⟨z2, (List.forall_mem_cons.mpr ⟨z3, (List.forall_mem_cons.mpr ⟨z4, (List.forall_mem_cons.mpr ⟨z5, (List.forall_mem_cons.mpr ⟨z6, (List.forall_mem_cons.mpr ⟨z7, (List.forall_mem_cons.mpr ⟨z8, (fun _ h => absurd h List.not_mem_nil)⟩)⟩)⟩)⟩)⟩)⟩)⟩)⟩)).trans (by decide)]
                  replace H := H z1 z2 z3 z4 z5 z6 z7 z8
                  exact zX_wk (wkD (wkD wkN)) H
set_option maxHeartbeats 20000000 in
theorem bX11_about_48 (l0 : Nat) (h : zH) (Q : Option Value → zH → Prop) (H : oK h l0 11 ∧ (∃ a2 : Nat, gR h l0 10 = some a2 ∧ (oK h a2 10 ∧ (Q (some (.int (gI h a2 6))) h)))) : zX mX11_about 48 [.ref l0, .float 0] [] h Q := by
  obtain ⟨g1, H⟩ := H
  obtain ⟨a2, ea2, H⟩ := H
  obtain ⟨g3, H⟩ := H
  refine zX_seg (pc' := 55) (L' := [.ref l0, .float 0]) (st' := [.int (gI h a2 6)]) (h2 := h) rfl rfl (fun C Cr hc kk => x_aload_n C (v := .ref l0) rfl rfl dX11_about_48 (f_getR1 C lX11_74 g1 rfl ea2 dX11_about_49 (f_getIN C lX11_300 g3 rfl dX11_about_52 (kk)))) ?_
  exact zX_ret (some (.int (gI h a2 6))) (fun C Cr hc => x_iret C Cr rfl rfl hc dX11_about_55 ⟨rfl, rfl⟩) H
set_option maxHeartbeats 20000000 in
theorem bX11_about_56 (l0 : Nat) (h : zH) (Q : Option Value → zH → Prop) (H : oK h l0 11 ∧ (∃ a2 : Nat, gR h l0 10 = some a2 ∧ (oK h a2 10 ∧ (Q (some (.int (gI h a2 7))) h)))) : zX mX11_about 56 [.ref l0, .float 0] [] h Q := by
  obtain ⟨g1, H⟩ := H
  obtain ⟨a2, ea2, H⟩ := H
  obtain ⟨g3, H⟩ := H
  refine zX_seg (pc' := 63) (L' := [.ref l0, .float 0]) (st' := [.int (gI h a2 7)]) (h2 := h) rfl rfl (fun C Cr hc kk => x_aload_n C (v := .ref l0) rfl rfl dX11_about_56 (f_getR1 C lX11_74 g1 rfl ea2 dX11_about_57 (f_getIN C lX11_240 g3 rfl dX11_about_60 (kk)))) ?_
  exact zX_ret (some (.int (gI h a2 7))) (fun C Cr hc => x_iret C Cr rfl rfl hc dX11_about_63 ⟨rfl, rfl⟩) H
set_option maxHeartbeats 20000000 in
theorem bX11_about_64 (l0 : Nat) (h : zH) (Q : Option Value → zH → Prop) (H : oK h l0 11 ∧ (∃ a2 : Nat, gR h l0 10 = some a2 ∧ (oK h a2 10 ∧ (Q (some (.int (gI h a2 8))) h)))) : zX mX11_about 64 [.ref l0, .float 0] [] h Q := by
  obtain ⟨g1, H⟩ := H
  obtain ⟨a2, ea2, H⟩ := H
  obtain ⟨g3, H⟩ := H
  refine zX_seg (pc' := 71) (L' := [.ref l0, .float 0]) (st' := [.int (gI h a2 8)]) (h2 := h) rfl rfl (fun C Cr hc kk => x_aload_n C (v := .ref l0) rfl rfl dX11_about_64 (f_getR1 C lX11_74 g1 rfl ea2 dX11_about_65 (f_getIN C lX11_115 g3 rfl dX11_about_68 (kk)))) ?_
  exact zX_ret (some (.int (gI h a2 8))) (fun C Cr hc => x_iret C Cr rfl rfl hc dX11_about_71 ⟨rfl, rfl⟩) H
set_option maxHeartbeats 20000000 in
theorem bX11_about_72 (l0 : Nat) (h : zH) (Q : Option Value → zH → Prop) (H : oK h l0 11 ∧ (∃ a2 : Nat, gR h l0 10 = some a2 ∧ (oK h a2 10 ∧ (zC mJ6_bitCount_0f7a4 [.int (gI h a2 9)] h (fun r0 h4 => ∃ x5 : Int32, r0 = some (.int x5) ∧ (Q (some (.int x5)) h4)))))) : zX mX11_about 72 [.ref l0, .float 0] [] h Q := by
  obtain ⟨g1, H⟩ := H
  obtain ⟨a2, ea2, H⟩ := H
  obtain ⟨g3, H⟩ := H
  refine zX_seg (pc' := 79) (L' := [.ref l0, .float 0]) (st' := [.int (gI h a2 9)]) (h2 := h) rfl rfl (fun C Cr hc kk => x_aload_n C (v := .ref l0) rfl rfl dX11_about_72 (f_getR1 C lX11_74 g1 rfl ea2 dX11_about_73 (f_getIN C lX11_303 g3 rfl dX11_about_76 (kk)))) ?_
  refine zX_call (as := [.int (gI h a2 9)]) (st := []) (fun C hM hc kk => x_callS C [.int (gI h a2 9)] hM kJ6_bitCount_0f7a4 sJ6_bitCount_0f7a4 lX11_306 ⟨by decide, by decide⟩ rfl hc (Nat.le_of_ble_eq_true rfl) rfl dX11_about_79 kk) (zC.mono H ?_)
  rintro r0 h4 ⟨x5, rfl, H⟩
  show zX mX11_about 82 [.ref l0, .float 0] [.int x5] h4 Q
  exact zX_ret (some (.int x5)) (fun C Cr hc => x_iret C Cr rfl rfl hc dX11_about_82 ⟨rfl, rfl⟩) H
set_option maxHeartbeats 20000000 in
theorem bX11_about_83 (l0 : Nat) (h : zH) (Q : Option Value → zH → Prop) (H : oK h l0 11 ∧ (∃ a2 : Nat, gR h l0 8 = some a2 ∧ (oK h a2 1 ∧ (∃ a4 : Nat, gR h a2 2 = some a4 ∧ (oK h a4 2 ∧ (Q (some (.int (gI h a4 4))) h)))))) : zX mX11_about 83 [.ref l0, .float 0] [] h Q := by
  obtain ⟨g1, H⟩ := H
  obtain ⟨a2, ea2, H⟩ := H
  obtain ⟨g3, H⟩ := H
  obtain ⟨a4, ea4, H⟩ := H
  obtain ⟨g5, H⟩ := H
  refine zX_seg (pc' := 93) (L' := [.ref l0, .float 0]) (st' := [.int (gI h a4 4)]) (h2 := h) rfl rfl (fun C Cr hc kk => x_aload_n C (v := .ref l0) rfl rfl dX11_about_83 (f_getR1 C lX11_66 g1 rfl ea2 dX11_about_84 (f_getR1N C lX11_266 g3 rfl ea4 dX11_about_87 (f_getIN C lX11_295 g5 rfl dX11_about_90 (kk))))) ?_
  exact zX_ret (some (.int (gI h a4 4))) (fun C Cr hc => x_iret C Cr rfl rfl hc dX11_about_93 ⟨rfl, rfl⟩) H
set_option maxHeartbeats 20000000 in
theorem bX11_about_94 (l0 : Nat) (h : zH) (Q : Option Value → zH → Prop) (H : oK h l0 11 ∧ (Q (some (.int (gI h l0 12))) h)) : zX mX11_about 94 [.ref l0, .float 0] [] h Q := by
  obtain ⟨g1, H⟩ := H
  refine zX_seg (pc' := 98) (L' := [.ref l0, .float 0]) (st' := [.int (gI h l0 12)]) (h2 := h) rfl rfl (fun C Cr hc kk => x_aload_n C (v := .ref l0) rfl rfl dX11_about_94 (f_getI C lX11_270 g1 rfl dX11_about_95 (kk))) ?_
  exact zX_ret (some (.int (gI h l0 12))) (fun C Cr hc => x_iret C Cr rfl rfl hc dX11_about_98 ⟨rfl, rfl⟩) H
set_option maxHeartbeats 20000000 in
theorem bX11_about_99 (l0 : Nat) (h : zH) (Q : Option Value → zH → Prop) (H : oK h l0 11 ∧ (∃ a2 : Nat, gR h l0 1 = some a2 ∧ (oK h a2 8 ∧ (Q (some (.int (gI h a2 5))) h)))) : zX mX11_about 99 [.ref l0, .float 0] [] h Q := by
  obtain ⟨g1, H⟩ := H
  obtain ⟨a2, ea2, H⟩ := H
  obtain ⟨g3, H⟩ := H
  refine zX_seg (pc' := 106) (L' := [.ref l0, .float 0]) (st' := [.int (gI h a2 5)]) (h2 := h) rfl rfl (fun C Cr hc kk => x_aload_n C (v := .ref l0) rfl rfl dX11_about_99 (f_getR1 C lX11_20 g1 rfl ea2 dX11_about_100 (f_getIN C lX11_84 g3 rfl dX11_about_103 (kk)))) ?_
  exact zX_ret (some (.int (gI h a2 5))) (fun C Cr hc => x_iret C Cr rfl rfl hc dX11_about_106 ⟨rfl, rfl⟩) H
set_option maxHeartbeats 20000000 in
theorem bX11_about_107 (l0 : Nat) (h : zH) (Q : Option Value → zH → Prop) (H : oK h l0 11 ∧ (∃ a2 : Nat, gR h l0 8 = some a2 ∧ (oK h a2 1 ∧ (zC mX1_units [.ref a2] h (fun r0 h4 => ∃ x5 : Int32, r0 = some (.int x5) ∧ (Q (some (.int x5)) h4)))))) : zX mX11_about 107 [.ref l0, .float 0] [] h Q := by
  obtain ⟨g1, H⟩ := H
  obtain ⟨a2, ea2, H⟩ := H
  refine zX_seg (pc' := 111) (L' := [.ref l0, .float 0]) (st' := [.ref a2]) (h2 := h) rfl rfl (fun C Cr hc kk => x_aload_n C (v := .ref l0) rfl rfl dX11_about_107 (f_getR1 C lX11_66 g1 rfl ea2 dX11_about_108 (kk))) ?_
  obtain ⟨g3, H⟩ := H
  refine zX_call (as := [.ref a2]) (st := []) (fun C hM hc kk => f_callVN C [] hM kX1_units vX1_units lX11_122 ⟨by decide, by decide⟩ (rfl : vwCl[1]? = some (RX1, TX1, 5)) g3 rfl hc (Nat.le_of_ble_eq_true rfl) rfl dX11_about_111 kk) (zC.mono H ?_)
  rintro r0 h4 ⟨x5, rfl, H⟩
  show zX mX11_about 114 [.ref l0, .float 0] [.int x5] h4 Q
  exact zX_ret (some (.int x5)) (fun C Cr hc => x_iret C Cr rfl rfl hc dX11_about_114 ⟨rfl, rfl⟩) H
set_option maxHeartbeats 20000000 in
theorem bX11_about_115  (h : zH) (Q : Option Value → zH → Prop) (H : Q (some (.int (-1 : Int32))) h) : zX mX11_about 115 [.float 0, .float 0] [] h Q := by
  refine zX_seg (pc' := 116) (L' := [.float 0, .float 0]) (st' := [.int (-1 : Int32)]) (h2 := h) rfl rfl (fun C Cr hc kk => x_iconst C (-1 : Int32) (by decide) dX11_about_115 (kk)) ?_
  exact zX_ret (some (.int (-1 : Int32))) (fun C Cr hc => x_iret C Cr rfl rfl hc dX11_about_116 ⟨rfl, rfl⟩) H
theorem nX11_about (t : Nat) (p0 : Int32) (h : zH) (Q : Option Value → zH → Prop) (H : zX mX11_about 0 [.ref t, .int p0] [] h Q) : zC mX11_about [.ref t, .int p0] h Q := zC_of (by decide +kernel) (by simp) (Nat.le_of_ble_eq_true rfl) H
set_option maxHeartbeats 20000000 in
theorem bX11_boxAt_0 (t : Nat) (p0 : Int32) (h : zH) (Q : Option Value → zH → Prop) (H : (p0 < 0 → (Q (some (zr none)) h)) ∧ (¬ (p0 < 0) → (oK h t 11 ∧ (∃ a3 : Nat, gR h t 9 = some a3 ∧ (rK h a3 1 ∧ (((nI (aN h a3)) ≤ p0 → (Q (some (zr none)) h)) ∧ (¬ ((nI (aN h a3)) ≤ p0) → (vp_in p0 (aN h a3) ∧ (Q (some (zr (aR h a3 p0.toNatClampNeg))) h))))))))) : zX mX11_boxAt 0 [.ref t, .int p0] [] h Q := by
  refine zX_seg (pc' := 1) (L' := [.ref t, .int p0]) (st' := [.int p0]) (h2 := h) rfl rfl (fun C Cr hc kk => x_iload_n C rfl dX11_boxAt_0 (kk)) ?_
  refine zX_br (p1 := 22) (p2 := 4) (st' := []) (p0 < 0) (fun C kt kf => x_if_lt C 22 dX11_boxAt_1 (by decide) kt kf) (fun q1 => ?_) (fun q1 => ?_)
  · replace H := H.1 q1
    refine zX_seg (pc' := 23) (L' := [.ref t, .int p0]) (st' := [.null]) (h2 := h) rfl rfl (fun C Cr hc kk => x_null C dX11_boxAt_22 (kk)) ?_
    exact zX_ret (some (zr none)) (fun C Cr hc => x_aret C Cr ⟨_, rfl, Or.inl ⟨_, rfl⟩⟩ rfl hc dX11_boxAt_23 ⟨rfl, rfl⟩) H
  · replace H := H.2 q1
    obtain ⟨g2, H⟩ := H
    obtain ⟨a3, ea3, H⟩ := H
    obtain ⟨g4, H⟩ := H
    refine zX_seg (pc' := 10) (L' := [.ref t, .int p0]) (st' := [.int (nI (aN h a3)), .int p0]) (h2 := h) rfl rfl (fun C Cr hc kk => x_iload_n C rfl dX11_boxAt_4 (x_aload_n C (v := .ref t) rfl rfl dX11_boxAt_5 (f_getR1 C lX11_70 g2 rfl ea3 dX11_boxAt_6 (f_alenR C (by decide) g4 dX11_boxAt_9 (kk))))) ?_
    refine zX_br (p1 := 22) (p2 := 13) (st' := []) ((nI (aN h a3)) ≤ p0) (fun C kt kf => x_icmp_ge C 22 dX11_boxAt_10 (by decide) kt kf) (fun q5 => ?_) (fun q5 => ?_)
    · replace H := H.1 q5
      refine zX_seg (pc' := 23) (L' := [.ref t, .int p0]) (st' := [.null]) (h2 := h) rfl rfl (fun C Cr hc kk => x_null C dX11_boxAt_22 (kk)) ?_
      exact zX_ret (some (zr none)) (fun C Cr hc => x_aret C Cr ⟨_, rfl, Or.inl ⟨_, rfl⟩⟩ rfl hc dX11_boxAt_23 ⟨rfl, rfl⟩) H
    · replace H := H.2 q5
      obtain ⟨g6, H⟩ := H
      refine zX_seg (pc' := 23) (L' := [.ref t, .int p0]) (st' := [zr (aR h a3 p0.toNatClampNeg)]) (h2 := h) rfl rfl (fun C Cr hc kk => x_aload_n C (v := .ref t) rfl rfl dX11_boxAt_13 (f_getR1 C lX11_70 g2 rfl ea3 dX11_boxAt_14 (x_iload_n C rfl dX11_boxAt_17 (f_aald C (by decide) g4 g6 dX11_boxAt_18 (x_goto C 23 dX11_boxAt_19 (by decide) (kk)))))) ?_
      exact zX_ret (some (zr (aR h a3 p0.toNatClampNeg))) (fun C Cr hc => x_aret C Cr ⟨_, rfl, Or.inl ⟨_, rfl⟩⟩ (zr_rf _) hc dX11_boxAt_23 ⟨rfl, rfl⟩) H
theorem nX11_boxAt (t : Nat) (p0 : Int32) (h : zH) (Q : Option Value → zH → Prop) (H : zX mX11_boxAt 0 [.ref t, .int p0] [] h Q) : zC mX11_boxAt [.ref t, .int p0] h Q := zC_of (by decide +kernel) (by simp) (Nat.le_of_ble_eq_true rfl) H
set_option maxHeartbeats 20000000 in
theorem bX11_empty_0 (p0 : Option Nat) (h : zH) (Q : Option Value → zH → Prop) (H : (p0 = none → (Q none h)) ∧ (¬ (p0 = none) → (∃ a2 : Nat, p0 = some a2 ∧ (oK h a2 1 ∧ (∀ h4 : zH, h4 = (pF h a2 4 (.int (0 : Int32))) → (Q none h4)))))) : zX mX11_empty 0 [zr p0] [] h Q := by
  refine zX_seg (pc' := 1) (L' := [zr p0]) (st' := [zr p0]) (h2 := h) rfl rfl (fun C Cr hc kk => x_aload_n C (v := zr p0) (zr_rf _) rfl dX11_empty_0 (kk)) ?_
  refine zX_br (p1 := 9) (p2 := 4) (st' := []) (p0 = none) (fun C kt kf => f_ifnull C 9 dX11_empty_1 (by decide) kt kf) (fun q1 => ?_) (fun q1 => ?_)
  · replace H := H.1 q1
    exact zX_ret none (fun C Cr hc => x_ret C Cr rfl hc dX11_empty_9 ⟨rfl, rfl⟩) H
  · replace H := H.2 q1
    obtain ⟨a2, rfl, H⟩ := H
    obtain ⟨g3, H⟩ := H
    refine zX_seg (pc' := 9) (L' := [.ref a2]) (st' := []) (h2 := (pF h a2 4 (.int (0 : Int32)))) rfl rfl (fun C Cr hc kk => x_aload_n C (v := .ref a2) rfl rfl dX11_empty_4 (x_iconst C (0 : Int32) (by decide) dX11_empty_5 (f_putZN C lX11_292 tX1 nX1_4 g3 rfl rfl (Or.inl rfl) dX11_empty_6 (kk)))) ?_
    obtain ⟨h4, eh4⟩ : ∃ y : zH, y = (pF h a2 4 (.int (0 : Int32))) := ⟨_, rfl⟩
    replace H := H h4 eh4
    rw [← eh4]
    have g5 : oK h4 a2 1 := by rw [eh4]; exact oK_pF' g3 rfl rfl g3
    exact zX_ret none (fun C Cr hc => x_ret C Cr rfl hc dX11_empty_9 ⟨rfl, rfl⟩) H
theorem nX11_empty (p0 : Option Nat) (h : zH) (Q : Option Value → zH → Prop) (H : zX mX11_empty 0 [zr p0] [] h Q) : zC mX11_empty [zr p0] h Q := by cases p0 <;> exact zC_of (by decide +kernel) (by simp [zr]) (Nat.le_of_ble_eq_true rfl) H
set_option maxHeartbeats 20000000 in
theorem bX11_endReading_0 (t : Nat) (h : zH) (Q : Option Value → zH → Prop) (H : oK h t 11 ∧ (∃ a2 : Nat, gR h t 1 = some a2 ∧ (oK h a2 8 ∧ (∀ h4 : zH, h4 = (pF h a2 5 (.int (0 : Int32))) → (∃ a7 : Nat, gR h4 t 0 = some a7 ∧ (oK h4 a7 4 ∧ (∀ h9 : zH, h9 = (pF h4 t 13 (.int (gI h4 a7 12))) → (∃ a13 : Nat, gR h9 t 0 = some a13 ∧ (oK h9 a13 4 ∧ (∀ h15 : zH, h15 = (pF h9 t 14 (.int (gI h9 a13 13))) → (Q none h15))))))))))) : zX mX11_endReading 0 [.ref t] [] h Q := by
  obtain ⟨g1, H⟩ := H
  obtain ⟨a2, ea2, H⟩ := H
  obtain ⟨g3, H⟩ := H
  refine zX_seg (pc' := 8) (L' := [.ref t]) (st' := []) (h2 := (pF h a2 5 (.int (0 : Int32)))) rfl rfl (fun C Cr hc kk => x_aload_n C (v := .ref t) rfl rfl dX11_endReading_0 (f_getR1 C lX11_20 g1 rfl ea2 dX11_endReading_1 (x_iconst C (0 : Int32) (by decide) dX11_endReading_4 (f_putIN C lX11_84 tX8 nX8_5 g3 rfl rfl dX11_endReading_5 (kk))))) ?_
  obtain ⟨h4, eh4⟩ : ∃ y : zH, y = (pF h a2 5 (.int (0 : Int32))) := ⟨_, rfl⟩
  replace H := H h4 eh4
  rw [← eh4]
  have g5 : oK h4 t 11 := by rw [eh4]; exact oK_pF' g3 rfl rfl g1
  have g6 : oK h4 a2 8 := by rw [eh4]; exact oK_pF' g3 rfl rfl g3
  obtain ⟨a7, ea7, H⟩ := H
  obtain ⟨g8, H⟩ := H
  refine zX_seg (pc' := 19) (L' := [.ref t]) (st' := []) (h2 := (pF h4 t 13 (.int (gI h4 a7 12)))) rfl rfl (fun C Cr hc kk => x_aload_n C (v := .ref t) rfl rfl dX11_endReading_8 (x_aload_n C (v := .ref t) rfl rfl dX11_endReading_9 (f_getR1 C lX11_10 g5 rfl ea7 dX11_endReading_10 (f_getIN C lX11_311 g8 rfl dX11_endReading_13 (f_putI C lX11_146 tX11 nX11_13 g5 rfl rfl dX11_endReading_16 (kk)))))) ?_
  obtain ⟨h9, eh9⟩ : ∃ y : zH, y = (pF h4 t 13 (.int (gI h4 a7 12))) := ⟨_, rfl⟩
  replace H := H h9 eh9
  rw [← eh9]
  have g10 : oK h9 t 11 := by rw [eh9]; exact oK_pF' g5 rfl rfl g5
  have g11 : oK h9 a2 8 := by rw [eh9]; exact oK_pF' g5 rfl rfl g6
  have g12 : oK h9 a7 4 := by rw [eh9]; exact oK_pF' g5 rfl rfl g8
  obtain ⟨a13, ea13, H⟩ := H
  obtain ⟨g14, H⟩ := H
  refine zX_seg (pc' := 30) (L' := [.ref t]) (st' := []) (h2 := (pF h9 t 14 (.int (gI h9 a13 13)))) rfl rfl (fun C Cr hc kk => x_aload_n C (v := .ref t) rfl rfl dX11_endReading_19 (x_aload_n C (v := .ref t) rfl rfl dX11_endReading_20 (f_getR1 C lX11_10 g10 rfl ea13 dX11_endReading_21 (f_getIN C lX11_314 g14 rfl dX11_endReading_24 (f_putI C lX11_80 tX11 nX11_14 g10 rfl rfl dX11_endReading_27 (kk)))))) ?_
  obtain ⟨h15, eh15⟩ : ∃ y : zH, y = (pF h9 t 14 (.int (gI h9 a13 13))) := ⟨_, rfl⟩
  replace H := H h15 eh15
  rw [← eh15]
  have g16 : oK h15 t 11 := by rw [eh15]; exact oK_pF' g10 rfl rfl g10
  have g17 : oK h15 a2 8 := by rw [eh15]; exact oK_pF' g10 rfl rfl g11
  have g18 : oK h15 a7 4 := by rw [eh15]; exact oK_pF' g10 rfl rfl g12
  have g19 : oK h15 a13 4 := by rw [eh15]; exact oK_pF' g10 rfl rfl g14
  exact zX_ret none (fun C Cr hc => x_ret C Cr rfl hc dX11_endReading_30 ⟨rfl, rfl⟩) H
theorem nX11_endReading (t : Nat) (h : zH) (Q : Option Value → zH → Prop) (H : zX mX11_endReading 0 [.ref t] [] h Q) : zC mX11_endReading [.ref t] h Q := zC_of (by decide +kernel) (by simp) (Nat.le_of_ble_eq_true rfl) H
set_option maxHeartbeats 20000000 in
theorem bX11_forget_0 (t : Nat) (p0 : Int32) (h : zH) (Q : Option Value → zH → Prop) (H : (p0 = 0 → (Q none h)) ∧ (¬ (p0 = 0) → (oK h t 11 ∧ (∃ a3 : Nat, gR h t 3 = some a3 ∧ (oK h a3 5 ∧ (zC mX5_forget [.ref a3, .int p0] h (fun r0 h5 => r0 = none ∧ (oK h5 t 11 ∧ (∃ a7 : Nat, gR h5 t 4 = some a7 ∧ (oK h5 a7 3 ∧ (∀ h9 : zH, h9 = (pF h5 a7 4 (.int (0 : Int32))) → (∃ a12 : Nat, gR h9 t 5 = some a12 ∧ (oK h9 a12 7 ∧ (∀ h14 : zH, h14 = (pF h9 a12 3 (.int (0 : Int32))) → (Q none h14))))))))))))))) : zX mX11_forget 0 [.ref t, .int p0] [] h Q := by
  refine zX_seg (pc' := 1) (L' := [.ref t, .int p0]) (st' := [.int p0]) (h2 := h) rfl rfl (fun C Cr hc kk => x_iload_n C rfl dX11_forget_0 (kk)) ?_
  refine zX_br (p1 := 28) (p2 := 4) (st' := []) (p0 = 0) (fun C kt kf => x_if_eq C 28 dX11_forget_1 (by decide) kt kf) (fun q1 => ?_) (fun q1 => ?_)
  · replace H := H.1 q1
    exact zX_ret none (fun C Cr hc => x_ret C Cr rfl hc dX11_forget_28 ⟨rfl, rfl⟩) H
  · replace H := H.2 q1
    obtain ⟨g2, H⟩ := H
    obtain ⟨a3, ea3, H⟩ := H
    refine zX_seg (pc' := 9) (L' := [.ref t, .int p0]) (st' := [.int p0, .ref a3]) (h2 := h) rfl rfl (fun C Cr hc kk => x_aload_n C (v := .ref t) rfl rfl dX11_forget_4 (f_getR1 C lX11_31 g2 rfl ea3 dX11_forget_5 (x_iload_n C rfl dX11_forget_8 (kk)))) ?_
    obtain ⟨g4, H⟩ := H
    refine zX_call (as := [.ref a3, .int p0]) (st := []) (fun C hM hc kk => f_callVN C [.int p0] hM kX5_forget vX5_forget lX11_317 ⟨by decide, by decide⟩ (rfl : vwCl[5]? = some (RX5, TX5, 9)) g4 rfl hc (Nat.le_of_ble_eq_true rfl) rfl dX11_forget_9 kk) (zC.mono H ?_)
    rintro r0 h5 ⟨rfl, H⟩
    show zX mX11_forget 12 [.ref t, .int p0] [] h5 Q
    obtain ⟨g6, H⟩ := H
    obtain ⟨a7, ea7, H⟩ := H
    obtain ⟨g8, H⟩ := H
    refine zX_seg (pc' := 20) (L' := [.ref t, .int p0]) (st' := []) (h2 := (pF h5 a7 4 (.int (0 : Int32)))) rfl rfl (fun C Cr hc kk => x_aload_n C (v := .ref t) rfl rfl dX11_forget_12 (f_getR1 C lX11_38 g6 rfl ea7 dX11_forget_13 (x_iconst C (0 : Int32) (by decide) dX11_forget_16 (f_putZN C lX11_217 tX3 nX3_4 g8 rfl rfl (Or.inl rfl) dX11_forget_17 (kk))))) ?_
    obtain ⟨h9, eh9⟩ : ∃ y : zH, y = (pF h5 a7 4 (.int (0 : Int32))) := ⟨_, rfl⟩
    replace H := H h9 eh9
    rw [← eh9]
    have g10 : oK h9 t 11 := by rw [eh9]; exact oK_pF' g8 rfl rfl g6
    have g11 : oK h9 a7 3 := by rw [eh9]; exact oK_pF' g8 rfl rfl g8
    obtain ⟨a12, ea12, H⟩ := H
    obtain ⟨g13, H⟩ := H
    refine zX_seg (pc' := 28) (L' := [.ref t, .int p0]) (st' := []) (h2 := (pF h9 a12 3 (.int (0 : Int32)))) rfl rfl (fun C Cr hc kk => x_aload_n C (v := .ref t) rfl rfl dX11_forget_20 (f_getR1 C lX11_45 g10 rfl ea12 dX11_forget_21 (x_iconst C (0 : Int32) (by decide) dX11_forget_24 (f_putIN C lX11_318 tX7 nX7_3 g13 rfl rfl dX11_forget_25 (kk))))) ?_
    obtain ⟨h14, eh14⟩ : ∃ y : zH, y = (pF h9 a12 3 (.int (0 : Int32))) := ⟨_, rfl⟩
    replace H := H h14 eh14
    rw [← eh14]
    have g15 : oK h14 t 11 := by rw [eh14]; exact oK_pF' g13 rfl rfl g10
    have g16 : oK h14 a7 3 := by rw [eh14]; exact oK_pF' g13 rfl rfl g11
    have g17 : oK h14 a12 7 := by rw [eh14]; exact oK_pF' g13 rfl rfl g13
    exact zX_ret none (fun C Cr hc => x_ret C Cr rfl hc dX11_forget_28 ⟨rfl, rfl⟩) H
theorem nX11_forget (t : Nat) (p0 : Int32) (h : zH) (Q : Option Value → zH → Prop) (H : zX mX11_forget 0 [.ref t, .int p0] [] h Q) : zC mX11_forget [.ref t, .int p0] h Q := zC_of (by decide +kernel) (by simp) (Nat.le_of_ble_eq_true rfl) H
set_option maxHeartbeats 20000000 in
theorem bX11_reachedFrom_0 (t : Nat) (p0 : Int32) (h : zH) (Q : Option Value → zH → Prop) (H : zX mX11_reachedFrom 6 [.ref t, .float 0, .int ((1 : Int32) <<< (p0 &&& 31)), .int (0 : Int32), .float 0] [] h Q) : zX mX11_reachedFrom 0 [.ref t, .int p0, .float 0, .float 0, .float 0] [] h Q := by
  refine zX_seg (pc' := 6) (L' := [.ref t, .int p0, .int ((1 : Int32) <<< (p0 &&& 31)), .int (0 : Int32), .float 0]) (st' := []) (h2 := h) rfl rfl (fun C Cr hc kk => x_iconst C (1 : Int32) (by decide) dX11_reachedFrom_0 (x_iload_n C rfl dX11_reachedFrom_1 (x_ishl C dX11_reachedFrom_2 (x_istore_n C (by decide) dX11_reachedFrom_3 (x_iconst C (0 : Int32) (by decide) dX11_reachedFrom_4 (x_istore_n C (by decide) dX11_reachedFrom_5 (kk))))))) ?_
  exact zX_wk (wkK (wkD (wkK (wkK (wkD wkN))))) H
set_option maxHeartbeats 20000000 in
theorem bX11_reachedFrom_6 (l0 : Nat) (l2 : Int32) (l3 : Int32) (h : zH) (Q : Option Value → zH → Prop) (H : ((8 : Int32) ≤ l3 → (Q (some (.int l2)) h)) ∧ (¬ ((8 : Int32) ≤ l3) → (zX mX11_reachedFrom 15 [.ref l0, .float 0, .int l2, .int l3, .int (0 : Int32)] [] h Q))) : zX mX11_reachedFrom 6 [.ref l0, .float 0, .int l2, .int l3, .float 0] [] h Q := by
  refine zX_seg (pc' := 9) (L' := [.ref l0, .float 0, .int l2, .int l3, .float 0]) (st' := [.int (8 : Int32), .int l3]) (h2 := h) rfl rfl (fun C Cr hc kk => x_iload_n C rfl dX11_reachedFrom_6 (x_bipush C (8 : Int32) (by decide) dX11_reachedFrom_7 (kk))) ?_
  refine zX_br (p1 := 70) (p2 := 12) (st' := []) ((8 : Int32) ≤ l3) (fun C kt kf => x_icmp_ge C 70 dX11_reachedFrom_9 (by decide) kt kf) (fun q1 => ?_) (fun q1 => ?_)
  · replace H := H.1 q1
    refine zX_seg (pc' := 71) (L' := [.ref l0, .float 0, .int l2, .int l3, .float 0]) (st' := [.int l2]) (h2 := h) rfl rfl (fun C Cr hc kk => x_iload_n C rfl dX11_reachedFrom_70 (kk)) ?_
    exact zX_ret (some (.int l2)) (fun C Cr hc => x_iret C Cr rfl rfl hc dX11_reachedFrom_71 ⟨rfl, rfl⟩) H
  · replace H := H.2 q1
    refine zX_seg (pc' := 15) (L' := [.ref l0, .float 0, .int l2, .int l3, .int (0 : Int32)]) (st' := []) (h2 := h) rfl rfl (fun C Cr hc kk => x_iconst C (0 : Int32) (by decide) dX11_reachedFrom_12 (x_istore C (by decide) dX11_reachedFrom_13 (kk))) ?_
    exact zX_wk (wkK (wkD (wkK (wkK (wkK wkN))))) H
set_option maxHeartbeats 20000000 in
theorem bX11_reachedFrom_15 (l0 : Nat) (l2 : Int32) (l3 : Int32) (l4 : Int32) (h : zH) (Q : Option Value → zH → Prop) (H : oK h l0 11 ∧ (∃ a2 : Nat, gR h l0 10 = some a2 ∧ (oK h a2 10 ∧ (((gI h a2 8) ≤ l4 → (zX mX11_reachedFrom 6 [.ref l0, .float 0, .int l2, .int (l3 + 1), .float 0] [] h Q)) ∧ (¬ ((gI h a2 8) ≤ l4) → ((((l2 >>> (l4 &&& 31)) &&& (1 : Int32)) = (1 : Int32) → (∃ a6 : Nat, gR h l0 8 = some a6 ∧ (oK h a6 1 ∧ (zC mX1_ballotOf [.ref a6, .int l4] h (fun r0 h8 => ∃ x9 : Option Nat, r0 = some (zr x9) ∧ (∃ a10 : Nat, x9 = some a10 ∧ (oK h8 a2 10 ∧ (zC mX10_looksOf [.ref a2, .int l4, .ref a10] h8 (fun r0 h12 => ∃ x13 : Int32, r0 = some (.int x13) ∧ (zX mX11_reachedFrom 15 [.ref l0, .float 0, .int (l2 ||| x13), .int l3, .int (l4 + 1)] [] h12 Q)))))))))) ∧ (¬ (((l2 >>> (l4 &&& 31)) &&& (1 : Int32)) = (1 : Int32)) → (zX mX11_reachedFrom 15 [.ref l0, .float 0, .int l2, .int l3, .int (l4 + 1)] [] h Q)))))))) : zX mX11_reachedFrom 15 [.ref l0, .float 0, .int l2, .int l3, .int l4] [] h Q := by
  obtain ⟨g1, H⟩ := H
  obtain ⟨a2, ea2, H⟩ := H
  obtain ⟨g3, H⟩ := H
  refine zX_seg (pc' := 24) (L' := [.ref l0, .float 0, .int l2, .int l3, .int l4]) (st' := [.int (gI h a2 8), .int l4]) (h2 := h) rfl rfl (fun C Cr hc kk => x_iload C rfl dX11_reachedFrom_15 (x_aload_n C (v := .ref l0) rfl rfl dX11_reachedFrom_17 (f_getR1 C lX11_74 g1 rfl ea2 dX11_reachedFrom_18 (f_getIN C lX11_115 g3 rfl dX11_reachedFrom_21 (kk))))) ?_
  refine zX_br (p1 := 64) (p2 := 27) (st' := []) ((gI h a2 8) ≤ l4) (fun C kt kf => x_icmp_ge C 64 dX11_reachedFrom_24 (by decide) kt kf) (fun q4 => ?_) (fun q4 => ?_)
  · replace H := H.1 q4
    refine zX_seg (pc' := 6) (L' := [.ref l0, .float 0, .int l2, .int (l3 + 1), .int l4]) (st' := []) (h2 := h) rfl rfl (fun C Cr hc kk => x_iinc C (l3 + 1) rfl (congrArg (HAdd.hAdd _) (by decide)) (by decide) dX11_reachedFrom_64 (x_goto C 6 dX11_reachedFrom_67 (by decide) (kk))) ?_
    exact zX_wk (wkK (wkD (wkK (wkK (wkD wkN))))) H
  · replace H := H.2 q4
    refine zX_seg (pc' := 34) (L' := [.ref l0, .float 0, .int l2, .int l3, .int l4]) (st' := [.int (1 : Int32), .int ((l2 >>> (l4 &&& 31)) &&& (1 : Int32))]) (h2 := h) rfl rfl (fun C Cr hc kk => x_iload_n C rfl dX11_reachedFrom_27 (x_iload C rfl dX11_reachedFrom_28 (x_ishr C dX11_reachedFrom_30 (x_iconst C (1 : Int32) (by decide) dX11_reachedFrom_31 (x_iand C dX11_reachedFrom_32 (x_iconst C (1 : Int32) (by decide) dX11_reachedFrom_33 (kk))))))) ?_
    refine zX_br (p1 := 37) (p2 := 58) (st' := []) (((l2 >>> (l4 &&& 31)) &&& (1 : Int32)) = (1 : Int32)) (fun C kt kf => x_icmp_ne C 58 dX11_reachedFrom_34 (by decide) kf kt) (fun q5 => ?_) (fun q5 => ?_)
    · replace H := H.1 q5
      obtain ⟨a6, ea6, H⟩ := H
      refine zX_seg (pc' := 50) (L' := [.ref l0, .float 0, .int l2, .int l3, .int l4]) (st' := [.int l4, .ref a6, .int l4, .ref a2, .int l2]) (h2 := h) rfl rfl (fun C Cr hc kk => x_iload_n C rfl dX11_reachedFrom_37 (x_aload_n C (v := .ref l0) rfl rfl dX11_reachedFrom_38 (f_getR1 C lX11_74 g1 rfl ea2 dX11_reachedFrom_39 (x_iload C rfl dX11_reachedFrom_42 (x_aload_n C (v := .ref l0) rfl rfl dX11_reachedFrom_44 (f_getR1 C lX11_66 g1 rfl ea6 dX11_reachedFrom_45 (x_iload C rfl dX11_reachedFrom_48 (kk)))))))) ?_
      obtain ⟨g7, H⟩ := H
      refine zX_call (as := [.ref a6, .int l4]) (st := [.int l4, .ref a2, .int l2]) (fun C hM hc kk => f_callVN C [.int l4] hM kX1_ballotOf vX1_ballotOf lX11_126 ⟨by decide, by decide⟩ (rfl : vwCl[1]? = some (RX1, TX1, 5)) g7 rfl hc (Nat.le_of_ble_eq_true rfl) rfl dX11_reachedFrom_50 kk) (zC.mono H ?_)
      rintro r0 h8 ⟨x9, rfl, H⟩
      show zX mX11_reachedFrom 53 [.ref l0, .float 0, .int l2, .int l3, .int l4] [zr x9, .int l4, .ref a2, .int l2] h8 Q
      obtain ⟨a10, rfl, H⟩ := H
      obtain ⟨g11, H⟩ := H
      refine zX_call (as := [.ref a2, .int l4, .ref a10]) (st := [.int l2]) (fun C hM hc kk => f_callVN C [.int l4, .ref a10] hM kX10_looksOf vX10_looksOf lX11_185 ⟨by decide, by decide⟩ (rfl : vwCl[10]? = some (RX10, TX10, 10)) g11 rfl hc (Nat.le_of_ble_eq_true rfl) rfl dX11_reachedFrom_53 kk) (zC.mono H ?_)
      rintro r0 h12 ⟨x13, rfl, H⟩
      show zX mX11_reachedFrom 56 [.ref l0, .float 0, .int l2, .int l3, .int l4] [.int x13, .int l2] h12 Q
      refine zX_seg (pc' := 15) (L' := [.ref l0, .float 0, .int (l2 ||| x13), .int l3, .int (l4 + 1)]) (st' := []) (h2 := h12) rfl rfl (fun C Cr hc kk => x_ior C dX11_reachedFrom_56 (x_istore_n C (by decide) dX11_reachedFrom_57 (x_iinc C (l4 + 1) rfl (congrArg (HAdd.hAdd _) (by decide)) (by decide) dX11_reachedFrom_58 (x_goto C 15 dX11_reachedFrom_61 (by decide) (kk))))) ?_
      exact zX_wk (wkK (wkD (wkK (wkK (wkK wkN))))) H
    · replace H := H.2 q5
      refine zX_seg (pc' := 15) (L' := [.ref l0, .float 0, .int l2, .int l3, .int (l4 + 1)]) (st' := []) (h2 := h) rfl rfl (fun C Cr hc kk => x_iinc C (l4 + 1) rfl (congrArg (HAdd.hAdd _) (by decide)) (by decide) dX11_reachedFrom_58 (x_goto C 15 dX11_reachedFrom_61 (by decide) (kk))) ?_
      exact zX_wk (wkK (wkD (wkK (wkK (wkK wkN))))) H
theorem nX11_reachedFrom (t : Nat) (p0 : Int32) (h : zH) (Q : Option Value → zH → Prop) (H : zX mX11_reachedFrom 0 [.ref t, .int p0, .float 0, .float 0, .float 0] [] h Q) : zC mX11_reachedFrom [.ref t, .int p0] h Q := zC_of (by decide +kernel) (by simp) (Nat.le_of_ble_eq_true rfl) H
set_option maxHeartbeats 20000000 in
theorem bX11_at_0 (p0 : Nat) (p1 : Int32) (h : zH) (Q : Option Value → zH → Prop) (H : (p1 < 0 → (Q (some (.int (0 : Int32))) h)) ∧ (¬ (p1 < 0) → (iK h p0 0 ∧ (((nI (aN h p0)) ≤ p1 → (Q (some (.int (0 : Int32))) h)) ∧ (¬ ((nI (aN h p0)) ≤ p1) → (vp_in p1 (aN h p0) ∧ (Q (some (.int (aI h p0 p1.toNatClampNeg))) h))))))) : zX mX11_at 0 [.ref p0, .int p1] [] h Q := by
  refine zX_seg (pc' := 1) (L' := [.ref p0, .int p1]) (st' := [.int p1]) (h2 := h) rfl rfl (fun C Cr hc kk => x_iload_n C rfl dX11_at_0 (kk)) ?_
  refine zX_br (p1 := 16) (p2 := 4) (st' := []) (p1 < 0) (fun C kt kf => x_if_lt C 16 dX11_at_1 (by decide) kt kf) (fun q1 => ?_) (fun q1 => ?_)
  · replace H := H.1 q1
    refine zX_seg (pc' := 17) (L' := [.ref p0, .int p1]) (st' := [.int (0 : Int32)]) (h2 := h) rfl rfl (fun C Cr hc kk => x_iconst C (0 : Int32) (by decide) dX11_at_16 (kk)) ?_
    exact zX_ret (some (.int (0 : Int32))) (fun C Cr hc => x_iret C Cr rfl rfl hc dX11_at_17 ⟨rfl, rfl⟩) H
  · replace H := H.2 q1
    obtain ⟨g2, H⟩ := H
    refine zX_seg (pc' := 7) (L' := [.ref p0, .int p1]) (st' := [.int (nI (aN h p0)), .int p1]) (h2 := h) rfl rfl (fun C Cr hc kk => x_iload_n C rfl dX11_at_4 (x_aload_n C (v := .ref p0) rfl rfl dX11_at_5 (f_alenI C (by decide) g2 dX11_at_6 (kk)))) ?_
    refine zX_br (p1 := 16) (p2 := 10) (st' := []) ((nI (aN h p0)) ≤ p1) (fun C kt kf => x_icmp_ge C 16 dX11_at_7 (by decide) kt kf) (fun q3 => ?_) (fun q3 => ?_)
    · replace H := H.1 q3
      refine zX_seg (pc' := 17) (L' := [.ref p0, .int p1]) (st' := [.int (0 : Int32)]) (h2 := h) rfl rfl (fun C Cr hc kk => x_iconst C (0 : Int32) (by decide) dX11_at_16 (kk)) ?_
      exact zX_ret (some (.int (0 : Int32))) (fun C Cr hc => x_iret C Cr rfl rfl hc dX11_at_17 ⟨rfl, rfl⟩) H
    · replace H := H.2 q3
      obtain ⟨g4, H⟩ := H
      refine zX_seg (pc' := 17) (L' := [.ref p0, .int p1]) (st' := [.int (aI h p0 p1.toNatClampNeg)]) (h2 := h) rfl rfl (fun C Cr hc kk => x_aload_n C (v := .ref p0) rfl rfl dX11_at_10 (x_iload_n C rfl dX11_at_11 (f_iald C g2 g4 dX11_at_12 (x_goto C 17 dX11_at_13 (by decide) (kk))))) ?_
      exact zX_ret (some (.int (aI h p0 p1.toNatClampNeg))) (fun C Cr hc => x_iret C Cr rfl rfl hc dX11_at_17 ⟨rfl, rfl⟩) H
theorem nX11_at (p0 : Nat) (p1 : Int32) (h : zH) (Q : Option Value → zH → Prop) (H : zX mX11_at 0 [.ref p0, .int p1] [] h Q) : zC mX11_at [.ref p0, .int p1] h Q := zC_of (by decide +kernel) (by simp) (Nat.le_of_ble_eq_true rfl) H
set_option maxHeartbeats 20000000 in
theorem bX11_put_0 (p0 : Nat) (p1 : Int32) (p2 : Int32) (h : zH) (Q : Option Value → zH → Prop) (H : (p1 < 0 → (Q none h)) ∧ (¬ (p1 < 0) → (iK h p0 0 ∧ (((nI (aN h p0)) ≤ p1 → (Q none h)) ∧ (¬ ((nI (aN h p0)) ≤ p1) → (vp_in p1 (aN h p0) ∧ (∀ h5 : zH, h5 = (pI h p0 p1.toNatClampNeg p2) → (Q none h5)))))))) : zX mX11_put 0 [.ref p0, .int p1, .int p2] [] h Q := by
  refine zX_seg (pc' := 1) (L' := [.ref p0, .int p1, .int p2]) (st' := [.int p1]) (h2 := h) rfl rfl (fun C Cr hc kk => x_iload_n C rfl dX11_put_0 (kk)) ?_
  refine zX_br (p1 := 14) (p2 := 4) (st' := []) (p1 < 0) (fun C kt kf => x_if_lt C 14 dX11_put_1 (by decide) kt kf) (fun q1 => ?_) (fun q1 => ?_)
  · replace H := H.1 q1
    exact zX_ret none (fun C Cr hc => x_ret C Cr rfl hc dX11_put_14 ⟨rfl, rfl⟩) H
  · replace H := H.2 q1
    obtain ⟨g2, H⟩ := H
    refine zX_seg (pc' := 7) (L' := [.ref p0, .int p1, .int p2]) (st' := [.int (nI (aN h p0)), .int p1]) (h2 := h) rfl rfl (fun C Cr hc kk => x_iload_n C rfl dX11_put_4 (x_aload_n C (v := .ref p0) rfl rfl dX11_put_5 (f_alenI C (by decide) g2 dX11_put_6 (kk)))) ?_
    refine zX_br (p1 := 14) (p2 := 10) (st' := []) ((nI (aN h p0)) ≤ p1) (fun C kt kf => x_icmp_ge C 14 dX11_put_7 (by decide) kt kf) (fun q3 => ?_) (fun q3 => ?_)
    · replace H := H.1 q3
      exact zX_ret none (fun C Cr hc => x_ret C Cr rfl hc dX11_put_14 ⟨rfl, rfl⟩) H
    · replace H := H.2 q3
      obtain ⟨g4, H⟩ := H
      refine zX_seg (pc' := 14) (L' := [.ref p0, .int p1, .int p2]) (st' := []) (h2 := (pI h p0 p1.toNatClampNeg p2)) rfl rfl (fun C Cr hc kk => x_aload_n C (v := .ref p0) rfl rfl dX11_put_10 (x_iload_n C rfl dX11_put_11 (x_iload_n C rfl dX11_put_12 (f_iast C g2 g4 dX11_put_13 (kk))))) ?_
      obtain ⟨h5, eh5⟩ : ∃ y : zH, y = (pI h p0 p1.toNatClampNeg p2) := ⟨_, rfl⟩
      replace H := H h5 eh5
      rw [← eh5]
      have g6 : iK h5 p0 0 := by rw [eh5]; exact iK_pI g2
      exact zX_ret none (fun C Cr hc => x_ret C Cr rfl hc dX11_put_14 ⟨rfl, rfl⟩) H
theorem nX11_put (p0 : Nat) (p1 : Int32) (p2 : Int32) (h : zH) (Q : Option Value → zH → Prop) (H : zX mX11_put 0 [.ref p0, .int p1, .int p2] [] h Q) : zC mX11_put [.ref p0, .int p1, .int p2] h Q := zC_of (by decide +kernel) (by simp) (Nat.le_of_ble_eq_true rfl) H
set_option maxHeartbeats 20000000 in
theorem bX11_isBlank_0 (p0 : Int32) (h : zH) (Q : Option Value → zH → Prop) (H : (p0 = (32 : Int32) → (Q (some (.int (1 : Int32))) h)) ∧ (¬ (p0 = (32 : Int32)) → ((p0 = (10 : Int32) → (Q (some (.int (1 : Int32))) h)) ∧ (¬ (p0 = (10 : Int32)) → (Q (some (.int (0 : Int32))) h))))) : zX mX11_isBlank 0 [.int p0] [] h Q := by
  refine zX_seg (pc' := 3) (L' := [.int p0]) (st' := [.int (32 : Int32), .int p0]) (h2 := h) rfl rfl (fun C Cr hc kk => x_iload_n C rfl dX11_isBlank_0 (x_bipush C (32 : Int32) (by decide) dX11_isBlank_1 (kk))) ?_
  refine zX_br (p1 := 12) (p2 := 6) (st' := []) (p0 = (32 : Int32)) (fun C kt kf => x_icmp_eq C 12 dX11_isBlank_3 (by decide) kt kf) (fun q1 => ?_) (fun q1 => ?_)
  · replace H := H.1 q1
    refine zX_seg (pc' := 17) (L' := [.int p0]) (st' := [.int (1 : Int32)]) (h2 := h) rfl rfl (fun C Cr hc kk => x_iconst C (1 : Int32) (by decide) dX11_isBlank_12 (x_goto C 17 dX11_isBlank_13 (by decide) (kk))) ?_
    exact zX_ret (some (.int (1 : Int32))) (fun C Cr hc => x_iret C Cr rfl rfl hc dX11_isBlank_17 ⟨rfl, rfl⟩) H
  · replace H := H.2 q1
    refine zX_seg (pc' := 9) (L' := [.int p0]) (st' := [.int (10 : Int32), .int p0]) (h2 := h) rfl rfl (fun C Cr hc kk => x_iload_n C rfl dX11_isBlank_6 (x_bipush C (10 : Int32) (by decide) dX11_isBlank_7 (kk))) ?_
    refine zX_br (p1 := 12) (p2 := 16) (st' := []) (p0 = (10 : Int32)) (fun C kt kf => x_icmp_ne C 16 dX11_isBlank_9 (by decide) kf kt) (fun q2 => ?_) (fun q2 => ?_)
    · replace H := H.1 q2
      refine zX_seg (pc' := 17) (L' := [.int p0]) (st' := [.int (1 : Int32)]) (h2 := h) rfl rfl (fun C Cr hc kk => x_iconst C (1 : Int32) (by decide) dX11_isBlank_12 (x_goto C 17 dX11_isBlank_13 (by decide) (kk))) ?_
      exact zX_ret (some (.int (1 : Int32))) (fun C Cr hc => x_iret C Cr rfl rfl hc dX11_isBlank_17 ⟨rfl, rfl⟩) H
    · replace H := H.2 q2
      refine zX_seg (pc' := 17) (L' := [.int p0]) (st' := [.int (0 : Int32)]) (h2 := h) rfl rfl (fun C Cr hc kk => x_iconst C (0 : Int32) (by decide) dX11_isBlank_16 (kk)) ?_
      exact zX_ret (some (.int (0 : Int32))) (fun C Cr hc => x_iret C Cr rfl rfl hc dX11_isBlank_17 ⟨rfl, rfl⟩) H
theorem nX11_isBlank (p0 : Int32) (h : zH) (Q : Option Value → zH → Prop) (H : zX mX11_isBlank 0 [.int p0] [] h Q) : zC mX11_isBlank [.int p0] h Q := zC_of (by decide +kernel) (by simp) (Nat.le_of_ble_eq_true rfl) H
set_option maxHeartbeats 20000000 in
theorem bX11_isLetter_0 (p0 : Int32) (h : zH) (Q : Option Value → zH → Prop) (H : (p0 < (97 : Int32) → (Q (some (.int (0 : Int32))) h)) ∧ (¬ (p0 < (97 : Int32)) → (((122 : Int32) < p0 → (Q (some (.int (0 : Int32))) h)) ∧ (¬ ((122 : Int32) < p0) → (Q (some (.int (1 : Int32))) h))))) : zX mX11_isLetter 0 [.int p0] [] h Q := by
  refine zX_seg (pc' := 3) (L' := [.int p0]) (st' := [.int (97 : Int32), .int p0]) (h2 := h) rfl rfl (fun C Cr hc kk => x_iload_n C rfl dX11_isLetter_0 (x_bipush C (97 : Int32) (by decide) dX11_isLetter_1 (kk))) ?_
  refine zX_br (p1 := 16) (p2 := 6) (st' := []) (p0 < (97 : Int32)) (fun C kt kf => x_icmp_lt C 16 dX11_isLetter_3 (by decide) kt kf) (fun q1 => ?_) (fun q1 => ?_)
  · replace H := H.1 q1
    refine zX_seg (pc' := 17) (L' := [.int p0]) (st' := [.int (0 : Int32)]) (h2 := h) rfl rfl (fun C Cr hc kk => x_iconst C (0 : Int32) (by decide) dX11_isLetter_16 (kk)) ?_
    exact zX_ret (some (.int (0 : Int32))) (fun C Cr hc => x_iret C Cr rfl rfl hc dX11_isLetter_17 ⟨rfl, rfl⟩) H
  · replace H := H.2 q1
    refine zX_seg (pc' := 9) (L' := [.int p0]) (st' := [.int (122 : Int32), .int p0]) (h2 := h) rfl rfl (fun C Cr hc kk => x_iload_n C rfl dX11_isLetter_6 (x_bipush C (122 : Int32) (by decide) dX11_isLetter_7 (kk))) ?_
    refine zX_br (p1 := 16) (p2 := 12) (st' := []) ((122 : Int32) < p0) (fun C kt kf => x_icmp_gt C 16 dX11_isLetter_9 (by decide) kt kf) (fun q2 => ?_) (fun q2 => ?_)
    · replace H := H.1 q2
      refine zX_seg (pc' := 17) (L' := [.int p0]) (st' := [.int (0 : Int32)]) (h2 := h) rfl rfl (fun C Cr hc kk => x_iconst C (0 : Int32) (by decide) dX11_isLetter_16 (kk)) ?_
      exact zX_ret (some (.int (0 : Int32))) (fun C Cr hc => x_iret C Cr rfl rfl hc dX11_isLetter_17 ⟨rfl, rfl⟩) H
    · replace H := H.2 q2
      refine zX_seg (pc' := 17) (L' := [.int p0]) (st' := [.int (1 : Int32)]) (h2 := h) rfl rfl (fun C Cr hc kk => x_iconst C (1 : Int32) (by decide) dX11_isLetter_12 (x_goto C 17 dX11_isLetter_13 (by decide) (kk))) ?_
      exact zX_ret (some (.int (1 : Int32))) (fun C Cr hc => x_iret C Cr rfl rfl hc dX11_isLetter_17 ⟨rfl, rfl⟩) H
theorem nX11_isLetter (p0 : Int32) (h : zH) (Q : Option Value → zH → Prop) (H : zX mX11_isLetter 0 [.int p0] [] h Q) : zC mX11_isLetter [.int p0] h Q := zC_of (by decide +kernel) (by simp) (Nat.le_of_ble_eq_true rfl) H
set_option maxHeartbeats 20000000 in
theorem bX11_isDigit_0 (p0 : Int32) (h : zH) (Q : Option Value → zH → Prop) (H : (p0 < (48 : Int32) → (Q (some (.int (0 : Int32))) h)) ∧ (¬ (p0 < (48 : Int32)) → (((57 : Int32) < p0 → (Q (some (.int (0 : Int32))) h)) ∧ (¬ ((57 : Int32) < p0) → (Q (some (.int (1 : Int32))) h))))) : zX mX11_isDigit 0 [.int p0] [] h Q := by
  refine zX_seg (pc' := 3) (L' := [.int p0]) (st' := [.int (48 : Int32), .int p0]) (h2 := h) rfl rfl (fun C Cr hc kk => x_iload_n C rfl dX11_isDigit_0 (x_bipush C (48 : Int32) (by decide) dX11_isDigit_1 (kk))) ?_
  refine zX_br (p1 := 16) (p2 := 6) (st' := []) (p0 < (48 : Int32)) (fun C kt kf => x_icmp_lt C 16 dX11_isDigit_3 (by decide) kt kf) (fun q1 => ?_) (fun q1 => ?_)
  · replace H := H.1 q1
    refine zX_seg (pc' := 17) (L' := [.int p0]) (st' := [.int (0 : Int32)]) (h2 := h) rfl rfl (fun C Cr hc kk => x_iconst C (0 : Int32) (by decide) dX11_isDigit_16 (kk)) ?_
    exact zX_ret (some (.int (0 : Int32))) (fun C Cr hc => x_iret C Cr rfl rfl hc dX11_isDigit_17 ⟨rfl, rfl⟩) H
  · replace H := H.2 q1
    refine zX_seg (pc' := 9) (L' := [.int p0]) (st' := [.int (57 : Int32), .int p0]) (h2 := h) rfl rfl (fun C Cr hc kk => x_iload_n C rfl dX11_isDigit_6 (x_bipush C (57 : Int32) (by decide) dX11_isDigit_7 (kk))) ?_
    refine zX_br (p1 := 16) (p2 := 12) (st' := []) ((57 : Int32) < p0) (fun C kt kf => x_icmp_gt C 16 dX11_isDigit_9 (by decide) kt kf) (fun q2 => ?_) (fun q2 => ?_)
    · replace H := H.1 q2
      refine zX_seg (pc' := 17) (L' := [.int p0]) (st' := [.int (0 : Int32)]) (h2 := h) rfl rfl (fun C Cr hc kk => x_iconst C (0 : Int32) (by decide) dX11_isDigit_16 (kk)) ?_
      exact zX_ret (some (.int (0 : Int32))) (fun C Cr hc => x_iret C Cr rfl rfl hc dX11_isDigit_17 ⟨rfl, rfl⟩) H
    · replace H := H.2 q2
      refine zX_seg (pc' := 17) (L' := [.int p0]) (st' := [.int (1 : Int32)]) (h2 := h) rfl rfl (fun C Cr hc kk => x_iconst C (1 : Int32) (by decide) dX11_isDigit_12 (x_goto C 17 dX11_isDigit_13 (by decide) (kk))) ?_
      exact zX_ret (some (.int (1 : Int32))) (fun C Cr hc => x_iret C Cr rfl rfl hc dX11_isDigit_17 ⟨rfl, rfl⟩) H
theorem nX11_isDigit (p0 : Int32) (h : zH) (Q : Option Value → zH → Prop) (H : zX mX11_isDigit 0 [.int p0] [] h Q) : zC mX11_isDigit [.int p0] h Q := zC_of (by decide +kernel) (by simp) (Nat.le_of_ble_eq_true rfl) H
